section
/-! OUR WORLD: a side (class or reference) is a fixed row of cells; a heap of numbers tells what they hold -/
abbrev tr_H : Type := (Nat → Nat → Int32) × (Nat → Nat → Int64)
def tr_sa (h : tr_H) (i : Nat) (f : Nat → Int32) : tr_H := (fun a => if a = i then f else h.1 a, h.2)
def tr_sb (h : tr_H) (i : Nat) (g : Nat → Int64) : tr_H := (h.1, fun a => if a = i then g else h.2 a)
def tr_si (h : tr_H) (i k : Nat) (v : Int32) : tr_H := tr_sa h i (upd (h.1 i) k v)
def tr_sl (h : tr_H) (i k : Nat) (v : Int64) : tr_H := tr_sb h i (vp_updL (h.2 i) k v)
def tr_f0 (k : Nat) : Int32 := ([0, 60, 30, 20, 15, 12, 10] : List Int32).getD k 0
def tr_f1 (k : Nat) : Int32 := ([1, 1, 2, 6, 24, 120, 720] : List Int32).getD k 0
def tr_f2 (k : Nat) : Int64 := ([1, 10000, 100000000, 1000000000000, 10000000000000000] : List Int64).getD k 0
def tr_max (x y : Int32) : Int32 := if x < y then y else x
def tr_min (x y : Int32) : Int32 := if y < x then y else x
def tr_cp (h : tr_H) (i j : Nat) : tr_H := tr_sa h j (va_cpy (h.1 i) (h.1 j) 0 0 36)
/-! the pure side: what a method does, as a partial function -/
def tr_ok {α : Type} (o : Option α) (P : α → Prop) : Prop := ∃ a, o = some a ∧ P a
def tr_bd {α β : Type} (e : α) (f : α → β) : β := f e
def tr_bn {α β : Type} (o : Option α) (f : α → Option β) : Option β := o.bind f
def tr_gd {α : Type} (i : Int32) (n : Nat) (o : Option α) : Option α := if i < 0 ∨ n ≤ i.toNatClampNeg then none else o
def tr_nz {α : Type} (y : Int32) (o : Option α) : Option α := if y = 0 then none else o
def tr_nzl {α : Type} (y : Int64) (o : Option α) : Option α := if y = 0 then none else o
def tr_zb {α : Type} (v : Int32) (o : Option α) : Option α := if v = 0 ∨ v = 1 then o else none
def tr_it {σ ρ : Type} (f : σ → Option (σ ⊕ ρ)) : Nat → σ → Option ρ
  | 0, _ => none
  | n + 1, s => (f s).bind fun q => match q with
    | .inl s' => tr_it f n s'
    | .inr r => some r
theorem tr_it_up {σ ρ : Type} {f : σ → Option (σ ⊕ ρ)} : ∀ (n k : Nat) (s : σ) (r : ρ), tr_it f n s = some r → tr_it f (n + k) s = some r := by
  intro n
  induction n with
  | zero => intro k s r h; cases h
  | succ n ih =>
    intro k s r h
    rw [show n + 1 + k = (n + k) + 1 by omega]
    unfold tr_it at h ⊢
    cases hf : f s with
    | none => rw [hf] at h; cases h
    | some q =>
      rw [hf] at h
      cases q with
      | inl s' => exact ih k s' r h
      | inr r' => exact h
theorem tr_it_one {σ ρ : Type} {f : σ → Option (σ ⊕ ρ)} {n k : Nat} {s : σ} {r r' : ρ} (h : tr_it f n s = some r) (h' : tr_it f k s = some r') : r = r' := by
  have a := tr_it_up n k s r h
  have b := tr_it_up k n s r' h'
  rw [Nat.add_comm] at b
  exact Option.some.inj (a.symm.trans b)
noncomputable def tr_lp {σ ρ : Type} (f : σ → Option (σ ⊕ ρ)) (s : σ) : Option ρ :=
  @dite _ (∃ r, ∃ n, tr_it f n s = some r) (Classical.propDecidable _) (fun h => some (Classical.choose h)) (fun _ => none)
theorem tr_lp_iff {σ ρ : Type} {f : σ → Option (σ ⊕ ρ)} {s : σ} {r : ρ} : tr_lp f s = some r ↔ ∃ n, tr_it f n s = some r := by
  unfold tr_lp
  by_cases h : ∃ r, ∃ n, tr_it f n s = some r
  · rw [dif_pos h]
    obtain ⟨n, hn⟩ := Classical.choose_spec h
    refine ⟨fun e => ⟨n, by rw [hn]; exact e⟩, fun ⟨k, hk⟩ => by rw [tr_it_one hn hk]⟩
  · rw [dif_neg h]
    refine ⟨fun e => (by cases e), fun hk => absurd ⟨r, hk⟩ h⟩
theorem tr_lp_eq {σ ρ : Type} (f : σ → Option (σ ⊕ ρ)) (s : σ) : tr_lp f s = (f s).bind fun q => match q with
    | .inl s' => tr_lp f s'
    | .inr r => some r := by
  apply Option.ext
  intro r
  rw [tr_lp_iff]
  constructor
  · rintro ⟨n, hn⟩
    cases n with
    | zero => cases hn
    | succ n =>
      unfold tr_it at hn
      cases hf : f s with
      | none => rw [hf] at hn; cases hn
      | some q =>
        rw [hf] at hn
        cases q with
        | inl s' => exact tr_lp_iff.mpr ⟨n, hn⟩
        | inr r' => exact hn
  · intro h
    cases hf : f s with
    | none => rw [hf] at h; cases h
    | some q =>
      rw [hf] at h
      cases q with
      | inl s' =>
        obtain ⟨n, hn⟩ := tr_lp_iff.mp h
        refine ⟨n + 1, ?_⟩
        unfold tr_it
        rw [hf]
        exact hn
      | inr r' =>
        refine ⟨1, ?_⟩
        unfold tr_it
        rw [hf]
        exact h
theorem tr_okS {α : Type} {a : α} {P : α → Prop} (h : tr_ok (some a) P) : P a := by
  obtain ⟨b, hb, hP⟩ := h
  cases hb
  exact hP
theorem tr_ift {α : Type} {c : Prop} [Decidable c] {A B : Option α} {P : α → Prop} (h : tr_ok (if c then A else B) P) (hc : c) : tr_ok A P := by rwa [if_pos hc] at h
theorem tr_iff {α : Type} {c : Prop} [Decidable c] {A B : Option α} {P : α → Prop} (h : tr_ok (if c then A else B) P) (hc : ¬ c) : tr_ok B P := by rwa [if_neg hc] at h
theorem tr_okg {α : Type} {i : Int32} {n : Nat} {o : Option α} {P : α → Prop} (h : tr_ok (tr_gd i n o) P) : vp_in i n ∧ tr_ok o P := by
  unfold tr_gd at h
  by_cases hc : i < 0 ∨ n ≤ i.toNatClampNeg
  · rw [if_pos hc] at h; obtain ⟨a, ha, -⟩ := h; cases ha
  · rw [if_neg hc] at h; exact ⟨hc, h⟩
theorem tr_okn {α : Type} {y : Int32} {o : Option α} {P : α → Prop} (h : tr_ok (tr_nz y o) P) : ¬ y = 0 ∧ tr_ok o P := by
  unfold tr_nz at h
  by_cases hc : y = 0
  · rw [if_pos hc] at h; obtain ⟨a, ha, -⟩ := h; cases ha
  · rw [if_neg hc] at h; exact ⟨hc, h⟩
theorem tr_oknl {α : Type} {y : Int64} {o : Option α} {P : α → Prop} (h : tr_ok (tr_nzl y o) P) : ¬ y = 0 ∧ tr_ok o P := by
  unfold tr_nzl at h
  by_cases hc : y = 0
  · rw [if_pos hc] at h; obtain ⟨a, ha, -⟩ := h; cases ha
  · rw [if_neg hc] at h; exact ⟨hc, h⟩
theorem tr_okz {α : Type} {v : Int32} {o : Option α} {P : α → Prop} (h : tr_ok (tr_zb v o) P) : narrow .boolean (.int v) = .int v ∧ tr_ok o P := by
  unfold tr_zb at h
  by_cases hc : v = 0 ∨ v = 1
  · rw [if_pos hc] at h
    refine ⟨?_, h⟩
    rcases hc with rfl | rfl <;> rfl
  · rw [if_neg hc] at h; obtain ⟨a, ha, -⟩ := h; cases ha
theorem tr_okb {α β : Type} {o : Option α} {f : α → Option β} {P : β → Prop} (h : tr_ok (tr_bn o f) P) : ∃ a, o = some a ∧ tr_ok (f a) P := by
  obtain ⟨b, hb, hP⟩ := h
  unfold tr_bn at hb
  cases ho : o with
  | none => rw [ho] at hb; cases hb
  | some a => rw [ho] at hb; exact ⟨a, rfl, b, hb, hP⟩
theorem tr_okd {α β : Type} {e : α} {f : α → Option β} {P : β → Prop} (h : tr_ok (tr_bd e f) P) : ∃ x, x = e ∧ tr_ok (f x) P := ⟨e, rfl, h⟩
theorem tr_loop {σ ρ α : Type} {f : σ → Option (σ ⊕ ρ)} {s0 : σ} {cont : ρ → Option α} {P : α → Prop} (G : σ → Prop) (hk : tr_ok (tr_bn (tr_lp f s0) cont) P)
    (step : ∀ (P1 : σ ⊕ ρ → Prop), (∀ s', P1 (.inl s') → G s') → (∀ r, P1 (.inr r) → tr_ok (cont r) P) → ∀ s, tr_ok (f s) P1 → G s) : G s0 := by
  obtain ⟨r, hr, hP⟩ := tr_okb hk
  obtain ⟨n, hn⟩ := tr_lp_iff.mp hr
  clear hk hr
  induction n generalizing s0 with
  | zero => cases hn
  | succ n ih =>
    unfold tr_it at hn
    cases hf : f s0 with
    | none => rw [hf] at hn; cases hn
    | some q =>
      rw [hf] at hn
      refine step (fun q' => q' = q) ?_ ?_ s0 ⟨q, hf, rfl⟩
      · intro s' e
        subst e
        exact ih hn
      · intro r' e
        subst e
        cases hn
        exact hP
def tr_b2 {α β γ : Type} (o : Option (α × β)) (f : α → β → Option γ) : Option γ := o.bind fun q => f q.1 q.2
theorem tr_okb2 {α β γ : Type} {o : Option (α × β)} {f : α → β → Option γ} {P : γ → Prop} (h : tr_ok (tr_b2 o f) P) : ∃ a b, o = some (a, b) ∧ tr_ok (f a b) P := by
  obtain ⟨c, hc, hP⟩ := h
  unfold tr_b2 at hc
  cases ho : o with
  | none => rw [ho] at hc; cases hc
  | some q => rw [ho] at hc; exact ⟨q.1, q.2, rfl, c, hc, hP⟩
end
section
noncomputable def f_J7_fill_53178_E20 (th2 : tr_H) : Option tr_H :=
  some th2
noncomputable def f_J7_fill_53178_L5 (tv1 : Int32) (tj1 : Nat) (tn1 : Nat) (tv901 : Int32) (tv3 : Int32) (th4 : tr_H) : Option ((Int32 × tr_H) ⊕ tr_H) :=
  if tv1 ≤ tv3 then
  (some (.inr th4))
  else
  (tr_gd tv3 tj1 <|
  tr_bd (tr_si th4 tn1 tv3.toNatClampNeg tv901) fun th7 =>
  tr_bd (tv3 + 1) fun tv8 =>
  some (.inl (tv8, th7)))
noncomputable def f_J7_fill_53178 (tn1 : Nat) (tj1 : Nat) (tv901 : Int32) (h : tr_H) : Option tr_H :=
  tr_bd (Int32.ofNat tj1) fun tv1 =>
  tr_bn (tr_lp (fun q => f_J7_fill_53178_L5 tv1 tj1 tn1 tv901 q.1 q.2) (0, h)) (fun q => f_J7_fill_53178_E20 q)
noncomputable def f_X2_of (tn0 : Nat) (tv900 : Int32) (tv901 : Int32) (h : tr_H) : Option Int32 :=
  if tv900 < 0 then
  (some (-9))
  else
  (if (h.1 tn0 1) ≤ tv900 then
  (some (-9))
  else
  (if tv901 < 0 then
  (some (-9))
  else
  (if tv901 < (h.1 tn0 1) then
  (tr_bd ((tv900 * 6) + tv901) fun tv5 =>
  tr_gd tv5 36 <|
  some (h.1 (tn0 + 1) tv5.toNatClampNeg))
  else
  (some (-9)))))
noncomputable def f_X0_settle_E114 (th4 : tr_H) : Option tr_H :=
  some th4
noncomputable def f_X0_settle_E108 (tv5 : Int32) (th8 : tr_H) : Option ((Int32 × tr_H) ⊕ tr_H) :=
  tr_bd (tv5 + 1) fun tv9 =>
  some (.inl (tv9, th8))
noncomputable def f_X0_settle_E102 (tv10 : Int32) (th13 : tr_H) : Option ((Int32 × tr_H) ⊕ tr_H) :=
  tr_bd (tv10 + 1) fun tv14 =>
  some (.inl (tv14, th13))
noncomputable def f_X0_settle_L38 (tn1 : Nat) (tv10 : Int32) (tv15 : Int32) (th16 : tr_H) : Option ((Int32 × tr_H) ⊕ tr_H) :=
  if (th16.1 tn1 1) ≤ tv15 then
  (some (.inr th16))
  else
  (tr_bn (f_X2_of tn1 tv10 tv15 th16) fun tv19 =>
  if tv19 = (-9) then
  (tr_bd (tv15 + 1) fun tv21 =>
  some (.inl (tv21, th16)))
  else
  (tr_gd tv15 6 <|
  tr_gd tv10 6 <|
  tr_gd tv15 6 <|
  tr_bd (tr_si th16 25 tv15.toNatClampNeg (tr_max (th16.1 25 tv15.toNatClampNeg) (((th16.1 25 tv10.toNatClampNeg) + tv19) - (th16.1 24 2)))) fun th25 =>
  tr_bd (tv15 + 1) fun tv26 =>
  some (.inl (tv26, th25))))
noncomputable def f_X0_settle_L26 (tn1 : Nat) (tv10 : Int32) (th11 : tr_H) : Option ((Int32 × tr_H) ⊕ tr_H) :=
  if (th11.1 tn1 1) ≤ tv10 then
  (some (.inr th11))
  else
  (tr_bn (tr_lp (fun q => f_X0_settle_L38 tn1 tv10 q.1 q.2) (0, th11)) (fun q => f_X0_settle_E102 tv10 q))
noncomputable def f_X0_settle_L15 (tn1 : Nat) (tv5 : Int32) (th6 : tr_H) : Option ((Int32 × tr_H) ⊕ tr_H) :=
  if (th6.1 tn1 1) ≤ tv5 then
  (some (.inr th6))
  else
  (tr_bn (tr_lp (fun q => f_X0_settle_L26 tn1 q.1 q.2) (0, th6)) (fun q => f_X0_settle_E108 tv5 q))
noncomputable def f_X0_settle (tn1 : Nat) (tv901 : Int32) (h : tr_H) : Option tr_H :=
  tr_bd (tr_si h 24 2 tv901) fun th1 =>
  tr_bn (f_J7_fill_53178 25 6 0 th1) fun th3 =>
  tr_bn (tr_lp (fun q => f_X0_settle_L15 tn1 q.1 q.2) (0, th3)) (fun q => f_X0_settle_E114 q)
noncomputable def f_X0_timeOf (tv900 : Int32) (h : tr_H) : Option Int32 :=
  if tv900 < 0 then
  (some 0)
  else
  (if 6 ≤ tv900 then
  (some 0)
  else
  (tr_gd tv900 6 <|
  some (h.1 25 tv900.toNatClampNeg)))
noncomputable def f_X0_spareOf (tn1 : Nat) (tv901 : Int32) (tv902 : Int32) (h : tr_H) : Option Int32 :=
  tr_bn (f_X0_timeOf tv902 h) fun tv2 =>
  tr_bn (f_X0_timeOf tv901 h) fun tv4 =>
  tr_bn (f_X2_of tn1 tv901 tv902 h) fun tv6 =>
  some (((tv2 + (h.1 24 2)) - tv4) - tv6)
noncomputable def f_X0_leastSpare_E73 (tv1 : Int32) : Option Int32 :=
  some tv1
noncomputable def f_X0_leastSpare_L7 (h : tr_H) (tn1 : Nat) (tv901 : Int32) (tv902 : Int32) (tv2 : Int32) (tv3 : Int32) : Option ((Int32 × Int32) ⊕ Int32) :=
  if (h.1 tn1 1) ≤ tv3 then
  (some (.inr tv2))
  else
  (tr_bd ((tv901 * 6) + tv3) fun tv5 =>
  tr_gd tv5 246 <|
  tr_bd (h.1 26 tv5.toNatClampNeg) fun tv7 =>
  if tv7 = 1000000 then
  (tr_bd (tv3 + 1) fun tv9 =>
  some (.inl (tv2, tv9)))
  else
  (tr_bn (f_X2_of tn1 tv3 tv902 h) fun tv11 =>
  if tv11 = (-9) then
  (tr_bd (tv3 + 1) fun tv13 =>
  some (.inl (tv2, tv13)))
  else
  (tr_bn (f_X0_spareOf tn1 tv3 tv902 h) fun tv15 =>
  tr_bd (tr_min tv2 (tv7 + tv15)) fun tv16 =>
  tr_bd (tv3 + 1) fun tv17 =>
  some (.inl (tv16, tv17)))))
noncomputable def f_X0_leastSpare (tn1 : Nat) (tv901 : Int32) (tv902 : Int32) (h : tr_H) : Option Int32 :=
  tr_bn (tr_lp (fun q => f_X0_leastSpare_L7 h tn1 tv901 tv902 q.1 q.2) (1000000, 0)) (fun q => f_X0_leastSpare_E73 q)
noncomputable def f_X0_spread_E101 (th2 : tr_H) : Option tr_H :=
  some th2
noncomputable def f_X0_spread_E95 (tv3 : Int32) (th7 : tr_H) : Option ((Int32 × tr_H) ⊕ tr_H) :=
  tr_bd (tv3 + 1) fun tv8 =>
  some (.inl (tv8, th7))
noncomputable def f_X0_spread_L56 (tn1 : Nat) (tv3 : Int32) (tv9 : Int32) (th10 : tr_H) : Option ((Int32 × tr_H) ⊕ tr_H) :=
  if (th10.1 tn1 1) ≤ tv9 then
  (some (.inr th10))
  else
  (tr_bn (f_X0_leastSpare tn1 (tv3 - 1) tv9 th10) fun tv13 =>
  tr_bd ((tv3 * 6) + tv9) fun tv14 =>
  tr_gd tv14 246 <|
  tr_bd (tr_si th10 26 tv14.toNatClampNeg tv13) fun th16 =>
  tr_bd (tv9 + 1) fun tv17 =>
  some (.inl (tv17, th16)))
noncomputable def f_X0_spread_L40 (tv902 : Int32) (tn1 : Nat) (tv3 : Int32) (th4 : tr_H) : Option ((Int32 × tr_H) ⊕ tr_H) :=
  if tv902 < tv3 then
  (some (.inr th4))
  else
  (if 40 < tv3 then
  (some (.inr th4))
  else
  (tr_bn (tr_lp (fun q => f_X0_spread_L56 tn1 tv3 q.1 q.2) (0, th4)) (fun q => f_X0_spread_E95 tv3 q)))
noncomputable def f_X0_spread_E37 (tv902 : Int32) (tn1 : Nat) (th1 : tr_H) : Option tr_H :=
  tr_bn (tr_lp (fun q => f_X0_spread_L40 tv902 tn1 q.1 q.2) (1, th1)) (fun q => f_X0_spread_E101 q)
noncomputable def f_X0_spread_L3 (tn1 : Nat) (tv901 : Int32) (tv18 : Int32) (th19 : tr_H) : Option ((Int32 × tr_H) ⊕ tr_H) :=
  if (th19.1 tn1 1) ≤ tv18 then
  (some (.inr th19))
  else
  (if tv18 = tv901 then
  (tr_gd tv18 246 <|
  tr_bd (tr_si th19 26 tv18.toNatClampNeg 0) fun th26 =>
  tr_bd (tv18 + 1) fun tv27 =>
  some (.inl (tv27, th26)))
  else
  (tr_gd tv18 246 <|
  tr_bd (tr_si th19 26 tv18.toNatClampNeg 1000000) fun th23 =>
  tr_bd (tv18 + 1) fun tv24 =>
  some (.inl (tv24, th23))))
noncomputable def f_X0_spread (tn1 : Nat) (tv901 : Int32) (tv902 : Int32) (h : tr_H) : Option tr_H :=
  tr_bn (tr_lp (fun q => f_X0_spread_L3 tn1 tv901 q.1 q.2) (0, h)) (fun q => f_X0_spread_E37 tv902 tn1 q)
noncomputable def f_X0_lateness (tv900 : Int32) (tv901 : Int32) (tv902 : Int32) (h : tr_H) : Option Int32 :=
  if tv901 < 0 then
  (some 0)
  else
  (if 6 ≤ tv901 then
  (some 0)
  else
  (if tv902 < 0 then
  (some 0)
  else
  (if tv902 ≤ 40 then
  (tr_bd ((tv902 * 6) + tv901) fun tv5 =>
  tr_gd tv5 246 <|
  some (tr_max 0 (tv900 - (h.1 26 tv5.toNatClampNeg))))
  else
  (some 0))))
noncomputable def f_X0_firstQuietRound_E54 : Option Int32 :=
  some (-9)
noncomputable def f_X0_firstQuietRound_E41 (tv1 : Int32) (tv3 : Int32) : Option (Int32 ⊕ (Unit ⊕ Int32)) :=
  if tv3 = 0 then
  (some (.inr (.inr tv1)))
  else
  (tr_bd (tv1 + 1) fun tv5 =>
  some (.inl tv5))
noncomputable def f_X0_firstQuietRound_L14 (tv901 : Int32) (tv900 : Int32) (tv1 : Int32) (h : tr_H) (tv6 : Int32) (tv7 : Int32) : Option ((Int32 × Int32) ⊕ Int32) :=
  if tv901 ≤ tv7 then
  (some (.inr tv6))
  else
  (tr_bn (f_X0_lateness tv900 tv7 tv1 h) fun tv10 =>
  tr_bd (tr_max tv6 tv10) fun tv11 =>
  tr_bd (tv7 + 1) fun tv12 =>
  some (.inl (tv11, tv12)))
noncomputable def f_X0_firstQuietRound_L2 (tv901 : Int32) (tv900 : Int32) (h : tr_H) (tv1 : Int32) : Option (Int32 ⊕ (Unit ⊕ Int32)) :=
  if 40 < tv1 then
  (some (.inr (.inl ())))
  else
  (tr_bn (tr_lp (fun q => f_X0_firstQuietRound_L14 tv901 tv900 tv1 h q.1 q.2) (0, 0)) (fun q => f_X0_firstQuietRound_E41 tv1 q))
noncomputable def f_X0_firstQuietRound (tv900 : Int32) (tv901 : Int32) (h : tr_H) : Option Int32 :=
  tr_bn (tr_lp (fun q => f_X0_firstQuietRound_L2 tv901 tv900 h q) 1) (fun q => Sum.elim (fun _ => f_X0_firstQuietRound_E54) (fun x => some x) q)
noncomputable def f_X1_forget (h : tr_H) : Option tr_H :=
  tr_bd (tr_si h 13 3 0) fun th1 =>
  some th1
noncomputable def f_X1_forgetFirst_E56 (th1 : tr_H) : Option tr_H :=
  tr_bd (tr_si th1 13 3 13) fun th2 =>
  some th2
noncomputable def f_X1_forgetFirst_L2 (tv3 : Int32) (th4 : tr_H) : Option ((Int32 × tr_H) ⊕ tr_H) :=
  if 14 ≤ tv3 then
  (some (.inr th4))
  else
  (tr_gd tv3 14 <|
  tr_bd (tv3 - 1) fun tv7 =>
  tr_gd tv7 14 <|
  tr_bd (tr_si th4 14 tv7.toNatClampNeg (th4.1 14 tv3.toNatClampNeg)) fun th9 =>
  tr_gd tv3 14 <|
  tr_bd (tv3 - 1) fun tv11 =>
  tr_gd tv11 14 <|
  tr_bd (tr_si th9 15 tv11.toNatClampNeg (th9.1 15 tv3.toNatClampNeg)) fun th13 =>
  tr_gd tv3 14 <|
  tr_bd (tv3 - 1) fun tv15 =>
  tr_gd tv15 14 <|
  tr_bd (tr_si th13 16 tv15.toNatClampNeg (th13.1 16 tv3.toNatClampNeg)) fun th17 =>
  tr_bd (tv3 + 1) fun tv18 =>
  some (.inl (tv18, th17)))
noncomputable def f_X1_forgetFirst (h : tr_H) : Option tr_H :=
  tr_bn (tr_lp (fun q => f_X1_forgetFirst_L2 q.1 q.2) (1, h)) (fun q => f_X1_forgetFirst_E56 q)
noncomputable def f_X1_add_J13 (tv900 : Int32) (tv901 : Int32) (tv902 : Int32) (th1 : tr_H) : Option tr_H :=
  if (th1.1 13 3) < 0 then
  (some th1)
  else
  (if (th1.1 13 3) < 14 then
  (tr_bd (th1.1 13 3) fun tv4 =>
  tr_gd tv4 14 <|
  tr_bd (tr_si th1 14 tv4.toNatClampNeg tv900) fun th6 =>
  tr_bd (th6.1 13 3) fun tv7 =>
  tr_gd tv7 14 <|
  tr_bd (tr_si th6 15 tv7.toNatClampNeg tv901) fun th9 =>
  tr_bd (th9.1 13 3) fun tv10 =>
  tr_gd tv10 14 <|
  tr_bd (tr_si th9 16 tv10.toNatClampNeg tv902) fun th12 =>
  tr_bd (tr_si th12 13 3 ((th12.1 13 3) + 1)) fun th13 =>
  some th13)
  else
  (some th1))
noncomputable def f_X1_add (tv900 : Int32) (tv901 : Int32) (tv902 : Int32) (h : tr_H) : Option tr_H :=
  if (h.1 13 3) < 14 then
  (f_X1_add_J13 tv900 tv901 tv902 h)
  else
  (tr_bn (f_X1_forgetFirst h) fun th16 =>
  f_X1_add_J13 tv900 tv901 tv902 th16)
noncomputable def f_X2_has (tn0 : Nat) (tv900 : Int32) (h : tr_H) : Option Int32 :=
  if tv900 < 0 then
  (some 0)
  else
  (if (h.1 tn0 1) ≤ tv900 then
  (some 0)
  else
  (some 1))
noncomputable def f_X2_lay (tn0 : Nat) (tv900 : Int32) (tv901 : Int32) (tv902 : Int32) (h : tr_H) : Option (Int32 × tr_H) :=
  tr_bn (f_X2_has tn0 tv900 h) fun tv2 =>
  if tv2 = 0 then
  (some (0, h))
  else
  (tr_bn (f_X2_has tn0 tv901 h) fun tv5 =>
  if tv5 = 0 then
  (some (0, h))
  else
  (tr_bd ((tv900 * 6) + tv901) fun tv7 =>
  tr_gd tv7 36 <|
  tr_bd (tr_si h (tn0 + 1) tv7.toNatClampNeg tv902) fun th9 =>
  some (1, th9)))
noncomputable def f_X1_takeBack (tn1 : Nat) (h : tr_H) : Option tr_H :=
  if (h.1 13 3) < 1 then
  (some h)
  else
  (if (h.1 13 3) ≤ 14 then
  (tr_bd (tr_si h 13 3 ((h.1 13 3) - 1)) fun th3 =>
  tr_bd (th3.1 13 3) fun tv4 =>
  tr_gd tv4 14 <|
  tr_bd (th3.1 13 3) fun tv6 =>
  tr_gd tv6 14 <|
  tr_bd (th3.1 13 3) fun tv8 =>
  tr_gd tv8 14 <|
  tr_b2 (f_X2_lay tn1 (th3.1 14 tv4.toNatClampNeg) (th3.1 15 tv6.toNatClampNeg) (th3.1 16 tv8.toNatClampNeg) th3) fun tv11 th12 =>
  some th12)
  else
  (some h))
noncomputable def f_X2_leadsToAll_E29 : Option Int32 :=
  some 1
noncomputable def f_X2_leadsToAll_L2 (h : tr_H) (tn0 : Nat) (tv900 : Int32) (tv1 : Int32) : Option (Int32 ⊕ (Unit ⊕ Int32)) :=
  if (h.1 tn0 1) ≤ tv1 then
  (some (.inr (.inl ())))
  else
  (tr_bn (f_X2_of tn0 tv900 tv1 h) fun tv4 =>
  if tv4 = (-9) then
  (some (.inr (.inr 0)))
  else
  (tr_bd (tv1 + 1) fun tv6 =>
  some (.inl tv6)))
noncomputable def f_X2_leadsToAll (tn0 : Nat) (tv900 : Int32) (h : tr_H) : Option Int32 :=
  tr_bn (tr_lp (fun q => f_X2_leadsToAll_L2 h tn0 tv900 q) 0) (fun q => Sum.elim (fun _ => f_X2_leadsToAll_E29) (fun x => some x) q)
noncomputable def f_X2_waits_E30 (tv1 : Int32) : Option Int32 :=
  some tv1
noncomputable def f_X2_waits_L4 (h : tr_H) (tn0 : Nat) (tv2 : Int32) (tv3 : Int32) : Option ((Int32 × Int32) ⊕ Int32) :=
  if 36 ≤ tv3 then
  (some (.inr tv2))
  else
  (tr_gd tv3 36 <|
  if (h.1 (tn0 + 1) tv3.toNatClampNeg) = (-9) then
  (tr_bd (tv3 + 1) fun tv7 =>
  some (.inl (tv2, tv7)))
  else
  (tr_bd (tv2 + 1) fun tv8 =>
  tr_bd (tv3 + 1) fun tv9 =>
  some (.inl (tv8, tv9))))
noncomputable def f_X2_waits (tn0 : Nat) (h : tr_H) : Option Int32 :=
  tr_bn (tr_lp (fun q => f_X2_waits_L4 h tn0 q.1 q.2) (0, 0)) (fun q => f_X2_waits_E30 q)
noncomputable def f_X2_begin (tn0 : Nat) (tv900 : Int32) (h : tr_H) : Option tr_H :=
  tr_bd (tr_si h tn0 1 (tr_max 1 (tr_min 6 tv900))) fun th1 =>
  tr_bn (f_J7_fill_53178 (tn0 + 1) 36 (-9) th1) fun th3 =>
  some th3
noncomputable def f_X2_copyFrom (tn0 : Nat) (tn1 : Nat) (h : tr_H) : Option tr_H :=
  tr_bd (tr_si h tn0 1 (h.1 tn1 1)) fun th1 =>
  tr_bd (tr_cp th1 (tn1 + 1) (tn0 + 1)) fun th2 =>
  some th2
noncomputable def f_X3_takes (tv900 : Int32) (tv901 : Int32) (tn3 : Nat) (h : tr_H) : Option (Int32 × tr_H) :=
  tr_bd (tv901 - 48) fun tv1 =>
  if tv900 = 0 then
  (if tv901 = 78 then
  (some (1, h))
  else
  (some (0, h)))
  else
  (if tv900 = 1 then
  (tr_bn (f_X2_begin tn3 tv1 h) fun th29 =>
  if tv1 < 1 then
  (some (0, th29))
  else
  (if 6 < tv1 then
  (some (0, th29))
  else
  (some (1, th29))))
  else
  (tr_bd ((tv900 - 2) - (tv900 - 2) / 3 * 3) fun tv4 =>
  if tv4 = 0 then
  (tr_bd (tr_si h 12 0 tv1) fun th6 =>
  if 38 ≤ tv900 then
  (some (0, th6))
  else
  (tr_bn (f_X2_has tn3 (th6.1 12 0) th6) fun tv9 =>
  if tv9 = 0 then
  (some (0, th6))
  else
  (tr_bn (f_X2_leadsToAll tn3 (th6.1 12 0) th6) fun tv12 =>
  if tv12 = 0 then
  (some (1, th6))
  else
  (some (0, th6)))))
  else
  if tv4 = 1 then
  (tr_bd (tr_si h 12 1 tv1) fun th15 =>
  tr_bn (f_X2_has tn3 (th15.1 12 1) th15) fun tv17 =>
  if tv17 = 0 then
  (some (0, th15))
  else
  (tr_bn (f_X2_of tn3 (th15.1 12 0) (th15.1 12 1) th15) fun tv20 =>
  if tv20 = (-9) then
  (some (1, th15))
  else
  (some (0, th15))))
  else
  (if tv1 < 0 then
  (some (0, h))
  else
  (if 9 < tv1 then
  (some (0, h))
  else
  (tr_b2 (f_X2_lay tn3 (h.1 12 0) (h.1 12 1) tv1 h) fun tv25 th26 =>
  if tv25 = 0 then
  (some (0, th26))
  else
  (some (1, th26)))))))
noncomputable def f_X3_read_J62 (tv901 : Int32) (th3 : tr_H) (tv4 : Int32) : Option (Int32 × tr_H) :=
  if tv4 = 0 then
  (some (tv901, th3))
  else
  (some ((-9), th3))
noncomputable def f_X3_read_J61 (tv901 : Int32) (th3 : tr_H) : Option (Int32 × tr_H) :=
  f_X3_read_J62 tv901 th3 0
noncomputable def f_X3_read_E44 (tv901 : Int32) (th3 : tr_H) : Option (Int32 × tr_H) :=
  if tv901 < 2 then
  (f_X3_read_J61 tv901 th3)
  else
  (if ((tv901 - 2) - (tv901 - 2) / 3 * 3) = 0 then
  (f_X3_read_J62 tv901 th3 1)
  else
  (f_X3_read_J61 tv901 th3))
noncomputable def f_X3_read_L8 (tv901 : Int32) (tn3 : Nat) (tv8 : Int32) (th9 : tr_H) : Option ((Int32 × tr_H) ⊕ (tr_H ⊕ (Int32 × tr_H))) :=
  if tv901 ≤ tv8 then
  (some (.inr (.inl th9)))
  else
  (if 64 ≤ tv8 then
  (some (.inr (.inl th9)))
  else
  (tr_gd tv8 64 <|
  tr_b2 (f_X3_takes tv8 (th9.1 1 tv8.toNatClampNeg) tn3 th9) fun tv14 th15 =>
  if tv14 = 0 then
  (some (.inr (.inr (tv8, th15))))
  else
  (tr_bd (tv8 + 1) fun tv17 =>
  some (.inl (tv17, th15)))))
noncomputable def f_X3_read (tv901 : Int32) (tn3 : Nat) (h : tr_H) : Option (Int32 × tr_H) :=
  tr_bn (f_X2_begin tn3 1 h) fun th2 =>
  tr_bn (tr_lp (fun q => f_X3_read_L8 tv901 tn3 q.1 q.2) (0, th2)) (fun q => Sum.elim (fun x => f_X3_read_E44 tv901 x) (fun x => some x) q)
noncomputable def f_X4_lowestOf_E21 (tv1 : Int32) : Option Int32 :=
  some tv1
noncomputable def f_X4_lowestOf_L2 (tv900 : Int32) (tv2 : Int32) : Option (Int32 ⊕ Int32) :=
  if 5 ≤ tv2 then
  (some (.inr tv2))
  else
  (if ((tv900 >>> (tv2 &&& 31)) &&& 1) = 0 then
  (tr_bd (tv2 + 1) fun tv5 =>
  some (.inl tv5))
  else
  (some (.inr tv2)))
noncomputable def f_X4_lowestOf (tv900 : Int32) : Option Int32 :=
  tr_bn (tr_lp (fun q => f_X4_lowestOf_L2 tv900 q) 0) (fun q => f_X4_lowestOf_E21 q)
noncomputable def f_J6_bitCount_0f7a4 (tv900 : Int32) : Option Int32 :=
  tr_bd (tv900 - (((tv900.toUInt32 >>> ((1 : Int32).toUInt32 &&& Int32.toUInt32 31)).toInt32) &&& 1431655765)) fun tv1 =>
  tr_bd ((tv1 &&& 858993459) + (((tv1.toUInt32 >>> ((2 : Int32).toUInt32 &&& Int32.toUInt32 31)).toInt32) &&& 858993459)) fun tv2 =>
  tr_bd ((tv2 + ((tv2.toUInt32 >>> ((4 : Int32).toUInt32 &&& Int32.toUInt32 31)).toInt32)) &&& 252645135) fun tv3 =>
  tr_bd (tv3 + ((tv3.toUInt32 >>> ((8 : Int32).toUInt32 &&& Int32.toUInt32 31)).toInt32)) fun tv4 =>
  tr_bd (tv4 + ((tv4.toUInt32 >>> ((16 : Int32).toUInt32 &&& Int32.toUInt32 31)).toInt32)) fun tv5 =>
  some (tv5 &&& 63)
noncomputable def f_X4_goOn_E188 (th14 : tr_H) : Option tr_H :=
  some th14
noncomputable def f_X4_goOn_L100 (tn1 : Nat) (tv902 : Int32) (tv901 : Int32) (tv3 : Int32) (tv6 : Int32) (tv15 : Int32) (th16 : tr_H) : Option ((Int32 × tr_H) ⊕ tr_H) :=
  if (th16.1 tn1 1) ≤ tv15 then
  (some (.inr th16))
  else
  (tr_bn (f_X2_of tn1 tv902 tv15 th16) fun tv19 =>
  if tv19 = (-9) then
  (tr_bd (tv15 + 1) fun tv21 =>
  some (.inl (tv21, th16)))
  else
  (if ((tv901 >>> (tv15 &&& 31)) &&& 1) = 0 then
  (tr_bd (((tv901 ||| (1 <<< (tv15 &&& 31))) * 6) + tv15) fun tv24 =>
  tr_gd tv24 384 <|
  tr_gd tv24 384 <|
  tr_bd (tr_si th16 28 tv24.toNatClampNeg ((th16.1 28 tv24.toNatClampNeg) + tv3)) fun th27 =>
  tr_gd tv24 384 <|
  tr_gd tv24 384 <|
  tr_bd (tr_si th27 29 tv24.toNatClampNeg (tr_max (th27.1 29 tv24.toNatClampNeg) (tv6 + tv19))) fun th30 =>
  tr_bd (tv15 + 1) fun tv31 =>
  some (.inl (tv31, th30)))
  else
  (tr_bd (tv15 + 1) fun tv23 =>
  some (.inl (tv23, th16)))))
noncomputable def f_X4_goOn_J94 (tv9 : Int32) (tn1 : Nat) (tv902 : Int32) (tv901 : Int32) (tv3 : Int32) (tv6 : Int32) (th12 : tr_H) : Option tr_H :=
  tr_bd (tv9 + 1) fun tv13 =>
  tr_bn (tr_lp (fun q => f_X4_goOn_L100 tn1 tv902 tv901 tv3 tv6 q.1 q.2) (tv13, th12)) (fun q => f_X4_goOn_E188 q)
noncomputable def f_X4_goOn (tn1 : Nat) (tv901 : Int32) (tv902 : Int32) (h : tr_H) : Option tr_H :=
  tr_bd ((tv901 * 6) + tv902) fun tv1 =>
  tr_gd tv1 384 <|
  tr_bd (h.1 28 tv1.toNatClampNeg) fun tv3 =>
  tr_bd ((tv901 * 6) + tv902) fun tv4 =>
  tr_gd tv4 384 <|
  tr_bd (h.1 29 tv4.toNatClampNeg) fun tv6 =>
  if tv3 = 0 then
  (some h)
  else
  (tr_bn (f_X4_lowestOf tv901) fun tv9 =>
  tr_bn (f_X2_of tn1 tv902 tv9 h) fun tv11 =>
  if tv11 = (-9) then
  (f_X4_goOn_J94 tv9 tn1 tv902 tv901 tv3 tv6 h)
  else
  (tr_bd (tr_si h 27 3 ((h.1 27 3) + tv3)) fun th33 =>
  tr_gd tv901 64 <|
  tr_bn (f_J6_bitCount_0f7a4 tv901) fun tv36 =>
  tr_gd tv36 7 <|
  tr_gd tv901 64 <|
  tr_bd (tr_si th33 30 tv901.toNatClampNeg (tr_max (th33.1 30 tv901.toNatClampNeg) ((tv6 + tv11) * (tr_f0 tv36.toNatClampNeg)))) fun th39 =>
  f_X4_goOn_J94 tv9 tn1 tv902 tv901 tv3 tv6 th39))
noncomputable def f_X4_takeWithin_E55 (th1 : tr_H) : Option tr_H :=
  some th1
noncomputable def f_X4_takeWithin_E49 (tv2 : Int32) (th5 : tr_H) : Option ((Int32 × tr_H) ⊕ tr_H) :=
  tr_bd (tv2 + 1) fun tv6 =>
  some (.inl (tv6, th5))
noncomputable def f_X4_takeWithin_L11 (tv900 : Int32) (tv2 : Int32) (tv7 : Int32) (th8 : tr_H) : Option ((Int32 × tr_H) ⊕ tr_H) :=
  if tv900 ≤ tv7 then
  (some (.inr th8))
  else
  (tr_gd tv2 64 <|
  tr_bd (tv2 &&& ((1 <<< (tv7 &&& 31)) ^^^ (-1))) fun tv11 =>
  tr_gd tv11 64 <|
  tr_gd tv2 64 <|
  tr_bd (tr_si th8 30 tv2.toNatClampNeg (tr_max (th8.1 30 tv2.toNatClampNeg) (th8.1 30 tv11.toNatClampNeg))) fun th14 =>
  tr_bd (tv7 + 1) fun tv15 =>
  some (.inl (tv15, th14)))
noncomputable def f_X4_takeWithin_L2 (tv900 : Int32) (tv2 : Int32) (th3 : tr_H) : Option ((Int32 × tr_H) ⊕ tr_H) :=
  if (1 <<< (tv900 &&& 31)) ≤ tv2 then
  (some (.inr th3))
  else
  (tr_bn (tr_lp (fun q => f_X4_takeWithin_L11 tv900 tv2 q.1 q.2) (0, th3)) (fun q => f_X4_takeWithin_E49 tv2 q))
noncomputable def f_X4_takeWithin (tv900 : Int32) (h : tr_H) : Option tr_H :=
  tr_bn (tr_lp (fun q => f_X4_takeWithin_L2 tv900 q.1 q.2) (1, h)) (fun q => f_X4_takeWithin_E55 q)
noncomputable def f_X4_fill_E100 (tn1 : Nat) (th9 : tr_H) : Option tr_H :=
  tr_bn (f_X4_takeWithin (th9.1 tn1 1) th9) fun th11 =>
  some th11
noncomputable def f_X4_fill_E94 (tv12 : Int32) (th15 : tr_H) : Option ((Int32 × tr_H) ⊕ tr_H) :=
  tr_bd (tv12 + 1) fun tv16 =>
  some (.inl (tv16, th15))
noncomputable def f_X4_fill_L73 (tn1 : Nat) (tv12 : Int32) (tv17 : Int32) (th18 : tr_H) : Option ((Int32 × tr_H) ⊕ tr_H) :=
  if (th18.1 tn1 1) ≤ tv17 then
  (some (.inr th18))
  else
  (tr_bn (f_X4_goOn tn1 tv12 tv17 th18) fun th21 =>
  tr_bd (tv17 + 1) fun tv22 =>
  some (.inl (tv22, th21)))
noncomputable def f_X4_fill_L61 (tn1 : Nat) (tv12 : Int32) (th13 : tr_H) : Option ((Int32 × tr_H) ⊕ tr_H) :=
  if (1 <<< ((th13.1 tn1 1) &&& 31)) ≤ tv12 then
  (some (.inr th13))
  else
  (tr_bn (tr_lp (fun q => f_X4_fill_L73 tn1 tv12 q.1 q.2) (0, th13)) (fun q => f_X4_fill_E94 tv12 q))
noncomputable def f_X4_fill_E59 (tn1 : Nat) (th8 : tr_H) : Option tr_H :=
  tr_bn (tr_lp (fun q => f_X4_fill_L61 tn1 q.1 q.2) (1, th8)) (fun q => f_X4_fill_E100 tn1 q)
noncomputable def f_X4_fill_L31 (tn1 : Nat) (tv23 : Int32) (th24 : tr_H) : Option ((Int32 × tr_H) ⊕ tr_H) :=
  if (th24.1 tn1 1) ≤ tv23 then
  (some (.inr th24))
  else
  (tr_bd (((1 <<< (tv23 &&& 31)) * 6) + tv23) fun tv26 =>
  tr_gd tv26 384 <|
  tr_bd (tr_si th24 28 tv26.toNatClampNeg 1) fun th28 =>
  tr_bd (tv23 + 1) fun tv29 =>
  some (.inl (tv29, th28)))
noncomputable def f_X4_fill (tn1 : Nat) (h : tr_H) : Option tr_H :=
  tr_bn (f_J7_fill_53178 28 384 0 h) fun th2 =>
  tr_bn (f_J7_fill_53178 29 384 0 th2) fun th4 =>
  tr_bn (f_J7_fill_53178 30 64 0 th4) fun th6 =>
  tr_bd (tr_si th6 27 3 0) fun th7 =>
  tr_bn (tr_lp (fun q => f_X4_fill_L31 tn1 q.1 q.2) (0, th7)) (fun q => f_X4_fill_E59 tn1 q)
noncomputable def f_X4_added_E79 (tv1 : Int32) : Option Int32 :=
  some tv1
noncomputable def f_X4_added_L5 (tv901 : Int32) (tv900 : Int32) (h : tr_H) (tv2 : Int32) (tv3 : Int32) : Option ((Int32 × Int32) ⊕ Int32) :=
  if (1 <<< (tv901 &&& 31)) ≤ tv3 then
  (some (.inr tv2))
  else
  (if ((tv3 >>> (tv900 &&& 31)) &&& 1) = 0 then
  (tr_bn (f_J6_bitCount_0f7a4 tv3) fun tv8 =>
  tr_gd tv8 7 <|
  tr_bd ((tv901 - 1) - tv8) fun tv10 =>
  tr_gd tv10 7 <|
  tr_bd ((tr_f1 tv8.toNatClampNeg) * (tr_f1 tv10.toNatClampNeg)) fun tv12 =>
  tr_bd (tv3 ||| (1 <<< (tv900 &&& 31))) fun tv13 =>
  tr_gd tv13 64 <|
  tr_gd tv3 64 <|
  tr_bd (tv2 + (tv12 * ((h.1 30 tv13.toNatClampNeg) - (h.1 30 tv3.toNatClampNeg)))) fun tv16 =>
  tr_bd (tv3 + 1) fun tv17 =>
  some (.inl (tv16, tv17)))
  else
  (tr_bd (tv3 + 1) fun tv6 =>
  some (.inl (tv2, tv6))))
noncomputable def f_X4_added (tv900 : Int32) (tv901 : Int32) (h : tr_H) : Option Int32 :=
  tr_bn (tr_lp (fun q => f_X4_added_L5 tv901 tv900 h q.1 q.2) (0, 0)) (fun q => f_X4_added_E79 q)
noncomputable def f_X5_add (tv900 : Int32) (tv901 : Int32) (tv902 : Int32) (h : tr_H) : Option (Int32 × tr_H) :=
  if (h.1 17 3) < 0 then
  (some (0, h))
  else
  (if (h.1 17 3) < 6 then
  (tr_bd (h.1 17 3) fun tv3 =>
  tr_gd tv3 6 <|
  tr_bd (tr_si h 18 tv3.toNatClampNeg tv900) fun th5 =>
  tr_bd (th5.1 17 3) fun tv6 =>
  tr_gd tv6 6 <|
  tr_bd (tr_si th5 19 tv6.toNatClampNeg tv901) fun th8 =>
  tr_bd (th8.1 17 3) fun tv9 =>
  tr_gd tv9 6 <|
  tr_bd (tr_si th8 20 tv9.toNatClampNeg tv902) fun th11 =>
  tr_bd (tr_si th11 17 3 ((th11.1 17 3) + 1)) fun th12 =>
  some (1, th12))
  else
  (some (0, h)))
noncomputable def f_X5_fits_E88 : Option Int32 :=
  some 1
noncomputable def f_X5_fits_J77 (tv5 : Int32) (tv1 : Int32) (tv7 : Int32) : Option (Int32 ⊕ (Unit ⊕ Int32)) :=
  if tv5 = tv7 then
  (tr_bd (tv1 + 1) fun tv9 =>
  some (.inl tv9))
  else
  (some (.inr (.inr 0)))
noncomputable def f_X5_fits_J57 (tv1 : Int32) (h : tr_H) (tv5 : Int32) : Option (Int32 ⊕ (Unit ⊕ Int32)) :=
  tr_gd tv1 6 <|
  if (h.1 20 tv1.toNatClampNeg) = 1 then
  (f_X5_fits_J77 tv5 tv1 1)
  else
  (f_X5_fits_J77 tv5 tv1 0)
noncomputable def f_X5_fits_J56 (tv1 : Int32) (h : tr_H) : Option (Int32 ⊕ (Unit ⊕ Int32)) :=
  f_X5_fits_J57 tv1 h 0
noncomputable def f_X5_fits_L3 (h : tr_H) (tv902 : Int32) (tv901 : Int32) (tv1 : Int32) : Option (Int32 ⊕ (Unit ⊕ Int32)) :=
  if (h.1 17 3) ≤ tv1 then
  (some (.inr (.inl ())))
  else
  (if 6 ≤ tv1 then
  (some (.inr (.inl ())))
  else
  (tr_gd tv1 6 <|
  if tv902 ≤ (h.1 18 tv1.toNatClampNeg) then
  (f_X5_fits_J56 tv1 h)
  else
  (tr_gd tv1 6 <|
  tr_gd tv1 6 <|
  tr_bn (f_X0_lateness tv901 (h.1 18 tv1.toNatClampNeg) (h.1 19 tv1.toNatClampNeg) h) fun tv15 =>
  if tv15 ≤ 0 then
  (f_X5_fits_J56 tv1 h)
  else
  (f_X5_fits_J57 tv1 h 1))))
noncomputable def f_X5_fits (tv901 : Int32) (tv902 : Int32) (h : tr_H) : Option Int32 :=
  tr_bn (tr_lp (fun q => f_X5_fits_L3 h tv902 tv901 q) 0) (fun q => Sum.elim (fun _ => f_X5_fits_E88) (fun x => some x) q)
noncomputable def f_X6_longest_E68 (tv1 : Int32) : Option Int32 :=
  some tv1
noncomputable def f_X6_longest_L6 (h : tr_H) (tn1 : Nat) (tv901 : Int32) (tv902 : Int32) (tv2 : Int32) (tv3 : Int32) : Option ((Int32 × Int32) ⊕ Int32) :=
  if (h.1 tn1 1) ≤ tv3 then
  (some (.inr tv2))
  else
  (tr_bd ((tv901 * 6) + tv3) fun tv5 =>
  tr_gd tv5 42 <|
  tr_bd (h.1 22 tv5.toNatClampNeg) fun tv7 =>
  tr_bn (f_X2_of tn1 tv3 tv902 h) fun tv9 =>
  if tv7 < 0 then
  (tr_bd (tv3 + 1) fun tv11 =>
  some (.inl (tv2, tv11)))
  else
  (if tv9 = (-9) then
  (tr_bd (tv3 + 1) fun tv13 =>
  some (.inl (tv2, tv13)))
  else
  (tr_bd (tr_max tv2 (tv7 + tv9)) fun tv14 =>
  tr_bd (tv3 + 1) fun tv15 =>
  some (.inl (tv14, tv15)))))
noncomputable def f_X6_longest (tn1 : Nat) (tv901 : Int32) (tv902 : Int32) (h : tr_H) : Option Int32 :=
  tr_bn (tr_lp (fun q => f_X6_longest_L6 h tn1 tv901 tv902 q.1 q.2) ((-1), 0)) (fun q => f_X6_longest_E68 q)
noncomputable def f_X6_leastMean_E67 (tv5 : Int32) : Option Int32 :=
  some tv5
noncomputable def f_X6_leastMean_L25 (tv900 : Int32) (tv901 : Int32) (tv3 : Int32) (h : tr_H) (tv6 : Int32) (tv7 : Int32) : Option ((Int32 × Int32) ⊕ Int32) :=
  if tv900 ≤ tv7 then
  (some (.inr tv6))
  else
  (tr_bd ((tv7 * 6) + tv901) fun tv9 =>
  tr_gd tv9 42 <|
  tr_bd (tv900 - tv7) fun tv11 =>
  tr_gd tv11 7 <|
  tr_bd (tr_min tv6 ((tv3 - (h.1 22 tv9.toNatClampNeg)) * (tr_f0 tv11.toNatClampNeg))) fun tv13 =>
  tr_bd (tv7 + 1) fun tv14 =>
  some (.inl (tv13, tv14)))
noncomputable def f_X6_leastMean (tv900 : Int32) (tv901 : Int32) (h : tr_H) : Option Int32 :=
  tr_bd ((tv900 * 6) + tv901) fun tv1 =>
  tr_gd tv1 42 <|
  tr_bd (h.1 22 tv1.toNatClampNeg) fun tv3 =>
  if 0 ≤ tv3 then
  (tr_bn (tr_lp (fun q => f_X6_leastMean_L25 tv900 tv901 tv3 h q.1 q.2) (1000000, 0)) (fun q => f_X6_leastMean_E67 q))
  else
  (some (-1))
noncomputable def f_X6_slowest_E107 (th2 : tr_H) (tv3 : Int32) : Option (Int32 × tr_H) :=
  some (tv3, th2)
noncomputable def f_X6_slowest_L79 (th2 : tr_H) (tn1 : Nat) (tv4 : Int32) (tv5 : Int32) : Option ((Int32 × Int32) ⊕ Int32) :=
  if (th2.1 tn1 1) ≤ tv5 then
  (some (.inr tv4))
  else
  (tr_bn (f_X6_leastMean (th2.1 tn1 1) tv5 th2) fun tv8 =>
  tr_bd (tr_max tv4 tv8) fun tv9 =>
  tr_bd (tv5 + 1) fun tv10 =>
  some (.inl (tv9, tv10)))
noncomputable def f_X6_slowest_E75 (tn1 : Nat) (th2 : tr_H) : Option (Int32 × tr_H) :=
  tr_bn (tr_lp (fun q => f_X6_slowest_L79 th2 tn1 q.1 q.2) ((-1), 0)) (fun q => f_X6_slowest_E107 th2 q)
noncomputable def f_X6_slowest_E69 (tv11 : Int32) (th14 : tr_H) : Option ((Int32 × tr_H) ⊕ tr_H) :=
  tr_bd (tv11 + 1) fun tv15 =>
  some (.inl (tv15, th14))
noncomputable def f_X6_slowest_L35 (tn1 : Nat) (tv11 : Int32) (tv16 : Int32) (th17 : tr_H) : Option ((Int32 × tr_H) ⊕ tr_H) :=
  if (th17.1 tn1 1) ≤ tv16 then
  (some (.inr th17))
  else
  (tr_bn (f_X6_longest tn1 (tv11 - 1) tv16 th17) fun tv20 =>
  tr_bd ((tv11 * 6) + tv16) fun tv21 =>
  tr_gd tv21 42 <|
  tr_bd (tr_si th17 22 tv21.toNatClampNeg tv20) fun th23 =>
  tr_bd (tv16 + 1) fun tv24 =>
  some (.inl (tv24, th23)))
noncomputable def f_X6_slowest_L25 (tn1 : Nat) (tv11 : Int32) (th12 : tr_H) : Option ((Int32 × tr_H) ⊕ tr_H) :=
  if (th12.1 tn1 1) < tv11 then
  (some (.inr th12))
  else
  (tr_bn (tr_lp (fun q => f_X6_slowest_L35 tn1 tv11 q.1 q.2) (0, th12)) (fun q => f_X6_slowest_E69 tv11 q))
noncomputable def f_X6_slowest_E23 (tn1 : Nat) (th1 : tr_H) : Option (Int32 × tr_H) :=
  tr_bn (tr_lp (fun q => f_X6_slowest_L25 tn1 q.1 q.2) (1, th1)) (fun q => f_X6_slowest_E75 tn1 q)
noncomputable def f_X6_slowest_L2 (tn1 : Nat) (tv25 : Int32) (th26 : tr_H) : Option ((Int32 × tr_H) ⊕ tr_H) :=
  if (th26.1 tn1 1) ≤ tv25 then
  (some (.inr th26))
  else
  (tr_gd tv25 42 <|
  tr_bd (tr_si th26 22 tv25.toNatClampNeg 0) fun th29 =>
  tr_bd (tv25 + 1) fun tv30 =>
  some (.inl (tv30, th29)))
noncomputable def f_X6_slowest (tn1 : Nat) (h : tr_H) : Option (Int32 × tr_H) :=
  tr_bn (tr_lp (fun q => f_X6_slowest_L2 tn1 q.1 q.2) (0, h)) (fun q => f_X6_slowest_E23 tn1 q)
noncomputable def f_X6_isKept (tn1 : Nat) (tv901 : Int32) (h : tr_H) : Option (Int32 × tr_H) :=
  tr_b2 (f_X6_slowest tn1 h) fun tv2 th3 =>
  if (60 * tv901) < tv2 then
  (some (0, th3))
  else
  (some (1, th3))
noncomputable def f_X6_gainOf (tn1 : Nat) (tv901 : Int32) (tv902 : Int32) (h : tr_H) : Option Int32 :=
  tr_bn (f_X2_of tn1 tv901 tv902 h) fun tv2 =>
  if tv2 = (-9) then
  (some (-1000000))
  else
  (some ((60 * tv2) - (h.1 21 2)))
noncomputable def f_X6_join (tv900 : Int32) (tv901 : Int32) (tv902 : Int32) (h : tr_H) : Option tr_H :=
  tr_bd ((tv900 * 6) + tv901) fun tv1 =>
  tr_gd tv1 36 <|
  tr_bd (h.1 23 tv1.toNatClampNeg) fun tv3 =>
  tr_bd ((tv901 * 6) + tv902) fun tv4 =>
  tr_gd tv4 36 <|
  tr_bd (h.1 23 tv4.toNatClampNeg) fun tv6 =>
  if tv3 = (-1000000) then
  (some h)
  else
  (if tv6 = (-1000000) then
  (some h)
  else
  (tr_bd ((tv900 * 6) + tv902) fun tv9 =>
  tr_gd tv9 36 <|
  tr_gd tv9 36 <|
  tr_bd (tr_si h 23 tv9.toNatClampNeg (tr_max (h.1 23 tv9.toNatClampNeg) (tv3 + tv6))) fun th12 =>
  some th12))
noncomputable def f_X6_compare_E130 (th6 : tr_H) : Option tr_H :=
  some th6
noncomputable def f_X6_compare_E124 (tv7 : Int32) (th10 : tr_H) : Option ((Int32 × tr_H) ⊕ tr_H) :=
  tr_bd (tv7 + 1) fun tv11 =>
  some (.inl (tv11, th10))
noncomputable def f_X6_compare_E118 (tv12 : Int32) (th15 : tr_H) : Option ((Int32 × tr_H) ⊕ tr_H) :=
  tr_bd (tv12 + 1) fun tv16 =>
  some (.inl (tv16, th15))
noncomputable def f_X6_compare_L95 (tn1 : Nat) (tv12 : Int32) (tv7 : Int32) (tv17 : Int32) (th18 : tr_H) : Option ((Int32 × tr_H) ⊕ tr_H) :=
  if (th18.1 tn1 1) ≤ tv17 then
  (some (.inr th18))
  else
  (tr_bn (f_X6_join tv12 tv7 tv17 th18) fun th21 =>
  tr_bd (tv17 + 1) fun tv22 =>
  some (.inl (tv22, th21)))
noncomputable def f_X6_compare_L84 (tn1 : Nat) (tv7 : Int32) (tv12 : Int32) (th13 : tr_H) : Option ((Int32 × tr_H) ⊕ tr_H) :=
  if (th13.1 tn1 1) ≤ tv12 then
  (some (.inr th13))
  else
  (tr_bn (tr_lp (fun q => f_X6_compare_L95 tn1 tv12 tv7 q.1 q.2) (0, th13)) (fun q => f_X6_compare_E118 tv12 q))
noncomputable def f_X6_compare_L74 (tn1 : Nat) (tv7 : Int32) (th8 : tr_H) : Option ((Int32 × tr_H) ⊕ tr_H) :=
  if (th8.1 tn1 1) ≤ tv7 then
  (some (.inr th8))
  else
  (tr_bn (tr_lp (fun q => f_X6_compare_L84 tn1 tv7 q.1 q.2) (0, th8)) (fun q => f_X6_compare_E124 tv7 q))
noncomputable def f_X6_compare_E72 (tn1 : Nat) (th5 : tr_H) : Option tr_H :=
  tr_bn (tr_lp (fun q => f_X6_compare_L74 tn1 q.1 q.2) (0, th5)) (fun q => f_X6_compare_E130 q)
noncomputable def f_X6_compare_E66 (tv23 : Int32) (th26 : tr_H) : Option ((Int32 × tr_H) ⊕ tr_H) :=
  tr_bd (tv23 + 1) fun tv27 =>
  some (.inl (tv27, th26))
noncomputable def f_X6_compare_L21 (tn1 : Nat) (tv23 : Int32) (tv28 : Int32) (th29 : tr_H) : Option ((Int32 × tr_H) ⊕ tr_H) :=
  if (th29.1 tn1 1) ≤ tv28 then
  (some (.inr th29))
  else
  (if tv23 = tv28 then
  (tr_bd ((tv23 * 6) + tv28) fun tv38 =>
  tr_gd tv38 36 <|
  tr_bd (tr_si th29 23 tv38.toNatClampNeg 0) fun th40 =>
  tr_bd (tv28 + 1) fun tv41 =>
  some (.inl (tv41, th40)))
  else
  (tr_bn (f_X6_gainOf tn1 tv23 tv28 th29) fun tv33 =>
  tr_bd ((tv23 * 6) + tv28) fun tv34 =>
  tr_gd tv34 36 <|
  tr_bd (tr_si th29 23 tv34.toNatClampNeg tv33) fun th36 =>
  tr_bd (tv28 + 1) fun tv37 =>
  some (.inl (tv37, th36))))
noncomputable def f_X6_compare_L11 (tn1 : Nat) (tv23 : Int32) (th24 : tr_H) : Option ((Int32 × tr_H) ⊕ tr_H) :=
  if (th24.1 tn1 1) ≤ tv23 then
  (some (.inr th24))
  else
  (tr_bn (tr_lp (fun q => f_X6_compare_L21 tn1 tv23 q.1 q.2) (0, th24)) (fun q => f_X6_compare_E66 tv23 q))
noncomputable def f_X6_compare (tn1 : Nat) (h : tr_H) : Option tr_H :=
  tr_b2 (f_X6_slowest tn1 h) fun tv2 th3 =>
  tr_bd (tr_si th3 21 2 tv2) fun th4 =>
  tr_bn (tr_lp (fun q => f_X6_compare_L11 tn1 q.1 q.2) (0, th4)) (fun q => f_X6_compare_E72 tn1 q)
noncomputable def f_X6_comesBack (tv900 : Int32) (tv901 : Int32) (h : tr_H) : Option Int32 :=
  tr_bd ((tv901 * 6) + tv900) fun tv1 =>
  tr_gd tv1 36 <|
  if (h.1 23 tv1.toNatClampNeg) = (-1000000) then
  (some 0)
  else
  (some 1)
noncomputable def f_X6_isCritical (tn1 : Nat) (tv901 : Int32) (tv902 : Int32) (h : tr_H) : Option Int32 :=
  tr_bn (f_X2_of tn1 tv901 tv902 h) fun tv2 =>
  if tv2 = (-9) then
  (some 0)
  else
  (tr_bn (f_X6_comesBack tv901 tv902 h) fun tv5 =>
  if tv5 = 0 then
  (some 0)
  else
  (tr_bn (f_X6_gainOf tn1 tv901 tv902 h) fun tv8 =>
  tr_bd ((tv902 * 6) + tv901) fun tv9 =>
  tr_gd tv9 36 <|
  if (tv8 + (h.1 23 tv9.toNatClampNeg)) = 0 then
  (some 1)
  else
  (some 0)))
noncomputable def f_X7_write (tv900 : Int32) (h : tr_H) : Option (Int32 × tr_H) :=
  if tv900 < 0 then
  (some ((-2), h))
  else
  (if tv900 ≤ 255 then
  (if (h.1 0 11) < 0 then
  (some ((-4), h))
  else
  (if (h.1 0 11) < 64 then
  (tr_bd (h.1 0 11) fun tv5 =>
  tr_gd tv5 64 <|
  tr_bd (tr_si h 1 tv5.toNatClampNeg tv900) fun th7 =>
  tr_bd (tr_si th7 0 11 ((th7.1 0 11) + 1)) fun th8 =>
  some (th8.1 0 11, th8))
  else
  (some ((-4), h))))
  else
  (some ((-2), h)))
noncomputable def f_X7_wipe (h : tr_H) : Option (Int32 × tr_H) :=
  tr_bd (h.1 0 11) fun tv1 =>
  tr_bd (tr_si h 0 11 0) fun th2 =>
  some (tv1, th2)
noncomputable def f_X7_fault (h : tr_H) : Option (Int32 × tr_H) :=
  tr_b2 (f_X3_read (h.1 0 11) 4 h) fun tv2 th3 =>
  some (tv2, th3)
noncomputable def f_X7_net_E65 (th9 : tr_H) : Option (Int32 × tr_H) :=
  tr_bn (f_X2_waits 2 th9) fun tv11 =>
  some (tv11, th9)
noncomputable def f_X7_net_L47 (tv12 : Int32) (th13 : tr_H) : Option ((Int32 × tr_H) ⊕ tr_H) :=
  if 2 ≤ tv12 then
  (some (.inr th13))
  else
  (tr_gd tv12 2 <|
  tr_bd (tr_si th13 11 tv12.toNatClampNeg 0) fun th16 =>
  tr_bd (tv12 + 1) fun tv17 =>
  some (.inl (tv17, th16)))
noncomputable def f_X7_net (h : tr_H) : Option (Int32 × tr_H) :=
  tr_b2 (f_X3_read (h.1 0 11) 4 h) fun tv2 th3 =>
  if tv2 = (-9) then
  (tr_bn (f_X2_copyFrom 2 4 th3) fun th6 =>
  tr_bn (f_X1_forget th6) fun th8 =>
  tr_bn (tr_lp (fun q => f_X7_net_L47 q.1 q.2) (0, th8)) (fun q => f_X7_net_E65 q))
  else
  (some ((-3), th3))
noncomputable def f_X7_aboutEachWait_E123 (tv900 : Int32) (th2 : tr_H) (tv3 : Int32) (tv4 : Int32) (tv5 : Int32) : Option (Int32 × tr_H) :=
  if tv900 = 3 then
  (some (tv3, th2))
  else
  (if tv900 = 4 then
  (some (tv4, th2))
  else
  (some (tv5, th2)))
noncomputable def f_X7_aboutEachWait_E117 (tv11 : Int32) (tv13 : Int32) (tv14 : Int32) (tv15 : Int32) : Option ((Int32 × Int32 × Int32 × Int32) ⊕ (Int32 × Int32 × Int32)) :=
  tr_bd (tv11 + 1) fun tv16 =>
  some (.inl (tv13, tv14, tv15, tv16))
noncomputable def f_X7_aboutEachWait_J81 (tv11 : Int32) (tv20 : Int32) (th2 : tr_H) (tv18 : Int32) (tv19 : Int32) (tv24 : Int32) : Option ((Int32 × Int32 × Int32 × Int32) ⊕ (Int32 × Int32 × Int32)) :=
  tr_bn (f_X6_isCritical 2 tv11 tv20 th2) fun tv26 =>
  if tv26 = 0 then
  (tr_bd (tv20 + 1) fun tv28 =>
  some (.inl (tv24, tv18, tv19, tv28)))
  else
  (tr_bd (tv18 + 1) fun tv29 =>
  tr_bd (tv19 ||| (1 <<< (tv11 &&& 31))) fun tv30 =>
  tr_bd (tv20 + 1) fun tv31 =>
  some (.inl (tv24, tv29, tv30, tv31)))
noncomputable def f_X7_aboutEachWait_L36 (th2 : tr_H) (tv11 : Int32) (tv17 : Int32) (tv18 : Int32) (tv19 : Int32) (tv20 : Int32) : Option ((Int32 × Int32 × Int32 × Int32) ⊕ (Int32 × Int32 × Int32)) :=
  if (th2.1 2 1) ≤ tv20 then
  (some (.inr (tv17, tv18, tv19)))
  else
  (tr_bn (f_X2_of 2 tv11 tv20 th2) fun tv23 =>
  if tv23 = (-9) then
  (f_X7_aboutEachWait_J81 tv11 tv20 th2 tv18 tv19 tv17)
  else
  (tr_bn (f_X6_comesBack tv11 tv20 th2) fun tv34 =>
  if tv34 = 0 then
  (tr_bd (tv17 + 1) fun tv36 =>
  f_X7_aboutEachWait_J81 tv11 tv20 th2 tv18 tv19 tv36)
  else
  (f_X7_aboutEachWait_J81 tv11 tv20 th2 tv18 tv19 tv17)))
noncomputable def f_X7_aboutEachWait_L21 (th2 : tr_H) (tv8 : Int32) (tv9 : Int32) (tv10 : Int32) (tv11 : Int32) : Option ((Int32 × Int32 × Int32 × Int32) ⊕ (Int32 × Int32 × Int32)) :=
  if (th2.1 2 1) ≤ tv11 then
  (some (.inr (tv8, tv9, tv10)))
  else
  (tr_bn (tr_lp (fun q => f_X7_aboutEachWait_L36 th2 tv11 q.1 q.2.1 q.2.2.1 q.2.2.2) (tv8, tv9, tv10, 0)) (fun q => f_X7_aboutEachWait_E117 tv11 q.1 q.2.1 q.2.2))
noncomputable def f_X7_aboutEachWait (tv900 : Int32) (h : tr_H) : Option (Int32 × tr_H) :=
  tr_bn (f_X6_compare 2 h) fun th2 =>
  tr_bn (tr_lp (fun q => f_X7_aboutEachWait_L21 th2 q.1 q.2.1 q.2.2.1 q.2.2.2) (0, 0, 0, 0)) (fun q => f_X7_aboutEachWait_E123 tv900 th2 q.1 q.2.1 q.2.2)
noncomputable def f_X7_leastPeriod (h : tr_H) : Option (Int32 × tr_H) :=
  tr_b2 (f_X6_slowest 2 h) fun tv2 th3 =>
  tr_bd (tr_max 0 tv2) fun tv4 =>
  some (((tv4 + 60) - 1) / 60, th3)
noncomputable def f_X7_about (tv900 : Int32) (h : tr_H) : Option (Int32 × tr_H) :=
  if tv900 = 0 then
  (some (h.1 2 1, h))
  else
  if tv900 = 1 then
  (tr_bn (f_X2_waits 2 h) fun tv4 =>
  some (tv4, h))
  else
  if tv900 = 2 then
  (tr_bn (f_X4_fill 2 h) fun th7 =>
  some (th7.1 27 3, th7))
  else
  if tv900 = 3 then
  (tr_b2 (f_X7_aboutEachWait tv900 h) fun tv10 th11 =>
  some (tv10, th11))
  else
  if tv900 = 4 then
  (tr_b2 (f_X7_aboutEachWait tv900 h) fun tv14 th15 =>
  some (tv14, th15))
  else
  if tv900 = 5 then
  (tr_b2 (f_X7_aboutEachWait tv900 h) fun tv18 th19 =>
  some (tv18, th19))
  else
  if tv900 = 6 then
  (tr_b2 (f_X7_leastPeriod h) fun tv22 th23 =>
  some (tv22, th23))
  else
  if tv900 = 7 then
  (some (h.1 13 3, h))
  else
  if tv900 = 8 then
  (some (h.1 17 3, h))
  else
  if tv900 = 9 then
  (some (h.1 0 11, h))
  else
  (some ((-2), h))
noncomputable def f_X7_minutes (tv900 : Int32) (tv901 : Int32) (h : tr_H) : Option Int32 :=
  tr_bn (f_X2_has 2 tv900 h) fun tv2 =>
  if tv2 = 0 then
  (some (-1))
  else
  (tr_bn (f_X2_has 2 tv901 h) fun tv5 =>
  if tv5 = 0 then
  (some (-1))
  else
  (tr_bn (f_X2_of 2 tv900 tv901 h) fun tv8 =>
  some tv8))
noncomputable def f_X7_change (tv900 : Int32) (tv901 : Int32) (tv902 : Int32) (h : tr_H) : Option (Int32 × tr_H) :=
  tr_bn (f_X2_of 2 tv900 tv901 h) fun tv2 =>
  tr_bn (f_X1_add tv900 tv901 tv2 h) fun th4 =>
  tr_b2 (f_X2_lay 2 tv900 tv901 tv902 th4) fun tv6 th7 =>
  some (tv2, th7)
noncomputable def f_X7_put (tv900 : Int32) (tv901 : Int32) (tv902 : Int32) (h : tr_H) : Option (Int32 × tr_H) :=
  tr_bn (f_X2_has 2 tv900 h) fun tv2 =>
  if tv2 = 0 then
  (some ((-1), h))
  else
  (tr_bn (f_X2_has 2 tv901 h) fun tv5 =>
  if tv5 = 0 then
  (some ((-1), h))
  else
  (if tv902 < 0 then
  (some ((-2), h))
  else
  (if tv902 ≤ 9 then
  (tr_bn (f_X2_of 2 tv900 tv901 h) fun tv10 =>
  if tv10 = (-9) then
  (tr_b2 (f_X7_change tv900 tv901 tv902 h) fun tv13 th14 =>
  tr_bn (f_X2_waits 2 th14) fun tv16 =>
  some (tv16, th14))
  else
  (some ((-3), h)))
  else
  (some ((-2), h)))))
noncomputable def f_X7_cut (tv900 : Int32) (tv901 : Int32) (h : tr_H) : Option (Int32 × tr_H) :=
  tr_bn (f_X2_has 2 tv900 h) fun tv2 =>
  if tv2 = 0 then
  (some ((-1), h))
  else
  (tr_bn (f_X2_has 2 tv901 h) fun tv5 =>
  if tv5 = 0 then
  (some ((-1), h))
  else
  (tr_bn (f_X2_of 2 tv900 tv901 h) fun tv8 =>
  if tv8 = (-9) then
  (some ((-3), h))
  else
  (tr_b2 (f_X7_change tv900 tv901 (-9) h) fun tv11 th12 =>
  some (tv11, th12))))
noncomputable def f_X7_time (tv900 : Int32) (tv901 : Int32) (tv902 : Int32) (h : tr_H) : Option (Int32 × tr_H) :=
  tr_bn (f_X2_has 2 tv900 h) fun tv2 =>
  if tv2 = 0 then
  (some ((-1), h))
  else
  (tr_bn (f_X2_has 2 tv901 h) fun tv5 =>
  if tv5 = 0 then
  (some ((-1), h))
  else
  (if tv902 < 0 then
  (some ((-2), h))
  else
  (if tv902 ≤ 9 then
  (tr_bn (f_X2_of 2 tv900 tv901 h) fun tv10 =>
  if tv10 = (-9) then
  (some ((-3), h))
  else
  (tr_b2 (f_X7_change tv900 tv901 tv902 h) fun tv13 th14 =>
  some (tv13, th14)))
  else
  (some ((-2), h)))))
noncomputable def f_X7_undo (h : tr_H) : Option (Int32 × tr_H) :=
  if (h.1 13 3) = 0 then
  (some ((-3), h))
  else
  (tr_bn (f_X1_takeBack 2 h) fun th3 =>
  some (th3.1 13 3, th3))
noncomputable def f_X7_commonDivisor_E34 (tv1 : Int32) : Option Int32 :=
  some (tr_max 1 tv1)
noncomputable def f_X7_commonDivisor_L7 (tv2 : Int32) (tv3 : Int32) (tv4 : Int32) : Option ((Int32 × Int32 × Int32) ⊕ Int32) :=
  if 64 ≤ tv4 then
  (some (.inr tv2))
  else
  (if tv3 = 0 then
  (some (.inr tv2))
  else
  (tr_nz tv3 <|
  tr_bd (tv2 - tv2 / tv3 * tv3) fun tv8 =>
  tr_bd (tv4 + 1) fun tv9 =>
  some (.inl (tv3, tv8, tv9))))
noncomputable def f_X7_commonDivisor (tv900 : Int32) (tv901 : Int32) : Option Int32 :=
  tr_bn (tr_lp (fun q => f_X7_commonDivisor_L7 q.1 q.2.1 q.2.2) (tv900, tv901, 0)) (fun q => f_X7_commonDivisor_E34 q)
noncomputable def f_X7_told (tv900 : Int32) (tv901 : Int32) (tv902 : Int32) : Option Int32 :=
  tr_bn (f_X7_commonDivisor tv900 tv901) fun tv2 =>
  if tv902 = 0 then
  (tr_nz tv2 <|
  some (tv901 / tv2))
  else
  (tr_nz tv2 <|
  some (tv900 / tv2))
noncomputable def f_X7_pace (tv900 : Int32) (h : tr_H) : Option (Int32 × tr_H) :=
  tr_b2 (f_X6_slowest 2 h) fun tv2 th3 =>
  if tv2 = (-1) then
  (some ((-9), th3))
  else
  (tr_bn (f_X7_told tv2 60 tv900) fun tv6 =>
  some (tv6, th3))
noncomputable def f_X7_critical (tv900 : Int32) (tv901 : Int32) (h : tr_H) : Option (Int32 × tr_H) :=
  tr_bn (f_X2_has 2 tv900 h) fun tv2 =>
  if tv2 = 0 then
  (some ((-1), h))
  else
  (tr_bn (f_X2_has 2 tv901 h) fun tv5 =>
  if tv5 = 0 then
  (some ((-1), h))
  else
  (tr_bn (f_X2_of 2 tv900 tv901 h) fun tv8 =>
  if tv8 = (-9) then
  (some ((-3), h))
  else
  (tr_bn (f_X6_compare 2 h) fun th11 =>
  tr_bn (f_X6_isCritical 2 tv900 tv901 th11) fun tv13 =>
  if tv13 = 0 then
  (some (0, th11))
  else
  (some (1, th11)))))
noncomputable def f_X7_departs (tv900 : Int32) (tv901 : Int32) (h : tr_H) : Option (Int32 × tr_H) :=
  tr_bn (f_X2_has 2 tv900 h) fun tv2 =>
  if tv2 = 0 then
  (some ((-1), h))
  else
  (if tv901 < 0 then
  (some ((-2), h))
  else
  (if tv901 ≤ 20 then
  (tr_b2 (f_X6_isKept 2 tv901 h) fun tv7 th8 =>
  if tv7 = 0 then
  (some ((-3), th8))
  else
  (tr_bn (f_X0_settle 2 tv901 th8) fun th11 =>
  tr_bn (f_X0_timeOf tv900 th11) fun tv13 =>
  some (tv13, th11)))
  else
  (some ((-2), h))))
noncomputable def f_X7_spare (tv900 : Int32) (tv901 : Int32) (tv902 : Int32) (h : tr_H) : Option (Int32 × tr_H) :=
  tr_bn (f_X2_has 2 tv900 h) fun tv2 =>
  if tv2 = 0 then
  (some ((-1), h))
  else
  (tr_bn (f_X2_has 2 tv901 h) fun tv5 =>
  if tv5 = 0 then
  (some ((-1), h))
  else
  (if tv902 < 0 then
  (some ((-2), h))
  else
  (if tv902 ≤ 20 then
  (tr_bn (f_X2_of 2 tv900 tv901 h) fun tv10 =>
  if tv10 = (-9) then
  (some ((-3), h))
  else
  (tr_b2 (f_X6_isKept 2 tv902 h) fun tv13 th14 =>
  if tv13 = 0 then
  (some ((-3), th14))
  else
  (tr_bn (f_X0_settle 2 tv902 th14) fun th17 =>
  tr_bn (f_X0_spareOf 2 tv900 tv901 th17) fun tv19 =>
  some (tv19, th17))))
  else
  (some ((-2), h)))))
noncomputable def f_X7_late (tv900 : Int32) (tv901 : Int32) (tv902 : Int32) (tv903 : Int32) (tv904 : Int32) (h : tr_H) : Option (Int32 × tr_H) :=
  tr_bn (f_X2_has 2 tv900 h) fun tv2 =>
  if tv2 = 0 then
  (some ((-1), h))
  else
  (tr_bn (f_X2_has 2 tv903 h) fun tv5 =>
  if tv5 = 0 then
  (some ((-1), h))
  else
  (if tv901 < 1 then
  (some ((-2), h))
  else
  (if 30 < tv901 then
  (some ((-2), h))
  else
  (if tv902 < 0 then
  (some ((-2), h))
  else
  (if tv902 ≤ 20 then
  (if tv904 < 0 then
  (some ((-2), h))
  else
  (if tv904 ≤ 40 then
  (tr_b2 (f_X6_isKept 2 tv902 h) fun tv14 th15 =>
  if tv14 = 0 then
  (some ((-3), th15))
  else
  (tr_bn (f_X0_settle 2 tv902 th15) fun th18 =>
  tr_bn (f_X0_spread 2 tv900 tv904 th18) fun th20 =>
  tr_bn (f_X0_lateness tv901 tv903 tv904 th20) fun tv22 =>
  some (tv22, th20)))
  else
  (some ((-2), h))))
  else
  (some ((-2), h)))))))
noncomputable def f_X7_lastsUntil (tn1 : Nat) (tv901 : Int32) (tv902 : Int32) (tv903 : Int32) (h : tr_H) : Option (Int32 × tr_H) :=
  tr_bn (f_X0_settle tn1 tv903 h) fun th2 =>
  tr_bn (f_X0_spread tn1 tv901 40 th2) fun th4 =>
  tr_bn (f_X0_firstQuietRound tv902 (th4.1 tn1 1) th4) fun tv6 =>
  some (tv6, th4)
noncomputable def f_X7_dies (tv900 : Int32) (tv901 : Int32) (tv902 : Int32) (h : tr_H) : Option (Int32 × tr_H) :=
  tr_bn (f_X2_has 2 tv900 h) fun tv2 =>
  if tv2 = 0 then
  (some ((-1), h))
  else
  (if tv901 < 1 then
  (some ((-2), h))
  else
  (if 30 < tv901 then
  (some ((-2), h))
  else
  (if tv902 < 0 then
  (some ((-2), h))
  else
  (if tv902 ≤ 20 then
  (tr_b2 (f_X6_isKept 2 tv902 h) fun tv9 th10 =>
  if tv9 = 0 then
  (some ((-3), th10))
  else
  (tr_b2 (f_X7_lastsUntil 2 tv900 tv901 tv902 th10) fun tv13 th14 =>
  some (tv13, th14)))
  else
  (some ((-2), h))))))
noncomputable def f_X7_best_E173 (tv3 : Int32) (th4 : tr_H) : Option (Int32 × tr_H) :=
  some (tv3, th4)
noncomputable def f_X7_best_E167 (tv7 : Int32) (tv10 : Int32) (tv11 : Int32) (th12 : tr_H) : Option ((Int32 × Int32 × Int32 × tr_H) ⊕ (Int32 × tr_H)) :=
  tr_bd (tv7 + 1) fun tv13 =>
  some (.inl (tv10, tv11, tv13, th12))
noncomputable def f_X7_best_J112 (tv7 : Int32) (tv16 : Int32) (th17 : tr_H) (tv20 : Int32) (tv15 : Int32) (tv14 : Int32) (tv23 : Int32) : Option ((Int32 × Int32 × Int32 × tr_H) ⊕ (Int32 × Int32 × tr_H)) :=
  tr_b2 (f_X2_lay 4 tv7 tv16 tv23 th17) fun tv25 th26 =>
  tr_b2 (f_X6_slowest 4 th26) fun tv28 th29 =>
  tr_b2 (f_X2_lay 4 tv7 tv16 tv20 th29) fun tv31 th32 =>
  if tv15 ≤ tv28 then
  (tr_bd (tv16 + 1) fun tv34 =>
  some (.inl (tv14, tv15, tv34, th32)))
  else
  (tr_bd ((10 * tv7) + tv16) fun tv35 =>
  tr_bd (tv16 + 1) fun tv36 =>
  some (.inl (tv35, tv28, tv36, th32)))
noncomputable def f_X7_best_J91 (tv900 : Int32) (tv7 : Int32) (tv16 : Int32) (th17 : tr_H) (tv20 : Int32) (tv15 : Int32) (tv14 : Int32) : Option ((Int32 × Int32 × Int32 × tr_H) ⊕ (Int32 × Int32 × tr_H)) :=
  if tv900 = 0 then
  (f_X7_best_J112 tv7 tv16 th17 tv20 tv15 tv14 (tv20 - 1))
  else
  (f_X7_best_J112 tv7 tv16 th17 tv20 tv15 tv14 (-9))
noncomputable def f_X7_best_L47 (tv7 : Int32) (tv900 : Int32) (tv14 : Int32) (tv15 : Int32) (tv16 : Int32) (th17 : tr_H) : Option ((Int32 × Int32 × Int32 × tr_H) ⊕ (Int32 × Int32 × tr_H)) :=
  if (th17.1 2 1) ≤ tv16 then
  (some (.inr (tv14, tv15, th17)))
  else
  (tr_bn (f_X2_of 2 tv7 tv16 th17) fun tv20 =>
  if tv20 = (-9) then
  (tr_bd (tv16 + 1) fun tv22 =>
  some (.inl (tv14, tv15, tv22, th17)))
  else
  (if tv900 = 0 then
  (if tv20 = 0 then
  (tr_bd (tv16 + 1) fun tv40 =>
  some (.inl (tv14, tv15, tv40, th17)))
  else
  (f_X7_best_J91 tv900 tv7 tv16 th17 tv20 tv15 tv14))
  else
  (f_X7_best_J91 tv900 tv7 tv16 th17 tv20 tv15 tv14)))
noncomputable def f_X7_best_L32 (tv900 : Int32) (tv5 : Int32) (tv6 : Int32) (tv7 : Int32) (th8 : tr_H) : Option ((Int32 × Int32 × Int32 × tr_H) ⊕ (Int32 × tr_H)) :=
  if (th8.1 2 1) ≤ tv7 then
  (some (.inr (tv5, th8)))
  else
  (tr_bn (tr_lp (fun q => f_X7_best_L47 tv7 tv900 q.1 q.2.1 q.2.2.1 q.2.2.2) (tv5, tv6, 0, th8)) (fun q => f_X7_best_E167 tv7 q.1 q.2.1 q.2.2))
noncomputable def f_X7_best_J12 (h : tr_H) (tv900 : Int32) : Option (Int32 × tr_H) :=
  tr_bn (f_X2_copyFrom 4 2 h) fun th2 =>
  tr_bn (tr_lp (fun q => f_X7_best_L32 tv900 q.1 q.2.1 q.2.2.1 q.2.2.2) ((-9), 1000000, 0, th2)) (fun q => f_X7_best_E173 q.1 q.2)
noncomputable def f_X7_best (tv900 : Int32) (h : tr_H) : Option (Int32 × tr_H) :=
  if tv900 = 0 then
  (f_X7_best_J12 h tv900)
  else
  (if tv900 = 1 then
  (f_X7_best_J12 h tv900)
  else
  (some ((-2), h)))
noncomputable def f_X7_figuresOf_E23 (tv1 : Int64) : Option Int32 :=
  some ((tv1 - tv1 / 10000 * 10000 : Int64).toInt32)
noncomputable def f_X7_figuresOf_L5 (tv901 : Int32) (tv2 : Int64) (tv3 : Int32) : Option ((Int64 × Int32) ⊕ Int64) :=
  if tv901 ≤ tv3 then
  (some (.inr tv2))
  else
  (tr_bd (tv2 / 10000) fun tv5 =>
  tr_bd (tv3 + 1) fun tv6 =>
  some (.inl (tv5, tv6)))
noncomputable def f_X7_figuresOf (tv900 : Int64) (tv901 : Int32) : Option Int32 :=
  tr_bn (tr_lp (fun q => f_X7_figuresOf_L5 tv901 q.1 q.2) (tv900, 0)) (fun q => f_X7_figuresOf_E23 q)
noncomputable def f_X7_departsAt (tv900 : Int32) (tv901 : Int32) (h : tr_H) : Option (Int32 × tr_H) :=
  tr_b2 (f_X6_isKept 4 10 h) fun tv2 th3 =>
  if tv2 = 0 then
  (some (0, th3))
  else
  (tr_bn (f_X0_settle 4 10 th3) fun th6 =>
  tr_bn (f_X0_timeOf tv900 th6) fun tv8 =>
  if tv8 = tv901 then
  (some (1, th6))
  else
  (some (0, th6)))
noncomputable def f_X7_isOver (tv900 : Int32) (tv901 : Int32) (h : tr_H) : Option (Int32 × tr_H) :=
  if tv901 < 1 then
  (some (0, h))
  else
  (if 30 < tv901 then
  (some (0, h))
  else
  (tr_b2 (f_X6_isKept 4 10 h) fun tv4 th5 =>
  if tv4 = 0 then
  (some (0, th5))
  else
  (tr_b2 (f_X7_lastsUntil 4 tv900 tv901 10 th5) fun tv8 th9 =>
  if tv8 = (-9) then
  (some (0, th9))
  else
  (some (1, th9)))))
noncomputable def f_X7_holds_J50 (tv900 : Int32) (tv1 : Int32) (h : tr_H) (tv2 : Int32) (tv3 : Int32) (tv4 : Int32) (tv7 : Int32) : Option (Int32 × tr_H) :=
  tr_bd (tv900 / 1000) fun tv8 =>
  if tv8 = 1 then
  (tr_bn (f_X2_has 4 tv1 h) fun tv11 =>
  if tv11 = 0 then
  (some (0, h))
  else
  (tr_bn (f_X2_has 4 tv2 h) fun tv14 =>
  if tv14 = 0 then
  (some (0, h))
  else
  (if tv7 = 0 then
  (tr_b2 (f_X2_lay 4 tv1 tv2 tv3 h) fun tv18 th19 =>
  if tv18 = 0 then
  (some (0, th19))
  else
  (some (1, th19)))
  else
  (some (0, h)))))
  else
  if tv8 = 2 then
  (if tv7 = 0 then
  (some (0, h))
  else
  (if tv3 = 0 then
  (tr_b2 (f_X2_lay 4 tv1 tv2 (-9) h) fun tv25 th26 =>
  if tv25 = 0 then
  (some (0, th26))
  else
  (some (1, th26)))
  else
  (some (0, h))))
  else
  if tv8 = 3 then
  (if tv7 = 0 then
  (some (0, h))
  else
  (tr_b2 (f_X2_lay 4 tv1 tv2 tv3 h) fun tv31 th32 =>
  if tv31 = 0 then
  (some (0, th32))
  else
  (some (1, th32))))
  else
  if tv8 = 4 then
  (if tv1 = 0 then
  (if 20 < tv4 then
  (some (0, h))
  else
  (tr_b2 (f_X6_isKept 4 tv4 h) fun tv38 th39 =>
  if tv38 = 0 then
  (some (0, th39))
  else
  (some (1, th39))))
  else
  (some (0, h)))
  else
  if tv8 = 5 then
  (tr_bn (f_X6_compare 4 h) fun th43 =>
  if tv3 = 0 then
  (tr_bn (f_X6_isCritical 4 tv1 tv2 th43) fun tv46 =>
  if tv46 = 0 then
  (some (0, th43))
  else
  (some (1, th43)))
  else
  (some (0, th43)))
  else
  if tv8 = 6 then
  (tr_bn (f_X2_has 4 tv1 h) fun tv50 =>
  if tv50 = 0 then
  (some (0, h))
  else
  (tr_b2 (f_X7_departsAt tv1 tv4 h) fun tv53 th54 =>
  if tv53 = 0 then
  (some (0, th54))
  else
  (some (1, th54))))
  else
  if tv8 = 7 then
  (tr_bn (f_X2_has 4 tv1 h) fun tv58 =>
  if tv58 = 0 then
  (some (0, h))
  else
  (tr_b2 (f_X7_isOver tv1 tv4 h) fun tv61 th62 =>
  if tv61 = 0 then
  (some (0, th62))
  else
  (some (1, th62))))
  else
  (some (0, h))
noncomputable def f_X7_holds (tv900 : Int32) (h : tr_H) : Option (Int32 × tr_H) :=
  tr_bd ((tv900 / 100) - (tv900 / 100) / 10 * 10) fun tv1 =>
  tr_bd ((tv900 / 10) - (tv900 / 10) / 10 * 10) fun tv2 =>
  tr_bd (tv900 - tv900 / 10 * 10) fun tv3 =>
  tr_bd ((10 * tv2) + tv3) fun tv4 =>
  tr_bn (f_X2_of 4 tv1 tv2 h) fun tv6 =>
  if tv6 = (-9) then
  (f_X7_holds_J50 tv900 tv1 h tv2 tv3 tv4 0)
  else
  (f_X7_holds_J50 tv900 tv1 h tv2 tv3 tv4 1)
noncomputable def f_X7_judge_E75 (th8 : tr_H) : Option (Int32 × tr_H) :=
  some ((-9), th8)
noncomputable def f_X7_judge_L43 (tv900 : Int32) (tv901 : Int64) (tv9 : Int32) (th10 : tr_H) : Option ((Int32 × tr_H) ⊕ (tr_H ⊕ (Int32 × tr_H))) :=
  if tv900 ≤ tv9 then
  (some (.inr (.inl th10)))
  else
  (tr_bn (f_X7_figuresOf tv901 ((tv900 - 1) - tv9)) fun tv13 =>
  tr_b2 (f_X7_holds tv13 th10) fun tv15 th16 =>
  if tv15 = 0 then
  (some (.inr (.inr (tv9, th16))))
  else
  (tr_bd (tv9 + 1) fun tv18 =>
  some (.inl (tv18, th16))))
noncomputable def f_X7_judge (tv900 : Int32) (tv901 : Int64) (h : tr_H) : Option (Int32 × tr_H) :=
  if tv900 < 1 then
  (some ((-2), h))
  else
  (if 4 < tv900 then
  (some ((-2), h))
  else
  (if (lg_cmp tv901 0) < 0 then
  (some ((-2), h))
  else
  (tr_gd tv900 5 <|
  if (lg_cmp tv901 (tr_f2 tv900.toNatClampNeg)) < 0 then
  (tr_bn (f_X2_copyFrom 4 2 h) fun th7 =>
  tr_bn (tr_lp (fun q => f_X7_judge_L43 tv900 tv901 q.1 q.2) (0, th7)) (fun q => Sum.elim (fun x => f_X7_judge_E75 x) (fun x => some x) q))
  else
  (some ((-2), h)))))
noncomputable def f_X7_share (tv900 : Int32) (tv901 : Int32) (h : tr_H) : Option (Int32 × tr_H) :=
  tr_bn (f_X2_has 2 tv900 h) fun tv2 =>
  if tv2 = 0 then
  (some ((-1), h))
  else
  (tr_bn (f_X4_fill 2 h) fun th5 =>
  tr_bd (th5.1 2 1) fun tv6 =>
  tr_gd tv6 7 <|
  tr_bd (tr_f1 tv6.toNatClampNeg) fun tv8 =>
  tr_bn (f_X4_added tv900 (th5.1 2 1) th5) fun tv10 =>
  tr_bn (f_X7_told tv10 (tv8 * 60) tv901) fun tv12 =>
  some (tv12, th5))
noncomputable def f_X7_see (tv900 : Int32) (tv901 : Int32) (tv902 : Int32) (h : tr_H) : Option (Int32 × tr_H) :=
  tr_bn (f_X2_has 2 tv900 h) fun tv2 =>
  if tv2 = 0 then
  (some ((-1), h))
  else
  (if tv901 < 1 then
  (some ((-2), h))
  else
  (if 9 < tv901 then
  (some ((-2), h))
  else
  (if tv902 < 0 then
  (some ((-2), h))
  else
  (if tv902 ≤ 1 then
  (tr_b2 (f_X5_add tv900 tv901 tv902 h) fun tv9 th10 =>
  if tv9 = 0 then
  (some ((-4), th10))
  else
  (some (th10.1 17 3, th10)))
  else
  (some ((-2), h))))))
noncomputable def f_X7_unsee (h : tr_H) : Option (Int32 × tr_H) :=
  tr_bd (h.1 17 3) fun tv1 =>
  tr_bd (tr_si h 17 3 0) fun th2 =>
  some (tv1, th2)
noncomputable def f_X7_began_J141 (tv900 : Int32) (tv4 : Int32) (tv5 : Int32) (th6 : tr_H) : Option (Int32 × tr_H) :=
  if tv900 = 0 then
  (some (tv5, th6))
  else
  (some (tv4, th6))
noncomputable def f_X7_began_E141 (tv900 : Int32) (tv11 : Int32) (tv12 : Int32) (th13 : tr_H) : Option (Int32 × tr_H) :=
  f_X7_began_J141 tv900 tv11 tv12 th13
noncomputable def f_X7_began_E135 (tv16 : Int32) (th20 : tr_H) (tv21 : Int32) (tv22 : Int32) : Option ((Int32 × Int32 × Int32 × tr_H) ⊕ (Int32 × Int32 × tr_H)) :=
  tr_bd (tv16 + 1) fun tv23 =>
  some (.inl (tv21, tv22, tv23, th20))
noncomputable def f_X7_began_L79 (th20 : tr_H) (tv16 : Int32) (tv24 : Int32) (tv25 : Int32) (tv26 : Int32) : Option ((Int32 × Int32 × Int32) ⊕ (Int32 × Int32)) :=
  if 30 < tv26 then
  (some (.inr (tv24, tv25)))
  else
  (tr_bn (f_X5_fits tv26 (th20.1 2 1) th20) fun tv29 =>
  if tv29 = 0 then
  (tr_bd (tv26 + 1) fun tv31 =>
  some (.inl (tv24, tv25, tv31)))
  else
  (if tv25 = 0 then
  (tr_bd ((100 * tv16) + tv26) fun tv35 =>
  tr_bd (tv25 + 1) fun tv36 =>
  tr_bd (tv26 + 1) fun tv37 =>
  some (.inl (tv35, tv36, tv37)))
  else
  (tr_bd (tv25 + 1) fun tv33 =>
  tr_bd (tv26 + 1) fun tv34 =>
  some (.inl (tv24, tv33, tv34)))))
noncomputable def f_X7_began_L49 (tv14 : Int32) (tv15 : Int32) (tv16 : Int32) (th17 : tr_H) : Option ((Int32 × Int32 × Int32 × tr_H) ⊕ (Int32 × Int32 × tr_H)) :=
  if (th17.1 2 1) ≤ tv16 then
  (some (.inr (tv14, tv15, th17)))
  else
  (tr_bn (f_X0_spread 2 tv16 9 th17) fun th20 =>
  tr_bn (tr_lp (fun q => f_X7_began_L79 th20 tv16 q.1 q.2.1 q.2.2) (tv14, tv15, 1)) (fun q => f_X7_began_E135 tv16 th20 q.1 q.2))
noncomputable def f_X7_began_J12 (h : tr_H) (tv900 : Int32) : Option (Int32 × tr_H) :=
  tr_b2 (f_X6_isKept 2 10 h) fun tv2 th3 =>
  if tv2 = 0 then
  (f_X7_began_J141 tv900 (-9) 0 th3)
  else
  (tr_bn (f_X0_settle 2 10 th3) fun th10 =>
  tr_bn (tr_lp (fun q => f_X7_began_L49 q.1 q.2.1 q.2.2.1 q.2.2.2) ((-9), 0, 0, th10)) (fun q => f_X7_began_E141 tv900 q.1 q.2.1 q.2.2))
noncomputable def f_X7_began (tv900 : Int32) (h : tr_H) : Option (Int32 × tr_H) :=
  if tv900 = 0 then
  (f_X7_began_J12 h tv900)
  else
  (if tv900 = 1 then
  (f_X7_began_J12 h tv900)
  else
  (some ((-2), h)))
noncomputable def f_X7_dropped_E193 (tv903 : Int32) (tv15 : Int32) (tv16 : Int32) (th17 : tr_H) : Option (Int32 × tr_H) :=
  tr_bn (f_X7_told tv15 tv16 tv903) fun tv19 =>
  some (tv19, th17)
noncomputable def f_X7_dropped_L113 (tv900 : Int32) (tv901 : Int32) (tv902 : Int32) (tv20 : Int32) (tv21 : Int32) (tv22 : Int32) (th23 : tr_H) : Option ((Int32 × Int32 × Int32 × tr_H) ⊕ (Int32 × Int32 × tr_H)) :=
  if (th23.1 2 1) ≤ tv22 then
  (some (.inr (tv20, tv21, th23)))
  else
  (tr_bn (f_X2_of 2 tv900 tv22 th23) fun tv26 =>
  tr_b2 (f_X2_lay 4 tv900 tv22 tv26 th23) fun tv28 th29 =>
  tr_b2 (f_X6_isKept 4 tv901 th29) fun tv31 th32 =>
  if tv31 = 0 then
  (tr_bd (tv20 * tv902) fun tv38 =>
  tr_bd (tv21 * 10) fun tv39 =>
  tr_b2 (f_X2_lay 4 tv900 tv22 (-9) th32) fun tv41 th42 =>
  tr_bd (tv22 + 1) fun tv43 =>
  some (.inl (tv38, tv39, tv43, th42)))
  else
  (tr_b2 (f_X2_lay 4 tv900 tv22 (-9) th32) fun tv35 th36 =>
  tr_bd (tv22 + 1) fun tv37 =>
  some (.inl (tv20, tv21, tv37, th36))))
noncomputable def f_X7_dropped_E81 (tv901 : Int32) (tv903 : Int32) (tv900 : Int32) (tv902 : Int32) (th10 : tr_H) : Option (Int32 × tr_H) :=
  tr_b2 (f_X6_isKept 4 tv901 th10) fun tv12 th13 =>
  if tv12 = 0 then
  (tr_bn (f_X7_told 0 1 tv903) fun tv45 =>
  some (tv45, th13))
  else
  (tr_bn (tr_lp (fun q => f_X7_dropped_L113 tv900 tv901 tv902 q.1 q.2.1 q.2.2.1 q.2.2.2) (1, 1, 0, th13)) (fun q => f_X7_dropped_E193 tv903 q.1 q.2.1 q.2.2))
noncomputable def f_X7_dropped_L50 (tv900 : Int32) (tv46 : Int32) (th47 : tr_H) : Option ((Int32 × tr_H) ⊕ tr_H) :=
  if (th47.1 2 1) ≤ tv46 then
  (some (.inr th47))
  else
  (tr_b2 (f_X2_lay 4 tv900 tv46 (-9) th47) fun tv50 th51 =>
  tr_bd (tv46 + 1) fun tv52 =>
  some (.inl (tv52, th51)))
noncomputable def f_X7_dropped (tv900 : Int32) (tv901 : Int32) (tv902 : Int32) (tv903 : Int32) (h : tr_H) : Option (Int32 × tr_H) :=
  tr_bn (f_X2_has 2 tv900 h) fun tv2 =>
  if tv2 = 0 then
  (some ((-1), h))
  else
  (if tv901 < 0 then
  (some ((-2), h))
  else
  (if 20 < tv901 then
  (some ((-2), h))
  else
  (if tv902 < 0 then
  (some ((-2), h))
  else
  (if tv902 ≤ 10 then
  (tr_bn (f_X2_copyFrom 4 2 h) fun th9 =>
  tr_bn (tr_lp (fun q => f_X7_dropped_L50 tv900 q.1 q.2) (0, th9)) (fun q => f_X7_dropped_E81 tv901 tv903 tv900 tv902 q))
  else
  (some ((-2), h))))))
noncomputable def f_X7_seed (tv900 : Int64) (h : tr_H) : Option (Int64 × tr_H) :=
  tr_bd (h.2 0 12) fun tv1 =>
  tr_bd (tr_sl h 0 12 tv900) fun th2 =>
  some (tv1, th2)
noncomputable def f_X7_drawn_E132 (tv5 : Int32) (th6 : tr_H) : Option (Int32 × tr_H) :=
  some (tv5, th6)
noncomputable def f_X7_drawn_J101 (tv12 : Int32) (th11 : tr_H) (tv7 : Int32) (tv8 : Int32) (tv14 : Int32) : Option ((Int32 × Int32 × tr_H) ⊕ (Int32 × tr_H)) :=
  tr_b2 (f_X2_lay 4 (tv12 - tv12 / 6 * 6) ((tv12 / 8) - (tv12 / 8) / 6 * 6) tv14 th11) fun tv16 th17 =>
  tr_b2 (f_X6_slowest 4 th17) fun tv19 th20 =>
  tr_bd (tv7 + ((tr_max 0 tv19) / 60)) fun tv21 =>
  tr_bd (tv8 + 1) fun tv22 =>
  some (.inl (tv21, tv22, th20))
noncomputable def f_X7_drawn_L29 (tv900 : Int32) (tv7 : Int32) (tv8 : Int32) (th9 : tr_H) : Option ((Int32 × Int32 × tr_H) ⊕ (Int32 × tr_H)) :=
  if tv900 ≤ tv8 then
  (some (.inr (tv7, th9)))
  else
  (tr_bd (tr_sl th9 0 12 (((th9.2 0 12) * 6364136223846793005) + 1442695040888963407)) fun th11 =>
  tr_bd ((((th11.2 0 12).toUInt64 >>> ((33 : Int32).toInt64.toUInt64 &&& Int64.toUInt64 63)).toInt64 : Int64).toInt32) fun tv12 =>
  tr_bd ((tv12 / 64) - (tv12 / 64) / 11 * 11) fun tv13 =>
  if tv13 ≤ 9 then
  (f_X7_drawn_J101 tv12 th11 tv7 tv8 tv13)
  else
  (f_X7_drawn_J101 tv12 th11 tv7 tv8 (-9)))
noncomputable def f_X7_drawn (tv900 : Int32) (h : tr_H) : Option (Int32 × tr_H) :=
  if tv900 < 1 then
  (some ((-2), h))
  else
  (if tv900 ≤ 20 then
  (tr_bn (f_X2_copyFrom 4 2 h) fun th4 =>
  tr_bn (tr_lp (fun q => f_X7_drawn_L29 tv900 q.1 q.2.1 q.2.2) (0, 0, th4)) (fun q => f_X7_drawn_E132 q.1 q.2))
  else
  (some ((-2), h)))
noncomputable def f_X7_keep (tv900 : Int32) (h : tr_H) : Option (Int32 × tr_H) :=
  if tv900 < 0 then
  (some ((-1), h))
  else
  (if tv900 < 2 then
  (tr_gd tv900 2 <|
  tr_bn (f_X2_copyFrom (6 + 2 * tv900.toNatClampNeg) 2 h) fun th5 =>
  tr_gd tv900 2 <|
  tr_bd (tr_si th5 11 tv900.toNatClampNeg 1) fun th7 =>
  tr_bn (f_X2_waits 2 th7) fun tv9 =>
  some (tv9, th7))
  else
  (some ((-1), h)))
noncomputable def f_X7_again (tv900 : Int32) (h : tr_H) : Option (Int32 × tr_H) :=
  if tv900 < 0 then
  (some ((-1), h))
  else
  (if tv900 < 2 then
  (tr_gd tv900 2 <|
  if (h.1 11 tv900.toNatClampNeg) = 0 then
  (some ((-3), h))
  else
  (tr_gd tv900 2 <|
  tr_bn (f_X2_copyFrom 2 (6 + 2 * tv900.toNatClampNeg) h) fun th7 =>
  tr_bn (f_X1_forget th7) fun th9 =>
  tr_bn (f_X2_waits 2 th9) fun tv11 =>
  some (tv11, th9)))
  else
  (some ((-1), h)))
end
section
noncomputable def f_X8_in (tv900 : Int64) (tv901 : Int64) (tv902 : Int64) : Option Int32 :=
  if (lg_cmp tv900 tv901) < 0 then
  (some 0)
  else
  (if 0 < (lg_cmp tv900 tv902) then
  (some 0)
  else
  (some 1))
noncomputable def f_X8_has (tv900 : Int32) (tv901 : Int32) : Option Int32 :=
  if ((tv900 >>> (tv901 &&& 31)) &&& 1) = 1 then
  (some 1)
  else
  (some 0)
noncomputable def f_X8_many_E24 (tv1 : Int32) : Option Int32 :=
  some tv1
noncomputable def f_X8_many_L4 (tv2 : Int32) (tv3 : Int64) : Option ((Int32 × Int64) ⊕ Int32) :=
  if (lg_cmp tv3 0) ≤ 0 then
  (some (.inr tv2))
  else
  (tr_bd (tv2 + ((tv3 &&& 1 : Int64).toInt32)) fun tv5 =>
  tr_bd (tv3 >>> ((1 : Int32).toInt64 &&& 63)) fun tv6 =>
  some (.inl (tv5, tv6)))
noncomputable def f_X8_many (tv900 : Int64) : Option Int32 :=
  tr_bn (tr_lp (fun q => f_X8_many_L4 q.1 q.2) (0, tv900)) (fun q => f_X8_many_E24 q)
noncomputable def f_X8_power_E19 (tv1 : Int32) : Option Int32 :=
  some tv1
noncomputable def f_X8_power_L4 (tv901 : Int32) (tv900 : Int32) (tv2 : Int32) (tv3 : Int32) : Option ((Int32 × Int32) ⊕ Int32) :=
  if tv901 ≤ tv3 then
  (some (.inr tv2))
  else
  (tr_bd (tv2 * tv900) fun tv5 =>
  tr_bd (tv3 + 1) fun tv6 =>
  some (.inl (tv5, tv6)))
noncomputable def f_X8_power (tv900 : Int32) (tv901 : Int32) : Option Int32 :=
  tr_bn (tr_lp (fun q => f_X8_power_L4 tv901 tv900 q.1 q.2) (1, 0)) (fun q => f_X8_power_E19 q)
noncomputable def f_X8_noDeparture (tv900 : Int32) (h : tr_H) : Option Int32 :=
  tr_bn (f_X8_in ((tv900 : Int32).toInt64) 0 (((h.1 3 ((0 : Int32).toNatClampNeg)) - 1 : Int32).toInt64)) fun tv2 =>
  if tv2 = 0 then
  (some 1)
  else
  (some 0)
noncomputable def f_X8_minutesOf (tn1 : Nat) (tv901 : Int32) (tv902 : Int32) (h : tr_H) : Option Int32 :=
  tr_bd ((1 + (6 * tv901)) + tv902) fun tv1 =>
  tr_gd tv1 37 <|
  some ((h.1 tn1 tv1.toNatClampNeg) - 1)
noncomputable def f_X8_isThere (tn1 : Nat) (tv901 : Int32) (tv902 : Int32) (h : tr_H) : Option Int32 :=
  tr_bn (f_X8_minutesOf tn1 tv901 tv902 h) fun tv2 =>
  if tv2 < 0 then
  (some 0)
  else
  (some 1)
noncomputable def f_X8_write (tv900 : Int32) (h : tr_H) : Option (Int32 × tr_H) :=
  tr_bd (tr_si h 0 0 0) fun th1 =>
  tr_bn (f_X8_in ((tv900 : Int32).toInt64) 0 255) fun tv3 =>
  if tv3 = 0 then
  (some ((-2), th1))
  else
  (if (th1.1 0 2) = 64 then
  (some ((-4), th1))
  else
  (tr_bd (th1.1 0 2) fun tv6 =>
  tr_gd tv6 64 <|
  tr_bd (tr_si th1 1 tv6.toNatClampNeg tv900) fun th8 =>
  tr_bd (tr_si th8 0 2 ((th8.1 0 2) + 1)) fun th9 =>
  some (th9.1 0 2, th9)))
noncomputable def f_X8_wipe (h : tr_H) : Option (Int32 × tr_H) :=
  tr_bd (tr_si h 0 0 0) fun th1 =>
  tr_bd (th1.1 0 2) fun tv2 =>
  tr_bd (tr_si th1 0 2 0) fun th3 =>
  some (tv2, th3)
noncomputable def f_X8_figure (tv900 : Int32) (h : tr_H) : Option (Int32 × tr_H) :=
  if (h.1 0 3) = (h.1 0 2) then
  (some ((-9), h))
  else
  (tr_bd (h.1 0 3) fun tv2 =>
  tr_gd tv2 64 <|
  tr_bn (f_X8_in (((h.1 1 tv2.toNatClampNeg) - 48 : Int32).toInt64) 0 ((tv900 : Int32).toInt64)) fun tv5 =>
  if tv5 = 0 then
  (some ((-9), h))
  else
  (tr_bd (tr_si h 0 3 ((h.1 0 3) + 1)) fun th7 =>
  tr_bd ((th7.1 0 3) - 1) fun tv8 =>
  tr_gd tv8 64 <|
  some ((th7.1 1 tv8.toNatClampNeg) - 48, th7)))
noncomputable def f_X8_waitsFrom_E34 (tv1 : Int32) : Option Int32 :=
  some tv1
noncomputable def f_X8_waitsFrom_L4 (h : tr_H) (tn1 : Nat) (tv901 : Int32) (tv2 : Int32) (tv3 : Int32) : Option ((Int32 × Int32) ⊕ Int32) :=
  if (h.1 tn1 ((0 : Int32).toNatClampNeg)) ≤ tv3 then
  (some (.inr tv2))
  else
  (tr_bn (f_X8_isThere tn1 tv901 tv3 h) fun tv6 =>
  if tv6 = 0 then
  (tr_bd (tv2 + 0) fun tv8 =>
  tr_bd (tv3 + 1) fun tv9 =>
  some (.inl (tv8, tv9)))
  else
  (tr_bd (tv2 + 1) fun tv10 =>
  tr_bd (tv3 + 1) fun tv11 =>
  some (.inl (tv10, tv11))))
noncomputable def f_X8_waitsFrom (tn1 : Nat) (tv901 : Int32) (h : tr_H) : Option Int32 :=
  tr_bn (tr_lp (fun q => f_X8_waitsFrom_L4 h tn1 tv901 q.1 q.2) (0, 0)) (fun q => f_X8_waitsFrom_E34 q)
noncomputable def f_X8_readWait_J131 (tv3 : Int32) (tv12 : Int32) (th20 : tr_H) (tv19 : Int32) (tv21 : Int32) : Option (Int32 × tr_H) :=
  tr_bd ((1 + (6 * tv3)) + tv12) fun tv22 =>
  tr_gd tv22 37 <|
  tr_bd (tr_si th20 2 tv22.toNatClampNeg tv21) fun th24 =>
  tr_bd (tr_si th24 0 4 ((th24.1 0 4) + 1)) fun th25 =>
  if tv19 = (-9) then
  (some (0, th25))
  else
  (some (1, th25))
noncomputable def f_X8_readWait (h : tr_H) : Option (Int32 × tr_H) :=
  tr_bd (h.1 2 ((0 : Int32).toNatClampNeg)) fun tv1 =>
  tr_b2 (f_X8_figure (tv1 - 1) h) fun tv3 th4 =>
  if tv3 = (-9) then
  (some (0, th4))
  else
  (if (th4.1 0 4) = 12 then
  (tr_bd (tr_si th4 0 3 ((th4.1 0 3) - 1)) fun th7 =>
  some (0, th7))
  else
  (tr_bn (f_X8_waitsFrom 2 tv3 th4) fun tv9 =>
  if tv9 = tv1 then
  (tr_bd (tr_si th4 0 3 ((th4.1 0 3) - 1)) fun th29 =>
  some (0, th29))
  else
  (tr_b2 (f_X8_figure (tv1 - 1) th4) fun tv12 th13 =>
  if tv12 = (-9) then
  (some (0, th13))
  else
  (tr_bn (f_X8_isThere 2 tv3 tv12 th13) fun tv16 =>
  if tv16 = 0 then
  (tr_b2 (f_X8_figure 9 th13) fun tv19 th20 =>
  if 0 ≤ (tv19 + 1) then
  (f_X8_readWait_J131 tv3 tv12 th20 tv19 (tv19 + 1))
  else
  (f_X8_readWait_J131 tv3 tv12 th20 tv19 0))
  else
  (tr_bd (tr_si th13 0 3 ((th13.1 0 3) - 1)) fun th28 =>
  some (0, th28))))))
noncomputable def f_X8_readNet_E95 (th11 : tr_H) : Option (Int32 × tr_H) :=
  some ((-9), th11)
noncomputable def f_X8_readNet_L72 (th12 : tr_H) : Option (tr_H ⊕ (tr_H ⊕ (Int32 × tr_H))) :=
  if (th12.1 0 2) ≤ (th12.1 0 3) then
  (some (.inr (.inl th12)))
  else
  (tr_b2 (f_X8_readWait th12) fun tv15 th16 =>
  if tv15 = 0 then
  (some (.inr (.inr (th16.1 0 3, th16))))
  else
  (some (.inl th16)))
noncomputable def f_X8_readNet_E21 (th1 : tr_H) : Option (Int32 × tr_H) :=
  tr_bd (tr_si th1 0 4 0) fun th2 =>
  if (th2.1 0 2) = 0 then
  (some (0, th2))
  else
  (if (th2.1 1 ((0 : Int32).toNatClampNeg)) = 78 then
  (tr_bd (tr_si th2 0 3 1) fun th5 =>
  tr_b2 (f_X8_figure 6 th5) fun tv7 th8 =>
  if 1 ≤ tv7 then
  (tr_bd (tr_si th8 2 ((0 : Int32).toNatClampNeg) tv7) fun th10 =>
  tr_bn (tr_lp (fun q => f_X8_readNet_L72 q) th10) (fun q => Sum.elim (fun x => f_X8_readNet_E95 x) (fun x => some x) q))
  else
  (some (1, th8)))
  else
  (some (0, th2)))
noncomputable def f_X8_readNet_L2 (tv18 : Int32) (th19 : tr_H) : Option ((Int32 × tr_H) ⊕ tr_H) :=
  if 37 ≤ tv18 then
  (some (.inr th19))
  else
  (tr_gd tv18 37 <|
  tr_bd (tr_si th19 2 tv18.toNatClampNeg 0) fun th22 =>
  tr_bd (tv18 + 1) fun tv23 =>
  some (.inl (tv23, th22)))
noncomputable def f_X8_readNet (h : tr_H) : Option (Int32 × tr_H) :=
  tr_bn (tr_lp (fun q => f_X8_readNet_L2 q.1 q.2) (0, h)) (fun q => f_X8_readNet_E21 q)
noncomputable def f_X8_fault (h : tr_H) : Option (Int32 × tr_H) :=
  tr_bd (tr_si h 0 0 0) fun th1 =>
  tr_b2 (f_X8_readNet th1) fun tv3 th4 =>
  some (tv3, th4)
noncomputable def f_X8_waits_E30 (tv1 : Int32) : Option Int32 :=
  some tv1
noncomputable def f_X8_waits_L4 (h : tr_H) (tn1 : Nat) (tv2 : Int32) (tv3 : Int32) : Option ((Int32 × Int32) ⊕ Int32) :=
  if 37 ≤ tv3 then
  (some (.inr tv2))
  else
  (tr_gd tv3 37 <|
  if (h.1 tn1 tv3.toNatClampNeg) ≤ 0 then
  (tr_bd (tv2 + 0) fun tv7 =>
  tr_bd (tv3 + 1) fun tv8 =>
  some (.inl (tv7, tv8)))
  else
  (tr_bd (tv2 + 1) fun tv9 =>
  tr_bd (tv3 + 1) fun tv10 =>
  some (.inl (tv9, tv10))))
noncomputable def f_X8_waits (tn1 : Nat) (h : tr_H) : Option Int32 :=
  tr_bn (tr_lp (fun q => f_X8_waits_L4 h tn1 q.1 q.2) (0, 1)) (fun q => f_X8_waits_E30 q)
noncomputable def f_X8_net_E43 (th6 : tr_H) : Option (Int32 × tr_H) :=
  tr_bd (tr_si th6 0 9 0) fun th7 =>
  tr_bd (tr_si th7 7 ((0 : Int32).toNatClampNeg) 0) fun th8 =>
  tr_bd (tr_si th8 7 ((1 : Int32).toNatClampNeg) 0) fun th9 =>
  tr_bn (f_X8_waits 3 th9) fun tv11 =>
  some (tv11, th9)
noncomputable def f_X8_net_L19 (tv12 : Int32) (th13 : tr_H) : Option ((Int32 × tr_H) ⊕ tr_H) :=
  if 37 ≤ tv12 then
  (some (.inr th13))
  else
  (tr_gd tv12 37 <|
  tr_gd tv12 37 <|
  tr_bd (tr_si th13 3 tv12.toNatClampNeg (th13.1 2 tv12.toNatClampNeg)) fun th17 =>
  tr_bd (tv12 + 1) fun tv18 =>
  some (.inl (tv18, th17)))
noncomputable def f_X8_net (h : tr_H) : Option (Int32 × tr_H) :=
  tr_bd (tr_si h 0 0 0) fun th1 =>
  tr_b2 (f_X8_readNet th1) fun tv3 th4 =>
  if tv3 = (-9) then
  (tr_bn (tr_lp (fun q => f_X8_net_L19 q.1 q.2) (0, th4)) (fun q => f_X8_net_E43 q))
  else
  (some ((-3), th4))
noncomputable def f_X8_closeRing_J161 (tv6 : Int32) (tv1 : Int32) (tv901 : Int32) (tv2 : Int64) (tv3 : Int32) (th7 : tr_H) : Option tr_H :=
  if tv6 = 0 then
  (if (tv1 * (th7.1 0 19)) = ((th7.1 0 18) * tv901) then
  (tr_bd (tr_sl th7 0 20 ((th7.2 0 20) ||| tv2)) fun th12 =>
  tr_bd (tr_si th12 0 21 ((th12.1 0 21) ||| tv3)) fun th13 =>
  some th13)
  else
  (some th7))
  else
  (tr_bd (tr_sl th7 0 20 ((th7.2 0 20) ||| tv2)) fun th9 =>
  tr_bd (tr_si th9 0 21 ((th9.1 0 21) ||| tv3)) fun th10 =>
  some th10)
noncomputable def f_X8_closeRing_J134 (tv1 : Int32) (tv901 : Int32) (tv2 : Int64) (tv3 : Int32) (th5 : tr_H) (tv6 : Int32) : Option tr_H :=
  if tv6 = 0 then
  (f_X8_closeRing_J161 tv6 tv1 tv901 tv2 tv3 th5)
  else
  (tr_bd (tr_si th5 0 18 tv1) fun th15 =>
  tr_bd (tr_si th15 0 19 tv901) fun th16 =>
  tr_bd (tr_sl th16 0 20 0) fun th17 =>
  tr_bd (tr_si th17 0 21 0) fun th18 =>
  f_X8_closeRing_J161 tv6 tv1 tv901 tv2 tv3 th18)
noncomputable def f_X8_closeRing_J129 (tv1 : Int32) (tv901 : Int32) (tv2 : Int64) (tv3 : Int32) (th5 : tr_H) : Option tr_H :=
  f_X8_closeRing_J134 tv1 tv901 tv2 tv3 th5 1
noncomputable def f_X8_closeRing_E86 (h : tr_H) (tv901 : Int32) (tv1 : Int32) (tv2 : Int64) (tv3 : Int32) : Option tr_H :=
  tr_bd (tr_si h 0 17 ((h.1 0 17) + 1)) fun th4 =>
  tr_bd (tr_sl th4 0 22 ((th4.2 0 22) ||| tv2)) fun th5 =>
  if (th5.1 0 19) = 0 then
  (f_X8_closeRing_J129 tv1 tv901 tv2 tv3 th5)
  else
  (if (tv1 * (th5.1 0 19)) ≤ ((th5.1 0 18) * tv901) then
  (f_X8_closeRing_J134 tv1 tv901 tv2 tv3 th5 0)
  else
  (f_X8_closeRing_J129 tv1 tv901 tv2 tv3 th5))
noncomputable def f_X8_closeRing_L11 (tv901 : Int32) (h : tr_H) (tn1 : Nat) (tv21 : Int32) (tv22 : Int64) (tv23 : Int32) (tv24 : Int32) : Option ((Int32 × Int64 × Int32 × Int32) ⊕ (Int32 × Int64 × Int32)) :=
  if tv901 ≤ tv24 then
  (some (.inr (tv21, tv22, tv23)))
  else
  (tr_nz tv901 <|
  tr_bd ((tv24 + 1) - (tv24 + 1) / tv901 * tv901) fun tv27 =>
  tr_gd tv27 6 <|
  tr_bd (h.1 11 tv27.toNatClampNeg) fun tv29 =>
  tr_gd tv24 6 <|
  tr_bn (f_X8_minutesOf tn1 (h.1 11 tv24.toNatClampNeg) tv29 h) fun tv32 =>
  tr_bd (tv21 + tv32) fun tv33 =>
  tr_gd tv24 6 <|
  tr_bd (tv22 ||| (1 <<< (((6 * (h.1 11 tv24.toNatClampNeg)) + tv29 : Int32).toInt64 &&& 63))) fun tv35 =>
  tr_gd tv24 6 <|
  tr_bd (tv23 ||| (1 <<< ((h.1 11 tv24.toNatClampNeg) &&& 31))) fun tv37 =>
  tr_bd (tv24 + 1) fun tv38 =>
  some (.inl (tv33, tv35, tv37, tv38)))
noncomputable def f_X8_closeRing (tn1 : Nat) (tv901 : Int32) (h : tr_H) : Option tr_H :=
  tr_bn (tr_lp (fun q => f_X8_closeRing_L11 tv901 h tn1 q.1 q.2.1 q.2.2.1 q.2.2.2) (0, 0, 0, 0)) (fun q => f_X8_closeRing_E86 h tv901 q.1 q.2.1 q.2.2)
noncomputable def f_X8_isIn_E35 (tv1 : Int32) : Option Int32 :=
  tr_zb tv1 <|
  some tv1
noncomputable def f_X8_isIn_L5 (tv901 : Int32) (h : tr_H) (tv902 : Int32) (tv3 : Int32) (tv4 : Int32) : Option ((Int32 × Int32) ⊕ Int32) :=
  if tv901 ≤ tv4 then
  (some (.inr tv3))
  else
  (if tv3 = 0 then
  (tr_gd tv4 6 <|
  if (h.1 11 tv4.toNatClampNeg) = tv902 then
  (tr_bd (tv4 + 1) fun tv11 =>
  some (.inl (1, tv11)))
  else
  (tr_bd (tv4 + 1) fun tv10 =>
  some (.inl (0, tv10))))
  else
  (tr_bd (tv4 + 1) fun tv7 =>
  some (.inl (1, tv7))))
noncomputable def f_X8_isIn (tv901 : Int32) (tv902 : Int32) (h : tr_H) : Option Int32 :=
  tr_bn (tr_lp (fun q => f_X8_isIn_L5 tv901 h tv902 q.1 q.2) (0, 0)) (fun q => f_X8_isIn_E35 q)
noncomputable def f_X8_ringsFrom_E155 (th3 : tr_H) : Option tr_H :=
  some th3
noncomputable def f_X8_ringsFrom_J98 (tn1 : Nat) (tv9 : Int32) (tv12 : Int32) (th16 : tr_H) (tv4 : Int32) (tv902 : Int32) (tv901 : Int32) : Option ((Int32 × tr_H) ⊕ tr_H) :=
  tr_bn (f_X8_isThere tn1 tv9 tv12 th16) fun tv19 =>
  if tv19 = 0 then
  (some (.inl (tv4, th16)))
  else
  (tr_bn (f_X8_has tv902 tv12) fun tv22 =>
  if tv22 = 0 then
  (some (.inl (tv4, th16)))
  else
  (tr_bn (f_X8_isIn tv4 tv12 th16) fun tv25 =>
  if tv25 = 0 then
  (tr_gd tv4 6 <|
  tr_bd (tr_si th16 11 tv4.toNatClampNeg tv12) fun th28 =>
  tr_gd tv4 6 <|
  tr_bd (tr_si th28 12 tv4.toNatClampNeg tv901) fun th30 =>
  tr_bd (tv4 + 1) fun tv31 =>
  some (.inl (tv31, th30)))
  else
  (some (.inl (tv4, th16)))))
noncomputable def f_X8_ringsFrom_L17 (tn1 : Nat) (tv901 : Int32) (tv902 : Int32) (tv4 : Int32) (th5 : tr_H) : Option ((Int32 × tr_H) ⊕ tr_H) :=
  if tv4 ≤ 0 then
  (some (.inr th5))
  else
  (tr_bd (tv4 - 1) fun tv7 =>
  tr_gd tv7 6 <|
  tr_bd (th5.1 11 tv7.toNatClampNeg) fun tv9 =>
  tr_bd (tv4 - 1) fun tv10 =>
  tr_gd tv10 6 <|
  tr_bd (th5.1 12 tv10.toNatClampNeg) fun tv12 =>
  tr_bd (tv4 - 1) fun tv13 =>
  tr_gd tv13 6 <|
  tr_gd tv13 6 <|
  tr_bd (tr_si th5 12 tv13.toNatClampNeg ((th5.1 12 tv13.toNatClampNeg) + 1)) fun th16 =>
  if tv12 < (th16.1 tn1 ((0 : Int32).toNatClampNeg)) then
  (if tv12 = tv901 then
  (tr_bn (f_X8_isThere tn1 tv9 tv12 th16) fun tv34 =>
  if tv34 = 0 then
  (f_X8_ringsFrom_J98 tn1 tv9 tv12 th16 tv4 tv902 tv901)
  else
  (tr_bn (f_X8_closeRing tn1 tv4 th16) fun th37 =>
  some (.inl (tv4, th37))))
  else
  (f_X8_ringsFrom_J98 tn1 tv9 tv12 th16 tv4 tv902 tv901))
  else
  (tr_bd (tv4 + (-1)) fun tv38 =>
  some (.inl (tv38, th16))))
noncomputable def f_X8_ringsFrom (tn1 : Nat) (tv901 : Int32) (tv902 : Int32) (h : tr_H) : Option tr_H :=
  tr_bd (tr_si h 11 ((0 : Int32).toNatClampNeg) tv901) fun th1 =>
  tr_bd (tr_si th1 12 ((0 : Int32).toNatClampNeg) tv901) fun th2 =>
  tr_bn (tr_lp (fun q => f_X8_ringsFrom_L17 tn1 tv901 tv902 q.1 q.2) (1, th2)) (fun q => f_X8_ringsFrom_E155 q)
noncomputable def f_X8_findRings_E60 (th7 : tr_H) : Option tr_H :=
  some th7
noncomputable def f_X8_findRings_L32 (tn1 : Nat) (tv901 : Int32) (tv8 : Int32) (th9 : tr_H) : Option ((Int32 × tr_H) ⊕ tr_H) :=
  if (th9.1 tn1 ((0 : Int32).toNatClampNeg)) ≤ tv8 then
  (some (.inr th9))
  else
  (tr_bn (f_X8_has tv901 tv8) fun tv12 =>
  if tv12 = 0 then
  (tr_bd (tv8 + 1) fun tv14 =>
  some (.inl (tv14, th9)))
  else
  (tr_bn (f_X8_ringsFrom tn1 tv8 tv901 th9) fun th16 =>
  tr_bd (tv8 + 1) fun tv17 =>
  some (.inl (tv17, th16))))
noncomputable def f_X8_findRings (tn1 : Nat) (tv901 : Int32) (h : tr_H) : Option tr_H :=
  tr_bd (tr_si h 0 17 0) fun th1 =>
  tr_bd (tr_si th1 0 18 0) fun th2 =>
  tr_bd (tr_si th2 0 19 0) fun th3 =>
  tr_bd (tr_sl th3 0 20 0) fun th4 =>
  tr_bd (tr_si th4 0 21 0) fun th5 =>
  tr_bd (tr_sl th5 0 22 0) fun th6 =>
  tr_bn (tr_lp (fun q => f_X8_findRings_L32 tn1 tv901 q.1 q.2) (0, th6)) (fun q => f_X8_findRings_E60 q)
noncomputable def f_X8_find (tn1 : Nat) (h : tr_H) : Option tr_H :=
  tr_bn (f_X8_findRings tn1 63 h) fun th2 =>
  some th2
noncomputable def f_X8_isPeriod (tn1 : Nat) (tv901 : Int32) (h : tr_H) : Option (Int32 × tr_H) :=
  tr_bn (f_X8_find tn1 h) fun th2 =>
  if (th2.1 0 19) = 0 then
  (some (1, th2))
  else
  (if (tv901 * (th2.1 0 19)) < (th2.1 0 18) then
  (some (0, th2))
  else
  (some (1, th2)))
noncomputable def f_X8_leastPeriod_E20 (tv1 : Int32) (th2 : tr_H) : Option (Int32 × tr_H) :=
  some (tv1, th2)
noncomputable def f_X8_leastPeriod_L2 (tv3 : Int32) (th4 : tr_H) : Option ((Int32 × tr_H) ⊕ (Int32 × tr_H)) :=
  tr_b2 (f_X8_isPeriod 3 tv3 th4) fun tv6 th7 =>
  if tv6 = 0 then
  (tr_bd (tv3 + 1) fun tv9 =>
  some (.inl (tv9, th7)))
  else
  (some (.inr (tv3, th7)))
noncomputable def f_X8_leastPeriod (h : tr_H) : Option (Int32 × tr_H) :=
  tr_bn (tr_lp (fun q => f_X8_leastPeriod_L2 q.1 q.2) (0, h)) (fun q => f_X8_leastPeriod_E20 q.1 q.2)
noncomputable def f_X8_about (tv900 : Int32) (h : tr_H) : Option (Int32 × tr_H) :=
  tr_bd (tr_si h 0 0 0) fun th1 =>
  tr_bn (f_X8_find 3 th1) fun th3 =>
  if tv900 = 0 then
  (some (th3.1 3 ((0 : Int32).toNatClampNeg), th3))
  else
  if tv900 = 1 then
  (tr_bn (f_X8_waits 3 th3) fun tv7 =>
  some (tv7, th3))
  else
  if tv900 = 2 then
  (some (th3.1 0 17, th3))
  else
  if tv900 = 3 then
  (tr_bn (f_X8_waits 3 th3) fun tv11 =>
  tr_bn (f_X8_many (th3.2 0 22)) fun tv13 =>
  some (tv11 - tv13, th3))
  else
  if tv900 = 4 then
  (tr_bn (f_X8_many (th3.2 0 20)) fun tv16 =>
  some (tv16, th3))
  else
  if tv900 = 5 then
  (some (th3.1 0 21, th3))
  else
  if tv900 = 6 then
  (tr_b2 (f_X8_leastPeriod th3) fun tv20 th21 =>
  some (tv20, th21))
  else
  if tv900 = 7 then
  (some (th3.1 0 9, th3))
  else
  if tv900 = 8 then
  (some (th3.1 0 12, th3))
  else
  if tv900 = 9 then
  (some (th3.1 0 2, th3))
  else
  (some ((-2), th3))
noncomputable def f_X8_minutes (tv900 : Int32) (tv901 : Int32) (h : tr_H) : Option (Int32 × tr_H) :=
  tr_bd (tr_si h 0 0 0) fun th1 =>
  tr_bn (f_X8_noDeparture tv900 th1) fun tv3 =>
  if tv3 = 0 then
  (tr_bn (f_X8_noDeparture tv901 th1) fun tv6 =>
  if tv6 = 0 then
  (tr_bn (f_X8_isThere 3 tv900 tv901 th1) fun tv9 =>
  if tv9 = 0 then
  (some ((-9), th1))
  else
  (tr_bn (f_X8_minutesOf 3 tv900 tv901 th1) fun tv12 =>
  some (tv12, th1)))
  else
  (some ((-1), th1)))
  else
  (some ((-1), th1))
noncomputable def f_X8_note_E83 (th2 : tr_H) : Option tr_H :=
  tr_bd (tr_si th2 0 9 ((th2.1 0 9) + 1)) fun th3 =>
  some th3
noncomputable def f_X8_note_L51 (tv4 : Int32) (th5 : tr_H) : Option ((Int32 × tr_H) ⊕ tr_H) :=
  if 37 ≤ tv4 then
  (some (.inr th5))
  else
  (tr_gd tv4 37 <|
  tr_bd ((37 * (th5.1 0 9)) + tv4) fun tv8 =>
  tr_gd tv8 518 <|
  tr_bd (tr_si th5 5 tv8.toNatClampNeg (th5.1 3 tv4.toNatClampNeg)) fun th10 =>
  tr_bd (tv4 + 1) fun tv11 =>
  some (.inl (tv11, th10)))
noncomputable def f_X8_note_J49 (th1 : tr_H) : Option tr_H :=
  tr_bn (tr_lp (fun q => f_X8_note_L51 q.1 q.2) (0, th1)) (fun q => f_X8_note_E83 q)
noncomputable def f_X8_note_E39 (th13 : tr_H) : Option tr_H :=
  tr_bd (tr_si th13 0 9 ((th13.1 0 9) - 1)) fun th14 =>
  f_X8_note_J49 th14
noncomputable def f_X8_note_L11 (tv15 : Int32) (th16 : tr_H) : Option ((Int32 × tr_H) ⊕ tr_H) :=
  if 481 ≤ tv15 then
  (some (.inr th16))
  else
  (tr_bd (tv15 + 37) fun tv18 =>
  tr_gd tv18 518 <|
  tr_gd tv15 518 <|
  tr_bd (tr_si th16 5 tv15.toNatClampNeg (th16.1 5 tv18.toNatClampNeg)) fun th21 =>
  tr_bd (tv15 + 1) fun tv22 =>
  some (.inl (tv22, th21)))
noncomputable def f_X8_note (h : tr_H) : Option tr_H :=
  if (h.1 0 9) = 14 then
  (tr_bn (tr_lp (fun q => f_X8_note_L11 q.1 q.2) (0, h)) (fun q => f_X8_note_E39 q))
  else
  (f_X8_note_J49 h)
noncomputable def f_X8_put (tv900 : Int32) (tv901 : Int32) (tv902 : Int32) (h : tr_H) : Option (Int32 × tr_H) :=
  tr_bd (tr_si h 0 0 0) fun th1 =>
  tr_bn (f_X8_noDeparture tv900 th1) fun tv3 =>
  if tv3 = 0 then
  (tr_bn (f_X8_noDeparture tv901 th1) fun tv6 =>
  if tv6 = 0 then
  (tr_bn (f_X8_in ((tv902 : Int32).toInt64) 0 9) fun tv9 =>
  if tv9 = 0 then
  (some ((-2), th1))
  else
  (tr_bn (f_X8_isThere 3 tv900 tv901 th1) fun tv12 =>
  if tv12 = 0 then
  (tr_bn (f_X8_note th1) fun th15 =>
  tr_bd ((1 + (6 * tv900)) + tv901) fun tv16 =>
  tr_gd tv16 37 <|
  tr_bd (tr_si th15 3 tv16.toNatClampNeg (tv902 + 1)) fun th18 =>
  tr_bn (f_X8_waits 3 th18) fun tv20 =>
  some (tv20, th18))
  else
  (some ((-3), th1))))
  else
  (some ((-1), th1)))
  else
  (some ((-1), th1))
noncomputable def f_X8_cut (tv900 : Int32) (tv901 : Int32) (h : tr_H) : Option (Int32 × tr_H) :=
  tr_bd (tr_si h 0 0 0) fun th1 =>
  tr_bn (f_X8_noDeparture tv900 th1) fun tv3 =>
  if tv3 = 0 then
  (tr_bn (f_X8_noDeparture tv901 th1) fun tv6 =>
  if tv6 = 0 then
  (tr_bn (f_X8_isThere 3 tv900 tv901 th1) fun tv9 =>
  if tv9 = 0 then
  (some ((-3), th1))
  else
  (tr_bn (f_X8_note th1) fun th12 =>
  tr_bn (f_X8_minutesOf 3 tv900 tv901 th12) fun tv14 =>
  tr_bd ((1 + (6 * tv900)) + tv901) fun tv15 =>
  tr_gd tv15 37 <|
  tr_bd (tr_si th12 3 tv15.toNatClampNeg 0) fun th17 =>
  some (tv14, th17)))
  else
  (some ((-1), th1)))
  else
  (some ((-1), th1))
noncomputable def f_X8_time (tv900 : Int32) (tv901 : Int32) (tv902 : Int32) (h : tr_H) : Option (Int32 × tr_H) :=
  tr_bd (tr_si h 0 0 0) fun th1 =>
  tr_bn (f_X8_noDeparture tv900 th1) fun tv3 =>
  if tv3 = 0 then
  (tr_bn (f_X8_noDeparture tv901 th1) fun tv6 =>
  if tv6 = 0 then
  (tr_bn (f_X8_in ((tv902 : Int32).toInt64) 0 9) fun tv9 =>
  if tv9 = 0 then
  (some ((-2), th1))
  else
  (tr_bn (f_X8_isThere 3 tv900 tv901 th1) fun tv12 =>
  if tv12 = 0 then
  (some ((-3), th1))
  else
  (tr_bn (f_X8_note th1) fun th15 =>
  tr_bn (f_X8_minutesOf 3 tv900 tv901 th15) fun tv17 =>
  tr_bd ((1 + (6 * tv900)) + tv901) fun tv18 =>
  tr_gd tv18 37 <|
  tr_bd (tr_si th15 3 tv18.toNatClampNeg (tv902 + 1)) fun th20 =>
  some (tv17, th20))))
  else
  (some ((-1), th1)))
  else
  (some ((-1), th1))
noncomputable def f_X8_undo_E59 (th4 : tr_H) : Option (Int32 × tr_H) :=
  some (th4.1 0 9, th4)
noncomputable def f_X8_undo_L27 (tv5 : Int32) (th6 : tr_H) : Option ((Int32 × tr_H) ⊕ tr_H) :=
  if 37 ≤ tv5 then
  (some (.inr th6))
  else
  (tr_bd ((37 * (th6.1 0 9)) + tv5) fun tv8 =>
  tr_gd tv8 518 <|
  tr_gd tv5 37 <|
  tr_bd (tr_si th6 3 tv5.toNatClampNeg (th6.1 5 tv8.toNatClampNeg)) fun th11 =>
  tr_bd (tv5 + 1) fun tv12 =>
  some (.inl (tv12, th11)))
noncomputable def f_X8_undo (h : tr_H) : Option (Int32 × tr_H) :=
  tr_bd (tr_si h 0 0 0) fun th1 =>
  if (th1.1 0 9) = 0 then
  (some ((-3), th1))
  else
  (tr_bd (tr_si th1 0 9 ((th1.1 0 9) - 1)) fun th3 =>
  tr_bn (tr_lp (fun q => f_X8_undo_L27 q.1 q.2) (0, th3)) (fun q => f_X8_undo_E59 q))
noncomputable def f_X8_divisor_E30 (tv2 : Int32) : Option Int32 :=
  some tv2
noncomputable def f_X8_divisor_L13 (tv3 : Int32) (tv4 : Int32) : Option ((Int32 × Int32) ⊕ Int32) :=
  if tv4 = 0 then
  (some (.inr tv3))
  else
  (tr_nz tv4 <|
  tr_bd (tv3 - tv3 / tv4 * tv4) fun tv7 =>
  some (.inl (tv4, tv7)))
noncomputable def f_X8_divisor_J10 (tv901 : Int32) (tv1 : Int32) : Option Int32 :=
  tr_bn (tr_lp (fun q => f_X8_divisor_L13 q.1 q.2) (tv1, tv901)) (fun q => f_X8_divisor_E30 q)
noncomputable def f_X8_divisor (tv900 : Int32) (tv901 : Int32) : Option Int32 :=
  if 0 ≤ tv900 then
  (f_X8_divisor_J10 tv901 tv900)
  else
  (f_X8_divisor_J10 tv901 (-tv900))
noncomputable def f_X8_fraction (tv900 : Int32) (tv901 : Int32) (tv902 : Int32) : Option Int32 :=
  tr_bn (f_X8_divisor tv900 tv901) fun tv2 =>
  if tv902 = 0 then
  (tr_nz tv2 <|
  some (tv901 / tv2))
  else
  (tr_nz tv2 <|
  some (tv900 / tv2))
noncomputable def f_X8_pace (tv900 : Int32) (h : tr_H) : Option (Int32 × tr_H) :=
  tr_bd (tr_si h 0 0 0) fun th1 =>
  tr_bn (f_X8_find 3 th1) fun th3 =>
  if (th3.1 0 19) = 0 then
  (some ((-9), th3))
  else
  (tr_bn (f_X8_fraction (th3.1 0 18) (th3.1 0 19) tv900) fun tv6 =>
  some (tv6, th3))
noncomputable def f_X8_critical (tv900 : Int32) (tv901 : Int32) (h : tr_H) : Option (Int32 × tr_H) :=
  tr_bd (tr_si h 0 0 0) fun th1 =>
  tr_bn (f_X8_noDeparture tv900 th1) fun tv3 =>
  if tv3 = 0 then
  (tr_bn (f_X8_noDeparture tv901 th1) fun tv6 =>
  if tv6 = 0 then
  (tr_bn (f_X8_isThere 3 tv900 tv901 th1) fun tv9 =>
  if tv9 = 0 then
  (some ((-3), th1))
  else
  (tr_bn (f_X8_find 3 th1) fun th12 =>
  some ((((th12.2 0 20) >>> (((6 * tv900) + tv901 : Int32).toInt64 &&& 63)) &&& 1 : Int64).toInt32, th12)))
  else
  (some ((-1), th1)))
  else
  (some ((-1), th1))
noncomputable def f_X8_layTimes_E131 (th2 : tr_H) : Option tr_H :=
  some th2
noncomputable def f_X8_layTimes_E125 (tv3 : Int32) (th6 : tr_H) : Option ((Int32 × tr_H) ⊕ tr_H) :=
  tr_bd (tv3 + 1) fun tv7 =>
  some (.inl (tv7, th6))
noncomputable def f_X8_layTimes_E119 (tv8 : Int32) (th11 : tr_H) : Option ((Int32 × tr_H) ⊕ tr_H) :=
  tr_bd (tv8 + 1) fun tv12 =>
  some (.inl (tv12, th11))
noncomputable def f_X8_layTimes_L43 (tn1 : Nat) (tv8 : Int32) (tv901 : Int32) (tv13 : Int32) (th14 : tr_H) : Option ((Int32 × tr_H) ⊕ tr_H) :=
  if (th14.1 tn1 ((0 : Int32).toNatClampNeg)) ≤ tv13 then
  (some (.inr th14))
  else
  (tr_gd tv8 6 <|
  tr_bn (f_X8_minutesOf tn1 tv8 tv13 th14) fun tv18 =>
  tr_bd (((th14.1 13 tv8.toNatClampNeg) + tv18) - tv901) fun tv19 =>
  tr_bn (f_X8_isThere tn1 tv8 tv13 th14) fun tv21 =>
  if tv21 = 0 then
  (tr_gd tv13 6 <|
  tr_gd tv13 6 <|
  tr_bd (tr_si th14 13 tv13.toNatClampNeg (th14.1 13 tv13.toNatClampNeg)) fun th25 =>
  tr_bd (tv13 + 1) fun tv26 =>
  some (.inl (tv26, th25)))
  else
  (tr_gd tv13 6 <|
  if tv19 ≤ (th14.1 13 tv13.toNatClampNeg) then
  (tr_gd tv13 6 <|
  tr_gd tv13 6 <|
  tr_bd (tr_si th14 13 tv13.toNatClampNeg (th14.1 13 tv13.toNatClampNeg)) fun th31 =>
  tr_bd (tv13 + 1) fun tv32 =>
  some (.inl (tv32, th31)))
  else
  (tr_gd tv13 6 <|
  tr_bd (tr_si th14 13 tv13.toNatClampNeg tv19) fun th34 =>
  tr_bd (tv13 + 1) fun tv35 =>
  some (.inl (tv35, th34)))))
noncomputable def f_X8_layTimes_L32 (tn1 : Nat) (tv901 : Int32) (tv8 : Int32) (th9 : tr_H) : Option ((Int32 × tr_H) ⊕ tr_H) :=
  if (th9.1 tn1 ((0 : Int32).toNatClampNeg)) ≤ tv8 then
  (some (.inr th9))
  else
  (tr_bn (tr_lp (fun q => f_X8_layTimes_L43 tn1 tv8 tv901 q.1 q.2) (0, th9)) (fun q => f_X8_layTimes_E119 tv8 q))
noncomputable def f_X8_layTimes_L23 (tn1 : Nat) (tv901 : Int32) (tv3 : Int32) (th4 : tr_H) : Option ((Int32 × tr_H) ⊕ tr_H) :=
  if 6 ≤ tv3 then
  (some (.inr th4))
  else
  (tr_bn (tr_lp (fun q => f_X8_layTimes_L32 tn1 tv901 q.1 q.2) (0, th4)) (fun q => f_X8_layTimes_E125 tv3 q))
noncomputable def f_X8_layTimes_E21 (tn1 : Nat) (tv901 : Int32) (th1 : tr_H) : Option tr_H :=
  tr_bn (tr_lp (fun q => f_X8_layTimes_L23 tn1 tv901 q.1 q.2) (0, th1)) (fun q => f_X8_layTimes_E131 q)
noncomputable def f_X8_layTimes_L2 (tv36 : Int32) (th37 : tr_H) : Option ((Int32 × tr_H) ⊕ tr_H) :=
  if 6 ≤ tv36 then
  (some (.inr th37))
  else
  (tr_gd tv36 6 <|
  tr_bd (tr_si th37 13 tv36.toNatClampNeg 0) fun th40 =>
  tr_bd (tv36 + 1) fun tv41 =>
  some (.inl (tv41, th40)))
noncomputable def f_X8_layTimes (tn1 : Nat) (tv901 : Int32) (h : tr_H) : Option tr_H :=
  tr_bn (tr_lp (fun q => f_X8_layTimes_L2 q.1 q.2) (0, h)) (fun q => f_X8_layTimes_E21 tn1 tv901 q)
noncomputable def f_X8_spareOf (tn1 : Nat) (tv901 : Int32) (tv902 : Int32) (tv903 : Int32) (h : tr_H) : Option Int32 :=
  tr_gd tv902 6 <|
  tr_gd tv901 6 <|
  tr_bn (f_X8_minutesOf tn1 tv901 tv902 h) fun tv4 =>
  some ((((h.1 13 tv902.toNatClampNeg) + tv903) - (h.1 13 tv901.toNatClampNeg)) - tv4)
noncomputable def f_X8_departs (tv900 : Int32) (tv901 : Int32) (h : tr_H) : Option (Int32 × tr_H) :=
  tr_bd (tr_si h 0 0 0) fun th1 =>
  tr_bn (f_X8_noDeparture tv900 th1) fun tv3 =>
  if tv3 = 0 then
  (tr_bn (f_X8_in ((tv901 : Int32).toInt64) 0 20) fun tv6 =>
  if tv6 = 0 then
  (some ((-2), th1))
  else
  (tr_b2 (f_X8_isPeriod 3 tv901 th1) fun tv9 th10 =>
  if tv9 = 0 then
  (some ((-3), th10))
  else
  (tr_bn (f_X8_layTimes 3 tv901 th10) fun th13 =>
  tr_gd tv900 6 <|
  some (th13.1 13 tv900.toNatClampNeg, th13))))
  else
  (some ((-1), th1))
noncomputable def f_X8_spare (tv900 : Int32) (tv901 : Int32) (tv902 : Int32) (h : tr_H) : Option (Int32 × tr_H) :=
  tr_bd (tr_si h 0 0 0) fun th1 =>
  tr_bn (f_X8_noDeparture tv900 th1) fun tv3 =>
  if tv3 = 0 then
  (tr_bn (f_X8_noDeparture tv901 th1) fun tv6 =>
  if tv6 = 0 then
  (tr_bn (f_X8_in ((tv902 : Int32).toInt64) 0 20) fun tv9 =>
  if tv9 = 0 then
  (some ((-2), th1))
  else
  (tr_bn (f_X8_isThere 3 tv900 tv901 th1) fun tv12 =>
  if tv12 = 0 then
  (some ((-3), th1))
  else
  (tr_b2 (f_X8_isPeriod 3 tv902 th1) fun tv15 th16 =>
  if tv15 = 0 then
  (some ((-3), th16))
  else
  (tr_bn (f_X8_layTimes 3 tv902 th16) fun th19 =>
  tr_bn (f_X8_spareOf 3 tv900 tv901 tv902 th19) fun tv21 =>
  some (tv21, th19)))))
  else
  (some ((-1), th1)))
  else
  (some ((-1), th1))
noncomputable def f_X8_beginLate_E30 (th1 : tr_H) : Option tr_H :=
  some th1
noncomputable def f_X8_beginLate_L2 (tv900 : Int32) (tv901 : Int32) (tv2 : Int32) (th3 : tr_H) : Option ((Int32 × tr_H) ⊕ tr_H) :=
  if 6 ≤ tv2 then
  (some (.inr th3))
  else
  (if tv2 = tv900 then
  (tr_gd tv2 6 <|
  tr_bd (tr_si th3 14 tv2.toNatClampNeg tv901) fun th10 =>
  tr_bd (tv2 + 1) fun tv11 =>
  some (.inl (tv11, th10)))
  else
  (tr_gd tv2 6 <|
  tr_bd (tr_si th3 14 tv2.toNatClampNeg 0) fun th7 =>
  tr_bd (tv2 + 1) fun tv8 =>
  some (.inl (tv8, th7))))
noncomputable def f_X8_beginLate (tv900 : Int32) (tv901 : Int32) (h : tr_H) : Option tr_H :=
  tr_bn (tr_lp (fun q => f_X8_beginLate_L2 tv900 tv901 q.1 q.2) (0, h)) (fun q => f_X8_beginLate_E30 q)
noncomputable def f_X8_goRound_E157 (tv1 : Int32) (th3 : tr_H) : Option (Int32 × tr_H) :=
  some (tv1, th3)
noncomputable def f_X8_goRound_L130 (tv4 : Int32) (th5 : tr_H) : Option ((Int32 × tr_H) ⊕ tr_H) :=
  if 6 ≤ tv4 then
  (some (.inr th5))
  else
  (tr_gd tv4 6 <|
  tr_gd tv4 6 <|
  tr_bd (tr_si th5 14 tv4.toNatClampNeg (th5.1 15 tv4.toNatClampNeg)) fun th9 =>
  tr_bd (tv4 + 1) fun tv10 =>
  some (.inl (tv10, th9)))
noncomputable def f_X8_goRound_E127 (tv1 : Int32) (th2 : tr_H) : Option (Int32 × tr_H) :=
  tr_bn (tr_lp (fun q => f_X8_goRound_L130 q.1 q.2) (0, th2)) (fun q => f_X8_goRound_E157 tv1 q)
noncomputable def f_X8_goRound_E111 (tv12 : Int32) (tv11 : Int32) (th17 : tr_H) : Option ((Int32 × Int32 × tr_H) ⊕ (Int32 × tr_H)) :=
  tr_gd tv12 6 <|
  tr_bd (tv11 + (th17.1 15 tv12.toNatClampNeg)) fun tv19 =>
  tr_bd (tv12 + 1) fun tv20 =>
  some (.inl (tv19, tv20, th17))
noncomputable def f_X8_goRound_J72 (tv12 : Int32) (th22 : tr_H) (tv21 : Int32) (tv27 : Int32) : Option ((Int32 × tr_H) ⊕ tr_H) :=
  tr_gd tv12 6 <|
  if tv27 ≤ (th22.1 15 tv12.toNatClampNeg) then
  (tr_gd tv12 6 <|
  tr_gd tv12 6 <|
  tr_bd (tr_si th22 15 tv12.toNatClampNeg (th22.1 15 tv12.toNatClampNeg)) fun th32 =>
  tr_bd (tv21 + 1) fun tv33 =>
  some (.inl (tv33, th32)))
  else
  (tr_gd tv12 6 <|
  tr_bd (tr_si th22 15 tv12.toNatClampNeg tv27) fun th35 =>
  tr_bd (tv21 + 1) fun tv36 =>
  some (.inl (tv36, th35)))
noncomputable def f_X8_goRound_L23 (tn1 : Nat) (tv12 : Int32) (tv901 : Int32) (tv21 : Int32) (th22 : tr_H) : Option ((Int32 × tr_H) ⊕ tr_H) :=
  if (th22.1 tn1 ((0 : Int32).toNatClampNeg)) ≤ tv21 then
  (some (.inr th22))
  else
  (if (th22.1 tn1 ((0 : Int32).toNatClampNeg)) ≤ tv12 then
  (some (.inr th22))
  else
  (tr_bn (f_X8_isThere tn1 tv21 tv12 th22) fun tv26 =>
  if tv26 = 0 then
  (f_X8_goRound_J72 tv12 th22 tv21 0)
  else
  (tr_gd tv21 6 <|
  tr_bn (f_X8_spareOf tn1 tv21 tv12 tv901 th22) fun tv40 =>
  f_X8_goRound_J72 tv12 th22 tv21 ((th22.1 14 tv21.toNatClampNeg) - tv40))))
noncomputable def f_X8_goRound_L5 (tn1 : Nat) (tv901 : Int32) (tv11 : Int32) (tv12 : Int32) (th13 : tr_H) : Option ((Int32 × Int32 × tr_H) ⊕ (Int32 × tr_H)) :=
  if 6 ≤ tv12 then
  (some (.inr (tv11, th13)))
  else
  (tr_gd tv12 6 <|
  tr_bd (tr_si th13 15 tv12.toNatClampNeg 0) fun th16 =>
  tr_bn (tr_lp (fun q => f_X8_goRound_L23 tn1 tv12 tv901 q.1 q.2) (0, th16)) (fun q => f_X8_goRound_E111 tv12 tv11 q))
noncomputable def f_X8_goRound (tn1 : Nat) (tv901 : Int32) (h : tr_H) : Option (Int32 × tr_H) :=
  tr_bn (tr_lp (fun q => f_X8_goRound_L5 tn1 tv901 q.1 q.2.1 q.2.2) (0, 0, h)) (fun q => f_X8_goRound_E127 q.1 q.2)
noncomputable def f_X8_late_E120 (tv903 : Int32) (th25 : tr_H) : Option (Int32 × tr_H) :=
  tr_gd tv903 6 <|
  some (th25.1 14 tv903.toNatClampNeg, th25)
noncomputable def f_X8_late_L97 (tv904 : Int32) (tv902 : Int32) (tv27 : Int32) (th28 : tr_H) : Option ((Int32 × tr_H) ⊕ tr_H) :=
  if tv904 ≤ tv27 then
  (some (.inr th28))
  else
  (tr_b2 (f_X8_goRound 3 tv902 th28) fun tv31 th32 =>
  tr_bd (tv27 + 1) fun tv33 =>
  some (.inl (tv33, th32)))
noncomputable def f_X8_late (tv900 : Int32) (tv901 : Int32) (tv902 : Int32) (tv903 : Int32) (tv904 : Int32) (h : tr_H) : Option (Int32 × tr_H) :=
  tr_bd (tr_si h 0 0 0) fun th1 =>
  tr_bn (f_X8_noDeparture tv900 th1) fun tv3 =>
  if tv3 = 0 then
  (tr_bn (f_X8_noDeparture tv903 th1) fun tv6 =>
  if tv6 = 0 then
  (tr_bn (f_X8_in ((tv901 : Int32).toInt64) 1 30) fun tv9 =>
  if tv9 = 0 then
  (some ((-2), th1))
  else
  (tr_bn (f_X8_in ((tv902 : Int32).toInt64) 0 20) fun tv12 =>
  if tv12 = 0 then
  (some ((-2), th1))
  else
  (tr_bn (f_X8_in ((tv904 : Int32).toInt64) 0 40) fun tv15 =>
  if tv15 = 0 then
  (some ((-2), th1))
  else
  (tr_b2 (f_X8_isPeriod 3 tv902 th1) fun tv18 th19 =>
  if tv18 = 0 then
  (some ((-3), th19))
  else
  (tr_bn (f_X8_layTimes 3 tv902 th19) fun th22 =>
  tr_bn (f_X8_beginLate tv900 tv901 th22) fun th24 =>
  tr_bn (tr_lp (fun q => f_X8_late_L97 tv904 tv902 q.1 q.2) (0, th24)) (fun q => f_X8_late_E120 tv903 q))))))
  else
  (some ((-1), th1)))
  else
  (some ((-1), th1))
noncomputable def f_X8_diesOf_E42 (th5 : tr_H) : Option (Int32 × tr_H) :=
  some ((-9), th5)
noncomputable def f_X8_diesOf_L16 (tn1 : Nat) (tv903 : Int32) (tv6 : Int32) (th7 : tr_H) : Option ((Int32 × tr_H) ⊕ (tr_H ⊕ (Int32 × tr_H))) :=
  if 40 < tv6 then
  (some (.inr (.inl th7)))
  else
  (tr_b2 (f_X8_goRound tn1 tv903 th7) fun tv10 th11 =>
  if tv10 = 0 then
  (some (.inr (.inr (tv6, th11))))
  else
  (tr_bd (tv6 + 1) fun tv13 =>
  some (.inl (tv13, th11))))
noncomputable def f_X8_diesOf (tn1 : Nat) (tv901 : Int32) (tv902 : Int32) (tv903 : Int32) (h : tr_H) : Option (Int32 × tr_H) :=
  tr_bn (f_X8_layTimes tn1 tv903 h) fun th2 =>
  tr_bn (f_X8_beginLate tv901 tv902 th2) fun th4 =>
  tr_bn (tr_lp (fun q => f_X8_diesOf_L16 tn1 tv903 q.1 q.2) (1, th4)) (fun q => Sum.elim (fun x => f_X8_diesOf_E42 x) (fun x => some x) q)
noncomputable def f_X8_dies (tv900 : Int32) (tv901 : Int32) (tv902 : Int32) (h : tr_H) : Option (Int32 × tr_H) :=
  tr_bd (tr_si h 0 0 0) fun th1 =>
  tr_bn (f_X8_noDeparture tv900 th1) fun tv3 =>
  if tv3 = 0 then
  (tr_bn (f_X8_in ((tv901 : Int32).toInt64) 1 30) fun tv6 =>
  if tv6 = 0 then
  (some ((-2), th1))
  else
  (tr_bn (f_X8_in ((tv902 : Int32).toInt64) 0 20) fun tv9 =>
  if tv9 = 0 then
  (some ((-2), th1))
  else
  (tr_b2 (f_X8_isPeriod 3 tv902 th1) fun tv12 th13 =>
  if tv12 = 0 then
  (some ((-3), th13))
  else
  (tr_b2 (f_X8_diesOf 3 tv900 tv901 tv902 th13) fun tv16 th17 =>
  some (tv16, th17)))))
  else
  (some ((-1), th1))
noncomputable def f_X8_begin_E26 (th1 : tr_H) : Option tr_H :=
  some th1
noncomputable def f_X8_begin_L2 (tv2 : Int32) (th3 : tr_H) : Option ((Int32 × tr_H) ⊕ tr_H) :=
  if 37 ≤ tv2 then
  (some (.inr th3))
  else
  (tr_gd tv2 37 <|
  tr_gd tv2 37 <|
  tr_bd (tr_si th3 4 tv2.toNatClampNeg (th3.1 3 tv2.toNatClampNeg)) fun th7 =>
  tr_bd (tv2 + 1) fun tv8 =>
  some (.inl (tv8, th7)))
noncomputable def f_X8_begin (h : tr_H) : Option tr_H :=
  tr_bn (tr_lp (fun q => f_X8_begin_L2 q.1 q.2) (0, h)) (fun q => f_X8_begin_E26 q)
noncomputable def f_X8_sixtiethsOf (tn1 : Nat) (tv901 : Int32) (h : tr_H) : Option (Int32 × tr_H) :=
  tr_bn (f_X8_findRings tn1 tv901 h) fun th2 =>
  if (th2.1 0 19) = 0 then
  (some ((-1), th2))
  else
  (tr_bd (th2.1 0 19) fun tv4 =>
  tr_nz tv4 <|
  some ((60 / tv4) * (th2.1 0 18), th2))
noncomputable def f_X8_best_E153 (tv5 : Int32) (th6 : tr_H) : Option (Int32 × tr_H) :=
  some (tv5, th6)
noncomputable def f_X8_best_J134 (tv25 : Int32) (tv9 : Int32) (tv8 : Int32) (th24 : tr_H) (tv23 : Int32) (tv26 : Int32) : Option ((Int32 × Int32 × Int32 × tr_H) ⊕ (Int32 × tr_H)) :=
  if tv25 = 0 then
  (tr_bd (tv9 + 1) fun tv28 =>
  some (.inl (tv26, tv8, tv28, th24)))
  else
  (tr_bd (tv9 + 1) fun tv29 =>
  some (.inl (tv26, tv23, tv29, th24)))
noncomputable def f_X8_best_J109 (tv9 : Int32) (tv8 : Int32) (th24 : tr_H) (tv23 : Int32) (tv7 : Int32) (tv25 : Int32) : Option ((Int32 × Int32 × Int32 × tr_H) ⊕ (Int32 × tr_H)) :=
  if tv25 = 0 then
  (f_X8_best_J134 tv25 tv9 tv8 th24 tv23 tv7)
  else
  (f_X8_best_J134 tv25 tv9 tv8 th24 tv23 ((10 * (tv9 / 6)) + (tv9 - tv9 / 6 * 6)))
noncomputable def f_X8_best_J104 (tv9 : Int32) (tv8 : Int32) (th24 : tr_H) (tv23 : Int32) (tv7 : Int32) : Option ((Int32 × Int32 × Int32 × tr_H) ⊕ (Int32 × tr_H)) :=
  f_X8_best_J109 tv9 tv8 th24 tv23 tv7 1
noncomputable def f_X8_best_J79 (tv9 : Int32) (th17 : tr_H) (tv7 : Int32) (tv8 : Int32) (tv18 : Int32) : Option ((Int32 × Int32 × Int32 × tr_H) ⊕ (Int32 × tr_H)) :=
  tr_bd (1 + tv9) fun tv19 =>
  tr_gd tv19 37 <|
  tr_bd (tr_si th17 4 tv19.toNatClampNeg tv18) fun th21 =>
  tr_b2 (f_X8_sixtiethsOf 4 63 th21) fun tv23 th24 =>
  if tv7 = (-9) then
  (f_X8_best_J104 tv9 tv8 th24 tv23 tv7)
  else
  (if tv8 ≤ tv23 then
  (f_X8_best_J109 tv9 tv8 th24 tv23 tv7 0)
  else
  (f_X8_best_J104 tv9 tv8 th24 tv23 tv7))
noncomputable def f_X8_best_L26 (tv900 : Int32) (tv7 : Int32) (tv8 : Int32) (tv9 : Int32) (th10 : tr_H) : Option ((Int32 × Int32 × Int32 × tr_H) ⊕ (Int32 × tr_H)) :=
  if 36 ≤ tv9 then
  (some (.inr (tv7, th10)))
  else
  (tr_bd (1 + tv9) fun tv12 =>
  tr_gd tv12 37 <|
  if (th10.1 3 tv12.toNatClampNeg) ≤ (1 - tv900) then
  (tr_bd (tv9 + 1) fun tv15 =>
  some (.inl (tv7, tv8, tv15, th10)))
  else
  (tr_bn (f_X8_begin th10) fun th17 =>
  if tv900 = 0 then
  (tr_bd (1 + tv9) fun tv34 =>
  tr_gd tv34 37 <|
  f_X8_best_J79 tv9 th17 tv7 tv8 ((th17.1 4 tv34.toNatClampNeg) - 1))
  else
  (f_X8_best_J79 tv9 th17 tv7 tv8 0)))
noncomputable def f_X8_best (tv900 : Int32) (h : tr_H) : Option (Int32 × tr_H) :=
  tr_bd (tr_si h 0 0 0) fun th1 =>
  tr_bn (f_X8_in ((tv900 : Int32).toInt64) 0 1) fun tv3 =>
  if tv3 = 0 then
  (some ((-2), th1))
  else
  (tr_bn (tr_lp (fun q => f_X8_best_L26 tv900 q.1 q.2.1 q.2.2.1 q.2.2.2) ((-9), 0, 0, th1)) (fun q => f_X8_best_E153 q.1 q.2))
noncomputable def f_X8_longPower_E21 (tv1 : Int64) : Option Int64 :=
  some tv1
noncomputable def f_X8_longPower_L5 (tv901 : Int32) (tv900 : Int64) (tv2 : Int64) (tv3 : Int32) : Option ((Int64 × Int32) ⊕ Int64) :=
  if tv901 ≤ tv3 then
  (some (.inr tv2))
  else
  (tr_bd (tv2 * tv900) fun tv5 =>
  tr_bd (tv3 + 1) fun tv6 =>
  some (.inl (tv5, tv6)))
noncomputable def f_X8_longPower (tv900 : Int64) (tv901 : Int32) : Option Int64 :=
  tr_bn (tr_lp (fun q => f_X8_longPower_L5 tv901 tv900 q.1 q.2) (1, 0)) (fun q => f_X8_longPower_E21 q)
noncomputable def f_X8_sets_J38 (h : tr_H) (tv900 : Int32) (tv901 : Int32) (tv903 : Int32) (tv1 : Int32) : Option (Int32 × tr_H) :=
  if tv1 = 0 then
  (tr_zb tv1 <|
  some (tv1, h))
  else
  (tr_bd ((1 + (6 * tv900)) + tv901) fun tv4 =>
  tr_gd tv4 37 <|
  tr_bd (tr_si h 4 tv4.toNatClampNeg tv903) fun th6 =>
  tr_zb tv1 <|
  some (tv1, th6))
noncomputable def f_X8_sets_J37 (h : tr_H) (tv900 : Int32) (tv901 : Int32) (tv903 : Int32) : Option (Int32 × tr_H) :=
  f_X8_sets_J38 h tv900 tv901 tv903 0
noncomputable def f_X8_sets (tv900 : Int32) (tv901 : Int32) (tv902 : Int32) (tv903 : Int32) (h : tr_H) : Option (Int32 × tr_H) :=
  if (h.1 4 ((0 : Int32).toNatClampNeg)) ≤ tv900 then
  (f_X8_sets_J37 h tv900 tv901 tv903)
  else
  (if (h.1 4 ((0 : Int32).toNatClampNeg)) ≤ tv901 then
  (f_X8_sets_J37 h tv900 tv901 tv903)
  else
  (tr_bn (f_X8_isThere 4 tv900 tv901 h) fun tv11 =>
  if tv11 = tv902 then
  (f_X8_sets_J38 h tv900 tv901 tv903 1)
  else
  (f_X8_sets_J37 h tv900 tv901 tv903)))
noncomputable def f_X8_isCritical (tv900 : Int32) (tv901 : Int32) (h : tr_H) : Option (Int32 × tr_H) :=
  tr_bn (f_X8_find 4 h) fun th2 =>
  if (th2.1 4 ((0 : Int32).toNatClampNeg)) ≤ tv900 then
  (some (0, th2))
  else
  (if (th2.1 4 ((0 : Int32).toNatClampNeg)) ≤ tv901 then
  (some (0, th2))
  else
  (if (lg_cmp (((th2.2 0 20) >>> (((6 * tv900) + tv901 : Int32).toInt64 &&& 63)) &&& 1) 1) = 0 then
  (some (1, th2))
  else
  (some (0, th2))))
noncomputable def f_X8_isTime (tv900 : Int32) (tv901 : Int32) (h : tr_H) : Option (Int32 × tr_H) :=
  tr_bn (f_X8_layTimes 4 10 h) fun th2 =>
  if (th2.1 4 ((0 : Int32).toNatClampNeg)) ≤ tv900 then
  (some (0, th2))
  else
  (tr_gd tv900 6 <|
  if (th2.1 13 tv900.toNatClampNeg) = tv901 then
  (some (1, th2))
  else
  (some (0, th2)))
noncomputable def f_X8_does (tv900 : Int32) (h : tr_H) : Option (Int32 × tr_H) :=
  tr_bd ((tv900 / 100) - (tv900 / 100) / 10 * 10) fun tv1 =>
  tr_bd ((tv900 / 10) - (tv900 / 10) / 10 * 10) fun tv2 =>
  tr_bd (tv900 - tv900 / 10 * 10) fun tv3 =>
  tr_bd (tv900 - tv900 / 100 * 100) fun tv4 =>
  tr_bd (tv900 / 1000) fun tv5 =>
  if tv5 = 1 then
  (tr_b2 (f_X8_sets tv1 tv2 0 (tv3 + 1) h) fun tv8 th9 =>
  tr_zb tv8 <|
  some (tv8, th9))
  else
  if tv5 = 2 then
  (if tv3 = 0 then
  (tr_b2 (f_X8_sets tv1 tv2 1 0 h) fun tv14 th15 =>
  if tv14 = 0 then
  (some (0, th15))
  else
  (some (1, th15)))
  else
  (some (0, h)))
  else
  if tv5 = 3 then
  (tr_b2 (f_X8_sets tv1 tv2 1 (tv3 + 1) h) fun tv19 th20 =>
  tr_zb tv19 <|
  some (tv19, th20))
  else
  if tv5 = 4 then
  (if tv1 = 0 then
  (if 20 < tv4 then
  (some (0, h))
  else
  (tr_b2 (f_X8_isPeriod 4 tv4 h) fun tv26 th27 =>
  if tv26 = 0 then
  (some (0, th27))
  else
  (some (1, th27))))
  else
  (some (0, h)))
  else
  if tv5 = 5 then
  (if tv3 = 0 then
  (tr_b2 (f_X8_isCritical tv1 tv2 h) fun tv32 th33 =>
  if tv32 = 0 then
  (some (0, th33))
  else
  (some (1, th33)))
  else
  (some (0, h)))
  else
  if tv5 = 6 then
  (tr_b2 (f_X8_isTime tv1 tv4 h) fun tv37 th38 =>
  tr_zb tv37 <|
  some (tv37, th38))
  else
  if tv5 = 7 then
  (if (h.1 4 ((0 : Int32).toNatClampNeg)) ≤ tv1 then
  (some (0, h))
  else
  (tr_bn (f_X8_in ((tv4 : Int32).toInt64) 1 30) fun tv43 =>
  if tv43 = 0 then
  (some (0, h))
  else
  (tr_b2 (f_X8_diesOf 4 tv1 tv4 10 h) fun tv46 th47 =>
  if tv46 = (-9) then
  (some (0, th47))
  else
  (some (1, th47)))))
  else
  (some (0, h))
noncomputable def f_X8_judge_E85 (th12 : tr_H) : Option (Int32 × tr_H) :=
  some ((-9), th12)
noncomputable def f_X8_judge_L44 (tv900 : Int32) (tv901 : Int64) (tv13 : Int32) (th14 : tr_H) : Option ((Int32 × tr_H) ⊕ (tr_H ⊕ (Int32 × tr_H))) :=
  if tv900 ≤ tv13 then
  (some (.inr (.inl th14)))
  else
  (tr_bn (f_X8_longPower 10000 ((tv900 - 1) - tv13)) fun tv17 =>
  tr_nzl tv17 <|
  tr_b2 (f_X8_does (((tv901 / tv17) - (tv901 / tv17) / 10000 * 10000 : Int64).toInt32) th14) fun tv20 th21 =>
  if tv20 = 0 then
  (some (.inr (.inr (tv13, th21))))
  else
  (tr_bd (tv13 + 1) fun tv23 =>
  some (.inl (tv23, th21))))
noncomputable def f_X8_judge (tv900 : Int32) (tv901 : Int64) (h : tr_H) : Option (Int32 × tr_H) :=
  tr_bd (tr_si h 0 0 0) fun th1 =>
  tr_bn (f_X8_in ((tv900 : Int32).toInt64) 1 4) fun tv3 =>
  if tv3 = 0 then
  (some ((-2), th1))
  else
  (tr_bn (f_X8_longPower 10000 tv900) fun tv6 =>
  tr_bn (f_X8_in tv901 0 (tv6 - 1)) fun tv8 =>
  if tv8 = 0 then
  (some ((-2), th1))
  else
  (tr_bn (f_X8_begin th1) fun th11 =>
  tr_bn (tr_lp (fun q => f_X8_judge_L44 tv900 tv901 q.1 q.2) (0, th11)) (fun q => Sum.elim (fun x => f_X8_judge_E85 x) (fun x => some x) q)))
noncomputable def f_X8_orders_E40 (tv2 : Int32) : Option Int32 :=
  some tv2
noncomputable def f_X8_orders_L21 (tv900 : Int32) (tv901 : Int32) (tv3 : Int32) (tv4 : Int32) : Option ((Int32 × Int32) ⊕ Int32) :=
  if ((tv900 - 1) - tv901) < tv4 then
  (some (.inr tv3))
  else
  (tr_bd (tv3 * tv4) fun tv6 =>
  tr_bd (tv4 + 1) fun tv7 =>
  some (.inl (tv6, tv7)))
noncomputable def f_X8_orders_E19 (tv900 : Int32) (tv901 : Int32) (tv1 : Int32) : Option Int32 :=
  tr_bn (tr_lp (fun q => f_X8_orders_L21 tv900 tv901 q.1 q.2) (tv1, 2)) (fun q => f_X8_orders_E40 q)
noncomputable def f_X8_orders_L4 (tv901 : Int32) (tv8 : Int32) (tv9 : Int32) : Option ((Int32 × Int32) ⊕ Int32) :=
  if tv901 < tv9 then
  (some (.inr tv8))
  else
  (tr_bd (tv8 * tv9) fun tv11 =>
  tr_bd (tv9 + 1) fun tv12 =>
  some (.inl (tv11, tv12)))
noncomputable def f_X8_orders (tv900 : Int32) (tv901 : Int32) : Option Int32 :=
  tr_bn (tr_lp (fun q => f_X8_orders_L4 tv901 q.1 q.2) (1, 2)) (fun q => f_X8_orders_E19 tv900 tv901 q)
noncomputable def f_X8_share_E147 (tv901 : Int32) (th6 : tr_H) (tv7 : Int32) (tv8 : Int32) : Option (Int32 × tr_H) :=
  tr_bn (f_X8_fraction tv7 (60 * tv8) tv901) fun tv10 =>
  some (tv10, th6)
noncomputable def f_X8_share_L78 (tv2 : Int32) (tv900 : Int32) (th6 : tr_H) (tv11 : Int32) (tv12 : Int32) (tv13 : Int32) : Option ((Int32 × Int32 × Int32) ⊕ (Int32 × Int32)) :=
  if (1 <<< (tv2 &&& 31)) ≤ tv13 then
  (some (.inr (tv11, tv12)))
  else
  (tr_bn (f_X8_has tv13 tv900) fun tv16 =>
  if tv16 = 0 then
  (tr_bn (f_X8_many ((tv13 : Int32).toInt64)) fun tv20 =>
  tr_bn (f_X8_orders tv2 tv20) fun tv22 =>
  tr_bd (tv12 + tv22) fun tv23 =>
  tr_bd (tv13 ||| (1 <<< (tv900 &&& 31))) fun tv24 =>
  tr_gd tv24 64 <|
  tr_gd tv13 64 <|
  tr_bd (tv11 + (tv22 * ((th6.1 16 tv24.toNatClampNeg) - (th6.1 16 tv13.toNatClampNeg)))) fun tv27 =>
  tr_bd (tv13 + 1) fun tv28 =>
  some (.inl (tv27, tv23, tv28)))
  else
  (tr_bd (tv13 + 1) fun tv18 =>
  some (.inl (tv11, tv12, tv18))))
noncomputable def f_X8_share_E69 (tv2 : Int32) (tv900 : Int32) (tv901 : Int32) (th6 : tr_H) : Option (Int32 × tr_H) :=
  tr_bn (tr_lp (fun q => f_X8_share_L78 tv2 tv900 th6 q.1 q.2.1 q.2.2) (0, 0, 0)) (fun q => f_X8_share_E147 tv901 th6 q.1 q.2)
noncomputable def f_X8_share_L25 (tv2 : Int32) (tv29 : Int32) (th30 : tr_H) : Option ((Int32 × tr_H) ⊕ tr_H) :=
  if (1 <<< (tv2 &&& 31)) ≤ tv29 then
  (some (.inr th30))
  else
  (tr_b2 (f_X8_sixtiethsOf 3 tv29 th30) fun tv33 th34 =>
  if 0 ≤ tv33 then
  (tr_gd tv29 64 <|
  tr_bd (tr_si th34 16 tv29.toNatClampNeg tv33) fun th37 =>
  tr_bd (tv29 + 1) fun tv38 =>
  some (.inl (tv38, th37)))
  else
  (tr_gd tv29 64 <|
  tr_bd (tr_si th34 16 tv29.toNatClampNeg 0) fun th40 =>
  tr_bd (tv29 + 1) fun tv41 =>
  some (.inl (tv41, th40))))
noncomputable def f_X8_share (tv900 : Int32) (tv901 : Int32) (h : tr_H) : Option (Int32 × tr_H) :=
  tr_bd (tr_si h 0 0 0) fun th1 =>
  tr_bd (th1.1 3 ((0 : Int32).toNatClampNeg)) fun tv2 =>
  tr_bn (f_X8_noDeparture tv900 th1) fun tv4 =>
  if tv4 = 0 then
  (tr_bn (tr_lp (fun q => f_X8_share_L25 tv2 q.1 q.2) (0, th1)) (fun q => f_X8_share_E69 tv2 tv900 tv901 q))
  else
  (some ((-1), th1))
noncomputable def f_X8_see (tv900 : Int32) (tv901 : Int32) (tv902 : Int32) (h : tr_H) : Option (Int32 × tr_H) :=
  tr_bd (tr_si h 0 0 0) fun th1 =>
  tr_bn (f_X8_noDeparture tv900 th1) fun tv3 =>
  if tv3 = 0 then
  (tr_bn (f_X8_in ((tv901 : Int32).toInt64) 1 9) fun tv6 =>
  if tv6 = 0 then
  (some ((-2), th1))
  else
  (tr_bn (f_X8_in ((tv902 : Int32).toInt64) 0 1) fun tv9 =>
  if tv9 = 0 then
  (some ((-2), th1))
  else
  (if (th1.1 0 12) = 6 then
  (some ((-4), th1))
  else
  (tr_bd (th1.1 0 12) fun tv12 =>
  tr_gd tv12 6 <|
  tr_bd (tr_si th1 8 tv12.toNatClampNeg tv900) fun th14 =>
  tr_bd (th14.1 0 12) fun tv15 =>
  tr_gd tv15 6 <|
  tr_bd (tr_si th14 9 tv15.toNatClampNeg tv901) fun th17 =>
  tr_bd (th17.1 0 12) fun tv18 =>
  tr_gd tv18 6 <|
  tr_bd (tr_si th17 10 tv18.toNatClampNeg tv902) fun th20 =>
  tr_bd (tr_si th20 0 12 ((th20.1 0 12) + 1)) fun th21 =>
  some (th21.1 0 12, th21)))))
  else
  (some ((-1), th1))
noncomputable def f_X8_unsee (h : tr_H) : Option (Int32 × tr_H) :=
  tr_bd (tr_si h 0 0 0) fun th1 =>
  tr_bd (th1.1 0 12) fun tv2 =>
  tr_bd (tr_si th1 0 12 0) fun th3 =>
  some (tv2, th3)
noncomputable def f_X8_explains_E114 (tv3 : Int32) (th4 : tr_H) : Option (Int32 × tr_H) :=
  tr_zb tv3 <|
  some (tv3, th4)
noncomputable def f_X8_explains_E108 (tv7 : Int32) (th12 : tr_H) (tv13 : Int32) : Option ((Int32 × Int32 × tr_H) ⊕ (Int32 × tr_H)) :=
  tr_bd (tv7 + 1) fun tv14 =>
  some (.inl (tv13, tv14, th12))
noncomputable def f_X8_explains_J93 (tv26 : Int32) (tv16 : Int32) (tv28 : Int32) : Option ((Int32 × Int32) ⊕ Int32) :=
  if tv26 = tv28 then
  (tr_bd (tv16 + 1) fun tv31 =>
  some (.inl (1, tv31)))
  else
  (tr_bd (tv16 + 1) fun tv30 =>
  some (.inl (0, tv30)))
noncomputable def f_X8_explains_J77 (tv16 : Int32) (th12 : tr_H) (tv26 : Int32) : Option ((Int32 × Int32) ⊕ Int32) :=
  tr_gd tv16 6 <|
  if (th12.1 10 tv16.toNatClampNeg) = 1 then
  (f_X8_explains_J93 tv26 tv16 1)
  else
  (f_X8_explains_J93 tv26 tv16 0)
noncomputable def f_X8_explains_L32 (th12 : tr_H) (tv7 : Int32) (tv15 : Int32) (tv16 : Int32) : Option ((Int32 × Int32) ⊕ Int32) :=
  if (th12.1 0 12) ≤ tv16 then
  (some (.inr tv15))
  else
  (if tv15 = 0 then
  (tr_bd (tv16 + 1) fun tv19 =>
  some (.inl (0, tv19)))
  else
  (tr_gd tv16 6 <|
  if (th12.1 9 tv16.toNatClampNeg) = tv7 then
  (tr_gd tv16 6 <|
  tr_bd (th12.1 8 tv16.toNatClampNeg) fun tv24 =>
  tr_gd tv24 6 <|
  if (th12.1 14 tv24.toNatClampNeg) ≤ 0 then
  (f_X8_explains_J77 tv16 th12 0)
  else
  (f_X8_explains_J77 tv16 th12 1))
  else
  (tr_bd (tv16 + 1) fun tv22 =>
  some (.inl (1, tv22)))))
noncomputable def f_X8_explains_L11 (tv6 : Int32) (tv7 : Int32) (th8 : tr_H) : Option ((Int32 × Int32 × tr_H) ⊕ (Int32 × tr_H)) :=
  if 10 ≤ tv7 then
  (some (.inr (tv6, th8)))
  else
  (tr_b2 (f_X8_goRound 3 10 th8) fun tv11 th12 =>
  tr_bn (tr_lp (fun q => f_X8_explains_L32 th12 tv7 q.1 q.2) (tv6, 0)) (fun q => f_X8_explains_E108 tv7 th12 q))
noncomputable def f_X8_explains (tv900 : Int32) (tv901 : Int32) (h : tr_H) : Option (Int32 × tr_H) :=
  tr_bn (f_X8_beginLate tv900 tv901 h) fun th2 =>
  tr_bn (tr_lp (fun q => f_X8_explains_L11 q.1 q.2.1 q.2.2) (1, 1, th2)) (fun q => f_X8_explains_E114 q.1 q.2)
noncomputable def f_X8_began_E127 (tv900 : Int32) (th9 : tr_H) : Option (Int32 × tr_H) :=
  if tv900 = 0 then
  (some (th9.1 0 28, th9))
  else
  (some (th9.1 0 29, th9))
noncomputable def f_X8_began_E121 (tv11 : Int32) (th14 : tr_H) : Option ((Int32 × tr_H) ⊕ tr_H) :=
  tr_bd (tv11 + 1) fun tv15 =>
  some (.inl (tv15, th14))
noncomputable def f_X8_began_J93 (th21 : tr_H) (tv20 : Int32) (tv16 : Int32) (tv22 : Int32) : Option ((Int32 × tr_H) ⊕ tr_H) :=
  tr_bd (tr_si th21 0 29 tv22) fun th23 =>
  if tv20 = 0 then
  (tr_bd (tr_si th23 0 28 ((th23.1 0 28) + 0)) fun th25 =>
  tr_bd (tv16 + 1) fun tv26 =>
  some (.inl (tv26, th25)))
  else
  (tr_bd (tr_si th23 0 28 ((th23.1 0 28) + 1)) fun th27 =>
  tr_bd (tv16 + 1) fun tv28 =>
  some (.inl (tv28, th27)))
noncomputable def f_X8_began_J89 (th21 : tr_H) (tv20 : Int32) (tv16 : Int32) : Option ((Int32 × tr_H) ⊕ tr_H) :=
  f_X8_began_J93 th21 tv20 tv16 (th21.1 0 29)
noncomputable def f_X8_began_L53 (tv11 : Int32) (tv16 : Int32) (th17 : tr_H) : Option ((Int32 × tr_H) ⊕ tr_H) :=
  if 30 < tv16 then
  (some (.inr th17))
  else
  (tr_b2 (f_X8_explains tv11 tv16 th17) fun tv20 th21 =>
  if tv20 = 0 then
  (f_X8_began_J89 th21 tv20 tv16)
  else
  (if (th21.1 0 28) = 0 then
  (f_X8_began_J93 th21 tv20 tv16 ((100 * tv11) + tv16))
  else
  (f_X8_began_J89 th21 tv20 tv16)))
noncomputable def f_X8_began_L41 (tv11 : Int32) (th12 : tr_H) : Option ((Int32 × tr_H) ⊕ tr_H) :=
  if (th12.1 3 ((0 : Int32).toNatClampNeg)) ≤ tv11 then
  (some (.inr th12))
  else
  (tr_bn (tr_lp (fun q => f_X8_began_L53 tv11 q.1 q.2) (1, th12)) (fun q => f_X8_began_E121 tv11 q))
noncomputable def f_X8_began (tv900 : Int32) (h : tr_H) : Option (Int32 × tr_H) :=
  tr_bd (tr_si h 0 0 0) fun th1 =>
  tr_bn (f_X8_in ((tv900 : Int32).toInt64) 0 1) fun tv3 =>
  if tv3 = 0 then
  (some ((-2), th1))
  else
  (tr_bd (tr_si th1 0 28 0) fun th5 =>
  tr_bd (tr_si th5 0 29 (-9)) fun th6 =>
  tr_bn (f_X8_layTimes 3 10 th6) fun th8 =>
  tr_bn (tr_lp (fun q => f_X8_began_L41 q.1 q.2) (0, th8)) (fun q => f_X8_began_E127 tv900 q))
noncomputable def f_X8_drops_E82 (tv3 : Int32) (th4 : tr_H) : Option (Int32 × tr_H) :=
  some (tv3, th4)
noncomputable def f_X8_drops_L9 (tv900 : Int32) (tv901 : Int32) (tv5 : Int32) (tv6 : Int32) (th7 : tr_H) : Option ((Int32 × Int32 × tr_H) ⊕ (Int32 × tr_H)) :=
  if (th7.1 3 ((0 : Int32).toNatClampNeg)) ≤ tv6 then
  (some (.inr (tv5, th7)))
  else
  (tr_bn (f_X8_isThere 3 tv900 tv6 th7) fun tv10 =>
  if tv10 = 0 then
  (tr_bd (tv6 + 1) fun tv12 =>
  some (.inl (tv5, tv12, th7)))
  else
  (tr_bn (f_X8_has tv901 tv5) fun tv14 =>
  if tv14 = 0 then
  (tr_bd ((1 + (6 * tv900)) + tv6) fun tv16 =>
  tr_gd tv16 37 <|
  tr_bd ((1 + (6 * tv900)) + tv6) fun tv18 =>
  tr_gd tv18 37 <|
  tr_bd (tr_si th7 4 tv18.toNatClampNeg (th7.1 3 tv16.toNatClampNeg)) fun th20 =>
  tr_bd (tv5 + 1) fun tv21 =>
  tr_bd (tv6 + 1) fun tv22 =>
  some (.inl (tv21, tv22, th20)))
  else
  (tr_bd ((1 + (6 * tv900)) + tv6) fun tv23 =>
  tr_gd tv23 37 <|
  tr_bd (tr_si th7 4 tv23.toNatClampNeg 0) fun th25 =>
  tr_bd (tv5 + 1) fun tv26 =>
  tr_bd (tv6 + 1) fun tv27 =>
  some (.inl (tv26, tv27, th25)))))
noncomputable def f_X8_drops (tv900 : Int32) (tv901 : Int32) (h : tr_H) : Option (Int32 × tr_H) :=
  tr_bn (f_X8_begin h) fun th2 =>
  tr_bn (tr_lp (fun q => f_X8_drops_L9 tv900 tv901 q.1 q.2.1 q.2.2) (0, 0, th2)) (fun q => f_X8_drops_E82 q.1 q.2)
noncomputable def f_X8_dropped_E127 (tv12 : Int32) (tv903 : Int32) (tv14 : Int32) (th15 : tr_H) : Option (Int32 × tr_H) :=
  tr_bn (f_X8_power 10 tv12) fun tv17 =>
  tr_bn (f_X8_fraction tv14 tv17 tv903) fun tv19 =>
  some (tv19, th15)
noncomputable def f_X8_dropped_L56 (tv12 : Int32) (tv900 : Int32) (tv901 : Int32) (tv902 : Int32) (tv20 : Int32) (tv21 : Int32) (th22 : tr_H) : Option ((Int32 × Int32 × tr_H) ⊕ (Int32 × tr_H)) :=
  if (1 <<< (tv12 &&& 31)) ≤ tv21 then
  (some (.inr (tv20, th22)))
  else
  (tr_b2 (f_X8_drops tv900 tv21 th22) fun tv25 th26 =>
  tr_bn (f_X8_many ((tv21 : Int32).toInt64)) fun tv28 =>
  tr_b2 (f_X8_isPeriod 4 tv901 th26) fun tv30 th31 =>
  if tv30 = 0 then
  (tr_bd (tv20 + 0) fun tv33 =>
  tr_bd (tv21 + 1) fun tv34 =>
  some (.inl (tv33, tv34, th31)))
  else
  (tr_bn (f_X8_power tv902 tv28) fun tv36 =>
  tr_bn (f_X8_power (10 - tv902) (tv12 - tv28)) fun tv38 =>
  tr_bd (tv20 + (tv36 * tv38)) fun tv39 =>
  tr_bd (tv21 + 1) fun tv40 =>
  some (.inl (tv39, tv40, th31))))
noncomputable def f_X8_dropped (tv900 : Int32) (tv901 : Int32) (tv902 : Int32) (tv903 : Int32) (h : tr_H) : Option (Int32 × tr_H) :=
  tr_bd (tr_si h 0 0 0) fun th1 =>
  tr_bn (f_X8_noDeparture tv900 th1) fun tv3 =>
  if tv3 = 0 then
  (tr_bn (f_X8_in ((tv901 : Int32).toInt64) 0 20) fun tv6 =>
  if tv6 = 0 then
  (some ((-2), th1))
  else
  (tr_bn (f_X8_in ((tv902 : Int32).toInt64) 0 10) fun tv9 =>
  if tv9 = 0 then
  (some ((-2), th1))
  else
  (tr_b2 (f_X8_drops tv900 0 th1) fun tv12 th13 =>
  tr_bn (tr_lp (fun q => f_X8_dropped_L56 tv12 tv900 tv901 tv902 q.1 q.2.1 q.2.2) (0, 0, th13)) (fun q => f_X8_dropped_E127 tv12 tv903 q.1 q.2))))
  else
  (some ((-1), th1))
noncomputable def f_X8_seed (tv900 : Int64) (h : tr_H) : Option (Int64 × tr_H) :=
  tr_bd (tr_si h 0 0 0) fun th1 =>
  tr_bd (th1.2 0 16) fun tv2 =>
  tr_bd (tr_sl th1 0 16 tv900) fun th3 =>
  some (tv2, th3)
noncomputable def f_X8_draw (tv900 : Int32) (tv901 : Int32) (tv902 : Int32) (h : tr_H) : Option tr_H :=
  if (h.1 4 ((0 : Int32).toNatClampNeg)) ≤ tv900 then
  (some h)
  else
  (if (h.1 4 ((0 : Int32).toNatClampNeg)) ≤ tv901 then
  (some h)
  else
  (if tv902 = 10 then
  (tr_bd ((1 + (6 * tv900)) + tv901) fun tv7 =>
  tr_gd tv7 37 <|
  tr_bd (tr_si h 4 tv7.toNatClampNeg 0) fun th9 =>
  some th9)
  else
  (tr_bd ((1 + (6 * tv900)) + tv901) fun tv4 =>
  tr_gd tv4 37 <|
  tr_bd (tr_si h 4 tv4.toNatClampNeg (tv902 + 1)) fun th6 =>
  some th6)))
noncomputable def f_X8_drawn_E121 (tv7 : Int32) (th8 : tr_H) : Option (Int32 × tr_H) :=
  some (tv7, th8)
noncomputable def f_X8_drawn_L28 (tv900 : Int32) (tv9 : Int32) (tv10 : Int32) (th11 : tr_H) : Option ((Int32 × Int32 × tr_H) ⊕ (Int32 × tr_H)) :=
  if tv900 ≤ tv10 then
  (some (.inr (tv9, th11)))
  else
  (tr_bd (tr_sl th11 0 16 (((th11.2 0 16) * 6364136223846793005) + 1442695040888963407)) fun th13 =>
  tr_bd ((((th13.2 0 16).toUInt64 >>> ((33 : Int32).toInt64.toUInt64 &&& Int64.toUInt64 63)).toInt64 : Int64).toInt32) fun tv14 =>
  tr_bn (f_X8_draw (tv14 - tv14 / 6 * 6) ((tv14 / 8) - (tv14 / 8) / 6 * 6) ((tv14 / 64) - (tv14 / 64) / 11 * 11) th13) fun th16 =>
  tr_bn (f_X8_find 4 th16) fun th18 =>
  if (th18.1 0 19) = 0 then
  (tr_bd (tv9 + 0) fun tv24 =>
  tr_bd (tv10 + 1) fun tv25 =>
  some (.inl (tv24, tv25, th18)))
  else
  (tr_bd (th18.1 0 19) fun tv20 =>
  tr_nz tv20 <|
  tr_bd (tv9 + ((th18.1 0 18) / tv20)) fun tv22 =>
  tr_bd (tv10 + 1) fun tv23 =>
  some (.inl (tv22, tv23, th18))))
noncomputable def f_X8_drawn (tv900 : Int32) (h : tr_H) : Option (Int32 × tr_H) :=
  tr_bd (tr_si h 0 0 0) fun th1 =>
  tr_bn (f_X8_in ((tv900 : Int32).toInt64) 1 20) fun tv3 =>
  if tv3 = 0 then
  (some ((-2), th1))
  else
  (tr_bn (f_X8_begin th1) fun th6 =>
  tr_bn (tr_lp (fun q => f_X8_drawn_L28 tv900 q.1 q.2.1 q.2.2) (0, 0, th6)) (fun q => f_X8_drawn_E121 q.1 q.2))
noncomputable def f_X8_keep_E55 (th7 : tr_H) : Option (Int32 × tr_H) :=
  tr_bn (f_X8_waits 3 th7) fun tv9 =>
  some (tv9, th7)
noncomputable def f_X8_keep_L26 (tv900 : Int32) (tv10 : Int32) (th11 : tr_H) : Option ((Int32 × tr_H) ⊕ tr_H) :=
  if 37 ≤ tv10 then
  (some (.inr th11))
  else
  (tr_gd tv10 37 <|
  tr_bd ((37 * tv900) + tv10) fun tv14 =>
  tr_gd tv14 74 <|
  tr_bd (tr_si th11 6 tv14.toNatClampNeg (th11.1 3 tv10.toNatClampNeg)) fun th16 =>
  tr_bd (tv10 + 1) fun tv17 =>
  some (.inl (tv17, th16)))
noncomputable def f_X8_keep (tv900 : Int32) (h : tr_H) : Option (Int32 × tr_H) :=
  tr_bd (tr_si h 0 0 0) fun th1 =>
  tr_bn (f_X8_in ((tv900 : Int32).toInt64) 0 1) fun tv3 =>
  if tv3 = 0 then
  (some ((-1), th1))
  else
  (tr_gd tv900 2 <|
  tr_bd (tr_si th1 7 tv900.toNatClampNeg 1) fun th6 =>
  tr_bn (tr_lp (fun q => f_X8_keep_L26 tv900 q.1 q.2) (0, th6)) (fun q => f_X8_keep_E55 q))
noncomputable def f_X8_again_E60 (th7 : tr_H) : Option (Int32 × tr_H) :=
  tr_bd (tr_si th7 0 9 0) fun th8 =>
  tr_bn (f_X8_waits 3 th8) fun tv10 =>
  some (tv10, th8)
noncomputable def f_X8_again_L31 (tv900 : Int32) (tv11 : Int32) (th12 : tr_H) : Option ((Int32 × tr_H) ⊕ tr_H) :=
  if 37 ≤ tv11 then
  (some (.inr th12))
  else
  (tr_bd ((37 * tv900) + tv11) fun tv14 =>
  tr_gd tv14 74 <|
  tr_gd tv11 37 <|
  tr_bd (tr_si th12 3 tv11.toNatClampNeg (th12.1 6 tv14.toNatClampNeg)) fun th17 =>
  tr_bd (tv11 + 1) fun tv18 =>
  some (.inl (tv18, th17)))
noncomputable def f_X8_again (tv900 : Int32) (h : tr_H) : Option (Int32 × tr_H) :=
  tr_bd (tr_si h 0 0 0) fun th1 =>
  tr_bn (f_X8_in ((tv900 : Int32).toInt64) 0 1) fun tv3 =>
  if tv3 = 0 then
  (some ((-1), th1))
  else
  (tr_gd tv900 2 <|
  if (th1.1 7 tv900.toNatClampNeg) = 0 then
  (some ((-3), th1))
  else
  (tr_bn (tr_lp (fun q => f_X8_again_L31 tv900 q.1 q.2) (0, th1)) (fun q => f_X8_again_E60 q)))
end
section
/-! whole numbers as ints of 32 bits -/
def iI (z : Int) : Int32 := Int32.ofInt z
theorem iI_0 : (0 : Int32) = iI 0 := by decide
theorem iI_1 : (1 : Int32) = iI 1 := by decide
theorem iI_2 : (2 : Int32) = iI 2 := by decide
theorem iI_3 : (3 : Int32) = iI 3 := by decide
theorem iI_4 : (4 : Int32) = iI 4 := by decide
theorem iI_5 : (5 : Int32) = iI 5 := by decide
theorem iI_6 : (6 : Int32) = iI 6 := by decide
theorem iI_7 : (7 : Int32) = iI 7 := by decide
theorem iI_8 : (8 : Int32) = iI 8 := by decide
theorem iI_9 : (9 : Int32) = iI 9 := by decide
theorem iI_10 : (10 : Int32) = iI 10 := by decide
theorem iI_11 : (11 : Int32) = iI 11 := by decide
theorem iI_12 : (12 : Int32) = iI 12 := by decide
theorem iI_14 : (14 : Int32) = iI 14 := by decide
theorem iI_20 : (20 : Int32) = iI 20 := by decide
theorem iI_30 : (30 : Int32) = iI 30 := by decide
theorem iI_31 : (31 : Int32) = iI 31 := by decide
theorem iI_36 : (36 : Int32) = iI 36 := by decide
theorem iI_37 : (37 : Int32) = iI 37 := by decide
theorem iI_40 : (40 : Int32) = iI 40 := by decide
theorem iI_48 : (48 : Int32) = iI 48 := by decide
theorem iI_60 : (60 : Int32) = iI 60 := by decide
theorem iI_63 : (63 : Int32) = iI 63 := by decide
theorem iI_64 : (64 : Int32) = iI 64 := by decide
theorem iI_78 : (78 : Int32) = iI 78 := by decide
theorem iI_100 : (100 : Int32) = iI 100 := by decide
theorem iI_255 : (255 : Int32) = iI 255 := by decide
theorem iI_481 : (481 : Int32) = iI 481 := by decide
theorem iI_1000000 : (1000000 : Int32) = iI 1000000 := by decide
theorem iI_m1 : (-1 : Int32) = iI (-1) := by decide
theorem iI_m2 : (-2 : Int32) = iI (-2) := by decide
theorem iI_m3 : (-3 : Int32) = iI (-3) := by decide
theorem iI_m4 : (-4 : Int32) = iI (-4) := by decide
theorem iI_m9 : (-9 : Int32) = iI (-9) := by decide
theorem iI_m1000000 : (-1000000 : Int32) = iI (-1000000) := by decide
theorem iI_add (a b : Int) : iI a + iI b = iI (a + b) := (Int32.ofInt_add a b).symm
theorem iI_sub (a b : Int) : iI a - iI b = iI (a - b) := (Int32.ofInt_sub a b).symm
theorem iI_mul (a b : Int) : iI a * iI b = iI (a * b) := (Int32.ofInt_mul a b).symm
theorem iI_neg (a : Int) : -iI a = iI (-a) := (Int32.ofInt_neg a).symm
theorem iI_to (x : Int32) : x = iI x.toInt := (Int32.ofInt_toInt x).symm
theorem iI_in {a : Int} (h1 : -2147483648 ≤ a) (h2 : a < 2147483648) : (iI a).toInt = a := Int32.toInt_ofInt_of_le (by omega) (by omega)
theorem iI_lt {a b : Int} (h1 : -2147483648 ≤ a) (h2 : a < 2147483648) (h3 : -2147483648 ≤ b) (h4 : b < 2147483648) : (iI a < iI b) = (a < b) := by
  rw [Int32.lt_iff_toInt_lt, iI_in h1 h2, iI_in h3 h4]
theorem iI_le {a b : Int} (h1 : -2147483648 ≤ a) (h2 : a < 2147483648) (h3 : -2147483648 ≤ b) (h4 : b < 2147483648) : (iI a ≤ iI b) = (a ≤ b) := by
  rw [Int32.le_iff_toInt_le, iI_in h1 h2, iI_in h3 h4]
theorem iI_eq {a b : Int} (h1 : -2147483648 ≤ a) (h2 : a < 2147483648) (h3 : -2147483648 ≤ b) (h4 : b < 2147483648) : (iI a = iI b) = (a = b) := by
  rw [← Int32.toInt_inj, iI_in h1 h2, iI_in h3 h4]
theorem iI_cl {a : Int} (h1 : 0 ≤ a) (h2 : a < 2147483648) : (iI a).toNatClampNeg = a.toNat := by
  show (iI a).toInt.toNat = a.toNat
  rw [iI_in (by omega) h2]
theorem iI_lo (x : Int32) : -2147483648 ≤ x.toInt := Int32.le_toInt x
theorem iI_hi (x : Int32) : x.toInt < 2147483648 := Int32.toInt_lt x
theorem tr_gdI {α : Type} {a : Int} {n : Nat} {o : Option α} (h1 : 0 ≤ a) (h2 : a < n) (h3 : a < 2147483648) : tr_gd (iI a) n o = o := by
  unfold tr_gd
  rw [if_neg]
  rw [iI_cl h1 h3, iI_0, iI_lt (by omega) h3 (by omega) (by omega)]
  omega
theorem tr_nzI {α : Type} {a : Int} {o : Option α} (h1 : a ≠ 0) (h2 : -2147483648 ≤ a) (h3 : a < 2147483648) : tr_nz (iI a) o = o := by
  unfold tr_nz
  rw [if_neg]
  rw [iI_0, iI_eq h2 h3 (by omega) (by omega)]
  exact h1
theorem tr_bn_some {α β : Type} (a : α) (f : α → Option β) : tr_bn (some a) f = f a := rfl
theorem tr_b2_some {α β γ : Type} (a : α) (b : β) (f : α → β → Option γ) : tr_b2 (some (a, b)) f = f a b := rfl
theorem iI_div {a b : Int} (h1 : 0 ≤ a) (h2 : a < 2147483648) (h3 : 0 < b) (h4 : b < 2147483648) : iI a / iI b = iI (a / b) := by
  have h5 : 0 ≤ a / b := Int.ediv_nonneg h1 (by omega)
  have h6 : a / b ≤ a := Int.ediv_le_self b h1
  rw [← Int32.toInt_inj, iI_in (a := a / b) (by omega) (by omega), Int32.toInt_div_of_ne_right]
  · rw [iI_in (by omega) h2, iI_in (by omega) h4, Int.tdiv_eq_ediv_of_nonneg h1]
  · intro h
    rw [iI_m1, iI_eq (by omega) h4 (by omega) (by omega)] at h
    omega
theorem iI_rem {a b : Int} (h1 : 0 ≤ a) (h2 : a < 2147483648) (h3 : 0 < b) (h4 : b < 2147483648) : iI a - iI a / iI b * iI b = iI (a % b) := by
  rw [iI_div h1 h2 h3 h4, iI_mul, iI_sub]
  congr 1
  rw [Int.emod_def, Int.mul_comm]
/-! the heap of numbers -/
theorem tr_sa_at (h : tr_H) (i : Nat) (f : Nat → Int32) : (tr_sa h i f).1 i = f := by simp [tr_sa]
theorem tr_sa_ne (h : tr_H) {i j : Nat} (f : Nat → Int32) (hij : j ≠ i) : (tr_sa h i f).1 j = h.1 j := by simp [tr_sa, hij]
theorem tr_sa_2 (h : tr_H) (i : Nat) (f : Nat → Int32) : (tr_sa h i f).2 = h.2 := rfl
theorem tr_sa_sa (h : tr_H) (i : Nat) (f g : Nat → Int32) : tr_sa (tr_sa h i f) i g = tr_sa h i g := by
  unfold tr_sa
  congr 1
  funext a
  by_cases ha : a = i <;> simp [ha]
theorem tr_sa_self (h : tr_H) (i : Nat) : tr_sa h i (h.1 i) = h := by
  unfold tr_sa
  refine Prod.ext ?_ rfl
  funext a
  by_cases ha : a = i <;> simp [ha]
/-! loops -/
theorem tr_lp_go {σ ρ : Type} {f : σ → Option (σ ⊕ ρ)} {s s' : σ} (h : f s = some (.inl s')) : tr_lp f s = tr_lp f s' := by rw [tr_lp_eq, h]; rfl
theorem tr_lp_out {σ ρ : Type} {f : σ → Option (σ ⊕ ρ)} {s : σ} {r : ρ} (h : f s = some (.inr r)) : tr_lp f s = some r := by rw [tr_lp_eq, h]; rfl
/-- a loop whose states are told -/
theorem tr_seq {σ ρ : Type} {f : σ → Option (σ ⊕ ρ)} (S : Nat → σ) {lo hi : Nat} {r : ρ} (hle : lo ≤ hi) (step : ∀ k, lo ≤ k → k < hi → f (S k) = some (.inl (S (k + 1)))) (ex : f (S hi) = some (.inr r)) : tr_lp f (S lo) = some r := by
  obtain ⟨d, rfl⟩ : ∃ d, hi = lo + d := ⟨hi - lo, by omega⟩
  induction d generalizing lo with
  | zero => exact tr_lp_out ex
  | succ d ih =>
    rw [tr_lp_go (step lo (Nat.le_refl _) (by omega))]
    refine ih (lo := lo + 1) (by omega) (fun k h1 h2 => step k (by omega) (by omega)) ?_
    rw [show lo + 1 + d = lo + (d + 1) by omega]
    exact ex
end
section
/-! walks: a head and the list of what follows it -/
def la : Nat → List Nat → Nat
  | u, [] => u
  | _, x :: l => la x l
def chn (ed : Nat → Nat → Prop) : Nat → List Nat → Prop
  | _, [] => True
  | u, x :: l => ed u x ∧ chn ed x l
def wsm (wt : Nat → Nat → Int) : Nat → List Nat → Int
  | _, [] => 0
  | u, x :: l => wt u x + wsm wt x l
theorem la_app (u : Nat) (a b : List Nat) : la u (a ++ b) = la (la u a) b := by
  induction a generalizing u with
  | nil => rfl
  | cons x a ih => exact ih x
theorem chn_app {ed : Nat → Nat → Prop} (u : Nat) (a b : List Nat) : chn ed u (a ++ b) ↔ chn ed u a ∧ chn ed (la u a) b := by
  induction a generalizing u with
  | nil => simp [chn, la]
  | cons x a ih => simp [chn, la, ih x, and_assoc]
theorem wsm_app (wt : Nat → Nat → Int) (u : Nat) (a b : List Nat) : wsm wt u (a ++ b) = wsm wt u a + wsm wt (la u a) b := by
  induction a generalizing u with
  | nil => simp [wsm, la]
  | cons x a ih => simp [wsm, la, ih x]; omega
theorem la_mem (u : Nat) (l : List Nat) : la u l ∈ u :: l := by
  induction l generalizing u with
  | nil => simp [la]
  | cons x l ih => exact List.mem_cons_of_mem _ (ih x)
/-- a ring through x: the others behind it -/
def ring (ed : Nat → Nat → Prop) (x : Nat) (b : List Nat) : Prop := (x :: b).Nodup ∧ chn ed x (b ++ [x])
theorem mem_split_first {x : Nat} : ∀ {l : List Nat}, x ∈ l → ∃ a b, l = a ++ x :: b ∧ x ∉ a := by
  intro l
  induction l with
  | nil => intro h; cases h
  | cons y l ih =>
    intro h
    by_cases hy : y = x
    · subst hy; exact ⟨[], l, rfl, by simp⟩
    · have h2 : x ∈ l := by
        rcases List.mem_cons.mp h with h | h
        · exact absurd h.symm hy
        · exact h
      obtain ⟨a, b, e, hn⟩ := ih h2
      refine ⟨y :: a, b, by rw [e]; rfl, ?_⟩
      intro hm
      rcases List.mem_cons.mp hm with hm | hm
      · exact hy hm.symm
      · exact hn hm
/-- a walk that comes somewhere twice goes round a ring -/
theorem walk_cut {ed : Nat → Nat → Prop} (wt : Nat → Nat → Int) : ∀ (l : List Nat) (u : Nat), chn ed u l → ¬ (u :: l).Nodup → ∃ x b l', ring ed x b ∧ chn ed u l' ∧ la u l' = la u l ∧ l.length = l'.length + (b.length + 1) ∧ wsm wt u l = wsm wt u l' + wsm wt x (b ++ [x]) ∧ (∀ y, y ∈ u :: l' → y ∈ u :: l) ∧ (∀ y, y ∈ x :: b → y ∈ u :: l) := by
  intro l
  induction l with
  | nil => intro u _ h; exact absurd (by simp) h
  | cons y r ih =>
    intro u hc hn
    obtain ⟨h1, h2⟩ := hc
    by_cases hy : (y :: r).Nodup
    · have hu : u ∈ y :: r := by
        apply Classical.byContradiction
        intro hu
        exact hn (List.nodup_cons.mpr ⟨hu, hy⟩)
      obtain ⟨a, c, e, hna⟩ := mem_split_first hu
      have hch : chn ed u (a ++ u :: c) := by rw [← e]; exact ⟨h1, h2⟩
      have hch2 : chn ed u ((a ++ [u]) ++ c) := by simpa using hch
      obtain ⟨g1, g2⟩ := (chn_app u (a ++ [u]) c).mp hch2
      have hla : la u (a ++ [u]) = u := by rw [la_app]; rfl
      rw [hla] at g2
      refine ⟨u, a, c, ⟨?_, g1⟩, g2, ?_, ?_, ?_, ?_, ?_⟩
      · rw [e] at hy
        have h5 := List.nodup_append.mp hy
        exact List.nodup_cons.mpr ⟨hna, h5.1⟩
      · rw [e, show a ++ u :: c = (a ++ [u]) ++ c by simp, la_app u (a ++ [u]) c, hla]
      · rw [e]; simp; omega
      · rw [e, show a ++ u :: c = (a ++ [u]) ++ c by simp, wsm_app, hla]; omega
      · intro z hz
        rcases List.mem_cons.mp hz with hz | hz
        · subst hz; simp
        · rw [e]; simp [hz]
      · intro z hz
        rcases List.mem_cons.mp hz with hz | hz
        · subst hz; simp
        · rw [e]; simp [hz]
    · obtain ⟨x, b, l', r1, r2, r3, r4, r5, r6, r7⟩ := ih y h2 hy
      refine ⟨x, b, y :: l', r1, ⟨h1, r2⟩, r3, ?_, ?_, ?_, ?_⟩
      · simp only [List.length_cons]; omega
      · simp only [wsm]; omega
      · intro z hz
        rcases List.mem_cons.mp hz with hz | hz
        · subst hz; simp
        · exact List.mem_cons_of_mem _ (r6 z hz)
      · intro z hz
        exact List.mem_cons_of_mem _ (r7 z hz)
/-- where no ring gains, a walk can be made to come nowhere twice -/
theorem walk_simple {ed : Nat → Nat → Prop} {wt : Nat → Nat → Int} (u : Nat) (l : List Nat) (hc : chn ed u l) (hr : ∀ x b, ring ed x b → (∀ y, y ∈ x :: b → y ∈ u :: l) → wsm wt x (b ++ [x]) ≤ 0) : ∃ l', (u :: l').Nodup ∧ chn ed u l' ∧ la u l' = la u l ∧ wsm wt u l ≤ wsm wt u l' ∧ (∀ y, y ∈ u :: l' → y ∈ u :: l) := by
  generalize hn : l.length = n
  induction n using Nat.strongRecOn generalizing l with
  | ind n ih =>
    by_cases h : (u :: l).Nodup
    · exact ⟨l, h, hc, rfl, Int.le_refl _, fun _ h => h⟩
    · obtain ⟨x, b, l', r1, r2, r3, r4, r5, r6, r7⟩ := walk_cut wt l u hc h
      obtain ⟨l'', s1, s2, s3, s4, s5⟩ := ih l'.length (by omega) l' r2 (fun x b h1 h2 => hr x b h1 (fun y hy => r6 y (h2 y hy))) rfl
      have := hr x b r1 r7
      exact ⟨l'', s1, s2, by rw [s3, r3], by omega, fun y hy => r6 y (s5 y hy)⟩
/-- nor does a walk that comes back gain -/
theorem walk_back {ed : Nat → Nat → Prop} {wt : Nat → Nat → Int} (hr : ∀ x b, ring ed x b → wsm wt x (b ++ [x]) ≤ 0) (x : Nat) (l : List Nat) (hc : chn ed x l) (hl : la x l = x) : wsm wt x l ≤ 0 := by
  obtain ⟨l', h1, h2, h3, h4, -⟩ := walk_simple x l hc (fun x b h _ => hr x b h)
  rw [hl] at h3
  cases l' with
  | nil => simpa [wsm] using h4
  | cons y l' =>
    have h5 : x ∈ y :: l' := by
      have := la_mem y l'
      rw [show la x (y :: l') = la y l' from rfl] at h3
      rw [h3] at this
      exact this
    exact absurd h5 (List.nodup_cons.mp h1).1
theorem nodup_lt : ∀ (n : Nat) (l : List Nat), l.Nodup → (∀ x ∈ l, x < n) → l.length ≤ n := by
  intro n
  induction n with
  | zero =>
    intro l _ h
    cases l with
    | nil => simp
    | cons x l => exact absurd (h x (by simp)) (by omega)
  | succ n ih =>
    intro l hn h
    by_cases hm : n ∈ l
    · have h1 := ih (l.erase n) (hn.erase n) (fun x hx => by
        have h2 := h x (List.mem_of_mem_erase hx)
        have h3 : x ≠ n := fun e => by subst e; exact hn.not_mem_erase hx
        omega)
      rw [List.length_erase_of_mem hm] at h1
      omega
    · have := ih l hn (fun x hx => by
        have h2 := h x hx
        have h3 : x ≠ n := fun e => by subst e; exact hm hx
        omega)
      omega
/-! turning a ring -/
theorem ring_turn1 {ed : Nat → Nat → Prop} {x y : Nat} {b : List Nat} (h : ring ed x (y :: b)) : ring ed y (b ++ [x]) := by
  obtain ⟨h1, h2⟩ := h
  refine ⟨?_, ?_⟩
  · have h3 : ([x] ++ (y :: b)).Nodup := h1
    have h4 := (List.perm_append_comm.nodup_iff).mp h3
    simpa using h4
  · have h3 : chn ed x ([y] ++ (b ++ [x])) := h2
    have h5 : chn ed y (b ++ [x]) := h3.2
    rw [chn_app]
    refine ⟨h5, ?_⟩
    rw [la_app]
    exact ⟨h3.1, trivial⟩
theorem ring_turn1_w (wt : Nat → Nat → Int) {x y : Nat} {b : List Nat} : wsm wt y ((b ++ [x]) ++ [y]) = wsm wt x ((y :: b) ++ [x]) := by
  rw [wsm_app, la_app]
  simp only [la, wsm, List.cons_append]
  omega
theorem ring_turn {ed : Nat → Nat → Prop} (wt : Nat → Nat → Int) : ∀ (a : List Nat) (x m : Nat) (c : List Nat), ring ed x (a ++ m :: c) → ring ed m (c ++ x :: a) ∧ wsm wt m ((c ++ x :: a) ++ [m]) = wsm wt x ((a ++ m :: c) ++ [x]) := by
  intro a
  induction a with
  | nil =>
    intro x m c h
    exact ⟨ring_turn1 h, ring_turn1_w wt⟩
  | cons y a ih =>
    intro x m c h
    have h1 : ring ed y ((a ++ m :: c) ++ [x]) := ring_turn1 h
    have h2 : ring ed y (a ++ m :: (c ++ [x])) := by simpa using h1
    obtain ⟨h3, h4⟩ := ih y m (c ++ [x]) h2
    refine ⟨by simpa using h3, ?_⟩
    have h5 : wsm wt y (((a ++ m :: c) ++ [x]) ++ [y]) = wsm wt x ((y :: (a ++ m :: c)) ++ [x]) := ring_turn1_w wt
    have h6 : (c ++ [x]) ++ y :: a = c ++ x :: y :: a := by simp
    rw [h6] at h4
    rw [h4]
    rw [show (a ++ m :: (c ++ [x])) ++ [y] = ((a ++ m :: c) ++ [x]) ++ [y] by simp, h5]
    rfl
end
section
/-! the slowest ring by tables of walks -/
theorem ex_max (f : Nat → Int) (p : Nat → Prop) : ∀ n : Nat, (∃ k, k < n ∧ p k) → ∃ k0, k0 < n ∧ p k0 ∧ ∀ k, k < n → p k → f k ≤ f k0 := by
  intro n
  induction n with
  | zero => rintro ⟨k, h, -⟩; omega
  | succ n ih =>
    rintro ⟨k, hk, hp⟩
    by_cases he : ∃ k, k < n ∧ p k
    · obtain ⟨k0, h1, h2, h3⟩ := ih he
      by_cases hn : p n ∧ f k0 < f n
      · refine ⟨n, by omega, hn.1, fun j hj hpj => ?_⟩
        by_cases hjn : j = n
        · subst hjn; exact Int.le_refl _
        · have := h3 j (by omega) hpj
          omega
      · refine ⟨k0, by omega, h2, fun j hj hpj => ?_⟩
        by_cases hjn : j = n
        · subst hjn
          rcases Int.lt_or_le (f k0) (f j) with q | q
          · exact absurd ⟨hpj, q⟩ hn
          · exact q
        · exact h3 j (by omega) hpj
    · have hkn : k = n := by
        apply Classical.byContradiction
        intro hne
        exact he ⟨k, by omega, hp⟩
      subst hkn
      refine ⟨k, by omega, hp, fun j hj hpj => ?_⟩
      by_cases hjn : j = k
      · subst hjn; exact Int.le_refl _
      · exact absurd ⟨j, by omega, hpj⟩ he
theorem chn_lt {ed : Nat → Nat → Prop} {n : Nat} (hb : ∀ i j, ed i j → i < n ∧ j < n) : ∀ (l : List Nat) (u : Nat), chn ed u l → ∀ y ∈ l, y < n := by
  intro l
  induction l with
  | nil => intro u _ y hy; cases hy
  | cons x l ih =>
    intro u h y hy
    rcases List.mem_cons.mp hy with e | e
    · subst e; exact (hb _ _ h.1).2
    · exact ih x h.2 y e
theorem wsm_red (w : Nat → Nat → Int) (P : Int) : ∀ (l : List Nat) (u : Nat), wsm (fun i j => 60 * w i j - P) u l = 60 * wsm w u l - P * l.length := by
  intro l
  induction l with
  | nil => intro u; simp [wsm]
  | cons x l ih =>
    intro u
    simp only [wsm, ih x, List.length_cons, Int.natCast_add, Int.mul_add]
    omega
theorem wsm_nn {ed : Nat → Nat → Prop} {w : Nat → Nat → Int} (hw : ∀ i j, ed i j → 0 ≤ w i j) : ∀ (l : List Nat) (u : Nat), chn ed u l → 0 ≤ wsm w u l := by
  intro l
  induction l with
  | nil => intro u _; simp [wsm]
  | cons x l ih =>
    intro u h
    have h1 := hw _ _ h.1
    have h2 := ih x h.2
    simp only [wsm]
    omega
/-- what the rows of the tables are -/
def rowsOf (ed : Nat → Nat → Prop) (w : Nat → Nat → Int) (n : Nat) (R : Nat → Nat → Int) : Prop :=
  (∀ k v, k ≤ n → v < n → 0 ≤ R k v → ∃ u l, u < n ∧ l.length = k ∧ chn ed u l ∧ la u l = v ∧ wsm w u l = R k v) ∧
  ∀ u l, u < n → l.length ≤ n → chn ed u l → wsm w u l ≤ R l.length (la u l)
section KARP
variable {ed : Nat → Nat → Prop} {w : Nat → Nat → Int} {n : Nat} {R : Nat → Nat → Int} {P : Int}
theorem karp_suf (hb : ∀ i j, ed i j → i < n ∧ j < n) (hw : ∀ i j, ed i j → 0 ≤ w i j) (hR : rowsOf ed w n R) {v : Nat} (hv : v < n) (h : 0 ≤ R n v) : ∀ k, k ≤ n → 0 ≤ R k v := by
  intro k hk
  obtain ⟨u, l, h1, h2, h3, h4, h5⟩ := hR.1 n v (Nat.le_refl _) hv h
  have e := List.take_append_drop (n - k) l
  have h6 : chn ed u (l.take (n - k) ++ l.drop (n - k)) := by rw [e]; exact h3
  obtain ⟨g1, g2⟩ := (chn_app _ _ _).mp h6
  have h7 : la (la u (l.take (n - k))) (l.drop (n - k)) = v := by rw [← la_app, e]; exact h4
  have h8 : (l.drop (n - k)).length = k := by rw [List.length_drop]; omega
  have h9 : la u (l.take (n - k)) < n := by
    rcases List.mem_cons.mp (la_mem u (l.take (n - k))) with q | q
    · rw [q]; exact h1
    · exact chn_lt hb _ _ g1 _ q
  have := hR.2 _ (l.drop (n - k)) h9 (by omega) g2
  rw [h7, h8] at this
  have h10 := wsm_nn hw _ _ g2
  omega
theorem karp_cut (hb : ∀ i j, ed i j → i < n ∧ j < n) (hR : rowsOf ed w n R) {v : Nat} (hv : v < n) (h : 0 ≤ R n v) : ∃ x b k, ring ed x b ∧ k < n ∧ k + (b.length + 1) = n ∧ R n v ≤ R k v + wsm w x (b ++ [x]) := by
  obtain ⟨u, l, h1, h2, h3, h4, h5⟩ := hR.1 n v (Nat.le_refl _) hv h
  have hnd : ¬ (u :: l).Nodup := by
    intro hn
    have := nodup_lt n (u :: l) hn (fun y hy => by
      rcases List.mem_cons.mp hy with q | q
      · rw [q]; exact h1
      · exact chn_lt hb _ _ h3 _ q)
    simp only [List.length_cons] at this
    omega
  obtain ⟨x, b, l', r1, r2, r3, r4, r5, r6, r7⟩ := walk_cut w l u h3 hnd
  refine ⟨x, b, l'.length, r1, by omega, by omega, ?_⟩
  have := hR.2 u l' h1 (by omega) r2
  rw [r3, h4] at this
  omega
theorem karp_le (hb : ∀ i j, ed i j → i < n ∧ j < n) (hR : rowsOf ed w n R) (hP : ∀ x b, ring ed x b → 60 * wsm w x (b ++ [x]) ≤ P * (b.length + 1 : Nat)) {v : Nat} (hv : v < n) (h : 0 ≤ R n v) : ∃ k, k < n ∧ 60 * (R n v - R k v) ≤ P * (n - k : Nat) := by
  obtain ⟨x, b, k, r1, r2, r3, r4⟩ := karp_cut hb hR hv h
  refine ⟨k, r2, ?_⟩
  have h1 := hP x b r1
  rw [show n - k = b.length + 1 by omega]
  omega
theorem flat_rep (x : Nat) (z : List Nat) (hz : chn ed x z) (hl : la x z = x) (hw0 : wsm (fun i j => 60 * w i j - P) x z = 0) : ∀ t : Nat, chn ed x (List.replicate t z).flatten ∧ la x (List.replicate t z).flatten = x ∧ wsm (fun i j => 60 * w i j - P) x (List.replicate t z).flatten = 0 ∧ (List.replicate t z).flatten.length = t * z.length := by
  intro t
  induction t with
  | zero => simp [chn, la, wsm]
  | succ t ih =>
    obtain ⟨i1, i2, i3, i4⟩ := ih
    rw [List.replicate_succ, List.flatten_cons]
    refine ⟨?_, ?_, ?_, ?_⟩
    · rw [chn_app, hl]; exact ⟨hz, i1⟩
    · rw [la_app, hl]; exact i2
    · rw [wsm_app, hl, hw0, i3]; rfl
    · rw [List.length_append, i4, Nat.succ_mul]; omega
theorem karp_ge (hb : ∀ i j, ed i j → i < n ∧ j < n) (hw : ∀ i j, ed i j → 0 ≤ w i j) (hR : rowsOf ed w n R) (hP : ∀ x b, ring ed x b → 60 * wsm w x (b ++ [x]) ≤ P * (b.length + 1 : Nat)) {x0 : Nat} {b0 : List Nat} (h0 : ring ed x0 b0) (hc : 60 * wsm w x0 (b0 ++ [x0]) = P * (b0.length + 1 : Nat)) : ∃ v, v < n ∧ 0 ≤ R n v ∧ ∀ k, k < n → P * (n - k : Nat) ≤ 60 * (R n v - R k v) := by
  have hz : chn ed x0 (b0 ++ [x0]) := h0.2
  have hx0 : x0 < n := chn_lt hb _ _ hz x0 (by simp)
  have hlz : la x0 (b0 ++ [x0]) = x0 := by rw [la_app]; rfl
  have hwz : wsm (fun i j => 60 * w i j - P) x0 (b0 ++ [x0]) = 0 := by
    rw [wsm_red, List.length_append, List.length_singleton]; omega
  have hred : ∀ x b, ring ed x b → wsm (fun i j => 60 * w i j - P) x (b ++ [x]) ≤ 0 := by
    intro x b h
    have := hP x b h
    rw [wsm_red, List.length_append, List.length_singleton]; omega
  have hR0 : 0 ≤ R 0 x0 := by
    have := hR.2 x0 [] hx0 (by simp) trivial
    simpa [wsm, la] using this
  obtain ⟨k0, k1, k2, k3⟩ := ex_max (fun k => 60 * R k x0 - P * k) (fun k => 0 ≤ R k x0) n ⟨0, by omega, hR0⟩
  -- every walk that ends at x0
  have hall : ∀ u l, u < n → chn ed u l → la u l = x0 → wsm (fun i j => 60 * w i j - P) u l ≤ 60 * R k0 x0 - P * k0 := by
    intro u l hu hl1 hl2
    obtain ⟨l', s1, s2, s3, s4, -⟩ := walk_simple u l hl1 (fun x b h _ => hred x b h)
    have hlen := nodup_lt n (u :: l') s1 (fun y hy => by
      rcases List.mem_cons.mp hy with q | q
      · rw [q]; exact hu
      · exact chn_lt hb _ _ s2 _ q)
    simp only [List.length_cons] at hlen
    have h1 := hR.2 u l' hu (by omega) s2
    rw [s3, hl2] at h1
    have h2 := wsm_nn hw _ _ s2
    have h3 := k3 l'.length (by omega) (by omega)
    rw [wsm_red] at s4 ⊢
    have h4 := wsm_red w P l' u
    rw [h4] at s4
    omega
  obtain ⟨u0, q0, a1, a2, a3, a4, a5⟩ := hR.1 k0 x0 (by omega) hx0 k2
  obtain ⟨f1, f2, f3, f4⟩ := flat_rep (P := P) (w := w) x0 (b0 ++ [x0]) hz hlz hwz n
  generalize hzt : (List.replicate n (b0 ++ [x0])).flatten = zt at f1 f2 f3 f4
  have hzl : n ≤ zt.length := by
    rw [f4, List.length_append, List.length_singleton]
    exact Nat.le_mul_of_pos_right n (by omega)
  have e := List.take_append_drop (n - k0) zt
  have g0 : chn ed x0 (zt.take (n - k0) ++ zt.drop (n - k0)) := by rw [e]; exact f1
  obtain ⟨g1, g2⟩ := (chn_app _ _ _).mp g0
  have g3 : la (la x0 (zt.take (n - k0))) (zt.drop (n - k0)) = x0 := by rw [← la_app, e]; exact f2
  have g4 : wsm (fun i j => 60 * w i j - P) x0 (zt.take (n - k0)) + wsm (fun i j => 60 * w i j - P) (la x0 (zt.take (n - k0))) (zt.drop (n - k0)) = 0 := by rw [← wsm_app, e]; exact f3
  generalize hv : la x0 (zt.take (n - k0)) = v at g2 g3 g4
  have g5 : (zt.take (n - k0)).length = n - k0 := by rw [List.length_take]; omega
  have hvn : v < n := by
    rw [← hv]
    rcases List.mem_cons.mp (la_mem x0 (zt.take (n - k0))) with q | q
    · rw [q]; exact hx0
    · exact chn_lt hb _ _ g1 _ q
  have hq : chn ed u0 (q0 ++ zt.take (n - k0)) := by rw [chn_app, a4]; exact ⟨a3, g1⟩
  have hql : (q0 ++ zt.take (n - k0)).length = n := by rw [List.length_append, a2, g5]; omega
  have hqv : la u0 (q0 ++ zt.take (n - k0)) = v := by rw [la_app, a4]; exact hv
  have hqm := hR.2 u0 _ a1 (by omega) hq
  rw [hqv, hql] at hqm
  have hqw : wsm w u0 (q0 ++ zt.take (n - k0)) = R k0 x0 + wsm w x0 (zt.take (n - k0)) := by rw [wsm_app, a4, a5]
  rw [hqw] at hqm
  have hs1 := wsm_red w P (zt.take (n - k0)) x0
  rw [hs1, g5] at g4
  have hnn := wsm_nn hw _ _ g1
  refine ⟨v, hvn, by omega, fun k hk => ?_⟩
  have hkk : 0 ≤ R k v := karp_suf hb hw hR hvn (by omega) k (by omega)
  obtain ⟨u1, q1, b1, b2, b3, b4, b5⟩ := hR.1 k v (by omega) hvn hkk
  have c1 := hall u1 (q1 ++ zt.drop (n - k0)) b1 (by rw [chn_app, b4]; exact ⟨b3, g2⟩) (by rw [la_app, b4]; exact g3)
  rw [wsm_app, b4] at c1
  have c2 := wsm_red w P q1 u1
  rw [c2, b2, b5] at c1
  have e1 : (n - k : Nat) = (n : Int) - (k : Int) := by omega
  have e2 : (n - k0 : Nat) = (n : Int) - (k0 : Int) := by omega
  rw [e1, Int.mul_sub]
  rw [e2, Int.mul_sub] at g4
  omega
end KARP
end
section
/-! all rings, each begun at its least departure, as the reference goes through them -/
section DFS
variable (e : Nat → Nat → Bool) (n first : Nat) (som : Nat → Bool)
def dfs : Nat → List Nat → List (List Nat)
  | 0, _ => []
  | f + 1, b => (List.range' first (n - first)).flatMap (fun to => if to = first ∧ e (la first b) to = true then [b] else if e (la first b) to = true ∧ som to = true ∧ to ∉ first :: b then dfs f (b ++ [to]) else [])
end DFS
def eP (e : Nat → Nat → Bool) : Nat → Nat → Prop := fun i j => e i j = true
theorem nodup_snoc {x : Nat} {l : List Nat} : (l ++ [x]).Nodup ↔ l.Nodup ∧ x ∉ l := by
  rw [List.perm_append_comm.nodup_iff]
  simp [List.nodup_cons, and_comm]
theorem mem_dfs {e : Nat → Nat → Bool} {n first : Nat} {som : Nat → Bool} (hf : first < n) : ∀ (f : Nat) (b c : List Nat), (first :: b).Nodup → (c ∈ dfs e n first som f b ↔ ∃ t, c = b ++ t ∧ t.length < f ∧ chn (eP e) (la first b) (t ++ [first]) ∧ (first :: (b ++ t)).Nodup ∧ ∀ y ∈ t, first ≤ y ∧ y < n ∧ som y = true) := by
  intro f
  induction f with
  | zero =>
    intro b c _
    simp [dfs]
  | succ f ih =>
    intro b c hb
    unfold dfs
    rw [List.mem_flatMap]
    constructor
    · rintro ⟨to, hto, hc⟩
      rw [List.mem_range'_1] at hto
      by_cases h1 : to = first ∧ e (la first b) to = true
      · rw [if_pos h1, List.mem_singleton] at hc
        refine ⟨[], by simp [hc], by simp, ?_, by simpa using hb, by simp⟩
        obtain ⟨rfl, h2⟩ := h1
        exact ⟨h2, trivial⟩
      · rw [if_neg h1] at hc
        by_cases h2 : e (la first b) to = true ∧ som to = true ∧ to ∉ first :: b
        · rw [if_pos h2] at hc
          have hnd : (first :: (b ++ [to])).Nodup := by
            have : ((first :: b) ++ [to]).Nodup := nodup_snoc.mpr ⟨hb, h2.2.2⟩
            simpa using this
          obtain ⟨t, g1, g2, g3, g4, g5⟩ := (ih (b ++ [to]) c hnd).mp hc
          refine ⟨to :: t, by rw [g1]; simp, by simp only [List.length_cons]; omega, ?_, by simpa using g4, ?_⟩
          · rw [la_app] at g3
            exact ⟨h2.1, g3⟩
          · intro y hy
            rcases List.mem_cons.mp hy with q | q
            · subst q; exact ⟨by omega, by omega, h2.2.1⟩
            · exact g5 y q
        · rw [if_neg h2] at hc
          cases hc
    · rintro ⟨t, rfl, h2, h3, h4, h5⟩
      cases t with
      | nil =>
        refine ⟨first, by rw [List.mem_range'_1]; omega, ?_⟩
        rw [if_pos ⟨rfl, h3.1⟩]
        simp
      | cons to t =>
        have h6 := h5 to (by simp)
        refine ⟨to, by rw [List.mem_range'_1]; omega, ?_⟩
        have h7 : to ∉ first :: b := by
          intro hm
          have h8 : ((first :: b) ++ (to :: t)).Nodup := by simpa using h4
          exact (List.nodup_append.mp h8).2.2 to hm to (by simp) rfl
        have h8 : ¬ (to = first ∧ e (la first b) to = true) := fun q => h7 (by rw [q.1]; simp)
        rw [if_neg h8, if_pos ⟨h3.1, h6.2.2, h7⟩]
        have hnd : (first :: (b ++ [to])).Nodup := by
          have : ((first :: b) ++ [to]).Nodup := nodup_snoc.mpr ⟨hb, h7⟩
          simpa using this
        rw [ih (b ++ [to]) _ hnd]
        refine ⟨t, by simp, by simp only [List.length_cons] at h2; omega, ?_, by simpa using h4, fun y hy => h5 y (by simp [hy])⟩
        rw [la_app]
        exact h3.2
/-- the rings of some departures -/
def ringsL (e : Nat → Nat → Bool) (n : Nat) (som : Nat → Bool) : List (Nat × List Nat) :=
  (List.range n).flatMap (fun d => if som d = true then (dfs e n d som n []).map (fun b => (d, b)) else [])
theorem mem_ringsL {e : Nat → Nat → Bool} {n : Nat} {som : Nat → Bool} {x : Nat} {b : List Nat} : (x, b) ∈ ringsL e n som ↔ ring (eP e) x b ∧ ∀ y ∈ x :: b, x ≤ y ∧ y < n ∧ som y = true := by
  unfold ringsL
  rw [List.mem_flatMap]
  constructor
  · rintro ⟨d, hd, h⟩
    rw [List.mem_range] at hd
    by_cases hs : som d = true
    · rw [if_pos hs, List.mem_map] at h
      obtain ⟨c, hc, e1⟩ := h
      have e2 : d = x := congrArg Prod.fst e1
      have e3 : c = b := congrArg Prod.snd e1
      subst e2
      rw [e3, mem_dfs hd n [] b (by simp)] at hc
      obtain ⟨t, g1, g2, g3, g4, g5⟩ := hc
      simp only [List.nil_append] at g1 g4
      subst g1
      refine ⟨⟨g4, g3⟩, fun y hy => ?_⟩
      rcases List.mem_cons.mp hy with q | q
      · subst q; exact ⟨Nat.le_refl _, hd, hs⟩
      · exact g5 y q
    · rw [if_neg hs] at h
      cases h
  · rintro ⟨⟨h1, h2⟩, h3⟩
    have hx := h3 x (by simp)
    refine ⟨x, List.mem_range.mpr hx.2.1, ?_⟩
    rw [if_pos hx.2.2, List.mem_map]
    refine ⟨b, ?_, rfl⟩
    rw [mem_dfs hx.2.1 n [] b (by simp)]
    refine ⟨b, by simp, ?_, h2, by simpa using h1, fun y hy => h3 y (by simp [hy])⟩
    have := nodup_lt n (x :: b) h1 (fun y hy => (h3 y hy).2.1)
    simp only [List.length_cons] at this
    omega
/-- the waits of a ring -/
def edg : Nat → List Nat → List (Nat × Nat)
  | _, [] => []
  | u, x :: l => (u, x) :: edg x l
theorem edg_app (u : Nat) (a b : List Nat) : edg u (a ++ b) = edg u a ++ edg (la u a) b := by
  induction a generalizing u with
  | nil => rfl
  | cons x a ih => simp [edg, la, ih x]
theorem edg_turn1 {x y : Nat} {b : List Nat} {p : Nat × Nat} : p ∈ edg y ((b ++ [x]) ++ [y]) ↔ p ∈ edg x ((y :: b) ++ [x]) := by
  rw [edg_app, la_app]
  simp only [la, edg, List.cons_append, List.mem_append, List.mem_cons, List.not_mem_nil, or_false]
  exact or_comm
theorem edg_turn : ∀ (a : List Nat) (x m : Nat) (c : List Nat) (p : Nat × Nat), p ∈ edg m ((c ++ x :: a) ++ [m]) ↔ p ∈ edg x ((a ++ m :: c) ++ [x]) := by
  intro a
  induction a with
  | nil => intro x m c p; exact edg_turn1
  | cons y a ih =>
    intro x m c p
    have h5 := edg_turn1 (x := x) (y := y) (b := a ++ m :: c) (p := p)
    have h4 := ih y m (c ++ [x]) p
    rw [show (c ++ [x]) ++ y :: a = c ++ x :: y :: a by simp] at h4
    rw [h4, show (a ++ m :: (c ++ [x])) ++ [y] = ((a ++ m :: c) ++ [x]) ++ [y] by simp, h5]
    rfl
theorem edg_chn {ed : Nat → Nat → Prop} : ∀ (l : List Nat) (u : Nat), chn ed u l → ∀ p ∈ edg u l, ed p.1 p.2 ∧ p.1 ∈ u :: l ∧ p.2 ∈ l := by
  intro l
  induction l with
  | nil => intro u _ p hp; cases hp
  | cons x l ih =>
    intro u h p hp
    rcases List.mem_cons.mp hp with q | q
    · subst q; exact ⟨h.1, by simp, by simp⟩
    · obtain ⟨g1, g2, g3⟩ := ih x h.2 p q
      exact ⟨g1, List.mem_cons_of_mem _ g2, List.mem_cons_of_mem _ g3⟩
theorem ex_min : ∀ (l : List Nat) (x : Nat), ∃ m, m ∈ x :: l ∧ ∀ y ∈ x :: l, m ≤ y := by
  intro l
  induction l with
  | nil => intro x; exact ⟨x, by simp, by simp⟩
  | cons z l ih =>
    intro x
    obtain ⟨m, h1, h2⟩ := ih z
    by_cases hx : x ≤ m
    · refine ⟨x, by simp, fun y hy => ?_⟩
      rcases List.mem_cons.mp hy with q | q
      · omega
      · have := h2 y q; omega
    · refine ⟨m, List.mem_cons_of_mem _ h1, fun y hy => ?_⟩
      rcases List.mem_cons.mp hy with q | q
      · omega
      · exact h2 y q
/-- every ring is among them, turned -/
theorem ring_in {e : Nat → Nat → Bool} {n : Nat} {som : Nat → Bool} {x : Nat} {b : List Nat} (h : ring (eP e) x b) (hv : ∀ y ∈ x :: b, y < n ∧ som y = true) (w : Nat → Nat → Int) : ∃ x' b', (x', b') ∈ ringsL e n som ∧ b'.length = b.length ∧ wsm w x' (b' ++ [x']) = wsm w x (b ++ [x]) ∧ (∀ p, p ∈ edg x' (b' ++ [x']) ↔ p ∈ edg x (b ++ [x])) ∧ ∀ y, y ∈ x' :: b' ↔ y ∈ x :: b := by
  obtain ⟨m, h1, h2⟩ := ex_min b x
  by_cases hm : m = x
  · subst hm
    exact ⟨m, b, mem_ringsL.mpr ⟨h, fun y hy => ⟨h2 y hy, hv y hy⟩⟩, rfl, rfl, fun _ => Iff.rfl, fun _ => Iff.rfl⟩
  · have h3 : m ∈ b := by
      rcases List.mem_cons.mp h1 with q | q
      · exact absurd q hm
      · exact q
    obtain ⟨a, c, rfl, -⟩ := mem_split_first h3
    obtain ⟨g1, g2⟩ := ring_turn w a x m c h
    have hmem : ∀ y, y ∈ m :: (c ++ x :: a) ↔ y ∈ x :: (a ++ m :: c) := by
      intro y
      simp only [List.mem_cons, List.mem_append]
      constructor
      · rintro (q | q | q | q)
        · exact Or.inr (Or.inr (Or.inl q))
        · exact Or.inr (Or.inr (Or.inr q))
        · exact Or.inl q
        · exact Or.inr (Or.inl q)
      · rintro (q | q | q | q)
        · exact Or.inr (Or.inr (Or.inl q))
        · exact Or.inr (Or.inr (Or.inr q))
        · exact Or.inl q
        · exact Or.inr (Or.inl q)
    refine ⟨m, c ++ x :: a, mem_ringsL.mpr ⟨g1, fun y hy => ?_⟩, by simp; omega, g2, edg_turn a x m c, hmem⟩
    have := (hmem y).mp hy
    exact ⟨h2 y this, hv y this⟩
end
section
/-! the net, on the class's side and on the reference's -/
def itr {α : Type} (g : Nat → α → α) : Nat → α → α
  | 0, a => a
  | k + 1, a => g k (itr g k a)
theorem tr_maxI {a b : Int} (h1 : -2147483648 ≤ a) (h2 : a < 2147483648) (h3 : -2147483648 ≤ b) (h4 : b < 2147483648) : tr_max (iI a) (iI b) = iI (max a b) := by
  unfold tr_max
  by_cases h : a < b
  · rw [if_pos (by rw [iI_lt h1 h2 h3 h4]; exact h), show max a b = b by omega]
  · rw [if_neg (by rw [iI_lt h1 h2 h3 h4]; exact h), show max a b = a by omega]
theorem tr_minI {a b : Int} (h1 : -2147483648 ≤ a) (h2 : a < 2147483648) (h3 : -2147483648 ≤ b) (h4 : b < 2147483648) : tr_min (iI a) (iI b) = iI (min a b) := by
  unfold tr_min
  by_cases h : b < a
  · rw [if_pos (by rw [iI_lt h3 h4 h1 h2]; exact h), show min a b = b by omega]
  · rw [if_neg (by rw [iI_lt h3 h4 h1 h2]; exact h), show min a b = a by omega]
/-- n departures, w: minutes by cell, -9 where there is no wait -/
def okn (n : Nat) (w : Nat → Int) : Prop := 1 ≤ n ∧ n ≤ 6 ∧ ∀ c, c < 36 → (w c = -9 ∨ (0 ≤ w c ∧ w c ≤ 9)) ∧ ((n ≤ c / 6 ∨ n ≤ c % 6) → w c = -9)
def netI (i : Nat) : Prop := i = 2 ∨ i = 4 ∨ i = 6 ∨ i = 8
/-- the class's net at a cell -/
def tN (h : tr_H) (i n : Nat) (w : Nat → Int) : Prop := netI i ∧ okn n w ∧ h.1 i 1 = iI n ∧ ∀ c, c < 36 → h.1 (i + 1) c = iI (w c)
def eB (n : Nat) (w : Nat → Int) (i j : Nat) : Bool := decide (i < n ∧ j < n ∧ w (6 * i + j) ≠ -9)
def wN (w : Nat → Int) (i j : Nat) : Int := w (6 * i + j)
def woI (n : Nat) (w : Nat → Int) (a b : Int) : Int := if 0 ≤ a ∧ a < n ∧ 0 ≤ b ∧ b < n then w (6 * a.toNat + b.toNat) else -9
theorem okn_b {n : Nat} {w : Nat → Int} (h : okn n w) {c : Nat} (hc : c < 36) : -9 ≤ w c ∧ w c ≤ 9 := by
  rcases (h.2.2 c hc).1 with q | q <;> omega
theorem woI_b {n : Nat} {w : Nat → Int} (h : okn n w) (a b : Int) : -9 ≤ woI n w a b ∧ woI n w a b ≤ 9 := by
  unfold woI
  have := h.2.1
  split
  · exact okn_b h (by omega)
  · omega
theorem woI_in {n : Nat} {w : Nat → Int} {i j : Nat} (hi : i < n) (hj : j < n) : woI n w i j = w (6 * i + j) := by
  unfold woI
  rw [if_pos (by omega)]
  simp
theorem n_of {h : tr_H} {i n : Nat} {w : Nat → Int} (hN : tN h i n w) {a b : Int} (a1 : -2147483648 ≤ a) (a2 : a < 2147483648) (b1 : -2147483648 ≤ b) (b2 : b < 2147483648) : f_X2_of i (iI a) (iI b) h = some (iI (woI n w a b)) := by
  obtain ⟨-, h1, h2, h3⟩ := hN
  have n1 := h1.1
  have n2 := h1.2.1
  unfold f_X2_of woI
  rw [h2]
  by_cases c1 : a < 0
  · simp (disch := omega) only [iI_0, iI_1, iI_2, iI_3, iI_4, iI_5, iI_6, iI_7, iI_8, iI_9, iI_10, iI_11, iI_12, iI_14, iI_20, iI_30, iI_31, iI_36, iI_37, iI_40, iI_48, iI_60, iI_63, iI_64, iI_78, iI_100, iI_255, iI_481, iI_1000000, iI_m1, iI_m2, iI_m3, iI_m4, iI_m9, iI_m1000000, iI_add, iI_sub, iI_mul, iI_neg, iI_lt, iI_le, iI_eq, iI_cl, tr_bd, tr_bn_some, tr_b2_some, tr_gdI, tr_nzI, if_pos, if_neg, ↓reduceIte]
  · by_cases c2 : (n : Int) ≤ a
    · simp (disch := omega) only [iI_0, iI_1, iI_2, iI_3, iI_4, iI_5, iI_6, iI_7, iI_8, iI_9, iI_10, iI_11, iI_12, iI_14, iI_20, iI_30, iI_31, iI_36, iI_37, iI_40, iI_48, iI_60, iI_63, iI_64, iI_78, iI_100, iI_255, iI_481, iI_1000000, iI_m1, iI_m2, iI_m3, iI_m4, iI_m9, iI_m1000000, iI_add, iI_sub, iI_mul, iI_neg, iI_lt, iI_le, iI_eq, iI_cl, tr_bd, tr_bn_some, tr_b2_some, tr_gdI, tr_nzI, if_pos, if_neg, ↓reduceIte]
    · by_cases c3 : b < 0
      · simp (disch := omega) only [iI_0, iI_1, iI_2, iI_3, iI_4, iI_5, iI_6, iI_7, iI_8, iI_9, iI_10, iI_11, iI_12, iI_14, iI_20, iI_30, iI_31, iI_36, iI_37, iI_40, iI_48, iI_60, iI_63, iI_64, iI_78, iI_100, iI_255, iI_481, iI_1000000, iI_m1, iI_m2, iI_m3, iI_m4, iI_m9, iI_m1000000, iI_add, iI_sub, iI_mul, iI_neg, iI_lt, iI_le, iI_eq, iI_cl, tr_bd, tr_bn_some, tr_b2_some, tr_gdI, tr_nzI, if_pos, if_neg, ↓reduceIte]
      · by_cases c4 : b < n
        · simp (disch := omega) only [iI_0, iI_1, iI_2, iI_3, iI_4, iI_5, iI_6, iI_7, iI_8, iI_9, iI_10, iI_11, iI_12, iI_14, iI_20, iI_30, iI_31, iI_36, iI_37, iI_40, iI_48, iI_60, iI_63, iI_64, iI_78, iI_100, iI_255, iI_481, iI_1000000, iI_m1, iI_m2, iI_m3, iI_m4, iI_m9, iI_m1000000, iI_add, iI_sub, iI_mul, iI_neg, iI_lt, iI_le, iI_eq, iI_cl, tr_bd, tr_bn_some, tr_b2_some, tr_gdI, tr_nzI, if_pos, if_neg, ↓reduceIte]
          rw [h3 _ (by omega), show (a * 6 + b).toNat = 6 * a.toNat + b.toNat by omega]
        · simp (disch := omega) only [iI_0, iI_1, iI_2, iI_3, iI_4, iI_5, iI_6, iI_7, iI_8, iI_9, iI_10, iI_11, iI_12, iI_14, iI_20, iI_30, iI_31, iI_36, iI_37, iI_40, iI_48, iI_60, iI_63, iI_64, iI_78, iI_100, iI_255, iI_481, iI_1000000, iI_m1, iI_m2, iI_m3, iI_m4, iI_m9, iI_m1000000, iI_add, iI_sub, iI_mul, iI_neg, iI_lt, iI_le, iI_eq, iI_cl, tr_bd, tr_bn_some, tr_b2_some, tr_gdI, tr_nzI, if_pos, if_neg, ↓reduceIte]
theorem n_has {h : tr_H} {i n : Nat} {w : Nat → Int} (hN : tN h i n w) {a : Int} (a1 : -2147483648 ≤ a) (a2 : a < 2147483648) : f_X2_has i (iI a) h = some (if 0 ≤ a ∧ a < n then 1 else 0) := by
  obtain ⟨-, h1, h2, h3⟩ := hN
  have n1 := h1.1
  have n2 := h1.2.1
  unfold f_X2_has
  rw [h2]
  by_cases c1 : a < 0
  · simp (disch := omega) only [iI_0, iI_1, iI_2, iI_3, iI_4, iI_5, iI_6, iI_7, iI_8, iI_9, iI_10, iI_11, iI_12, iI_14, iI_20, iI_30, iI_31, iI_36, iI_37, iI_40, iI_48, iI_60, iI_63, iI_64, iI_78, iI_100, iI_255, iI_481, iI_1000000, iI_m1, iI_m2, iI_m3, iI_m4, iI_m9, iI_m1000000, iI_add, iI_sub, iI_mul, iI_neg, iI_lt, iI_le, iI_eq, iI_cl, tr_bd, tr_bn_some, tr_b2_some, tr_gdI, tr_nzI, if_pos, if_neg, ↓reduceIte]
  · by_cases c2 : (n : Int) ≤ a
    · simp (disch := omega) only [iI_0, iI_1, iI_2, iI_3, iI_4, iI_5, iI_6, iI_7, iI_8, iI_9, iI_10, iI_11, iI_12, iI_14, iI_20, iI_30, iI_31, iI_36, iI_37, iI_40, iI_48, iI_60, iI_63, iI_64, iI_78, iI_100, iI_255, iI_481, iI_1000000, iI_m1, iI_m2, iI_m3, iI_m4, iI_m9, iI_m1000000, iI_add, iI_sub, iI_mul, iI_neg, iI_lt, iI_le, iI_eq, iI_cl, tr_bd, tr_bn_some, tr_b2_some, tr_gdI, tr_nzI, if_pos, if_neg, ↓reduceIte]
    · simp (disch := omega) only [iI_0, iI_1, iI_2, iI_3, iI_4, iI_5, iI_6, iI_7, iI_8, iI_9, iI_10, iI_11, iI_12, iI_14, iI_20, iI_30, iI_31, iI_36, iI_37, iI_40, iI_48, iI_60, iI_63, iI_64, iI_78, iI_100, iI_255, iI_481, iI_1000000, iI_m1, iI_m2, iI_m3, iI_m4, iI_m9, iI_m1000000, iI_add, iI_sub, iI_mul, iI_neg, iI_lt, iI_le, iI_eq, iI_cl, tr_bd, tr_bn_some, tr_b2_some, tr_gdI, tr_nzI, if_pos, if_neg, ↓reduceIte]
/-- a wait has other minutes -/
def wup (w : Nat → Int) (c : Nat) (v : Int) : Nat → Int := fun k => if k = c then v else w k
theorem okn_up {n : Nat} {w : Nat → Int} (h : okn n w) {i j : Nat} (hi : i < n) (hj : j < n) {v : Int} (hv : v = -9 ∨ (0 ≤ v ∧ v ≤ 9)) : okn n (wup w (6 * i + j) v) := by
  refine ⟨h.1, h.2.1, fun c hc => ?_⟩
  have := h.2.1
  unfold wup
  by_cases e : c = 6 * i + j
  · rw [if_pos e]
    exact ⟨hv, fun q => by omega⟩
  · rw [if_neg e]
    exact h.2.2 c hc
theorem n_lay {h : tr_H} {i n : Nat} {w : Nat → Int} (hN : tN h i n w) {a b : Int} (v : Int) (a1 : -2147483648 ≤ a) (a2 : a < 2147483648) (b1 : -2147483648 ≤ b) (b2 : b < 2147483648) : f_X2_lay i (iI a) (iI b) (iI v) h = some (if 0 ≤ a ∧ a < n ∧ 0 ≤ b ∧ b < n then (1, tr_sa h (i + 1) (upd (h.1 (i + 1)) (6 * a.toNat + b.toNat) (iI v))) else (0, h)) := by
  have g1 := n_has hN a1 a2
  have g2 := n_has hN b1 b2
  obtain ⟨-, h1, h2, h3⟩ := hN
  have n1 := h1.1
  have n2 := h1.2.1
  unfold f_X2_lay
  rw [g1, g2]
  by_cases c1 : 0 ≤ a ∧ a < n
  · by_cases c2 : 0 ≤ b ∧ b < n
    · rw [if_pos c1, if_pos c2]
      simp (disch := omega) only [iI_0, iI_1, iI_2, iI_3, iI_4, iI_5, iI_6, iI_7, iI_8, iI_9, iI_10, iI_11, iI_12, iI_14, iI_20, iI_30, iI_31, iI_36, iI_37, iI_40, iI_48, iI_60, iI_63, iI_64, iI_78, iI_100, iI_255, iI_481, iI_1000000, iI_m1, iI_m2, iI_m3, iI_m4, iI_m9, iI_m1000000, iI_add, iI_sub, iI_mul, iI_neg, iI_lt, iI_le, iI_eq, iI_cl, tr_bd, tr_bn_some, tr_b2_some, tr_gdI, tr_nzI, if_pos, if_neg, ↓reduceIte]
      rw [show (a * 6 + b).toNat = 6 * a.toNat + b.toNat by omega]
      rfl
    · rw [if_pos c1, if_neg c2]
      simp (disch := omega) only [iI_0, iI_1, iI_2, iI_3, iI_4, iI_5, iI_6, iI_7, iI_8, iI_9, iI_10, iI_11, iI_12, iI_14, iI_20, iI_30, iI_31, iI_36, iI_37, iI_40, iI_48, iI_60, iI_63, iI_64, iI_78, iI_100, iI_255, iI_481, iI_1000000, iI_m1, iI_m2, iI_m3, iI_m4, iI_m9, iI_m1000000, iI_add, iI_sub, iI_mul, iI_neg, iI_lt, iI_le, iI_eq, iI_cl, tr_bd, tr_bn_some, tr_b2_some, tr_gdI, tr_nzI, if_pos, if_neg, ↓reduceIte]
  · rw [if_neg c1]
    simp (disch := omega) only [iI_0, iI_1, iI_2, iI_3, iI_4, iI_5, iI_6, iI_7, iI_8, iI_9, iI_10, iI_11, iI_12, iI_14, iI_20, iI_30, iI_31, iI_36, iI_37, iI_40, iI_48, iI_60, iI_63, iI_64, iI_78, iI_100, iI_255, iI_481, iI_1000000, iI_m1, iI_m2, iI_m3, iI_m4, iI_m9, iI_m1000000, iI_add, iI_sub, iI_mul, iI_neg, iI_lt, iI_le, iI_eq, iI_cl, tr_bd, tr_bn_some, tr_b2_some, tr_gdI, tr_nzI, if_pos, if_neg, ↓reduceIte]
theorem tN_up {h : tr_H} {i n : Nat} {w : Nat → Int} (hN : tN h i n w) {a b : Nat} (ha : a < n) (hb : b < n) {v : Int} (hv : v = -9 ∨ (0 ≤ v ∧ v ≤ 9)) : tN (tr_sa h (i + 1) (upd (h.1 (i + 1)) (6 * a + b) (iI v))) i n (wup w (6 * a + b) v) := by
  obtain ⟨h0, h1, h2, h3⟩ := hN
  refine ⟨h0, okn_up h1 ha hb hv, ?_, fun c hc => ?_⟩
  · rw [tr_sa_ne _ _ (by omega)]; exact h2
  · rw [tr_sa_at]
    unfold upd wup
    by_cases e : c = 6 * a + b
    · rw [if_pos e, if_pos e]
    · rw [if_neg e, if_neg e, h3 c hc]
theorem tN_ne {h : tr_H} {i n : Nat} {w : Nat → Int} (hN : tN h i n w) {c : Nat} (f : Nat → Int32) (h1 : i ≠ c) (h2 : i + 1 ≠ c) : tN (tr_sa h c f) i n w := by
  obtain ⟨g0, g1, g2, g3⟩ := hN
  exact ⟨g0, g1, by rw [tr_sa_ne _ _ h1]; exact g2, fun k hk => by rw [tr_sa_ne _ _ h2]; exact g3 k hk⟩
/-- how many waits there are -/
def cnt (p : Nat → Bool) : Nat → Nat
  | 0 => 0
  | k + 1 => cnt p k + (if p k then 1 else 0)
theorem cnt_le (p : Nat → Bool) (k : Nat) : cnt p k ≤ k := by
  induction k with
  | zero => exact Nat.le_refl _
  | succ k ih => unfold cnt; split <;> omega
def nwt (w : Nat → Int) : Nat := cnt (fun c => decide (w c ≠ -9)) 36
theorem n_waits {h : tr_H} {i n : Nat} {w : Nat → Int} (hN : tN h i n w) : f_X2_waits i h = some (iI (nwt w)) := by
  obtain ⟨-, h1, h2, h3⟩ := hN
  unfold f_X2_waits
  have key := tr_seq (f := fun q => f_X2_waits_L4 h i q.1 q.2) (fun k => (iI (cnt (fun c => decide (w c ≠ -9)) k), iI k)) (lo := 0) (hi := 36) (r := iI (nwt w)) (by omega) ?_ ?_
  · rw [show ((0 : Int32), (0 : Int32)) = (iI (cnt (fun c => decide (w c ≠ -9)) 0 : Nat), iI (0 : Nat)) from rfl, key]
    rfl
  · intro k _ hk
    have hb := okn_b h1 hk
    have hc := cnt_le (fun c => decide (w c ≠ -9)) k
    have h4 := h3 k hk
    show f_X2_waits_L4 h i (iI (cnt (fun c => decide (w c ≠ -9)) k)) (iI k) = _
    unfold f_X2_waits_L4
    by_cases e : w k = -9
    · simp (disch := omega) only [iI_0, iI_1, iI_2, iI_3, iI_4, iI_5, iI_6, iI_7, iI_8, iI_9, iI_10, iI_11, iI_12, iI_14, iI_20, iI_30, iI_31, iI_36, iI_37, iI_40, iI_48, iI_60, iI_63, iI_64, iI_78, iI_100, iI_255, iI_481, iI_1000000, iI_m1, iI_m2, iI_m3, iI_m4, iI_m9, iI_m1000000, iI_add, iI_sub, iI_mul, iI_neg, iI_lt, iI_le, iI_eq, iI_cl, tr_bd, tr_bn_some, tr_b2_some, tr_gdI, tr_nzI, if_pos, if_neg, ↓reduceIte, Int.toNat_natCast, h4, e]
      simp only [cnt, e]
      simp
    · simp (disch := omega) only [iI_0, iI_1, iI_2, iI_3, iI_4, iI_5, iI_6, iI_7, iI_8, iI_9, iI_10, iI_11, iI_12, iI_14, iI_20, iI_30, iI_31, iI_36, iI_37, iI_40, iI_48, iI_60, iI_63, iI_64, iI_78, iI_100, iI_255, iI_481, iI_1000000, iI_m1, iI_m2, iI_m3, iI_m4, iI_m9, iI_m1000000, iI_add, iI_sub, iI_mul, iI_neg, iI_lt, iI_le, iI_eq, iI_cl, tr_bd, tr_bn_some, tr_b2_some, tr_gdI, tr_nzI, if_pos, if_neg, ↓reduceIte, Int.toNat_natCast, h4]
      simp [cnt, e]
  · show f_X2_waits_L4 h i (iI (cnt (fun c => decide (w c ≠ -9)) 36)) (iI (36 : Nat)) = _
    unfold f_X2_waits_L4
    simp (disch := omega) only [iI_0, iI_1, iI_2, iI_3, iI_4, iI_5, iI_6, iI_7, iI_8, iI_9, iI_10, iI_11, iI_12, iI_14, iI_20, iI_30, iI_31, iI_36, iI_37, iI_40, iI_48, iI_60, iI_63, iI_64, iI_78, iI_100, iI_255, iI_481, iI_1000000, iI_m1, iI_m2, iI_m3, iI_m4, iI_m9, iI_m1000000, iI_add, iI_sub, iI_mul, iI_neg, iI_lt, iI_le, iI_eq, iI_cl, tr_bd, tr_bn_some, tr_b2_some, tr_gdI, tr_nzI, if_pos, if_neg, ↓reduceIte]
    rfl
end
section
/-! the class's tables of walks -/
def Rk (n : Nat) (w : Nat → Int) : Nat → Nat → Int
  | 0, _ => 0
  | k + 1, v => itr (fun u a => if 0 ≤ Rk n w k u ∧ w (6 * u + v) ≠ -9 then max a (Rk n w k u + w (6 * u + v)) else a) n (-1)
theorem Rk_succ (n : Nat) (w : Nat → Int) (k v : Nat) : Rk n w (k + 1) v = itr (fun u a => if 0 ≤ Rk n w k u ∧ w (6 * u + v) ≠ -9 then max a (Rk n w k u + w (6 * u + v)) else a) n (-1) := rfl
theorem itr_ind {α : Type} {g : Nat → α → α} {a : α} (I : Nat → α → Prop) (n : Nat) (h0 : I 0 a) (hs : ∀ k b, k < n → I k b → I (k + 1) (g k b)) : I n (itr g n a) := by
  induction n with
  | zero => exact h0
  | succ n ih => exact hs n _ (by omega) (ih (fun k b hk => hs k b (by omega)))
theorem Rk_b {n : Nat} {w : Nat → Int} (hw : okn n w) : ∀ (k v : Nat), v < n → -1 ≤ Rk n w k v ∧ Rk n w k v ≤ 9 * k := by
  intro k
  induction k with
  | zero => intro v _; simp [Rk]
  | succ k ih =>
    intro v hv
    have h6 := hw.2.1
    rw [Rk_succ]
    refine itr_ind (fun (_ : Nat) (a : Int) => -1 ≤ a ∧ a ≤ 9 * (k + 1 : Nat)) n (by omega) (fun u a hu ha => ?_)
    have h1 := ih u hu
    have h2 := okn_b hw (c := 6 * u + v) (by omega)
    split <;> omega
theorem Rk_rows {n : Nat} {w : Nat → Int} (hw : okn n w) : rowsOf (eP (eB n w)) (wN w) n (Rk n w) := by
  have h6 := hw.2.1
  constructor
  · intro k
    induction k with
    | zero =>
      intro v _ hv _
      exact ⟨v, [], hv, rfl, trivial, rfl, by simp [wsm, Rk]⟩
    | succ k ih =>
      intro v hk hv h0
      rw [Rk_succ] at h0
      have key := itr_ind (g := fun u a => if 0 ≤ Rk n w k u ∧ w (6 * u + v) ≠ -9 then max a (Rk n w k u + w (6 * u + v)) else a) (a := (-1 : Int)) (fun _ a => 0 ≤ a → ∃ u, u < n ∧ 0 ≤ Rk n w k u ∧ w (6 * u + v) ≠ -9 ∧ a = Rk n w k u + w (6 * u + v)) n (by omega) (fun u a hu ha h => ?_)
      · obtain ⟨u, h1, h2, h3, h4⟩ := key h0
        obtain ⟨u0, l, g1, g2, g3, g4, g5⟩ := ih u (by omega) h1 h2
        refine ⟨u0, l ++ [v], g1, by simp [g2], ?_, by rw [la_app]; rfl, ?_⟩
        · rw [chn_app, g4]
          exact ⟨g3, by simp [eP, eB]; exact ⟨h1, hv, h3⟩, trivial⟩
        · rw [wsm_app, g4, g5]
          rw [Rk_succ, h4]
          simp [wsm, wN]
      · by_cases c : 0 ≤ Rk n w k u ∧ w (6 * u + v) ≠ -9
        · rw [if_pos c] at h ⊢
          by_cases c2 : a ≤ Rk n w k u + w (6 * u + v)
          · exact ⟨u, hu, c.1, c.2, by omega⟩
          · obtain ⟨u', q1, q2, q3, q4⟩ := ha (by omega)
            exact ⟨u', q1, q2, q3, by omega⟩
        · rw [if_neg c] at h ⊢
          exact ha h
  · intro u l hu
    generalize hlen : l.length = k
    induction k generalizing l with
    | zero =>
      intro _ _
      have : l = [] := List.length_eq_zero_iff.mp hlen
      subst this
      simp [wsm, Rk]
    | succ k ih =>
      intro hk hc
      have hne : l ≠ [] := fun q => by subst q; simp at hlen
      have e := List.dropLast_concat_getLast hne
      generalize hl0 : l.dropLast = l0 at e
      generalize hv : l.getLast hne = v at e
      subst e
      have hl0 : l0.length = k := by simp at hlen; omega
      obtain ⟨c1, c2, -⟩ := (chn_app u l0 [v]).mp hc
      have ih1 := ih l0 hl0 (by omega) c1
      rw [la_app, wsm_app]
      show wsm (wN w) u l0 + (wN w (la u l0) v + 0) ≤ Rk n w (k + 1) v
      have hb : ∀ i j, eP (eB n w) i j → i < n ∧ j < n := fun i j h => by simp [eP, eB] at h; exact ⟨h.1, h.2.1⟩
      have hnn : ∀ i j, eP (eB n w) i j → 0 ≤ wN w i j := fun i j h => by
        simp [eP, eB] at h
        have := (hw.2.2 (6 * i + j) (by omega)).1
        unfold wN
        omega
      have d1 := hb _ _ c2
      have d2 := wsm_nn hnn _ _ c1
      have d3 : w (6 * la u l0 + v) ≠ -9 := by simp [eP, eB] at c2; exact c2.2.2
      rw [Rk_succ]
      have key := itr_ind (g := fun u a => if 0 ≤ Rk n w k u ∧ w (6 * u + v) ≠ -9 then max a (Rk n w k u + w (6 * u + v)) else a) (a := (-1 : Int)) (fun m a => ∀ u, u < m → 0 ≤ Rk n w k u → w (6 * u + v) ≠ -9 → Rk n w k u + w (6 * u + v) ≤ a) n (fun u hu => by omega) (fun m a hm ha x hx q1 q2 => ?_)
      · have := key (la u l0) d1.1 (by omega) d3
        unfold wN at ih1 ⊢
        omega
      · by_cases hxm : x = m
        · subst hxm
          rw [if_pos ⟨q1, q2⟩]
          omega
        · have := ha x (by omega) q1 q2
          split <;> omega
def rowA (n : Nat) (w : Nat → Int) (f0 : Nat → Int32) (K T : Nat) : Nat → Int32 := fun j => if (j / 6 < K ∨ (j / 6 = K ∧ j % 6 < T)) ∧ j % 6 < n then iI (Rk n w (j / 6) (j % 6)) else f0 j
theorem rowA_up {n : Nat} {w : Nat → Int} {f0 : Nat → Int32} {K T : Nat} (hT : T < n) (hn : n ≤ 6) : upd (rowA n w f0 K T) (6 * K + T) (iI (Rk n w K T)) = rowA n w f0 K (T + 1) := by
  funext j
  unfold upd rowA
  by_cases e : j = 6 * K + T
  · rw [if_pos e]
    have e1 : j / 6 = K := by omega
    have e2 : j % 6 = T := by omega
    rw [if_pos (by omega), e1, e2]
  · rw [if_neg e]
    by_cases c : (j / 6 < K ∨ (j / 6 = K ∧ j % 6 < T)) ∧ j % 6 < n
    · rw [if_pos c, if_pos (by omega)]
    · rw [if_neg c, if_neg (by omega)]
theorem rowA_nx {n : Nat} {w : Nat → Int} {f0 : Nat → Int32} {K : Nat} : rowA n w f0 K n = rowA n w f0 (K + 1) 0 := by
  funext j
  unfold rowA
  by_cases c : (j / 6 < K ∨ (j / 6 = K ∧ j % 6 < n)) ∧ j % 6 < n
  · rw [if_pos c, if_pos (by omega)]
  · rw [if_neg c, if_neg (by omega)]
theorem rowA_rd {n : Nat} {w : Nat → Int} {f0 : Nat → Int32} {K T k v : Nat} (hv : v < n) (hn : n ≤ 6) (h : k < K ∨ (k = K ∧ v < T)) : rowA n w f0 K T (6 * k + v) = iI (Rk n w k v) := by
  unfold rowA
  rw [show (6 * k + v) / 6 = k by omega, show (6 * k + v) % 6 = v by omega, if_pos ⟨h, hv⟩]
theorem w_longest {h : tr_H} {i n : Nat} {w : Nat → Int} {k v : Nat} (hN : tN h i n w) (hk : k ≤ 5) (hv : v < n) (hR : ∀ u, u < n → h.1 22 (6 * k + u) = iI (Rk n w k u)) : f_X6_longest i (iI k) (iI v) h = some (iI (Rk n w (k + 1) v)) := by
  have hw := hN.2.1
  have h6 := hw.2.1
  have hsz := hN.2.2.1
  unfold f_X6_longest
  have key := tr_seq (f := fun q => f_X6_longest_L6 h i (iI k) (iI v) q.1 q.2) (fun m => (iI (itr (fun u a => if 0 ≤ Rk n w k u ∧ w (6 * u + v) ≠ -9 then max a (Rk n w k u + w (6 * u + v)) else a) m (-1)), iI m)) (lo := 0) (hi := n) (r := iI (Rk n w (k + 1) v)) (by omega) ?_ ?_
  · rw [show ((-1 : Int32), (0 : Int32)) = (iI (itr (fun u a => if 0 ≤ Rk n w k u ∧ w (6 * u + v) ≠ -9 then max a (Rk n w k u + w (6 * u + v)) else a) 0 (-1)), iI (0 : Nat)) from by simp only [itr, iI_m1]; rfl, key]
    rfl
  · intro m _ hm
    have hb : -1 ≤ itr (fun u a => if 0 ≤ Rk n w k u ∧ w (6 * u + v) ≠ -9 then max a (Rk n w k u + w (6 * u + v)) else a) m (-1) ∧ itr (fun u a => if 0 ≤ Rk n w k u ∧ w (6 * u + v) ≠ -9 then max a (Rk n w k u + w (6 * u + v)) else a) m (-1) ≤ 100 := by
      refine itr_ind (fun (_ : Nat) (a : Int) => -1 ≤ a ∧ a ≤ 100) m (by omega) (fun u a hu ha => ?_)
      have h1 := Rk_b hw k u (by omega)
      have h2 := okn_b hw (c := 6 * u + v) (by omega)
      split <;> omega
    have b1 := Rk_b hw k m hm
    have b2 := okn_b hw (c := 6 * m + v) (by omega)
    have g1 := hR m hm
    have g2 := n_of hN (a := (m : Int)) (b := (v : Int)) (by omega) (by omega) (by omega) (by omega)
    rw [woI_in hm hv] at g2
    show f_X6_longest_L6 h i (iI k) (iI v) _ (iI m) = some (.inl (_, iI ((m + 1 : Nat))))
    simp only [itr]
    generalize itr (fun u a => if 0 ≤ Rk n w k u ∧ w (6 * u + v) ≠ -9 then max a (Rk n w k u + w (6 * u + v)) else a) m (-1) = acc at hb ⊢
    unfold f_X6_longest_L6
    rw [hsz, g2]
    have g3 : ((k : Int) * 6 + (m : Int)).toNat = 6 * k + m := by omega
    by_cases c1 : 0 ≤ Rk n w k m
    · by_cases c2 : w (6 * m + v) = -9
      · simp (disch := omega) only [iI_0, iI_1, iI_2, iI_3, iI_4, iI_5, iI_6, iI_7, iI_8, iI_9, iI_10, iI_11, iI_12, iI_14, iI_20, iI_30, iI_31, iI_36, iI_37, iI_40, iI_48, iI_60, iI_63, iI_64, iI_78, iI_100, iI_255, iI_481, iI_1000000, iI_m1, iI_m2, iI_m3, iI_m4, iI_m9, iI_m1000000, iI_add, iI_sub, iI_mul, iI_neg, iI_lt, iI_le, iI_eq, iI_cl, tr_bd, tr_bn_some, tr_b2_some, tr_gdI, tr_nzI, tr_maxI, tr_minI, if_pos, if_neg, ↓reduceIte, g3, g1, c2]
        simp
      · simp (disch := omega) only [iI_0, iI_1, iI_2, iI_3, iI_4, iI_5, iI_6, iI_7, iI_8, iI_9, iI_10, iI_11, iI_12, iI_14, iI_20, iI_30, iI_31, iI_36, iI_37, iI_40, iI_48, iI_60, iI_63, iI_64, iI_78, iI_100, iI_255, iI_481, iI_1000000, iI_m1, iI_m2, iI_m3, iI_m4, iI_m9, iI_m1000000, iI_add, iI_sub, iI_mul, iI_neg, iI_lt, iI_le, iI_eq, iI_cl, tr_bd, tr_bn_some, tr_b2_some, tr_gdI, tr_nzI, tr_maxI, tr_minI, if_pos, if_neg, ↓reduceIte, g3, g1]
        simp [c1, c2]
    · simp (disch := omega) only [iI_0, iI_1, iI_2, iI_3, iI_4, iI_5, iI_6, iI_7, iI_8, iI_9, iI_10, iI_11, iI_12, iI_14, iI_20, iI_30, iI_31, iI_36, iI_37, iI_40, iI_48, iI_60, iI_63, iI_64, iI_78, iI_100, iI_255, iI_481, iI_1000000, iI_m1, iI_m2, iI_m3, iI_m4, iI_m9, iI_m1000000, iI_add, iI_sub, iI_mul, iI_neg, iI_lt, iI_le, iI_eq, iI_cl, tr_bd, tr_bn_some, tr_b2_some, tr_gdI, tr_nzI, tr_maxI, tr_minI, if_pos, if_neg, ↓reduceIte, g3, g1]
      simp [c1]
  · show f_X6_longest_L6 h i (iI k) (iI v) _ (iI n) = _
    unfold f_X6_longest_L6
    rw [hsz]
    simp (disch := omega) only [iI_0, iI_1, iI_2, iI_3, iI_4, iI_5, iI_6, iI_7, iI_8, iI_9, iI_10, iI_11, iI_12, iI_14, iI_20, iI_30, iI_31, iI_36, iI_37, iI_40, iI_48, iI_60, iI_63, iI_64, iI_78, iI_100, iI_255, iI_481, iI_1000000, iI_m1, iI_m2, iI_m3, iI_m4, iI_m9, iI_m1000000, iI_add, iI_sub, iI_mul, iI_neg, iI_lt, iI_le, iI_eq, iI_cl, tr_bd, tr_bn_some, tr_b2_some, tr_gdI, tr_nzI, tr_maxI, tr_minI, if_pos, if_neg, ↓reduceIte]
    rfl
end
section
/-! the pace by the class's tables is that of the slowest ring -/
def sx (m : Nat) : Int := 60 / (m : Int)
theorem sx_f0 {m : Nat} (h1 : 1 ≤ m) (h2 : m ≤ 6) : tr_f0 m = iI (sx m) := by
  rcases (show m = 1 ∨ m = 2 ∨ m = 3 ∨ m = 4 ∨ m = 5 ∨ m = 6 by omega) with rfl | rfl | rfl | rfl | rfl | rfl <;> decide
theorem sx_mul {m : Nat} (h1 : 1 ≤ m) (h2 : m ≤ 6) : sx m * m = 60 ∧ 10 ≤ sx m ∧ sx m ≤ 60 := by
  rcases (show m = 1 ∨ m = 2 ∨ m = 3 ∨ m = 4 ∨ m = 5 ∨ m = 6 by omega) with rfl | rfl | rfl | rfl | rfl | rfl <;> decide
theorem sx_le {m : Nat} (h1 : 1 ≤ m) (h2 : m ≤ 6) {X P : Int} : X * sx m ≤ P ↔ 60 * X ≤ P * m := by
  have e : ∀ Y : Int, 60 * Y = Y * sx m * m := fun Y => by
    rw [Int.mul_assoc, (sx_mul h1 h2).1, Int.mul_comm]
  rw [e X]
  have hm : (0 : Int) < m := by omega
  constructor
  · intro h; exact Int.mul_le_mul_of_nonneg_right h (by omega)
  · intro h; exact Int.le_of_mul_le_mul_right h hm
theorem sx_ge {m : Nat} (h1 : 1 ≤ m) (h2 : m ≤ 6) {X P : Int} : P ≤ X * sx m ↔ P * m ≤ 60 * X := by
  have e : ∀ Y : Int, 60 * Y = Y * sx m * m := fun Y => by
    rw [Int.mul_assoc, (sx_mul h1 h2).1, Int.mul_comm]
  rw [e X]
  have hm : (0 : Int) < m := by omega
  constructor
  · intro h; exact Int.mul_le_mul_of_nonneg_right h (by omega)
  · intro h; exact Int.le_of_mul_le_mul_right h hm
def lmn (n : Nat) (w : Nat → Int) (v : Nat) : Int := if 0 ≤ Rk n w n v then itr (fun k a => min a ((Rk n w n v - Rk n w k v) * sx (n - k))) n 1000000 else -1
def pac (n : Nat) (w : Nat → Int) : Int := itr (fun v a => max a (lmn n w v)) n (-1)
theorem trm_b {n : Nat} {w : Nat → Int} (hw : okn n w) {v k : Nat} (hv : v < n) (hk : k < n) : -4000 ≤ (Rk n w n v - Rk n w k v) * sx (n - k) ∧ (Rk n w n v - Rk n w k v) * sx (n - k) ≤ 4000 := by
  have h6 := hw.2.1
  have b1 := Rk_b hw n v hv
  have b2 := Rk_b hw k v hv
  have b3 := sx_mul (m := n - k) (by omega) (by omega)
  have c1 : -60 ≤ Rk n w n v - Rk n w k v := by omega
  have c2 : Rk n w n v - Rk n w k v ≤ 60 := by omega
  generalize Rk n w n v - Rk n w k v = X at c1 c2
  generalize sx (n - k) = s at b3
  have d1 : X * s ≤ 60 * s := Int.mul_le_mul_of_nonneg_right c2 (by omega)
  have d2 : -60 * s ≤ X * s := Int.mul_le_mul_of_nonneg_right c1 (by omega)
  omega
theorem lmn_b {n : Nat} {w : Nat → Int} (hw : okn n w) {v : Nat} (hv : v < n) : -4000 ≤ lmn n w v ∧ lmn n w v ≤ 1000000 := by
  unfold lmn
  split
  · refine itr_ind (fun (_ : Nat) (a : Int) => -4000 ≤ a ∧ a ≤ 1000000) n (by omega) (fun k a hk ha => ?_)
    have := trm_b hw hv hk
    omega
  · omega
theorem w_leastMean {h : tr_H} {n : Nat} {w : Nat → Int} {v : Nat} (hw : okn n w) (hv : v < n) (hR : ∀ k, k ≤ n → h.1 22 (6 * k + v) = iI (Rk n w k v)) : f_X6_leastMean (iI n) (iI v) h = some (iI (lmn n w v)) := by
  have h6 := hw.2.1
  have b1 := Rk_b hw n v hv
  unfold f_X6_leastMean lmn
  have e1 : ((n : Int) * 6 + (v : Int)).toNat = 6 * n + v := by omega
  have g1 := hR n (Nat.le_refl _)
  by_cases c : 0 ≤ Rk n w n v
  · rw [if_pos c]
    simp (disch := omega) only [iI_0, iI_1, iI_2, iI_3, iI_4, iI_5, iI_6, iI_7, iI_8, iI_9, iI_10, iI_11, iI_12, iI_14, iI_20, iI_30, iI_31, iI_36, iI_37, iI_40, iI_48, iI_60, iI_63, iI_64, iI_78, iI_100, iI_255, iI_481, iI_1000000, iI_m1, iI_m2, iI_m3, iI_m4, iI_m9, iI_m1000000, iI_add, iI_sub, iI_mul, iI_neg, iI_lt, iI_le, iI_eq, iI_cl, tr_bd, tr_bn_some, tr_b2_some, tr_gdI, tr_nzI, if_pos, if_neg, ↓reduceIte, e1, g1]
    have key := tr_seq (f := fun q => f_X6_leastMean_L25 (iI n) (iI v) (iI (Rk n w n v)) h q.1 q.2) (fun m => (iI (itr (fun k a => min a ((Rk n w n v - Rk n w k v) * sx (n - k))) m 1000000), iI m)) (lo := 0) (hi := n) (r := iI (itr (fun k a => min a ((Rk n w n v - Rk n w k v) * sx (n - k))) n 1000000)) (by omega) ?_ ?_
    · have e2 : (iI 1000000, iI 0) = (iI (itr (fun k a => min a ((Rk n w n v - Rk n w k v) * sx (n - k))) 0 1000000), iI (0 : Nat)) := rfl
      rw [e2, key]
      rfl
    · intro m _ hm
      have hb : -4000 ≤ itr (fun k a => min a ((Rk n w n v - Rk n w k v) * sx (n - k))) m 1000000 ∧ itr (fun k a => min a ((Rk n w n v - Rk n w k v) * sx (n - k))) m 1000000 ≤ 1000000 := by
        refine itr_ind (fun (_ : Nat) (a : Int) => -4000 ≤ a ∧ a ≤ 1000000) m (by omega) (fun k a hk ha => ?_)
        have := trm_b hw hv (k := k) (by omega)
        omega
      have b2 := Rk_b hw m v hv
      have b3 := trm_b hw hv hm
      have g2 := hR m (by omega)
      have g3 := sx_f0 (m := n - m) (by omega) (by omega)
      show f_X6_leastMean_L25 (iI n) (iI v) (iI (Rk n w n v)) h _ (iI m) = some (.inl (_, iI ((m + 1 : Nat))))
      simp only [itr]
      generalize itr (fun k a => min a ((Rk n w n v - Rk n w k v) * sx (n - k))) m 1000000 = acc at hb ⊢
      unfold f_X6_leastMean_L25
      have e3 : ((m : Int) * 6 + (v : Int)).toNat = 6 * m + v := by omega
      have e4 : ((n : Int) - (m : Int)).toNat = n - m := by omega
      simp (disch := omega) only [iI_0, iI_1, iI_2, iI_3, iI_4, iI_5, iI_6, iI_7, iI_8, iI_9, iI_10, iI_11, iI_12, iI_14, iI_20, iI_30, iI_31, iI_36, iI_37, iI_40, iI_48, iI_60, iI_63, iI_64, iI_78, iI_100, iI_255, iI_481, iI_1000000, iI_m1, iI_m2, iI_m3, iI_m4, iI_m9, iI_m1000000, iI_add, iI_sub, iI_mul, iI_neg, iI_lt, iI_le, iI_eq, iI_cl, tr_bd, tr_bn_some, tr_b2_some, tr_gdI, tr_nzI, tr_maxI, tr_minI, if_pos, if_neg, ↓reduceIte, e3, e4, g2, g3]
      rfl
    · show f_X6_leastMean_L25 (iI n) (iI v) (iI (Rk n w n v)) h _ (iI n) = _
      unfold f_X6_leastMean_L25
      simp (disch := omega) only [iI_0, iI_1, iI_2, iI_3, iI_4, iI_5, iI_6, iI_7, iI_8, iI_9, iI_10, iI_11, iI_12, iI_14, iI_20, iI_30, iI_31, iI_36, iI_37, iI_40, iI_48, iI_60, iI_63, iI_64, iI_78, iI_100, iI_255, iI_481, iI_1000000, iI_m1, iI_m2, iI_m3, iI_m4, iI_m9, iI_m1000000, iI_add, iI_sub, iI_mul, iI_neg, iI_lt, iI_le, iI_eq, iI_cl, tr_bd, tr_bn_some, tr_b2_some, tr_gdI, tr_nzI, tr_maxI, tr_minI, if_pos, if_neg, ↓reduceIte]
  · rw [if_neg c]
    simp (disch := omega) only [iI_0, iI_1, iI_2, iI_3, iI_4, iI_5, iI_6, iI_7, iI_8, iI_9, iI_10, iI_11, iI_12, iI_14, iI_20, iI_30, iI_31, iI_36, iI_37, iI_40, iI_48, iI_60, iI_63, iI_64, iI_78, iI_100, iI_255, iI_481, iI_1000000, iI_m1, iI_m2, iI_m3, iI_m4, iI_m9, iI_m1000000, iI_add, iI_sub, iI_mul, iI_neg, iI_lt, iI_le, iI_eq, iI_cl, tr_bd, tr_bn_some, tr_b2_some, tr_gdI, tr_nzI, if_pos, if_neg, ↓reduceIte, e1, g1]
theorem w_slowest {h : tr_H} {i n : Nat} {w : Nat → Int} (hN : tN h i n w) : ∃ f, f_X6_slowest i h = some (iI (pac n w), tr_sa h 22 f) := by
  have hw := hN.2.1
  have h6 := hw.2.1
  have hi := hN.1
  have hne : i ≠ 22 ∧ i + 1 ≠ 22 := by unfold netI at hi; omega
  have hsz : ∀ f, (tr_sa h 22 f).1 i 1 = iI n := fun f => by rw [tr_sa_ne _ _ hne.1]; exact hN.2.2.1
  have hNN : ∀ f, tN (tr_sa h 22 f) i n w := fun f => tN_ne hN f hne.1 hne.2
  refine ⟨rowA n w (h.1 22) (n + 1) 0, ?_⟩
  unfold f_X6_slowest
  have k1 := tr_seq (f := fun q => f_X6_slowest_L2 i q.1 q.2) (fun m => (iI m, tr_sa h 22 (rowA n w (h.1 22) 0 m))) (lo := 0) (hi := n) (r := tr_sa h 22 (rowA n w (h.1 22) 0 n)) (by omega) ?_ ?_
  · have e0 : ((0 : Int32), h) = (iI (0 : Nat), tr_sa h 22 (rowA n w (h.1 22) 0 0)) := by
      have : rowA n w (h.1 22) 0 0 = h.1 22 := by
        funext j
        unfold rowA
        rw [if_neg (by omega)]
      rw [this, tr_sa_self]
      rfl
    rw [e0, k1, tr_bn_some]
    unfold f_X6_slowest_E23
    have k2 := tr_seq (f := fun q => f_X6_slowest_L25 i q.1 q.2) (fun m => (iI m, tr_sa h 22 (rowA n w (h.1 22) m 0))) (lo := 1) (hi := n + 1) (r := tr_sa h 22 (rowA n w (h.1 22) (n + 1) 0)) (by omega) ?_ ?_
    · have e1 : ((1 : Int32), tr_sa h 22 (rowA n w (h.1 22) 0 n)) = (iI (1 : Nat), tr_sa h 22 (rowA n w (h.1 22) 1 0)) := by rw [rowA_nx]; rfl
      rw [e1, k2, tr_bn_some]
      unfold f_X6_slowest_E75
      have k3 := tr_seq (f := fun q => f_X6_slowest_L79 (tr_sa h 22 (rowA n w (h.1 22) (n + 1) 0)) i q.1 q.2) (fun m => (iI (itr (fun v a => max a (lmn n w v)) m (-1)), iI m)) (lo := 0) (hi := n) (r := iI (pac n w)) (by omega) ?_ ?_
      · have e2 : ((-1 : Int32), (0 : Int32)) = (iI (itr (fun v a => max a (lmn n w v)) 0 (-1)), iI (0 : Nat)) := by simp only [itr, iI_m1]; rfl
        rw [e2, k3]
        rfl
      · intro m _ hm
        have hb : -4000 ≤ itr (fun v a => max a (lmn n w v)) m (-1) ∧ itr (fun v a => max a (lmn n w v)) m (-1) ≤ 1000000 := by
          refine itr_ind (fun (_ : Nat) (a : Int) => -4000 ≤ a ∧ a ≤ 1000000) m (by omega) (fun k a hk ha => ?_)
          have := lmn_b hw (v := k) (by omega)
          omega
        have b2 := lmn_b hw hm
        have g1 := w_leastMean (h := tr_sa h 22 (rowA n w (h.1 22) (n + 1) 0)) hw hm (fun k hk => by rw [tr_sa_at]; exact rowA_rd hm h6 (by omega))
        show f_X6_slowest_L79 _ i _ (iI m) = some (.inl (_, iI ((m + 1 : Nat))))
        simp only [itr]
        generalize itr (fun v a => max a (lmn n w v)) m (-1) = acc at hb ⊢
        unfold f_X6_slowest_L79
        rw [hsz, g1]
        simp (disch := omega) only [iI_0, iI_1, iI_2, iI_3, iI_4, iI_5, iI_6, iI_7, iI_8, iI_9, iI_10, iI_11, iI_12, iI_14, iI_20, iI_30, iI_31, iI_36, iI_37, iI_40, iI_48, iI_60, iI_63, iI_64, iI_78, iI_100, iI_255, iI_481, iI_1000000, iI_m1, iI_m2, iI_m3, iI_m4, iI_m9, iI_m1000000, iI_add, iI_sub, iI_mul, iI_neg, iI_lt, iI_le, iI_eq, iI_cl, tr_bd, tr_bn_some, tr_b2_some, tr_gdI, tr_nzI, tr_maxI, tr_minI, if_pos, if_neg, ↓reduceIte]
        rfl
      · show f_X6_slowest_L79 _ i _ (iI n) = _
        unfold f_X6_slowest_L79
        rw [hsz]
        simp (disch := omega) only [iI_0, iI_1, iI_2, iI_3, iI_4, iI_5, iI_6, iI_7, iI_8, iI_9, iI_10, iI_11, iI_12, iI_14, iI_20, iI_30, iI_31, iI_36, iI_37, iI_40, iI_48, iI_60, iI_63, iI_64, iI_78, iI_100, iI_255, iI_481, iI_1000000, iI_m1, iI_m2, iI_m3, iI_m4, iI_m9, iI_m1000000, iI_add, iI_sub, iI_mul, iI_neg, iI_lt, iI_le, iI_eq, iI_cl, tr_bd, tr_bn_some, tr_b2_some, tr_gdI, tr_nzI, tr_maxI, tr_minI, if_pos, if_neg, ↓reduceIte]
        rfl
    · intro m hm1 hm
      show f_X6_slowest_L25 i (iI m) _ = some (.inl (iI ((m + 1 : Nat)), _))
      unfold f_X6_slowest_L25
      rw [hsz]
      have k4 := tr_seq (f := fun q => f_X6_slowest_L35 i (iI m) q.1 q.2) (fun t => (iI t, tr_sa h 22 (rowA n w (h.1 22) m t))) (lo := 0) (hi := n) (r := tr_sa h 22 (rowA n w (h.1 22) m n)) (by omega) ?_ ?_
      · have e3 : ((0 : Int32), tr_sa h 22 (rowA n w (h.1 22) m 0)) = (iI (0 : Nat), tr_sa h 22 (rowA n w (h.1 22) m 0)) := rfl
        rw [e3, k4, tr_bn_some, rowA_nx]
        unfold f_X6_slowest_E69
        simp (disch := omega) only [iI_0, iI_1, iI_2, iI_3, iI_4, iI_5, iI_6, iI_7, iI_8, iI_9, iI_10, iI_11, iI_12, iI_14, iI_20, iI_30, iI_31, iI_36, iI_37, iI_40, iI_48, iI_60, iI_63, iI_64, iI_78, iI_100, iI_255, iI_481, iI_1000000, iI_m1, iI_m2, iI_m3, iI_m4, iI_m9, iI_m1000000, iI_add, iI_sub, iI_mul, iI_neg, iI_lt, iI_le, iI_eq, iI_cl, tr_bd, tr_bn_some, tr_b2_some, tr_gdI, tr_nzI, tr_maxI, tr_minI, if_pos, if_neg, ↓reduceIte]
        rfl
      · intro t _ ht
        obtain ⟨m', rfl⟩ : ∃ m', m = m' + 1 := ⟨m - 1, by omega⟩
        have g1 := w_longest (h := tr_sa h 22 (rowA n w (h.1 22) (m' + 1) t)) (k := m') (v := t) (hNN _) (by omega) ht (fun u hu => by rw [tr_sa_at]; exact rowA_rd hu h6 (by omega))
        show f_X6_slowest_L35 i (iI ((m' + 1 : Nat))) (iI t) _ = some (.inl (iI ((t + 1 : Nat)), _))
        unfold f_X6_slowest_L35
        rw [hsz]
        have e5 : ((m' + 1 : Nat) : Int) - 1 = (m' : Int) := by omega
        have e6 : (((m' + 1 : Nat) : Int) * 6 + (t : Int)).toNat = 6 * (m' + 1) + t := by omega
        simp (disch := omega) only [iI_0, iI_1, iI_2, iI_3, iI_4, iI_5, iI_6, iI_7, iI_8, iI_9, iI_10, iI_11, iI_12, iI_14, iI_20, iI_30, iI_31, iI_36, iI_37, iI_40, iI_48, iI_60, iI_63, iI_64, iI_78, iI_100, iI_255, iI_481, iI_1000000, iI_m1, iI_m2, iI_m3, iI_m4, iI_m9, iI_m1000000, iI_add, iI_sub, iI_mul, iI_neg, iI_lt, iI_le, iI_eq, iI_cl, tr_bd, tr_bn_some, tr_b2_some, tr_gdI, tr_nzI, tr_maxI, tr_minI, if_pos, if_neg, ↓reduceIte, e5, e6, g1, tr_si, tr_sa_at, tr_sa_sa]
        rw [rowA_up ht h6]
        rfl
      · show f_X6_slowest_L35 i (iI m) (iI n) _ = _
        unfold f_X6_slowest_L35
        rw [hsz]
        simp (disch := omega) only [iI_0, iI_1, iI_2, iI_3, iI_4, iI_5, iI_6, iI_7, iI_8, iI_9, iI_10, iI_11, iI_12, iI_14, iI_20, iI_30, iI_31, iI_36, iI_37, iI_40, iI_48, iI_60, iI_63, iI_64, iI_78, iI_100, iI_255, iI_481, iI_1000000, iI_m1, iI_m2, iI_m3, iI_m4, iI_m9, iI_m1000000, iI_add, iI_sub, iI_mul, iI_neg, iI_lt, iI_le, iI_eq, iI_cl, tr_bd, tr_bn_some, tr_b2_some, tr_gdI, tr_nzI, tr_maxI, tr_minI, if_pos, if_neg, ↓reduceIte]
    · show f_X6_slowest_L25 i (iI ((n + 1 : Nat))) _ = _
      unfold f_X6_slowest_L25
      rw [hsz]
      simp (disch := omega) only [iI_0, iI_1, iI_2, iI_3, iI_4, iI_5, iI_6, iI_7, iI_8, iI_9, iI_10, iI_11, iI_12, iI_14, iI_20, iI_30, iI_31, iI_36, iI_37, iI_40, iI_48, iI_60, iI_63, iI_64, iI_78, iI_100, iI_255, iI_481, iI_1000000, iI_m1, iI_m2, iI_m3, iI_m4, iI_m9, iI_m1000000, iI_add, iI_sub, iI_mul, iI_neg, iI_lt, iI_le, iI_eq, iI_cl, tr_bd, tr_bn_some, tr_b2_some, tr_gdI, tr_nzI, tr_maxI, tr_minI, if_pos, if_neg, ↓reduceIte]
  · intro m _ hm
    show f_X6_slowest_L2 i (iI m) _ = some (.inl (iI ((m + 1 : Nat)), _))
    unfold f_X6_slowest_L2
    rw [hsz]
    have e7 := rowA_up (w := w) (f0 := h.1 22) (K := 0) hm h6
    have e8 : Rk n w 0 m = 0 := rfl
    rw [e8, show 6 * 0 + m = m by omega] at e7
    simp (disch := omega) only [iI_0, iI_1, iI_2, iI_3, iI_4, iI_5, iI_6, iI_7, iI_8, iI_9, iI_10, iI_11, iI_12, iI_14, iI_20, iI_30, iI_31, iI_36, iI_37, iI_40, iI_48, iI_60, iI_63, iI_64, iI_78, iI_100, iI_255, iI_481, iI_1000000, iI_m1, iI_m2, iI_m3, iI_m4, iI_m9, iI_m1000000, iI_add, iI_sub, iI_mul, iI_neg, iI_lt, iI_le, iI_eq, iI_cl, tr_bd, tr_bn_some, tr_b2_some, tr_gdI, tr_nzI, tr_maxI, tr_minI, if_pos, if_neg, ↓reduceIte, Int.toNat_natCast, tr_si, tr_sa_at, tr_sa_sa, e7]
    rfl
  · show f_X6_slowest_L2 i (iI n) _ = _
    unfold f_X6_slowest_L2
    rw [hsz]
    simp (disch := omega) only [iI_0, iI_1, iI_2, iI_3, iI_4, iI_5, iI_6, iI_7, iI_8, iI_9, iI_10, iI_11, iI_12, iI_14, iI_20, iI_30, iI_31, iI_36, iI_37, iI_40, iI_48, iI_60, iI_63, iI_64, iI_78, iI_100, iI_255, iI_481, iI_1000000, iI_m1, iI_m2, iI_m3, iI_m4, iI_m9, iI_m1000000, iI_add, iI_sub, iI_mul, iI_neg, iI_lt, iI_le, iI_eq, iI_cl, tr_bd, tr_bn_some, tr_b2_some, tr_gdI, tr_nzI, tr_maxI, tr_minI, if_pos, if_neg, ↓reduceIte]
end
section
/-! pac is the greatest mean of all rings, in sixtieths; -1: there is none -/
theorem eB_b {n : Nat} {w : Nat → Int} : ∀ i j, eP (eB n w) i j → i < n ∧ j < n := fun i j h => by simp [eP, eB] at h; exact ⟨h.1, h.2.1⟩
theorem eB_nn {n : Nat} {w : Nat → Int} (hw : okn n w) : ∀ i j, eP (eB n w) i j → 0 ≤ wN w i j ∧ wN w i j ≤ 9 := fun i j h => by
  have h6 := hw.2.1
  simp [eP, eB] at h
  have := (hw.2.2 (6 * i + j) (by omega)).1
  unfold wN
  omega
theorem wsm_9 {n : Nat} {w : Nat → Int} (hw : okn n w) : ∀ (l : List Nat) (u : Nat), chn (eP (eB n w)) u l → 0 ≤ wsm (wN w) u l ∧ wsm (wN w) u l ≤ 9 * l.length := by
  intro l
  induction l with
  | nil => intro u _; simp [wsm]
  | cons x l ih =>
    intro u h
    have h1 := eB_nn hw _ _ h.1
    have h2 := ih x h.2
    simp only [wsm, List.length_cons]
    omega
theorem ring_lt {n : Nat} {w : Nat → Int} {x : Nat} {b : List Nat} (h : ring (eP (eB n w)) x b) : ∀ y ∈ x :: b, y < n := by
  intro y hy
  have h1 := chn_lt (n := n) eB_b _ _ h.2
  rcases List.mem_cons.mp hy with q | q
  · subst q; exact h1 y (by simp)
  · exact h1 y (by simp [q])
theorem ring_len {n : Nat} {w : Nat → Int} {x : Nat} {b : List Nat} (h : ring (eP (eB n w)) x b) : b.length + 1 ≤ n := by
  have := nodup_lt n (x :: b) h.1 (ring_lt h)
  simpa using this
theorem ex_maxL {α : Type} (f : α → Int) : ∀ (l : List α), l ≠ [] → ∃ a, a ∈ l ∧ ∀ b ∈ l, f b ≤ f a := by
  intro l
  induction l with
  | nil => intro h; exact absurd rfl h
  | cons x l ih =>
    intro _
    by_cases hl : l = []
    · subst hl
      exact ⟨x, by simp, fun b hb => by rw [List.mem_singleton.mp hb]; exact Int.le_refl _⟩
    · obtain ⟨a, h1, h2⟩ := ih hl
      by_cases hx : f a ≤ f x
      · refine ⟨x, by simp, fun b hb => ?_⟩
        rcases List.mem_cons.mp hb with q | q
        · subst q; exact Int.le_refl _
        · have := h2 b q; omega
      · refine ⟨a, by simp [h1], fun b hb => ?_⟩
        rcases List.mem_cons.mp hb with q | q
        · subst q; omega
        · exact h2 b q
/-- the greatest of the means, in sixtieths -/
theorem ex_pace {n : Nat} {w : Nat → Int} (hw : okn n w) (som : Nat → Bool) (hx : ∃ x b, ring (eP (eB n w)) x b ∧ ∀ y ∈ x :: b, som y = true) : ∃ P : Int, 0 ≤ P ∧ P ≤ 540 ∧ (∀ x b, ring (eP (eB n w)) x b → (∀ y ∈ x :: b, som y = true) → 60 * wsm (wN w) x (b ++ [x]) ≤ P * (b.length + 1 : Nat)) ∧ ∃ x b, (x, b) ∈ ringsL (eB n w) n som ∧ 60 * wsm (wN w) x (b ++ [x]) = P * (b.length + 1 : Nat) := by
  have h6 := hw.2.1
  have hne : ringsL (eB n w) n som ≠ [] := by
    obtain ⟨x, b, h1, h2⟩ := hx
    obtain ⟨x', b', h3, -⟩ := ring_in (n := n) (som := som) h1 (fun y hy => ⟨ring_lt h1 y hy, h2 y hy⟩) (wN w)
    intro q
    rw [q] at h3
    cases h3
  obtain ⟨⟨x, b⟩, h1, h2⟩ := ex_maxL (fun q : Nat × List Nat => wsm (wN w) q.1 (q.2 ++ [q.1]) * sx (q.2.length + 1)) _ hne
  have g1 := (mem_ringsL.mp h1).1
  have l1 := ring_len g1
  have s1 := sx_mul (m := b.length + 1) (by omega) (by omega)
  have b1 := wsm_9 hw _ _ g1.2
  rw [List.length_append, List.length_singleton] at b1
  have hP : 60 * wsm (wN w) x (b ++ [x]) = (wsm (wN w) x (b ++ [x]) * sx (b.length + 1)) * (b.length + 1 : Nat) := by
    rw [Int.mul_assoc, s1.1, Int.mul_comm]
  refine ⟨wsm (wN w) x (b ++ [x]) * sx (b.length + 1), ?_, ?_, ?_, x, b, h1, hP⟩
  · exact Int.mul_nonneg b1.1 (by omega)
  · rw [sx_le (by omega) (by omega)]
    omega
  · intro x' b' h3 h4
    obtain ⟨x2, b2, e1, e2, e3, -⟩ := ring_in (n := n) (som := som) h3 (fun y hy => ⟨ring_lt h3 y hy, h4 y hy⟩) (wN w)
    have h5 := h2 (x2, b2) e1
    dsimp only at h5
    have l3 := ring_len h3
    rw [e3, e2] at h5
    exact (sx_le (by omega) (by omega)).mp h5
theorem itr_max_ge {f : Nat → Int} {a : Int} : ∀ (n k : Nat), k < n → f k ≤ itr (fun v a => max a (f v)) n a := by
  intro n
  induction n with
  | zero => intro k hk; omega
  | succ n ih =>
    intro k hk
    simp only [itr]
    by_cases e : k = n
    · subst e; omega
    · have := ih k (by omega); omega
theorem itr_max_le {f : Nat → Int} {a P : Int} (ha : a ≤ P) : ∀ (n : Nat), (∀ k, k < n → f k ≤ P) → itr (fun v a => max a (f v)) n a ≤ P := by
  intro n
  induction n with
  | zero => intro _; exact ha
  | succ n ih =>
    intro h
    have h1 := ih (fun k hk => h k (by omega))
    have h2 := h n (by omega)
    simp only [itr]
    omega
theorem itr_min_le {f : Nat → Int} {a : Int} : ∀ (n k : Nat), k < n → itr (fun v a => min a (f v)) n a ≤ f k := by
  intro n
  induction n with
  | zero => intro k hk; omega
  | succ n ih =>
    intro k hk
    simp only [itr]
    by_cases e : k = n
    · subst e; omega
    · have := ih k (by omega); omega
theorem itr_min_ge {f : Nat → Int} {a P : Int} (ha : P ≤ a) : ∀ (n : Nat), (∀ k, k < n → P ≤ f k) → P ≤ itr (fun v a => min a (f v)) n a := by
  intro n
  induction n with
  | zero => intro _; exact ha
  | succ n ih =>
    intro h
    have h1 := ih (fun k hk => h k (by omega))
    have h2 := h n (by omega)
    simp only [itr]
    omega
theorem pac_none {n : Nat} {w : Nat → Int} (hw : okn n w) (hx : ∀ x b, ¬ ring (eP (eB n w)) x b) : pac n w = -1 := by
  unfold pac
  have h1 : ∀ v, v < n → lmn n w v = -1 := by
    intro v hv
    unfold lmn
    rw [if_neg]
    intro h
    obtain ⟨x, b, k, r, -⟩ := karp_cut eB_b (Rk_rows hw) hv h
    exact hx x b r
  refine itr_ind (fun (_ : Nat) (a : Int) => a = -1) n rfl (fun k a hk ha => ?_)
  rw [ha, h1 k hk]
  rfl
theorem pac_is {n : Nat} {w : Nat → Int} (hw : okn n w) {P : Int} (h0 : 0 ≤ P) (h1 : P ≤ 540) (hP : ∀ x b, ring (eP (eB n w)) x b → 60 * wsm (wN w) x (b ++ [x]) ≤ P * (b.length + 1 : Nat)) {x : Nat} {b : List Nat} (hr : ring (eP (eB n w)) x b) (he : 60 * wsm (wN w) x (b ++ [x]) = P * (b.length + 1 : Nat)) : pac n w = P := by
  have h6 := hw.2.1
  have hnn := fun i j h => (eB_nn hw i j h).1
  have up : pac n w ≤ P := by
    refine itr_max_le (by omega) n (fun v hv => ?_)
    unfold lmn
    split
    · rename_i hc
      obtain ⟨k, g1, g2⟩ := karp_le eB_b (Rk_rows hw) hP hv hc
      have g3 := itr_min_le (f := fun k => (Rk n w n v - Rk n w k v) * sx (n - k)) (a := 1000000) n k g1
      have g4 := (sx_le (m := n - k) (by omega) (by omega)).mpr g2
      omega
    · omega
  have dn : P ≤ pac n w := by
    obtain ⟨v, g1, g2, g3⟩ := karp_ge eB_b hnn (Rk_rows hw) hP hr he
    have g4 := itr_max_ge (f := lmn n w) (a := -1) n v g1
    have g5 : P ≤ lmn n w v := by
      unfold lmn
      rw [if_pos g2]
      exact itr_min_ge (by omega) n (fun k hk => (sx_ge (m := n - k) (by omega) (by omega)).mpr (g3 k hk))
    exact Int.le_trans g5 g4
  omega
/-- what pac says of all rings -/
theorem pac_all {n : Nat} {w : Nat → Int} (hw : okn n w) : (pac n w = -1 ∧ ∀ x b, ¬ ring (eP (eB n w)) x b) ∨ (0 ≤ pac n w ∧ pac n w ≤ 540 ∧ (∀ x b, ring (eP (eB n w)) x b → 60 * wsm (wN w) x (b ++ [x]) ≤ pac n w * (b.length + 1 : Nat)) ∧ ∃ x b, (x, b) ∈ ringsL (eB n w) n (fun _ => true) ∧ 60 * wsm (wN w) x (b ++ [x]) = pac n w * (b.length + 1 : Nat)) := by
  by_cases hx : ∃ x b, ring (eP (eB n w)) x b
  · right
    obtain ⟨x, b, h⟩ := hx
    obtain ⟨P, h0, h1, h2, x', b', h3, h4⟩ := ex_pace hw (fun _ => true) ⟨x, b, h, fun _ _ => rfl⟩
    have h5 := pac_is hw h0 h1 (fun x b h => h2 x b h (fun _ _ => rfl)) (mem_ringsL.mp h3).1 h4
    rw [h5]
    exact ⟨h0, h1, fun x b h => h2 x b h (fun _ _ => rfl), x', b', h3, h4⟩
  · left
    have h1 : ∀ x b, ¬ ring (eP (eB n w)) x b := fun x b h => hx ⟨x, b, h⟩
    exact ⟨pac_none hw h1, h1⟩
theorem pac_b {n : Nat} {w : Nat → Int} (hw : okn n w) : -1 ≤ pac n w ∧ pac n w ≤ 540 := by
  rcases pac_all hw with h | h <;> omega
theorem w_isKept {h : tr_H} {i n : Nat} {w : Nat → Int} (hN : tN h i n w) {p : Int} (p1 : 0 ≤ p) (p2 : p ≤ 20) : ∃ f, f_X6_isKept i (iI p) h = some (if pac n w ≤ 60 * p then 1 else 0, tr_sa h 22 f) := by
  obtain ⟨f, hf⟩ := w_slowest hN
  have hb := pac_b hN.2.1
  refine ⟨f, ?_⟩
  unfold f_X6_isKept
  rw [hf]
  by_cases c : pac n w ≤ 60 * p
  · rw [if_pos c]
    simp (disch := omega) only [iI_0, iI_1, iI_2, iI_3, iI_4, iI_5, iI_6, iI_7, iI_8, iI_9, iI_10, iI_11, iI_12, iI_14, iI_20, iI_30, iI_31, iI_36, iI_37, iI_40, iI_48, iI_60, iI_63, iI_64, iI_78, iI_100, iI_255, iI_481, iI_1000000, iI_m1, iI_m2, iI_m3, iI_m4, iI_m9, iI_m1000000, iI_add, iI_sub, iI_mul, iI_neg, iI_lt, iI_le, iI_eq, iI_cl, tr_bd, tr_bn_some, tr_b2_some, tr_gdI, tr_nzI, tr_maxI, tr_minI, if_pos, if_neg, ↓reduceIte]
  · rw [if_neg c]
    simp (disch := omega) only [iI_0, iI_1, iI_2, iI_3, iI_4, iI_5, iI_6, iI_7, iI_8, iI_9, iI_10, iI_11, iI_12, iI_14, iI_20, iI_30, iI_31, iI_36, iI_37, iI_40, iI_48, iI_60, iI_63, iI_64, iI_78, iI_100, iI_255, iI_481, iI_1000000, iI_m1, iI_m2, iI_m3, iI_m4, iI_m9, iI_m1000000, iI_add, iI_sub, iI_mul, iI_neg, iI_lt, iI_le, iI_eq, iI_cl, tr_bd, tr_bn_some, tr_b2_some, tr_gdI, tr_nzI, tr_maxI, tr_minI, if_pos, if_neg, ↓reduceIte]
end
section
/-! pasted from the given laws: lN under shifts and masks -/
theorem wb_tb (n : Nat) : (lN n).toBitVec = BitVec.ofNat 64 n := rfl
theorem wb_inj {a b : Int64} (h : a.toBitVec = b.toBitVec) : a = b := Int64.toBitVec_inj.mp h
theorem wb_tn {n : Nat} (h : n < 2 ^ 64) : (lN n).toBitVec.toNat = n := by rw [wb_tb, BitVec.toNat_ofNat, Nat.mod_eq_of_lt h]
theorem wb_of (x : Int64) : ∃ n, n < 2 ^ 64 ∧ x = lN n := ⟨x.toBitVec.toNat, x.toBitVec.isLt, wb_inj (by rw [wb_tb]; simp)⟩
theorem wb_of32 (x : Int32) : ∃ n, n < 2 ^ 32 ∧ x = nI n := ⟨x.toBitVec.toNat, x.toBitVec.isLt, Int32.toBitVec_inj.mp (by show _ = BitVec.ofNat 32 _; simp)⟩
theorem wb_c : ∀ k, k < 64 → ((nI k).toInt64 &&& 63) = lN k := by decide +kernel
theorem wb_cu : ∀ k, k < 64 → ((nI k).toInt64.toUInt64 &&& Int64.toUInt64 63) = UInt64.ofNat k := by decide +kernel
theorem wb_sm : ∀ k, k < 64 → (BitVec.ofNat 64 k).smod 64 = BitVec.ofNat 64 k := by decide +kernel
theorem wb_pw {a b : Nat} (h : a ≤ b) : 2 ^ b = 2 ^ a * 2 ^ (b - a) := by rw [← Nat.pow_add]; congr 1; omega
theorem wb_lt2 {a b : Nat} (h : a < b) : 2 ^ a < 2 ^ b := Nat.pow_lt_pow_right (by decide) h
theorem wb_mod (n : Nat) : lN n = lN (n % 2 ^ 64) := wb_inj (by rw [wb_tb, wb_tb]; apply BitVec.eq_of_toNat_eq; rw [BitVec.toNat_ofNat, BitVec.toNat_ofNat, Nat.mod_mod])
theorem wb_shr {n k : Nat} (hn : n < 2 ^ 64) (hk : k < 64) : ((lN n).toUInt64 >>> ((nI k).toInt64.toUInt64 &&& Int64.toUInt64 63)).toInt64 = lN (n / 2 ^ k) := by
  rw [wb_cu k hk]
  apply wb_inj
  apply BitVec.eq_of_toNat_eq
  show ((lN n).toUInt64 >>> UInt64.ofNat k).toNat = (BitVec.ofNat 64 _).toNat
  have h1 : (UInt64.ofNat k).toNat = k := by
    show (BitVec.ofNat 64 k).toNat = k
    rw [BitVec.toNat_ofNat, Nat.mod_eq_of_lt (by omega)]
  have h2 : (lN n).toUInt64.toNat = n := wb_tn hn
  rw [UInt64.toNat_shiftRight, h1, h2, Nat.mod_eq_of_lt hk, Nat.shiftRight_eq_div_pow, BitVec.toNat_ofNat, Nat.mod_eq_of_lt (Nat.lt_of_le_of_lt (Nat.div_le_self _ _) hn)]
theorem wb_shl (n : Nat) {k : Nat} (hk : k < 64) : lN n <<< ((nI k).toInt64 &&& 63) = lN (n * 2 ^ k) := by
  rw [wb_c k hk]
  apply wb_inj
  rw [Int64.toBitVec_shiftLeft, wb_tb, wb_tb, wb_tb, wb_sm k hk]
  apply BitVec.eq_of_toNat_eq
  rw [BitVec.shiftLeft_eq', BitVec.toNat_shiftLeft, BitVec.toNat_ofNat, BitVec.toNat_ofNat, BitVec.toNat_ofNat, Nat.mod_eq_of_lt (show k < 2 ^ 64 by omega), Nat.shiftLeft_eq, Nat.mul_mod, Nat.mod_mod, ← Nat.mul_mod]
theorem wb_and {a b : Nat} (ha : a < 2 ^ 64) (hb : b < 2 ^ 64) : lN a &&& lN b = lN (a &&& b) := by
  apply wb_inj
  rw [Int64.toBitVec_and, wb_tb, wb_tb, wb_tb]
  apply BitVec.eq_of_toNat_eq
  rw [BitVec.toNat_and, BitVec.toNat_ofNat, BitVec.toNat_ofNat, BitVec.toNat_ofNat, Nat.mod_eq_of_lt ha, Nat.mod_eq_of_lt hb, Nat.mod_eq_of_lt (Nat.and_lt_two_pow _ hb)]
theorem wb_or {a b : Nat} (ha : a < 2 ^ 64) (hb : b < 2 ^ 64) : lN a ||| lN b = lN (a ||| b) := by
  apply wb_inj
  rw [Int64.toBitVec_or, wb_tb, wb_tb, wb_tb]
  apply BitVec.eq_of_toNat_eq
  rw [BitVec.toNat_or, BitVec.toNat_ofNat, BitVec.toNat_ofNat, BitVec.toNat_ofNat, Nat.mod_eq_of_lt ha, Nat.mod_eq_of_lt hb, Nat.mod_eq_of_lt (Nat.or_lt_two_pow ha hb)]
theorem wb_mask {n k : Nat} (hn : n < 2 ^ 64) (hk : k < 64) : lN n &&& lN (2 ^ k - 1) = lN (n % 2 ^ k) := by
  rw [wb_and hn (by have := wb_lt2 hk; omega), Nat.and_two_pow_sub_one_eq_mod]
theorem wb_a1 {n : Nat} (hn : n < 2 ^ 64) : lN n &&& 1 = lN (n % 2) := wb_mask (k := 1) hn (by decide)
theorem wb_bit {n k : Nat} (hn : n < 2 ^ 64) (hk : k < 64) : ((lN n).toUInt64 >>> ((nI k).toInt64.toUInt64 &&& Int64.toUInt64 63)).toInt64 &&& 1 = lN (n / 2 ^ k % 2) := by
  rw [wb_shr hn hk, wb_a1 (Nat.lt_of_le_of_lt (Nat.div_le_self _ _) hn)]
theorem pf_lI {a : Nat} (h : a < 2 ^ 63) : (lN a).toInt = (a : Int) := lg_ofNat_toInt h
theorem pf_shr {a d : Nat} {D : Int64} (hD : (D.toBitVec.smod 64).toNat = d) (h : a < 2 ^ 62) : lN a >>> D = lN (a / 2 ^ d) := by
  have hd : a / 2 ^ d ≤ a := Nat.div_le_self _ _
  apply Int64.toInt_inj.mp
  have e : (lN a >>> D).toInt = (lN a).toInt >>> d := by
    rw [← hD]
    exact BitVec.toInt_sshiftRight ..
  rw [e, Int.shiftRight_eq_div_pow, pf_lI (by omega), pf_lI (by omega)]
  rfl
/-! our own rows over them -/
theorem iI_nat (k : Nat) : iI (k : Int) = nI k := Int32.ofInt_eq_ofNat
theorem nI_or (a b : Nat) : nI a ||| nI b = nI (a ||| b) := Int32.toBitVec_inj.mp (by
  show BitVec.ofNat 32 a ||| BitVec.ofNat 32 b = BitVec.ofNat 32 (a ||| b)
  exact BitVec.ofNat_or.symm)
theorem lN_or (a b : Nat) : lN a ||| lN b = lN (a ||| b) := wb_inj (by
  show BitVec.ofNat 64 a ||| BitVec.ofNat 64 b = BitVec.ofNat 64 (a ||| b)
  exact BitVec.ofNat_or.symm)
theorem shl64 {k : Nat} (hk : k < 64) : (1 : Int64) <<< ((iI k).toInt64 &&& 63) = lN (2 ^ k) := by
  have h := wb_shl 1 hk
  rw [Nat.one_mul] at h
  rw [iI_nat]
  exact h
theorem shl32 : ∀ k : Nat, k < 6 → (1 : Int32) <<< (iI k &&& 31) = nI (2 ^ k) := by decide +kernel
theorem shr64 {a k : Nat} (hk : k < 64) (ha : a < 2 ^ 62) : lN a >>> ((iI k).toInt64 &&& 63) = lN (a / 2 ^ k) := by
  rw [iI_nat, wb_c k hk]
  refine pf_shr ?_ ha
  rw [wb_tb, wb_sm k hk, BitVec.toNat_ofNat]
  omega
theorem bit64 {a k : Nat} (hk : k < 64) (ha : a < 2 ^ 62) : (lN a >>> ((iI k).toInt64 &&& 63)) &&& 1 = lN (if a.testBit k then 1 else 0) := by
  have h1 : a / 2 ^ k ≤ a := Nat.div_le_self _ _
  rw [shr64 hk ha, wb_a1 (by omega), Nat.testBit_eq_decide_div_mod_eq]
  congr 1
  have h2 : a / 2 ^ k % 2 < 2 := Nat.mod_lt _ (by decide)
  by_cases c : a / 2 ^ k % 2 = 1
  · simp [c]
  · have : a / 2 ^ k % 2 = 0 := by omega
    simp [this]
theorem has32 : ∀ m : Nat, m < 64 → ∀ k : Nat, k < 6 → ((iI m >>> (iI k &&& 31)) &&& 1 = 1 ↔ m.testBit k = true) := by decide +kernel
theorem lg_lt {x y : Int64} : lg_cmp x y < 0 ↔ x.toInt < y.toInt := by
  unfold lg_cmp
  by_cases h1 : x > y
  · have h2 : y.toInt < x.toInt := Int64.lt_iff_toInt_lt.mp h1
    rw [if_pos h1]
    constructor
    · intro h; exact absurd h (by decide)
    · intro h; omega
  · have h2 : ¬ y.toInt < x.toInt := fun h => h1 (Int64.lt_iff_toInt_lt.mpr h)
    rw [if_neg h1]
    by_cases h3 : x = y
    · subst h3
      rw [if_pos rfl]
      constructor
      · intro h; exact absurd h (by decide)
      · intro h; omega
    · have h4 : x.toInt ≠ y.toInt := fun h => h3 (Int64.toInt_inj.mp h)
      rw [if_neg h3]
      constructor
      · intro _; omega
      · intro _; decide
theorem lg_gt {x y : Int64} : 0 < lg_cmp x y ↔ y.toInt < x.toInt := by
  unfold lg_cmp
  by_cases h1 : x > y
  · have h2 : y.toInt < x.toInt := Int64.lt_iff_toInt_lt.mp h1
    rw [if_pos h1]
    exact ⟨fun _ => h2, fun _ => by decide⟩
  · have h2 : ¬ y.toInt < x.toInt := fun h => h1 (Int64.lt_iff_toInt_lt.mpr h)
    rw [if_neg h1]
    by_cases h3 : x = y
    · rw [if_pos h3]
      exact ⟨fun h => absurd h (by decide), fun h => absurd h h2⟩
    · rw [if_neg h3]
      exact ⟨fun h => absurd h (by decide), fun h => absurd h h2⟩
theorem lg_le {x y : Int64} : lg_cmp x y ≤ 0 ↔ x.toInt ≤ y.toInt := by
  have h := lg_gt (x := x) (y := y)
  rw [← Int32.not_lt, h]
  omega
theorem r_in (x y z : Int64) : f_X8_in x y z = some (if y.toInt ≤ x.toInt ∧ x.toInt ≤ z.toInt then 1 else 0) := by
  unfold f_X8_in
  by_cases h1 : x.toInt < y.toInt
  · rw [if_pos (lg_lt.mpr h1), if_neg (by omega)]
  · rw [if_neg (fun h => h1 (lg_lt.mp h))]
    by_cases h2 : z.toInt < x.toInt
    · rw [if_pos (lg_gt.mpr h2), if_neg (by omega)]
    · rw [if_neg (fun h => h2 (lg_gt.mp h)), if_pos (by omega)]
/-- how many bits -/
def pcn (a : Nat) : Nat → Nat
  | 0 => 0
  | k + 1 => pcn a k + a / 2 ^ k % 2
theorem pcn_cnt (a k : Nat) : pcn a k = cnt (fun j => a.testBit j) k := by
  induction k with
  | zero => rfl
  | succ k ih =>
    unfold pcn cnt
    rw [ih]
    congr 1
    show _ = if a.testBit k = true then 1 else 0
    rw [Nat.testBit_eq_decide_div_mod_eq]
    have : a / 2 ^ k % 2 < 2 := Nat.mod_lt _ (by decide)
    by_cases c : a / 2 ^ k % 2 = 1
    · simp [c]
    · have h0 : a / 2 ^ k % 2 = 0 := by omega
      simp [h0]
theorem r_many {a K : Nat} (ha : a < 2 ^ K) (hK : K ≤ 60) : f_X8_many (lN a) = some (iI (pcn a K)) := by
  have ha2 : a < 2 ^ 62 := Nat.lt_of_lt_of_le ha (Nat.pow_le_pow_right (by decide) (by omega))
  -- the first place from which there is nothing left
  have hz : ∃ k, k ≤ K ∧ a / 2 ^ k = 0 ∧ ∀ j, j < k → 0 < a / 2 ^ j := by
    clear ha2 hK
    induction K generalizing a with
    | zero =>
      refine ⟨0, Nat.le_refl _, ?_, fun j hj => by omega⟩
      simp at ha
      subst ha
      rfl
    | succ K ih =>
      by_cases h0 : a = 0
      · subst h0
        exact ⟨0, by omega, by simp, fun j hj => by omega⟩
      · obtain ⟨k, g1, g2, g3⟩ := ih (a := a / 2) (by rw [Nat.pow_succ] at ha; omega)
        refine ⟨k + 1, by omega, ?_, fun j hj => ?_⟩
        · rw [Nat.pow_succ, Nat.mul_comm, ← Nat.div_div_eq_div_mul]; exact g2
        · cases j with
          | zero => simp; omega
          | succ j =>
            rw [Nat.pow_succ, Nat.mul_comm, ← Nat.div_div_eq_div_mul]
            exact g3 j (by omega)
  obtain ⟨k, g1, g2, g3⟩ := hz
  have hrest : ∀ d, pcn a (k + d) = pcn a k := by
    intro d
    induction d with
    | zero => rfl
    | succ d ih =>
      show pcn a (k + d) + a / 2 ^ (k + d) % 2 = pcn a k
      rw [ih, Nat.pow_add, ← Nat.div_div_eq_div_mul, g2]
      simp
  have hKk : pcn a K = pcn a k := by
    have := hrest (K - k)
    rw [show k + (K - k) = K by omega] at this
    exact this
  rw [hKk]
  unfold f_X8_many
  have hle : ∀ j, a / 2 ^ j < 2 ^ 62 := fun j => Nat.lt_of_le_of_lt (Nat.div_le_self _ _) ha2
  have key := tr_seq (f := fun q => f_X8_many_L4 q.1 q.2) (fun m => (iI (pcn a m), lN (a / 2 ^ m))) (lo := 0) (hi := k) (r := iI (pcn a k)) (by omega) ?_ ?_
  · have e : ((0 : Int32), lN a) = (iI (pcn a 0 : Nat), lN (a / 2 ^ 0)) := by simp only [pcn, Nat.pow_zero, Nat.div_one]; rfl
    rw [e, key]
    rfl
  · intro m _ hm
    have h1 := g3 m hm
    have h2 := hle m
    show f_X8_many_L4 (iI (pcn a m)) (lN (a / 2 ^ m)) = _
    unfold f_X8_many_L4
    rw [if_neg (fun h => by
      rw [lg_le, pf_lI (by omega)] at h
      have : (0 : Int64).toInt = 0 := by decide
      omega)]
    unfold tr_bd
    have e1 := shr64 (a := a / 2 ^ m) (k := 1) (by decide) (by omega)
    have e2 : ((1 : Int32).toInt64 &&& 63) = ((iI (1 : Nat)).toInt64 &&& 63) := rfl
    rw [wb_a1 (by omega), lN_i, e2, e1, Nat.div_div_eq_div_mul, ← Nat.pow_add, ← iI_nat, iI_add]
    rfl
  · show f_X8_many_L4 (iI (pcn a k)) (lN (a / 2 ^ k)) = _
    unfold f_X8_many_L4
    rw [g2]
    rfl
end
section
/-! the reference's page, and its small methods -/
def cvn (z : Int) : Int := if z = -9 then 0 else z + 1
def pagI (p : Nat) : Prop := p = 2 ∨ p = 3 ∨ p = 4
def tP (h : tr_H) (p n : Nat) (w : Nat → Int) : Prop := pagI p ∧ okn n w ∧ h.1 p 0 = iI n ∧ ∀ c, c < 36 → h.1 p (1 + c) = iI (cvn (w c))
theorem cvn_b {n : Nat} {w : Nat → Int} (h : okn n w) {c : Nat} (hc : c < 36) : 0 ≤ cvn (w c) ∧ cvn (w c) ≤ 10 ∧ (cvn (w c) = 0 ↔ w c = -9) ∧ (w c ≠ -9 → cvn (w c) = w c + 1) := by
  have := (h.2.2 c hc).1
  unfold cvn
  split
  · omega
  · omega
theorem r_minutesOf {h : tr_H} {p n : Nat} {w : Nat → Int} (hP : tP h p n w) {i j : Nat} (hi : i < 6) (hj : j < 6) : f_X8_minutesOf p (iI i) (iI j) h = some (iI (cvn (w (6 * i + j)) - 1)) := by
  have g := hP.2.2.2 (6 * i + j) (by omega)
  unfold f_X8_minutesOf
  have e1 : (1 + 6 * (i : Int) + (j : Int)).toNat = 1 + (6 * i + j) := by omega
  simp (disch := omega) only [iI_0, iI_1, iI_2, iI_3, iI_4, iI_5, iI_6, iI_7, iI_8, iI_9, iI_10, iI_11, iI_12, iI_14, iI_20, iI_30, iI_31, iI_36, iI_37, iI_40, iI_48, iI_60, iI_63, iI_64, iI_78, iI_100, iI_255, iI_481, iI_1000000, iI_m1, iI_m2, iI_m3, iI_m4, iI_m9, iI_m1000000, iI_add, iI_sub, iI_mul, iI_neg, iI_lt, iI_le, iI_eq, iI_cl, tr_bd, tr_bn_some, tr_b2_some, tr_gdI, tr_nzI, if_pos, if_neg, ↓reduceIte, e1, g]
theorem r_isThere {h : tr_H} {p n : Nat} {w : Nat → Int} (hP : tP h p n w) {i j : Nat} (hi : i < 6) (hj : j < 6) : f_X8_isThere p (iI i) (iI j) h = some (if w (6 * i + j) = -9 then 0 else 1) := by
  have b := cvn_b hP.2.1 (c := 6 * i + j) (by omega)
  unfold f_X8_isThere
  rw [r_minutesOf hP hi hj]
  by_cases c : w (6 * i + j) = -9
  · simp (disch := omega) only [iI_0, iI_1, iI_2, iI_3, iI_4, iI_5, iI_6, iI_7, iI_8, iI_9, iI_10, iI_11, iI_12, iI_14, iI_20, iI_30, iI_31, iI_36, iI_37, iI_40, iI_48, iI_60, iI_63, iI_64, iI_78, iI_100, iI_255, iI_481, iI_1000000, iI_m1, iI_m2, iI_m3, iI_m4, iI_m9, iI_m1000000, iI_add, iI_sub, iI_mul, iI_neg, iI_lt, iI_le, iI_eq, iI_cl, tr_bd, tr_bn_some, tr_b2_some, tr_gdI, tr_nzI, if_pos, if_neg, ↓reduceIte, c]
    rfl
  · have := b.2.2.2 c
    simp (disch := omega) only [iI_0, iI_1, iI_2, iI_3, iI_4, iI_5, iI_6, iI_7, iI_8, iI_9, iI_10, iI_11, iI_12, iI_14, iI_20, iI_30, iI_31, iI_36, iI_37, iI_40, iI_48, iI_60, iI_63, iI_64, iI_78, iI_100, iI_255, iI_481, iI_1000000, iI_m1, iI_m2, iI_m3, iI_m4, iI_m9, iI_m1000000, iI_add, iI_sub, iI_mul, iI_neg, iI_lt, iI_le, iI_eq, iI_cl, tr_bd, tr_bn_some, tr_b2_some, tr_gdI, tr_nzI, if_pos, if_neg, ↓reduceIte, c]
theorem r_noDep {h : tr_H} {n : Nat} {w : Nat → Int} (hP : tP h 3 n w) (x : Int32) : f_X8_noDeparture x h = some (if 0 ≤ x.toInt ∧ x.toInt < n then 0 else 1) := by
  have h6 := hP.2.1.2.1
  have h1 := hP.2.1.1
  unfold f_X8_noDeparture
  have e0 : (0 : Int32).toNatClampNeg = 0 := rfl
  rw [e0, hP.2.2.1, iI_1, iI_sub, r_in, Int32.toInt_toInt64, Int32.toInt_toInt64, iI_in (by omega) (by omega)]
  have e1 : (0 : Int64).toInt = 0 := by decide
  rw [e1]
  by_cases c : 0 ≤ x.toInt ∧ x.toInt < n
  · rw [if_pos c, if_pos (by omega)]
    rfl
  · rw [if_neg c, if_neg (by omega)]
    rfl
theorem r_has {m k : Nat} (hm : m < 64) (hk : k < 6) : f_X8_has (iI m) (iI k) = some (if m.testBit k then 1 else 0) := by
  unfold f_X8_has
  have h := has32 m hm k hk
  by_cases c : m.testBit k = true
  · rw [if_pos (h.mpr c), if_pos c]
  · rw [if_neg (fun q => c (h.mp q)), if_neg c]
theorem r_waits {h : tr_H} {p n : Nat} {w : Nat → Int} (hP : tP h p n w) : f_X8_waits p h = some (iI (nwt w)) := by
  obtain ⟨-, h1, h2, h3⟩ := hP
  unfold f_X8_waits
  have key := tr_seq (f := fun q => f_X8_waits_L4 h p q.1 q.2) (fun k => (iI (cnt (fun c => decide (w c ≠ -9)) k), iI ((1 + k : Nat)))) (lo := 0) (hi := 36) (r := iI (nwt w)) (by omega) ?_ ?_
  · rw [show ((0 : Int32), (1 : Int32)) = (iI (cnt (fun c => decide (w c ≠ -9)) 0 : Nat), iI ((1 + 0 : Nat))) from rfl, key]
    rfl
  · intro k _ hk
    have hb := cvn_b h1 hk
    have hc := cnt_le (fun c => decide (w c ≠ -9)) k
    have h4 := h3 k hk
    show f_X8_waits_L4 h p (iI (cnt (fun c => decide (w c ≠ -9)) k)) (iI ((1 + k : Nat))) = _
    unfold f_X8_waits_L4
    have e1 : (((1 + k : Nat)) : Int).toNat = 1 + k := by omega
    by_cases e : w k = -9
    · have := hb.2.2.1.mpr e
      simp (disch := omega) only [iI_0, iI_1, iI_2, iI_3, iI_4, iI_5, iI_6, iI_7, iI_8, iI_9, iI_10, iI_11, iI_12, iI_14, iI_20, iI_30, iI_31, iI_36, iI_37, iI_40, iI_48, iI_60, iI_63, iI_64, iI_78, iI_100, iI_255, iI_481, iI_1000000, iI_m1, iI_m2, iI_m3, iI_m4, iI_m9, iI_m1000000, iI_add, iI_sub, iI_mul, iI_neg, iI_lt, iI_le, iI_eq, iI_cl, tr_bd, tr_bn_some, tr_b2_some, tr_gdI, tr_nzI, if_pos, if_neg, ↓reduceIte, e1, h4]
      simp [cnt, e]
      congr 1
    · have := hb.2.2.2 e
      simp (disch := omega) only [iI_0, iI_1, iI_2, iI_3, iI_4, iI_5, iI_6, iI_7, iI_8, iI_9, iI_10, iI_11, iI_12, iI_14, iI_20, iI_30, iI_31, iI_36, iI_37, iI_40, iI_48, iI_60, iI_63, iI_64, iI_78, iI_100, iI_255, iI_481, iI_1000000, iI_m1, iI_m2, iI_m3, iI_m4, iI_m9, iI_m1000000, iI_add, iI_sub, iI_mul, iI_neg, iI_lt, iI_le, iI_eq, iI_cl, tr_bd, tr_bn_some, tr_b2_some, tr_gdI, tr_nzI, if_pos, if_neg, ↓reduceIte, e1, h4]
      simp [cnt, e]
      congr 1
  · show f_X8_waits_L4 h p (iI (cnt (fun c => decide (w c ≠ -9)) 36)) (iI ((1 + 36 : Nat))) = _
    unfold f_X8_waits_L4
    simp (disch := omega) only [iI_0, iI_1, iI_2, iI_3, iI_4, iI_5, iI_6, iI_7, iI_8, iI_9, iI_10, iI_11, iI_12, iI_14, iI_20, iI_30, iI_31, iI_36, iI_37, iI_40, iI_48, iI_60, iI_63, iI_64, iI_78, iI_100, iI_255, iI_481, iI_1000000, iI_m1, iI_m2, iI_m3, iI_m4, iI_m9, iI_m1000000, iI_add, iI_sub, iI_mul, iI_neg, iI_lt, iI_le, iI_eq, iI_cl, tr_bd, tr_bn_some, tr_b2_some, tr_gdI, tr_nzI, if_pos, if_neg, ↓reduceIte]
    rfl
end
section
/-! a ring is closed in the reference -/
def gl (x : Nat) (l : List Nat) (k : Nat) : Nat := (x :: l).getD k 0
theorem gl_s (x : Nat) (l : List Nat) (k : Nat) (hk : k < l.length) : gl x l (k + 1) = l[k] := by
  unfold gl
  simp [hk]
theorem take_snoc (x : Nat) (l : List Nat) (m : Nat) (hm : m < l.length) : l.take (m + 1) = l.take m ++ [gl x l (m + 1)] := by
  rw [gl_s x l m hm, List.take_succ, List.getElem?_eq_getElem hm]
  rfl
theorem la_take (x : Nat) (l : List Nat) : ∀ m, m ≤ l.length → la x (l.take m) = gl x l m := by
  intro m hm
  cases m with
  | zero => simp [la, gl]
  | succ m =>
    rw [take_snoc x l m (by omega), la_app]
    rfl
theorem wsm_take (w : Nat → Int) (x : Nat) (l : List Nat) : ∀ m, m ≤ l.length → itr (fun k a => a + w (6 * gl x l k + gl x l (k + 1))) m 0 = wsm (wN w) x (l.take m) := by
  intro m
  induction m with
  | zero => intro _; simp [itr, wsm]
  | succ m ih =>
    intro hm
    rw [take_snoc x l m (by omega), wsm_app, la_take x l m (by omega)]
    simp only [itr]
    rw [ih (by omega)]
    simp [wsm, wN]
theorem edg_take (x : Nat) (l : List Nat) (p : Nat × Nat) : ∀ m, m ≤ l.length → (p ∈ edg x (l.take m) ↔ ∃ k, k < m ∧ p = (gl x l k, gl x l (k + 1))) := by
  intro m
  induction m with
  | zero => intro _; simp [edg]
  | succ m ih =>
    intro hm
    rw [take_snoc x l m (by omega), edg_app, la_take x l m (by omega), List.mem_append, ih (by omega)]
    constructor
    · rintro (⟨k, h1, h2⟩ | h)
      · exact ⟨k, by omega, h2⟩
      · simp [edg] at h
        exact ⟨m, by omega, h⟩
    · rintro ⟨k, h1, h2⟩
      by_cases e : k = m
      · subst e
        right
        simp [edg, h2]
      · left
        exact ⟨k, by omega, h2⟩
theorem itr_or (f : Nat → Nat) (j : Nat) : ∀ m, ((itr (fun k a => a ||| 2 ^ f k) m 0).testBit j = true ↔ ∃ k, k < m ∧ j = f k) := by
  intro m
  induction m with
  | zero => simp [itr]
  | succ m ih =>
    simp only [itr]
    rw [Nat.testBit_or, Bool.or_eq_true, ih, Nat.testBit_two_pow]
    constructor
    · rintro (⟨k, h1, h2⟩ | h)
      · exact ⟨k, by omega, h2⟩
      · exact ⟨m, by omega, (of_decide_eq_true h).symm⟩
    · rintro ⟨k, h1, h2⟩
      by_cases e : k = m
      · subst e; right; simp [h2]
      · left; exact ⟨k, by omega, h2⟩
/-- the sum of a ring's minutes -/
def sm (w : Nat → Int) (q : Nat × List Nat) : Int := wsm (wN w) q.1 (q.2 ++ [q.1])
def hasE (q : Nat × List Nat) (k : Nat) : Prop := ∃ p ∈ edg q.1 (q.2 ++ [q.1]), k = 6 * p.1 + p.2
/-- what the reference has noted of the rings so far -/
def rF (h : tr_H) (w : Nat → Int) (A : List (Nat × List Nat)) : Prop :=
  h.1 0 17 = iI A.length ∧ ∃ (S B : Int) (rw cw cd : Nat), h.1 0 18 = iI S ∧ h.1 0 19 = iI B ∧ h.2 0 20 = lN cw ∧ h.1 0 21 = nI cd ∧ h.2 0 22 = lN rw ∧ (0 ≤ S ∧ S ≤ 60 ∧ 0 ≤ B ∧ B ≤ 6) ∧
    (∀ k, rw.testBit k = true ↔ ∃ q ∈ A, hasE q k) ∧
    ((A = [] ∧ B = 0 ∧ cw = 0 ∧ cd = 0) ∨ (1 ≤ B ∧ (∃ q ∈ A, sm w q = S ∧ (q.2.length + 1 : Nat) = B) ∧ (∀ q ∈ A, sm w q * B ≤ S * (q.2.length + 1 : Nat)) ∧
      (∀ k, cw.testBit k = true ↔ ∃ q ∈ A, sm w q * B = S * (q.2.length + 1 : Nat) ∧ hasE q k) ∧ (∀ k, cd.testBit k = true ↔ ∃ q ∈ A, sm w q * B = S * (q.2.length + 1 : Nat) ∧ k ∈ q.1 :: q.2)))
def mC (h h' : tr_H) : Prop := (∀ c, c ≠ 0 → h'.1 c = h.1 c) ∧ (∀ k, k ≠ 17 → k ≠ 18 → k ≠ 19 → k ≠ 21 → h'.1 0 k = h.1 0 k) ∧ ∀ c k, ¬ (c = 0 ∧ (k = 20 ∨ k = 22)) → h'.2 c k = h.2 c k
theorem mem_snoc {α : Type} {P : α → Prop} {A : List α} {a : α} : (∃ q ∈ A ++ [a], P q) ↔ (∃ q ∈ A, P q) ∨ P a := by
  constructor
  · rintro ⟨q, h1, h2⟩
    rcases List.mem_append.mp h1 with h | h
    · exact Or.inl ⟨q, h, h2⟩
    · rw [List.mem_singleton] at h; subst h; exact Or.inr h2
  · rintro (⟨q, h1, h2⟩ | h)
    · exact ⟨q, by simp [h1], h2⟩
    · exact ⟨a, by simp, h⟩
/-- the loop over the ring -/
theorem r_closeL {h : tr_H} {p n : Nat} {w : Nat → Int} (hP : tP h p n w) {x : Nat} {b : List Nat} (hr : ring (eP (eB n w)) x b) (hrow : ∀ k, k ≤ b.length → h.1 11 k = iI (gl x b k)) :
    tr_lp (fun q => f_X8_closeRing_L11 (iI (b.length + 1 : Nat)) h p q.1 q.2.1 q.2.2.1 q.2.2.2) (0, 0, 0, 0) = some (iI (sm w (x, b)), lN (itr (fun k a => a ||| 2 ^ (6 * gl x (b ++ [x]) k + gl x (b ++ [x]) (k + 1))) (b.length + 1) 0), nI (itr (fun k a => a ||| 2 ^ gl x b k) (b.length + 1) 0)) := by
  have h6 := hP.2.1.2.1
  have hlen := ring_len hr
  have hlt := ring_lt hr
  have hg : ∀ k, k ≤ b.length → gl x (b ++ [x]) k = gl x b k := by
    intro k hk
    unfold gl
    rw [show x :: (b ++ [x]) = (x :: b) ++ [x] from rfl, List.getD_eq_getElem?_getD, List.getD_eq_getElem?_getD, List.getElem?_append_left (by simp; omega)]
  have hgl : gl x (b ++ [x]) (b.length + 1) = x := by
    rw [gl_s _ _ _ (by simp)]
    simp
  have hglt : ∀ k, k ≤ b.length → gl x b k < 6 := by
    intro k hk
    have : gl x b k ∈ x :: b := by
      unfold gl
      rw [List.getD_eq_getElem?_getD, List.getElem?_eq_getElem (by simp; omega)]
      exact List.getElem_mem _
    have := hlt _ this
    omega
  have hgx : gl x b 0 = x := rfl
  have hx6 : x < 6 := by have := hlt x (by simp); omega
  have hmod : ∀ k, k < b.length + 1 → ((k : Int) + 1) % ((b.length + 1 : Nat) : Int) = if k = b.length then 0 else (k : Int) + 1 := by
    intro k hk
    by_cases e : k = b.length
    · rw [if_pos e, e]
      exact Int.emod_self
    · rw [if_neg e]
      exact Int.emod_eq_of_lt (by omega) (by omega)
  have hto : ∀ k, k < b.length + 1 → h.1 11 (if k = b.length then 0 else k + 1) = iI (gl x (b ++ [x]) (k + 1)) := by
    intro k hk
    by_cases e : k = b.length
    · rw [if_pos e, e, hgl]
      exact hrow 0 (by omega)
    · rw [if_neg e, hg (k + 1) (by omega)]
      exact hrow (k + 1) (by omega)
  have htolt : ∀ k, k < b.length + 1 → gl x (b ++ [x]) (k + 1) < 6 := by
    intro k hk
    by_cases e : k = b.length
    · rw [e, hgl]; exact hx6
    · rw [hg (k + 1) (by omega)]
      exact hglt _ (by omega)
  have hedge : ∀ k, k < b.length + 1 → w (6 * gl x b k + gl x (b ++ [x]) (k + 1)) ≠ -9 := by
    intro k hk
    have h1 : (gl x (b ++ [x]) k, gl x (b ++ [x]) (k + 1)) ∈ edg x (b ++ [x]) := by
      have := (edg_take x (b ++ [x]) (gl x (b ++ [x]) k, gl x (b ++ [x]) (k + 1)) (b.length + 1) (by simp)).mpr ⟨k, hk, rfl⟩
      rw [List.take_of_length_le (by simp)] at this
      exact this
    have h2 := (edg_chn _ _ hr.2 _ h1).1
    rw [hg k (by omega)] at h2
    simp [eP, eB] at h2
    exact h2.2.2
  have hsum : sm w (x, b) = itr (fun k a => a + w (6 * gl x (b ++ [x]) k + gl x (b ++ [x]) (k + 1))) (b.length + 1) 0 := by
    rw [wsm_take w x (b ++ [x]) (b.length + 1) (by simp), List.take_of_length_le (by simp)]
    rfl
  rw [hsum]
  refine tr_seq (f := fun q => f_X8_closeRing_L11 (iI (b.length + 1 : Nat)) h p q.1 q.2.1 q.2.2.1 q.2.2.2) (fun m => (iI (itr (fun k a => a + w (6 * gl x (b ++ [x]) k + gl x (b ++ [x]) (k + 1))) m 0), lN (itr (fun k a => a ||| 2 ^ (6 * gl x (b ++ [x]) k + gl x (b ++ [x]) (k + 1))) m 0), nI (itr (fun k a => a ||| 2 ^ gl x b k) m 0), iI m)) (lo := 0) (hi := b.length + 1) (by omega) ?_ ?_
  · intro k _ hk
    have a1 := hrow k (by omega)
    have a2 := hto k hk
    have a3 := hglt k (by omega)
    have a4 := htolt k hk
    have a5 := hedge k hk
    have a6 := r_minutesOf hP a3 a4
    have a7 := (cvn_b hP.2.1 (c := 6 * gl x b k + gl x (b ++ [x]) (k + 1)) (by omega)).2.2.2 a5
    rw [a7, show w (6 * gl x b k + gl x (b ++ [x]) (k + 1)) + 1 - 1 = w (6 * gl x b k + gl x (b ++ [x]) (k + 1)) by omega] at a6
    have a8 := hmod k hk
    have a9 := iI_rem (a := (k : Int) + 1) (b := ((b.length + 1 : Nat) : Int)) (by omega) (by omega) (by omega) (by omega)
    rw [a8] at a9
    have a10 : (if k = b.length then (0 : Int) else (k : Int) + 1).toNat = if k = b.length then 0 else k + 1 := by
      by_cases e : k = b.length
      · rw [if_pos e, if_pos e]; rfl
      · rw [if_neg e, if_neg e]; omega
    have a11 : 0 ≤ (if k = b.length then (0 : Int) else (k : Int) + 1) ∧ (if k = b.length then (0 : Int) else (k : Int) + 1) < 6 := by
      by_cases e : k = b.length
      · rw [if_pos e]; omega
      · rw [if_neg e]; omega
    generalize (if k = b.length then (0 : Int) else (k : Int) + 1) = md at a9 a10 a11
    show f_X8_closeRing_L11 (iI (b.length + 1 : Nat)) h p _ _ _ (iI k) = some (.inl (_, _, _, iI ((k + 1 : Nat))))
    simp only [itr]
    rw [hg k (by omega)]
    generalize itr (fun k a => a + w (6 * gl x (b ++ [x]) k + gl x (b ++ [x]) (k + 1))) k 0 = s1
    generalize itr (fun k a => a ||| 2 ^ (6 * gl x (b ++ [x]) k + gl x (b ++ [x]) (k + 1))) k 0 = s2
    generalize itr (fun k a => a ||| 2 ^ gl x b k) k 0 = s3
    unfold f_X8_closeRing_L11
    rw [if_neg (by rw [iI_le (by omega) (by omega) (by omega) (by omega)]; omega), tr_nzI (by omega) (by omega) (by omega)]
    rw [show iI (k : Int) + 1 = iI ((k : Int) + 1) by rw [iI_1, iI_add], a9]
    obtain ⟨m1, m2⟩ := a11
    simp (disch := omega) only [tr_bd, tr_bn_some, tr_gdI, iI_cl, a10, a2, a1, a6, Int.toNat_natCast]
    rw [iI_add, iI_6, iI_mul, iI_add, shl32 _ a3, nI_or]
    rw [show (6 * ((gl x b k : Nat) : Int) + ((gl x (b ++ [x]) (k + 1) : Nat) : Int)) = ((6 * gl x b k + gl x (b ++ [x]) (k + 1) : Nat) : Int) by omega, shl64 (by omega), lN_or]
    rfl
  · show f_X8_closeRing_L11 (iI (b.length + 1 : Nat)) h p _ _ _ (iI (b.length + 1 : Nat)) = _
    unfold f_X8_closeRing_L11
    rw [if_pos (by rw [iI_le (by omega) (by omega) (by omega) (by omega)]; omega)]
end
section
/-! reading what was written -/
theorem si_s (h : tr_H) (i k : Nat) (v : Int32) : (tr_si h i k v).1 i k = v := by simp [tr_si, tr_sa, upd]
theorem si_n (h : tr_H) (i : Nat) {k j : Nat} (v : Int32) (hj : j ≠ k) : (tr_si h i k v).1 i j = h.1 i j := by simp [tr_si, tr_sa, upd, hj]
theorem si_c (h : tr_H) {i a : Nat} (k : Nat) (v : Int32) (ha : a ≠ i) : (tr_si h i k v).1 a = h.1 a := by simp [tr_si, tr_sa, ha]
theorem si_2 (h : tr_H) (i k : Nat) (v : Int32) : (tr_si h i k v).2 = h.2 := rfl
theorem sl_s (h : tr_H) (i k : Nat) (v : Int64) : (tr_sl h i k v).2 i k = v := by simp [tr_sl, tr_sb, vp_updL]
theorem sl_n (h : tr_H) (i : Nat) {k j : Nat} (v : Int64) (hj : j ≠ k) : (tr_sl h i k v).2 i j = h.2 i j := by simp [tr_sl, tr_sb, vp_updL, hj]
theorem sl_c (h : tr_H) {i a : Nat} (k : Nat) (v : Int64) (ha : a ≠ i) : (tr_sl h i k v).2 a = h.2 a := by simp [tr_sl, tr_sb, ha]
theorem sl_1 (h : tr_H) (i k : Nat) (v : Int64) : (tr_sl h i k v).1 = h.1 := rfl
theorem mC_rf (h : tr_H) : mC h h := ⟨fun _ _ => rfl, fun _ _ _ _ _ => rfl, fun _ _ _ => rfl⟩
theorem mC_tr {a b c : tr_H} (h1 : mC a b) (h2 : mC b c) : mC a c := ⟨fun k hk => (h2.1 k hk).trans (h1.1 k hk), fun k a1 a2 a3 a4 => (h2.2.1 k a1 a2 a3 a4).trans (h1.2.1 k a1 a2 a3 a4), fun x k hk => (h2.2.2 x k hk).trans (h1.2.2 x k hk)⟩
theorem mC_si (h : tr_H) {k : Nat} (v : Int32) (hk : k = 17 ∨ k = 18 ∨ k = 19 ∨ k = 21) : mC h (tr_si h 0 k v) :=
  ⟨fun c hc => si_c h k v hc, fun j h1 h2 h3 h4 => si_n h 0 v (by omega), fun _ _ _ => rfl⟩
theorem mC_sl (h : tr_H) {k : Nat} (v : Int64) (hk : k = 20 ∨ k = 22) : mC h (tr_sl h 0 k v) := by
  refine ⟨fun _ _ => rfl, fun _ _ _ _ _ => rfl, fun c j hj => ?_⟩
  by_cases hc : c = 0
  · subst hc
    exact sl_n h 0 v (by omega)
  · rw [sl_c h k v hc]
theorem or_bit {a b j : Nat} : (a ||| b).testBit j = true ↔ a.testBit j = true ∨ b.testBit j = true := by
  rw [Nat.testBit_or, Bool.or_eq_true]
theorem r_close {h : tr_H} {p n : Nat} {w : Nat → Int} (hP : tP h p n w) {x : Nat} {b : List Nat} (hr : ring (eP (eB n w)) x b) (hrow : ∀ k, k ≤ b.length → h.1 11 k = iI (gl x b k)) {A : List (Nat × List Nat)} (hF : rF h w A) :
    ∃ h', f_X8_closeRing p (iI (b.length + 1 : Nat)) h = some h' ∧ mC h h' ∧ rF h' w (A ++ [(x, b)]) := by
  have h6 := hP.2.1.2.1
  have hlen := ring_len hr
  obtain ⟨f1, S, B, rwt, cw, cd, f2, f3, f4, f5, f6, f7, f8, f9⟩ := hF
  have hs9 := wsm_9 hP.2.1 _ _ hr.2
  rw [List.length_append, List.length_singleton] at hs9
  have hsm : sm w (x, b) = wsm (wN w) x (b ++ [x]) := rfl
  have hsb : 0 ≤ sm w (x, b) ∧ sm w (x, b) ≤ 60 := by rw [hsm]; omega
  have hE : ∀ k, (itr (fun k a => a ||| 2 ^ (6 * gl x (b ++ [x]) k + gl x (b ++ [x]) (k + 1))) (b.length + 1) 0).testBit k = true ↔ hasE (x, b) k := by
    intro k
    rw [itr_or]
    unfold hasE
    constructor
    · rintro ⟨j, h1, h2⟩
      refine ⟨(gl x (b ++ [x]) j, gl x (b ++ [x]) (j + 1)), ?_, h2⟩
      have := (edg_take x (b ++ [x]) (gl x (b ++ [x]) j, gl x (b ++ [x]) (j + 1)) (b.length + 1) (by simp)).mpr ⟨j, h1, rfl⟩
      rw [List.take_of_length_le (by simp)] at this
      exact this
    · rintro ⟨q, h1, h2⟩
      have := edg_take x (b ++ [x]) q (b.length + 1) (by simp)
      rw [List.take_of_length_le (by simp)] at this
      obtain ⟨j, g1, g2⟩ := this.mp h1
      exact ⟨j, g1, by rw [h2, g2]⟩
  have hV : ∀ k, (itr (fun k a => a ||| 2 ^ gl x b k) (b.length + 1) 0).testBit k = true ↔ k ∈ x :: b := by
    intro k
    rw [itr_or]
    constructor
    · rintro ⟨j, h1, h2⟩
      rw [h2]
      unfold gl
      rw [List.getD_eq_getElem?_getD, List.getElem?_eq_getElem (by simp; omega)]
      exact List.getElem_mem _
    · intro hm
      obtain ⟨j, g1, g2⟩ := List.getElem_of_mem hm
      refine ⟨j, by simpa using g1, ?_⟩
      unfold gl
      rw [List.getD_eq_getElem?_getD, List.getElem?_eq_getElem g1]
      exact g2.symm
  have hloop := r_closeL hP hr hrow
  generalize itr (fun k a => a ||| 2 ^ (6 * gl x (b ++ [x]) k + gl x (b ++ [x]) (k + 1))) (b.length + 1) 0 = es at hloop hE
  generalize itr (fun k a => a ||| 2 ^ gl x b k) (b.length + 1) 0 = vs at hloop hV
  unfold f_X8_closeRing
  rw [hloop, tr_bn_some]
  unfold f_X8_closeRing_E86
  generalize hs : sm w (x, b) = s at hsb
  -- the two first writes
  have w1 : mC h (tr_sl (tr_si h 0 17 (h.1 0 17 + 1)) 0 22 ((tr_si h 0 17 (h.1 0 17 + 1)).2 0 22 ||| lN es)) := mC_tr (mC_si h _ (Or.inl rfl)) (mC_sl _ _ (Or.inr rfl))
  have v17 : (tr_sl (tr_si h 0 17 (h.1 0 17 + 1)) 0 22 ((tr_si h 0 17 (h.1 0 17 + 1)).2 0 22 ||| lN es)).1 0 17 = iI ((A.length + 1 : Nat)) := by
    rw [sl_1, si_s, f1, iI_1, iI_add]; rfl
  have v18 : (tr_sl (tr_si h 0 17 (h.1 0 17 + 1)) 0 22 ((tr_si h 0 17 (h.1 0 17 + 1)).2 0 22 ||| lN es)).1 0 18 = iI S := by
    rw [sl_1, si_n _ _ _ (by decide), f2]
  have v19 : (tr_sl (tr_si h 0 17 (h.1 0 17 + 1)) 0 22 ((tr_si h 0 17 (h.1 0 17 + 1)).2 0 22 ||| lN es)).1 0 19 = iI B := by
    rw [sl_1, si_n _ _ _ (by decide), f3]
  have v21 : (tr_sl (tr_si h 0 17 (h.1 0 17 + 1)) 0 22 ((tr_si h 0 17 (h.1 0 17 + 1)).2 0 22 ||| lN es)).1 0 21 = nI cd := by
    rw [sl_1, si_n _ _ _ (by decide), f5]
  have v20 : (tr_sl (tr_si h 0 17 (h.1 0 17 + 1)) 0 22 ((tr_si h 0 17 (h.1 0 17 + 1)).2 0 22 ||| lN es)).2 0 20 = lN cw := by
    rw [sl_n _ _ _ (by decide), si_2, f4]
  have v22 : (tr_sl (tr_si h 0 17 (h.1 0 17 + 1)) 0 22 ((tr_si h 0 17 (h.1 0 17 + 1)).2 0 22 ||| lN es)).2 0 22 = lN (rwt ||| es) := by
    rw [sl_s, si_2, f6, lN_or]
  unfold tr_bd
  dsimp only
  generalize tr_sl (tr_si h 0 17 (h.1 0 17 + 1)) 0 22 ((tr_si h 0 17 (h.1 0 17 + 1)).2 0 22 ||| lN es) = h5 at w1 v17 v18 v19 v20 v21 v22
  have hrw : ∀ k, (rwt ||| es).testBit k = true ↔ ∃ q ∈ A ++ [(x, b)], hasE q k := by
    intro k
    rw [or_bit, f8, hE, mem_snoc]
  have hmB : ((b.length + 1 : Nat) : Int) ≤ 6 := by omega
  -- a ring that is slower than all ahead of it
  have more : (∀ q ∈ A, sm w q * ((b.length + 1 : Nat) : Int) < s * (q.2.length + 1 : Nat)) → ∃ h', f_X8_closeRing_J129 (iI s) (iI (b.length + 1 : Nat)) (lN es) (nI vs) h5 = some h' ∧ mC h h' ∧ rF h' w (A ++ [(x, b)]) := by
    intro hA
    unfold f_X8_closeRing_J129 f_X8_closeRing_J134
    rw [if_neg (show ¬ (1 : Int32) = 0 by decide)]
    unfold f_X8_closeRing_J161 tr_bd
    dsimp only
    rw [if_neg (show ¬ (1 : Int32) = 0 by decide)]
    refine ⟨_, rfl, ?_, ?_⟩
    · refine mC_tr ?_ (mC_si _ _ (by omega))
      refine mC_tr ?_ (mC_sl _ _ (by omega))
      refine mC_tr ?_ (mC_si _ _ (by omega))
      refine mC_tr ?_ (mC_sl _ _ (by omega))
      refine mC_tr ?_ (mC_si _ _ (by omega))
      exact mC_tr w1 (mC_si _ _ (by omega))
    · refine ⟨?_, s, ((b.length + 1 : Nat) : Int), rwt ||| es, es, vs, ?_, ?_, ?_, ?_, ?_, ⟨hsb.1, hsb.2, by omega, hmB⟩, hrw, Or.inr ⟨by omega, ⟨(x, b), by simp, hs, rfl⟩, ?_, ?_, ?_⟩⟩
      · simp (disch := decide) only [si_s, si_n, si_c, si_2, sl_s, sl_n, sl_c, sl_1, v17]
        simp
      · simp (disch := decide) only [si_s, si_n, si_c, si_2, sl_s, sl_n, sl_c, sl_1]
      · simp (disch := decide) only [si_s, si_n, si_c, si_2, sl_s, sl_n, sl_c, sl_1]
      · simp (disch := decide) only [si_s, si_n, si_c, si_2, sl_s, sl_n, sl_c, sl_1]
        rw [show (0 : Int64) = lN 0 from rfl, lN_or, Nat.zero_or]
      · simp (disch := decide) only [si_s, si_n, si_c, si_2, sl_s, sl_n, sl_c, sl_1]
        rw [show (0 : Int32) = nI 0 from rfl, nI_or, Nat.zero_or]
      · simp (disch := decide) only [si_s, si_n, si_c, si_2, sl_s, sl_n, sl_c, sl_1, v22]
      · intro q hq
        rcases List.mem_append.mp hq with hq | hq
        · exact Int.le_of_lt (hA q hq)
        · rw [List.mem_singleton] at hq; subst hq; rw [hs]; exact Int.le_refl _
      · intro k
        rw [hE, mem_snoc]
        constructor
        · intro h; exact Or.inr ⟨by rw [hs], h⟩
        · rintro (⟨q, q1, q2, q3⟩ | h)
          · have := hA q q1; omega
          · exact h.2
      · intro k
        rw [hV, mem_snoc]
        constructor
        · intro h; exact Or.inr ⟨by rw [hs], h⟩
        · rintro (⟨q, q1, q2, q3⟩ | h)
          · have := hA q q1; omega
          · exact h.2
  rw [v19]
  rcases f9 with ⟨g1, g2, g3, g4⟩ | ⟨g1, g2, g3, g4, g5⟩
  · rw [if_pos (by rw [g2]; rfl)]
    exact more (fun q hq => by rw [g1] at hq; cases hq)
  · have m1 : 0 ≤ s * B := Int.mul_nonneg hsb.1 (by omega)
    have m2 : s * B ≤ 60 * 6 := Int.mul_le_mul hsb.2 f7.2.2.2 (by omega) (by omega)
    have m3 : 0 ≤ S * ((b.length + 1 : Nat) : Int) := Int.mul_nonneg f7.1 (by omega)
    have m4 : S * ((b.length + 1 : Nat) : Int) ≤ 60 * 6 := Int.mul_le_mul f7.2.1 hmB (by omega) (by omega)
    rw [if_neg (by rw [iI_0, iI_eq (by omega) (by omega) (by omega) (by omega)]; omega), v18, iI_mul, iI_mul]
    by_cases c : s * B ≤ S * ((b.length + 1 : Nat) : Int)
    · rw [if_pos (by rw [iI_le (by omega) (by omega) (by omega) (by omega)]; exact c)]
      unfold f_X8_closeRing_J134
      rw [if_pos rfl]
      unfold f_X8_closeRing_J161
      rw [if_pos rfl, v19, v18, iI_mul, iI_mul]
      by_cases c2 : s * B = S * ((b.length + 1 : Nat) : Int)
      · rw [if_pos (by rw [c2])]
        unfold tr_bd
        dsimp only
        refine ⟨_, rfl, mC_tr (mC_tr w1 (mC_sl _ _ (by omega))) (mC_si _ _ (by omega)), ?_⟩
        refine ⟨?_, S, B, rwt ||| es, cw ||| es, cd ||| vs, ?_, ?_, ?_, ?_, ?_, f7, hrw, Or.inr ⟨g1, ?_, ?_, ?_, ?_⟩⟩
        · simp (disch := decide) only [si_s, si_n, si_c, si_2, sl_s, sl_n, sl_c, sl_1, v17]
          simp
        · simp (disch := decide) only [si_s, si_n, si_c, si_2, sl_s, sl_n, sl_c, sl_1, v18]
        · simp (disch := decide) only [si_s, si_n, si_c, si_2, sl_s, sl_n, sl_c, sl_1, v19]
        · simp (disch := decide) only [si_s, si_n, si_c, si_2, sl_s, sl_n, sl_c, sl_1, v20, lN_or]
        · simp (disch := decide) only [si_s, si_n, si_c, si_2, sl_s, sl_n, sl_c, sl_1, v21, nI_or]
        · simp (disch := decide) only [si_s, si_n, si_c, si_2, sl_s, sl_n, sl_c, sl_1, v22]
        · obtain ⟨q, q1, q2⟩ := g2
          exact ⟨q, by simp [q1], q2⟩
        · intro q hq
          rcases List.mem_append.mp hq with hq | hq
          · exact g3 q hq
          · rw [List.mem_singleton] at hq; subst hq; rw [hs]; exact c
        · intro k
          rw [or_bit, g4, hE, mem_snoc]
          constructor
          · rintro (h | h)
            · exact Or.inl h
            · exact Or.inr ⟨by rw [hs]; exact c2, h⟩
          · rintro (h | h)
            · exact Or.inl h
            · exact Or.inr h.2
        · intro k
          rw [or_bit, g5, hV, mem_snoc]
          constructor
          · rintro (h | h)
            · exact Or.inl h
            · exact Or.inr ⟨by rw [hs]; exact c2, h⟩
          · rintro (h | h)
            · exact Or.inl h
            · exact Or.inr h.2
      · rw [if_neg (by rw [iI_eq (by omega) (by omega) (by omega) (by omega)]; exact c2)]
        refine ⟨h5, rfl, w1, by rw [v17]; simp, S, B, rwt ||| es, cw, cd, v18, v19, v20, v21, v22, f7, hrw, Or.inr ⟨g1, ?_, ?_, ?_, ?_⟩⟩
        · obtain ⟨q, q1, q2⟩ := g2
          exact ⟨q, by simp [q1], q2⟩
        · intro q hq
          rcases List.mem_append.mp hq with hq | hq
          · exact g3 q hq
          · rw [List.mem_singleton] at hq; subst hq; rw [hs]; exact c
        · intro k
          rw [g4, mem_snoc]
          constructor
          · intro h; exact Or.inl h
          · rintro (h | h)
            · exact h
            · rw [hs] at h; exact absurd h.1 c2
        · intro k
          rw [g5, mem_snoc]
          constructor
          · intro h; exact Or.inl h
          · rintro (h | h)
            · exact h
            · rw [hs] at h; exact absurd h.1 c2
    · rw [if_neg (by rw [iI_le (by omega) (by omega) (by omega) (by omega)]; exact c)]
      refine more (fun q hq => ?_)
      -- sm q * B ≤ S * lq and S * m < s * B, so sm q * m < s * lq
      have k1 := g3 q hq
      have k2 : (0 : Int) < (q.2.length + 1 : Nat) := by omega
      have k3 : S * ((b.length + 1 : Nat) : Int) < s * B := by omega
      have k4 : sm w q * B * ((b.length + 1 : Nat) : Int) ≤ S * (q.2.length + 1 : Nat) * ((b.length + 1 : Nat) : Int) := Int.mul_le_mul_of_nonneg_right k1 (by omega)
      have k5 : S * ((b.length + 1 : Nat) : Int) * (q.2.length + 1 : Nat) < s * B * (q.2.length + 1 : Nat) := Int.mul_lt_mul_of_pos_right k3 k2
      have k6 : sm w q * ((b.length + 1 : Nat) : Int) * B < s * (q.2.length + 1 : Nat) * B := by
        have e1 : sm w q * ((b.length + 1 : Nat) : Int) * B = sm w q * B * ((b.length + 1 : Nat) : Int) := by rw [Int.mul_assoc, Int.mul_comm _ B, ← Int.mul_assoc]
        have e2 : s * (q.2.length + 1 : Nat) * B = s * B * (q.2.length + 1 : Nat) := by rw [Int.mul_assoc, Int.mul_comm _ B, ← Int.mul_assoc]
        have e3 : S * ((b.length + 1 : Nat) : Int) * (q.2.length + 1 : Nat) = S * (q.2.length + 1 : Nat) * ((b.length + 1 : Nat) : Int) := by rw [Int.mul_assoc, Int.mul_comm ((b.length + 1 : Nat) : Int), ← Int.mul_assoc]
        rw [e1, e2]
        omega
      exact Int.lt_of_mul_lt_mul_right k6 (by omega)
end
section
/-! the reference goes through all rings -/
def mR (h h' : tr_H) : Prop := (∀ c, c ≠ 0 → c ≠ 11 → c ≠ 12 → h'.1 c = h.1 c) ∧ (∀ k, k ≠ 17 → k ≠ 18 → k ≠ 19 → k ≠ 21 → h'.1 0 k = h.1 0 k) ∧ ∀ c k, ¬ (c = 0 ∧ (k = 20 ∨ k = 22)) → h'.2 c k = h.2 c k
theorem mR_rf (h : tr_H) : mR h h := ⟨fun _ _ _ _ => rfl, fun _ _ _ _ _ => rfl, fun _ _ _ => rfl⟩
theorem mR_tr {a b c : tr_H} (h1 : mR a b) (h2 : mR b c) : mR a c := ⟨fun k q1 q2 q3 => (h2.1 k q1 q2 q3).trans (h1.1 k q1 q2 q3), fun k a1 a2 a3 a4 => (h2.2.1 k a1 a2 a3 a4).trans (h1.2.1 k a1 a2 a3 a4), fun x k hk => (h2.2.2 x k hk).trans (h1.2.2 x k hk)⟩
theorem mC_R {a b : tr_H} (h : mC a b) : mR a b := ⟨fun k q1 _ _ => h.1 k q1, h.2.1, h.2.2⟩
theorem mR_si (h : tr_H) {c : Nat} (k : Nat) (v : Int32) (hc : c = 11 ∨ c = 12) : mR h (tr_si h c k v) :=
  ⟨fun a _ h2 h3 => si_c h k v (by omega), fun j _ _ _ _ => by rw [si_c h k v (by omega)], fun _ _ _ => rfl⟩
theorem tP_R {h h' : tr_H} {p n : Nat} {w : Nat → Int} (hR : mR h h') (hP : tP h p n w) : tP h' p n w := by
  obtain ⟨h1, h2, h3, h4⟩ := hP
  have e : h'.1 p = h.1 p := hR.1 p (by unfold pagI at h1; omega) (by unfold pagI at h1; omega) (by unfold pagI at h1; omega)
  exact ⟨h1, h2, by rw [e]; exact h3, fun c hc => by rw [e]; exact h4 c hc⟩
theorem rF_c {h h' : tr_H} {w : Nat → Int} {A : List (Nat × List Nat)} (e1 : h'.1 0 = h.1 0) (e2 : h'.2 = h.2) (hF : rF h w A) : rF h' w A := by
  unfold rF at hF ⊢
  rw [e1, e2]
  exact hF
theorem gl_snoc {x t : Nat} {b : List Nat} {k : Nat} (hk : k ≤ b.length) : gl x (b ++ [t]) k = gl x b k := by
  unfold gl
  rw [show x :: (b ++ [t]) = (x :: b) ++ [t] from rfl, List.getD_eq_getElem?_getD, List.getD_eq_getElem?_getD, List.getElem?_append_left (by simp; omega)]
theorem gl_last {x t : Nat} {b : List Nat} : gl x (b ++ [t]) (b.length + 1) = t := by
  rw [gl_s _ _ _ (by simp)]
  simp
theorem gl_la (x : Nat) (b : List Nat) : gl x b b.length = la x b := by
  have := la_take x b b.length (Nat.le_refl _)
  rw [List.take_of_length_le (Nat.le_refl _)] at this
  exact this.symm
theorem gl_mem {x : Nat} {b : List Nat} {k : Nat} (hk : k ≤ b.length) : gl x b k ∈ x :: b := by
  unfold gl
  rw [List.getD_eq_getElem?_getD, List.getElem?_eq_getElem (by simp; omega)]
  exact List.getElem_mem _
theorem mem_gl {x : Nat} {b : List Nat} {y : Nat} (h : y ∈ x :: b) : ∃ k, k ≤ b.length ∧ y = gl x b k := by
  obtain ⟨j, g1, g2⟩ := List.getElem_of_mem h
  refine ⟨j, by simp at g1; omega, ?_⟩
  unfold gl
  rw [List.getD_eq_getElem?_getD, List.getElem?_eq_getElem g1]
  exact g2.symm
theorem mem_take_s {x t : Nat} {b : List Nat} {m : Nat} (hm : m ≤ b.length) : t ∈ (x :: b).take (m + 1) ↔ t ∈ (x :: b).take m ∨ t = gl x b m := by
  rw [List.take_succ, List.getElem?_eq_getElem (by simp; omega), List.mem_append]
  have e : gl x b m = (x :: b)[m]'(by simp; omega) := by
    unfold gl
    rw [List.getD_eq_getElem?_getD, List.getElem?_eq_getElem (by simp; omega)]
    rfl
  rw [e]
  simp
theorem r_isIn {h : tr_H} {x : Nat} {b : List Nat} {t : Nat} (hb : b.length + 1 ≤ 6) (hl : ∀ y ∈ x :: b, y < 6) (ht : t < 6) (hrow : ∀ k, k ≤ b.length → h.1 11 k = iI (gl x b k)) : f_X8_isIn (iI (b.length + 1 : Nat)) (iI t) h = some (if t ∈ x :: b then 1 else 0) := by
  unfold f_X8_isIn
  have key := tr_seq (f := fun q => f_X8_isIn_L5 (iI (b.length + 1 : Nat)) h (iI t) q.1 q.2) (fun m => ((if t ∈ (x :: b).take m then (1 : Int32) else 0), iI m)) (lo := 0) (hi := b.length + 1) (r := if t ∈ x :: b then (1 : Int32) else 0) (by omega) ?_ ?_
  · rw [show ((0 : Int32), (0 : Int32)) = ((if t ∈ (x :: b).take 0 then (1 : Int32) else 0), iI (0 : Nat)) from by simp; rfl, key, tr_bn_some]
    unfold f_X8_isIn_E35 tr_zb
    by_cases c : t ∈ x :: b
    · rw [if_pos c]; rfl
    · rw [if_neg c]; rfl
  · intro m _ hm
    have a1 := hrow m (by omega)
    have a2 := hl _ (gl_mem (x := x) (b := b) (k := m) (by omega))
    have a3 := mem_take_s (x := x) (t := t) (b := b) (m := m) (by omega)
    show f_X8_isIn_L5 (iI (b.length + 1 : Nat)) h (iI t) _ (iI m) = some (.inl (_, iI ((m + 1 : Nat))))
    unfold f_X8_isIn_L5
    by_cases c : t ∈ (x :: b).take m
    · rw [if_pos c, if_pos (a3.mpr (Or.inl c))]
      simp (disch := omega) only [iI_0, iI_1, iI_2, iI_3, iI_4, iI_5, iI_6, iI_7, iI_8, iI_9, iI_10, iI_11, iI_12, iI_14, iI_20, iI_30, iI_31, iI_36, iI_37, iI_40, iI_48, iI_60, iI_63, iI_64, iI_78, iI_100, iI_255, iI_481, iI_1000000, iI_m1, iI_m2, iI_m3, iI_m4, iI_m9, iI_m1000000, iI_add, iI_sub, iI_mul, iI_neg, iI_lt, iI_le, iI_eq, iI_cl, tr_bd, tr_bn_some, tr_b2_some, tr_gdI, tr_nzI, if_pos, if_neg, ↓reduceIte]
      rfl
    · by_cases e : gl x b m = t
      · rw [if_neg c, if_pos (a3.mpr (Or.inr e.symm))]
        simp (disch := omega) only [iI_0, iI_1, iI_2, iI_3, iI_4, iI_5, iI_6, iI_7, iI_8, iI_9, iI_10, iI_11, iI_12, iI_14, iI_20, iI_30, iI_31, iI_36, iI_37, iI_40, iI_48, iI_60, iI_63, iI_64, iI_78, iI_100, iI_255, iI_481, iI_1000000, iI_m1, iI_m2, iI_m3, iI_m4, iI_m9, iI_m1000000, iI_add, iI_sub, iI_mul, iI_neg, iI_lt, iI_le, iI_eq, iI_cl, tr_bd, tr_bn_some, tr_b2_some, tr_gdI, tr_nzI, if_pos, if_neg, ↓reduceIte, Int.toNat_natCast, a1, e]
        rfl
      · have c2 : ¬ t ∈ (x :: b).take (m + 1) := fun q => by
          rcases a3.mp q with q | q
          · exact c q
          · exact e q.symm
        rw [if_neg c, if_neg c2]
        have e2 : ¬ ((gl x b m : Nat) : Int) = ((t : Nat) : Int) := by omega
        simp (disch := omega) only [iI_0, iI_1, iI_2, iI_3, iI_4, iI_5, iI_6, iI_7, iI_8, iI_9, iI_10, iI_11, iI_12, iI_14, iI_20, iI_30, iI_31, iI_36, iI_37, iI_40, iI_48, iI_60, iI_63, iI_64, iI_78, iI_100, iI_255, iI_481, iI_1000000, iI_m1, iI_m2, iI_m3, iI_m4, iI_m9, iI_m1000000, iI_add, iI_sub, iI_mul, iI_neg, iI_lt, iI_le, iI_eq, iI_cl, tr_bd, tr_bn_some, tr_b2_some, tr_gdI, tr_nzI, if_pos, if_neg, ↓reduceIte, Int.toNat_natCast, a1]
        rfl
  · show f_X8_isIn_L5 (iI (b.length + 1 : Nat)) h (iI t) _ (iI (b.length + 1 : Nat)) = _
    unfold f_X8_isIn_L5
    rw [if_pos (by rw [iI_le (by omega) (by omega) (by omega) (by omega)]; omega), List.take_of_length_le (by simp)]
/-- what a departure tried next gives -/
def dbd (e : Nat → Nat → Bool) (n x : Nat) (som : Nat → Bool) (f : Nat) (b : List Nat) (t : Nat) : List (List Nat) := if t = x ∧ e (la x b) t = true then [b] else if e (la x b) t = true ∧ som t = true ∧ t ∉ x :: b then dfs e n x som f (b ++ [t]) else []
theorem dfs_bd (e : Nat → Nat → Bool) (n x : Nat) (som : Nat → Bool) (f : Nat) (b : List Nat) : dfs e n x som (f + 1) b = (List.range' x (n - x)).flatMap (dbd e n x som f b) := rfl
theorem chn_mem_lt {n : Nat} {w : Nat → Int} {x : Nat} {b : List Nat} (hx : x < n) (hc : chn (eP (eB n w)) x b) : ∀ y ∈ x :: b, y < n := by
  intro y hy
  rcases List.mem_cons.mp hy with q | q
  · subst q; exact hx
  · exact chn_lt eB_b _ _ hc _ q
/-- one level of the search, from a departure on -/
theorem r_sub {p n mask : Nat} {w : Nat → Int} {x : Nat} (hmask : mask < 64) (hx : x < n) (hn : n ≤ 6) : ∀ (f : Nat) (b : List Nat), (x :: b).Nodup → chn (eP (eB n w)) x b → b.length + (f + 1) = n → ∀ (d t : Nat), t + d = n → x ≤ t → ∀ (h : tr_H) (A : List (Nat × List Nat)), tP h p n w → (∀ k, k ≤ b.length → h.1 11 k = iI (gl x b k)) → h.1 12 b.length = iI t → rF h w A →
    ∃ h', tr_lp (fun q => f_X8_ringsFrom_L17 p (iI x) (iI mask) q.1 q.2) (iI (b.length + 1 : Nat), h) = tr_lp (fun q => f_X8_ringsFrom_L17 p (iI x) (iI mask) q.1 q.2) (iI b.length, h') ∧ mR h h' ∧ (∀ k, k ≤ b.length → h'.1 11 k = h.1 11 k) ∧ (∀ k, k < b.length → h'.1 12 k = h.1 12 k) ∧ rF h' w (A ++ ((List.range' t d).flatMap (dbd (eB n w) n x (fun k => mask.testBit k) f b)).map (fun c => (x, c))) := by
  intro f
  induction f using Nat.strongRecOn with
  | ind f ihf =>
  intro b hnd hch hlen d
  have hltn := chn_mem_lt hx hch
  have hlt6 : ∀ y ∈ x :: b, y < 6 := fun y hy => by have := hltn y hy; omega
  have hla : la x b < 6 := hlt6 _ (la_mem x b)
  induction d with
  | zero =>
    intro t ht hxt h A hP hrow hnext hF
    obtain rfl : t = n := by omega
    have r1 := hrow b.length (Nat.le_refl _)
    have hp0 : h.1 p 0 = iI t := hP.2.2.1
    have hp12 : p ≠ 12 := by have := hP.1; unfold pagI at this; omega
    refine ⟨tr_si h 12 b.length (iI t + 1), tr_lp_go ?_, mR_si _ _ _ (Or.inr rfl), fun k _ => by rw [si_c _ _ _ (by decide)], fun k hk => si_n _ _ _ (by omega), ?_⟩
    · show f_X8_ringsFrom_L17 p (iI x) (iI mask) (iI (b.length + 1 : Nat)) h = _
      unfold f_X8_ringsFrom_L17
      have e1 : ((b.length + 1 : Nat) : Int) - 1 = (b.length : Int) := by omega
      have e0 : (0 : Int32).toNatClampNeg = 0 := rfl
      rw [e0]
      have e2 : (tr_si h 12 b.length (iI t + 1)).1 p 0 = iI t := by rw [si_c _ _ _ hp12]; exact hp0
      rw [if_neg (by rw [iI_0, iI_le (by omega) (by omega) (by omega) (by omega)]; omega), iI_1, iI_sub, e1]
      simp (disch := omega) only [tr_bd, tr_gdI, iI_cl, Int.toNat_natCast, hnext]
      rw [← iI_1, e2, if_neg (by rw [iI_lt (by omega) (by omega) (by omega) (by omega)]; omega), iI_m1, iI_add]
      congr 4
    · simp only [List.range'_zero, List.flatMap_nil, List.map_nil, List.append_nil]
      exact rF_c (si_c _ _ _ (by decide)) rfl hF
  | succ d ihd =>
    intro t ht hxt h A hP hrow hnext hF
    have r1 := hrow b.length (Nat.le_refl _)
    rw [gl_la] at r1
    have hp0 : h.1 p 0 = iI n := hP.2.2.1
    have hp12 : p ≠ 12 := by have := hP.1; unfold pagI at this; omega
    -- the pointer goes on
    obtain ⟨h1, e1⟩ : ∃ h1, h1 = tr_si h 12 b.length (iI (t + 1 : Nat)) := ⟨_, rfl⟩
    have m1 : mR h h1 := by rw [e1]; exact mR_si _ _ _ (Or.inr rfl)
    have p1 : tP h1 p n w := tP_R m1 hP
    have q1 : h1.1 11 = h.1 11 := by rw [e1]; exact si_c _ _ _ (by decide)
    have q2 : h1.1 12 b.length = iI (t + 1 : Nat) := by rw [e1]; exact si_s _ _ _ _
    have q3 : ∀ k, k < b.length → h1.1 12 k = h.1 12 k := fun k hk => by rw [e1]; exact si_n _ _ _ (by omega)
    have f1 : rF h1 w A := by rw [e1]; exact rF_c (si_c _ _ _ (by decide)) rfl hF
    have hstep : ∀ X, f_X8_ringsFrom_L17 p (iI x) (iI mask) (iI (b.length + 1 : Nat)) h = X ↔ (if iI t = iI x then (tr_bn (f_X8_isThere p (iI (la x b)) (iI t) h1) fun tv34 => if tv34 = 0 then f_X8_ringsFrom_J98 p (iI (la x b)) (iI t) h1 (iI (b.length + 1 : Nat)) (iI mask) (iI x) else tr_bn (f_X8_closeRing p (iI (b.length + 1 : Nat)) h1) fun th37 => some (.inl (iI (b.length + 1 : Nat), th37))) else f_X8_ringsFrom_J98 p (iI (la x b)) (iI t) h1 (iI (b.length + 1 : Nat)) (iI mask) (iI x)) = X := by
      intro X
      unfold f_X8_ringsFrom_L17
      have e2 : ((b.length + 1 : Nat) : Int) - 1 = (b.length : Int) := by omega
      have e0 : (0 : Int32).toNatClampNeg = 0 := rfl
      have e3 : (tr_si h 12 b.length (iI t + 1)) = h1 := by rw [e1, iI_1, iI_add]; rfl
      have e4 : h1.1 p 0 = iI n := p1.2.2.1
      rw [e0, if_neg (by rw [iI_0, iI_le (by omega) (by omega) (by omega) (by omega)]; omega), iI_1, iI_sub, e2]
      simp (disch := omega) only [tr_bd, tr_gdI, iI_cl, Int.toNat_natCast, hnext, r1]
      rw [← iI_1, e3, e4, if_pos (by rw [iI_lt (by omega) (by omega) (by omega) (by omega)]; omega)]
    have hth := r_isThere p1 (i := la x b) (j := t) hla (by omega)
    have hed : eB n w (la x b) t = true ↔ w (6 * la x b + t) ≠ -9 := by
      have : la x b < n := hltn _ (la_mem x b)
      simp [eB]
      omega
    -- how the rest is split
    have hsplit : List.range' t (d + 1) = t :: List.range' (t + 1) d := List.range'_succ ..
    rw [hsplit, List.flatMap_cons, List.map_append, ← List.append_assoc]
    -- going on with the next departure, whatever this one gave
    have hgo : ∀ (h2 : tr_H) (A2 : List (Nat × List Nat)), mR h h2 → (∀ k, k ≤ b.length → h2.1 11 k = h.1 11 k) → (∀ k, k < b.length → h2.1 12 k = h.1 12 k) → h2.1 12 b.length = iI (t + 1 : Nat) → rF h2 w A2 → ∃ h', tr_lp (fun q => f_X8_ringsFrom_L17 p (iI x) (iI mask) q.1 q.2) (iI (b.length + 1 : Nat), h2) = tr_lp (fun q => f_X8_ringsFrom_L17 p (iI x) (iI mask) q.1 q.2) (iI b.length, h') ∧ mR h h' ∧ (∀ k, k ≤ b.length → h'.1 11 k = h.1 11 k) ∧ (∀ k, k < b.length → h'.1 12 k = h.1 12 k) ∧ rF h' w (A2 ++ ((List.range' (t + 1) d).flatMap (dbd (eB n w) n x (fun k => mask.testBit k) f b)).map (fun c => (x, c))) := by
      intro h2 A2 g1 g2 g3 g4 g5
      obtain ⟨h', k1, k2, k3, k4, k5⟩ := ihd (t + 1) (by omega) (by omega) h2 A2 (tP_R g1 hP) (fun k hk => by rw [g2 k hk]; exact hrow k hk) g4 g5
      exact ⟨h', k1, mR_tr g1 k2, fun k hk => (k3 k hk).trans (g2 k hk), fun k hk => (k4 k hk).trans (g3 k hk), k5⟩
    -- what follows where no ring is closed
    have hJ : (¬ (t = x ∧ eB n w (la x b) t = true)) → f_X8_ringsFrom_L17 p (iI x) (iI mask) (iI (b.length + 1 : Nat)) h = f_X8_ringsFrom_J98 p (iI (la x b)) (iI t) h1 (iI (b.length + 1 : Nat)) (iI mask) (iI x) → ∃ h', tr_lp (fun q => f_X8_ringsFrom_L17 p (iI x) (iI mask) q.1 q.2) (iI (b.length + 1 : Nat), h) = tr_lp (fun q => f_X8_ringsFrom_L17 p (iI x) (iI mask) q.1 q.2) (iI b.length, h') ∧ mR h h' ∧ (∀ k, k ≤ b.length → h'.1 11 k = h.1 11 k) ∧ (∀ k, k < b.length → h'.1 12 k = h.1 12 k) ∧ rF h' w (A ++ (dbd (eB n w) n x (fun k => mask.testBit k) f b t).map (fun c => (x, c)) ++ ((List.range' (t + 1) d).flatMap (dbd (eB n w) n x (fun k => mask.testBit k) f b)).map (fun c => (x, c))) := by
      intro hno hL
      unfold dbd
      rw [if_neg hno]
      have hb6 : b.length + 1 ≤ 6 := by omega
      have hin := r_isIn (h := h1) (x := x) (b := b) (t := t) hb6 hlt6 (by omega) (fun k hk => by rw [q1]; exact hrow k hk)
      have hhas := r_has hmask (k := t) (by omega)
      by_cases c1 : eB n w (la x b) t = true ∧ mask.testBit t = true ∧ t ∉ x :: b
      · rw [if_pos c1]
        have hw9 := hed.mp c1.1
        have hnd2 : (x :: (b ++ [t])).Nodup := by
          have : ((x :: b) ++ [t]).Nodup := nodup_snoc.mpr ⟨hnd, c1.2.2⟩
          simpa using this
        have hch2 : chn (eP (eB n w)) x (b ++ [t]) := by
          rw [chn_app]
          exact ⟨hch, c1.1, trivial⟩
        have hle := nodup_lt n _ hnd2 (chn_mem_lt hx hch2)
        simp only [List.length_cons, List.length_append, List.length_nil] at hle
        obtain ⟨f', rfl⟩ : ∃ f', f = f' + 1 := ⟨f - 1, by omega⟩
        obtain ⟨h2, e2⟩ : ∃ h2, h2 = tr_si (tr_si h1 11 (b.length + 1) (iI t)) 12 (b.length + 1) (iI x) := ⟨_, rfl⟩
        have hJ2 : f_X8_ringsFrom_J98 p (iI (la x b)) (iI t) h1 (iI (b.length + 1 : Nat)) (iI mask) (iI x) = some (.inl (iI (b.length + 2 : Nat), h2)) := by
          unfold f_X8_ringsFrom_J98
          rw [hth, if_neg hw9, tr_bn_some, if_neg (show ¬ (1 : Int32) = 0 by decide), hhas, if_pos c1.2.1, tr_bn_some, if_neg (show ¬ (1 : Int32) = 0 by decide), hin, if_neg c1.2.2, tr_bn_some, if_pos rfl]
          have e3 : (((b.length + 1 : Nat) : Int)).toNat = b.length + 1 := by omega
          simp (disch := omega) only [iI_0, iI_1, iI_2, iI_3, iI_4, iI_5, iI_6, iI_7, iI_8, iI_9, iI_10, iI_11, iI_12, iI_14, iI_20, iI_30, iI_31, iI_36, iI_37, iI_40, iI_48, iI_60, iI_63, iI_64, iI_78, iI_100, iI_255, iI_481, iI_1000000, iI_m1, iI_m2, iI_m3, iI_m4, iI_m9, iI_m1000000, iI_add, iI_sub, iI_mul, iI_neg, iI_lt, iI_le, iI_eq, iI_cl, tr_bd, tr_bn_some, tr_b2_some, tr_gdI, tr_nzI, if_pos, if_neg, ↓reduceIte, e3]
          rw [← e2]
          rfl
        rw [tr_lp_go (s' := (iI (b.length + 2 : Nat), h2)) (by show f_X8_ringsFrom_L17 p (iI x) (iI mask) (iI (b.length + 1 : Nat)) h = _; rw [hL, hJ2])]
        have m2 : mR h h2 := by rw [e2]; exact mR_tr (mR_tr m1 (mR_si _ _ _ (Or.inl rfl))) (mR_si _ _ _ (Or.inr rfl))
        have rows2 : ∀ k, k ≤ b.length → h2.1 11 k = h.1 11 k := fun k hk => by rw [e2, si_c _ _ _ (by decide), si_n _ _ _ (by omega), q1]
        have rowt : h2.1 11 (b.length + 1) = iI t := by rw [e2, si_c _ _ _ (by decide), si_s]
        have nx2 : ∀ k, k ≤ b.length → h2.1 12 k = h1.1 12 k := fun k hk => by rw [e2, si_n _ _ _ (by omega), si_c _ _ _ (by decide)]
        have nxt : h2.1 12 (b.length + 1) = iI x := by rw [e2, si_s]
        have f2 : rF h2 w A := by rw [e2]; exact rF_c (by rw [si_c _ _ _ (by decide), si_c _ _ _ (by decide)]) rfl f1
        have hl2 : (b ++ [t]).length = b.length + 1 := by simp
        obtain ⟨h3, k1, k2, k3, k4, k5⟩ := ihf f' (by omega) (b ++ [t]) hnd2 hch2 (by rw [hl2]; omega) (n - x) x (by omega) (Nat.le_refl _) h2 A (tP_R m2 hP) (fun k hk => by
          rw [hl2] at hk
          by_cases ek : k = b.length + 1
          · rw [ek, rowt, gl_last]
          · rw [rows2 k (by omega), gl_snoc (by omega)]; exact hrow k (by omega)) (by rw [hl2]; exact nxt) f2
        rw [hl2] at k1 k3 k4
        rw [show b.length + 2 = b.length + 1 + 1 from rfl, k1]
        rw [← dfs_bd] at k5
        exact hgo h3 _ (mR_tr m2 k2) (fun k hk => by rw [k3 k (by omega)]; exact rows2 k hk) (fun k hk => by rw [k4 k (by omega), nx2 k (by omega)]; exact q3 k hk) (by rw [k4 _ (by omega), nx2 _ (Nat.le_refl _)]; exact q2) k5
      · rw [if_neg c1, List.map_nil, List.append_nil]
        have hJ2 : f_X8_ringsFrom_J98 p (iI (la x b)) (iI t) h1 (iI (b.length + 1 : Nat)) (iI mask) (iI x) = some (.inl (iI (b.length + 1 : Nat), h1)) := by
          unfold f_X8_ringsFrom_J98
          rw [hth, hhas, hin]
          by_cases d1 : w (6 * la x b + t) = -9
          · rw [if_pos d1]; rfl
          · rw [if_neg d1, tr_bn_some, if_neg (show ¬ (1 : Int32) = 0 by decide)]
            by_cases d2 : mask.testBit t = true
            · rw [if_pos d2, tr_bn_some, if_neg (show ¬ (1 : Int32) = 0 by decide)]
              by_cases d3 : t ∈ x :: b
              · rw [if_pos d3]; rfl
              · exact absurd ⟨hed.mpr d1, d2, d3⟩ c1
            · rw [if_neg d2]; rfl
        rw [tr_lp_go (s' := (iI (b.length + 1 : Nat), h1)) (by show f_X8_ringsFrom_L17 p (iI x) (iI mask) (iI (b.length + 1 : Nat)) h = _; rw [hL, hJ2])]
        exact hgo h1 A m1 (fun k _ => by rw [q1]) q3 q2 f1
    by_cases ctx : t = x
    · by_cases ce : eB n w (la x b) t = true
      · -- a ring is closed
        have hring : ring (eP (eB n w)) x b := ⟨hnd, by rw [chn_app]; exact ⟨hch, by have h9 := ce; rw [ctx] at h9; exact h9, trivial⟩⟩
        obtain ⟨h2, c1, c2, c3⟩ := r_close p1 hring (fun k hk => by rw [q1]; exact hrow k hk) f1
        have hL : f_X8_ringsFrom_L17 p (iI x) (iI mask) (iI (b.length + 1 : Nat)) h = some (.inl (iI (b.length + 1 : Nat), h2)) := by
          rw [hstep, if_pos (by rw [ctx]), hth, if_neg (hed.mp ce), tr_bn_some, if_neg (show ¬ (1 : Int32) = 0 by decide), c1]
          rfl
        rw [tr_lp_go (s' := (iI (b.length + 1 : Nat), h2)) hL]
        have hd : dbd (eB n w) n x (fun k => mask.testBit k) f b t = [b] := by unfold dbd; rw [if_pos ⟨ctx, ce⟩]
        rw [hd]
        exact hgo h2 _ (mR_tr m1 (mC_R c2)) (fun k _ => by rw [c2.1 11 (by decide), q1]) (fun k hk => by rw [c2.1 12 (by decide)]; exact q3 k hk) (by rw [c2.1 12 (by decide)]; exact q2) c3
      · refine hJ (fun q => ce q.2) ?_
        rw [hstep, if_pos (by rw [ctx]), hth]
        have d1 : w (6 * la x b + t) = -9 := by
          apply Classical.byContradiction
          intro q
          exact ce (hed.mpr q)
        rw [if_pos d1, tr_bn_some, if_pos rfl]
    · refine hJ (fun q => ctx q.1) ?_
      rw [hstep, if_neg (by rw [iI_eq (by omega) (by omega) (by omega) (by omega)]; omega)]
theorem r_ringsFrom {p n mask : Nat} {w : Nat → Int} {x : Nat} (hmask : mask < 64) (hx : x < n) {h : tr_H} {A : List (Nat × List Nat)} (hP : tP h p n w) (hF : rF h w A) : ∃ h', f_X8_ringsFrom p (iI x) (iI mask) h = some h' ∧ mR h h' ∧ rF h' w (A ++ (dfs (eB n w) n x (fun k => mask.testBit k) n []).map (fun c => (x, c))) := by
  have hn := hP.2.1.2.1
  obtain ⟨h2, e2⟩ : ∃ h2, h2 = tr_si (tr_si h 11 0 (iI x)) 12 0 (iI x) := ⟨_, rfl⟩
  have m2 : mR h h2 := by rw [e2]; exact mR_tr (mR_si _ _ _ (Or.inl rfl)) (mR_si _ _ _ (Or.inr rfl))
  obtain ⟨n', rfl⟩ : ∃ n', n = n' + 1 := ⟨n - 1, by omega⟩
  obtain ⟨h', k1, k2, k3, k4, k5⟩ := r_sub hmask hx hn n' [] (by simp) trivial (by simp) (n' + 1 - x) x (by omega) (Nat.le_refl _) h2 A (tP_R m2 hP) (fun k hk => by
    have : k = 0 := by simpa using hk
    subst this
    rw [e2, si_c _ _ _ (by decide), si_s]
    rfl) (by rw [e2]; exact si_s _ _ _ _) (by rw [e2]; exact rF_c (by rw [si_c _ _ _ (by decide), si_c _ _ _ (by decide)]) rfl hF)
  refine ⟨h', ?_, mR_tr m2 k2, by rw [dfs_bd]; exact k5⟩
  unfold f_X8_ringsFrom
  have e0 : (0 : Int32).toNatClampNeg = 0 := rfl
  rw [e0]
  unfold tr_bd
  dsimp only
  rw [← e2]
  have e1 : ((1 : Int32), h2) = (iI (([] : List Nat).length + 1 : Nat), h2) := rfl
  rw [e1, k1, tr_lp_out (r := h')]
  · rfl
  · rfl
/-- all rings of some departures: the reference's look at a page -/
theorem r_findRings {p n mask : Nat} {w : Nat → Int} (hmask : mask < 64) {h : tr_H} (hP : tP h p n w) : ∃ h', f_X8_findRings p (iI mask) h = some h' ∧ mR h h' ∧ rF h' w (ringsL (eB n w) n (fun k => mask.testBit k)) := by
  have hn := hP.2.1.2.1
  obtain ⟨h6, e6⟩ : ∃ h6, h6 = tr_sl (tr_si (tr_sl (tr_si (tr_si (tr_si h 0 17 0) 0 18 0) 0 19 0) 0 20 0) 0 21 0) 0 22 0 := ⟨_, rfl⟩
  have m6 : mC h h6 := by
    rw [e6]
    refine mC_tr ?_ (mC_sl _ _ (by omega))
    refine mC_tr ?_ (mC_si _ _ (by omega))
    refine mC_tr ?_ (mC_sl _ _ (by omega))
    refine mC_tr ?_ (mC_si _ _ (by omega))
    refine mC_tr ?_ (mC_si _ _ (by omega))
    exact mC_si _ _ (by omega)
  have f6 : rF h6 w [] := by
    refine ⟨?_, 0, 0, 0, 0, 0, ?_, ?_, ?_, ?_, ?_, by omega, by simp, Or.inl ⟨rfl, rfl, rfl, rfl⟩⟩
    · rw [e6]; simp (disch := decide) only [si_s, si_n, si_c, si_2, sl_s, sl_n, sl_c, sl_1]; rfl
    · rw [e6]; simp (disch := decide) only [si_s, si_n, si_c, si_2, sl_s, sl_n, sl_c, sl_1]; rfl
    · rw [e6]; simp (disch := decide) only [si_s, si_n, si_c, si_2, sl_s, sl_n, sl_c, sl_1]; rfl
    · rw [e6]; simp (disch := decide) only [si_s, si_n, si_c, si_2, sl_s, sl_n, sl_c, sl_1]; rfl
    · rw [e6]; simp (disch := decide) only [si_s, si_n, si_c, si_2, sl_s, sl_n, sl_c, sl_1]; rfl
    · rw [e6]; simp (disch := decide) only [si_s, si_n, si_c, si_2, sl_s, sl_n, sl_c, sl_1]; rfl
  have key : ∀ (j d : Nat), d + j = n → ∀ (h1 : tr_H), mR h h1 → rF h1 w ((List.range d).flatMap (fun d => if mask.testBit d = true then (dfs (eB n w) n d (fun k => mask.testBit k) n []).map (fun b => (d, b)) else [])) → ∃ h', tr_lp (fun q => f_X8_findRings_L32 p (iI mask) q.1 q.2) (iI d, h1) = some h' ∧ mR h h' ∧ rF h' w (ringsL (eB n w) n (fun k => mask.testBit k)) := by
    intro j
    induction j with
    | zero =>
      intro d hd h1 m1 f1
      obtain rfl : d = n := by omega
      refine ⟨h1, tr_lp_out ?_, m1, f1⟩
      show f_X8_findRings_L32 p (iI mask) (iI d) h1 = _
      unfold f_X8_findRings_L32
      have e0 : (0 : Int32).toNatClampNeg = 0 := rfl
      rw [e0, (tP_R m1 hP).2.2.1, if_pos (Int32.le_refl _)]
    | succ j ih =>
      intro d hd h1 m1 f1
      have p1 := tP_R m1 hP
      have hhas := r_has hmask (k := d) (by omega)
      by_cases c : mask.testBit d = true
      · obtain ⟨h2, k1, k2, k3⟩ := r_ringsFrom hmask (x := d) (by omega) p1 f1
        have hL : f_X8_findRings_L32 p (iI mask) (iI d) h1 = some (.inl (iI (d + 1 : Nat), h2)) := by
          unfold f_X8_findRings_L32
          have e0 : (0 : Int32).toNatClampNeg = 0 := rfl
          rw [e0, p1.2.2.1, if_neg (by rw [iI_le (by omega) (by omega) (by omega) (by omega)]; omega), hhas, if_pos c, tr_bn_some, if_neg (show ¬ (1 : Int32) = 0 by decide), k1, tr_bn_some]
          unfold tr_bd
          rw [iI_1, iI_add]
          rfl
        rw [tr_lp_go (s' := (iI (d + 1 : Nat), h2)) hL]
        refine ih (d + 1) (by omega) h2 (mR_tr m1 k2) ?_
        rw [List.range_succ, List.flatMap_append, List.flatMap_singleton, if_pos c]
        exact k3
      · have hL : f_X8_findRings_L32 p (iI mask) (iI d) h1 = some (.inl (iI (d + 1 : Nat), h1)) := by
          unfold f_X8_findRings_L32
          have e0 : (0 : Int32).toNatClampNeg = 0 := rfl
          rw [e0, p1.2.2.1, if_neg (by rw [iI_le (by omega) (by omega) (by omega) (by omega)]; omega), hhas, if_neg c, tr_bn_some, if_pos rfl]
          unfold tr_bd
          rw [iI_1, iI_add]
          rfl
        rw [tr_lp_go (s' := (iI (d + 1 : Nat), h1)) hL]
        refine ih (d + 1) (by omega) h1 m1 ?_
        rw [List.range_succ, List.flatMap_append, List.flatMap_singleton, if_neg c, List.append_nil]
        exact f1
  obtain ⟨h', k1, k2, k3⟩ := key n 0 (by omega) h6 (mC_R m6) (by simpa using f6)
  refine ⟨h', ?_, k2, k3⟩
  unfold f_X8_findRings
  unfold tr_bd
  dsimp only
  rw [← e6]
  have e1 : ((0 : Int32), h6) = (iI (0 : Nat), h6) := rfl
  rw [e1, k1]
  rfl
end
section
/-! the pace of some departures -/
def isPace (n : Nat) (w : Nat → Int) (som : Nat → Bool) (P : Int) : Prop :=
  (P = -1 ∧ ∀ x b, ring (eP (eB n w)) x b → ¬ ∀ y ∈ x :: b, som y = true) ∨
  (0 ≤ P ∧ P ≤ 540 ∧ (∀ x b, ring (eP (eB n w)) x b → (∀ y ∈ x :: b, som y = true) → 60 * wsm (wN w) x (b ++ [x]) ≤ P * (b.length + 1 : Nat)) ∧ ∃ x b, ring (eP (eB n w)) x b ∧ (∀ y ∈ x :: b, som y = true) ∧ 60 * wsm (wN w) x (b ++ [x]) = P * (b.length + 1 : Nat))
theorem isPace_one {n : Nat} {w : Nat → Int} {som : Nat → Bool} {P P' : Int} (h : isPace n w som P) (h' : isPace n w som P') : P = P' := by
  rcases h with ⟨h1, h2⟩ | ⟨h1, h2, h3, x, b, h4, h5, h6⟩
  · rcases h' with ⟨g1, g2⟩ | ⟨g1, g2, g3, y, c, g4, g5, g6⟩
    · omega
    · exact absurd g5 (h2 y c g4)
  · rcases h' with ⟨g1, g2⟩ | ⟨g1, g2, g3, y, c, g4, g5, g6⟩
    · exact absurd h5 (g2 x b h4)
    · have k1 := h3 y c g4 g5
      have k2 := g3 x b h4 h5
      rw [g6] at k1
      rw [h6] at k2
      have k3 : P' ≤ P := Int.le_of_mul_le_mul_right k1 (by omega)
      have k4 : P ≤ P' := Int.le_of_mul_le_mul_right k2 (by omega)
      omega
theorem pac_isPace {n : Nat} {w : Nat → Int} (hw : okn n w) {som : Nat → Bool} (hs : ∀ y, y < n → som y = true) : isPace n w som (pac n w) := by
  rcases pac_all hw with ⟨h1, h2⟩ | ⟨h1, h2, h3, x, b, h4, h5⟩
  · exact Or.inl ⟨h1, fun x b h => absurd h (h2 x b)⟩
  · have g := (mem_ringsL.mp h4).1
    exact Or.inr ⟨h1, h2, fun x b h _ => h3 x b h, x, b, g, fun y hy => hs y (ring_lt g y hy), h5⟩
/-- what the reference holds behind its look is the pace -/
theorem rF_pace {h : tr_H} {n : Nat} {w : Nat → Int} (hw : okn n w) {som : Nat → Bool} (hF : rF h w (ringsL (eB n w) n som)) : ∃ (P S B : Int), isPace n w som P ∧ h.1 0 18 = iI S ∧ h.1 0 19 = iI B ∧ ((P = -1 ∧ B = 0) ∨ (0 ≤ P ∧ P ≤ 540 ∧ 1 ≤ B ∧ B ≤ 6 ∧ 0 ≤ S ∧ S ≤ 60 ∧ 60 * S = P * B)) := by
  have h6 := hw.2.1
  obtain ⟨-, S, B, rwt, cw, cd, f2, f3, -, -, -, f7, -, f9⟩ := hF
  rcases f9 with ⟨g1, g2, -, -⟩ | ⟨g1, ⟨⟨x, b⟩, q1, q2, q3⟩, g3, -, -⟩
  · refine ⟨-1, S, B, Or.inl ⟨rfl, fun x b h1 h2 => ?_⟩, f2, f3, Or.inl ⟨rfl, g2⟩⟩
    obtain ⟨x', b', k1, -⟩ := ring_in (n := n) (som := som) h1 (fun y hy => ⟨ring_lt h1 y hy, h2 y hy⟩) (wN w)
    rw [g1] at k1
    cases k1
  · have r := mem_ringsL.mp q1
    obtain ⟨P, p1, p2, p3, x0, b0, p4, p5⟩ := ex_pace hw som ⟨x, b, r.1, fun y hy => (r.2 y hy).2.2⟩
    have r0 := mem_ringsL.mp p4
    have hl := ring_len r.1
    have hl0 := ring_len r0.1
    -- the best that is held has the greatest mean
    have k1 := g3 (x0, b0) p4
    have k2 := p3 x b r.1 (fun y hy => (r.2 y hy).2.2)
    have q2' : wsm (wN w) x (b ++ [x]) = S := q2
    have q3' : ((b.length + 1 : Nat) : Int) = B := q3
    rw [q2', q3'] at k2
    have k1' : wsm (wN w) x0 (b0 ++ [x0]) * B ≤ S * ((b0.length + 1 : Nat) : Int) := k1
    have hm : (0 : Int) < ((b0.length + 1 : Nat) : Int) := by omega
    have k3 : P * B ≤ 60 * S := by
      have e1 : P * ((b0.length + 1 : Nat) : Int) * B ≤ 60 * (S * ((b0.length + 1 : Nat) : Int)) := by
        rw [← p5, Int.mul_assoc]
        exact Int.mul_le_mul_of_nonneg_left k1' (by omega)
      have e2 : P * B * ((b0.length + 1 : Nat) : Int) ≤ 60 * S * ((b0.length + 1 : Nat) : Int) := by
        have a1 : P * B * ((b0.length + 1 : Nat) : Int) = P * ((b0.length + 1 : Nat) : Int) * B := by rw [Int.mul_assoc, Int.mul_comm B, ← Int.mul_assoc]
        rw [a1, Int.mul_assoc 60 S]
        exact e1
      exact Int.le_of_mul_le_mul_right e2 hm
    refine ⟨P, S, B, Or.inr ⟨p1, p2, p3, x0, b0, r0.1, fun y hy => (r0.2 y hy).2.2, p5⟩, f2, f3, Or.inr ⟨p1, p2, g1, f7.2.2.2, f7.1, f7.2.1, by omega⟩⟩
theorem B_mul {B : Int} (h1 : 1 ≤ B) (h2 : B ≤ 6) : 60 / B * B = 60 ∧ 10 ≤ 60 / B ∧ 60 / B ≤ 60 := by
  rcases (show B = 1 ∨ B = 2 ∨ B = 3 ∨ B = 4 ∨ B = 5 ∨ B = 6 by omega) with rfl | rfl | rfl | rfl | rfl | rfl <;> decide
theorem SB_pace {P S B : Int} (h1 : 1 ≤ B) (h2 : B ≤ 6) (h : 60 * S = P * B) : 60 / B * S = P := by
  have e := (B_mul h1 h2).1
  have k : 60 / B * S * B = P * B := by
    rw [Int.mul_assoc, Int.mul_comm S B, ← Int.mul_assoc, e]
    exact h
  exact Int.eq_of_mul_eq_mul_right (by omega) k
theorem r_sixt {p n mask : Nat} {w : Nat → Int} (hmask : mask < 64) {h : tr_H} (hP : tP h p n w) : ∃ (P : Int) (h' : tr_H), f_X8_sixtiethsOf p (iI mask) h = some (iI P, h') ∧ mR h h' ∧ isPace n w (fun k => mask.testBit k) P := by
  obtain ⟨h', k1, k2, k3⟩ := r_findRings hmask hP
  obtain ⟨P, S, B, g1, g2, g3, g4⟩ := rF_pace hP.2.1 k3
  refine ⟨P, h', ?_, k2, g1⟩
  unfold f_X8_sixtiethsOf
  rw [k1, tr_bn_some, g3, g2]
  rcases g4 with ⟨c1, c2⟩ | ⟨c1, c2, c3, c4, c5, c6, c7⟩
  · rw [c1, c2, if_pos (show iI 0 = 0 from rfl)]
    rfl
  · have e1 := SB_pace c3 c4 c7
    have e2 := iI_div (a := 60) (b := B) (by omega) (by omega) (by omega) (by omega)
    rw [if_neg (by rw [iI_0, iI_eq (by omega) (by omega) (by omega) (by omega)]; omega)]
    unfold tr_bd
    dsimp only
    rw [tr_nzI (by omega) (by omega) (by omega), iI_60, e2, iI_mul, e1]
theorem m63 : ∀ y : Nat, y < 6 → (63 : Nat).testBit y = true := by decide
theorem r_find {p n : Nat} {w : Nat → Int} {h : tr_H} (hP : tP h p n w) : ∃ (S B : Int) (h' : tr_H), f_X8_find p h = some h' ∧ mR h h' ∧ rF h' w (ringsL (eB n w) n (fun k => (63 : Nat).testBit k)) ∧ h'.1 0 18 = iI S ∧ h'.1 0 19 = iI B ∧ ((pac n w = -1 ∧ B = 0) ∨ (0 ≤ pac n w ∧ pac n w ≤ 540 ∧ 1 ≤ B ∧ B ≤ 6 ∧ 0 ≤ S ∧ S ≤ 60 ∧ 60 * S = pac n w * B)) := by
  have h6 := hP.2.1.2.1
  obtain ⟨h', k1, k2, k3⟩ := r_findRings (mask := 63) (by decide) hP
  obtain ⟨P, S, B, g1, g2, g3, g4⟩ := rF_pace hP.2.1 k3
  have e := isPace_one g1 (pac_isPace hP.2.1 (fun y hy => m63 y (by omega)))
  rw [e] at g4
  refine ⟨S, B, h', ?_, k2, k3, g2, g3, g4⟩
  unfold f_X8_find
  rw [show (63 : Int32) = iI (63 : Nat) from rfl, k1]
  rfl
theorem r_isPeriod {p n : Nat} {w : Nat → Int} {h : tr_H} (hP : tP h p n w) {d : Int} (d1 : 0 ≤ d) (d2 : d ≤ 100) : ∃ h', f_X8_isPeriod p (iI d) h = some (if pac n w ≤ 60 * d then 1 else 0, h') ∧ mR h h' := by
  obtain ⟨S, B, h', k1, k2, -, g2, g3, g4⟩ := r_find hP
  refine ⟨h', ?_, k2⟩
  unfold f_X8_isPeriod
  rw [k1, tr_bn_some, g3, g2]
  rcases g4 with ⟨c1, c2⟩ | ⟨c1, c2, c3, c4, c5, c6, c7⟩
  · rw [c2, if_pos (show iI 0 = 0 from rfl), if_pos (by omega)]
  · have m1 : 0 ≤ d * B := Int.mul_nonneg d1 (by omega)
    have m2 : d * B ≤ 100 * 6 := Int.mul_le_mul d2 c4 (by omega) (by omega)
    rw [if_neg (by rw [iI_0, iI_eq (by omega) (by omega) (by omega) (by omega)]; omega), iI_mul]
    have e : d * B < S ↔ ¬ pac n w ≤ 60 * d := by
      constructor
      · intro q1 q2
        have : pac n w * B ≤ 60 * d * B := Int.mul_le_mul_of_nonneg_right q2 (by omega)
        rw [← c7, Int.mul_assoc] at this
        omega
      · intro q
        apply Classical.byContradiction
        intro q2
        apply q
        have : pac n w * B ≤ 60 * d * B := by rw [← c7, Int.mul_assoc]; omega
        exact Int.le_of_mul_le_mul_right this (by omega)
    by_cases c : pac n w ≤ 60 * d
    · rw [if_pos c, if_neg (by rw [iI_lt (by omega) (by omega) (by omega) (by omega)]; intro q; exact e.mp q c)]
    · rw [if_neg c, if_pos (by rw [iI_lt (by omega) (by omega) (by omega) (by omega)]; exact e.mpr c)]
end
section
/-! fractions in least terms -/
theorem half_mod {b r : Nat} (h1 : 0 < r) (h2 : r < b) : b % r ≤ b / 2 := by
  by_cases c : r ≤ b / 2
  · have := Nat.mod_lt b h1
    omega
  · have e : b % r = b - r := by
      rw [Nat.mod_eq_sub_mod (by omega), Nat.mod_eq_of_lt (by omega)]
    omega
theorem c_gcd : ∀ (j a b i : Nat), a < 2147483648 → b < 2147483648 → b < 2 ^ j → i + 2 * j + 1 ≤ 64 → tr_lp (fun q => f_X7_commonDivisor_L7 q.1 q.2.1 q.2.2) (iI a, iI b, iI i) = some (iI (Nat.gcd a b)) := by
  intro j
  induction j with
  | zero =>
    intro a b i ha hb hj hi
    obtain rfl : b = 0 := by simpa using hj
    apply tr_lp_out
    show f_X7_commonDivisor_L7 (iI a) (iI (0 : Nat)) (iI i) = _
    unfold f_X7_commonDivisor_L7
    simp (disch := omega) only [iI_0, iI_1, iI_2, iI_3, iI_4, iI_5, iI_6, iI_7, iI_8, iI_9, iI_10, iI_11, iI_12, iI_14, iI_20, iI_30, iI_31, iI_36, iI_37, iI_40, iI_48, iI_60, iI_63, iI_64, iI_78, iI_100, iI_255, iI_481, iI_1000000, iI_m1, iI_m2, iI_m3, iI_m4, iI_m9, iI_m1000000, iI_add, iI_sub, iI_mul, iI_neg, iI_lt, iI_le, iI_eq, iI_cl, tr_bd, tr_bn_some, tr_b2_some, tr_gdI, tr_nzI, if_pos, if_neg, ↓reduceIte]
    simp
  | succ j ih =>
    intro a b i ha hb hj hi
    by_cases hb0 : b = 0
    · subst hb0
      apply tr_lp_out
      show f_X7_commonDivisor_L7 (iI a) (iI (0 : Nat)) (iI i) = _
      unfold f_X7_commonDivisor_L7
      simp (disch := omega) only [iI_0, iI_1, iI_2, iI_3, iI_4, iI_5, iI_6, iI_7, iI_8, iI_9, iI_10, iI_11, iI_12, iI_14, iI_20, iI_30, iI_31, iI_36, iI_37, iI_40, iI_48, iI_60, iI_63, iI_64, iI_78, iI_100, iI_255, iI_481, iI_1000000, iI_m1, iI_m2, iI_m3, iI_m4, iI_m9, iI_m1000000, iI_add, iI_sub, iI_mul, iI_neg, iI_lt, iI_le, iI_eq, iI_cl, tr_bd, tr_bn_some, tr_b2_some, tr_gdI, tr_nzI, if_pos, if_neg, ↓reduceIte]
      simp
    · have step : ∀ (a b i : Nat), a < 2147483648 → b < 2147483648 → 0 < b → i < 64 → f_X7_commonDivisor_L7 (iI a) (iI b) (iI i) = some (.inl (iI b, iI ((a % b : Nat)), iI ((i + 1 : Nat)))) := by
        intro a b i ha hb hb0 hi
        unfold f_X7_commonDivisor_L7
        have e1 := iI_rem (a := (a : Int)) (b := (b : Int)) (by omega) (by omega) (by omega) (by omega)
        rw [if_neg (by rw [iI_64, iI_le (by omega) (by omega) (by omega) (by omega)]; omega), if_neg (by rw [iI_0, iI_eq (by omega) (by omega) (by omega) (by omega)]; omega), tr_nzI (by omega) (by omega) (by omega), e1]
        unfold tr_bd
        rw [iI_1, iI_add]
        rfl
      have hr : a % b < b := Nat.mod_lt _ (by omega)
      rw [tr_lp_go (s' := (iI b, iI ((a % b : Nat)), iI ((i + 1 : Nat)))) (step a b i ha hb (by omega) (by omega))]
      by_cases hr0 : a % b = 0
      · rw [Nat.gcd_comm, Nat.gcd_rec, hr0]
        apply tr_lp_out
        show f_X7_commonDivisor_L7 (iI b) (iI (0 : Nat)) (iI ((i + 1 : Nat))) = _
        unfold f_X7_commonDivisor_L7
        simp (disch := omega) only [iI_0, iI_1, iI_2, iI_3, iI_4, iI_5, iI_6, iI_7, iI_8, iI_9, iI_10, iI_11, iI_12, iI_14, iI_20, iI_30, iI_31, iI_36, iI_37, iI_40, iI_48, iI_60, iI_63, iI_64, iI_78, iI_100, iI_255, iI_481, iI_1000000, iI_m1, iI_m2, iI_m3, iI_m4, iI_m9, iI_m1000000, iI_add, iI_sub, iI_mul, iI_neg, iI_lt, iI_le, iI_eq, iI_cl, tr_bd, tr_bn_some, tr_b2_some, tr_gdI, tr_nzI, if_pos, if_neg, ↓reduceIte]
        simp
      · rw [tr_lp_go (s' := (iI ((a % b : Nat)), iI ((b % (a % b) : Nat)), iI ((i + 1 + 1 : Nat)))) (step b (a % b) (i + 1) hb (by omega) (by omega) (by omega))]
        have h2 := half_mod (b := b) (r := a % b) (by omega) hr
        rw [ih (a % b) (b % (a % b)) (i + 1 + 1) (by omega) (by omega) (by rw [Nat.pow_succ] at hj; omega) (by omega)]
        rw [Nat.gcd_comm a b, Nat.gcd_rec b a, Nat.gcd_rec (a % b) b, Nat.gcd_comm (a % b)]
/-- the class's fraction -/
theorem c_told {a b : Nat} {u : Int32} (ha : a < 2147483648) (hb : b < 2 ^ 25) (hb0 : 0 < b) : f_X7_told (iI a) (iI b) u = some (iI (if u = 0 then (b / Nat.gcd a b : Nat) else (a / Nat.gcd a b : Nat))) := by
  have hg := Nat.gcd_pos_of_pos_right a hb0
  have hgb : Nat.gcd a b ≤ b := Nat.gcd_le_right a hb0
  unfold f_X7_told f_X7_commonDivisor
  rw [show ((iI a), (iI b), (0 : Int32)) = (iI a, iI b, iI (0 : Nat)) from rfl, c_gcd 25 a b 0 ha (by omega) hb (by omega), tr_bn_some]
  unfold f_X7_commonDivisor_E34
  have e1 : tr_max 1 (iI (Nat.gcd a b : Nat)) = iI (Nat.gcd a b : Nat) := by
    rw [iI_1, tr_maxI (by omega) (by omega) (by omega) (by omega)]
    congr 1
    omega
  rw [e1, tr_bn_some]
  by_cases c : u = 0
  · rw [if_pos c, if_pos c, tr_nzI (by omega) (by omega) (by omega), iI_div (by omega) (by omega) (by omega) (by omega)]
    rfl
  · rw [if_neg c, if_neg c, tr_nzI (by omega) (by omega) (by omega), iI_div (by omega) (by omega) (by omega) (by omega)]
    rfl
/-- the reference's -/
theorem r_gcd : ∀ (b a : Nat), a < 2147483648 → b < 2147483648 → tr_lp (fun q => f_X8_divisor_L13 q.1 q.2) (iI a, iI b) = some (iI (Nat.gcd a b)) := by
  intro b
  induction b using Nat.strongRecOn with
  | ind b ih =>
    intro a ha hb
    by_cases hb0 : b = 0
    · subst hb0
      apply tr_lp_out
      show f_X8_divisor_L13 (iI a) (iI (0 : Nat)) = _
      unfold f_X8_divisor_L13
      simp (disch := omega) only [iI_0, iI_1, iI_2, iI_3, iI_4, iI_5, iI_6, iI_7, iI_8, iI_9, iI_10, iI_11, iI_12, iI_14, iI_20, iI_30, iI_31, iI_36, iI_37, iI_40, iI_48, iI_60, iI_63, iI_64, iI_78, iI_100, iI_255, iI_481, iI_1000000, iI_m1, iI_m2, iI_m3, iI_m4, iI_m9, iI_m1000000, iI_add, iI_sub, iI_mul, iI_neg, iI_lt, iI_le, iI_eq, iI_cl, tr_bd, tr_bn_some, tr_b2_some, tr_gdI, tr_nzI, if_pos, if_neg, ↓reduceIte]
      simp
    · have hr : a % b < b := Nat.mod_lt _ (by omega)
      have step : f_X8_divisor_L13 (iI a) (iI b) = some (.inl (iI b, iI ((a % b : Nat)))) := by
        unfold f_X8_divisor_L13
        have e1 := iI_rem (a := (a : Int)) (b := (b : Int)) (by omega) (by omega) (by omega) (by omega)
        rw [if_neg (by rw [iI_0, iI_eq (by omega) (by omega) (by omega) (by omega)]; omega), tr_nzI (by omega) (by omega) (by omega), e1]
        rfl
      rw [tr_lp_go (s' := (iI b, iI ((a % b : Nat)))) step, ih (a % b) hr b hb (by omega), Nat.gcd_comm a b, Nat.gcd_rec b a, Nat.gcd_comm (a % b)]
theorem r_fraction {a b : Nat} {u : Int32} (ha : a < 2147483648) (hb : b < 2147483648) (hb0 : 0 < b) : f_X8_fraction (iI a) (iI b) u = some (iI (if u = 0 then (b / Nat.gcd a b : Nat) else (a / Nat.gcd a b : Nat))) := by
  have hg := Nat.gcd_pos_of_pos_right a hb0
  have hgb : Nat.gcd a b ≤ b := Nat.gcd_le_right a hb0
  have hd : f_X8_divisor (iI a) (iI b) = some (iI (Nat.gcd a b)) := by
    unfold f_X8_divisor
    simp (disch := omega) only [iI_0, iI_1, iI_2, iI_3, iI_4, iI_5, iI_6, iI_7, iI_8, iI_9, iI_10, iI_11, iI_12, iI_14, iI_20, iI_30, iI_31, iI_36, iI_37, iI_40, iI_48, iI_60, iI_63, iI_64, iI_78, iI_100, iI_255, iI_481, iI_1000000, iI_m1, iI_m2, iI_m3, iI_m4, iI_m9, iI_m1000000, iI_add, iI_sub, iI_mul, iI_neg, iI_lt, iI_le, iI_eq, iI_cl, tr_bd, tr_bn_some, tr_b2_some, tr_gdI, tr_nzI, if_pos, if_neg, ↓reduceIte]
    unfold f_X8_divisor_J10
    rw [r_gcd b a ha hb]
    rfl
  unfold f_X8_fraction
  rw [hd, tr_bn_some]
  by_cases c : u = 0
  · rw [if_pos c, if_pos c, tr_nzI (by omega) (by omega) (by omega), iI_div (by omega) (by omega) (by omega) (by omega)]
    rfl
  · rw [if_neg c, if_neg c, tr_nzI (by omega) (by omega) (by omega), iI_div (by omega) (by omega) (by omega) (by omega)]
    rfl
/-- equal fractions have equal least terms -/
theorem frac_eq {a b c d : Nat} (hb : 0 < b) (hd : 0 < d) (h : a * d = c * b) : a / Nat.gcd a b = c / Nat.gcd c d ∧ b / Nat.gcd a b = d / Nat.gcd c d := by
  have g1 := Nat.gcd_pos_of_pos_right a hb
  have g2 := Nat.gcd_pos_of_pos_right c hd
  obtain ⟨a', ea⟩ := Nat.gcd_dvd_left a b
  obtain ⟨b', eb⟩ := Nat.gcd_dvd_right a b
  obtain ⟨c', ec⟩ := Nat.gcd_dvd_left c d
  obtain ⟨d', ed⟩ := Nat.gcd_dvd_right c d
  have h1 : a / Nat.gcd a b = a' := by
    apply Nat.div_eq_of_eq_mul_right g1
    exact ea
  have h2 : b / Nat.gcd a b = b' := by
    apply Nat.div_eq_of_eq_mul_right g1
    exact eb
  have h3 : c / Nat.gcd c d = c' := by
    apply Nat.div_eq_of_eq_mul_right g2
    exact ec
  have h4 : d / Nat.gcd c d = d' := by
    apply Nat.div_eq_of_eq_mul_right g2
    exact ed
  have k1 : Nat.gcd a' b' = 1 := by
    rw [← h1, ← h2]
    exact Nat.coprime_div_gcd_div_gcd (by omega)
  have k2 : Nat.gcd c' d' = 1 := by
    rw [← h3, ← h4]
    exact Nat.coprime_div_gcd_div_gcd (by omega)
  rw [h1, h2, h3, h4]
  clear h1 h2 h3 h4
  generalize Nat.gcd a b = G1 at g1 ea eb
  generalize Nat.gcd c d = G2 at g2 ec ed
  have k3 : a' * d' = c' * b' := by
    have e1 : G1 * a' * (G2 * d') = G2 * c' * (G1 * b') := by rw [← ea, ← ed, ← ec, ← eb]; exact h
    have e2 : G1 * G2 * (a' * d') = G1 * G2 * (c' * b') := by
      rw [Nat.mul_mul_mul_comm G1 a' G2 d', Nat.mul_mul_mul_comm G2 c' G1 b', Nat.mul_comm G2 G1] at e1
      exact e1
    exact Nat.eq_of_mul_eq_mul_left (Nat.mul_pos g1 g2) e2
  have d1 : a' ∣ c' := (Nat.Coprime.dvd_of_dvd_mul_right k1 ⟨d', k3.symm⟩)
  have d2 : c' ∣ a' := (Nat.Coprime.dvd_of_dvd_mul_right k2 ⟨b', k3⟩)
  have e3 : a' = c' := Nat.dvd_antisymm d1 d2
  have d3 : b' ∣ d' := (Nat.Coprime.dvd_of_dvd_mul_left (Nat.Coprime.symm k1) ⟨c', by rw [k3, Nat.mul_comm]⟩)
  have d4 : d' ∣ b' := (Nat.Coprime.dvd_of_dvd_mul_left (Nat.Coprime.symm k2) ⟨a', by rw [← k3, Nat.mul_comm]⟩)
  exact ⟨e3, Nat.dvd_antisymm d3 d4⟩
end
section
/-! what walks gain over the pace, from each to each -/
def NOW : Int := -1000000
def rdw (w : Nat → Int) (P : Int) : Nat → Nat → Int := fun i j => 60 * wN w i j - P
def FW (n : Nat) (w : Nat → Int) (P : Int) : Nat → Nat → Nat → Int
  | 0, i, j => if i = j then 0 else if w (6 * i + j) = -9 then NOW else 60 * w (6 * i + j) - P
  | k + 1, i, j => if FW n w P k i k ≠ NOW ∧ FW n w P k k j ≠ NOW then max (FW n w P k i j) (FW n w P k i k + FW n w P k k j) else FW n w P k i j
theorem FW_s (n : Nat) (w : Nat → Int) (P : Int) (k i j : Nat) : FW n w P (k + 1) i j = if FW n w P k i k ≠ NOW ∧ FW n w P k k j ≠ NOW then max (FW n w P k i j) (FW n w P k i k + FW n w P k k j) else FW n w P k i j := rfl
section FWS
variable {n : Nat} {w : Nat → Int} {P : Int}
/-- no ring gains -/
def noGain (n : Nat) (w : Nat → Int) (P : Int) : Prop := (-1 ≤ P ∧ P ≤ 540) ∧ ∀ x b, ring (eP (eB n w)) x b → wsm (rdw w P) x (b ++ [x]) ≤ 0
theorem pac_noGain (hw : okn n w) : noGain n w (pac n w) := by
  refine ⟨pac_b hw, fun x b h => ?_⟩
  unfold rdw
  rw [wsm_red, List.length_append, List.length_singleton]
  rcases pac_all hw with ⟨-, h2⟩ | ⟨-, -, h3, -⟩
  · exact absurd h (h2 x b)
  · have := h3 x b h
    omega
theorem wsm_rb (hw : okn n w) (hP : -1 ≤ P ∧ P ≤ 540) : ∀ (l : List Nat) (u : Nat), chn (eP (eB n w)) u l → -541 * l.length ≤ wsm (rdw w P) u l ∧ wsm (rdw w P) u l ≤ 541 * l.length := by
  intro l
  induction l with
  | nil => intro u _; simp [wsm]
  | cons x l ih =>
    intro u h
    have h1 := eB_nn hw _ _ h.1
    have h2 := ih x h.2
    simp only [wsm, rdw, List.length_cons] at h2 ⊢
    omega
/-- each is reached by a walk, or not at all -/
theorem FW_a (hw : okn n w) (hG : noGain n w P) : ∀ k, k ≤ n → ∀ i j, i < n → j < n → (FW n w P k i j = NOW ∨ ∃ l, chn (eP (eB n w)) i l ∧ la i l = j ∧ wsm (rdw w P) i l = FW n w P k i j ∧ l.length ≤ 2 ^ k) ∧ FW n w P k i i = 0 := by
  intro k
  induction k with
  | zero =>
    intro _ i j hi hj
    refine ⟨?_, by simp [FW]⟩
    unfold FW
    by_cases e : i = j
    · rw [if_pos e]
      exact Or.inr ⟨[], trivial, e, rfl, by simp⟩
    · rw [if_neg e]
      by_cases c : w (6 * i + j) = -9
      · rw [if_pos c]; exact Or.inl rfl
      · rw [if_neg c]
        refine Or.inr ⟨[j], ⟨?_, trivial⟩, rfl, by simp [wsm, rdw, wN], by simp⟩
        simp [eP, eB]
        exact ⟨hi, hj, c⟩
  | succ k ih =>
    intro hk i j hi hj
    have hpow : 2 ^ k ≤ 2 ^ (k + 1) := Nat.pow_le_pow_right (by decide) (by omega)
    have hpow2 : 2 ^ (k + 1) = 2 ^ k + 2 ^ k := by rw [Nat.pow_succ]; omega
    have gen : ∀ i j, i < n → j < n → (FW n w P (k + 1) i j = NOW ∨ ∃ l, chn (eP (eB n w)) i l ∧ la i l = j ∧ wsm (rdw w P) i l = FW n w P (k + 1) i j ∧ l.length ≤ 2 ^ (k + 1)) := by
      intro i j hi hj
      rw [FW_s]
      have h1 := (ih (by omega) i j hi hj).1
      by_cases c : FW n w P k i k ≠ NOW ∧ FW n w P k k j ≠ NOW
      · rw [if_pos c]
        by_cases c2 : FW n w P k i j < FW n w P k i k + FW n w P k k j
        · rw [show max (FW n w P k i j) (FW n w P k i k + FW n w P k k j) = FW n w P k i k + FW n w P k k j by omega]
          obtain ⟨a, a1, a2, a3, a4⟩ := (ih (by omega) i k hi (by omega)).1.resolve_left c.1
          obtain ⟨b, b1, b2, b3, b4⟩ := (ih (by omega) k j (by omega) hj).1.resolve_left c.2
          refine Or.inr ⟨a ++ b, by rw [chn_app, a2]; exact ⟨a1, b1⟩, by rw [la_app, a2]; exact b2, by rw [wsm_app, a2, a3, b3], by rw [List.length_append]; omega⟩
        · rw [show max (FW n w P k i j) (FW n w P k i k + FW n w P k k j) = FW n w P k i j by omega]
          rcases h1 with h1 | ⟨l, l1, l2, l3, l4⟩
          · exact Or.inl h1
          · exact Or.inr ⟨l, l1, l2, l3, by omega⟩
      · rw [if_neg c]
        rcases h1 with h1 | ⟨l, l1, l2, l3, l4⟩
        · exact Or.inl h1
        · exact Or.inr ⟨l, l1, l2, l3, by omega⟩
    refine ⟨gen i j hi hj, ?_⟩
    have z := (ih (by omega) i i hi hi).2
    have lo : 0 ≤ FW n w P (k + 1) i i := by
      rw [FW_s]
      split <;> omega
    rcases gen i i hi hi with q | ⟨l, l1, l2, l3, -⟩
    · rw [q] at lo
      exact absurd lo (by decide)
    · have := walk_back hG.2 i l l1 l2
      omega
theorem FW_b (hw : okn n w) (hG : noGain n w P) {k i j : Nat} (hk : k ≤ n) (hi : i < n) (hj : j < n) : FW n w P k i j = NOW ∨ (-40000 ≤ FW n w P k i j ∧ FW n w P k i j ≤ 40000) := by
  have h6 := hw.2.1
  rcases (FW_a hw hG k hk i j hi hj).1 with q | ⟨l, l1, l2, l3, l4⟩
  · exact Or.inl q
  · have := wsm_rb hw hG.1 l i l1
    have : 2 ^ k ≤ 2 ^ 6 := Nat.pow_le_pow_right (by decide) (by omega)
    right
    omega
/-- and no walk that comes nowhere twice gains more -/
theorem FW_m (hw : okn n w) (hG : noGain n w P) : ∀ k, k ≤ n → ∀ (i j : Nat) (m : List Nat), i < n → j < n → chn (eP (eB n w)) i (m ++ [j]) → (i :: (m ++ [j])).Nodup → (∀ y ∈ m, y < k) → FW n w P k i j ≠ NOW ∧ wsm (rdw w P) i (m ++ [j]) ≤ FW n w P k i j := by
  intro k
  induction k with
  | zero =>
    intro _ i j m hi hj hc hn hm
    have hm0 : m = [] := by
      cases m with
      | nil => rfl
      | cons y m => exact absurd (hm y (by simp)) (by omega)
    subst hm0
    simp only [List.nil_append] at hc hn ⊢
    have he : w (6 * i + j) ≠ -9 := by
      have := hc.1
      simp [eP, eB] at this
      exact this.2.2
    have hij : i ≠ j := by
      intro q
      subst q
      simp at hn
    have hb := eB_nn hw _ _ hc.1
    unfold wN at hb
    unfold FW
    rw [if_neg hij, if_neg he]
    simp only [wsm, rdw, wN]
    unfold NOW
    have := hG.1
    omega
  | succ k ih =>
    intro hk i j m hi hj hc hn hm
    have mono : FW n w P k i j ≠ NOW → FW n w P (k + 1) i j ≠ NOW ∧ FW n w P k i j ≤ FW n w P (k + 1) i j := by
      intro q
      have hb := FW_b hw hG (k := k) (by omega) hi hj
      rw [FW_s]
      unfold NOW at *
      split <;> omega
    by_cases hkm : k ∈ m
    · obtain ⟨a, c, rfl, hna⟩ := mem_split_first hkm
      have e1 : (a ++ k :: c) ++ [j] = (a ++ [k]) ++ (c ++ [j]) := by simp
      rw [e1] at hc hn ⊢
      obtain ⟨c1, c2⟩ := (chn_app _ _ _).mp hc
      have hla : la i (a ++ [k]) = k := by rw [la_app]; rfl
      rw [hla] at c2
      have hn' : ((i :: (a ++ [k])) ++ (c ++ [j])).Nodup := by simpa using hn
      obtain ⟨n1, n2, n3⟩ := List.nodup_append.mp hn'
      have hkc : k ∉ c := fun q => n3 k (by simp) k (by simp [q]) rfl
      have hkj : k ≠ j := fun q => n3 k (by simp) k (by simp [q]) rfl
      have g1 := ih (by omega) i k a hi (by omega) c1 n1 (fun y hy => by
        have h1 := hm y (by simp [hy])
        have h2 : y ≠ k := fun q => hna (by rw [← q]; exact hy)
        omega)
      have g2 := ih (by omega) k j c (by omega) hj c2 (by
        refine List.nodup_cons.mpr ⟨?_, n2⟩
        intro q
        rcases List.mem_append.mp q with q | q
        · exact hkc q
        · rw [List.mem_singleton] at q; exact hkj q) (fun y hy => by
        have h1 := hm y (by simp [hy])
        have h2 : y ≠ k := fun q => hkc (by rw [← q]; exact hy)
        omega)
      rw [wsm_app, hla]
      have b1 := FW_b hw hG (k := k) (by omega) hi (show k < n by omega)
      have b2 := FW_b hw hG (k := k) (by omega) (show k < n by omega) hj
      rw [FW_s, if_pos ⟨g1.1, g2.1⟩]
      unfold NOW at *
      omega
    · have g := ih (by omega) i j m hi hj hc hn (fun y hy => by
        have h1 := hm y hy
        have h2 : y ≠ k := fun q => hkm (by rw [← q]; exact hy)
        omega)
      have := mono g.1
      exact ⟨this.1, by omega⟩
/-- a wait with a walk back lies on a ring; how much at most such a ring gains -/
theorem FW_ring (hw : okn n w) (hG : noGain n w P) {i j : Nat} (he : eP (eB n w) i j) : (FW n w P n j i ≠ NOW ↔ ∃ x b, ring (eP (eB n w)) x b ∧ (i, j) ∈ edg x (b ++ [x])) ∧ (FW n w P n j i ≠ NOW → (rdw w P i j + FW n w P n j i = 0 ↔ ∃ x b, ring (eP (eB n w)) x b ∧ (i, j) ∈ edg x (b ++ [x]) ∧ wsm (rdw w P) x (b ++ [x]) = 0)) := by
  have hij := eB_b i j he
  -- a ring through the wait, as a path from j back to i
  have toPath : ∀ x b, ring (eP (eB n w)) x b → (i, j) ∈ edg x (b ++ [x]) → ∃ l, chn (eP (eB n w)) j l ∧ la j l = i ∧ (j :: l).Nodup ∧ wsm (rdw w P) x (b ++ [x]) = rdw w P i j + wsm (rdw w P) j l := by
    intro x b hr hm
    -- turn the ring so that it begins at i
    have hi : i ∈ x :: b := by
      have this : i ∈ x :: (b ++ [x]) := (edg_chn _ _ hr.2 _ hm).2.1
      rcases List.mem_cons.mp this with q | q
      · rw [q]; simp
      · rcases List.mem_append.mp q with q | q
        · simp [q]
        · rw [List.mem_singleton] at q; rw [q]; simp
    have turned : ∃ b', ring (eP (eB n w)) i b' ∧ (i, j) ∈ edg i (b' ++ [i]) ∧ wsm (rdw w P) i (b' ++ [i]) = wsm (rdw w P) x (b ++ [x]) := by
      by_cases e : i = x
      · subst e; exact ⟨b, hr, hm, rfl⟩
      · have hib : i ∈ b := by
          rcases List.mem_cons.mp hi with q | q
          · exact absurd q e
          · exact q
        obtain ⟨a, c, rfl, -⟩ := mem_split_first hib
        have t := ring_turn (rdw w P) a x i c hr
        exact ⟨c ++ x :: a, t.1, (edg_turn a x i c (i, j)).mpr hm, t.2⟩
    obtain ⟨b', r1, r2, r3⟩ := turned
    -- the only wait from i in it is its first
    cases b' with
    | nil =>
      simp [edg] at r2
      subst r2
      exact ⟨[], trivial, rfl, by simp, by rw [← r3]; simp [wsm]⟩
    | cons y b' =>
      have hy : j = y := by
        rw [List.cons_append] at r2
        rcases List.mem_cons.mp r2 with q | q
        · exact congrArg Prod.snd q
        · exfalso
          have h1 := r1.2
          rw [List.cons_append] at h1
          have h2 := (edg_chn (ed := fun a _ => a ≠ i) (b' ++ [i]) y (by
            -- none of the departures but the last is i
            have nd := r1.1
            have : ∀ (l : List Nat) (u : Nat), u ≠ i → (∀ z ∈ l, z ≠ i) → chn (fun a _ => a ≠ i) u (l ++ [i]) := by
              intro l
              induction l with
              | nil => intro u hu _; exact ⟨hu, trivial⟩
              | cons z l ihl => intro u hu hl; exact ⟨hu, ihl z (hl z (by simp)) (fun t ht => hl t (by simp [ht]))⟩
            have nd2 := (List.nodup_cons.mp nd).1
            exact this b' y (fun q => nd2 (by simp [q])) (fun z hz q => nd2 (by rw [← q]; simp [hz]))) _ q).1
          exact h2 rfl
      subst hy
      have h1 := r1.2
      rw [List.cons_append] at h1
      refine ⟨b' ++ [i], h1.2, by rw [la_app]; rfl, ?_, ?_⟩
      · have := r1.1
        have h2 : ([i] ++ (j :: b')).Nodup := this
        have h3 := (List.perm_append_comm.nodup_iff).mp h2
        simpa using h3
      · rw [← r3, List.cons_append]
        rfl
  -- a path from j back to i closes to a ring
  have toRing : ∀ l, chn (eP (eB n w)) j l → la j l = i → (j :: l).Nodup → ∃ x b, ring (eP (eB n w)) x b ∧ (i, j) ∈ edg x (b ++ [x]) ∧ wsm (rdw w P) x (b ++ [x]) = rdw w P i j + wsm (rdw w P) j l := by
    intro l l1 l2 l3
    refine ⟨j, l, ⟨l3, by rw [chn_app, l2]; exact ⟨l1, he, trivial⟩⟩, ?_, ?_⟩
    · rw [edg_app, l2]
      simp [edg]
    · rw [wsm_app, l2]
      simp only [wsm]
      omega
  have best : ∀ l, chn (eP (eB n w)) j l → la j l = i → (j :: l).Nodup → FW n w P n j i ≠ NOW ∧ wsm (rdw w P) j l ≤ FW n w P n j i := by
    intro l l1 l2 l3
    by_cases hl : l = []
    · subst hl
      have e : j = i := l2
      subst e
      have := (FW_a hw hG n (Nat.le_refl _) j j hij.2 hij.2).2
      rw [this]
      simp [wsm]
      decide
    · have e := List.dropLast_concat_getLast hl
      generalize l.dropLast = m at e
      generalize l.getLast hl = v at e
      subst e
      rw [la_app] at l2
      have e2 : v = i := l2
      subst e2
      exact FW_m hw hG n (Nat.le_refl _) j v m hij.2 hij.1 l1 l3 (fun y hy => chn_lt eB_b _ _ l1 y (by simp [hy]))
  constructor
  · constructor
    · intro h
      obtain ⟨l, l1, l2, l3, -⟩ := (FW_a hw hG n (Nat.le_refl _) j i hij.2 hij.1).1.resolve_left h
      obtain ⟨l', s1, s2, s3, -, -⟩ := walk_simple j l l1 (fun x b h _ => hG.2 x b h)
      obtain ⟨x, b, r1, r2, -⟩ := toRing l' s2 (by rw [s3, l2]) s1
      exact ⟨x, b, r1, r2⟩
    · rintro ⟨x, b, r1, r2⟩
      obtain ⟨l, l1, l2, l3, -⟩ := toPath x b r1 r2
      exact (best l l1 l2 l3).1
  · intro h
    constructor
    · intro h0
      obtain ⟨l, l1, l2, l3, -⟩ := (FW_a hw hG n (Nat.le_refl _) j i hij.2 hij.1).1.resolve_left h
      obtain ⟨l', s1, s2, s3, s4, -⟩ := walk_simple j l l1 (fun x b h _ => hG.2 x b h)
      obtain ⟨x, b, r1, r2, r3⟩ := toRing l' s2 (by rw [s3, l2]) s1
      have := hG.2 x b r1
      exact ⟨x, b, r1, r2, by omega⟩
    · rintro ⟨x, b, r1, r2, r3⟩
      obtain ⟨l, l1, l2, l3, l4⟩ := toPath x b r1 r2
      have b1 := (best l l1 l2 l3).2
      obtain ⟨l'', t1, t2, t3, -⟩ := (FW_a hw hG n (Nat.le_refl _) j i hij.2 hij.1).1.resolve_left h
      have b2 := walk_back hG.2 i (j :: l'') ⟨he, t1⟩ t2
      simp only [wsm] at b2
      omega
end FWS
end
section
/-! the class's gains -/
theorem tr_inv {σ ρ : Type} {f : σ → Option (σ ⊕ ρ)} (J : Nat → σ → Prop) (K : ρ → Prop) {hi : Nat} (step : ∀ k s, k < hi → J k s → ∃ s', f s = some (.inl s') ∧ J (k + 1) s') (out : ∀ s, J hi s → ∃ r, f s = some (.inr r) ∧ K r) : ∀ (lo : Nat) (s : σ), lo ≤ hi → J lo s → ∃ r, tr_lp f s = some r ∧ K r := by
  intro lo
  generalize hd : hi - lo = d
  induction d generalizing lo with
  | zero =>
    intro s hle hJ
    obtain rfl : lo = hi := by omega
    obtain ⟨r, h1, h2⟩ := out s hJ
    exact ⟨r, tr_lp_out h1, h2⟩
  | succ d ih =>
    intro s hle hJ
    obtain ⟨s', h1, h2⟩ := step lo s (by omega) hJ
    obtain ⟨r, h3, h4⟩ := ih (lo + 1) (by omega) s' (by omega) h2
    exact ⟨r, by rw [tr_lp_go h1]; exact h3, h4⟩
/-- a table of six by six, filled up to a place with one and from there on with another -/
def tabA (n : Nat) (a b : Nat → Nat → Int) (I J : Nat) (f : Nat → Int32) : Prop := ∀ i j, i < n → j < n → f (6 * i + j) = iI (if i < I ∨ (i = I ∧ j < J) then a i j else b i j)
theorem tabA_up {n : Nat} {a b : Nat → Nat → Int} {I J : Nat} {f : Nat → Int32} (hn : n ≤ 6) (h : tabA n a b I J f) (hJ : J < n) : tabA n a b I (J + 1) (upd f (6 * I + J) (iI (a I J))) := by
  intro i j hi hj
  unfold upd
  by_cases e : 6 * i + j = 6 * I + J
  · have e1 : i = I := by omega
    have e2 : j = J := by omega
    subst e1; subst e2
    rw [if_pos rfl, if_pos (by omega)]
  · rw [if_neg e, h i j hi hj]
    congr 1
    by_cases c : i < I ∨ (i = I ∧ j < J)
    · rw [if_pos c, if_pos (by omega)]
    · rw [if_neg c, if_neg (by omega)]
theorem tabA_nx {n : Nat} {a b : Nat → Nat → Int} {I : Nat} {f : Nat → Int32} (h : tabA n a b I n f) : tabA n a b (I + 1) 0 f := by
  intro i j hi hj
  rw [h i j hi hj]
  congr 1
  by_cases c : i < I ∨ (i = I ∧ j < n)
  · rw [if_pos c, if_pos (by omega)]
  · rw [if_neg c, if_neg (by omega)]
theorem tabA_end {n : Nat} {a b c : Nat → Nat → Int} {f : Nat → Int32} (h : tabA n a b n 0 f) : tabA n c a 0 0 f := by
  intro i j hi hj
  rw [h i j hi hj, if_pos (by omega), if_neg (by omega)]
theorem w_gainOf {h : tr_H} {i n : Nat} {w : Nat → Int} {P : Int} (hN : tN h i n w) (hp : h.1 21 2 = iI P) {a b : Nat} (ha : a < n) (hb : b < n) : f_X6_gainOf i (iI a) (iI b) h = some (iI (if w (6 * a + b) = -9 then NOW else 60 * w (6 * a + b) - P)) := by
  have h6 := hN.2.1.2.1
  have b1 := okn_b hN.2.1 (c := 6 * a + b) (by omega)
  unfold f_X6_gainOf
  rw [n_of hN (by omega) (by omega) (by omega) (by omega), woI_in ha hb, tr_bn_some, hp]
  by_cases c : w (6 * a + b) = -9
  · rw [c, if_pos (show iI (-9) = -9 from rfl), if_pos rfl]
    rfl
  · rw [if_neg (by rw [iI_m9, iI_eq (by omega) (by omega) (by omega) (by omega)]; exact c), if_neg c, iI_60, iI_mul, iI_sub]
def tabF (n : Nat) (a : Nat → Nat → Int) (I J : Nat) (f : Nat → Int32) : Prop := ∀ i j, i < n → j < n → (i < I ∨ (i = I ∧ j < J)) → f (6 * i + j) = iI (a i j)
theorem tabF_up {n : Nat} {a : Nat → Nat → Int} {I J : Nat} {f : Nat → Int32} (hn : n ≤ 6) (h : tabF n a I J f) (hJ : J < n) : tabF n a I (J + 1) (upd f (6 * I + J) (iI (a I J))) := by
  intro i j hi hj hc
  unfold upd
  by_cases e : 6 * i + j = 6 * I + J
  · have e1 : i = I := by omega
    have e2 : j = J := by omega
    subst e1; subst e2
    rw [if_pos rfl]
  · rw [if_neg e, h i j hi hj (by omega)]
theorem tabF_nx {n : Nat} {a : Nat → Nat → Int} {I : Nat} {f : Nat → Int32} (h : tabF n a I n f) : tabF n a (I + 1) 0 f := by
  intro i j hi hj hc
  exact h i j hi hj (by omega)
theorem FW_col {n : Nat} {w : Nat → Int} {P : Int} {k : Nat} (hz : FW n w P k k k = 0) (i : Nat) : FW n w P (k + 1) i k = FW n w P k i k := by
  rw [FW_s, hz]
  split <;> omega
theorem FW_row {n : Nat} {w : Nat → Int} {P : Int} {k : Nat} (hz : FW n w P k k k = 0) (j : Nat) : FW n w P (k + 1) k j = FW n w P k k j := by
  rw [FW_s, hz]
  split <;> omega
theorem w_join {h : tr_H} {n : Nat} {w : Nat → Int} {P : Int} (hw : okn n w) (hG : noGain n w P) {k I J : Nat} (hk : k < n) (hI : I < n) (hJ : J < n) (ht : tabA n (FW n w P (k + 1)) (FW n w P k) I J (h.1 23)) : ∃ g, f_X6_join (iI I) (iI k) (iI J) h = some (tr_sa h 23 g) ∧ tabA n (FW n w P (k + 1)) (FW n w P k) I (J + 1) g := by
  have h6 := hw.2.1
  have hz := (FW_a hw hG k (by omega) k k hk hk).2
  have e1 : h.1 23 (6 * I + k) = iI (FW n w P k I k) := by
    rw [ht I k hI hk]
    split
    · rw [FW_col hz]
    · rfl
  have e2 : h.1 23 (6 * k + J) = iI (FW n w P k k J) := by
    rw [ht k J hk hJ]
    split
    · rw [FW_row hz]
    · rfl
  have e3 : h.1 23 (6 * I + J) = iI (FW n w P k I J) := by
    rw [ht I J hI hJ, if_neg (by omega)]
  have b1 := FW_b hw hG (k := k) (by omega) hI hk
  have b2 := FW_b hw hG (k := k) (by omega) hk hJ
  have b3 := FW_b hw hG (k := k) (by omega) hI hJ
  have up := tabA_up h6 ht hJ
  have n1 : ((I : Int) * 6 + (k : Int)).toNat = 6 * I + k := by omega
  have n2 : ((k : Int) * 6 + (J : Int)).toNat = 6 * k + J := by omega
  have n3 : ((I : Int) * 6 + (J : Int)).toNat = 6 * I + J := by omega
  -- unchanged, where one of the two isn't there
  have same : FW n w P (k + 1) I J = FW n w P k I J → tabA n (FW n w P (k + 1)) (FW n w P k) I (J + 1) (h.1 23) := by
    intro q
    have : upd (h.1 23) (6 * I + J) (iI (FW n w P (k + 1) I J)) = h.1 23 := by
      funext j
      unfold upd
      by_cases ej : j = 6 * I + J
      · rw [if_pos ej, ej, q, e3]
      · rw [if_neg ej]
    rw [this] at up
    exact up
  unfold f_X6_join
  unfold NOW at b1 b2 b3
  by_cases c1 : FW n w P k I k = NOW
  · refine ⟨h.1 23, ?_, same (by rw [FW_s, if_neg (fun q => q.1 c1)])⟩
    rw [c1] at e1
    rw [tr_sa_self]
    simp (disch := omega) only [iI_0, iI_1, iI_2, iI_3, iI_4, iI_5, iI_6, iI_7, iI_8, iI_9, iI_10, iI_11, iI_12, iI_14, iI_20, iI_30, iI_31, iI_36, iI_37, iI_40, iI_48, iI_60, iI_63, iI_64, iI_78, iI_100, iI_255, iI_481, iI_1000000, iI_m1, iI_m2, iI_m3, iI_m4, iI_m9, iI_m1000000, iI_add, iI_sub, iI_mul, iI_neg, iI_lt, iI_le, iI_eq, iI_cl, tr_bd, tr_bn_some, tr_b2_some, tr_gdI, tr_nzI, if_pos, if_neg, ↓reduceIte, n1, n2, n3, e1, e2]
    rfl
  · by_cases c2 : FW n w P k k J = NOW
    · refine ⟨h.1 23, ?_, same (by rw [FW_s, if_neg (fun q => q.2 c2)])⟩
      rw [c2] at e2
      unfold NOW at c1
      rw [tr_sa_self]
      simp (disch := omega) only [iI_0, iI_1, iI_2, iI_3, iI_4, iI_5, iI_6, iI_7, iI_8, iI_9, iI_10, iI_11, iI_12, iI_14, iI_20, iI_30, iI_31, iI_36, iI_37, iI_40, iI_48, iI_60, iI_63, iI_64, iI_78, iI_100, iI_255, iI_481, iI_1000000, iI_m1, iI_m2, iI_m3, iI_m4, iI_m9, iI_m1000000, iI_add, iI_sub, iI_mul, iI_neg, iI_lt, iI_le, iI_eq, iI_cl, tr_bd, tr_bn_some, tr_b2_some, tr_gdI, tr_nzI, if_pos, if_neg, ↓reduceIte, n1, n2, n3, e1, e2]
      rfl
    · refine ⟨_, ?_, up⟩
      have hs : FW n w P (k + 1) I J = max (FW n w P k I J) (FW n w P k I k + FW n w P k k J) := by rw [FW_s, if_pos ⟨c1, c2⟩]
      rw [hs]
      unfold NOW at c1 c2
      simp (disch := omega) only [iI_0, iI_1, iI_2, iI_3, iI_4, iI_5, iI_6, iI_7, iI_8, iI_9, iI_10, iI_11, iI_12, iI_14, iI_20, iI_30, iI_31, iI_36, iI_37, iI_40, iI_48, iI_60, iI_63, iI_64, iI_78, iI_100, iI_255, iI_481, iI_1000000, iI_m1, iI_m2, iI_m3, iI_m4, iI_m9, iI_m1000000, iI_add, iI_sub, iI_mul, iI_neg, iI_lt, iI_le, iI_eq, iI_cl, tr_bd, tr_bn_some, tr_b2_some, tr_gdI, tr_nzI, if_pos, if_neg, ↓reduceIte, tr_maxI, tr_minI, n1, n2, n3, e1, e2, e3]
      rfl
theorem w_compare {h : tr_H} {i n : Nat} {w : Nat → Int} (hN : tN h i n w) : ∃ f g, f_X6_compare i h = some (tr_sa (tr_si (tr_sa h 22 f) 21 2 (iI (pac n w))) 23 g) ∧ ∀ a b, a < n → b < n → g (6 * a + b) = iI (FW n w (pac n w) n a b) := by
  have hw := hN.2.1
  have h6 := hw.2.1
  have h1 := hw.1
  have hG := pac_noGain hw
  have hi := hN.1
  obtain ⟨f, hf⟩ := w_slowest hN
  obtain ⟨hb, ehb⟩ : ∃ hb, hb = tr_si (tr_sa h 22 f) 21 2 (iI (pac n w)) := ⟨_, rfl⟩
  have hNb : ∀ g, tN (tr_sa hb 23 g) i n w := by
    intro g
    refine tN_ne ?_ g (by unfold netI at hi; omega) (by unfold netI at hi; omega)
    rw [ehb]
    unfold tr_si
    refine tN_ne ?_ _ (by unfold netI at hi; omega) (by unfold netI at hi; omega)
    exact tN_ne hN f (by unfold netI at hi; omega) (by unfold netI at hi; omega)
  have hsz : ∀ g, (tr_sa hb 23 g).1 i 1 = iI n := fun g => (hNb g).2.2.1
  have hpc : ∀ g, (tr_sa hb 23 g).1 21 2 = iI (pac n w) := fun g => by rw [tr_sa_ne _ _ (by decide), ehb, si_s]
  have hpb := hG.1
  generalize hPe : pac n w = P at *
  -- the first table
  obtain ⟨r1, k1, g1, rfl, t1⟩ := tr_inv (f := fun q => f_X6_compare_L11 i q.1 q.2) (fun k s => ∃ g, s = (iI k, tr_sa hb 23 g) ∧ tabF n (FW n w P 0) k 0 g) (fun r => ∃ g, r = tr_sa hb 23 g ∧ tabF n (FW n w P 0) n 0 g) (hi := n) (by
    rintro k s hk ⟨g, rfl, hg⟩
    obtain ⟨r, k2, g', rfl, t2⟩ := tr_inv (f := fun q => f_X6_compare_L21 i (iI k) q.1 q.2) (fun j s => ∃ g, s = (iI j, tr_sa hb 23 g) ∧ tabF n (FW n w P 0) k j g) (fun r => ∃ g, r = tr_sa hb 23 g ∧ tabF n (FW n w P 0) k n g) (hi := n) (by
      rintro j s hj ⟨g, rfl, hg⟩
      refine ⟨(iI (j + 1 : Nat), tr_sa hb 23 (upd g (6 * k + j) (iI (FW n w P 0 k j)))), ?_, _, rfl, tabF_up h6 hg hj⟩
      show f_X6_compare_L21 i (iI k) (iI j) (tr_sa hb 23 g) = _
      unfold f_X6_compare_L21
      rw [hsz]
      have n1 : ((k : Int) * 6 + (j : Int)).toNat = 6 * k + j := by omega
      by_cases e : k = j
      · have e0 : FW n w P 0 k j = 0 := by unfold FW; rw [if_pos e]
        rw [e0]
        subst e
        simp (disch := omega) only [iI_0, iI_1, iI_2, iI_3, iI_4, iI_5, iI_6, iI_7, iI_8, iI_9, iI_10, iI_11, iI_12, iI_14, iI_20, iI_30, iI_31, iI_36, iI_37, iI_40, iI_48, iI_60, iI_63, iI_64, iI_78, iI_100, iI_255, iI_481, iI_1000000, iI_m1, iI_m2, iI_m3, iI_m4, iI_m9, iI_m1000000, iI_add, iI_sub, iI_mul, iI_neg, iI_lt, iI_le, iI_eq, iI_cl, tr_bd, tr_bn_some, tr_b2_some, tr_gdI, tr_nzI, if_pos, if_neg, ↓reduceIte, n1, tr_si, tr_sa_at, tr_sa_sa]
        rfl
      · have e0 : FW n w P 0 k j = if w (6 * k + j) = -9 then NOW else 60 * w (6 * k + j) - P := by unfold FW; rw [if_neg e]
        rw [e0]
        have gk := w_gainOf (hNb g) (hpc g) hk hj
        have e3 : ¬ ((k : Int) = (j : Int)) := by omega
        simp (disch := omega) only [iI_0, iI_1, iI_2, iI_3, iI_4, iI_5, iI_6, iI_7, iI_8, iI_9, iI_10, iI_11, iI_12, iI_14, iI_20, iI_30, iI_31, iI_36, iI_37, iI_40, iI_48, iI_60, iI_63, iI_64, iI_78, iI_100, iI_255, iI_481, iI_1000000, iI_m1, iI_m2, iI_m3, iI_m4, iI_m9, iI_m1000000, iI_add, iI_sub, iI_mul, iI_neg, iI_lt, iI_le, iI_eq, iI_cl, tr_bd, tr_bn_some, tr_b2_some, tr_gdI, tr_nzI, if_pos, if_neg, ↓reduceIte, n1, gk, tr_si, tr_sa_at, tr_sa_sa]
        rfl) (by
      rintro s ⟨g, rfl, hg⟩
      refine ⟨tr_sa hb 23 g, ?_, g, rfl, hg⟩
      show f_X6_compare_L21 i (iI k) (iI n) (tr_sa hb 23 g) = _
      unfold f_X6_compare_L21
      rw [hsz]
      simp (disch := omega) only [iI_0, iI_1, iI_2, iI_3, iI_4, iI_5, iI_6, iI_7, iI_8, iI_9, iI_10, iI_11, iI_12, iI_14, iI_20, iI_30, iI_31, iI_36, iI_37, iI_40, iI_48, iI_60, iI_63, iI_64, iI_78, iI_100, iI_255, iI_481, iI_1000000, iI_m1, iI_m2, iI_m3, iI_m4, iI_m9, iI_m1000000, iI_add, iI_sub, iI_mul, iI_neg, iI_lt, iI_le, iI_eq, iI_cl, tr_bd, tr_bn_some, tr_b2_some, tr_gdI, tr_nzI, if_pos, if_neg, ↓reduceIte]) 0 (iI (0 : Nat), tr_sa hb 23 g) (by omega) ⟨g, rfl, hg⟩
    refine ⟨(iI (k + 1 : Nat), tr_sa hb 23 g'), ?_, g', rfl, tabF_nx t2⟩
    show f_X6_compare_L11 i (iI k) (tr_sa hb 23 g) = _
    unfold f_X6_compare_L11
    rw [hsz, if_neg (by rw [iI_le (by omega) (by omega) (by omega) (by omega)]; omega), show ((0 : Int32), tr_sa hb 23 g) = (iI (0 : Nat), tr_sa hb 23 g) from rfl, k2, tr_bn_some]
    unfold f_X6_compare_E66 tr_bd
    rw [iI_1, iI_add]
    rfl) (by
    rintro s ⟨g, rfl, hg⟩
    refine ⟨tr_sa hb 23 g, ?_, g, rfl, hg⟩
    show f_X6_compare_L11 i (iI n) (tr_sa hb 23 g) = _
    unfold f_X6_compare_L11
    rw [hsz, if_pos (Int32.le_refl _)]) 0 (iI (0 : Nat), tr_sa hb 23 (hb.1 23)) (by omega) ⟨hb.1 23, rfl, fun a b _ _ q => by omega⟩
  -- the rounds over each departure
  obtain ⟨r2, k2, g2, rfl, t2⟩ := tr_inv (f := fun q => f_X6_compare_L74 i q.1 q.2) (fun k s => ∃ g, s = (iI k, tr_sa hb 23 g) ∧ ∀ a b, a < n → b < n → g (6 * a + b) = iI (FW n w P k a b)) (fun r => ∃ g, r = tr_sa hb 23 g ∧ ∀ a b, a < n → b < n → g (6 * a + b) = iI (FW n w P n a b)) (hi := n) (by
    rintro k s hk ⟨g, rfl, hg⟩
    obtain ⟨r, k3, g', rfl, t3⟩ := tr_inv (f := fun q => f_X6_compare_L84 i (iI k) q.1 q.2) (fun I s => ∃ g, s = (iI I, tr_sa hb 23 g) ∧ tabA n (FW n w P (k + 1)) (FW n w P k) I 0 g) (fun r => ∃ g, r = tr_sa hb 23 g ∧ tabA n (FW n w P (k + 1)) (FW n w P k) n 0 g) (hi := n) (by
      rintro I s hI ⟨g, rfl, hg⟩
      obtain ⟨r, k4, g', rfl, t4⟩ := tr_inv (f := fun q => f_X6_compare_L95 i (iI I) (iI k) q.1 q.2) (fun J s => ∃ g, s = (iI J, tr_sa hb 23 g) ∧ tabA n (FW n w P (k + 1)) (FW n w P k) I J g) (fun r => ∃ g, r = tr_sa hb 23 g ∧ tabA n (FW n w P (k + 1)) (FW n w P k) I n g) (hi := n) (by
        rintro J s hJ ⟨g, rfl, hg⟩
        obtain ⟨g', q1, q2⟩ := w_join (h := tr_sa hb 23 g) hw hG hk hI hJ (by rw [tr_sa_at]; exact hg)
        refine ⟨(iI (J + 1 : Nat), tr_sa hb 23 g'), ?_, g', rfl, q2⟩
        show f_X6_compare_L95 i (iI I) (iI k) (iI J) (tr_sa hb 23 g) = _
        unfold f_X6_compare_L95
        rw [hsz, if_neg (by rw [iI_le (by omega) (by omega) (by omega) (by omega)]; omega), q1, tr_bn_some, tr_sa_sa]
        unfold tr_bd
        rw [iI_1, iI_add]
        rfl) (by
        rintro s ⟨g, rfl, hg⟩
        refine ⟨tr_sa hb 23 g, ?_, g, rfl, hg⟩
        show f_X6_compare_L95 i (iI I) (iI k) (iI n) (tr_sa hb 23 g) = _
        unfold f_X6_compare_L95
        rw [hsz, if_pos (Int32.le_refl _)]) 0 (iI (0 : Nat), tr_sa hb 23 g) (by omega) ⟨g, rfl, hg⟩
      refine ⟨(iI (I + 1 : Nat), tr_sa hb 23 g'), ?_, g', rfl, tabA_nx t4⟩
      show f_X6_compare_L84 i (iI k) (iI I) (tr_sa hb 23 g) = _
      unfold f_X6_compare_L84
      rw [hsz, if_neg (by rw [iI_le (by omega) (by omega) (by omega) (by omega)]; omega), show ((0 : Int32), tr_sa hb 23 g) = (iI (0 : Nat), tr_sa hb 23 g) from rfl, k4, tr_bn_some]
      unfold f_X6_compare_E118 tr_bd
      rw [iI_1, iI_add]
      rfl) (by
      rintro s ⟨g, rfl, hg⟩
      refine ⟨tr_sa hb 23 g, ?_, g, rfl, hg⟩
      show f_X6_compare_L84 i (iI k) (iI n) (tr_sa hb 23 g) = _
      unfold f_X6_compare_L84
      rw [hsz, if_pos (Int32.le_refl _)]) 0 (iI (0 : Nat), tr_sa hb 23 g) (by omega) ⟨g, rfl, fun a b ha hb => by rw [if_neg (by omega)]; exact hg a b ha hb⟩
    refine ⟨(iI (k + 1 : Nat), tr_sa hb 23 g'), ?_, g', rfl, fun a b ha hb => by rw [t3 a b ha hb, if_pos (by omega)]⟩
    show f_X6_compare_L74 i (iI k) (tr_sa hb 23 g) = _
    unfold f_X6_compare_L74
    rw [hsz, if_neg (by rw [iI_le (by omega) (by omega) (by omega) (by omega)]; omega), show ((0 : Int32), tr_sa hb 23 g) = (iI (0 : Nat), tr_sa hb 23 g) from rfl, k3, tr_bn_some]
    unfold f_X6_compare_E124 tr_bd
    rw [iI_1, iI_add]
    rfl) (by
    rintro s ⟨g, rfl, hg⟩
    refine ⟨tr_sa hb 23 g, ?_, g, rfl, hg⟩
    show f_X6_compare_L74 i (iI n) (tr_sa hb 23 g) = _
    unfold f_X6_compare_L74
    rw [hsz, if_pos (Int32.le_refl _)]) 0 (iI (0 : Nat), tr_sa hb 23 g1) (by omega) ⟨g1, rfl, fun a b ha hb => t1 a b ha hb (by omega)⟩
  refine ⟨f, g2, ?_, t2⟩
  unfold f_X6_compare
  rw [hf, tr_b2_some]
  unfold tr_bd
  dsimp only
  rw [← ehb, show ((0 : Int32), hb) = (iI (0 : Nat), tr_sa hb 23 (hb.1 23)) from by rw [tr_sa_self]; rfl, k1, tr_bn_some]
  unfold f_X6_compare_E72
  rw [show ((0 : Int32), tr_sa hb 23 g1) = (iI (0 : Nat), tr_sa hb 23 g1) from rfl, k2]
  rfl
end
section
/-! critical waits, on both sides -/
def onR (n : Nat) (w : Nat → Int) (a b : Nat) : Prop := ∃ x l, ring (eP (eB n w)) x l ∧ (a, b) ∈ edg x (l ++ [x])
def crR (n : Nat) (w : Nat → Int) (a b : Nat) : Prop := ∃ x l, ring (eP (eB n w)) x l ∧ (a, b) ∈ edg x (l ++ [x]) ∧ 60 * wsm (wN w) x (l ++ [x]) = pac n w * (l.length + 1 : Nat)
theorem onR_ed {n : Nat} {w : Nat → Int} {a b : Nat} (h : onR n w a b) : eP (eB n w) a b := by
  obtain ⟨x, l, h1, h2⟩ := h
  exact (edg_chn _ _ h1.2 _ h2).1
theorem crR_on {n : Nat} {w : Nat → Int} {a b : Nat} (h : crR n w a b) : onR n w a b := by
  obtain ⟨x, l, h1, h2, -⟩ := h
  exact ⟨x, l, h1, h2⟩
theorem FW_on {n : Nat} {w : Nat → Int} (hw : okn n w) {a b : Nat} (he : eP (eB n w) a b) : FW n w (pac n w) n b a ≠ NOW ↔ onR n w a b := (FW_ring hw (pac_noGain hw) he).1
theorem FW_cr {n : Nat} {w : Nat → Int} (hw : okn n w) {a b : Nat} (he : eP (eB n w) a b) : (FW n w (pac n w) n b a ≠ NOW ∧ rdw w (pac n w) a b + FW n w (pac n w) n b a = 0) ↔ crR n w a b := by
  have h := FW_ring hw (pac_noGain hw) he
  have e : ∀ x l, wsm (rdw w (pac n w)) x (l ++ [x]) = 0 ↔ 60 * wsm (wN w) x (l ++ [x]) = pac n w * (l.length + 1 : Nat) := by
    intro x l
    unfold rdw
    rw [wsm_red, List.length_append, List.length_singleton]
    omega
  constructor
  · rintro ⟨h1, h2⟩
    obtain ⟨x, l, r1, r2, r3⟩ := (h.2 h1).mp h2
    exact ⟨x, l, r1, r2, (e x l).mp r3⟩
  · rintro ⟨x, l, r1, r2, r3⟩
    have h1 := h.1.mpr ⟨x, l, r1, r2⟩
    exact ⟨h1, (h.2 h1).mpr ⟨x, l, r1, r2, (e x l).mpr r3⟩⟩
/-- a heap in which the gains lie -/
def gainsH (H : tr_H) (i n : Nat) (w : Nat → Int) : Prop := tN H i n w ∧ H.1 21 2 = iI (pac n w) ∧ ∀ a b, a < n → b < n → H.1 23 (6 * a + b) = iI (FW n w (pac n w) n a b)
theorem w_comp {h : tr_H} {i n : Nat} {w : Nat → Int} (hN : tN h i n w) : ∃ f g, f_X6_compare i h = some (tr_sa (tr_si (tr_sa h 22 f) 21 2 (iI (pac n w))) 23 g) ∧ gainsH (tr_sa (tr_si (tr_sa h 22 f) 21 2 (iI (pac n w))) 23 g) i n w := by
  obtain ⟨f, g, h1, h2⟩ := w_compare hN
  have hi := hN.1
  refine ⟨f, g, h1, ?_, ?_, ?_⟩
  · refine tN_ne ?_ g (by unfold netI at hi; omega) (by unfold netI at hi; omega)
    unfold tr_si
    refine tN_ne ?_ _ (by unfold netI at hi; omega) (by unfold netI at hi; omega)
    exact tN_ne hN f (by unfold netI at hi; omega) (by unfold netI at hi; omega)
  · rw [tr_sa_ne _ _ (by decide), si_s]
  · intro a b ha hb
    rw [tr_sa_at]
    exact h2 a b ha hb
theorem w_comesBack {H : tr_H} {i n : Nat} {w : Nat → Int} (hH : gainsH H i n w) {a b : Nat} (he : eP (eB n w) a b) : (onR n w a b → f_X6_comesBack (iI a) (iI b) H = some 1) ∧ (¬ onR n w a b → f_X6_comesBack (iI a) (iI b) H = some 0) := by
  have hw := hH.1.2.1
  have h6 := hw.2.1
  have hab := eB_b a b he
  have g := hH.2.2 b a hab.2 hab.1
  have bb := FW_b hw (pac_noGain hw) (k := n) (Nat.le_refl _) hab.2 hab.1
  have ho := FW_on hw he
  have n1 : ((b : Int) * 6 + (a : Int)).toNat = 6 * b + a := by omega
  unfold f_X6_comesBack
  unfold NOW at bb ho
  constructor
  · intro q
    have q2 := ho.mpr q
    simp (disch := omega) only [iI_0, iI_1, iI_2, iI_3, iI_4, iI_5, iI_6, iI_7, iI_8, iI_9, iI_10, iI_11, iI_12, iI_14, iI_20, iI_30, iI_31, iI_36, iI_37, iI_40, iI_48, iI_60, iI_63, iI_64, iI_78, iI_100, iI_255, iI_481, iI_1000000, iI_m1, iI_m2, iI_m3, iI_m4, iI_m9, iI_m1000000, iI_add, iI_sub, iI_mul, iI_neg, iI_lt, iI_le, iI_eq, iI_cl, tr_bd, tr_bn_some, tr_b2_some, tr_gdI, tr_nzI, if_pos, if_neg, ↓reduceIte, n1, g]
  · intro q
    have q2 : FW n w (pac n w) n b a = -1000000 := by
      apply Classical.byContradiction
      intro q3
      exact q (ho.mp q3)
    rw [q2] at g
    simp (disch := omega) only [iI_0, iI_1, iI_2, iI_3, iI_4, iI_5, iI_6, iI_7, iI_8, iI_9, iI_10, iI_11, iI_12, iI_14, iI_20, iI_30, iI_31, iI_36, iI_37, iI_40, iI_48, iI_60, iI_63, iI_64, iI_78, iI_100, iI_255, iI_481, iI_1000000, iI_m1, iI_m2, iI_m3, iI_m4, iI_m9, iI_m1000000, iI_add, iI_sub, iI_mul, iI_neg, iI_lt, iI_le, iI_eq, iI_cl, tr_bd, tr_bn_some, tr_b2_some, tr_gdI, tr_nzI, if_pos, if_neg, ↓reduceIte, n1, g]
theorem w_isCritical {H : tr_H} {i n : Nat} {w : Nat → Int} (hH : gainsH H i n w) {a b : Nat} (ha : a < 10) (hb : b < 10) : (crR n w a b → f_X6_isCritical i (iI a) (iI b) H = some 1) ∧ (¬ crR n w a b → f_X6_isCritical i (iI a) (iI b) H = some 0) := by
  have hw := hH.1.2.1
  have h6 := hw.2.1
  have ho := n_of hH.1 (a := (a : Int)) (b := (b : Int)) (by omega) (by omega) (by omega) (by omega)
  unfold f_X6_isCritical
  rw [ho, tr_bn_some]
  by_cases he : eP (eB n w) a b
  · have hab := eB_b a b he
    have hne : w (6 * a + b) ≠ -9 := by simp [eP, eB] at he; exact he.2.2
    have b1 := okn_b hw (c := 6 * a + b) (by omega)
    have g := hH.2.2 b a hab.2 hab.1
    have bb := FW_b hw (pac_noGain hw) (k := n) (Nat.le_refl _) hab.2 hab.1
    have hg := w_gainOf hH.1 hH.2.1 hab.1 hab.2
    rw [if_neg hne] at hg
    have hc := FW_cr hw he
    have hcb := w_comesBack hH he
    have hpb := pac_b hw
    have hon := FW_on hw he
    have n1 : ((b : Int) * 6 + (a : Int)).toNat = 6 * b + a := by omega
    rw [woI_in hab.1 hab.2, if_neg (by rw [iI_m9, iI_eq (by omega) (by omega) (by omega) (by omega)]; exact hne)]
    unfold rdw wN at hc
    by_cases co : onR n w a b
    · rw [hcb.1 co, tr_bn_some, if_neg (show ¬ (1 : Int32) = 0 by decide), hg, tr_bn_some]
      have q1 := hon.mpr co
      have bb2 := bb.resolve_left q1
      constructor
      · intro q
        have q2 := (hc.mpr q).2
        simp (disch := omega) only [iI_0, iI_1, iI_2, iI_3, iI_4, iI_5, iI_6, iI_7, iI_8, iI_9, iI_10, iI_11, iI_12, iI_14, iI_20, iI_30, iI_31, iI_36, iI_37, iI_40, iI_48, iI_60, iI_63, iI_64, iI_78, iI_100, iI_255, iI_481, iI_1000000, iI_m1, iI_m2, iI_m3, iI_m4, iI_m9, iI_m1000000, iI_add, iI_sub, iI_mul, iI_neg, iI_lt, iI_le, iI_eq, iI_cl, tr_bd, tr_bn_some, tr_b2_some, tr_gdI, tr_nzI, if_pos, if_neg, ↓reduceIte, n1, g]
      · intro q
        have q2 : ¬ 60 * w (6 * a + b) - pac n w + FW n w (pac n w) n b a = 0 := fun z => q (hc.mp ⟨q1, z⟩)
        simp (disch := omega) only [iI_0, iI_1, iI_2, iI_3, iI_4, iI_5, iI_6, iI_7, iI_8, iI_9, iI_10, iI_11, iI_12, iI_14, iI_20, iI_30, iI_31, iI_36, iI_37, iI_40, iI_48, iI_60, iI_63, iI_64, iI_78, iI_100, iI_255, iI_481, iI_1000000, iI_m1, iI_m2, iI_m3, iI_m4, iI_m9, iI_m1000000, iI_add, iI_sub, iI_mul, iI_neg, iI_lt, iI_le, iI_eq, iI_cl, tr_bd, tr_bn_some, tr_b2_some, tr_gdI, tr_nzI, if_pos, if_neg, ↓reduceIte, n1, g]
    · rw [hcb.2 co, tr_bn_some, if_pos rfl]
      exact ⟨fun q => absurd (crR_on q) co, fun _ => rfl⟩
  · have e : woI n w a b = -9 := by
      unfold woI
      by_cases c : (0 : Int) ≤ a ∧ (a : Int) < n ∧ (0 : Int) ≤ b ∧ (b : Int) < n
      · rw [if_pos c]
        simp only [Int.toNat_natCast]
        apply Classical.byContradiction
        intro q
        apply he
        simp [eP, eB]
        exact ⟨by omega, by omega, q⟩
      · rw [if_neg c]
    rw [e, if_pos (show iI (-9) = -9 from rfl)]
    exact ⟨fun q => absurd (onR_ed (crR_on q)) he, fun _ => rfl⟩
/-- the reference's bits -/
theorem rF_bits {h : tr_H} {n : Nat} {w : Nat → Int} (hw : okn n w) (hF : rF h w (ringsL (eB n w) n (fun k => (63 : Nat).testBit k))) : ∃ (rwt cw cd : Nat), h.2 0 20 = lN cw ∧ h.1 0 21 = nI cd ∧ h.2 0 22 = lN rwt ∧ rwt < 2 ^ 36 ∧ cw < 2 ^ 36 ∧ cd < 2 ^ 6 ∧ (∀ a b, a < 6 → b < 6 → (rwt.testBit (6 * a + b) = true ↔ onR n w a b)) ∧ (∀ a b, a < 6 → b < 6 → (cw.testBit (6 * a + b) = true ↔ crR n w a b)) ∧ (∀ a, cd.testBit a = true ↔ ∃ b, crR n w a b) := by
  have h6 := hw.2.1
  obtain ⟨-, S, B, rwt, cw, cd, f2, f3, f4, f5, f6, f7, f8, f9⟩ := id hF
  -- a bit of a ring's waits
  have hE : ∀ (q : Nat × List Nat), q ∈ ringsL (eB n w) n (fun k => (63 : Nat).testBit k) → ∀ k, hasE q k → k < 36 ∧ ∀ a b, a < 6 → b < 6 → k = 6 * a + b → (a, b) ∈ edg q.1 (q.2 ++ [q.1]) := by
    rintro ⟨x, l⟩ hq k ⟨p, p1, p2⟩
    have r := (mem_ringsL.mp hq).1
    have pl := eB_b _ _ (edg_chn _ _ r.2 _ p1).1
    refine ⟨by omega, fun a b ha hb e => ?_⟩
    have e1 : p = (a, b) := Prod.ext (by show p.1 = a; omega) (by show p.2 = b; omega)
    rw [← e1]
    exact p1
  have hin : ∀ x l, ring (eP (eB n w)) x l → ∃ x' l', (x', l') ∈ ringsL (eB n w) n (fun k => (63 : Nat).testBit k) ∧ l'.length = l.length ∧ wsm (wN w) x' (l' ++ [x']) = wsm (wN w) x (l ++ [x]) ∧ (∀ p, p ∈ edg x' (l' ++ [x']) ↔ p ∈ edg x (l ++ [x])) ∧ ∀ y, y ∈ x' :: l' ↔ y ∈ x :: l := fun x l hr => ring_in hr (fun y hy => ⟨ring_lt hr y hy, m63 y (by have := ring_lt hr y hy; omega)⟩) (wN w)
  have hr1 : ∀ a b, a < 6 → b < 6 → (rwt.testBit (6 * a + b) = true ↔ onR n w a b) := by
    intro a b ha hb
    rw [f8]
    constructor
    · rintro ⟨⟨x, l⟩, q1, q2⟩
      exact ⟨x, l, (mem_ringsL.mp q1).1, (hE _ q1 _ q2).2 a b ha hb rfl⟩
    · rintro ⟨x, l, r1, r2⟩
      obtain ⟨x', l', i1, -, -, i4, -⟩ := hin x l r1
      exact ⟨(x', l'), i1, (a, b), (i4 _).mpr r2, rfl⟩
  have hr2 : rwt < 2 ^ 36 := Nat.lt_pow_two_of_testBit _ (fun k hk => by
    apply Classical.byContradiction
    intro q
    have q2 : rwt.testBit k = true := by simpa using q
    obtain ⟨z, z1, z2⟩ := (f8 k).mp q2
    have := (hE z z1 k z2).1
    omega)
  -- where the mean is the greatest
  obtain ⟨P, S', B', g1, g2, g3, g4⟩ := rF_pace hw hF
  have eP' := isPace_one g1 (pac_isPace hw (fun y hy => m63 y (by omega)))
  subst eP'
  have eS : iI S = iI S' := f2.symm.trans g2
  have eB' : iI B = iI B' := f3.symm.trans g3
  rcases f9 with ⟨c1, c2, c3, c4⟩ | ⟨c1, c2, c3, c4, c5⟩
  · -- no ring at all
    have no : ∀ x l, ¬ ring (eP (eB n w)) x l := by
      intro x l hr
      obtain ⟨x', l', i1, -⟩ := hin x l hr
      rw [c1] at i1
      cases i1
    refine ⟨rwt, cw, cd, f4, f5, f6, hr2, by rw [c3]; decide, by rw [c4]; decide, hr1, ?_, ?_⟩
    · intro a b _ _
      rw [c3]
      constructor
      · intro q; simp at q
      · rintro ⟨x, l, r1, -⟩; exact absurd r1 (no x l)
    · intro a
      rw [c4]
      constructor
      · intro q; simp at q
      · rintro ⟨b, x, l, r1, -⟩; exact absurd r1 (no x l)
  · rcases g4 with ⟨d1, d2⟩ | ⟨d1, d2, d3, d4, d5, d6, d7⟩
    · rw [d2] at eB'
      have : B = 0 := by
        have q := eB'
        rw [iI_eq (by omega) (by omega) (by omega) (by omega)] at q
        exact q
      omega
    · have e1 : S = S' := by
        have q := eS
        rw [iI_eq (by omega) (by omega) (by omega) (by omega)] at q
        exact q
      have e2 : B = B' := by
        have q := eB'
        rw [iI_eq (by omega) (by omega) (by omega) (by omega)] at q
        exact q
      subst e1; subst e2
      have hm : ∀ (s L : Int), s * B = S * L ↔ 60 * s = pac n w * L := by
        intro s L
        constructor
        · intro q
          have k1 : 60 * s * B = pac n w * L * B := by
            rw [Int.mul_assoc, q, ← Int.mul_assoc, d7, Int.mul_assoc, Int.mul_comm B L, ← Int.mul_assoc]
          exact Int.eq_of_mul_eq_mul_right (by omega) k1
        · intro q
          have k1 : 60 * (s * B) = 60 * (S * L) := by
            rw [← Int.mul_assoc, q, ← Int.mul_assoc, d7, Int.mul_assoc, Int.mul_comm L B, ← Int.mul_assoc]
          omega
      have hc1 : ∀ a b, a < 6 → b < 6 → (cw.testBit (6 * a + b) = true ↔ crR n w a b) := by
        intro a b ha hb
        rw [c4]
        constructor
        · rintro ⟨⟨x, l⟩, q1, q2, q3⟩
          exact ⟨x, l, (mem_ringsL.mp q1).1, (hE _ q1 _ q3).2 a b ha hb rfl, (hm _ _).mp q2⟩
        · rintro ⟨x, l, r1, r2, r3⟩
          obtain ⟨x', l', i1, i2, i3, i4, -⟩ := hin x l r1
          refine ⟨(x', l'), i1, (hm _ _).mpr ?_, (a, b), (i4 _).mpr r2, rfl⟩
          show 60 * wsm (wN w) x' (l' ++ [x']) = pac n w * (l'.length + 1 : Nat)
          rw [i3, i2]
          exact r3
      refine ⟨rwt, cw, cd, f4, f5, f6, hr2, ?_, ?_, hr1, hc1, ?_⟩
      · exact Nat.lt_pow_two_of_testBit _ (fun k hk => by
          apply Classical.byContradiction
          intro q
          have q2 : cw.testBit k = true := by simpa using q
          obtain ⟨z, z1, -, z2⟩ := (c4 k).mp q2
          have := (hE z z1 k z2).1
          omega)
      · exact Nat.lt_pow_two_of_testBit _ (fun k hk => by
          apply Classical.byContradiction
          intro q
          have q2 : cd.testBit k = true := by simpa using q
          obtain ⟨⟨x, l⟩, z1, -, z2⟩ := (c5 k).mp q2
          have := ring_lt (mem_ringsL.mp z1).1 k z2
          omega)
      · intro a
        rw [c5]
        constructor
        · rintro ⟨⟨x, l⟩, q1, q2, q3⟩
          have r := (mem_ringsL.mp q1).1
          -- a departure of a ring has a wait in it
          have hex : ∃ b, (a, b) ∈ edg x (l ++ [x]) := by
            have q3' : a ∈ x :: l := q3
            obtain ⟨k, k1, k2⟩ := mem_gl q3'
            have := (edg_take x (l ++ [x]) (gl x (l ++ [x]) k, gl x (l ++ [x]) (k + 1)) (l.length + 1) (by simp)).mpr ⟨k, by omega, rfl⟩
            rw [List.take_of_length_le (by simp), gl_snoc k1, ← k2] at this
            exact ⟨_, this⟩
          obtain ⟨b, hb⟩ := hex
          exact ⟨b, x, l, r, hb, (hm _ _).mp q2⟩
        · rintro ⟨b, x, l, r1, r2, r3⟩
          obtain ⟨x', l', i1, i2, i3, i4, i5⟩ := hin x l r1
          refine ⟨(x', l'), i1, (hm _ _).mpr ?_, (i5 a).mpr ?_⟩
          · show 60 * wsm (wN w) x' (l' ++ [x']) = pac n w * (l'.length + 1 : Nat)
            rw [i3, i2]
            exact r3
          · have q : a ∈ x :: (l ++ [x]) := (edg_chn _ _ r1.2 _ r2).2.1
            rcases List.mem_cons.mp q with q | q
            · rw [q]; simp
            · rcases List.mem_append.mp q with q | q
              · simp [q]
              · rw [List.mem_singleton] at q; rw [q]; simp
end
section
/-! the earliest times by a period that is kept -/
theorem j_fill (h : tr_H) (c k : Nat) (v : Int32) (hk : k < 2147483648) : f_J7_fill_53178 c k v h = some (tr_sa h c (fun j => if j < k then v else h.1 c j)) := by
  unfold f_J7_fill_53178
  have e0 : Int32.ofNat k = iI k := (iI_nat k).symm
  rw [e0]
  unfold tr_bd
  dsimp only
  have key := tr_seq (f := fun q => f_J7_fill_53178_L5 (iI k) k c v q.1 q.2) (fun m => (iI m, tr_sa h c (fun j => if j < m then v else h.1 c j))) (lo := 0) (hi := k) (r := tr_sa h c (fun j => if j < k then v else h.1 c j)) (by omega) ?_ ?_
  · have e1 : ((0 : Int32), h) = (iI (0 : Nat), tr_sa h c (fun j => if j < 0 then v else h.1 c j)) := by
      have : (fun j => if j < 0 then v else h.1 c j) = h.1 c := by funext j; simp
      rw [this, tr_sa_self]
      rfl
    rw [e1, key]
    rfl
  · intro m _ hm
    show f_J7_fill_53178_L5 (iI k) k c v (iI m) _ = some (.inl (iI ((m + 1 : Nat)), _))
    unfold f_J7_fill_53178_L5
    simp (disch := omega) only [iI_0, iI_1, iI_2, iI_3, iI_4, iI_5, iI_6, iI_7, iI_8, iI_9, iI_10, iI_11, iI_12, iI_14, iI_20, iI_30, iI_31, iI_36, iI_37, iI_40, iI_48, iI_60, iI_63, iI_64, iI_78, iI_100, iI_255, iI_481, iI_1000000, iI_m1, iI_m2, iI_m3, iI_m4, iI_m9, iI_m1000000, iI_add, iI_sub, iI_mul, iI_neg, iI_lt, iI_le, iI_eq, iI_cl, tr_bd, tr_bn_some, tr_b2_some, tr_gdI, tr_nzI, if_pos, if_neg, ↓reduceIte, Int.toNat_natCast, tr_si, tr_sa_at, tr_sa_sa]
    have e2 : upd (fun j => if j < m then v else h.1 c j) m v = fun j => if j < m + 1 then v else h.1 c j := by
      funext j
      unfold upd
      by_cases e : j = m
      · rw [if_pos e, if_pos (by omega)]
      · rw [if_neg e]
        dsimp only
        by_cases q : j < m
        · rw [if_pos q, if_pos (by omega)]
        · rw [if_neg q, if_neg (by omega)]
    rw [e2]
    rfl
  · show f_J7_fill_53178_L5 (iI k) k c v (iI k) _ = _
    unfold f_J7_fill_53178_L5
    rw [if_pos (Int32.le_refl _)]
/-- one wait laid on the times -/
def rlx (w : Nat → Int) (p : Int) (i j : Nat) (T : Nat → Int) : Nat → Int := if w (6 * i + j) = -9 then T else fun v => if v = j then max (T j) (T i + w (6 * i + j) - p) else T v
def rlr (n : Nat) (w : Nat → Int) (p : Int) (i : Nat) (T : Nat → Int) : Nat → Int := itr (fun j T => rlx w p i j T) n T
def rnd (n : Nat) (w : Nat → Int) (p : Int) (T : Nat → Int) : Nat → Int := itr (fun i T => rlr n w p i T) n T
def TM (n : Nat) (w : Nat → Int) (p : Int) (m : Nat) : Nat → Int := itr (fun _ T => rnd n w p T) m (fun _ => 0)
def cw_ (w : Nat → Int) (p : Int) : Nat → Nat → Int := fun i j => wN w i j - p
section TIMES
variable {n : Nat} {w : Nat → Int} {p : Int}
/-- the period is kept: no ring takes longer -/
def kept (n : Nat) (w : Nat → Int) (p : Int) : Prop := pac n w ≤ 60 * p ∧ 0 ≤ p ∧ p ≤ 20
theorem kept_ring (hw : okn n w) (hk : kept n w p) : ∀ x b, ring (eP (eB n w)) x b → wsm (cw_ w p) x (b ++ [x]) ≤ 0 := by
  intro x b hr
  have e : ∀ (l : List Nat) (u : Nat), wsm (cw_ w p) u l = wsm (wN w) u l - p * l.length := by
    intro l
    induction l with
    | nil => intro u; simp [wsm]
    | cons y l ih =>
      intro u
      simp only [wsm, ih y, cw_, List.length_cons, Int.natCast_add, Int.mul_add]
      omega
  rw [e, List.length_append, List.length_singleton]
  rcases pac_all hw with ⟨-, h2⟩ | ⟨-, -, h3, -⟩
  · exact absurd hr (h2 x b)
  · have h4 := h3 x b hr
    have h5 : pac n w * ((b.length + 1 : Nat) : Int) ≤ 60 * p * ((b.length + 1 : Nat) : Int) := Int.mul_le_mul_of_nonneg_right hk.1 (by omega)
    rw [Int.mul_assoc] at h5
    omega
/-- each time is that of a walk -/
def TW (n : Nat) (w : Nat → Int) (p : Int) (T : Nat → Int) : Prop := (∀ v, v < n → 0 ≤ T v ∧ ∃ u l, u < n ∧ chn (eP (eB n w)) u l ∧ la u l = v ∧ wsm (cw_ w p) u l = T v) ∧ ∀ v, n ≤ v → T v = 0
theorem cwalk9 (hw : okn n w) (hp : 0 ≤ p) : ∀ (l : List Nat) (u : Nat), chn (eP (eB n w)) u l → wsm (cw_ w p) u l ≤ 9 * l.length := by
  intro l
  induction l with
  | nil => intro u _; simp [wsm]
  | cons x l ih =>
    intro u h
    have h1 := eB_nn hw _ _ h.1
    have h2 := ih x h.2
    simp only [wsm, cw_, List.length_cons] at h2 ⊢
    omega
theorem TW_b (hw : okn n w) (hk : kept n w p) {T : Nat → Int} (hT : TW n w p T) (v : Nat) : 0 ≤ T v ∧ T v ≤ 60 := by
  have h6 := hw.2.1
  by_cases hv : v < n
  · obtain ⟨h1, u, l, h2, h3, h4, h5⟩ := hT.1 v hv
    obtain ⟨l', s1, s2, s3, s4, -⟩ := walk_simple u l h3 (fun x b h _ => kept_ring hw hk x b h)
    have h7 := nodup_lt n (u :: l') s1 (chn_mem_lt h2 s2)
    have h8 := cwalk9 hw hk.2.1 l' u s2
    simp only [List.length_cons] at h7
    omega
  · rw [hT.2 v (by omega)]
    omega
theorem TW_rlx (hw : okn n w) {T : Nat → Int} (hT : TW n w p T) {i j : Nat} (hi : i < n) (hj : j < n) : TW n w p (rlx w p i j T) ∧ ∀ v, T v ≤ rlx w p i j T v := by
  unfold rlx
  by_cases c : w (6 * i + j) = -9
  · rw [if_pos c]
    exact ⟨hT, fun v => Int.le_refl _⟩
  · rw [if_neg c]
    refine ⟨⟨fun v hv => ?_, fun v hv => ?_⟩, fun v => ?_⟩
    · dsimp only
      by_cases e : v = j
      · subst e
        rw [if_pos rfl]
        by_cases c2 : T v < T i + w (6 * i + v) - p
        · rw [show max (T v) (T i + w (6 * i + v) - p) = T i + w (6 * i + v) - p by omega]
          obtain ⟨h1, u, l, h2, h3, h4, h5⟩ := hT.1 i hi
          have h0 := (hT.1 v hv).1
          refine ⟨by omega, u, l ++ [v], h2, ?_, by rw [la_app]; rfl, ?_⟩
          · rw [chn_app, h4]
            refine ⟨h3, ?_, trivial⟩
            simp [eP, eB]
            exact ⟨hi, hj, c⟩
          · rw [wsm_app, h4, h5]
            simp only [wsm, cw_, wN]
            omega
        · rw [show max (T v) (T i + w (6 * i + v) - p) = T v by omega]
          exact hT.1 v hv
      · rw [if_neg e]
        exact hT.1 v hv
    · dsimp only
      rw [if_neg (by omega)]
      exact hT.2 v hv
    · split
      · rename_i e; subst e; omega
      · exact Int.le_refl _
theorem TW_rlr (hw : okn n w) {T : Nat → Int} (hT : TW n w p T) {i : Nat} (hi : i < n) : ∀ m, m ≤ n → TW n w p (itr (fun j T => rlx w p i j T) m T) ∧ ∀ v, T v ≤ itr (fun j T => rlx w p i j T) m T v := by
  intro m
  induction m with
  | zero => intro _; exact ⟨hT, fun v => Int.le_refl _⟩
  | succ m ih =>
    intro hm
    have h1 := ih (by omega)
    have h2 := TW_rlx hw h1.1 hi (show m < n by omega)
    exact ⟨h2.1, fun v => Int.le_trans (h1.2 v) (h2.2 v)⟩
theorem TW_rnd (hw : okn n w) {T : Nat → Int} (hT : TW n w p T) : ∀ m, m ≤ n → TW n w p (itr (fun i T => rlr n w p i T) m T) ∧ ∀ v, T v ≤ itr (fun i T => rlr n w p i T) m T v := by
  intro m
  induction m with
  | zero => intro _; exact ⟨hT, fun v => Int.le_refl _⟩
  | succ m ih =>
    intro hm
    have h1 := ih (by omega)
    have h2 := TW_rlr hw h1.1 (show m < n by omega) n (Nat.le_refl _)
    exact ⟨h2.1, fun v => Int.le_trans (h1.2 v) (h2.2 v)⟩
theorem TW_TM (hw : okn n w) : ∀ m, TW n w p (TM n w p m) := by
  intro m
  induction m with
  | zero => exact ⟨fun v hv => ⟨Int.le_refl _, v, [], hv, trivial, rfl, rfl⟩, fun _ _ => rfl⟩
  | succ m ih => exact (TW_rnd hw ih n (Nat.le_refl _)).1
theorem TM_mono (hw : okn n w) (m v : Nat) : TM n w p m v ≤ TM n w p (m + 1) v := (TW_rnd hw (TW_TM hw m) n (Nat.le_refl _)).2 v
/-- a round lays every wait -/
theorem rnd_ge (hw : okn n w) {T : Nat → Int} (hT : TW n w p T) {i j : Nat} (hi : i < n) (hj : j < n) (he : w (6 * i + j) ≠ -9) : T i + w (6 * i + j) - p ≤ rnd n w p T j := by
  have h1 := TW_rnd hw hT i (by omega)
  have h2 := TW_rlr hw h1.1 hi j (by omega)
  have h3 : itr (fun j T => rlx w p i j T) j (itr (fun i T => rlr n w p i T) i T) i + w (6 * i + j) - p ≤ itr (fun j T => rlx w p i j T) (j + 1) (itr (fun i T => rlr n w p i T) i T) j := by
    show _ ≤ rlx w p i j (itr (fun j T => rlx w p i j T) j (itr (fun i T => rlr n w p i T) i T)) j
    unfold rlx
    rw [if_neg he, if_pos rfl]
    omega
  -- the rest of the row, and the rows behind it, take nothing away
  have up1 : ∀ d m, m + d ≤ n → ∀ (S : Nat → Int), TW n w p S → ∀ v, itr (fun j T => rlx w p i j T) m S v ≤ itr (fun j T => rlx w p i j T) (m + d) S v := by
    intro d
    induction d with
    | zero => intro m _ S _ v; exact Int.le_refl _
    | succ d ih =>
      intro m hm S hS v
      have q1 := ih m (by omega) S hS v
      have q2 := (TW_rlx hw (TW_rlr hw hS hi (m + d) (by omega)).1 hi (show m + d < n by omega)).2 v
      exact Int.le_trans q1 q2
  have up2 : ∀ d m, m + d ≤ n → ∀ (S : Nat → Int), TW n w p S → ∀ v, itr (fun i T => rlr n w p i T) m S v ≤ itr (fun i T => rlr n w p i T) (m + d) S v := by
    intro d
    induction d with
    | zero => intro m _ S _ v; exact Int.le_refl _
    | succ d ih =>
      intro m hm S hS v
      have q1 := ih m (by omega) S hS v
      have q2 := (TW_rlr hw (TW_rnd hw hS (m + d) (by omega)).1 (show m + d < n by omega) n (Nat.le_refl _)).2 v
      exact Int.le_trans q1 q2
  have k1 := up1 (n - (j + 1)) (j + 1) (by omega) _ h1.1 j
  rw [show j + 1 + (n - (j + 1)) = n by omega] at k1
  have k2 := up2 (n - (i + 1)) (i + 1) (by omega) _ hT j
  rw [show i + 1 + (n - (i + 1)) = n by omega] at k2
  have k3 := h2.2 i
  have k4 := h1.2 i
  have k5 : itr (fun i T => rlr n w p i T) (i + 1) T j = itr (fun j T => rlx w p i j T) n (itr (fun i T => rlr n w p i T) i T) j := rfl
  unfold rnd
  omega
theorem TM_walk (hw : okn n w) : ∀ (l : List Nat) (u : Nat), u < n → chn (eP (eB n w)) u l → wsm (cw_ w p) u l ≤ TM n w p l.length (la u l) := by
  intro l
  generalize hd : l.length = d
  induction d generalizing l with
  | zero =>
    intro u hu _
    have : l = [] := List.length_eq_zero_iff.mp hd
    subst this
    exact Int.le_refl _
  | succ d ih =>
    intro u hu hc
    have hne : l ≠ [] := fun q => by subst q; simp at hd
    have e := List.dropLast_concat_getLast hne
    generalize l.dropLast = m at e
    generalize l.getLast hne = v at e
    subst e
    obtain ⟨c1, c2, -⟩ := (chn_app _ _ _).mp hc
    have hm : m.length = d := by simp at hd; omega
    have h1 := ih m hm u hu c1
    have hv := eB_b _ _ c2
    have he : w (6 * la u m + v) ≠ -9 := by simp [eP, eB] at c2; exact c2.2.2
    have h2 := rnd_ge (p := p) hw (TW_TM hw d) hv.1 hv.2 he
    rw [wsm_app, la_app]
    simp only [wsm, cw_, wN, la] at h1 ⊢
    show _ ≤ rnd n w p (TM n w p d) v
    omega
theorem TM_up (hw : okn n w) (m d v : Nat) : TM n w p m v ≤ TM n w p (m + d) v := by
  induction d with
  | zero => exact Int.le_refl _
  | succ d ih => exact Int.le_trans ih (TM_mono hw (m + d) v)
/-- so many turns as there are departures are enough -/
theorem TM_all (hw : okn n w) (hk : kept n w p) {u : Nat} {l : List Nat} (hu : u < n) (hc : chn (eP (eB n w)) u l) : wsm (cw_ w p) u l ≤ TM n w p n (la u l) := by
  obtain ⟨l', s1, s2, s3, s4, -⟩ := walk_simple u l hc (fun x b h _ => kept_ring hw hk x b h)
  have h7 := nodup_lt n (u :: l') s1 (chn_mem_lt hu s2)
  simp only [List.length_cons] at h7
  have h8 := TM_walk (p := p) hw l' u hu s2
  have h9 := TM_up (p := p) hw l'.length (n - l'.length) (la u l')
  rw [show l'.length + (n - l'.length) = n by omega, s3] at h9
  rw [s3] at h8
  omega
theorem TM_six (hw : okn n w) (hk : kept n w p) : TM n w p 6 = TM n w p n := by
  have h6 := hw.2.1
  funext v
  have h1 := TM_up (p := p) hw n (6 - n) v
  rw [show n + (6 - n) = 6 by omega] at h1
  by_cases hv : v < n
  · obtain ⟨-, u, l, a1, a2, a3, a4⟩ := (TW_TM (p := p) hw 6).1 v hv
    have h2 := TM_all hw hk a1 a2
    rw [a3, a4] at h2
    omega
  · rw [(TW_TM (p := p) hw 6).2 v (by omega), (TW_TM (p := p) hw n).2 v (by omega)]
/-- what a wait has to spare -/
def spr (n : Nat) (w : Nat → Int) (p : Int) (i j : Nat) : Int := TM n w p n j + p - TM n w p n i - w (6 * i + j)
theorem spr_nn (hw : okn n w) (hk : kept n w p) {i j : Nat} (he : eP (eB n w) i j) : 0 ≤ spr n w p i j ∧ spr n w p i j ≤ 100 := by
  have hij := eB_b i j he
  obtain ⟨-, u, l, a1, a2, a3, a4⟩ := (TW_TM (p := p) hw n).1 i hij.1
  have h2 := TM_all hw hk (u := u) (l := l ++ [j]) a1 (by rw [chn_app, a3]; exact ⟨a2, he, trivial⟩)
  rw [wsm_app, la_app, a3, a4] at h2
  simp only [wsm, cw_, wN, la] at h2
  have b1 := TW_b hw hk (TW_TM (p := p) hw n) i
  have b2 := TW_b hw hk (TW_TM (p := p) hw n) j
  have b3 := eB_nn hw i j he
  have b4 := hk.2
  unfold wN at b3
  unfold spr
  omega
end TIMES
end
section
/-! both sides lay the times -/
theorem max_le_ite (a b : Int) : max a b = if b ≤ a then a else b := by
  by_cases c : b ≤ a
  · rw [if_pos c]; omega
  · rw [if_neg c]; omega
theorem w_settle {h : tr_H} {i n : Nat} {w : Nat → Int} {p : Int} (hN : tN h i n w) (hk : kept n w p) : ∃ g, f_X0_settle i (iI p) h = some (tr_sa (tr_si h 24 2 (iI p)) 25 g) ∧ ∀ v, v < 6 → g v = iI (TM n w p n v) := by
  have hw := hN.2.1
  have h6 := hw.2.1
  have hi := hN.1
  have hp := hk.2
  obtain ⟨hb, ehb⟩ : ∃ hb, hb = tr_si h 24 2 (iI p) := ⟨_, rfl⟩
  have hNb : ∀ g, tN (tr_sa hb 25 g) i n w := by
    intro g
    refine tN_ne ?_ g (by unfold netI at hi; omega) (by unfold netI at hi; omega)
    rw [ehb]
    unfold tr_si
    exact tN_ne hN _ (by unfold netI at hi; omega) (by unfold netI at hi; omega)
  have hsz : ∀ g, (tr_sa hb 25 g).1 i 1 = iI n := fun g => (hNb g).2.2.1
  have hpc : ∀ g, (tr_sa hb 25 g).1 24 2 = iI p := fun g => by rw [tr_sa_ne _ _ (by decide), ehb, si_s]
  obtain ⟨r1, k1, g1, rfl, t1⟩ := tr_inv (f := fun q => f_X0_settle_L15 i q.1 q.2) (fun m s => ∃ g, s = (iI m, tr_sa hb 25 g) ∧ ∀ v, v < 6 → g v = iI (TM n w p m v)) (fun r => ∃ g, r = tr_sa hb 25 g ∧ ∀ v, v < 6 → g v = iI (TM n w p n v)) (hi := n) (by
    rintro m s hm ⟨g, rfl, hg⟩
    have hT := TW_TM (p := p) hw m
    obtain ⟨r2, k2, g2, rfl, t2⟩ := tr_inv (f := fun q => f_X0_settle_L26 i q.1 q.2) (fun a s => ∃ g, s = (iI a, tr_sa hb 25 g) ∧ ∀ v, v < 6 → g v = iI (itr (fun i T => rlr n w p i T) a (TM n w p m) v)) (fun r => ∃ g, r = tr_sa hb 25 g ∧ ∀ v, v < 6 → g v = iI (rnd n w p (TM n w p m) v)) (hi := n) (by
      rintro a s ha ⟨g, rfl, hg⟩
      have hTa := (TW_rnd hw hT a (by omega)).1
      generalize hTae : itr (fun i T => rlr n w p i T) a (TM n w p m) = Ta at hg hTa
      obtain ⟨r3, k3, g3, rfl, t3⟩ := tr_inv (f := fun q => f_X0_settle_L38 i (iI a) q.1 q.2) (fun b s => ∃ g, s = (iI b, tr_sa hb 25 g) ∧ ∀ v, v < 6 → g v = iI (itr (fun j T => rlx w p a j T) b Ta v)) (fun r => ∃ g, r = tr_sa hb 25 g ∧ ∀ v, v < 6 → g v = iI (rlr n w p a Ta v)) (hi := n) (by
        rintro b s hb2 ⟨g, rfl, hg⟩
        have hTb := (TW_rlr hw hTa ha b (by omega)).1
        have b1 := TW_b hw hk hTb a
        have b2 := TW_b hw hk hTb b
        have hgb := hg b (by omega)
        have hga := hg a (by omega)
        have ho := n_of (hNb g) (a := (a : Int)) (b := (b : Int)) (by omega) (by omega) (by omega) (by omega)
        rw [woI_in ha hb2] at ho
        have b3 := okn_b hw (c := 6 * a + b) (by omega)
        show ∃ s', f_X0_settle_L38 i (iI a) (iI b) (tr_sa hb 25 g) = some (.inl s') ∧ ∃ g, s' = (iI (b + 1 : Nat), tr_sa hb 25 g) ∧ ∀ v, v < 6 → g v = iI (rlx w p a b (itr (fun j T => rlx w p a j T) b Ta) v)
        generalize itr (fun j T => rlx w p a j T) b Ta = Tb at hg hTb b1 b2 hgb hga
        unfold f_X0_settle_L38
        rw [hsz, ho, hpc]
        by_cases c : w (6 * a + b) = -9
        · refine ⟨_, ?_, g, rfl, ?_⟩
          · simp (disch := omega) only [iI_0, iI_1, iI_2, iI_3, iI_4, iI_5, iI_6, iI_7, iI_8, iI_9, iI_10, iI_11, iI_12, iI_14, iI_20, iI_30, iI_31, iI_36, iI_37, iI_40, iI_48, iI_60, iI_63, iI_64, iI_78, iI_100, iI_255, iI_481, iI_1000000, iI_m1, iI_m2, iI_m3, iI_m4, iI_m9, iI_m1000000, iI_add, iI_sub, iI_mul, iI_neg, iI_lt, iI_le, iI_eq, iI_cl, tr_bd, tr_bn_some, tr_b2_some, tr_gdI, tr_nzI, if_pos, if_neg, ↓reduceIte, c]
            rfl
          · unfold rlx
            rw [if_pos c]
            exact hg
        · refine ⟨_, ?_, upd g b (iI (max (Tb b) (Tb a + w (6 * a + b) - p))), rfl, ?_⟩
          · simp (disch := omega) only [iI_0, iI_1, iI_2, iI_3, iI_4, iI_5, iI_6, iI_7, iI_8, iI_9, iI_10, iI_11, iI_12, iI_14, iI_20, iI_30, iI_31, iI_36, iI_37, iI_40, iI_48, iI_60, iI_63, iI_64, iI_78, iI_100, iI_255, iI_481, iI_1000000, iI_m1, iI_m2, iI_m3, iI_m4, iI_m9, iI_m1000000, iI_add, iI_sub, iI_mul, iI_neg, iI_lt, iI_le, iI_eq, iI_cl, tr_bd, tr_bn_some, tr_b2_some, tr_gdI, tr_nzI, if_pos, if_neg, ↓reduceIte, tr_maxI, tr_minI, Int.toNat_natCast, tr_si, tr_sa_at, tr_sa_sa, hga, hgb]
            rfl
          · intro v hv
            unfold rlx upd
            rw [if_neg c]
            by_cases e : v = b
            · rw [if_pos e, if_pos e]
            · rw [if_neg e, if_neg e, hg v hv]) (by
        rintro s ⟨g, rfl, hg⟩
        refine ⟨tr_sa hb 25 g, ?_, g, rfl, hg⟩
        show f_X0_settle_L38 i (iI a) (iI n) (tr_sa hb 25 g) = _
        unfold f_X0_settle_L38
        rw [hsz, if_pos (Int32.le_refl _)]) 0 (iI (0 : Nat), tr_sa hb 25 g) (by omega) ⟨g, rfl, hg⟩
      refine ⟨(iI (a + 1 : Nat), tr_sa hb 25 g3), ?_, g3, rfl, fun v hv => by show g3 v = iI (rlr n w p a (itr (fun i T => rlr n w p i T) a (TM n w p m)) v); rw [hTae]; exact t3 v hv⟩
      show f_X0_settle_L26 i (iI a) (tr_sa hb 25 g) = _
      unfold f_X0_settle_L26
      rw [hsz, if_neg (by rw [iI_le (by omega) (by omega) (by omega) (by omega)]; omega), show ((0 : Int32), tr_sa hb 25 g) = (iI (0 : Nat), tr_sa hb 25 g) from rfl, k3, tr_bn_some]
      unfold f_X0_settle_E102 tr_bd
      rw [iI_1, iI_add]
      rfl) (by
      rintro s ⟨g, rfl, hg⟩
      refine ⟨tr_sa hb 25 g, ?_, g, rfl, hg⟩
      show f_X0_settle_L26 i (iI n) (tr_sa hb 25 g) = _
      unfold f_X0_settle_L26
      rw [hsz, if_pos (Int32.le_refl _)]) 0 (iI (0 : Nat), tr_sa hb 25 g) (by omega) ⟨g, rfl, hg⟩
    refine ⟨(iI (m + 1 : Nat), tr_sa hb 25 g2), ?_, g2, rfl, t2⟩
    show f_X0_settle_L15 i (iI m) (tr_sa hb 25 g) = _
    unfold f_X0_settle_L15
    rw [hsz, if_neg (by rw [iI_le (by omega) (by omega) (by omega) (by omega)]; omega), show ((0 : Int32), tr_sa hb 25 g) = (iI (0 : Nat), tr_sa hb 25 g) from rfl, k2, tr_bn_some]
    unfold f_X0_settle_E108 tr_bd
    rw [iI_1, iI_add]
    rfl) (by
    rintro s ⟨g, rfl, hg⟩
    refine ⟨tr_sa hb 25 g, ?_, g, rfl, hg⟩
    show f_X0_settle_L15 i (iI n) (tr_sa hb 25 g) = _
    unfold f_X0_settle_L15
    rw [hsz, if_pos (Int32.le_refl _)]) 0 (iI (0 : Nat), tr_sa hb 25 (fun j => if j < 6 then 0 else hb.1 25 j)) (by omega) ⟨_, rfl, fun v hv => by rw [if_pos hv]; rfl⟩
  refine ⟨g1, ?_, t1⟩
  unfold f_X0_settle tr_bd
  dsimp only
  rw [← ehb, j_fill hb 25 6 0 (by decide), tr_bn_some, show ((0 : Int32), tr_sa hb 25 (fun j => if j < 6 then 0 else hb.1 25 j)) = (iI (0 : Nat), tr_sa hb 25 (fun j => if j < 6 then 0 else hb.1 25 j)) from rfl, k1]
  rfl
theorem r_layTimes {h : tr_H} {q n : Nat} {w : Nat → Int} {p : Int} (hP : tP h q n w) (hk : kept n w p) : ∃ g, f_X8_layTimes q (iI p) h = some (tr_sa h 13 g) ∧ ∀ v, v < 6 → g v = iI (TM n w p n v) := by
  have hw := hP.2.1
  have h6 := hw.2.1
  have hq := hP.1
  have hp := hk.2
  have hPb : ∀ g, tP (tr_sa h 13 g) q n w := by
    intro g
    obtain ⟨a1, a2, a3, a4⟩ := hP
    have e : (tr_sa h 13 g).1 q = h.1 q := tr_sa_ne _ _ (by unfold pagI at hq; omega)
    exact ⟨a1, a2, by rw [e]; exact a3, fun c hc => by rw [e]; exact a4 c hc⟩
  have hsz : ∀ g, (tr_sa h 13 g).1 q ((0 : Int32).toNatClampNeg) = iI n := fun g => (hPb g).2.2.1
  rw [← TM_six hw hk]
  obtain ⟨r1, k1, g1, rfl, t1⟩ := tr_inv (f := fun z => f_X8_layTimes_L23 q (iI p) z.1 z.2) (fun m s => ∃ g, s = (iI m, tr_sa h 13 g) ∧ ∀ v, v < 6 → g v = iI (TM n w p m v)) (fun r => ∃ g, r = tr_sa h 13 g ∧ ∀ v, v < 6 → g v = iI (TM n w p 6 v)) (hi := 6) (by
    rintro m s hm ⟨g, rfl, hg⟩
    have hT := TW_TM (p := p) hw m
    obtain ⟨r2, k2, g2, rfl, t2⟩ := tr_inv (f := fun z => f_X8_layTimes_L32 q (iI p) z.1 z.2) (fun a s => ∃ g, s = (iI a, tr_sa h 13 g) ∧ ∀ v, v < 6 → g v = iI (itr (fun i T => rlr n w p i T) a (TM n w p m) v)) (fun r => ∃ g, r = tr_sa h 13 g ∧ ∀ v, v < 6 → g v = iI (rnd n w p (TM n w p m) v)) (hi := n) (by
      rintro a s ha ⟨g, rfl, hg⟩
      have hTa := (TW_rnd hw hT a (by omega)).1
      generalize hTae : itr (fun i T => rlr n w p i T) a (TM n w p m) = Ta at hg hTa
      obtain ⟨r3, k3, g3, rfl, t3⟩ := tr_inv (f := fun z => f_X8_layTimes_L43 q (iI a) (iI p) z.1 z.2) (fun b s => ∃ g, s = (iI b, tr_sa h 13 g) ∧ ∀ v, v < 6 → g v = iI (itr (fun j T => rlx w p a j T) b Ta v)) (fun r => ∃ g, r = tr_sa h 13 g ∧ ∀ v, v < 6 → g v = iI (rlr n w p a Ta v)) (hi := n) (by
        rintro b s hb2 ⟨g, rfl, hg⟩
        have hTb := (TW_rlr hw hTa ha b (by omega)).1
        have b1 := TW_b hw hk hTb a
        have b2 := TW_b hw hk hTb b
        have hgb := hg b (by omega)
        have hga := hg a (by omega)
        have hm1 := r_minutesOf (hPb g) (i := a) (j := b) (by omega) (by omega)
        have hm2 := r_isThere (hPb g) (i := a) (j := b) (by omega) (by omega)
        have b3 := cvn_b hw (c := 6 * a + b) (by omega)
        show ∃ s', f_X8_layTimes_L43 q (iI a) (iI p) (iI b) (tr_sa h 13 g) = some (.inl s') ∧ ∃ g, s' = (iI (b + 1 : Nat), tr_sa h 13 g) ∧ ∀ v, v < 6 → g v = iI (rlx w p a b (itr (fun j T => rlx w p a j T) b Ta) v)
        generalize itr (fun j T => rlx w p a j T) b Ta = Tb at hg hTb b1 b2 hgb hga
        unfold f_X8_layTimes_L43
        rw [hsz, hm1, hm2]
        have usame : upd g b (iI (Tb b)) = g := by
          funext j
          unfold upd
          by_cases e : j = b
          · rw [if_pos e, e, hgb]
          · rw [if_neg e]
        by_cases c : w (6 * a + b) = -9
        · rw [if_pos c]
          refine ⟨_, ?_, g, rfl, ?_⟩
          · simp (disch := omega) only [iI_0, iI_1, iI_2, iI_3, iI_4, iI_5, iI_6, iI_7, iI_8, iI_9, iI_10, iI_11, iI_12, iI_14, iI_20, iI_30, iI_31, iI_36, iI_37, iI_40, iI_48, iI_60, iI_63, iI_64, iI_78, iI_100, iI_255, iI_481, iI_1000000, iI_m1, iI_m2, iI_m3, iI_m4, iI_m9, iI_m1000000, iI_add, iI_sub, iI_mul, iI_neg, iI_lt, iI_le, iI_eq, iI_cl, tr_bd, tr_bn_some, tr_b2_some, tr_gdI, tr_nzI, if_pos, if_neg, ↓reduceIte, tr_maxI, tr_minI, Int.toNat_natCast, tr_si, tr_sa_at, tr_sa_sa, hga, hgb, usame]
            rfl
          · unfold rlx
            rw [if_pos c]
            exact hg
        · rw [if_neg c]
          have e1 := b3.2.2.2 c
          rw [e1]
          have b4 := okn_b hw (c := 6 * a + b) (by omega)
          by_cases c2 : Tb a + w (6 * a + b) - p ≤ Tb b
          · refine ⟨_, ?_, g, rfl, ?_⟩
            · have e2 : Tb a + (w (6 * a + b) + 1 - 1) - p = Tb a + w (6 * a + b) - p := by omega
              simp (disch := omega) only [iI_0, iI_1, iI_2, iI_3, iI_4, iI_5, iI_6, iI_7, iI_8, iI_9, iI_10, iI_11, iI_12, iI_14, iI_20, iI_30, iI_31, iI_36, iI_37, iI_40, iI_48, iI_60, iI_63, iI_64, iI_78, iI_100, iI_255, iI_481, iI_1000000, iI_m1, iI_m2, iI_m3, iI_m4, iI_m9, iI_m1000000, iI_add, iI_sub, iI_mul, iI_neg, iI_lt, iI_le, iI_eq, iI_cl, tr_bd, tr_bn_some, tr_b2_some, tr_gdI, tr_nzI, if_pos, if_neg, ↓reduceIte, tr_maxI, tr_minI, Int.toNat_natCast, tr_si, tr_sa_at, tr_sa_sa, hga, hgb, usame, e2]
              rfl
            · intro v hv
              unfold rlx
              rw [if_neg c]
              by_cases e : v = b
              · rw [if_pos e, e, hgb]
                congr 1
                omega
              · rw [if_neg e, hg v hv]
          · refine ⟨_, ?_, upd g b (iI (Tb a + w (6 * a + b) - p)), rfl, ?_⟩
            · have e2 : Tb a + (w (6 * a + b) + 1 - 1) - p = Tb a + w (6 * a + b) - p := by omega
              simp (disch := omega) only [iI_0, iI_1, iI_2, iI_3, iI_4, iI_5, iI_6, iI_7, iI_8, iI_9, iI_10, iI_11, iI_12, iI_14, iI_20, iI_30, iI_31, iI_36, iI_37, iI_40, iI_48, iI_60, iI_63, iI_64, iI_78, iI_100, iI_255, iI_481, iI_1000000, iI_m1, iI_m2, iI_m3, iI_m4, iI_m9, iI_m1000000, iI_add, iI_sub, iI_mul, iI_neg, iI_lt, iI_le, iI_eq, iI_cl, tr_bd, tr_bn_some, tr_b2_some, tr_gdI, tr_nzI, if_pos, if_neg, ↓reduceIte, tr_maxI, tr_minI, Int.toNat_natCast, tr_si, tr_sa_at, tr_sa_sa, hga, hgb, e2]
              rfl
            · intro v hv
              unfold rlx upd
              rw [if_neg c]
              by_cases e : v = b
              · rw [if_pos e, if_pos e]
                congr 1
                omega
              · rw [if_neg e, if_neg e, hg v hv]) (by
        rintro s ⟨g, rfl, hg⟩
        refine ⟨tr_sa h 13 g, ?_, g, rfl, hg⟩
        show f_X8_layTimes_L43 q (iI a) (iI p) (iI n) (tr_sa h 13 g) = _
        unfold f_X8_layTimes_L43
        rw [hsz, if_pos (Int32.le_refl _)]) 0 (iI (0 : Nat), tr_sa h 13 g) (by omega) ⟨g, rfl, hg⟩
      refine ⟨(iI (a + 1 : Nat), tr_sa h 13 g3), ?_, g3, rfl, fun v hv => by show g3 v = iI (rlr n w p a (itr (fun i T => rlr n w p i T) a (TM n w p m)) v); rw [hTae]; exact t3 v hv⟩
      show f_X8_layTimes_L32 q (iI p) (iI a) (tr_sa h 13 g) = _
      unfold f_X8_layTimes_L32
      rw [hsz, if_neg (by rw [iI_le (by omega) (by omega) (by omega) (by omega)]; omega), show ((0 : Int32), tr_sa h 13 g) = (iI (0 : Nat), tr_sa h 13 g) from rfl, k3, tr_bn_some]
      unfold f_X8_layTimes_E119 tr_bd
      rw [iI_1, iI_add]
      rfl) (by
      rintro s ⟨g, rfl, hg⟩
      refine ⟨tr_sa h 13 g, ?_, g, rfl, hg⟩
      show f_X8_layTimes_L32 q (iI p) (iI n) (tr_sa h 13 g) = _
      unfold f_X8_layTimes_L32
      rw [hsz, if_pos (Int32.le_refl _)]) 0 (iI (0 : Nat), tr_sa h 13 g) (by omega) ⟨g, rfl, hg⟩
    refine ⟨(iI (m + 1 : Nat), tr_sa h 13 g2), ?_, g2, rfl, t2⟩
    show f_X8_layTimes_L23 q (iI p) (iI m) (tr_sa h 13 g) = _
    unfold f_X8_layTimes_L23
    rw [if_neg (by rw [iI_6, iI_le (by omega) (by omega) (by omega) (by omega)]; omega), show ((0 : Int32), tr_sa h 13 g) = (iI (0 : Nat), tr_sa h 13 g) from rfl, k2, tr_bn_some]
    unfold f_X8_layTimes_E125 tr_bd
    rw [iI_1, iI_add]
    rfl) (by
    rintro s ⟨g, rfl, hg⟩
    exact ⟨tr_sa h 13 g, rfl, g, rfl, hg⟩) 0 (iI (0 : Nat), tr_sa h 13 (fun j => if j < 6 then 0 else h.1 13 j)) (by omega) ⟨_, rfl, fun v hv => by rw [if_pos hv]; rfl⟩
  refine ⟨g1, ?_, t1⟩
  unfold f_X8_layTimes
  have k0 := tr_seq (f := fun z => f_X8_layTimes_L2 z.1 z.2) (fun m => (iI m, tr_sa h 13 (fun j => if j < m then 0 else h.1 13 j))) (lo := 0) (hi := 6) (r := tr_sa h 13 (fun j => if j < 6 then 0 else h.1 13 j)) (by omega) (by
    intro m _ hm
    show f_X8_layTimes_L2 (iI m) _ = some (.inl (iI ((m + 1 : Nat)), _))
    unfold f_X8_layTimes_L2
    simp (disch := omega) only [iI_0, iI_1, iI_2, iI_3, iI_4, iI_5, iI_6, iI_7, iI_8, iI_9, iI_10, iI_11, iI_12, iI_14, iI_20, iI_30, iI_31, iI_36, iI_37, iI_40, iI_48, iI_60, iI_63, iI_64, iI_78, iI_100, iI_255, iI_481, iI_1000000, iI_m1, iI_m2, iI_m3, iI_m4, iI_m9, iI_m1000000, iI_add, iI_sub, iI_mul, iI_neg, iI_lt, iI_le, iI_eq, iI_cl, tr_bd, tr_bn_some, tr_b2_some, tr_gdI, tr_nzI, if_pos, if_neg, ↓reduceIte, Int.toNat_natCast, tr_si, tr_sa_at, tr_sa_sa]
    have e2 : upd (fun j => if j < m then iI 0 else h.1 13 j) m (iI 0) = fun j => if j < m + 1 then iI 0 else h.1 13 j := by
      funext j
      unfold upd
      by_cases e : j = m
      · rw [if_pos e, if_pos (by omega)]
      · rw [if_neg e]
        dsimp only
        by_cases q : j < m
        · rw [if_pos q, if_pos (by omega)]
        · rw [if_neg q, if_neg (by omega)]
    rw [e2]
    rfl) rfl
  have e1 : ((0 : Int32), h) = (iI (0 : Nat), tr_sa h 13 (fun j => if j < 0 then 0 else h.1 13 j)) := by
    have : (fun j => if j < 0 then (0 : Int32) else h.1 13 j) = h.1 13 := by funext j; simp
    rw [this, tr_sa_self]
    rfl
  rw [e1, k0, tr_bn_some]
  unfold f_X8_layTimes_E21
  rw [show ((0 : Int32), tr_sa h 13 (fun j => if j < 6 then 0 else h.1 13 j)) = (iI (0 : Nat), tr_sa h 13 (fun j => if j < 6 then 0 else h.1 13 j)) from rfl, k1]
  rfl
end
section
/-! a delay that spreads: what walks have to spare, and how late each is -/
def spq (n : Nat) (w : Nat → Int) (p : Int) (at_ : Nat) : Nat → Nat → Int
  | 0, v => if v = at_ then 0 else 1000000
  | r + 1, v => itr (fun i a => if spq n w p at_ r i ≠ 1000000 ∧ w (6 * i + v) ≠ -9 then min a (spq n w p at_ r i + spr n w p i v) else a) n 1000000
theorem spq_s (n : Nat) (w : Nat → Int) (p : Int) (at_ r v : Nat) : spq n w p at_ (r + 1) v = itr (fun i a => if spq n w p at_ r i ≠ 1000000 ∧ w (6 * i + v) ≠ -9 then min a (spq n w p at_ r i + spr n w p i v) else a) n 1000000 := rfl
def lat (n : Nat) (w : Nat → Int) (p : Int) (at_ : Nat) (d : Int) : Nat → Nat → Int
  | 0, v => if v = at_ then d else 0
  | r + 1, v => if v < n then itr (fun i a => max a (if w (6 * i + v) = -9 then 0 else lat n w p at_ d r i - spr n w p i v)) n 0 else 0
theorem lat_s (n : Nat) (w : Nat → Int) (p : Int) (at_ : Nat) (d : Int) (r v : Nat) : lat n w p at_ d (r + 1) v = if v < n then itr (fun i a => max a (if w (6 * i + v) = -9 then 0 else lat n w p at_ d r i - spr n w p i v)) n 0 else 0 := rfl
section DELAY
variable {n : Nat} {w : Nat → Int} {p : Int} {at_ : Nat} {d : Int}
theorem sprN (hw : okn n w) (hk : kept n w p) {i v : Nat} (hi : i < n) (hv : v < n) (he : w (6 * i + v) ≠ -9) : 0 ≤ spr n w p i v ∧ spr n w p i v ≤ 100 := spr_nn hw hk (by simp [eP, eB]; exact ⟨hi, hv, he⟩)
theorem spq_b (hw : okn n w) (hk : kept n w p) : ∀ r v, v < n → (spq n w p at_ r v = 1000000 ∨ (0 ≤ spq n w p at_ r v ∧ spq n w p at_ r v ≤ 100 * r)) := by
  intro r
  induction r with
  | zero => intro v _; unfold spq; split <;> omega
  | succ r ih =>
    intro v hv
    rw [spq_s]
    refine itr_ind (fun (_ : Nat) (a : Int) => a = 1000000 ∨ (0 ≤ a ∧ a ≤ 100 * (r + 1 : Nat))) n (Or.inl rfl) (fun i a hi ha => ?_)
    by_cases c : spq n w p at_ r i ≠ 1000000 ∧ w (6 * i + v) ≠ -9
    · rw [if_pos c]
      have h1 := ih i hi
      have h2 := sprN hw hk hi hv c.2
      omega
    · rw [if_neg c]
      exact ha
theorem lat_b (hw : okn n w) (hk : kept n w p) (hd : 0 ≤ d ∧ d ≤ 30) : ∀ r v, 0 ≤ lat n w p at_ d r v ∧ lat n w p at_ d r v ≤ 30 := by
  intro r
  induction r with
  | zero => intro v; unfold lat; split <;> omega
  | succ r ih =>
    intro v
    rw [lat_s]
    by_cases hv : v < n
    · rw [if_pos hv]
      refine itr_ind (fun (_ : Nat) (a : Int) => 0 ≤ a ∧ a ≤ 30) n (by omega) (fun i a hi ha => ?_)
      by_cases c : w (6 * i + v) = -9
      · rw [if_pos c]; omega
      · rw [if_neg c]
        have h1 := ih i
        have h2 := sprN hw hk hi hv c
        omega
    · rw [if_neg hv]; omega
/-- how late each is: the delay less what the best walk has to spare -/
theorem lat_spq (hw : okn n w) (hk : kept n w p) (hd : 0 ≤ d ∧ d ≤ 30) : ∀ r v, r ≤ 40 → v < n → lat n w p at_ d r v = max 0 (d - spq n w p at_ r v) := by
  intro r
  induction r with
  | zero =>
    intro v _ _
    unfold lat spq
    by_cases e : v = at_
    · rw [if_pos e, if_pos e]; omega
    · rw [if_neg e, if_neg e]; omega
  | succ r ih =>
    intro v hr hv
    rw [lat_s, spq_s, if_pos hv]
    -- both go through the waits side by side
    have key : ∀ m, m ≤ n → itr (fun i a => max a (if w (6 * i + v) = -9 then 0 else lat n w p at_ d r i - spr n w p i v)) m 0 = max 0 (d - itr (fun i a => if spq n w p at_ r i ≠ 1000000 ∧ w (6 * i + v) ≠ -9 then min a (spq n w p at_ r i + spr n w p i v) else a) m 1000000) := by
      intro m
      induction m with
      | zero => intro _; simp only [itr]; omega
      | succ m ihm =>
        intro hm
        simp only [itr]
        rw [ihm (by omega)]
        generalize itr (fun i a => if spq n w p at_ r i ≠ 1000000 ∧ w (6 * i + v) ≠ -9 then min a (spq n w p at_ r i + spr n w p i v) else a) m 1000000 = acc
        by_cases c : w (6 * m + v) = -9
        · rw [if_pos c, if_neg (fun q => q.2 c)]; omega
        · rw [if_neg c]
          have h1 := ih m (by omega) (by omega)
          have h2 := sprN hw hk (show m < n by omega) hv c
          rw [h1]
          by_cases c2 : spq n w p at_ r m = 1000000
          · rw [if_neg (fun q => q.1 c2), c2]; omega
          · rw [if_pos ⟨c2, c⟩]; omega
    exact key n (Nat.le_refl _)
end DELAY
end
section
/-! what a step leaves as it was -/
def fr (L : List Nat) (h h' : tr_H) : Prop := (∀ c, c ∉ L → h'.1 c = h.1 c) ∧ h'.2 = h.2
theorem fr_rf (L : List Nat) (h : tr_H) : fr L h h := ⟨fun _ _ => rfl, rfl⟩
theorem fr_tr {L : List Nat} {a b c : tr_H} (h1 : fr L a b) (h2 : fr L b c) : fr L a c := ⟨fun k hk => (h2.1 k hk).trans (h1.1 k hk), h2.2.trans h1.2⟩
theorem fr_up {L M : List Nat} {a b : tr_H} (h : fr L a b) (hs : ∀ x, x ∈ L → x ∈ M) : fr M a b := ⟨fun k hk => h.1 k (fun q => hk (hs k q)), h.2⟩
theorem fr_sa {L : List Nat} (h : tr_H) {i : Nat} (f : Nat → Int32) (hi : i ∈ L) : fr L h (tr_sa h i f) := ⟨fun k hk => tr_sa_ne _ _ (fun e => hk (by rw [e]; exact hi)), rfl⟩
theorem fr_si {L : List Nat} (h : tr_H) {i : Nat} (k : Nat) (v : Int32) (hi : i ∈ L) : fr L h (tr_si h i k v) := fr_sa h _ hi
theorem tN_fr {L : List Nat} {h h' : tr_H} {i n : Nat} {w : Nat → Int} (hf : fr L h h') (h1 : i ∉ L) (h2 : i + 1 ∉ L) (hN : tN h i n w) : tN h' i n w := by
  obtain ⟨a, b, c, d⟩ := hN
  exact ⟨a, b, by rw [hf.1 i h1]; exact c, fun k hk => by rw [hf.1 _ h2]; exact d k hk⟩
theorem tP_fr {L : List Nat} {h h' : tr_H} {q n : Nat} {w : Nat → Int} (hf : fr L h h') (h1 : q ∉ L) (hP : tP h q n w) : tP h' q n w := by
  obtain ⟨a, b, c, d⟩ := hP
  exact ⟨a, b, by rw [hf.1 q h1]; exact c, fun k hk => by rw [hf.1 q h1]; exact d k hk⟩
theorem iI_ix {m : Nat} (h : m < 2147483648) : (iI (m : Int)).toNatClampNeg = m := by
  rw [iI_cl (by omega) (by omega)]
  exact Int.toNat_natCast m
/-! the class spreads a delay -/
def timH (h : tr_H) (n : Nat) (w : Nat → Int) (p : Int) : Prop := h.1 24 2 = iI p ∧ ∀ v, v < 6 → h.1 25 v = iI (TM n w p n v)
theorem w_timeOf {h : tr_H} {v : Nat} (hv : v < 6) : f_X0_timeOf (iI v) h = some (h.1 25 v) := by
  unfold f_X0_timeOf
  simp (disch := omega) only [iI_0, iI_1, iI_2, iI_3, iI_4, iI_5, iI_6, iI_7, iI_8, iI_9, iI_10, iI_11, iI_12, iI_14, iI_20, iI_30, iI_31, iI_36, iI_37, iI_40, iI_48, iI_60, iI_63, iI_64, iI_78, iI_100, iI_255, iI_481, iI_1000000, iI_m1, iI_m2, iI_m3, iI_m4, iI_m9, iI_m1000000, iI_add, iI_sub, iI_mul, iI_neg, iI_lt, iI_le, iI_eq, iI_cl, tr_bd, tr_bn_some, tr_b2_some, tr_gdI, tr_nzI, if_pos, if_neg, ↓reduceIte, Int.toNat_natCast]
theorem w_spareOf {h : tr_H} {i n : Nat} {w : Nat → Int} {p : Int} (hN : tN h i n w) (hT : timH h n w p) {a b : Nat} (ha : a < n) (hb : b < n) : f_X0_spareOf i (iI a) (iI b) h = some (iI (spr n w p a b)) := by
  have h6 := hN.2.1.2.1
  have ho := n_of hN (a := (a : Int)) (b := (b : Int)) (by omega) (by omega) (by omega) (by omega)
  rw [woI_in ha hb] at ho
  unfold f_X0_spareOf spr
  rw [w_timeOf (by omega), w_timeOf (by omega), ho, hT.1, hT.2 a (by omega), hT.2 b (by omega)]
  simp only [tr_bn_some, iI_add, iI_sub]
def spg (n : Nat) (w : Nat → Int) (p : Int) (at_ r v : Nat) : Nat → Int → Int := fun i a => if spq n w p at_ r i ≠ 1000000 ∧ w (6 * i + v) ≠ -9 then min a (spq n w p at_ r i + spr n w p i v) else a
theorem spq_0 (n : Nat) (w : Nat → Int) (p : Int) (at_ v : Nat) : spq n w p at_ 0 v = if v = at_ then 0 else 1000000 := rfl
theorem w_leastSpare {h : tr_H} {i n : Nat} {w : Nat → Int} {p : Int} {at_ r v : Nat} (hN : tN h i n w) (hk : kept n w p) (hT : timH h n w p) (hr : r ≤ 39) (hv : v < n) (hR : ∀ u, u < n → h.1 26 (6 * r + u) = iI (spq n w p at_ r u)) : f_X0_leastSpare i (iI r) (iI v) h = some (iI (spq n w p at_ (r + 1) v)) := by
  have hw := hN.2.1
  have h6 := hw.2.1
  have hsz := hN.2.2.1
  unfold f_X0_leastSpare
  have key := tr_seq (f := fun q => f_X0_leastSpare_L7 h i (iI r) (iI v) q.1 q.2) (fun m => (iI (itr (spg n w p at_ r v) m 1000000), iI m)) (lo := 0) (hi := n) (r := iI (spq n w p at_ (r + 1) v)) (by omega) ?_ ?_
  · rw [show ((1000000 : Int32), (0 : Int32)) = (iI (itr (spg n w p at_ r v) 0 1000000), iI (0 : Nat)) from by simp only [itr, iI_1000000]; rfl, key]
    rfl
  · intro m _ hm
    have hb : 0 ≤ itr (spg n w p at_ r v) m 1000000 ∧ itr (spg n w p at_ r v) m 1000000 ≤ 1000000 := by
      refine itr_ind (fun (_ : Nat) (a : Int) => 0 ≤ a ∧ a ≤ 1000000) m (by omega) (fun u a hu ha => ?_)
      unfold spg
      by_cases c : spq n w p at_ r u ≠ 1000000 ∧ w (6 * u + v) ≠ -9
      · rw [if_pos c]
        have h1 := spq_b (at_ := at_) hw hk r u (by omega)
        have h2 := sprN hw hk (show u < n by omega) hv c.2
        omega
      · rw [if_neg c]; exact ha
    have b1 := spq_b (at_ := at_) hw hk r m hm
    have g1 := hR m hm
    have g2 := n_of hN (a := (m : Int)) (b := (v : Int)) (by omega) (by omega) (by omega) (by omega)
    rw [woI_in hm hv] at g2
    have b2 := okn_b hw (c := 6 * m + v) (by omega)
    have g4 := w_spareOf hN hT hm hv
    show f_X0_leastSpare_L7 h i (iI r) (iI v) _ (iI m) = some (.inl (_, iI ((m + 1 : Nat))))
    simp only [itr]
    generalize itr (spg n w p at_ r v) m 1000000 = acc at hb ⊢
    unfold f_X0_leastSpare_L7 spg
    rw [hsz, g2, g4]
    have g3 : ((r : Int) * 6 + (m : Int)).toNat = 6 * r + m := by omega
    by_cases c1 : spq n w p at_ r m = 1000000
    · simp (disch := omega) only [iI_0, iI_1, iI_2, iI_3, iI_4, iI_5, iI_6, iI_7, iI_8, iI_9, iI_10, iI_11, iI_12, iI_14, iI_20, iI_30, iI_31, iI_36, iI_37, iI_40, iI_48, iI_60, iI_63, iI_64, iI_78, iI_100, iI_255, iI_481, iI_1000000, iI_m1, iI_m2, iI_m3, iI_m4, iI_m9, iI_m1000000, iI_add, iI_sub, iI_mul, iI_neg, iI_lt, iI_le, iI_eq, iI_cl, tr_bd, tr_bn_some, tr_b2_some, tr_gdI, tr_nzI, tr_maxI, tr_minI, if_pos, if_neg, ↓reduceIte, g3, g1, c1]
      simp
    · by_cases c2 : w (6 * m + v) = -9
      · simp (disch := omega) only [iI_0, iI_1, iI_2, iI_3, iI_4, iI_5, iI_6, iI_7, iI_8, iI_9, iI_10, iI_11, iI_12, iI_14, iI_20, iI_30, iI_31, iI_36, iI_37, iI_40, iI_48, iI_60, iI_63, iI_64, iI_78, iI_100, iI_255, iI_481, iI_1000000, iI_m1, iI_m2, iI_m3, iI_m4, iI_m9, iI_m1000000, iI_add, iI_sub, iI_mul, iI_neg, iI_lt, iI_le, iI_eq, iI_cl, tr_bd, tr_bn_some, tr_b2_some, tr_gdI, tr_nzI, tr_maxI, tr_minI, if_pos, if_neg, ↓reduceIte, g3, g1, c2]
        simp
      · have b3 := sprN hw hk hm hv c2
        simp (disch := omega) only [iI_0, iI_1, iI_2, iI_3, iI_4, iI_5, iI_6, iI_7, iI_8, iI_9, iI_10, iI_11, iI_12, iI_14, iI_20, iI_30, iI_31, iI_36, iI_37, iI_40, iI_48, iI_60, iI_63, iI_64, iI_78, iI_100, iI_255, iI_481, iI_1000000, iI_m1, iI_m2, iI_m3, iI_m4, iI_m9, iI_m1000000, iI_add, iI_sub, iI_mul, iI_neg, iI_lt, iI_le, iI_eq, iI_cl, tr_bd, tr_bn_some, tr_b2_some, tr_gdI, tr_nzI, tr_maxI, tr_minI, if_pos, if_neg, ↓reduceIte, g3, g1]
        simp [c1, c2]
  · show f_X0_leastSpare_L7 h i (iI r) (iI v) _ (iI n) = _
    unfold f_X0_leastSpare_L7
    rw [hsz, if_pos (Int32.le_refl _)]
    rfl
def spT (n : Nat) (a : Nat → Nat → Int) (K T : Nat) (g : Nat → Int32) : Prop := ∀ r v, v < n → (r < K ∨ (r = K ∧ v < T)) → g (6 * r + v) = iI (a r v)
theorem spT_up {n : Nat} {a : Nat → Nat → Int} {K T : Nat} {g : Nat → Int32} (hn : n ≤ 6) (h : spT n a K T g) (hT : T < n) : spT n a K (T + 1) (upd g (6 * K + T) (iI (a K T))) := by
  intro r v hv hc
  unfold upd
  by_cases e : 6 * r + v = 6 * K + T
  · have e1 : r = K := by omega
    have e2 : v = T := by omega
    rw [if_pos e, e1, e2]
  · rw [if_neg e]
    exact h r v hv (by omega)
theorem spT_nx {n : Nat} {a : Nat → Nat → Int} {K : Nat} {g : Nat → Int32} (h : spT n a K n g) : spT n a (K + 1) 0 g := fun r v hv hc => h r v hv (by omega)
theorem w_spread {h : tr_H} {i n : Nat} {w : Nat → Int} {p : Int} {at_ R : Nat} (hN : tN h i n w) (hk : kept n w p) (hT : timH h n w p) (ha : at_ < n) (hR : R ≤ 40) : ∃ g, f_X0_spread i (iI at_) (iI R) h = some (tr_sa h 26 g) ∧ spT n (spq n w p at_) (R + 1) 0 g := by
  have hw := hN.2.1
  have h6 := hw.2.1
  have hi := hN.1
  have hNb : ∀ g, tN (tr_sa h 26 g) i n w := fun g => tN_ne hN g (by unfold netI at hi; omega) (by unfold netI at hi; omega)
  have hsz : ∀ g, (tr_sa h 26 g).1 i 1 = iI n := fun g => (hNb g).2.2.1
  have hTb : ∀ g, timH (tr_sa h 26 g) n w p := fun g => ⟨by rw [tr_sa_ne _ _ (by decide)]; exact hT.1, fun v hv => by rw [tr_sa_ne _ _ (by decide)]; exact hT.2 v hv⟩
  obtain ⟨r0, k0, g0, rfl, t0⟩ := tr_inv (f := fun q => f_X0_spread_L3 i (iI at_) q.1 q.2) (fun m s => ∃ g, s = (iI m, tr_sa h 26 g) ∧ spT n (spq n w p at_) 0 m g) (fun r => ∃ g, r = tr_sa h 26 g ∧ spT n (spq n w p at_) 0 n g) (hi := n) (by
    rintro m s hm ⟨g, rfl, hg⟩
    refine ⟨(iI (m + 1 : Nat), tr_sa h 26 (upd g (6 * 0 + m) (iI (spq n w p at_ 0 m)))), ?_, _, rfl, spT_up h6 hg hm⟩
    show f_X0_spread_L3 i (iI at_) (iI m) (tr_sa h 26 g) = _
    unfold f_X0_spread_L3
    rw [hsz, spq_0, show 6 * 0 + m = m by omega]
    by_cases e : m = at_
    · subst e
      simp (disch := omega) only [iI_0, iI_1, iI_2, iI_3, iI_4, iI_5, iI_6, iI_7, iI_8, iI_9, iI_10, iI_11, iI_12, iI_14, iI_20, iI_30, iI_31, iI_36, iI_37, iI_40, iI_48, iI_60, iI_63, iI_64, iI_78, iI_100, iI_255, iI_481, iI_1000000, iI_m1, iI_m2, iI_m3, iI_m4, iI_m9, iI_m1000000, iI_add, iI_sub, iI_mul, iI_neg, iI_lt, iI_le, iI_eq, iI_cl, tr_bd, tr_bn_some, tr_b2_some, tr_gdI, tr_nzI, if_pos, if_neg, ↓reduceIte, Int.toNat_natCast, tr_si, tr_sa_at, tr_sa_sa]
      rfl
    · simp (disch := omega) only [iI_0, iI_1, iI_2, iI_3, iI_4, iI_5, iI_6, iI_7, iI_8, iI_9, iI_10, iI_11, iI_12, iI_14, iI_20, iI_30, iI_31, iI_36, iI_37, iI_40, iI_48, iI_60, iI_63, iI_64, iI_78, iI_100, iI_255, iI_481, iI_1000000, iI_m1, iI_m2, iI_m3, iI_m4, iI_m9, iI_m1000000, iI_add, iI_sub, iI_mul, iI_neg, iI_lt, iI_le, iI_eq, iI_cl, tr_bd, tr_bn_some, tr_b2_some, tr_gdI, tr_nzI, if_pos, if_neg, ↓reduceIte, Int.toNat_natCast, tr_si, tr_sa_at, tr_sa_sa]
      rfl) (by
    rintro s ⟨g, rfl, hg⟩
    refine ⟨tr_sa h 26 g, ?_, g, rfl, hg⟩
    show f_X0_spread_L3 i (iI at_) (iI n) (tr_sa h 26 g) = _
    unfold f_X0_spread_L3
    rw [hsz, if_pos (Int32.le_refl _)]) 0 (iI (0 : Nat), h) (by omega) ⟨h.1 26, by rw [tr_sa_self], fun r v _ hc => by omega⟩
  obtain ⟨r1, k1, g1, rfl, t1⟩ := tr_inv (f := fun q => f_X0_spread_L40 (iI R) i q.1 q.2) (fun m s => ∃ g, s = (iI m, tr_sa h 26 g) ∧ 1 ≤ m ∧ spT n (spq n w p at_) m 0 g) (fun r => ∃ g, r = tr_sa h 26 g ∧ spT n (spq n w p at_) (R + 1) 0 g) (hi := R + 1) (by
    rintro m s hm ⟨g, rfl, hm1, hg⟩
    obtain ⟨m', rfl⟩ : ∃ m', m = m' + 1 := ⟨m - 1, by omega⟩
    obtain ⟨r2, k2, g2, rfl, t2⟩ := tr_inv (f := fun q => f_X0_spread_L56 i (iI (m' + 1 : Nat)) q.1 q.2) (fun b s => ∃ g, s = (iI b, tr_sa h 26 g) ∧ spT n (spq n w p at_) (m' + 1) b g) (fun r => ∃ g, r = tr_sa h 26 g ∧ spT n (spq n w p at_) (m' + 1) n g) (hi := n) (by
      rintro b s hb ⟨g, rfl, hg⟩
      have gls := w_leastSpare (r := m') (v := b) (hNb g) hk (hTb g) (by omega) hb (fun u hu => by rw [tr_sa_at]; exact hg m' u hu (by omega))
      refine ⟨(iI (b + 1 : Nat), tr_sa h 26 (upd g (6 * (m' + 1) + b) (iI (spq n w p at_ (m' + 1) b)))), ?_, _, rfl, spT_up h6 hg hb⟩
      show f_X0_spread_L56 i (iI (m' + 1 : Nat)) (iI b) (tr_sa h 26 g) = _
      unfold f_X0_spread_L56
      rw [hsz]
      have e5 : ((m' + 1 : Nat) : Int) - 1 = (m' : Int) := by omega
      have e6 : (((m' + 1 : Nat) : Int) * 6 + (b : Int)).toNat = 6 * (m' + 1) + b := by omega
      simp (disch := omega) only [iI_0, iI_1, iI_2, iI_3, iI_4, iI_5, iI_6, iI_7, iI_8, iI_9, iI_10, iI_11, iI_12, iI_14, iI_20, iI_30, iI_31, iI_36, iI_37, iI_40, iI_48, iI_60, iI_63, iI_64, iI_78, iI_100, iI_255, iI_481, iI_1000000, iI_m1, iI_m2, iI_m3, iI_m4, iI_m9, iI_m1000000, iI_add, iI_sub, iI_mul, iI_neg, iI_lt, iI_le, iI_eq, iI_cl, tr_bd, tr_bn_some, tr_b2_some, tr_gdI, tr_nzI, tr_maxI, tr_minI, if_pos, if_neg, ↓reduceIte, e5, e6, gls, tr_si, tr_sa_at, tr_sa_sa]
      rfl) (by
      rintro s ⟨g, rfl, hg⟩
      refine ⟨tr_sa h 26 g, ?_, g, rfl, hg⟩
      show f_X0_spread_L56 i (iI (m' + 1 : Nat)) (iI n) (tr_sa h 26 g) = _
      unfold f_X0_spread_L56
      rw [hsz, if_pos (Int32.le_refl _)]) 0 (iI (0 : Nat), tr_sa h 26 g) (by omega) ⟨g, rfl, hg⟩
    refine ⟨(iI (m' + 1 + 1 : Nat), tr_sa h 26 g2), ?_, g2, rfl, by omega, spT_nx t2⟩
    show f_X0_spread_L40 (iI R) i (iI (m' + 1 : Nat)) (tr_sa h 26 g) = _
    unfold f_X0_spread_L40
    rw [if_neg (by rw [iI_lt (by omega) (by omega) (by omega) (by omega)]; omega), if_neg (by rw [iI_40, iI_lt (by omega) (by omega) (by omega) (by omega)]; omega), show ((0 : Int32), tr_sa h 26 g) = (iI (0 : Nat), tr_sa h 26 g) from rfl, k2, tr_bn_some]
    unfold f_X0_spread_E95 tr_bd
    rw [iI_1, iI_add]
    rfl) (by
    rintro s ⟨g, rfl, hm1, hg⟩
    refine ⟨tr_sa h 26 g, ?_, g, rfl, hg⟩
    show f_X0_spread_L40 (iI R) i (iI (R + 1 : Nat)) (tr_sa h 26 g) = _
    unfold f_X0_spread_L40
    rw [if_pos (by rw [iI_lt (by omega) (by omega) (by omega) (by omega)]; omega)]) 1 (iI (1 : Nat), tr_sa h 26 g0) (by omega) ⟨g0, rfl, by omega, spT_nx t0⟩
  refine ⟨g1, ?_, t1⟩
  unfold f_X0_spread
  rw [show ((0 : Int32), h) = (iI (0 : Nat), h) from rfl, k0, tr_bn_some]
  unfold f_X0_spread_E37
  rw [show ((1 : Int32), tr_sa h 26 g0) = (iI (1 : Nat), tr_sa h 26 g0) from rfl, k1]
  rfl
/-- how late, on the class's side -/
theorem w_lateness {h : tr_H} {n : Nat} {w : Nat → Int} {p d : Int} {at_ R r v : Nat} (hw : okn n w) (hk : kept n w p) (hd : 0 ≤ d ∧ d ≤ 30) (hs : spT n (spq n w p at_) (R + 1) 0 (h.1 26)) (hr : r ≤ R) (hR : R ≤ 40) (hv : v < n) : f_X0_lateness (iI d) (iI v) (iI r) h = some (iI (lat n w p at_ d r v)) := by
  have h6 := hw.2.1
  have b1 := spq_b (at_ := at_) hw hk r v hv
  have g1 := hs r v hv (by omega)
  rw [lat_spq hw hk hd r v (by omega) hv]
  unfold f_X0_lateness
  have e1 : ((r : Int) * 6 + (v : Int)).toNat = 6 * r + v := by omega
  simp (disch := omega) only [iI_0, iI_1, iI_2, iI_3, iI_4, iI_5, iI_6, iI_7, iI_8, iI_9, iI_10, iI_11, iI_12, iI_14, iI_20, iI_30, iI_31, iI_36, iI_37, iI_40, iI_48, iI_60, iI_63, iI_64, iI_78, iI_100, iI_255, iI_481, iI_1000000, iI_m1, iI_m2, iI_m3, iI_m4, iI_m9, iI_m1000000, iI_add, iI_sub, iI_mul, iI_neg, iI_lt, iI_le, iI_eq, iI_cl, tr_bd, tr_bn_some, tr_b2_some, tr_gdI, tr_nzI, tr_maxI, tr_minI, if_pos, if_neg, ↓reduceIte, e1, g1]
/-- none is late -/
def quiet (n : Nat) (w : Nat → Int) (p : Int) (at_ : Nat) (d : Int) (r : Nat) : Prop := ∀ v, v < n → lat n w p at_ d r v = 0
noncomputable def dieF (n : Nat) (w : Nat → Int) (p : Int) (at_ : Nat) (d : Int) : Nat → Nat → Int
  | 0, _ => -9
  | k + 1, r => @ite _ (quiet n w p at_ d r) (Classical.propDecidable _) (r : Int) (dieF n w p at_ d k (r + 1))
theorem dieF_y {n : Nat} {w : Nat → Int} {p d : Int} {at_ k r : Nat} (h : quiet n w p at_ d r) : dieF n w p at_ d (k + 1) r = r := by
  unfold dieF
  exact if_pos h
theorem dieF_n {n : Nat} {w : Nat → Int} {p d : Int} {at_ k r : Nat} (h : ¬ quiet n w p at_ d r) : dieF n w p at_ d (k + 1) r = dieF n w p at_ d k (r + 1) := by
  conv => lhs; unfold dieF
  exact if_neg h
theorem w_quiet {h : tr_H} {n : Nat} {w : Nat → Int} {p d : Int} {at_ : Nat} (hw : okn n w) (hk : kept n w p) (hd : 0 ≤ d ∧ d ≤ 30) (hs : spT n (spq n w p at_) (40 + 1) 0 (h.1 26)) : f_X0_firstQuietRound (iI d) (iI n) h = some (iI (dieF n w p at_ d 40 1)) := by
  have h6 := hw.2.1
  have lb := lat_b (at_ := at_) hw hk hd
  have hmx : ∀ r : Nat, r ≤ 40 → tr_lp (fun q => f_X0_firstQuietRound_L14 (iI n) (iI d) (iI r) h q.1 q.2) (0, 0) = some (iI (itr (fun v a => max a (lat n w p at_ d r v)) n 0)) := by
    intro r hr
    have key := tr_seq (f := fun q => f_X0_firstQuietRound_L14 (iI n) (iI d) (iI r) h q.1 q.2) (fun m => (iI (itr (fun v a => max a (lat n w p at_ d r v)) m 0), iI m)) (lo := 0) (hi := n) (r := iI (itr (fun v a => max a (lat n w p at_ d r v)) n 0)) (by omega) ?_ ?_
    · rw [show ((0 : Int32), (0 : Int32)) = (iI (itr (fun v a => max a (lat n w p at_ d r v)) 0 0), iI (0 : Nat)) from rfl, key]
    · intro m _ hm
      have hb : 0 ≤ itr (fun v a => max a (lat n w p at_ d r v)) m 0 ∧ itr (fun v a => max a (lat n w p at_ d r v)) m 0 ≤ 30 := by
        refine itr_ind (fun (_ : Nat) (a : Int) => 0 ≤ a ∧ a ≤ 30) m (by omega) (fun u a hu ha => ?_)
        have := lb r u
        omega
      have gw := w_lateness hw hk hd hs (r := r) (v := m) hr (by omega) hm
      have b2 := lb r m
      show f_X0_firstQuietRound_L14 (iI n) (iI d) (iI r) h _ (iI m) = some (.inl (_, iI ((m + 1 : Nat))))
      simp only [itr]
      generalize itr (fun v a => max a (lat n w p at_ d r v)) m 0 = acc at hb ⊢
      unfold f_X0_firstQuietRound_L14
      rw [gw]
      simp (disch := omega) only [iI_0, iI_1, iI_2, iI_3, iI_4, iI_5, iI_6, iI_7, iI_8, iI_9, iI_10, iI_11, iI_12, iI_14, iI_20, iI_30, iI_31, iI_36, iI_37, iI_40, iI_48, iI_60, iI_63, iI_64, iI_78, iI_100, iI_255, iI_481, iI_1000000, iI_m1, iI_m2, iI_m3, iI_m4, iI_m9, iI_m1000000, iI_add, iI_sub, iI_mul, iI_neg, iI_lt, iI_le, iI_eq, iI_cl, tr_bd, tr_bn_some, tr_b2_some, tr_gdI, tr_nzI, tr_maxI, tr_minI, if_pos, if_neg, ↓reduceIte]
      rfl
    · show f_X0_firstQuietRound_L14 (iI n) (iI d) (iI r) h _ (iI n) = _
      unfold f_X0_firstQuietRound_L14
      rw [if_pos (Int32.le_refl _)]
  have hq : ∀ r, (itr (fun v a => max a (lat n w p at_ d r v)) n 0 = 0 ↔ quiet n w p at_ d r) := by
    intro r
    constructor
    · intro e v hv
      have h1 := itr_max_ge (f := lat n w p at_ d r) (a := 0) n v hv
      have h2 := lb r v
      omega
    · intro e
      refine itr_ind (fun (_ : Nat) (a : Int) => a = 0) n rfl (fun u a hu ha => ?_)
      rw [ha, e u hu]
      rfl
  have hloop : ∀ (k r : Nat), r + k = 41 → tr_lp (fun q => f_X0_firstQuietRound_L2 (iI n) (iI d) h q) (iI r) = some (if dieF n w p at_ d k r = -9 then .inl () else .inr (iI (dieF n w p at_ d k r))) := by
    intro k
    induction k with
    | zero =>
      intro r hr
      obtain rfl : r = 41 := by omega
      apply tr_lp_out
      show f_X0_firstQuietRound_L2 (iI n) (iI d) h (iI (41 : Nat)) = _
      unfold f_X0_firstQuietRound_L2
      rw [if_pos (by rw [iI_40, iI_lt (by omega) (by omega) (by omega) (by omega)]; omega)]
      rfl
    | succ k ih =>
      intro r hr
      have hb := itr_ind (g := fun v a => max a (lat n w p at_ d r v)) (a := (0 : Int)) (fun (_ : Nat) (a : Int) => 0 ≤ a ∧ a ≤ 30) n (by omega) (fun u a hu ha => by have := lb r u; omega)
      by_cases c : quiet n w p at_ d r
      · rw [dieF_y c, if_neg (by omega)]
        apply tr_lp_out
        show f_X0_firstQuietRound_L2 (iI n) (iI d) h (iI r) = _
        unfold f_X0_firstQuietRound_L2
        rw [if_neg (by rw [iI_40, iI_lt (by omega) (by omega) (by omega) (by omega)]; omega), hmx r (by omega), tr_bn_some, (hq r).mpr c]
        rfl
      · rw [dieF_n c]
        have c2 : itr (fun v a => max a (lat n w p at_ d r v)) n 0 ≠ 0 := fun e => c ((hq r).mp e)
        rw [tr_lp_go (s' := iI (r + 1 : Nat)) (by
          show f_X0_firstQuietRound_L2 (iI n) (iI d) h (iI r) = _
          unfold f_X0_firstQuietRound_L2
          rw [if_neg (by rw [iI_40, iI_lt (by omega) (by omega) (by omega) (by omega)]; omega), hmx r (by omega), tr_bn_some]
          unfold f_X0_firstQuietRound_E41
          rw [if_neg (by rw [iI_0, iI_eq (by omega) (by omega) (by omega) (by omega)]; exact c2)]
          unfold tr_bd
          rw [iI_1, iI_add]
          rfl)]
        exact ih (r + 1) (by omega)
  unfold f_X0_firstQuietRound
  rw [show (1 : Int32) = iI (1 : Nat) from rfl, hloop 40 1 (by omega), tr_bn_some]
  by_cases c : dieF n w p at_ d 40 1 = -9
  · rw [if_pos c, c]
    rfl
  · rw [if_neg c]
    rfl
/-! the reference lets a delay go round -/
def timP (h : tr_H) (n : Nat) (w : Nat → Int) (p : Int) : Prop := ∀ v, v < 6 → h.1 13 v = iI (TM n w p n v)
def latP (h : tr_H) (n : Nat) (w : Nat → Int) (p : Int) (at_ : Nat) (d : Int) (r : Nat) : Prop := ∀ v, v < 6 → h.1 14 v = iI (lat n w p at_ d r v)
theorem r_spareOf {h : tr_H} {q n : Nat} {w : Nat → Int} {p : Int} (hP : tP h q n w) (hT : timP h n w p) {a b : Nat} (ha : a < n) (hb : b < n) (he : w (6 * a + b) ≠ -9) : f_X8_spareOf q (iI a) (iI b) (iI p) h = some (iI (spr n w p a b)) := by
  have h6 := hP.2.1.2.1
  have hm1 := r_minutesOf hP (i := a) (j := b) (by omega) (by omega)
  have b3 := (cvn_b hP.2.1 (c := 6 * a + b) (by omega)).2.2.2 he
  have t1 := hT a (by omega)
  have t2 := hT b (by omega)
  unfold f_X8_spareOf spr
  rw [hm1, b3, show w (6 * a + b) + 1 - 1 = w (6 * a + b) by omega]
  simp (disch := omega) only [iI_add, iI_sub, iI_mul, iI_neg, iI_lt, iI_le, iI_eq, iI_cl, tr_bd, tr_bn_some, tr_b2_some, tr_gdI, tr_nzI, Int.toNat_natCast, t1, t2]
theorem r_beginLate {h : tr_H} {n : Nat} {w : Nat → Int} {p d : Int} {at_ : Nat} (ha : at_ < 6) : ∃ h', f_X8_beginLate (iI at_) (iI d) h = some h' ∧ fr [14] h h' ∧ latP h' n w p at_ d 0 := by
  obtain ⟨r0, k0, g0, rfl, t0⟩ := tr_inv (f := fun q => f_X8_beginLate_L2 (iI at_) (iI d) q.1 q.2) (fun m s => ∃ g, s = (iI m, tr_sa h 14 g) ∧ ∀ v, v < m → g v = iI (lat n w p at_ d 0 v)) (fun r => ∃ g, r = tr_sa h 14 g ∧ ∀ v, v < 6 → g v = iI (lat n w p at_ d 0 v)) (hi := 6) (by
    rintro m s hm ⟨g, rfl, hg⟩
    refine ⟨(iI (m + 1 : Nat), tr_sa h 14 (upd g m (iI (lat n w p at_ d 0 m)))), ?_, _, rfl, fun v hv => ?_⟩
    · show f_X8_beginLate_L2 (iI at_) (iI d) (iI m) (tr_sa h 14 g) = _
      unfold f_X8_beginLate_L2
      rw [show lat n w p at_ d 0 m = if m = at_ then d else 0 from rfl]
      by_cases e : m = at_
      · subst e
        simp (disch := omega) only [iI_0, iI_1, iI_2, iI_3, iI_4, iI_5, iI_6, iI_7, iI_8, iI_9, iI_10, iI_11, iI_12, iI_14, iI_20, iI_30, iI_31, iI_36, iI_37, iI_40, iI_48, iI_60, iI_63, iI_64, iI_78, iI_100, iI_255, iI_481, iI_1000000, iI_m1, iI_m2, iI_m3, iI_m4, iI_m9, iI_m1000000, iI_add, iI_sub, iI_mul, iI_neg, iI_lt, iI_le, iI_eq, iI_cl, tr_bd, tr_bn_some, tr_b2_some, tr_gdI, tr_nzI, if_pos, if_neg, ↓reduceIte, Int.toNat_natCast, tr_si, tr_sa_at, tr_sa_sa]
        rfl
      · simp (disch := omega) only [iI_0, iI_1, iI_2, iI_3, iI_4, iI_5, iI_6, iI_7, iI_8, iI_9, iI_10, iI_11, iI_12, iI_14, iI_20, iI_30, iI_31, iI_36, iI_37, iI_40, iI_48, iI_60, iI_63, iI_64, iI_78, iI_100, iI_255, iI_481, iI_1000000, iI_m1, iI_m2, iI_m3, iI_m4, iI_m9, iI_m1000000, iI_add, iI_sub, iI_mul, iI_neg, iI_lt, iI_le, iI_eq, iI_cl, tr_bd, tr_bn_some, tr_b2_some, tr_gdI, tr_nzI, if_pos, if_neg, ↓reduceIte, Int.toNat_natCast, tr_si, tr_sa_at, tr_sa_sa]
        rfl
    · unfold upd
      by_cases e : v = m
      · rw [if_pos e, e]
      · rw [if_neg e]; exact hg v (by omega)) (by
    rintro s ⟨g, rfl, hg⟩
    exact ⟨tr_sa h 14 g, rfl, g, rfl, hg⟩) 0 (iI (0 : Nat), h) (by omega) ⟨h.1 14, by rw [tr_sa_self], fun v hv => by omega⟩
  refine ⟨tr_sa h 14 g0, ?_, fr_sa _ _ (by simp), fun v hv => by rw [tr_sa_at]; exact t0 v hv⟩
  unfold f_X8_beginLate
  rw [show ((0 : Int32), h) = (iI (0 : Nat), h) from rfl, k0]
  rfl
theorem r_J72 {h : tr_H} {f : Nat → Int32} {k m : Nat} {t z : Int} (hk : k < 6) (hm : m < 6) (hf : f k = iI t) (t1 : -100000 ≤ t) (t2 : t ≤ 100000) (z1 : -100000 ≤ z) (z2 : z ≤ 100000) : f_X8_goRound_J72 (iI k) (tr_sa h 15 f) (iI m) (iI z) = some (.inl (iI (m + 1 : Nat), tr_sa h 15 (upd f k (iI (max t z))))) := by
  unfold f_X8_goRound_J72
  by_cases c : z ≤ t
  · rw [show max t z = t by omega]
    simp (disch := omega) only [iI_0, iI_1, iI_2, iI_3, iI_4, iI_5, iI_6, iI_7, iI_8, iI_9, iI_10, iI_11, iI_12, iI_14, iI_20, iI_30, iI_31, iI_36, iI_37, iI_40, iI_48, iI_60, iI_63, iI_64, iI_78, iI_100, iI_255, iI_481, iI_1000000, iI_m1, iI_m2, iI_m3, iI_m4, iI_m9, iI_m1000000, iI_add, iI_sub, iI_mul, iI_neg, iI_lt, iI_le, iI_eq, iI_cl, tr_bd, tr_bn_some, tr_b2_some, tr_gdI, tr_nzI, if_pos, if_neg, ↓reduceIte, Int.toNat_natCast, tr_si, tr_sa_at, tr_sa_sa, hf]
    rfl
  · rw [show max t z = z by omega]
    simp (disch := omega) only [iI_0, iI_1, iI_2, iI_3, iI_4, iI_5, iI_6, iI_7, iI_8, iI_9, iI_10, iI_11, iI_12, iI_14, iI_20, iI_30, iI_31, iI_36, iI_37, iI_40, iI_48, iI_60, iI_63, iI_64, iI_78, iI_100, iI_255, iI_481, iI_1000000, iI_m1, iI_m2, iI_m3, iI_m4, iI_m9, iI_m1000000, iI_add, iI_sub, iI_mul, iI_neg, iI_lt, iI_le, iI_eq, iI_cl, tr_bd, tr_bn_some, tr_b2_some, tr_gdI, tr_nzI, if_pos, if_neg, ↓reduceIte, Int.toNat_natCast, tr_si, tr_sa_at, tr_sa_sa, hf]
    rfl
def lag (n : Nat) (w : Nat → Int) (p : Int) (at_ : Nat) (d : Int) (r v : Nat) : Nat → Int → Int := fun i a => max a (if w (6 * i + v) = -9 then 0 else lat n w p at_ d r i - spr n w p i v)
def lall (n : Nat) (w : Nat → Int) (p : Int) (at_ : Nat) (d : Int) (r m : Nat) : Int := itr (fun v a => a + lat n w p at_ d r v) m 0
theorem r_goRound {h : tr_H} {q n : Nat} {w : Nat → Int} {p d : Int} {at_ r : Nat} (hP : tP h q n w) (hk : kept n w p) (hT : timP h n w p) (hd : 0 ≤ d ∧ d ≤ 30) (hL : latP h n w p at_ d r) : ∃ h', f_X8_goRound q (iI p) h = some (iI (lall n w p at_ d (r + 1) 6), h') ∧ fr [14, 15] h h' ∧ latP h' n w p at_ d (r + 1) := by
  have hw := hP.2.1
  have h6 := hw.2.1
  have hq := hP.1
  have hPb : ∀ f, tP (tr_sa h 15 f) q n w := fun f => tP_fr (fr_sa (L := [15]) h f (by simp)) (by unfold pagI at hq; simp; omega) hP
  have hsz : ∀ f, (tr_sa h 15 f).1 q ((0 : Int32).toNatClampNeg) = iI n := fun f => (hPb f).2.2.1
  have hTb : ∀ f, timP (tr_sa h 15 f) n w p := fun f v hv => by rw [tr_sa_ne _ _ (by decide)]; exact hT v hv
  have hLb : ∀ f v, v < 6 → (tr_sa h 15 f).1 14 v = iI (lat n w p at_ d r v) := fun f v hv => by rw [tr_sa_ne _ _ (by decide)]; exact hL v hv
  have lb := lat_b (at_ := at_) hw hk hd
  obtain ⟨r1, k1, f1, rfl, t1⟩ := tr_inv (f := fun z => f_X8_goRound_L5 q (iI p) z.1 z.2.1 z.2.2) (fun m s => ∃ f, s = (iI (lall n w p at_ d (r + 1) m), iI m, tr_sa h 15 f) ∧ ∀ v, v < m → f v = iI (lat n w p at_ d (r + 1) v)) (fun s => ∃ f, s = (iI (lall n w p at_ d (r + 1) 6), tr_sa h 15 f) ∧ ∀ v, v < 6 → f v = iI (lat n w p at_ d (r + 1) v)) (hi := 6) (by
    rintro k s hk6 ⟨f, rfl, hf⟩
    have hin : ∃ g, tr_lp (fun z => f_X8_goRound_L23 q (iI k) (iI p) z.1 z.2) (iI (0 : Nat), tr_sa h 15 (upd f k (iI 0))) = some (tr_sa h 15 g) ∧ ∀ v, v < k + 1 → g v = iI (lat n w p at_ d (r + 1) v) := by
      by_cases hkn : k < n
      · obtain ⟨r2, k2, g2, rfl, t2, t2'⟩ := tr_inv (f := fun z => f_X8_goRound_L23 q (iI k) (iI p) z.1 z.2) (fun m s => ∃ g, s = (iI m, tr_sa h 15 g) ∧ (∀ v, v < k → g v = iI (lat n w p at_ d (r + 1) v)) ∧ g k = iI (itr (lag n w p at_ d r k) m 0)) (fun s => ∃ g, s = tr_sa h 15 g ∧ (∀ v, v < k → g v = iI (lat n w p at_ d (r + 1) v)) ∧ g k = iI (itr (lag n w p at_ d r k) n 0)) (hi := n) (by
          rintro m s hm ⟨g, rfl, hg1, hg2⟩
          have hb : 0 ≤ itr (lag n w p at_ d r k) m 0 ∧ itr (lag n w p at_ d r k) m 0 ≤ 30 := by
            refine itr_ind (fun (_ : Nat) (a : Int) => 0 ≤ a ∧ a ≤ 30) m (by omega) (fun u a hu ha => ?_)
            unfold lag
            by_cases c : w (6 * u + k) = -9
            · rw [if_pos c]; omega
            · rw [if_neg c]
              have q1 := lb r u
              have q2 := sprN hw hk (show u < n by omega) hkn c
              omega
          have hm2 := r_isThere (hPb g) (i := m) (j := k) (by omega) (by omega)
          refine ⟨(iI (m + 1 : Nat), tr_sa h 15 (upd g k (iI (itr (lag n w p at_ d r k) (m + 1) 0)))), ?_, _, rfl, fun v hv => ?_, ?_⟩
          · show f_X8_goRound_L23 q (iI k) (iI p) (iI m) (tr_sa h 15 g) = _
            unfold f_X8_goRound_L23
            rw [hsz, if_neg (by rw [iI_le (by omega) (by omega) (by omega) (by omega)]; omega), if_neg (by rw [iI_le (by omega) (by omega) (by omega) (by omega)]; omega), hm2, tr_bn_some]
            simp only [itr]
            by_cases c : w (6 * m + k) = -9
            · rw [if_pos c, if_pos rfl, iI_0, r_J72 (by omega) (by omega) hg2 (by omega) (by omega) (by omega) (by omega)]
              unfold lag
              rw [if_pos c]
            · have q1 := lb r m
              have q2 := sprN hw hk hm hkn c
              rw [if_neg c, if_neg (show ¬ (1 : Int32) = 0 by decide), tr_gdI (by omega) (by omega) (by omega), r_spareOf (hPb g) (hTb g) hm hkn c, tr_bn_some, iI_ix (by omega), hLb g m (by omega), iI_sub, r_J72 (by omega) (by omega) hg2 (by omega) (by omega) (by omega) (by omega)]
              unfold lag
              rw [if_neg c]
          · unfold upd
            rw [if_neg (by omega)]
            exact hg1 v hv
          · unfold upd
            rw [if_pos rfl]) (by
          rintro s ⟨g, rfl, hg1, hg2⟩
          refine ⟨tr_sa h 15 g, ?_, g, rfl, hg1, hg2⟩
          show f_X8_goRound_L23 q (iI k) (iI p) (iI n) (tr_sa h 15 g) = _
          unfold f_X8_goRound_L23
          rw [hsz, if_pos (Int32.le_refl _)]) 0 (iI (0 : Nat), tr_sa h 15 (upd f k (iI 0))) (by omega) ⟨_, rfl, fun v hv => by unfold upd; rw [if_neg (by omega)]; exact hf v hv, by unfold upd; rw [if_pos rfl]; rfl⟩
        refine ⟨g2, k2, fun v hv => ?_⟩
        by_cases e : v = k
        · rw [e, t2', lat_s, if_pos hkn]
          rfl
        · exact t2 v (by omega)
      · refine ⟨upd f k (iI 0), tr_lp_out ?_, fun v hv => ?_⟩
        · show f_X8_goRound_L23 q (iI k) (iI p) (iI (0 : Nat)) (tr_sa h 15 (upd f k (iI 0))) = _
          have h1 := hw.1
          unfold f_X8_goRound_L23
          rw [hsz, if_neg (by rw [iI_le (by omega) (by omega) (by omega) (by omega)]; omega), if_pos (by rw [iI_le (by omega) (by omega) (by omega) (by omega)]; omega)]
        · unfold upd
          by_cases e : v = k
          · rw [if_pos e, e, lat_s, if_neg hkn]
          · rw [if_neg e]; exact hf v (by omega)
    obtain ⟨g, hg1, hg2⟩ := hin
    refine ⟨(iI (lall n w p at_ d (r + 1) (k + 1)), iI (k + 1 : Nat), tr_sa h 15 g), ?_, g, rfl, hg2⟩
    show f_X8_goRound_L5 q (iI p) (iI (lall n w p at_ d (r + 1) k)) (iI k) (tr_sa h 15 f) = _
    unfold f_X8_goRound_L5
    rw [if_neg (by rw [iI_6, iI_le (by omega) (by omega) (by omega) (by omega)]; omega), tr_gdI (by omega) (by omega) (by omega)]
    unfold tr_bd
    dsimp only
    rw [iI_ix (by omega)]
    unfold tr_si
    rw [tr_sa_at, tr_sa_sa, show ((0 : Int32), tr_sa h 15 (upd f k 0)) = (iI (0 : Nat), tr_sa h 15 (upd f k (iI 0))) from rfl, hg1, tr_bn_some]
    unfold f_X8_goRound_E111 tr_bd
    rw [tr_gdI (by omega) (by omega) (by omega), iI_ix (by omega), tr_sa_at, hg2 k (by omega), iI_add, iI_1, iI_add]
    rfl) (by
    rintro s ⟨f, rfl, hf⟩
    exact ⟨_, rfl, f, rfl, hf⟩) 0 (iI (0 : Nat), iI (0 : Nat), h) (by omega) ⟨h.1 15, by rw [tr_sa_self]; rfl, fun v hv => by omega⟩
  obtain ⟨hb, ehb⟩ : ∃ hb, hb = tr_sa h 15 f1 := ⟨_, rfl⟩
  have hb15 : ∀ g, (tr_sa hb 14 g).1 15 = f1 := fun g => by rw [tr_sa_ne _ _ (by decide), ehb, tr_sa_at]
  obtain ⟨r3, k3, g3, rfl, t3⟩ := tr_inv (f := fun z => f_X8_goRound_L130 z.1 z.2) (fun m s => ∃ g, s = (iI m, tr_sa hb 14 g) ∧ ∀ v, v < m → g v = f1 v) (fun s => ∃ g, s = tr_sa hb 14 g ∧ ∀ v, v < 6 → g v = f1 v) (hi := 6) (by
    rintro m s hm ⟨g, rfl, hg⟩
    refine ⟨(iI (m + 1 : Nat), tr_sa hb 14 (upd g m (f1 m))), ?_, _, rfl, fun v hv => ?_⟩
    · show f_X8_goRound_L130 (iI m) (tr_sa hb 14 g) = _
      unfold f_X8_goRound_L130
      rw [hb15]
      simp (disch := omega) only [iI_0, iI_1, iI_2, iI_3, iI_4, iI_5, iI_6, iI_7, iI_8, iI_9, iI_10, iI_11, iI_12, iI_14, iI_20, iI_30, iI_31, iI_36, iI_37, iI_40, iI_48, iI_60, iI_63, iI_64, iI_78, iI_100, iI_255, iI_481, iI_1000000, iI_m1, iI_m2, iI_m3, iI_m4, iI_m9, iI_m1000000, iI_add, iI_sub, iI_mul, iI_neg, iI_lt, iI_le, iI_eq, iI_cl, tr_bd, tr_bn_some, tr_b2_some, tr_gdI, tr_nzI, if_pos, if_neg, ↓reduceIte, Int.toNat_natCast, tr_si, tr_sa_at, tr_sa_sa]
      rfl
    · unfold upd
      by_cases e : v = m
      · rw [if_pos e, e]
      · rw [if_neg e]; exact hg v (by omega)) (by
    rintro s ⟨g, rfl, hg⟩
    exact ⟨_, rfl, g, rfl, hg⟩) 0 (iI (0 : Nat), hb) (by omega) ⟨hb.1 14, by rw [tr_sa_self], fun v hv => by omega⟩
  refine ⟨tr_sa hb 14 g3, ?_, ?_, fun v hv => by rw [tr_sa_at, t3 v hv]; exact t1 v hv⟩
  · unfold f_X8_goRound
    rw [show ((0 : Int32), (0 : Int32), h) = (iI (0 : Nat), iI (0 : Nat), h) from rfl, k1, tr_bn_some]
    unfold f_X8_goRound_E127
    rw [← ehb, show ((0 : Int32), hb) = (iI (0 : Nat), hb) from rfl, k3]
    rfl
  · refine fr_tr (b := hb) ?_ (fr_sa _ _ (by simp))
    rw [ehb]
    exact fr_sa _ _ (by simp)
theorem lall_0 {n : Nat} {w : Nat → Int} {p d : Int} {at_ r : Nat} (hw : okn n w) (hk : kept n w p) (hd : 0 ≤ d ∧ d ≤ 30) : (0 ≤ lall n w p at_ d (r + 1) 6 ∧ lall n w p at_ d (r + 1) 6 ≤ 180) ∧ (lall n w p at_ d (r + 1) 6 = 0 ↔ quiet n w p at_ d (r + 1)) := by
  have lb := lat_b (at_ := at_) hw hk hd (r + 1)
  have h6 := hw.2.1
  have e : lall n w p at_ d (r + 1) 6 = 0 + lat n w p at_ d (r + 1) 0 + lat n w p at_ d (r + 1) 1 + lat n w p at_ d (r + 1) 2 + lat n w p at_ d (r + 1) 3 + lat n w p at_ d (r + 1) 4 + lat n w p at_ d (r + 1) 5 := rfl
  have z0 := lb 0
  have z1 := lb 1
  have z2 := lb 2
  have z3 := lb 3
  have z4 := lb 4
  have z5 := lb 5
  refine ⟨by omega, fun q v hv => ?_, fun q => ?_⟩
  · rcases (show v = 0 ∨ v = 1 ∨ v = 2 ∨ v = 3 ∨ v = 4 ∨ v = 5 by omega) with rfl | rfl | rfl | rfl | rfl | rfl <;> omega
  · have hz : ∀ v, lat n w p at_ d (r + 1) v = 0 := by
      intro v
      by_cases hv : v < n
      · exact q v hv
      · rw [lat_s, if_neg hv]
    rw [e, hz, hz, hz, hz, hz, hz]
    rfl
/-- it dies, or not -/
theorem r_diesOf {h : tr_H} {q n : Nat} {w : Nat → Int} {p d : Int} {at_ : Nat} (hP : tP h q n w) (hk : kept n w p) (hd : 0 ≤ d ∧ d ≤ 30) (ha : at_ < n) : ∃ h', f_X8_diesOf q (iI at_) (iI d) (iI p) h = some (iI (dieF n w p at_ d 40 1), h') ∧ fr [13, 14, 15] h h' := by
  have hw := hP.2.1
  have h6 := hw.2.1
  have hq := hP.1
  obtain ⟨g, e1, t1⟩ := r_layTimes hP hk
  obtain ⟨h2, e2, m2, l2⟩ := r_beginLate (h := tr_sa h 13 g) (n := n) (w := w) (p := p) (d := d) (at_ := at_) (by omega)
  have hT2 : timP h2 n w p := fun v hv => by rw [m2.1 13 (by decide), tr_sa_at]; exact t1 v hv
  have fr2 : fr [13, 14, 15] h h2 := fr_tr (fr_sa _ _ (by simp)) (fr_up m2 (by simp))
  have hloop : ∀ (k r : Nat), r + 1 + k = 41 → ∀ (h1 : tr_H), fr [14, 15] h2 h1 → latP h1 n w p at_ d r → ∃ s, tr_lp (fun z => f_X8_diesOf_L16 q (iI p) z.1 z.2) (iI (r + 1 : Nat), h1) = some s ∧ ∃ h', Sum.elim (fun x => f_X8_diesOf_E42 x) (fun x => some x) s = some (iI (dieF n w p at_ d k (r + 1)), h') ∧ fr [14, 15] h2 h' := by
    intro k
    induction k with
    | zero =>
      intro r hr h1 f1 l1
      obtain rfl : r = 40 := by omega
      refine ⟨.inl h1, tr_lp_out ?_, h1, rfl, f1⟩
      show f_X8_diesOf_L16 q (iI p) (iI (40 + 1 : Nat)) h1 = _
      unfold f_X8_diesOf_L16
      rw [if_pos (by rw [iI_40, iI_lt (by omega) (by omega) (by omega) (by omega)]; omega)]
    | succ k ih =>
      intro r hr h1 f1 l1
      have hP1 : tP h1 q n w := tP_fr f1 (by unfold pagI at hq; simp; omega) (tP_fr fr2 (by unfold pagI at hq; simp; omega) hP)
      have hT1 : timP h1 n w p := fun v hv => by rw [f1.1 13 (by decide)]; exact hT2 v hv
      obtain ⟨h3, e3, f3, l3⟩ := r_goRound hP1 hk hT1 hd l1
      have la0 := lall_0 (at_ := at_) (r := r) hw hk hd
      have hL : f_X8_diesOf_L16 q (iI p) (iI (r + 1 : Nat)) h1 = if lall n w p at_ d (r + 1) 6 = 0 then some (.inr (.inr (iI (r + 1 : Nat), h3))) else some (.inl (iI (r + 1 + 1 : Nat), h3)) := by
        unfold f_X8_diesOf_L16
        rw [if_neg (by rw [iI_40, iI_lt (by omega) (by omega) (by omega) (by omega)]; omega), e3, tr_b2_some]
        by_cases c : lall n w p at_ d (r + 1) 6 = 0
        · rw [if_pos c, if_pos (by rw [c]; rfl)]
        · rw [if_neg c, if_neg (by rw [iI_0, iI_eq (by omega) (by omega) (by omega) (by omega)]; exact c)]
          unfold tr_bd
          rw [iI_1, iI_add]
          rfl
      by_cases c : lall n w p at_ d (r + 1) 6 = 0
      · rw [if_pos c] at hL
        refine ⟨.inr (iI (r + 1 : Nat), h3), tr_lp_out hL, h3, ?_, fr_tr f1 f3⟩
        rw [dieF_y (la0.2.mp c)]
        rfl
      · rw [if_neg c] at hL
        rw [tr_lp_go (s' := (iI (r + 1 + 1 : Nat), h3)) hL, dieF_n (fun q => c (la0.2.mpr q))]
        exact ih (r + 1) (by omega) h3 (fr_tr f1 f3) l3
  obtain ⟨s, k1, h', k2, k3⟩ := hloop 40 0 (by omega) h2 (fr_rf _ _) l2
  refine ⟨h', ?_, fr_tr fr2 (fr_up k3 (by simp))⟩
  unfold f_X8_diesOf
  rw [e1, tr_bn_some, e2, tr_bn_some, show ((1 : Int32), h2) = (iI (0 + 1 : Nat), h2) from rfl, k1, tr_bn_some]
  exact k2
end
section
/-! walks over just a set of departures, from its least one -/
theorem bitz : ∀ m : Nat, m < 64 → ∀ k : Nat, k < 6 → ((iI m >>> (iI k &&& 31)) &&& 1 = 0 ↔ m.testBit k = false) := by decide +kernel
theorem shl7 : ∀ k : Nat, k < 7 → (1 : Int32) <<< (iI k &&& 31) = iI (2 ^ k : Nat) := by decide +kernel
theorem clrb : ∀ m : Nat, m < 64 → ∀ k : Nat, k < 6 → iI m &&& (((1 : Int32) <<< (iI k &&& 31)) ^^^ (-1)) = iI ((if m.testBit k then m ^^^ 2 ^ k else m : Nat)) := by decide +kernel
theorem bcn : ∀ m : Nat, m < 64 → f_J6_bitCount_0f7a4 (iI m) = some (iI (pcn m 6)) := by decide +kernel
theorem clr_lt : ∀ m : Nat, m < 64 → ∀ k : Nat, k < 6 → m.testBit k = true → m ^^^ 2 ^ k < m := by decide +kernel
theorem pcn_in : ∀ m : Nat, m < 64 → ∀ k : Nat, k < 6 → m.testBit k = false → pcn (m ||| 2 ^ k) 6 = pcn m 6 + 1 := by decide +kernel
theorem pcn_1 : ∀ m : Nat, m < 64 → m ≠ 0 → 1 ≤ pcn m 6 := by decide +kernel
theorem pcn_6 (m : Nat) : pcn m 6 ≤ 6 := by rw [pcn_cnt]; exact cnt_le _ 6
theorem orb {m k : Nat} (hk : k < 6) : iI m ||| ((1 : Int32) <<< (iI k &&& 31)) = iI ((m ||| 2 ^ k : Nat)) := by
  rw [shl32 k hk, iI_nat, iI_nat, nI_or]
theorem or_64 {m k : Nat} (hm : m < 64) (hk : k < 6) : m ||| 2 ^ k < 64 := by
  have h1 : 2 ^ k < 2 ^ 6 := Nat.pow_lt_pow_right (by decide) hk
  exact Nat.or_lt_two_pow (n := 6) hm h1
theorem or_t {m k t : Nat} : (m ||| 2 ^ k).testBit t = true ↔ m.testBit t = true ∨ t = k := by
  rw [or_bit, Nat.testBit_two_pow]
  constructor
  · rintro (h | h)
    · exact Or.inl h
    · exact Or.inr (of_decide_eq_true h).symm
  · rintro (h | h)
    · exact Or.inl h
    · exact Or.inr (decide_eq_true h.symm)
theorem xor_t {m k t : Nat} (hk : m.testBit k = true) : (m ^^^ 2 ^ k).testBit t = true ↔ m.testBit t = true ∧ t ≠ k := by
  rw [Nat.testBit_xor, Nat.testBit_two_pow]
  by_cases e : k = t
  · subst e
    simp [hk]
  · have e2 : t ≠ k := fun q => e q.symm
    simp [e, e2]
def msk (l : List Nat) : Nat := l.foldr (fun t a => a ||| 2 ^ t) 0
theorem msk_t (l : List Nat) (t : Nat) : (msk l).testBit t = true ↔ t ∈ l := by
  induction l with
  | nil => simp [msk]
  | cons x l ih =>
    show (msk l ||| 2 ^ x).testBit t = true ↔ _
    rw [or_t, ih, List.mem_cons]
    exact or_comm
def pth (n : Nat) (w : Nat → Int) (S x : Nat) (b : List Nat) (e : Nat) : Prop := (x :: b).Nodup ∧ chn (eP (eB n w)) x b ∧ (∀ y ∈ x :: b, x ≤ y ∧ y < n) ∧ la x b = e ∧ ∀ t, S.testBit t = true ↔ t ∈ x :: b
def lowS (S : Nat) : Nat := if S.testBit 0 then 0 else if S.testBit 1 then 1 else if S.testBit 2 then 2 else if S.testBit 3 then 3 else if S.testBit 4 then 4 else 5
theorem lowS_is {S x : Nat} (hx : x < 6) (h1 : S.testBit x = true) (h2 : ∀ t, t < x → S.testBit t = false) : lowS S = x := by
  unfold lowS
  rcases (show x = 0 ∨ x = 1 ∨ x = 2 ∨ x = 3 ∨ x = 4 ∨ x = 5 by omega) with rfl | rfl | rfl | rfl | rfl | rfl
  · simp [h1]
  · simp [h1, h2 0 (by omega)]
  · simp [h1, h2 0 (by omega), h2 1 (by omega)]
  · simp [h1, h2 0 (by omega), h2 1 (by omega), h2 2 (by omega)]
  · simp [h1, h2 0 (by omega), h2 1 (by omega), h2 2 (by omega), h2 3 (by omega)]
  · simp [h2 0 (by omega), h2 1 (by omega), h2 2 (by omega), h2 3 (by omega), h2 4 (by omega)]
theorem cnt_mem : ∀ (N : Nat) (l : List Nat), l.Nodup → (∀ y ∈ l, y < N) → cnt (fun t => decide (t ∈ l)) N = l.length := by
  intro N
  induction N with
  | zero =>
    intro l _ h
    cases l with
    | nil => rfl
    | cons x l => exact absurd (h x (by simp)) (by omega)
  | succ N ih =>
    intro l hn h
    have hcg : ∀ (p q : Nat → Bool) (k : Nat), (∀ j, j < k → p j = q j) → cnt p k = cnt q k := by
      intro p q k
      induction k with
      | zero => intro _; rfl
      | succ k ihk =>
        intro hpq
        unfold cnt
        rw [ihk (fun j hj => hpq j (by omega)), hpq k (by omega)]
    by_cases hm : N ∈ l
    · have h1 := ih (l.erase N) (hn.erase N) (fun x hx => by
        have h2 := h x (List.mem_of_mem_erase hx)
        have h3 : x ≠ N := fun e => by subst e; exact hn.not_mem_erase hx
        omega)
      rw [List.length_erase_of_mem hm] at h1
      have hl : 0 < l.length := List.length_pos_of_mem hm
      unfold cnt
      rw [hcg _ (fun t => decide (t ∈ l.erase N)) N (fun j hj => by
        have : j ∈ l ↔ j ∈ l.erase N := by rw [hn.mem_erase_iff]; exact ⟨fun q => ⟨by omega, q⟩, fun q => q.2⟩
        simp [this]), h1, if_pos (decide_eq_true hm)]
      omega
    · have := ih l hn (fun x hx => by
        have h2 := h x hx
        have h3 : x ≠ N := fun e => by subst e; exact hm hx
        omega)
      unfold cnt
      rw [this, if_neg (by simp [hm])]
      rfl
section PTH
variable {n : Nat} {w : Nat → Int} {S x e : Nat} {b : List Nat}
theorem pth_lt (h6 : n ≤ 6) (h : pth n w S x b e) : S < 2 ^ n ∧ S < 64 ∧ x < n ∧ e < n ∧ S.testBit e = true ∧ S.testBit x = true ∧ S ≠ 0 := by
  obtain ⟨h1, h2, h3, h4, h5⟩ := h
  have hx := (h3 x (by simp)).2
  have hl : S < 2 ^ n := Nat.lt_pow_two_of_testBit _ (fun i hi => by
    apply Classical.byContradiction
    intro q
    have q2 : S.testBit i = true := by simpa using q
    have := (h3 i ((h5 i).mp q2)).2
    omega)
  have h64 : S < 64 := Nat.lt_of_lt_of_le hl (Nat.pow_le_pow_right (n := 2) (by decide) h6)
  have hm : e ∈ x :: b := by rw [← h4]; exact la_mem x b
  have hxS : S.testBit x = true := (h5 x).mpr (by simp)
  exact ⟨hl, h64, hx, (h3 e hm).2, (h5 e).mpr hm, hxS, fun q => by rw [q] at hxS; simp at hxS⟩
theorem pth_low (h6 : n ≤ 6) (h : pth n w S x b e) : lowS S = x ∧ ∀ t, t < x → S.testBit t = false := by
  have h0 := pth_lt h6 h
  have h1 : ∀ t, t < x → S.testBit t = false := by
    intro t ht
    apply Classical.byContradiction
    intro q
    have q2 : S.testBit t = true := by simpa using q
    have := (h.2.2.1 t ((h.2.2.2.2 t).mp q2)).1
    omega
  exact ⟨lowS_is (by omega) h0.2.2.2.2.2.1 h1, h1⟩
theorem pth_pc (h6 : n ≤ 6) (h : pth n w S x b e) : pcn S 6 = b.length + 1 := by
  rw [pcn_cnt, show (fun j => S.testBit j) = fun j => decide (j ∈ x :: b) from ?_, cnt_mem 6 (x :: b) h.1 (fun y hy => by have := (h.2.2.1 y hy).2; omega)]
  · rfl
  · funext j
    by_cases c : j ∈ x :: b
    · rw [(h.2.2.2.2 j).mpr c]; simp [c]
    · have : S.testBit j = false := by
        apply Classical.byContradiction
        intro q
        exact c ((h.2.2.2.2 j).mp (by simpa using q))
      rw [this]; simp [c]
theorem pth_ext (h : pth n w S x b e) {t : Nat} (ht : x < t) (he : eB n w e t = true) (hb : S.testBit t = false) : pth n w (S ||| 2 ^ t) x (b ++ [t]) t := by
  obtain ⟨h1, h2, h3, h4, h5⟩ := h
  have hm : t ∉ x :: b := fun q => by rw [(h5 t).mpr q] at hb; cases hb
  refine ⟨?_, ?_, ?_, ?_, ?_⟩
  · have := nodup_snoc.mpr ⟨h1, hm⟩
    simpa using this
  · rw [chn_app, h4]
    exact ⟨h2, he, trivial⟩
  · intro y hy
    rw [← List.cons_append, List.mem_append, List.mem_singleton] at hy
    rcases hy with q | q
    · exact h3 y q
    · subst q
      have := (eB_b _ _ he).2
      omega
  · rw [la_app]; rfl
  · intro y
    rw [or_t, h5, ← List.cons_append, List.mem_append, List.mem_singleton]
theorem pth_pred (h : pth n w S x b e) : b = [] ∨ ∃ S' b', b = b' ++ [e] ∧ pth n w S' x b' (la x b') ∧ eB n w (la x b') e = true ∧ x < e ∧ S'.testBit e = false ∧ S = S' ||| 2 ^ e ∧ S' < S := by
  obtain ⟨h1, h2, h3, h4, h5⟩ := h
  by_cases hb : b = []
  · exact Or.inl hb
  · right
    have e1 := List.dropLast_concat_getLast hb
    generalize b.dropLast = b' at e1
    generalize b.getLast hb = t at e1
    subst e1
    have et : t = e := by rw [la_app] at h4; exact h4
    subst et
    have hnd : (x :: b').Nodup ∧ t ∉ x :: b' := nodup_snoc.mp (by simpa using h1)
    obtain ⟨c1, c2, -⟩ := (chn_app x b' [t]).mp h2
    have hbit : (msk (x :: b')).testBit t = false := by
      apply Classical.byContradiction
      intro q
      exact hnd.2 ((msk_t _ _).mp (by simpa using q))
    have hS : S = msk (x :: b') ||| 2 ^ t := by
      apply Nat.eq_of_testBit_eq
      intro i
      have : S.testBit i = true ↔ (msk (x :: b') ||| 2 ^ t).testBit i = true := by
        rw [h5, or_t, msk_t, ← List.cons_append, List.mem_append, List.mem_singleton]
      cases q1 : S.testBit i <;> cases q2 : (msk (x :: b') ||| 2 ^ t).testBit i <;> simp_all
    refine ⟨msk (x :: b'), b', rfl, ⟨hnd.1, c1, fun y hy => h3 y (by rw [← List.cons_append, List.mem_append]; exact Or.inl hy), rfl, fun t => msk_t _ _⟩, c2, ?_, hbit, hS, ?_⟩
    · have := (h3 t (by simp)).1
      have h9 : t ≠ x := fun q => hnd.2 (by rw [q]; simp)
      omega
    · have h8 : msk (x :: b') ≤ S := by rw [hS]; exact Nat.left_le_or
      have h9 : msk (x :: b') ≠ S := fun q => by
        have : S.testBit t = true := by rw [hS, or_t]; exact Or.inr rfl
        rw [← q, hbit] at this
        cases this
      omega
end PTH
/-! how many rings go on from a walk -/
def Rn (n : Nat) (w : Nat → Int) (x : Nat) : Nat → Nat → Nat → Nat
  | 0, _, _ => 0
  | f + 1, S, e => (if eB n w e x = true then 1 else 0) + itr (fun t a => a + (if x < t ∧ eB n w e t = true ∧ S.testBit t = false then Rn n w x f (S ||| 2 ^ t) t else 0)) n 0
theorem Rn_s (n : Nat) (w : Nat → Int) (x f S e : Nat) : Rn n w x (f + 1) S e = (if eB n w e x = true then 1 else 0) + itr (fun t a => a + (if x < t ∧ eB n w e t = true ∧ S.testBit t = false then Rn n w x f (S ||| 2 ^ t) t else 0)) n 0 := rfl
theorem itr_cg {α : Type} {g g' : Nat → α → α} {a : α} : ∀ (n : Nat), (∀ k, k < n → ∀ b, g k b = g' k b) → itr g n a = itr g' n a := by
  intro n
  induction n with
  | zero => intro _; rfl
  | succ n ih =>
    intro h
    simp only [itr]
    rw [ih (fun k hk => h k (by omega)), h n (by omega)]
theorem len_fm {α : Type} (a : Nat) (g : Nat → List α) : ∀ k : Nat, ((List.range' a k).flatMap g).length = itr (fun t c => c + (if a ≤ t then (g t).length else 0)) (a + k) 0 := by
  intro k
  induction k with
  | zero =>
    have : ∀ m, m ≤ a → itr (fun t c => c + (if a ≤ t then (g t).length else 0)) m 0 = 0 := by
      intro m
      induction m with
      | zero => intro _; rfl
      | succ m ih =>
        intro hm
        simp only [itr]
        rw [ih (by omega), if_neg (by omega)]
    rw [show a + 0 = a from rfl, this a (Nat.le_refl _)]
    rfl
  | succ k ih =>
    rw [List.range'_1_concat, List.flatMap_append, List.length_append, ih, List.flatMap_singleton]
    show _ = itr (fun t c => c + (if a ≤ t then (g t).length else 0)) (a + k) 0 + (if a ≤ a + k then (g (a + k)).length else 0)
    rw [if_pos (by omega)]
theorem dfs_Rn {n : Nat} {w : Nat → Int} {som : Nat → Bool} (h6 : n ≤ 6) (hsom : ∀ t, t < n → som t = true) {x : Nat} : ∀ (f g S e : Nat) (b : List Nat), pth n w S x b e → n ≤ f + b.length → n ≤ g + b.length → (dfs (eB n w) n x som f b).length = Rn n w x g S e := by
  intro f
  induction f with
  | zero =>
    intro g S e b h h1 _
    have := nodup_lt n (x :: b) h.1 (fun y hy => (h.2.2.1 y hy).2)
    simp only [List.length_cons] at this
    omega
  | succ f ih =>
    intro g S e b h h1 h2
    have hlen := nodup_lt n (x :: b) h.1 (fun y hy => (h.2.2.1 y hy).2)
    simp only [List.length_cons] at hlen
    obtain ⟨g', rfl⟩ : ∃ g', g = g' + 1 := ⟨g - 1, by omega⟩
    have hl := pth_lt h6 h
    rw [dfs_bd, Rn_s, len_fm]
    rw [show x + (n - x) = n by omega]
    have key : ∀ m, m ≤ n → itr (fun t c => c + (if x ≤ t then (dbd (eB n w) n x som f b t).length else 0)) m 0 = (if x < m ∧ eB n w e x = true then 1 else 0) + itr (fun t a => a + (if x < t ∧ eB n w e t = true ∧ S.testBit t = false then Rn n w x g' (S ||| 2 ^ t) t else 0)) m 0 := by
      intro m
      induction m with
      | zero => intro _; simp [itr]
      | succ m ihm =>
        intro hm
        simp only [itr]
        rw [ihm (by omega)]
        generalize itr (fun t a => a + (if x < t ∧ eB n w e t = true ∧ S.testBit t = false then Rn n w x g' (S ||| 2 ^ t) t else 0)) m 0 = acc
        rcases Nat.lt_trichotomy m x with c | c | c
        · rw [if_neg (show ¬ (x < m ∧ eB n w e x = true) from fun q => by omega), if_neg (show ¬ x ≤ m by omega), if_neg (show ¬ (x < m + 1 ∧ eB n w e x = true) from fun q => by omega), if_neg (show ¬ (x < m ∧ _) from fun q => by omega)]
          omega
        · subst c
          rw [if_neg (show ¬ (m < m ∧ eB n w e m = true) from fun q => by omega), if_pos (Nat.le_refl _), if_neg (show ¬ (m < m ∧ eB n w e m = true ∧ _) from fun q => by omega)]
          unfold dbd
          rw [h.2.2.2.1]
          by_cases c2 : eB n w e m = true
          · rw [if_pos ⟨rfl, c2⟩, if_pos ⟨by omega, c2⟩]
            simp
            omega
          · rw [if_neg (fun q => c2 q.2), if_neg (fun q => c2 q.1), if_neg (fun q => c2 q.2)]
            simp
        · rw [if_pos (show x ≤ m by omega)]
          unfold dbd
          rw [h.2.2.2.1, if_neg (show ¬ (m = x ∧ _) from fun q => by omega)]
          have e1 : (if x < m ∧ eB n w e x = true then 1 else 0) = (if x < m + 1 ∧ eB n w e x = true then 1 else 0) := by
            by_cases q : eB n w e x = true
            · rw [if_pos ⟨c, q⟩, if_pos ⟨by omega, q⟩]
            · rw [if_neg (fun z => q z.2), if_neg (fun z => q z.2)]
          rw [e1]
          by_cases c2 : eB n w e m = true ∧ som m = true ∧ m ∉ x :: b
          · have hb : S.testBit m = false := by
              apply Classical.byContradiction
              intro q
              exact c2.2.2 ((h.2.2.2.2 m).mp (by simpa using q))
            rw [if_pos c2, if_pos (show x < m ∧ eB n w e m = true ∧ S.testBit m = false from ⟨c, c2.1, hb⟩), ih g' (S ||| 2 ^ m) m (b ++ [m]) (pth_ext h c c2.1 hb) (by simp; omega) (by simp; omega)]
            omega
          · have h9 : ¬ (x < m ∧ eB n w e m = true ∧ S.testBit m = false) := fun q => c2 ⟨q.2.1, hsom m (by omega), fun z => by rw [(h.2.2.2.2 m).mpr z] at q; cases q.2.2⟩
            rw [if_neg c2, if_neg h9]
            simp
    rw [key n (Nat.le_refl _)]
    have e2 : (if x < n ∧ eB n w e x = true then 1 else 0) = (if eB n w e x = true then 1 else 0) := by
      by_cases q : eB n w e x = true
      · rw [if_pos ⟨hl.2.2.1, q⟩, if_pos q]
      · rw [if_neg (fun z => q z.2), if_neg q]
    rw [e2]
/-! sums over the cells that are still to come -/
def sF (c Q : Nat → Nat) : Nat → Nat
  | 0 => 0
  | d + 1 => c (383 - d) * Q (383 - d) + sF c Q d
def nup (c : Nat → Nat) (a v : Nat) : Nat → Nat := fun k => if k = a then v else c k
theorem sF_out {c Q : Nat → Nat} {a v : Nat} : ∀ d, d ≤ 384 → a < 384 - d → sF (nup c a v) Q d = sF c Q d := by
  intro d
  induction d with
  | zero => intro _ _; rfl
  | succ d ih =>
    intro hd ha
    unfold sF
    rw [ih (by omega) (by omega)]
    unfold nup
    rw [if_neg (by omega)]
theorem sF_up {c Q : Nat → Nat} {a v : Nat} : ∀ d, d ≤ 384 → 384 - d ≤ a → a < 384 → sF (nup c a (c a + v)) Q d = sF c Q d + v * Q a := by
  intro d
  induction d with
  | zero => intro _ h1 h2; omega
  | succ d ih =>
    intro hd h1 h2
    unfold sF
    by_cases e : 383 - d = a
    · rw [sF_out d (by omega) (by omega)]
      unfold nup
      rw [if_pos e, e, Nat.add_mul]
      omega
    · rw [ih (by omega) (by omega) h2]
      unfold nup
      rw [if_neg e]
      omega
theorem sF_ge {c Q : Nat → Nat} {a : Nat} : ∀ d, d ≤ 384 → 384 - d ≤ a → a < 384 → c a * Q a ≤ sF c Q d := by
  intro d
  induction d with
  | zero => intro _ h1 h2; omega
  | succ d ih =>
    intro hd h1 h2
    unfold sF
    by_cases e : 383 - d = a
    · rw [e]; omega
    · have := ih (by omega) (by omega) h2
      omega
theorem sF_0 {c Q : Nat → Nat} : ∀ d, d ≤ 384 → (∀ j, 384 - d ≤ j → j < 384 → c j = 0) → sF c Q d = 0 := by
  intro d
  induction d with
  | zero => intro _ _; rfl
  | succ d ih =>
    intro hd h
    unfold sF
    rw [ih (by omega) (fun j h1 h2 => h j (by omega) h2), h (383 - d) (by omega) (by omega)]
    simp
theorem sF_at {c Q : Nat → Nat} {k : Nat} (hk : k < 384) : sF c Q (384 - k) = c k * Q k + sF c Q (384 - (k + 1)) := by
  rw [show 384 - k = (384 - (k + 1)) + 1 by omega]
  show c (383 - (384 - (k + 1))) * Q (383 - (384 - (k + 1))) + _ = _
  rw [show 383 - (384 - (k + 1)) = k by omega]
/-! one walk taken one departure further -/
abbrev hit (n : Nat) (w : Nat → Int) (S e x m j : Nat) : Prop := j % 6 < m ∧ x < j % 6 ∧ eB n w e (j % 6) = true ∧ S.testBit (j % 6) = false ∧ j / 6 = S ||| 2 ^ (j % 6)
def gC (n : Nat) (w : Nat → Int) (S e x m : Nat) (c : Nat → Nat) (v : Nat) : Nat → Nat := fun j => if hit n w S e x m j then c j + v else c j
def gL (n : Nat) (w : Nat → Int) (S e x m : Nat) (l : Nat → Int) (z : Int) : Nat → Int := fun j => if hit n w S e x m j then max (l j) (z + w (6 * e + j % 6)) else l j
abbrev okt (n : Nat) (w : Nat → Int) (S e x t : Nat) : Prop := x < t ∧ eB n w e t = true ∧ S.testBit t = false
def cel (S t : Nat) : Nat := 6 * (S ||| 2 ^ t) + t
theorem cel_6 {S t : Nat} (ht : t < 6) : cel S t % 6 = t ∧ cel S t / 6 = S ||| 2 ^ t := by unfold cel; omega
section STEP
variable {n : Nat} {w : Nat → Int} {S e x m : Nat}
theorem hit_s (hm : m < 6) (j : Nat) : hit n w S e x (m + 1) j ↔ hit n w S e x m j ∨ (okt n w S e x m ∧ j = cel S m) := by
  have hc := cel_6 (S := S) hm
  constructor
  · rintro ⟨h1, h2, h3, h4, h5⟩
    by_cases q : j % 6 = m
    · right
      rw [q] at h2 h3 h4 h5
      refine ⟨⟨h2, h3, h4⟩, ?_⟩
      unfold cel
      omega
    · exact Or.inl ⟨by omega, h2, h3, h4, h5⟩
  · rintro (⟨h1, h2, h3, h4, h5⟩ | ⟨⟨h1, h2, h3⟩, rfl⟩)
    · exact ⟨by omega, h2, h3, h4, h5⟩
    · refine ⟨?_, ?_, ?_, ?_, ?_⟩
      · rw [hc.1]; omega
      · rw [hc.1]; exact h1
      · rw [hc.1]; exact h2
      · rw [hc.1]; exact h3
      · rw [hc.1]; exact hc.2
theorem hit_no (hm : m < 6) : ¬ hit n w S e x m (cel S m) := fun q => by
  have hc := cel_6 (S := S) hm
  have := q.1
  omega
theorem gC_n (hm : m < 6) (c : Nat → Nat) (v : Nat) (h : ¬ okt n w S e x m) : gC n w S e x (m + 1) c v = gC n w S e x m c v := by
  funext j
  unfold gC
  have := hit_s (n := n) (w := w) (S := S) (e := e) (x := x) hm j
  by_cases q : hit n w S e x m j
  · rw [if_pos q, if_pos (this.mpr (Or.inl q))]
  · rw [if_neg q, if_neg (fun z => (this.mp z).elim q (fun z => h z.1))]
theorem gC_y (hm : m < 6) (c : Nat → Nat) (v : Nat) (h : okt n w S e x m) : gC n w S e x (m + 1) c v = nup (gC n w S e x m c v) (cel S m) (gC n w S e x m c v (cel S m) + v) := by
  funext j
  have h1 := hit_s (n := n) (w := w) (S := S) (e := e) (x := x) hm j
  have h2 := hit_no (n := n) (w := w) (S := S) (e := e) (x := x) hm
  unfold nup
  by_cases q : j = cel S m
  · rw [if_pos q]
    subst q
    unfold gC
    rw [if_neg h2, if_pos (h1.mpr (Or.inr ⟨h, rfl⟩))]
  · rw [if_neg q]
    unfold gC
    by_cases z : hit n w S e x m j
    · rw [if_pos z, if_pos (h1.mpr (Or.inl z))]
    · rw [if_neg z, if_neg (fun y => (h1.mp y).elim z (fun y => q y.2))]
theorem gL_n (hm : m < 6) (l : Nat → Int) (z : Int) (h : ¬ okt n w S e x m) : gL n w S e x (m + 1) l z = gL n w S e x m l z := by
  funext j
  unfold gL
  have := hit_s (n := n) (w := w) (S := S) (e := e) (x := x) hm j
  by_cases q : hit n w S e x m j
  · rw [if_pos q, if_pos (this.mpr (Or.inl q))]
  · rw [if_neg q, if_neg (fun z => (this.mp z).elim q (fun z => h z.1))]
theorem gL_y (hm : m < 6) (l : Nat → Int) (z : Int) (h : okt n w S e x m) : gL n w S e x (m + 1) l z = wup (gL n w S e x m l z) (cel S m) (max (gL n w S e x m l z (cel S m)) (z + w (6 * e + m))) := by
  funext j
  have h1 := hit_s (n := n) (w := w) (S := S) (e := e) (x := x) hm j
  have h2 := hit_no (n := n) (w := w) (S := S) (e := e) (x := x) hm
  unfold wup
  by_cases q : j = cel S m
  · rw [if_pos q]
    subst q
    unfold gL
    rw [if_neg h2, if_pos (h1.mpr (Or.inr ⟨h, rfl⟩)), (cel_6 hm).1]
  · rw [if_neg q]
    unfold gL
    by_cases z : hit n w S e x m j
    · rw [if_pos z, if_pos (h1.mpr (Or.inl z))]
    · rw [if_neg z, if_neg (fun y => (h1.mp y).elim z (fun y => q y.2))]
theorem gC_0 (c : Nat → Nat) (v : Nat) (hm : m ≤ x + 1) : gC n w S e x m c v = c := by
  funext j
  unfold gC
  rw [if_neg (fun q => by have := q.1; have := q.2.1; omega)]
theorem gL_0 (l : Nat → Int) (z : Int) (hm : m ≤ x + 1) : gL n w S e x m l z = l := by
  funext j
  unfold gL
  rw [if_neg (fun q => by have := q.1; have := q.2.1; omega)]
theorem gC_sum (h6 : n ≤ 6) (hS : S < 64) (c Q : Nat → Nat) (v : Nat) {d : Nat} (hd : d ≤ 384) (hlo : ∀ t, t < n → okt n w S e x t → 384 - d ≤ cel S t) : ∀ m, m ≤ n → sF (gC n w S e x m c v) Q d = sF c Q d + v * itr (fun t a => a + (if okt n w S e x t then Q (cel S t) else 0)) m 0 := by
  intro m
  induction m with
  | zero =>
    intro _
    rw [gC_0 c v (by omega)]
    simp [itr]
  | succ m ih =>
    intro hm
    simp only [itr]
    by_cases q : okt n w S e x m
    · have h64 := or_64 hS (show m < 6 by omega)
      rw [gC_y (by omega) c v q, sF_up d hd (hlo m (by omega) q) (by unfold cel; omega), ih (by omega), if_pos q, Nat.mul_add]
      omega
    · rw [gC_n (by omega) c v q, ih (by omega), if_neg q, Nat.add_zero]
end STEP
end
section
/-! what holds while the class goes through the sets -/
def Rc (n : Nat) (w : Nat → Int) (j : Nat) : Nat := Rn n w (lowS (j / 6)) (7 - pcn (j / 6) 6) (j / 6) (j % 6)
def Qc (j : Nat) : Nat := 6 ^ (6 - pcn (j / 6) 6)
def prd (n : Nat) (w : Nat → Int) (S x : Nat) (b : List Nat) (e S' : Nat) (b' : List Nat) : Prop := b = b' ++ [e] ∧ pth n w S' x b' (la x b') ∧ eB n w (la x b') e = true ∧ x < e ∧ S'.testBit e = false ∧ S = S' ||| 2 ^ e ∧ S' < S
def fInv (n : Nat) (w : Nat → Int) (tot k : Nat) (c : Nat → Nat) (l ps : Nat → Int) (rg : Nat) : Prop :=
  (rg + sF c (Rc n w) (384 - k) = tot ∧ sF c Qc (384 - k) ≤ 46656) ∧
  (∀ j, j < 384 → c j ≠ 0 → ∃ x b, pth n w (j / 6) x b (j % 6) ∧ l j = wsm (wN w) x b) ∧
  (∀ j, (0 ≤ l j ∧ l j ≤ 60) ∧ (c j = 0 → l j = 0)) ∧
  (∀ S x b e, pth n w S x b e → (b = [] ∨ ∃ S' b', prd n w S x b e S' b' ∧ 6 * S' + la x b' < k) → c (6 * S + e) ≠ 0 ∧ wsm (wN w) x b ≤ l (6 * S + e)) ∧
  (∀ S, 0 ≤ ps S ∧ (ps S = 0 ∨ ∃ x b e, pth n w S x b e ∧ eB n w e x = true ∧ ps S = (wsm (wN w) x b + wN w e x) * sx (b.length + 1))) ∧
  (∀ S x b e, pth n w S x b e → eB n w e x = true → 6 * S + e < k → (wsm (wN w) x b + wN w e x) * sx (b.length + 1) ≤ ps S)
section FINV
variable {n : Nat} {w : Nat → Int} {tot k : Nat} {c : Nat → Nat} {l ps : Nat → Int} {rg S e : Nat}
theorem nfb {b : Bool} (h : ¬ b = false) : b = true := by cases b <;> simp_all
theorem or_gt {S t : Nat} (h : S.testBit t = false) : S < S ||| 2 ^ t := by
  have h1 : S ≤ S ||| 2 ^ t := Nat.left_le_or
  have h2 : S ≠ S ||| 2 ^ t := fun q => by
    have : (S ||| 2 ^ t).testBit t = true := or_t.mpr (Or.inr rfl)
    rw [← q, h] at this
    cases this
  omega
/-- a walk whose cell comes next has been counted -/
theorem fInv_own (h6 : n ≤ 6) (hI : fInv n w tot (6 * S + e) c l ps rg) {x : Nat} {b : List Nat} (hp : pth n w S x b e) : c (6 * S + e) ≠ 0 ∧ wsm (wN w) x b ≤ l (6 * S + e) := by
  refine hI.2.2.2.1 S x b e hp ?_
  rcases pth_pred hp with q | ⟨S', b', q⟩
  · exact Or.inl q
  · refine Or.inr ⟨S', b', q, ?_⟩
    have := (pth_lt h6 q.2.1).2.2.2.1
    have := q.2.2.2.2.2.2
    omega
theorem fInv_skip (h6 : n ≤ 6) (hS : S < 64) (he : e < 6) (hI : fInv n w tot (6 * S + e) c l ps rg) (hc : c (6 * S + e) = 0) : fInv n w tot (6 * S + e + 1) c l ps rg := by
  have hown := fun x b => fInv_own (x := x) (b := b) h6 hI
  obtain ⟨⟨i1, i2⟩, i3, i4, i5, i6, i7⟩ := hI
  rw [sF_at (show 6 * S + e < 384 by omega), hc, Nat.zero_mul, Nat.zero_add] at i1 i2
  refine ⟨⟨i1, i2⟩, i3, i4, ?_, i6, ?_⟩
  · intro S1 x b e1 hp hq
    rcases hq with q | ⟨S', b', q, hlt⟩
    · exact i5 S1 x b e1 hp (Or.inl q)
    · by_cases z : 6 * S' + la x b' < 6 * S + e
      · exact i5 S1 x b e1 hp (Or.inr ⟨S', b', q, z⟩)
      · exfalso
        have hl := (pth_lt h6 q.2.1).2.2.2.1
        have e1 : S' = S := by omega
        have e2 : la x b' = e := by omega
        have hp' := q.2.1
        rw [e1, e2] at hp'
        exact (hown x b' hp').1 hc
  · intro S1 x b e1 hp hq hlt
    by_cases z : 6 * S1 + e1 < 6 * S + e
    · exact i7 S1 x b e1 hp hq z
    · exfalso
      have hl := (pth_lt h6 hp).2.2.2.1
      have e3 : S1 = S := by omega
      have e4 : e1 = e := by omega
      rw [e3, e4] at hp
      exact (hown x b hp).1 hc
theorem fInv_out (h6 : n ≤ 6) (hS : S < 64) (he : e < 6) (hn : n ≤ e) (hI : fInv n w tot (6 * S + e) c l ps rg) : fInv n w tot (6 * S + e + 1) c l ps rg := by
  refine fInv_skip h6 hS he hI ?_
  apply Classical.byContradiction
  intro q
  obtain ⟨x, b, hp, -⟩ := hI.2.1 _ (by omega) q
  have := (pth_lt h6 hp).2.2.2.1
  omega
theorem fInv_path (h6 : n ≤ 6) (hS : S < 64) (he : e < 6) (hI : fInv n w tot (6 * S + e) c l ps rg) (hc : c (6 * S + e) ≠ 0) : ∃ x b, pth n w S x b e ∧ l (6 * S + e) = wsm (wN w) x b := by
  obtain ⟨x, b, hp, hl⟩ := hI.2.1 _ (by omega) hc
  rw [show (6 * S + e) / 6 = S by omega, show (6 * S + e) % 6 = e by omega] at hp
  exact ⟨x, b, hp, hl⟩
theorem fInv_cb (hS : S < 64) (he : e < 6) (hI : fInv n w tot (6 * S + e) c l ps rg) : c (6 * S + e) ≤ 46656 := by
  have h1 := sF_ge (c := c) (Q := Qc) (a := 6 * S + e) (384 - (6 * S + e)) (by omega) (by omega) (by omega)
  have h2 := hI.1.2
  have h3 : 1 ≤ Qc (6 * S + e) := Nat.one_le_pow _ _ (by decide)
  have h4 : c (6 * S + e) * 1 ≤ c (6 * S + e) * Qc (6 * S + e) := Nat.mul_le_mul_left _ h3
  omega
theorem fInv_go (hw : okn n w) (hS : S < 64) (he : e < n) (hI : fInv n w tot (6 * S + e) c l ps rg) (hc : c (6 * S + e) ≠ 0) {x : Nat} (hx : lowS S = x) :
    fInv n w tot (6 * S + e + 1) (gC n w S e x n c (c (6 * S + e))) (gL n w S e x n l (l (6 * S + e))) (if eB n w e x = true then wup ps S (max (ps S) ((l (6 * S + e) + w (6 * e + x)) * sx (pcn S 6))) else ps) (rg + if eB n w e x = true then c (6 * S + e) else 0) := by
  have h6 := hw.2.1
  have hown := fun x b => fInv_own (x := x) (b := b) h6 hI
  obtain ⟨x0, b0, hp0, hl0⟩ := fInv_path h6 hS (by omega) hI hc
  have hx0 := (pth_low h6 hp0).1
  rw [hx] at hx0
  subst hx0
  have hlow := (pth_low h6 hp0).2
  have hpl := pth_lt h6 hp0
  have hpc := pth_pc h6 hp0
  obtain ⟨⟨i1, i2⟩, i3, i4, i5, i6, i7⟩ := hI
  obtain ⟨K, eK⟩ : ∃ K, K = 6 * S + e := ⟨_, rfl⟩
  rw [← eK] at hc hl0 hown i1 i2 i5 i7 ⊢
  have hK : K < 384 := by omega
  have hKd : K / 6 = S ∧ K % 6 = e := by omega
  have hokt : ∀ t, t < n → okt n w S e x t → 384 - (384 - (K + 1)) ≤ cel S t := by
    intro t ht ho
    have := or_gt ho.2.2
    unfold cel
    omega
  have hnew : ∀ t, x < t → eB n w e t = true → S.testBit t = false → pth n w (S ||| 2 ^ t) x (b0 ++ [t]) t ∧ wsm (wN w) x (b0 ++ [t]) = l K + w (6 * e + t) ∧ 0 ≤ l K + w (6 * e + t) ∧ l K + w (6 * e + t) ≤ 60 := by
    intro t h1 h2 h3
    have hp1 := pth_ext hp0 h1 h2 h3
    have hs : wsm (wN w) x (b0 ++ [t]) = l K + w (6 * e + t) := by
      rw [wsm_app, hp0.2.2.2.1, ← hl0]
      simp [wsm, wN]
    have h9 := wsm_9 hw _ _ hp1.2.1
    have hlen := nodup_lt n _ hp1.1 (fun y hy => (hp1.2.2.1 y hy).2)
    rw [hs] at h9
    simp only [List.length_cons, List.length_append, List.length_nil] at hlen h9
    exact ⟨hp1, hs, by omega, by omega⟩
  have cge : ∀ j, c j ≤ gC n w S e x n c (c K) j := by
    intro j
    unfold gC
    split <;> omega
  have lge : ∀ j, l j ≤ gL n w S e x n l (l K) j := by
    intro j
    unfold gL
    split <;> omega
  refine ⟨⟨?_, ?_⟩, ?_, ?_, ?_, ?_, ?_⟩
  · rw [gC_sum h6 hS c (Rc n w) (c K) (by omega) hokt n (Nat.le_refl _)]
    rw [sF_at hK] at i1
    have hR : Rc n w K = (if eB n w e x = true then 1 else 0) + itr (fun t a => a + (if okt n w S e x t then Rc n w (cel S t) else 0)) n 0 := by
      obtain ⟨f, ef⟩ : ∃ f, 7 - pcn S 6 = f + 1 := ⟨6 - pcn S 6, by have := pcn_6 S; omega⟩
      unfold Rc
      rw [hKd.1, hKd.2, hx, ef, Rn_s]
      congr 1
      refine itr_cg n (fun t ht a => ?_)
      by_cases ho : okt n w S e x t
      · have h1 := pcn_in S hS t (by omega) ho.2.2
        have h2 : lowS (S ||| 2 ^ t) = x := lowS_is (by omega) (or_t.mpr (Or.inl hpl.2.2.2.2.2.1)) (fun u hu => by
          apply Classical.byContradiction
          intro q
          have q2 : (S ||| 2 ^ t).testBit u = true := nfb q
          rcases or_t.mp q2 with z | z
          · rw [hlow u hu] at z; cases z
          · have := ho.1; omega)
        rw [if_pos ho, if_pos ho, (cel_6 (S := S) (show t < 6 by omega)).1, (cel_6 (S := S) (show t < 6 by omega)).2, h2, h1, show 7 - (pcn S 6 + 1) = f by omega]
      · rw [if_neg ho, if_neg ho]
    rw [hR, Nat.mul_add] at i1
    by_cases q : eB n w e x = true
    · rw [if_pos q] at i1 ⊢
      omega
    · rw [if_neg q] at i1 ⊢
      omega
  · rw [gC_sum h6 hS c Qc (c K) (by omega) hokt n (Nat.le_refl _)]
    rw [sF_at hK] at i2
    have hQ : ∀ m, m ≤ n → 6 * itr (fun t a => a + (if okt n w S e x t then Qc (cel S t) else 0)) m 0 ≤ m * Qc K := by
      intro m
      induction m with
      | zero => intro _; simp [itr]
      | succ m ih =>
        intro hm
        have := ih (by omega)
        simp only [itr]
        rw [show (m + 1) * Qc K = m * Qc K + Qc K from Nat.succ_mul m _]
        by_cases ho : okt n w S e x m
        · have h1 := pcn_in S hS m (by omega) ho.2.2
          have h2 := pcn_6 (S ||| 2 ^ m)
          have h3 : 6 * Qc (cel S m) = Qc K := by
            unfold Qc
            rw [(cel_6 (S := S) (show m < 6 by omega)).2, hKd.1, h1, show 6 - pcn S 6 = (6 - (pcn S 6 + 1)) + 1 by omega, Nat.pow_succ]
            omega
          rw [if_pos ho]
          omega
        · rw [if_neg ho]
          omega
    have h1 := hQ n (Nat.le_refl _)
    have h2 : n * Qc K ≤ 6 * Qc K := Nat.mul_le_mul_right _ h6
    have h3 : itr (fun t a => a + (if okt n w S e x t then Qc (cel S t) else 0)) n 0 ≤ Qc K := by omega
    have h4 := Nat.mul_le_mul_left (c K) h3
    omega
  · intro j hj hcj
    by_cases ht : hit n w S e x n j
    · obtain ⟨n1, n2, n3, n4⟩ := hnew (j % 6) ht.2.1 ht.2.2.1 ht.2.2.2.1
      have ejl : gL n w S e x n l (l K) j = max (l j) (l K + w (6 * e + j % 6)) := by unfold gL; rw [if_pos ht]
      rw [ejl, ht.2.2.2.2]
      by_cases z : c j = 0
      · have := (i4 j).2 z
        exact ⟨x, b0 ++ [j % 6], n1, by omega⟩
      · by_cases z2 : l K + w (6 * e + j % 6) ≤ l j
        · obtain ⟨x1, b1, q1, q2⟩ := i3 j hj z
          rw [ht.2.2.2.2] at q1
          exact ⟨x1, b1, q1, by omega⟩
        · exact ⟨x, b0 ++ [j % 6], n1, by omega⟩
    · unfold gC at hcj
      rw [if_neg ht] at hcj
      unfold gL
      rw [if_neg ht]
      exact i3 j hj hcj
  · intro j
    have b1 := i4 j
    unfold gL gC
    by_cases ht : hit n w S e x n j
    · obtain ⟨n1, n2, n3, n4⟩ := hnew (j % 6) ht.2.1 ht.2.2.1 ht.2.2.2.1
      rw [if_pos ht, if_pos ht]
      exact ⟨by omega, fun q => by omega⟩
    · rw [if_neg ht, if_neg ht]
      exact b1
  · intro S1 x1 b1 e1 hp hq
    have old : (c (6 * S1 + e1) ≠ 0 ∧ wsm (wN w) x1 b1 ≤ l (6 * S1 + e1)) → gC n w S e x n c (c K) (6 * S1 + e1) ≠ 0 ∧ wsm (wN w) x1 b1 ≤ gL n w S e x n l (l K) (6 * S1 + e1) := by
      rintro ⟨q1, q2⟩
      have := cge (6 * S1 + e1)
      have := lge (6 * S1 + e1)
      exact ⟨by omega, by omega⟩
    rcases hq with q | ⟨S', b', q, hlt⟩
    · exact old (i5 S1 x1 b1 e1 hp (Or.inl q))
    · by_cases z : 6 * S' + la x1 b' < K
      · exact old (i5 S1 x1 b1 e1 hp (Or.inr ⟨S', b', q, z⟩))
      · have hl1 := (pth_lt h6 q.2.1).2.2.2.1
        have z1 : S' = S := by omega
        have z2 : la x1 b' = e := by omega
        obtain ⟨q1, q2, q3, q4, q5, q6, -⟩ := q
        rw [z1] at q2 q5 q6
        rw [z2] at q2 q3
        have hx1 := (pth_low h6 q2).1
        rw [hx] at hx1
        subst hx1
        obtain ⟨o1, o2⟩ := hown x b' q2
        have he1 := (pth_lt h6 hp).2.2.2.1
        have ht : hit n w S e x n (6 * S1 + e1) := by
          have a1 : (6 * S1 + e1) % 6 = e1 := by omega
          have a2 : (6 * S1 + e1) / 6 = S1 := by omega
          exact ⟨by rw [a1]; exact he1, by rw [a1]; exact q4, by rw [a1]; exact q3, by rw [a1]; exact q5, by rw [a1, a2]; exact q6⟩
        unfold gC gL
        rw [if_pos ht, if_pos ht, show (6 * S1 + e1) % 6 = e1 by omega, q1, wsm_app, z2]
        simp only [wsm, wN]
        exact ⟨by omega, by omega⟩
  · intro S1
    obtain ⟨g1, g2⟩ := i6 S1
    by_cases q : eB n w e x = true
    · rw [if_pos q]
      unfold wup
      by_cases z : S1 = S
      · rw [if_pos z]
        subst z
        refine ⟨by omega, ?_⟩
        by_cases z2 : (l K + w (6 * e + x)) * sx (pcn S1 6) ≤ ps S1
        · rw [show max (ps S1) ((l K + w (6 * e + x)) * sx (pcn S1 6)) = ps S1 by omega]
          exact g2
        · right
          refine ⟨x, b0, e, hp0, q, ?_⟩
          rw [show max (ps S1) ((l K + w (6 * e + x)) * sx (pcn S1 6)) = (l K + w (6 * e + x)) * sx (pcn S1 6) by omega, hpc, hl0]
          rfl
      · rw [if_neg z]
        exact ⟨g1, g2⟩
    · rw [if_neg q]
      exact ⟨g1, g2⟩
  · intro S1 x1 b1 e1 hp hq hlt
    have hmono : ps S1 ≤ (if eB n w e x = true then wup ps S (max (ps S) ((l K + w (6 * e + x)) * sx (pcn S 6))) else ps) S1 := by
      by_cases q : eB n w e x = true
      · rw [if_pos q]
        unfold wup
        by_cases z : S1 = S
        · rw [if_pos z, z]; omega
        · rw [if_neg z]; omega
      · rw [if_neg q]; omega
    by_cases z : 6 * S1 + e1 < K
    · have := i7 S1 x1 b1 e1 hp hq z
      omega
    · have hl1 := (pth_lt h6 hp).2.2.2.1
      have z1 : S1 = S := by omega
      have z2 : e1 = e := by omega
      subst z1
      subst z2
      have hx1 := (pth_low h6 hp).1
      rw [hx] at hx1
      subst hx1
      obtain ⟨-, o2⟩ := hown x b1 hp
      have hpc1 := pth_pc h6 hp
      rw [if_pos hq]
      unfold wup
      rw [if_pos rfl, hpc1]
      have hs := sx_mul (m := b1.length + 1) (by omega) (by have := pcn_6 S1; omega)
      have : (wsm (wN w) x b1 + wN w e1 x) * sx (b1.length + 1) ≤ (l K + w (6 * e1 + x)) * sx (b1.length + 1) := Int.mul_le_mul_of_nonneg_right (by unfold wN; unfold wN at o2; omega) (by omega)
      omega
/-! at the start and at the end -/
def cI (m : Nat) : Nat → Nat := fun j => if j % 6 < m ∧ j / 6 = 2 ^ (j % 6) then 1 else 0
theorem cI_s {m : Nat} (hm : m < 6) : cI (m + 1) = nup (cI m) (cel 0 m) (cI m (cel 0 m) + 1) := by
  have hc := cel_6 (S := 0) hm
  rw [Nat.zero_or] at hc
  funext j
  unfold nup
  by_cases q : j = cel 0 m
  · rw [if_pos q, q]
    unfold cI
    rw [hc.1, hc.2, if_pos ⟨by omega, rfl⟩, if_neg (fun z => by omega)]
  · rw [if_neg q]
    unfold cI
    by_cases z : j % 6 < m ∧ j / 6 = 2 ^ (j % 6)
    · rw [if_pos z, if_pos ⟨by omega, z.2⟩]
    · rw [if_neg z, if_neg (fun y => by
        by_cases y2 : j % 6 = m
        · apply q
          have y3 := y.2
          rw [y2] at y3
          unfold cel
          rw [Nat.zero_or]
          omega
        · exact z ⟨by omega, y.2⟩)]
theorem cI_sum (Q : Nat → Nat) : ∀ m, m ≤ 6 → sF (cI m) Q 378 = itr (fun t a => a + Q (cel 0 t)) m 0 := by
  intro m
  induction m with
  | zero =>
    intro _
    rw [sF_0 378 (by omega) (fun j _ _ => by unfold cI; rw [if_neg (fun q => by omega)])]
    rfl
  | succ m ih =>
    intro hm
    have h1 : 1 ≤ 2 ^ m := Nat.one_le_two_pow
    have h2 : 2 ^ m < 2 ^ 6 := Nat.pow_lt_pow_right (by decide) (by omega)
    rw [cI_s (by omega), sF_up 378 (by omega) (by unfold cel; rw [Nat.zero_or]; omega) (by unfold cel; rw [Nat.zero_or]; omega), ih (by omega)]
    simp [itr]
theorem len_fm0 {α : Type} (g : Nat → List α) : ∀ k : Nat, ((List.range k).flatMap g).length = itr (fun t c => c + (g t).length) k 0 := by
  intro k
  induction k with
  | zero => rfl
  | succ k ih =>
    rw [List.range_succ, List.flatMap_append, List.length_append, ih, List.flatMap_singleton]
    rfl
theorem pth_one {x : Nat} (hx : x < n) : pth n w (0 ||| 2 ^ x) x [] x := by
  refine ⟨by simp, trivial, ?_, rfl, fun t => ?_⟩
  · intro y hy
    rw [List.mem_singleton] at hy
    omega
  · rw [or_t, List.mem_singleton]
    simp
theorem fInv_beg (hw : okn n w) : fInv n w (ringsL (eB n w) n (fun k => (63 : Nat).testBit k)).length 6 (cI n) (fun _ => 0) (fun _ => 0) 0 := by
  have h6 := hw.2.1
  have hno : ∀ x b e, ¬ pth n w 0 x b e := fun x b e q => (pth_lt h6 q).2.2.2.2.2.2 rfl
  refine ⟨⟨?_, ?_⟩, ?_, fun j => ⟨by show (0 : Int) ≤ 0 ∧ (0 : Int) ≤ 60; omega, fun _ => rfl⟩, ?_, fun S => ⟨by show (0 : Int) ≤ 0; omega, Or.inl rfl⟩, ?_⟩
  · rw [show 384 - 6 = 378 from rfl, cI_sum _ n h6, Nat.zero_add]
    unfold ringsL
    rw [len_fm0]
    refine itr_cg n (fun t ht a => ?_)
    have h1 := pth_one (w := w) ht
    have h2 := pcn_in 0 (by decide) t (by omega) (by simp)
    rw [if_pos (m63 t (by omega)), List.length_map, dfs_Rn h6 (fun t ht => m63 t (by omega)) n 6 _ t [] h1 (by simp) (by simp; omega)]
    unfold Rc
    rw [(cel_6 (S := 0) (show t < 6 by omega)).1, (cel_6 (S := 0) (show t < 6 by omega)).2, (pth_low h6 h1).1, h2]
    rfl
  · rw [show 384 - 6 = 378 from rfl, cI_sum _ n h6]
    have : ∀ m, m ≤ n → itr (fun t a => a + Qc (cel 0 t)) m 0 = m * 7776 := by
      intro m
      induction m with
      | zero => intro _; rfl
      | succ m ih =>
        intro hm
        have h2 := pcn_in 0 (by decide) m (by omega) (by simp)
        simp only [itr]
        rw [ih (by omega)]
        unfold Qc
        rw [(cel_6 (S := 0) (show m < 6 by omega)).2, h2]
        show m * 7776 + 7776 = (m + 1) * 7776
        omega
    rw [this n (Nat.le_refl _)]
    omega
  · intro j hj hc
    have hz : j % 6 < n ∧ j / 6 = 2 ^ (j % 6) := by
      apply Classical.byContradiction
      intro q
      unfold cI at hc
      rw [if_neg q] at hc
      exact hc rfl
    refine ⟨j % 6, [], ?_, rfl⟩
    have := pth_one (w := w) hz.1
    rw [Nat.zero_or, ← hz.2] at this
    exact this
  · intro S x b e hp hq
    rcases hq with q | ⟨S', b', q, hlt⟩
    · subst q
      have hl := pth_lt h6 hp
      have hS : S = 2 ^ x := by
        apply Nat.eq_of_testBit_eq
        intro i
        have h1 := hp.2.2.2.2 i
        rw [List.mem_singleton] at h1
        rw [Nat.testBit_two_pow]
        by_cases z : i = x
        · rw [h1.mpr z]
          simp [z]
        · have : S.testBit i = false := by
            apply Classical.byContradiction
            intro y
            exact z (h1.mp (by simpa using y))
          rw [this]
          have z' : ¬ x = i := fun y => z y.symm
          simp [z']
      have he : e = x := hp.2.2.2.1.symm
      subst he
      unfold cI
      rw [if_pos (by rw [show (6 * S + e) % 6 = e by omega, show (6 * S + e) / 6 = S by omega]; exact ⟨hl.2.2.1, hS⟩)]
      exact ⟨by omega, by simp [wsm]⟩
    · exfalso
      have : S' = 0 := by omega
      rw [this] at q
      exact hno _ _ _ q.2.1
  · intro S x b e hp hq hlt
    exfalso
    have : S = 0 := by omega
    rw [this] at hp
    exact hno _ _ _ hp
theorem fInv_end (h6 : n ≤ 6) (hI : fInv n w tot (6 * 2 ^ n) c l ps rg) : rg = tot ∧ ∀ S x b e, pth n w S x b e → eB n w e x = true → (wsm (wN w) x b + wN w e x) * sx (b.length + 1) ≤ ps S := by
  obtain ⟨⟨i1, i2⟩, i3, i4, i5, i6, i7⟩ := hI
  have h64 : 2 ^ n ≤ 2 ^ 6 := Nat.pow_le_pow_right (by decide) h6
  refine ⟨?_, fun S x b e hp hq => i7 S x b e hp hq ?_⟩
  · rw [sF_0 _ (by omega) (fun j h1 h2 => ?_)] at i1
    · exact i1
    · apply Classical.byContradiction
      intro q
      obtain ⟨x, b, hp, -⟩ := i3 j h2 q
      have := (pth_lt h6 hp).1
      omega
  · have h1 := pth_lt h6 hp
    have := h1.1
    have := h1.2.2.2.1
    omega
end FINV
end
section
/-! the class fills its sets -/
def HR (h : tr_H) (c : Nat → Nat) (l ps : Nat → Int) (rg : Nat) : Prop := (∀ j, j < 384 → h.1 28 j = iI (c j) ∧ h.1 29 j = iI (l j)) ∧ (∀ S, S < 64 → h.1 30 S = iI (ps S)) ∧ h.1 27 3 = iI rg
theorem w_lowestOf {S x : Nat} (hS : S < 64) (hx : x < 6) (h1 : S.testBit x = true) (h2 : ∀ t, t < x → S.testBit t = false) : f_X4_lowestOf (iI S) = some (iI x) := by
  unfold f_X4_lowestOf
  have key := tr_seq (f := fun q => f_X4_lowestOf_L2 (iI S) q) (fun m => iI m) (lo := 0) (hi := x) (r := iI x) (by omega) ?_ ?_
  · rw [show (0 : Int32) = iI (0 : Nat) from rfl, key]
    rfl
  · intro m _ hm
    show f_X4_lowestOf_L2 (iI S) (iI m) = some (.inl (iI (m + 1 : Nat)))
    unfold f_X4_lowestOf_L2
    rw [if_neg (by rw [iI_5, iI_le (by omega) (by omega) (by omega) (by omega)]; omega), if_pos ((bitz S hS m (by omega)).mpr (h2 m hm))]
    unfold tr_bd
    rw [iI_1, iI_add]
    rfl
  · show f_X4_lowestOf_L2 (iI S) (iI x) = _
    unfold f_X4_lowestOf_L2
    by_cases c : x = 5
    · rw [if_pos (by rw [iI_5, iI_le (by omega) (by omega) (by omega) (by omega)]; omega)]
    · rw [if_neg (by rw [iI_5, iI_le (by omega) (by omega) (by omega) (by omega)]; omega), if_neg (fun q => by have := (bitz S hS x (by omega)).mp q; rw [h1] at this; cases this)]
theorem HR_up {h : tr_H} {c : Nat → Nat} {l ps : Nat → Int} {rg : Nat} (hH : HR h c l ps rg) {k : Nat} (v : Nat) (z : Int) : HR (tr_si (tr_si h 28 k (iI (v : Int))) 29 k (iI z)) (nup c k v) (wup l k z) ps rg := by
  obtain ⟨a, b, d⟩ := hH
  refine ⟨fun j hj => ?_, fun S hS => ?_, ?_⟩
  · unfold nup wup
    by_cases e : j = k
    · rw [if_pos e, if_pos e, e]
      exact ⟨by rw [si_c _ _ _ (by decide), si_s], by rw [si_s]⟩
    · rw [if_neg e, if_neg e]
      exact ⟨by rw [si_c _ _ _ (by decide), si_n _ _ _ e]; exact (a j hj).1, by rw [si_n _ _ _ e, si_c _ _ _ (by decide)]; exact (a j hj).2⟩
  · rw [si_c _ _ _ (by decide), si_c _ _ _ (by decide)]; exact b S hS
  · rw [si_c _ _ _ (by decide), si_c _ _ _ (by decide)]; exact d
theorem w_goL {h : tr_H} {i n : Nat} {w : Nat → Int} {S e x : Nat} (hN : tN h i n w) (hS : S < 64) (he : e < n) (hx : x < n) {c : Nat → Nat} {l ps : Nat → Int} {rg : Nat} (hH : HR h c l ps rg) (v : Nat) {z : Int} (hz : 0 ≤ z ∧ z ≤ 60) (hl : ∀ j, 0 ≤ l j ∧ l j ≤ 60) :
    ∃ h', tr_lp (fun q => f_X4_goOn_L100 i (iI e) (iI S) (iI v) (iI z) q.1 q.2) (iI (x + 1 : Nat), h) = some h' ∧ fr [27, 28, 29, 30] h h' ∧ HR h' (gC n w S e x n c v) (gL n w S e x n l z) ps rg := by
  have hw := hN.2.1
  have h6 := hw.2.1
  have hi := hN.1
  have hni : i ∉ [27, 28, 29, 30] ∧ i + 1 ∉ [27, 28, 29, 30] := by unfold netI at hi; simp; omega
  obtain ⟨r, k1, k2, k3⟩ := tr_inv (f := fun q => f_X4_goOn_L100 i (iI e) (iI S) (iI v) (iI z) q.1 q.2) (fun m s => ∃ h1, s = (iI m, h1) ∧ x < m ∧ fr [27, 28, 29, 30] h h1 ∧ HR h1 (gC n w S e x m c v) (gL n w S e x m l z) ps rg) (fun h' => fr [27, 28, 29, 30] h h' ∧ HR h' (gC n w S e x n c v) (gL n w S e x n l z) ps rg) (hi := n) (by
    rintro m s hm ⟨h1, rfl, hxm, f1, H1⟩
    have hN1 := tN_fr f1 hni.1 hni.2 hN
    have ho := n_of hN1 (a := (e : Int)) (b := (m : Int)) (by omega) (by omega) (by omega) (by omega)
    rw [woI_in he hm] at ho
    have b3 := okn_b hw (c := 6 * e + m) (by omega)
    have hex : eB n w e m = true ↔ w (6 * e + m) ≠ -9 := by
      unfold eB
      rw [decide_eq_true_iff]
      exact ⟨fun q => q.2.2, fun q => ⟨he, hm, q⟩⟩
    have hlb : 0 ≤ gL n w S e x m l z (cel S m) ∧ gL n w S e x m l z (cel S m) ≤ 100 := by
      unfold gL
      rw [if_neg (hit_no (by omega))]
      have := hl (cel S m)
      omega
    show ∃ s', f_X4_goOn_L100 i (iI e) (iI S) (iI v) (iI z) (iI m) h1 = some (.inl s') ∧ _
    unfold f_X4_goOn_L100
    rw [hN1.2.2.1, if_neg (by rw [iI_le (by omega) (by omega) (by omega) (by omega)]; omega), ho, tr_bn_some]
    by_cases c1 : w (6 * e + m) = -9
    · have hno : ¬ okt n w S e x m := fun q => hex.mp q.2.1 c1
      refine ⟨(iI (m + 1 : Nat), h1), ?_, h1, rfl, by omega, f1, by rw [gC_n (by omega) c v hno, gL_n (by omega) l z hno]; exact H1⟩
      rw [c1, if_pos (show iI (-9) = -9 from rfl)]
      unfold tr_bd
      rw [iI_1, iI_add]
      rfl
    · rw [if_neg (by rw [iI_m9, iI_eq (by omega) (by omega) (by omega) (by omega)]; exact c1)]
      by_cases c2 : S.testBit m = false
      · have hok : okt n w S e x m := ⟨hxm, hex.mpr c1, c2⟩
        have hcel : cel S m < 384 := by have := or_64 hS (show m < 6 by omega); unfold cel; omega
        have q1 := (H1.1 _ hcel).1
        have q2 := (H1.1 _ hcel).2
        have hsm := H1
        have ecel : iI ((S ||| 2 ^ m : Nat)) * 6 + iI m = iI (cel S m : Nat) := by
          rw [iI_6, iI_mul, iI_add]
          congr 1
          unfold cel
          omega
        refine ⟨(iI (m + 1 : Nat), tr_si (tr_si h1 28 (cel S m) (iI ((gC n w S e x m c v (cel S m) + v : Nat) : Int))) 29 (cel S m) (iI (max (gL n w S e x m l z (cel S m)) (z + w (6 * e + m))))), ?_, _, rfl, by omega, ?_, ?_⟩
        · rw [if_pos ((bitz S hS m (by omega)).mpr c2), orb (by omega), ecel]
          simp (disch := omega) only [tr_bd, tr_gdI, iI_ix, si_c, q1, q2, iI_add, tr_maxI, iI_1]
          rfl
        · exact fr_tr f1 (fr_tr (fr_si _ _ _ (by simp)) (fr_si _ _ _ (by simp)))
        · rw [gC_y (by omega) c v hok, gL_y (by omega) l z hok]
          exact HR_up H1 _ _
      · have hno : ¬ okt n w S e x m := fun q => c2 q.2.2
        refine ⟨(iI (m + 1 : Nat), h1), ?_, h1, rfl, by omega, f1, by rw [gC_n (by omega) c v hno, gL_n (by omega) l z hno]; exact H1⟩
        rw [if_neg (fun q => c2 ((bitz S hS m (by omega)).mp q))]
        unfold tr_bd
        rw [iI_1, iI_add]
        rfl) (by
    rintro s ⟨h1, rfl, hxm, f1, H1⟩
    refine ⟨h1, ?_, f1, H1⟩
    have hN1 := tN_fr f1 hni.1 hni.2 hN
    show f_X4_goOn_L100 i (iI e) (iI S) (iI v) (iI z) (iI n) h1 = _
    unfold f_X4_goOn_L100
    rw [hN1.2.2.1, if_pos (Int32.le_refl _)]) (x + 1) (iI (x + 1 : Nat), h) (by omega) ⟨h, rfl, by omega, fr_rf _ _, by rw [gC_0 c v (by omega), gL_0 l z (by omega)]; exact hH⟩
  exact ⟨r, k1, k2, k3⟩
theorem w_goOn {h : tr_H} {i n : Nat} {w : Nat → Int} {S e : Nat} (hN : tN h i n w) (hS : S < 64) (he : e < n) {tot : Nat} {c : Nat → Nat} {l ps : Nat → Int} {rg : Nat} (hI : fInv n w tot (6 * S + e) c l ps rg) (hpb : ∀ S, ps S ≤ 100000) (hH : HR h c l ps rg) :
    ∃ h' c' l' ps' rg', f_X4_goOn i (iI S) (iI e) h = some h' ∧ fr [27, 28, 29, 30] h h' ∧ HR h' c' l' ps' rg' ∧ fInv n w tot (6 * S + e + 1) c' l' ps' rg' := by
  have hw := hN.2.1
  have h6 := hw.2.1
  have hi := hN.1
  have hni : i ∉ [27, 28, 29, 30] ∧ i + 1 ∉ [27, 28, 29, 30] := by unfold netI at hi; simp; omega
  have hcb := fInv_cb hS (by omega) hI
  have q1 := (hH.1 (6 * S + e) (by omega)).1
  have q2 := (hH.1 (6 * S + e) (by omega)).2
  have ek : iI S * 6 + iI e = iI (6 * S + e : Nat) := by
    rw [iI_6, iI_mul, iI_add]
    congr 1
    omega
  unfold f_X4_goOn
  rw [ek]
  simp (disch := omega) only [tr_bd, tr_gdI, iI_ix, q1, q2]
  by_cases c0 : c (6 * S + e) = 0
  · refine ⟨h, c, l, ps, rg, ?_, fr_rf _ _, hH, fInv_skip h6 hS (by omega) hI c0⟩
    rw [c0]
    rfl
  · obtain ⟨x, b, hp, hlx⟩ := fInv_path h6 hS (by omega) hI c0
    have hlow := pth_low h6 hp
    have hpl := pth_lt h6 hp
    have hgo := fInv_go hw hS he hI c0 hlow.1
    have hlb := fun j => (hI.2.2.1 j).1
    have ho := n_of hN (a := (e : Int)) (b := (x : Int)) (by omega) (by omega) (by omega) (by omega)
    rw [woI_in he hpl.2.2.1] at ho
    have b3 := okn_b hw (c := 6 * e + x) (by omega)
    have hex : eB n w e x = true ↔ w (6 * e + x) ≠ -9 := by
      unfold eB
      rw [decide_eq_true_iff]
      exact ⟨fun q => q.2.2, fun q => ⟨he, hpl.2.2.1, q⟩⟩
    rw [if_neg (by rw [iI_0, iI_eq (by omega) (by omega) (by omega) (by omega)]; omega), w_lowestOf hS (by omega) hpl.2.2.2.2.2.1 hlow.2, tr_bn_some, ho, tr_bn_some]
    by_cases c1 : w (6 * e + x) = -9
    · have hne : ¬ eB n w e x = true := fun q => hex.mp q c1
      rw [if_neg hne, if_neg hne] at hgo
      obtain ⟨h', k1, k2, k3⟩ := w_goL hN hS he hpl.2.2.1 hH (c (6 * S + e)) (hlb _) hlb
      refine ⟨h', _, _, _, _, ?_, k2, k3, hgo⟩
      rw [c1, if_pos (show iI (-9) = -9 from rfl)]
      unfold f_X4_goOn_J94 tr_bd
      dsimp only
      rw [iI_1, iI_add, show ((x : Int) + 1) = ((x + 1 : Nat) : Int) from rfl, k1]
      rfl
    · have hye := hex.mpr c1
      rw [if_pos hye, if_pos hye] at hgo
      have hpc := pcn_1 S hS hpl.2.2.2.2.2.2
      have hpc6 := pcn_6 S
      have hsx := sx_mul hpc hpc6
      have hl0 := hlb (6 * S + e)
      have hmul : 0 ≤ (l (6 * S + e) + w (6 * e + x)) * sx (pcn S 6) ∧ (l (6 * S + e) + w (6 * e + x)) * sx (pcn S 6) ≤ 69 * 60 := by
        have hw0 : 0 ≤ w (6 * e + x) := by have := (hw.2.2 (6 * e + x) (by omega)).1; omega
        exact ⟨Int.mul_nonneg (by omega) (by omega), Int.mul_le_mul (by omega) (by omega) (by omega) (by omega)⟩
      obtain ⟨h1, eh1⟩ : ∃ h1, h1 = tr_si (tr_si h 27 3 (iI (rg + c (6 * S + e) : Nat))) 30 S (iI (max (ps S) ((l (6 * S + e) + w (6 * e + x)) * sx (pcn S 6)))) := ⟨_, rfl⟩
      have f1 : fr [27, 28, 29, 30] h h1 := by rw [eh1]; exact fr_tr (fr_si _ _ _ (by simp)) (fr_si _ _ _ (by simp))
      have H1 : HR h1 c l (wup ps S (max (ps S) ((l (6 * S + e) + w (6 * e + x)) * sx (pcn S 6)))) (rg + c (6 * S + e)) := by
        obtain ⟨a, b, d⟩ := hH
        rw [eh1]
        refine ⟨fun j hj => ?_, fun T hT => ?_, ?_⟩
        · rw [si_c _ _ _ (by decide), si_c _ _ _ (by decide), si_c _ _ _ (by decide), si_c _ _ _ (by decide)]
          exact a j hj
        · unfold wup
          by_cases z : T = S
          · rw [if_pos z, z, si_s]
          · rw [if_neg z, si_n _ _ _ z, si_c _ _ _ (by decide)]
            exact b T hT
        · rw [si_c _ _ _ (by decide), si_s]
      obtain ⟨h', k1, k2, k3⟩ := w_goL (tN_fr f1 hni.1 hni.2 hN) hS he hpl.2.2.1 H1 (c (6 * S + e)) (hlb _) hlb
      refine ⟨h', _, _, _, _, ?_, fr_tr f1 k2, k3, hgo⟩
      have q3 := hH.2.1 S hS
      have q4 := hH.2.2
      have hps0 := (hI.2.2.2.2.1 S).1
      have hps1 := hpb S
      have hf0 := sx_f0 hpc hpc6
      have e1 : tr_si (tr_si h 27 3 (h.1 27 3 + iI (c (6 * S + e)))) 30 S (tr_max ((tr_si h 27 3 (h.1 27 3 + iI (c (6 * S + e)))).1 30 S) ((iI (l (6 * S + e)) + iI (w (6 * e + x))) * tr_f0 (pcn S 6))) = h1 := by
        rw [eh1, si_c _ _ _ (by decide), q3, q4, hf0, iI_add, iI_add, iI_mul, tr_maxI (by omega) (by omega) (by omega) (by omega)]
        rfl
      rw [if_neg (by rw [iI_m9, iI_eq (by omega) (by omega) (by omega) (by omega)]; exact c1), bcn S hS, tr_bn_some, tr_gdI (by omega) (by omega) (by omega), iI_ix (by omega), e1]
      unfold f_X4_goOn_J94 tr_bd
      dsimp only
      rw [iI_1, iI_add, show ((x : Int) + 1) = ((x + 1 : Nat) : Int) from rfl, k1]
      rfl
theorem pth_mean {n : Nat} {w : Nat → Int} (hw : okn n w) {T x e : Nat} {b : List Nat} (hp : pth n w T x b e) (he : eB n w e x = true) : ring (eP (eB n w)) x b ∧ wsm (wN w) x (b ++ [x]) = wsm (wN w) x b + wN w e x ∧ 0 ≤ (wsm (wN w) x b + wN w e x) * sx (b.length + 1) ∧ (wsm (wN w) x b + wN w e x) * sx (b.length + 1) ≤ 540 := by
  have h6 := hw.2.1
  have hr : ring (eP (eB n w)) x b := by
    refine ⟨hp.1, ?_⟩
    rw [chn_app, hp.2.2.2.1]
    exact ⟨hp.2.1, he, trivial⟩
  have hs : wsm (wN w) x (b ++ [x]) = wsm (wN w) x b + wN w e x := by
    rw [wsm_app, hp.2.2.2.1]
    simp [wsm]
  have h9 := wsm_9 hw _ _ hr.2
  have hl := ring_len hr
  rw [hs] at h9
  simp only [List.length_append, List.length_cons, List.length_nil] at h9
  have hsx := sx_mul (m := b.length + 1) (by omega) (by omega)
  refine ⟨hr, hs, Int.mul_nonneg h9.1 (by omega), ?_⟩
  rw [sx_le (by omega) (by omega)]
  omega
theorem fInv_pb {n : Nat} {w : Nat → Int} (hw : okn n w) {tot k : Nat} {c : Nat → Nat} {l ps : Nat → Int} {rg : Nat} (hI : fInv n w tot k c l ps rg) : ∀ S, ps S ≤ 100000 := by
  intro S
  rcases (hI.2.2.2.2.1 S).2 with q | ⟨x, b, e, q1, q2, q3⟩
  · omega
  · have := (pth_mean hw q1 q2).2.2.2
    omega
theorem fInv_row {n : Nat} {w : Nat → Int} (h6 : n ≤ 6) {tot S : Nat} (hS : S < 64) {c : Nat → Nat} {l ps : Nat → Int} {rg : Nat} (hI : fInv n w tot (6 * S + n) c l ps rg) : fInv n w tot (6 * (S + 1)) c l ps rg := by
  have : ∀ d, n + d ≤ 6 → fInv n w tot (6 * S + (n + d)) c l ps rg := by
    intro d
    induction d with
    | zero => intro _; exact hI
    | succ d ih =>
      intro hd
      exact fInv_out (e := n + d) h6 hS (by omega) (by omega) (ih (by omega))
  have h1 := this (6 - n) (by omega)
  rw [show n + (6 - n) = 6 by omega] at h1
  exact h1
/-! within a set -/
def sub (T S : Nat) : Prop := ∀ t, T.testBit t = true → S.testBit t = true
def atR (n : Nat) (w : Nat → Int) (S : Nat) (v : Int) : Prop := 0 ≤ v ∧ (v = 0 ∨ ∃ T x b e, pth n w T x b e ∧ eB n w e x = true ∧ sub T S ∧ v = (wsm (wN w) x b + wN w e x) * sx (b.length + 1))
def upR (n : Nat) (w : Nat → Int) (S : Nat) (v : Int) : Prop := ∀ T x b e, pth n w T x b e → eB n w e x = true → sub T S → (wsm (wN w) x b + wN w e x) * sx (b.length + 1) ≤ v
def exR (n : Nat) (w : Nat → Int) (S : Nat) (v : Int) : Prop := ∀ x b e, pth n w S x b e → eB n w e x = true → (wsm (wN w) x b + wN w e x) * sx (b.length + 1) ≤ v
theorem atR_b {n : Nat} {w : Nat → Int} (hw : okn n w) {S : Nat} {v : Int} (h : atR n w S v) : 0 ≤ v ∧ v ≤ 540 := by
  refine ⟨h.1, ?_⟩
  rcases h.2 with q | ⟨T, x, b, e, q1, q2, -, q3⟩
  · omega
  · have := (pth_mean hw q1 q2).2.2.2
    omega
theorem atR_pace {n : Nat} {w : Nat → Int} (hw : okn n w) {S : Nat} {v : Int} (h1 : atR n w S v) (h2 : upR n w S v) : ∃ P, isPace n w (fun k => S.testBit k) P ∧ v = max 0 P := by
  have h6 := hw.2.1
  have hring : ∀ T x b e, pth n w T x b e → sub T S → ∀ y ∈ x :: b, S.testBit y = true := fun T x b e hp hs y hy => hs y ((hp.2.2.2.2 y).mpr hy)
  by_cases hx : ∃ x b, ring (eP (eB n w)) x b ∧ ∀ y ∈ x :: b, S.testBit y = true
  · obtain ⟨P, p1, p2, p3, x, b, p4, p5⟩ := ex_pace hw (fun k => S.testBit k) hx
    have hr := mem_ringsL.mp p4
    refine ⟨P, Or.inr ⟨p1, p2, p3, x, b, hr.1, fun y hy => (hr.2 y hy).2.2, p5⟩, ?_⟩
    obtain ⟨c1, c2, -⟩ := (chn_app x b [x]).mp hr.1.2
    have hp : pth n w (msk (x :: b)) x b (la x b) := ⟨hr.1.1, c1, fun y hy => ⟨(hr.2 y hy).1, (hr.2 y hy).2.1⟩, rfl, fun t => msk_t _ _⟩
    have hs : sub (msk (x :: b)) S := fun t ht => (hr.2 t ((msk_t _ _).mp ht)).2.2
    have k1 := h2 _ x b _ hp c2 hs
    have hm := pth_mean hw hp c2
    have hl := ring_len hr.1
    rw [hm.2.1] at p5
    have k2 : P ≤ (wsm (wN w) x b + wN w (la x b) x) * sx (b.length + 1) := by
      rw [sx_ge (by omega) (by omega)]
      omega
    rcases h1.2 with q | ⟨T, x1, b1, e1, q1, q2, q3, q4⟩
    · omega
    · have hm1 := pth_mean hw q1 q2
      have hl1 := ring_len hm1.1
      have k3 := p3 x1 b1 hm1.1 (hring T x1 b1 e1 q1 q3)
      rw [hm1.2.1] at k3
      have k4 : (wsm (wN w) x1 b1 + wN w e1 x1) * sx (b1.length + 1) ≤ P := by
        rw [sx_le (by omega) (by omega)]
        omega
      omega
  · refine ⟨-1, Or.inl ⟨rfl, fun x b hr hs => hx ⟨x, b, hr, hs⟩⟩, ?_⟩
    rcases h1.2 with q | ⟨T, x1, b1, e1, q1, q2, q3, q4⟩
    · omega
    · exact absurd ⟨x1, b1, (pth_mean hw q1 q2).1, hring T x1 b1 e1 q1 q3⟩ hx
theorem sub_64 {n : Nat} (h6 : n ≤ 6) {S : Nat} (h : S < 2 ^ n) : S < 64 := Nat.lt_of_lt_of_le h (Nat.pow_le_pow_right (n := 2) (by decide) h6)
theorem w_takeWithin {h : tr_H} {n : Nat} {w : Nat → Int} (hw : okn n w) {q : Nat → Int} (hq : ∀ S, S < 64 → h.1 30 S = iI (q S)) (ha : ∀ S, atR n w S (q S)) (hx : ∀ S, exR n w S (q S)) : ∃ h', f_X4_takeWithin (iI n) h = some h' ∧ fr [30] h h' ∧ ∀ S, S < 2 ^ n → ∃ P, isPace n w (fun k => S.testBit k) P ∧ h'.1 30 S = iI (max 0 P) := by
  have h6 := hw.2.1
  have h64 : 2 ^ n ≤ 2 ^ 6 := Nat.pow_le_pow_right (by decide) h6
  have hp1 : 1 ≤ 2 ^ n := Nat.one_le_two_pow
  obtain ⟨r, k1, q1, k2, k3, k4, k5⟩ := tr_inv (f := fun z => f_X4_takeWithin_L2 (iI n) z.1 z.2) (fun S s => ∃ (h1 : tr_H) (q : Nat → Int), s = (iI S, h1) ∧ fr [30] h h1 ∧ (∀ S, S < 64 → h1.1 30 S = iI (q S)) ∧ (∀ S, atR n w S (q S)) ∧ (∀ T, T < S → upR n w T (q T)) ∧ (∀ T, S ≤ T → exR n w T (q T))) (fun h1 => ∃ (q : Nat → Int), fr [30] h h1 ∧ (∀ S, S < 64 → h1.1 30 S = iI (q S)) ∧ (∀ S, atR n w S (q S)) ∧ (∀ T, T < 2 ^ n → upR n w T (q T))) (hi := 2 ^ n) (by
    rintro S s hS ⟨h1, q, rfl, f1, t1, t2, t3, t4⟩
    have hS64 := sub_64 h6 hS
    obtain ⟨r2, k1, q2, f2, u1, u2, u3, u4, u5⟩ := tr_inv (f := fun z => f_X4_takeWithin_L11 (iI n) (iI S) z.1 z.2) (fun m s => ∃ (h1 : tr_H) (q : Nat → Int), s = (iI m, h1) ∧ fr [30] h h1 ∧ (∀ S, S < 64 → h1.1 30 S = iI (q S)) ∧ (∀ S, atR n w S (q S)) ∧ (∀ T, T < S → upR n w T (q T)) ∧ (∀ T, S ≤ T → exR n w T (q T)) ∧ (∀ u, u < m → S.testBit u = true → q (S ^^^ 2 ^ u) ≤ q S)) (fun h1 => ∃ (q : Nat → Int), fr [30] h h1 ∧ (∀ S, S < 64 → h1.1 30 S = iI (q S)) ∧ (∀ S, atR n w S (q S)) ∧ (∀ T, T < S → upR n w T (q T)) ∧ (∀ T, S ≤ T → exR n w T (q T)) ∧ (∀ u, u < n → S.testBit u = true → q (S ^^^ 2 ^ u) ≤ q S)) (hi := n) (by
      rintro m s hm ⟨h1, q, rfl, f1, t1, t2, t3, t4, t5⟩
      obtain ⟨S1, eS1⟩ : ∃ S1, S1 = if S.testBit m then S ^^^ 2 ^ m else S := ⟨_, rfl⟩
      have hS1 : S1 < 64 := by
        rw [eS1]
        split
        · rename_i c
          have := clr_lt S hS64 m (by omega) c
          omega
        · exact hS64
      have hsub : sub S1 S := by
        rw [eS1]
        intro t ht
        by_cases c : S.testBit m = true
        · rw [if_pos c] at ht
          exact ((xor_t c).mp ht).1
        · rw [if_neg c] at ht
          exact ht
      have a1 := atR_b hw (t2 S)
      have a2 := atR_b hw (t2 S1)
      refine ⟨(iI (m + 1 : Nat), tr_si h1 30 S (iI (max (q S) (q S1)))), ?_, _, wup q S (max (q S) (q S1)), rfl, fr_tr f1 (fr_si _ _ _ (by simp)), ?_, ?_, ?_, ?_, ?_⟩
      · show f_X4_takeWithin_L11 (iI n) (iI S) (iI m) h1 = _
        unfold f_X4_takeWithin_L11
        rw [if_neg (by rw [iI_le (by omega) (by omega) (by omega) (by omega)]; omega), clrb S hS64 m (by omega), ← eS1]
        have z1 := t1 S hS64
        have z2 := t1 S1 hS1
        simp (disch := omega) only [tr_bd, tr_gdI, iI_ix, z1, z2, iI_add, tr_maxI, iI_1]
        rfl
      · intro T hT
        unfold wup
        by_cases z : T = S
        · rw [if_pos z, z, si_s]
        · rw [if_neg z, si_n _ _ _ z]
          exact t1 T hT
      · intro T
        unfold wup
        by_cases z : T = S
        · rw [if_pos z, z]
          by_cases y : q S1 ≤ q S
          · rw [show max (q S) (q S1) = q S by omega]
            exact t2 S
          · rw [show max (q S) (q S1) = q S1 by omega]
            obtain ⟨g1, g2⟩ := t2 S1
            refine ⟨g1, ?_⟩
            rcases g2 with g2 | ⟨T', x, b, e, g2, g3, g4, g5⟩
            · exact Or.inl g2
            · exact Or.inr ⟨T', x, b, e, g2, g3, fun t ht => hsub t (g4 t ht), g5⟩
        · rw [if_neg z]
          exact t2 T
      · intro T hT
        unfold wup
        rw [if_neg (by omega)]
        exact t3 T hT
      · intro T hT x b e g1 g2
        have := t4 T hT x b e g1 g2
        unfold wup
        by_cases z : T = S
        · rw [if_pos z]; rw [z] at this; omega
        · rw [if_neg z]; exact this
      · intro u hu hb
        have hlt := clr_lt S hS64 u (by omega) hb
        unfold wup
        rw [if_neg (by omega), if_pos rfl]
        by_cases z : u = m
        · subst z
          rw [if_pos hb] at eS1
          rw [← eS1]
          omega
        · have := t5 u (by omega) hb
          omega) (by
      rintro s ⟨h1, q, rfl, f1, t1, t2, t3, t4, t5⟩
      refine ⟨h1, ?_, q, f1, t1, t2, t3, t4, t5⟩
      show f_X4_takeWithin_L11 (iI n) (iI S) (iI n) h1 = _
      unfold f_X4_takeWithin_L11
      rw [if_pos (Int32.le_refl _)]) 0 (iI (0 : Nat), h1) (by omega) ⟨h1, q, rfl, f1, t1, t2, t3, t4, fun u hu => by omega⟩
    refine ⟨(iI (S + 1 : Nat), r2), ?_, r2, q2, rfl, f2, u1, u2, ?_, fun T hT => u4 T (by omega)⟩
    · show f_X4_takeWithin_L2 (iI n) (iI S) h1 = _
      unfold f_X4_takeWithin_L2
      rw [shl7 n (by omega), if_neg (by rw [iI_le (by omega) (by omega) (by omega) (by omega)]; omega), show ((0 : Int32), h1) = (iI (0 : Nat), h1) from rfl, k1, tr_bn_some]
      unfold f_X4_takeWithin_E49 tr_bd
      rw [iI_1, iI_add]
      rfl
    · intro T hT
      by_cases z : T = S
      · subst z
        intro U x b e g1 g2 g3
        by_cases y : U = T
        · subst y
          exact u4 U (Nat.le_refl _) x b e g1 g2
        · -- a departure that U has not
          have hex : ∃ u, T.testBit u = true ∧ U.testBit u = false := by
            apply Classical.byContradiction
            intro hno
            apply y
            apply Nat.eq_of_testBit_eq
            intro i
            cases c1 : U.testBit i
            · cases c2 : T.testBit i
              · rfl
              · exact absurd ⟨i, c2, c1⟩ hno
            · rw [g3 i c1]
          obtain ⟨u, v1, v2⟩ := hex
          have hun : u < n := by
            apply Classical.byContradiction
            intro hno
            have : T.testBit u = false := Nat.testBit_lt_two_pow (Nat.lt_of_lt_of_le hS (Nat.pow_le_pow_right (by decide) (by omega)))
            rw [v1] at this
            cases this
          have hlt := clr_lt T hS64 u (by omega) v1
          have k8 := u3 _ hlt U x b e g1 g2 (fun t ht => (xor_t v1).mpr ⟨g3 t ht, fun q => by rw [q, v2] at ht; cases ht⟩)
          have k9 := u5 u hun v1
          omega
      · exact u3 T (by omega)) (by
    rintro s ⟨h1, q, rfl, f1, t1, t2, t3, t4⟩
    refine ⟨h1, ?_, q, f1, t1, t2, t3⟩
    show f_X4_takeWithin_L2 (iI n) (iI (2 ^ n : Nat)) h1 = _
    unfold f_X4_takeWithin_L2
    rw [shl7 n (by omega), if_pos (Int32.le_refl _)]) 1 (iI (1 : Nat), h) hp1 ⟨h, q, rfl, fr_rf _ _, hq, ha, fun T hT => by
      obtain rfl : T = 0 := by omega
      intro U x b e g1 _ g3
      exfalso
      have := g3 x (pth_lt h6 g1).2.2.2.2.2.1
      simp at this, fun T _ => hx T⟩
  refine ⟨r, ?_, k2, fun S hS => ?_⟩
  · unfold f_X4_takeWithin
    rw [show ((1 : Int32), h) = (iI (1 : Nat), h) from rfl, k1]
    rfl
  · obtain ⟨P, g1, g2⟩ := atR_pace hw (k4 S) (k5 S hS)
    exact ⟨P, g1, by rw [k3 S (sub_64 h6 hS), g2]⟩
theorem cI_w {m : Nat} (hm : m < 6) : cI (m + 1) = nup (cI m) (cel 0 m) 1 := by
  rw [cI_s hm]
  have hc := cel_6 (S := 0) hm
  have : cI m (cel 0 m) = 0 := by
    unfold cI
    rw [if_neg (fun q => by rw [hc.1] at q; omega)]
  rw [this]
/-- all rings, counted, and the pace of each set -/
theorem w_fill {h : tr_H} {i n : Nat} {w : Nat → Int} (hN : tN h i n w) : ∃ h', f_X4_fill i h = some h' ∧ fr [27, 28, 29, 30] h h' ∧ h'.1 27 3 = iI (ringsL (eB n w) n (fun k => (63 : Nat).testBit k)).length ∧ ∀ S, S < 2 ^ n → ∃ P, isPace n w (fun k => S.testBit k) P ∧ h'.1 30 S = iI (max 0 P) := by
  have hw := hN.2.1
  have h6 := hw.2.1
  have hi := hN.1
  have hni : i ∉ [27, 28, 29, 30] ∧ i + 1 ∉ [27, 28, 29, 30] := by unfold netI at hi; simp; omega
  have h64 : 2 ^ n ≤ 2 ^ 6 := Nat.pow_le_pow_right (by decide) h6
  have hp1 : 1 ≤ 2 ^ n := Nat.one_le_two_pow
  obtain ⟨ha, eha⟩ : ∃ ha, ha = tr_si (tr_sa (tr_sa (tr_sa h 28 (fun j => if j < 384 then 0 else h.1 28 j)) 29 (fun j => if j < 384 then 0 else h.1 29 j)) 30 (fun j => if j < 64 then 0 else h.1 30 j)) 27 3 0 := ⟨_, rfl⟩
  have fa : fr [27, 28, 29, 30] h ha := by
    rw [eha]
    exact fr_tr (fr_tr (fr_tr (fr_sa _ _ (by simp)) (fr_sa _ _ (by simp))) (fr_sa _ _ (by simp))) (fr_si _ _ _ (by simp))
  have Ha : HR ha (cI 0) (fun _ => 0) (fun _ => 0) 0 := by
    rw [eha]
    refine ⟨fun j hj => ⟨?_, ?_⟩, fun S hS => ?_, ?_⟩
    · rw [si_c _ _ _ (by decide), tr_sa_ne _ _ (by decide), tr_sa_ne _ _ (by decide), tr_sa_at, if_pos hj]
      unfold cI
      rw [if_neg (fun q => by omega)]
      rfl
    · rw [si_c _ _ _ (by decide), tr_sa_ne _ _ (by decide), tr_sa_at, if_pos hj]
      rfl
    · rw [si_c _ _ _ (by decide), tr_sa_at, if_pos hS]
      rfl
    · rw [si_s]
      rfl
  obtain ⟨hb, kb, fb, Hb⟩ := tr_inv (f := fun z => f_X4_fill_L31 i z.1 z.2) (fun m s => ∃ h1, s = (iI m, h1) ∧ fr [27, 28, 29, 30] h h1 ∧ HR h1 (cI m) (fun _ => 0) (fun _ => 0) 0) (fun h1 => fr [27, 28, 29, 30] h h1 ∧ HR h1 (cI n) (fun _ => 0) (fun _ => 0) 0) (hi := n) (by
    rintro m s hm ⟨h1, rfl, f1, H1⟩
    have hc6 := or_64 (show 0 < 64 by decide) (show m < 6 by omega)
    have hcel : cel 0 m < 384 := by unfold cel; omega
    have ecel : iI ((2 ^ m : Nat)) * 6 + iI m = iI (cel 0 m : Nat) := by
      rw [iI_6, iI_mul, iI_add]
      congr 1
      unfold cel
      rw [Nat.zero_or]
      omega
    refine ⟨(iI (m + 1 : Nat), tr_si h1 28 (cel 0 m) 1), ?_, _, rfl, fr_tr f1 (fr_si _ _ _ (by simp)), ?_⟩
    · show f_X4_fill_L31 i (iI m) h1 = _
      unfold f_X4_fill_L31
      rw [(tN_fr f1 hni.1 hni.2 hN).2.2.1, if_neg (by rw [iI_le (by omega) (by omega) (by omega) (by omega)]; omega), shl7 m (by omega), ecel]
      simp (disch := omega) only [tr_bd, tr_gdI, iI_ix]
      rw [iI_1, iI_add]
      rfl
    · obtain ⟨a, b, d⟩ := H1
      rw [cI_w (by omega)]
      refine ⟨fun j hj => ?_, fun S hS => ?_, ?_⟩
      · unfold nup
        by_cases z : j = cel 0 m
        · rw [if_pos z, z, si_s, si_c _ _ _ (by decide)]
          exact ⟨rfl, (a _ hcel).2⟩
        · rw [if_neg z, si_n _ _ _ z, si_c _ _ _ (by decide)]
          exact a j hj
      · rw [si_c _ _ _ (by decide)]; exact b S hS
      · rw [si_c _ _ _ (by decide)]; exact d) (by
    rintro s ⟨h1, rfl, f1, H1⟩
    refine ⟨h1, ?_, f1, H1⟩
    show f_X4_fill_L31 i (iI n) h1 = _
    unfold f_X4_fill_L31
    rw [(tN_fr f1 hni.1 hni.2 hN).2.2.1, if_pos (Int32.le_refl _)]) 0 (iI (0 : Nat), ha) (by omega) ⟨ha, rfl, fa, Ha⟩
  obtain ⟨hc, kc, c, l, ps, rg, fc, Hc, Ic⟩ := tr_inv (f := fun z => f_X4_fill_L61 i z.1 z.2) (fun S s => ∃ h1 c l ps rg, s = (iI S, h1) ∧ fr [27, 28, 29, 30] h h1 ∧ HR h1 c l ps rg ∧ fInv n w (ringsL (eB n w) n (fun k => (63 : Nat).testBit k)).length (6 * S) c l ps rg) (fun h1 => ∃ c l ps rg, fr [27, 28, 29, 30] h h1 ∧ HR h1 c l ps rg ∧ fInv n w (ringsL (eB n w) n (fun k => (63 : Nat).testBit k)).length (6 * 2 ^ n) c l ps rg) (hi := 2 ^ n) (by
    rintro S s hS ⟨h1, c, l, ps, rg, rfl, f1, H1, I1⟩
    have hS64 := sub_64 h6 hS
    obtain ⟨h2, k2, c2, l2, ps2, rg2, f2, H2, I2⟩ := tr_inv (f := fun z => f_X4_fill_L73 i (iI S) z.1 z.2) (fun e s => ∃ h1 c l ps rg, s = (iI e, h1) ∧ fr [27, 28, 29, 30] h h1 ∧ HR h1 c l ps rg ∧ fInv n w (ringsL (eB n w) n (fun k => (63 : Nat).testBit k)).length (6 * S + e) c l ps rg) (fun h1 => ∃ c l ps rg, fr [27, 28, 29, 30] h h1 ∧ HR h1 c l ps rg ∧ fInv n w (ringsL (eB n w) n (fun k => (63 : Nat).testBit k)).length (6 * S + n) c l ps rg) (hi := n) (by
      rintro e s he ⟨h1, c, l, ps, rg, rfl, f1, H1, I1⟩
      have hN1 := tN_fr f1 hni.1 hni.2 hN
      obtain ⟨h2, c2, l2, ps2, rg2, k2, f2, H2, I2⟩ := w_goOn hN1 hS64 he I1 (fInv_pb hw I1) H1
      refine ⟨(iI (e + 1 : Nat), h2), ?_, h2, c2, l2, ps2, rg2, rfl, fr_tr f1 f2, H2, I2⟩
      show f_X4_fill_L73 i (iI S) (iI e) h1 = _
      unfold f_X4_fill_L73
      rw [hN1.2.2.1, if_neg (by rw [iI_le (by omega) (by omega) (by omega) (by omega)]; omega), k2, tr_bn_some]
      unfold tr_bd
      rw [iI_1, iI_add]
      rfl) (by
      rintro s ⟨h1, c, l, ps, rg, rfl, f1, H1, I1⟩
      refine ⟨h1, ?_, c, l, ps, rg, f1, H1, I1⟩
      show f_X4_fill_L73 i (iI S) (iI n) h1 = _
      unfold f_X4_fill_L73
      rw [(tN_fr f1 hni.1 hni.2 hN).2.2.1, if_pos (Int32.le_refl _)]) 0 (iI (0 : Nat), h1) (by omega) ⟨h1, c, l, ps, rg, rfl, f1, H1, I1⟩
    refine ⟨(iI (S + 1 : Nat), h2), ?_, h2, c2, l2, ps2, rg2, rfl, f2, H2, fInv_row h6 hS64 I2⟩
    show f_X4_fill_L61 i (iI S) h1 = _
    unfold f_X4_fill_L61
    rw [(tN_fr f1 hni.1 hni.2 hN).2.2.1, shl7 n (by omega), if_neg (by rw [iI_le (by omega) (by omega) (by omega) (by omega)]; omega), show ((0 : Int32), h1) = (iI (0 : Nat), h1) from rfl, k2, tr_bn_some]
    unfold f_X4_fill_E94 tr_bd
    rw [iI_1, iI_add]
    rfl) (by
    rintro s ⟨h1, c, l, ps, rg, rfl, f1, H1, I1⟩
    refine ⟨h1, ?_, c, l, ps, rg, f1, H1, I1⟩
    show f_X4_fill_L61 i (iI (2 ^ n : Nat)) h1 = _
    unfold f_X4_fill_L61
    rw [(tN_fr f1 hni.1 hni.2 hN).2.2.1, shl7 n (by omega), if_pos (Int32.le_refl _)]) 1 (iI (1 : Nat), hb) hp1 ⟨hb, _, _, _, _, rfl, fb, Hb, fInv_beg hw⟩
  have hE := fInv_end h6 Ic
  obtain ⟨h', kd, fd, pd⟩ := w_takeWithin (h := hc) hw Hc.2.1 (fun S => by
    obtain ⟨g1, g2⟩ := Ic.2.2.2.2.1 S
    refine ⟨g1, ?_⟩
    rcases g2 with g2 | ⟨x, b, e, g2, g3, g4⟩
    · exact Or.inl g2
    · exact Or.inr ⟨S, x, b, e, g2, g3, fun _ z => z, g4⟩) (fun S x b e g1 g2 => hE.2 S x b e g1 g2)
  refine ⟨h', ?_, fr_tr fc (fr_up fd (by simp)), ?_, pd⟩
  · unfold f_X4_fill
    rw [j_fill h 28 384 0 (by decide), tr_bn_some, j_fill _ 29 384 0 (by decide), tr_bn_some, j_fill _ 30 64 0 (by decide), tr_bn_some]
    unfold tr_bd
    dsimp only
    rw [tr_sa_ne _ _ (show 30 ≠ 29 by decide), tr_sa_ne _ _ (show 30 ≠ 28 by decide), tr_sa_ne _ _ (show 29 ≠ 28 by decide), ← eha, show ((0 : Int32), ha) = (iI (0 : Nat), ha) from rfl, kb, tr_bn_some]
    unfold f_X4_fill_E59
    rw [show ((1 : Int32), hb) = (iI (1 : Nat), hb) from rfl, kc, tr_bn_some]
    unfold f_X4_fill_E100
    rw [(tN_fr fc hni.1 hni.2 hN).2.2.1, kd]
    rfl
  · rw [fd.1 27 (by decide), Hc.2.2, hE.1]
end
section
/-! both sides read the text -/
theorem iI_38 : (38 : Int32) = iI 38 := by decide
theorem iI_13 : (13 : Int32) = iI 13 := by decide
theorem iI_1000 : (1000 : Int32) = iI 1000 := by decide
theorem n_begin (h : tr_H) {v : Int} (v1 : -10000 ≤ v) (v2 : v ≤ 10000) : ∃ h', f_X2_begin 4 (iI v) h = some h' ∧ fr [4, 5, 12] h h' ∧ tN h' 4 (max 1 (min 6 v)).toNat (fun _ => -9) := by
  refine ⟨tr_sa (tr_si h 4 1 (iI (max 1 (min 6 v)))) 5 (fun j => if j < 36 then -9 else (tr_si h 4 1 (iI (max 1 (min 6 v)))).1 5 j), ?_, fr_tr (fr_si _ _ _ (by simp)) (fr_sa _ _ (by simp)), ?_⟩
  · unfold f_X2_begin tr_bd
    dsimp only
    rw [iI_1, iI_6, tr_minI (by omega) (by omega) (by omega) (by omega), tr_maxI (by omega) (by omega) (by omega) (by omega), j_fill _ 5 36 (-9) (by decide)]
    rfl
  · refine ⟨Or.inr (Or.inl rfl), ⟨by omega, by omega, fun c hc => ⟨Or.inl rfl, fun _ => rfl⟩⟩, ?_, fun c hc => ?_⟩
    · rw [tr_sa_ne _ _ (by decide), si_s]
      congr 1
      omega
    · rw [tr_sa_at, if_pos hc]
      rfl
def allF (n : Nat) (w : Nat → Int) (a : Nat) : Prop := ∀ t, t < n → w (6 * a + t) ≠ -9
theorem n_leads {h : tr_H} {i n : Nat} {w : Nat → Int} (hN : tN h i n w) {a : Nat} (ha : a < n) : (allF n w a → f_X2_leadsToAll i (iI a) h = some 1) ∧ (¬ allF n w a → f_X2_leadsToAll i (iI a) h = some 0) := by
  have hw := hN.2.1
  have h6 := hw.2.1
  have step : ∀ t, t < n → f_X2_leadsToAll_L2 h i (iI a) (iI t) = if w (6 * a + t) = -9 then some (.inr (.inr 0)) else some (.inl (iI (t + 1 : Nat))) := by
    intro t ht
    have ho := n_of hN (a := (a : Int)) (b := (t : Int)) (by omega) (by omega) (by omega) (by omega)
    rw [woI_in ha ht] at ho
    have b3 := okn_b hw (c := 6 * a + t) (by omega)
    unfold f_X2_leadsToAll_L2
    rw [hN.2.2.1, if_neg (by rw [iI_le (by omega) (by omega) (by omega) (by omega)]; omega), ho, tr_bn_some]
    by_cases c : w (6 * a + t) = -9
    · rw [if_pos c, c, if_pos (show iI (-9) = -9 from rfl)]
    · rw [if_neg c, if_neg (by rw [iI_m9, iI_eq (by omega) (by omega) (by omega) (by omega)]; exact c)]
      unfold tr_bd
      rw [iI_1, iI_add]
      rfl
  constructor
  · intro hall
    unfold f_X2_leadsToAll
    have key := tr_seq (f := fun q => f_X2_leadsToAll_L2 h i (iI a) q) (fun m => iI m) (lo := 0) (hi := n) (r := (.inl () : Unit ⊕ Int32)) (by omega) (fun t _ ht => by
      show f_X2_leadsToAll_L2 h i (iI a) (iI t) = _
      rw [step t ht, if_neg (hall t ht)]) (by
      show f_X2_leadsToAll_L2 h i (iI a) (iI n) = _
      unfold f_X2_leadsToAll_L2
      rw [hN.2.2.1, if_pos (Int32.le_refl _)])
    rw [show (0 : Int32) = iI (0 : Nat) from rfl, key]
    rfl
  · intro hno
    have hex : ∃ t, t < n ∧ w (6 * a + t) = -9 ∧ ∀ u, u < t → w (6 * a + u) ≠ -9 := by
      have h1 : ∃ t, t < n ∧ w (6 * a + t) = -9 := by
        apply Classical.byContradiction
        intro q
        exact hno (fun t ht e => q ⟨t, ht, e⟩)
      obtain ⟨t, ht, e⟩ := h1
      induction t using Nat.strongRecOn with
      | ind t ih =>
        by_cases c : ∀ u, u < t → w (6 * a + u) ≠ -9
        · exact ⟨t, ht, e, c⟩
        · have : ∃ u, u < t ∧ w (6 * a + u) = -9 := by
            apply Classical.byContradiction
            intro q
            exact c (fun u hu eu => q ⟨u, hu, eu⟩)
          obtain ⟨u, hu, eu⟩ := this
          exact ih u hu (by omega) eu
    obtain ⟨t, ht, e, hb⟩ := hex
    unfold f_X2_leadsToAll
    have key := tr_seq (f := fun q => f_X2_leadsToAll_L2 h i (iI a) q) (fun m => iI m) (lo := 0) (hi := t) (r := (.inr 0 : Unit ⊕ Int32)) (by omega) (fun u _ hu => by
      show f_X2_leadsToAll_L2 h i (iI a) (iI u) = _
      rw [step u (by omega), if_neg (hb u hu)]) (by
      show f_X2_leadsToAll_L2 h i (iI a) (iI t) = _
      rw [step t ht, if_pos e])
    rw [show (0 : Int32) = iI (0 : Nat) from rfl, key]
    rfl
theorem cnt_all (p : Nat → Bool) : ∀ k, cnt p k = k ↔ ∀ j, j < k → p j = true := by
  intro k
  induction k with
  | zero => exact ⟨fun _ j hj => by omega, fun _ => rfl⟩
  | succ k ih =>
    have hle := cnt_le p k
    unfold cnt
    constructor
    · intro h j hj
      by_cases c : p k = true
      · rw [if_pos c] at h
        by_cases e : j = k
        · rw [e]; exact c
        · exact (ih.mp (by omega)) j (by omega)
      · rw [if_neg c] at h
        omega
    · intro h
      rw [if_pos (h k (by omega)), ih.mpr (fun j hj => h j (by omega))]
theorem r_waitsFrom {h : tr_H} {q n : Nat} {w : Nat → Int} (hP : tP h q n w) {a : Nat} (ha : a < 6) : ∃ z : Nat, f_X8_waitsFrom q (iI a) h = some (iI z) ∧ z ≤ 6 ∧ (z = n ↔ allF n w a) := by
  have hw := hP.2.1
  have h6 := hw.2.1
  refine ⟨cnt (fun t => decide (w (6 * a + t) ≠ -9)) n, ?_, by have := cnt_le (fun t => decide (w (6 * a + t) ≠ -9)) n; omega, ?_⟩
  · unfold f_X8_waitsFrom
    have key := tr_seq (f := fun z => f_X8_waitsFrom_L4 h q (iI a) z.1 z.2) (fun m => (iI (cnt (fun t => decide (w (6 * a + t) ≠ -9)) m : Nat), iI m)) (lo := 0) (hi := n) (r := iI (cnt (fun t => decide (w (6 * a + t) ≠ -9)) n : Nat)) (by omega) (fun m _ hm => by
      have hm2 := r_isThere hP (i := a) (j := m) (by omega) (by omega)
      show f_X8_waitsFrom_L4 h q (iI a) (iI (cnt (fun t => decide (w (6 * a + t) ≠ -9)) m : Nat)) (iI m) = _
      unfold f_X8_waitsFrom_L4
      rw [show (0 : Int32).toNatClampNeg = 0 from rfl, hP.2.2.1, if_neg (by rw [iI_le (by omega) (by omega) (by omega) (by omega)]; omega), hm2, tr_bn_some]
      by_cases c : w (6 * a + m) = -9
      · rw [if_pos c, if_pos rfl]
        unfold tr_bd
        rw [iI_0, iI_add, iI_1, iI_add]
        simp only [cnt, c]
        simp
      · rw [if_neg c, if_neg (show ¬ (1 : Int32) = 0 by decide)]
        unfold tr_bd
        rw [iI_1, iI_add, iI_add]
        simp only [cnt]
        simp [c]) (by
      show f_X8_waitsFrom_L4 h q (iI a) (iI (cnt (fun t => decide (w (6 * a + t) ≠ -9)) n : Nat)) (iI n) = _
      unfold f_X8_waitsFrom_L4
      rw [show (0 : Int32).toNatClampNeg = 0 from rfl, hP.2.2.1, if_pos (Int32.le_refl _)])
    rw [show ((0 : Int32), (0 : Int32)) = (iI (cnt (fun t => decide (w (6 * a + t) ≠ -9)) 0 : Nat), iI (0 : Nat)) from rfl, key]
    rfl
  · rw [cnt_all]
    unfold allF
    constructor
    · intro q t ht
      exact of_decide_eq_true (q t ht)
    · intro q t ht
      exact decide_eq_true (q t ht)
/-! one letter, on the class's side -/
theorem c_take0 {h : tr_H} {n : Nat} {w : Nat → Int} {j : Nat} {t : Int} (hN : tN h 4 n w) (hj : j ≤ 30) (ht : 0 ≤ t ∧ t ≤ 255) : ((j < 12 ∧ 0 ≤ t - 48 ∧ t - 48 < n ∧ ¬ allF n w (t - 48).toNat) → f_X3_takes (iI (2 + 3 * j : Nat)) (iI t) 4 h = some (1, tr_si h 12 0 (iI (t - 48)))) ∧ (¬ (j < 12 ∧ 0 ≤ t - 48 ∧ t - 48 < n ∧ ¬ allF n w (t - 48).toNat) → f_X3_takes (iI (2 + 3 * j : Nat)) (iI t) 4 h = some (0, tr_si h 12 0 (iI (t - 48)))) := by
  have h6 := hN.2.1.2.1
  have hrem := iI_rem (a := ((2 + 3 * j : Nat) : Int) - 2) (b := 3) (by omega) (by omega) (by omega) (by omega)
  rw [show (((2 + 3 * j : Nat) : Int) - 2) % 3 = 0 by omega] at hrem
  have hN6 : tN (tr_si h 12 0 (iI (t - 48))) 4 n w := tN_fr (fr_si (L := [12]) _ _ _ (by simp)) (by simp) (by simp) hN
  have hh := n_has hN6 (a := t - 48) (by omega) (by omega)
  have main : f_X3_takes (iI (2 + 3 * j : Nat)) (iI t) 4 h = if (38 : Int32) ≤ iI (2 + 3 * j : Nat) then some (0, tr_si h 12 0 (iI (t - 48))) else tr_bn (f_X2_has 4 (iI (t - 48)) (tr_si h 12 0 (iI (t - 48)))) fun tv9 => if tv9 = 0 then some (0, tr_si h 12 0 (iI (t - 48))) else tr_bn (f_X2_leadsToAll 4 (iI (t - 48)) (tr_si h 12 0 (iI (t - 48)))) fun tv12 => if tv12 = 0 then some (1, tr_si h 12 0 (iI (t - 48))) else some (0, tr_si h 12 0 (iI (t - 48))) := by
    unfold f_X3_takes
    simp only [tr_bd]
    rw [if_neg (show ¬ iI (2 + 3 * j : Nat) = 0 by rw [iI_0, iI_eq (by omega) (by omega) (by omega) (by omega)]; omega), if_neg (show ¬ iI (2 + 3 * j : Nat) = 1 by rw [iI_1, iI_eq (by omega) (by omega) (by omega) (by omega)]; omega), iI_48, iI_sub, iI_2, iI_sub, iI_3, hrem, if_pos (show iI 0 = 0 from rfl), si_s]
  rw [main, hh, tr_bn_some]
  by_cases c1 : j < 12
  · rw [if_neg (by rw [iI_38, iI_le (by omega) (by omega) (by omega) (by omega)]; omega)]
    by_cases c2 : 0 ≤ t - 48 ∧ t - 48 < n
    · rw [if_pos c2, if_neg (show ¬ (1 : Int32) = 0 by decide)]
      have hl := n_leads hN6 (a := (t - 48).toNat) (by omega)
      rw [show (((t - 48).toNat : Nat) : Int) = t - 48 by omega] at hl
      constructor
      · intro q
        rw [hl.2 q.2.2.2, tr_bn_some, if_pos rfl]
      · intro q
        rw [hl.1 (Classical.byContradiction fun z => q ⟨c1, c2.1, c2.2, z⟩), tr_bn_some, if_neg (by decide)]
    · rw [if_neg c2, if_pos rfl]
      exact ⟨fun q => absurd ⟨q.2.1, q.2.2.1⟩ c2, fun _ => rfl⟩
  · rw [if_pos (by rw [iI_38, iI_le (by omega) (by omega) (by omega) (by omega)]; omega)]
    exact ⟨fun q => absurd q.1 c1, fun _ => rfl⟩
theorem c_take1 {h : tr_H} {n : Nat} {w : Nat → Int} {j a : Nat} {t : Int} (hN : tN h 4 n w) (hj : j ≤ 30) (ha : a < n) (h12 : h.1 12 0 = iI a) (ht : 0 ≤ t ∧ t ≤ 255) : ((0 ≤ t - 48 ∧ t - 48 < n ∧ w (6 * a + (t - 48).toNat) = -9) → f_X3_takes (iI (2 + 3 * j + 1 : Nat)) (iI t) 4 h = some (1, tr_si h 12 1 (iI (t - 48)))) ∧ (¬ (0 ≤ t - 48 ∧ t - 48 < n ∧ w (6 * a + (t - 48).toNat) = -9) → f_X3_takes (iI (2 + 3 * j + 1 : Nat)) (iI t) 4 h = some (0, tr_si h 12 1 (iI (t - 48)))) := by
  have h6 := hN.2.1.2.1
  have hrem := iI_rem (a := ((2 + 3 * j + 1 : Nat) : Int) - 2) (b := 3) (by omega) (by omega) (by omega) (by omega)
  rw [show (((2 + 3 * j + 1 : Nat) : Int) - 2) % 3 = 1 by omega] at hrem
  have hN6 : tN (tr_si h 12 1 (iI (t - 48))) 4 n w := tN_fr (fr_si (L := [12]) _ _ _ (by simp)) (by simp) (by simp) hN
  have hh := n_has hN6 (a := t - 48) (by omega) (by omega)
  have ho := n_of hN6 (a := (a : Int)) (b := t - 48) (by omega) (by omega) (by omega) (by omega)
  have main : f_X3_takes (iI (2 + 3 * j + 1 : Nat)) (iI t) 4 h = tr_bn (f_X2_has 4 (iI (t - 48)) (tr_si h 12 1 (iI (t - 48)))) fun tv17 => if tv17 = 0 then some (0, tr_si h 12 1 (iI (t - 48))) else tr_bn (f_X2_of 4 (iI a) (iI (t - 48)) (tr_si h 12 1 (iI (t - 48)))) fun tv20 => if tv20 = (-9) then some (1, tr_si h 12 1 (iI (t - 48))) else some (0, tr_si h 12 1 (iI (t - 48))) := by
    unfold f_X3_takes
    simp only [tr_bd]
    rw [if_neg (show ¬ iI (2 + 3 * j + 1 : Nat) = 0 by rw [iI_0, iI_eq (by omega) (by omega) (by omega) (by omega)]; omega), if_neg (show ¬ iI (2 + 3 * j + 1 : Nat) = 1 by rw [iI_1, iI_eq (by omega) (by omega) (by omega) (by omega)]; omega), iI_48, iI_sub, iI_2, iI_sub, iI_3, hrem, if_neg (show ¬ iI 1 = 0 by decide), if_pos (show iI 1 = 1 from rfl), si_s, si_n _ _ _ (show (0 : Nat) ≠ 1 by decide), h12]
  rw [main, hh, tr_bn_some, ho, tr_bn_some]
  by_cases c2 : 0 ≤ t - 48 ∧ t - 48 < n
  · have hwo : woI n w a (t - 48) = w (6 * a + (t - 48).toNat) := by
      unfold woI
      rw [if_pos (by omega)]
      simp
    have b3 := okn_b hN.2.1 (c := 6 * a + (t - 48).toNat) (by omega)
    rw [if_pos c2, if_neg (show ¬ (1 : Int32) = 0 by decide), hwo]
    by_cases c3 : w (6 * a + (t - 48).toNat) = -9
    · rw [if_pos (by rw [c3]; rfl)]
      exact ⟨fun _ => rfl, fun q => absurd ⟨c2.1, c2.2, c3⟩ q⟩
    · rw [if_neg (by rw [iI_m9, iI_eq (by omega) (by omega) (by omega) (by omega)]; exact c3)]
      exact ⟨fun q => absurd q.2.2 c3, fun _ => rfl⟩
  · rw [if_neg c2, if_pos rfl]
    exact ⟨fun q => absurd ⟨q.1, q.2.1⟩ c2, fun _ => rfl⟩
theorem c_take2 {h : tr_H} {n : Nat} {w : Nat → Int} {j a b : Nat} {t : Int} (hN : tN h 4 n w) (hj : j ≤ 30) (ha : a < n) (hb : b < n) (h12 : h.1 12 0 = iI a) (h13 : h.1 12 1 = iI b) (ht : 0 ≤ t ∧ t ≤ 255) : ((0 ≤ t - 48 ∧ t - 48 ≤ 9) → f_X3_takes (iI (2 + 3 * j + 2 : Nat)) (iI t) 4 h = some (1, tr_sa h 5 (upd (h.1 5) (6 * a + b) (iI (t - 48))))) ∧ (¬ (0 ≤ t - 48 ∧ t - 48 ≤ 9) → f_X3_takes (iI (2 + 3 * j + 2 : Nat)) (iI t) 4 h = some (0, h)) := by
  have h6 := hN.2.1.2.1
  have hrem := iI_rem (a := ((2 + 3 * j + 2 : Nat) : Int) - 2) (b := 3) (by omega) (by omega) (by omega) (by omega)
  rw [show (((2 + 3 * j + 2 : Nat) : Int) - 2) % 3 = 2 by omega] at hrem
  have hl := n_lay hN (a := (a : Int)) (b := (b : Int)) (t - 48) (by omega) (by omega) (by omega) (by omega)
  rw [if_pos (by omega)] at hl
  have main : f_X3_takes (iI (2 + 3 * j + 2 : Nat)) (iI t) 4 h = if iI (t - 48) < 0 then some (0, h) else if 9 < iI (t - 48) then some (0, h) else tr_b2 (f_X2_lay 4 (iI a) (iI b) (iI (t - 48)) h) fun tv25 th26 => if tv25 = 0 then some (0, th26) else some (1, th26) := by
    unfold f_X3_takes
    simp only [tr_bd]
    rw [if_neg (show ¬ iI (2 + 3 * j + 2 : Nat) = 0 by rw [iI_0, iI_eq (by omega) (by omega) (by omega) (by omega)]; omega), if_neg (show ¬ iI (2 + 3 * j + 2 : Nat) = 1 by rw [iI_1, iI_eq (by omega) (by omega) (by omega) (by omega)]; omega), iI_48, iI_sub, iI_2, iI_sub, iI_3, hrem, if_neg (show ¬ iI 2 = 0 by decide), if_neg (show ¬ iI 2 = 1 by decide), h12, h13]
  rw [main, hl, tr_b2_some]
  by_cases c1 : t - 48 < 0
  · rw [if_pos (by rw [iI_0, iI_lt (by omega) (by omega) (by omega) (by omega)]; exact c1)]
    exact ⟨fun q => by omega, fun _ => rfl⟩
  · rw [if_neg (by rw [iI_0, iI_lt (by omega) (by omega) (by omega) (by omega)]; exact c1)]
    by_cases c2 : 9 < t - 48
    · rw [if_pos (by rw [iI_9, iI_lt (by omega) (by omega) (by omega) (by omega)]; exact c2)]
      exact ⟨fun q => by omega, fun _ => rfl⟩
    · rw [if_neg (by rw [iI_9, iI_lt (by omega) (by omega) (by omega) (by omega)]; exact c2)]
      rw [if_neg (show ¬ (1 : Int32) = 0 by decide)]
      simp only [Int.toNat_natCast]
      exact ⟨fun _ => trivial, fun q => by omega⟩
section LOOPC
variable {L : Nat} {h h' : tr_H} {p : Nat} {t : Int}
theorem c_go (hL : L ≤ 64) (hp : p < L) (ht : h.1 1 p = iI t) (hk : f_X3_takes (iI p) (iI t) 4 h = some (1, h')) : tr_lp (fun q => f_X3_read_L8 (iI L) 4 q.1 q.2) (iI p, h) = tr_lp (fun q => f_X3_read_L8 (iI L) 4 q.1 q.2) (iI (p + 1 : Nat), h') := by
  apply tr_lp_go
  show f_X3_read_L8 (iI L) 4 (iI p) h = _
  unfold f_X3_read_L8
  rw [if_neg (by rw [iI_le (by omega) (by omega) (by omega) (by omega)]; omega), if_neg (by rw [iI_64, iI_le (by omega) (by omega) (by omega) (by omega)]; omega), tr_gdI (by omega) (by omega) (by omega), iI_ix (by omega), ht, hk, tr_b2_some, if_neg (by decide)]
  unfold tr_bd
  rw [iI_1, iI_add]
  rfl
theorem c_stop (hL : L ≤ 64) (hp : p < L) (ht : h.1 1 p = iI t) (hk : f_X3_takes (iI p) (iI t) 4 h = some (0, h')) : tr_lp (fun q => f_X3_read_L8 (iI L) 4 q.1 q.2) (iI p, h) = some (.inr (iI p, h')) := by
  apply tr_lp_out
  show f_X3_read_L8 (iI L) 4 (iI p) h = _
  unfold f_X3_read_L8
  rw [if_neg (by rw [iI_le (by omega) (by omega) (by omega) (by omega)]; omega), if_neg (by rw [iI_64, iI_le (by omega) (by omega) (by omega) (by omega)]; omega), tr_gdI (by omega) (by omega) (by omega), iI_ix (by omega), ht, hk, tr_b2_some, if_pos rfl]
theorem c_end (hL : L ≤ 64) : tr_lp (fun q => f_X3_read_L8 (iI L) 4 q.1 q.2) (iI L, h) = some (.inl h) := by
  apply tr_lp_out
  show f_X3_read_L8 (iI L) 4 (iI L) h = _
  unfold f_X3_read_L8
  rw [if_pos (Int32.le_refl _)]
theorem c_E44 (hL : L ≤ 64) : f_X3_read_E44 (iI L) h = some (iI (if 2 ≤ L ∧ (L - 2) % 3 = 0 then (-9 : Int) else (L : Int)), h) := by
  unfold f_X3_read_E44
  by_cases c : L < 2
  · rw [if_pos (by rw [iI_2, iI_lt (by omega) (by omega) (by omega) (by omega)]; omega), if_neg (by omega)]
    rfl
  · have hrem := iI_rem (a := (L : Int) - 2) (b := 3) (by omega) (by omega) (by omega) (by omega)
    rw [if_neg (by rw [iI_2, iI_lt (by omega) (by omega) (by omega) (by omega)]; omega), iI_2, iI_sub, iI_3, hrem]
    by_cases c2 : (L - 2) % 3 = 0
    · rw [if_pos (by rw [show ((L : Int) - 2) % 3 = 0 by omega]; rfl), if_pos ⟨by omega, c2⟩]
      rfl
    · rw [if_neg (by rw [iI_0, iI_eq (by omega) (by omega) (by omega) (by omega)]; omega), if_neg (by omega)]
      rfl
end LOOPC
/-! the same, on the reference's side -/
def gR (h h' : tr_H) : Prop := (∀ c, c ≠ 0 → c ≠ 2 → h'.1 c = h.1 c) ∧ (∀ k, k ≠ 3 → k ≠ 4 → h'.1 0 k = h.1 0 k) ∧ h'.2 = h.2
theorem gR_rf (h : tr_H) : gR h h := ⟨fun _ _ _ => rfl, fun _ _ _ => rfl, rfl⟩
theorem gR_tr {a b c : tr_H} (h1 : gR a b) (h2 : gR b c) : gR a c := ⟨fun k q1 q2 => (h2.1 k q1 q2).trans (h1.1 k q1 q2), fun k q1 q2 => (h2.2.1 k q1 q2).trans (h1.2.1 k q1 q2), h2.2.2.trans h1.2.2⟩
theorem gR_0 (h : tr_H) {k : Nat} (v : Int32) (hk : k = 3 ∨ k = 4) : gR h (tr_si h 0 k v) := ⟨fun c q _ => si_c _ _ _ q, fun j q1 q2 => si_n _ _ _ (by omega), rfl⟩
theorem gR_2 (h : tr_H) (k : Nat) (v : Int32) : gR h (tr_si h 2 k v) := ⟨fun c _ q => si_c _ _ _ q, fun j _ _ => by rw [si_c _ _ _ (by decide)], rfl⟩
def txM (h : tr_H) (L : Nat) (tx : Nat → Int) : Prop := h.1 0 2 = iI L ∧ ∀ k, k < L → h.1 1 k = iI (tx k)
theorem txM_g {h h' : tr_H} {L : Nat} {tx : Nat → Int} (hg : gR h h') (hT : txM h L tx) : txM h' L tx := ⟨by rw [hg.2.1 2 (by decide) (by decide)]; exact hT.1, fun k hk => by rw [hg.1 1 (by decide) (by decide)]; exact hT.2 k hk⟩
section FIG
variable {h : tr_H} {L P : Nat} {tx : Nat → Int} {mo : Int}
theorem r_fig_in (ht : 0 ≤ tx P ∧ tx P ≤ 255) (hm : -10 ≤ mo ∧ mo ≤ 100) (hT : txM h L tx) (hP : P < L) : f_X8_in (((h.1 1 P) - 48 : Int32).toInt64) 0 ((iI mo : Int32).toInt64) = some (if 0 ≤ tx P - 48 ∧ tx P - 48 ≤ mo then 1 else 0) := by
  rw [hT.2 P hP, iI_48, iI_sub, r_in, Int32.toInt_toInt64, Int32.toInt_toInt64, iI_in (by omega) (by omega), iI_in (by omega) (by omega)]
  rfl
theorem r_fig_end (hT : txM h L tx) (hp : h.1 0 3 = iI L) : f_X8_figure (iI mo) h = some (-9, h) := by
  unfold f_X8_figure
  rw [hp, hT.1, if_pos rfl]
theorem r_fig_no (hL : L ≤ 64) (ht : 0 ≤ tx P ∧ tx P ≤ 255) (hm : -10 ≤ mo ∧ mo ≤ 100) (hT : txM h L tx) (hp : h.1 0 3 = iI P) (hP : P < L) (hz : ¬ (0 ≤ tx P - 48 ∧ tx P - 48 ≤ mo)) : f_X8_figure (iI mo) h = some (-9, h) := by
  have hin := r_fig_in ht hm hT hP
  rw [if_neg hz] at hin
  unfold f_X8_figure
  rw [hp, hT.1, if_neg (by rw [iI_eq (by omega) (by omega) (by omega) (by omega)]; omega)]
  simp (disch := omega) only [tr_bd, tr_gdI, iI_ix]
  rw [hin, tr_bn_some, if_pos rfl]
theorem r_fig_yes (hL : L ≤ 64) (ht : 0 ≤ tx P ∧ tx P ≤ 255) (hm : -10 ≤ mo ∧ mo ≤ 100) (hT : txM h L tx) (hp : h.1 0 3 = iI P) (hP : P < L) (hz : 0 ≤ tx P - 48 ∧ tx P - 48 ≤ mo) : f_X8_figure (iI mo) h = some (iI (tx P - 48), tr_si h 0 3 (iI (P + 1 : Nat))) := by
  have hin := r_fig_in ht hm hT hP
  rw [if_pos hz] at hin
  unfold f_X8_figure
  rw [hp, hT.1, if_neg (by rw [iI_eq (by omega) (by omega) (by omega) (by omega)]; omega)]
  simp (disch := omega) only [tr_bd, tr_gdI, iI_ix]
  rw [hin, tr_bn_some, if_neg (show ¬ (1 : Int32) = 0 by decide), iI_1, iI_add, si_s, iI_sub, show (P : Int) + 1 - 1 = (P : Int) by omega, tr_gdI (by omega) (by omega) (by omega), iI_ix (by omega), si_c _ _ _ (by decide), hT.2 P hP, iI_48, iI_sub]
  rfl
end FIG
end
section
/-! a wait is read, on the reference's side -/
def stopAt (h : tr_H) (Q : Nat) : Prop := ∃ h', f_X8_readWait h = some (0, h') ∧ gR h h' ∧ h'.1 0 3 = iI Q
section RW
variable {h : tr_H} {L P M n a b : Nat} {w : Nat → Int} {tx : Nat → Int}
theorem rw_first (hL : L ≤ 64) (hx : ∀ k, k < L → 0 ≤ tx k ∧ tx k ≤ 255) (hT : txM h L tx) (hp : h.1 0 3 = iI P) (hP : P < L) (hN : tP h 2 n w) (hz : ¬ (0 ≤ tx P - 48 ∧ tx P - 48 < n)) : stopAt h P := by
  have h6 := hN.2.1.2.1
  refine ⟨h, ?_, gR_rf h, hp⟩
  unfold f_X8_readWait
  simp only [tr_bd]
  rw [show (0 : Int32).toNatClampNeg = 0 from rfl, hN.2.2.1, iI_1, iI_sub, r_fig_no hL (hx P hP) (by omega) hT hp hP (by omega), tr_b2_some, if_pos rfl]
theorem rw_pre (hL : L ≤ 64) (hx : ∀ k, k < L → 0 ≤ tx k ∧ tx k ≤ 255) (hT : txM h L tx) (hp : h.1 0 3 = iI P) (hM : h.1 0 4 = iI M) (hM2 : M ≤ 12) (hP : P < L) (hN : tP h 2 n w) (ha : tx P - 48 = (a : Int)) (han : a < n) : (M = 12 ∨ allF n w a → stopAt h P) ∧ (¬ (M = 12 ∨ allF n w a) → f_X8_readWait h = tr_b2 (f_X8_figure (iI ((n : Int) - 1)) (tr_si h 0 3 (iI (P + 1 : Nat)))) fun tv12 th13 =>
    if tv12 = (-9) then (some (0, th13)) else (tr_bn (f_X8_isThere 2 (iI a) tv12 th13) fun tv16 => if tv16 = 0 then (tr_b2 (f_X8_figure 9 th13) fun tv19 th20 => if 0 ≤ (tv19 + 1) then (f_X8_readWait_J131 (iI a) tv12 th20 tv19 (tv19 + 1)) else (f_X8_readWait_J131 (iI a) tv12 th20 tv19 0)) else (some (0, tr_si th13 0 3 ((th13.1 0 3) - 1))))) := by
  have h6 := hN.2.1.2.1
  obtain ⟨h4, eh4⟩ : ∃ h4, h4 = tr_si h 0 3 (iI (P + 1 : Nat)) := ⟨_, rfl⟩
  have hN4 : tP h4 2 n w := by rw [eh4]; exact tP_fr (fr_si (L := [0]) _ _ _ (by simp)) (by simp) hN
  have hM4 : h4.1 0 4 = iI M := by rw [eh4, si_n _ _ _ (by decide)]; exact hM
  have hp4 : h4.1 0 3 = iI (P + 1 : Nat) := by rw [eh4, si_s]
  obtain ⟨z, k1, k2, k3⟩ := r_waitsFrom hN4 (a := a) (by omega)
  have main : f_X8_readWait h = if (iI M : Int32) = 12 then some (0, tr_si h4 0 3 (iI P)) else if (iI z : Int32) = iI n then some (0, tr_si h4 0 3 (iI P)) else tr_b2 (f_X8_figure (iI ((n : Int) - 1)) h4) fun tv12 th13 =>
    if tv12 = (-9) then (some (0, th13)) else (tr_bn (f_X8_isThere 2 (iI a) tv12 th13) fun tv16 => if tv16 = 0 then (tr_b2 (f_X8_figure 9 th13) fun tv19 th20 => if 0 ≤ (tv19 + 1) then (f_X8_readWait_J131 (iI a) tv12 th20 tv19 (tv19 + 1)) else (f_X8_readWait_J131 (iI a) tv12 th20 tv19 0)) else (some (0, tr_si th13 0 3 ((th13.1 0 3) - 1)))) := by
    have hf := r_fig_yes (mo := (n : Int) - 1) hL (hx P hP) (by omega) hT hp hP (by omega)
    rw [ha, ← eh4] at hf
    have e1 : iI (n : Int) - 1 = iI ((n : Int) - 1) := by rw [iI_1, iI_sub]
    have e2 : iI ((P + 1 : Nat) : Int) - 1 = iI P := by
      rw [iI_1, iI_sub]
      congr 1
      omega
    unfold f_X8_readWait
    simp only [tr_bd]
    rw [show (0 : Int32).toNatClampNeg = 0 from rfl, hN.2.2.1, e1, hf, tr_b2_some, if_neg (show ¬ iI (a : Int) = -9 by rw [iI_m9, iI_eq (by omega) (by omega) (by omega) (by omega)]; omega), hM4, hp4, e2, k1, tr_bn_some]
  rw [← eh4]
  constructor
  · intro q
    refine ⟨tr_si h4 0 3 (iI P), ?_, ?_, by rw [si_s]⟩
    · rw [main]
      by_cases c : M = 12
      · rw [if_pos (by rw [c]; rfl)]
      · rw [if_neg (by rw [iI_12, iI_eq (by omega) (by omega) (by omega) (by omega)]; omega), if_pos (by rw [k3.mpr (q.resolve_left c)])]
    · rw [eh4]
      exact gR_tr (gR_0 _ _ (Or.inl rfl)) (gR_0 _ _ (Or.inl rfl))
  · intro q
    rw [main, if_neg (by rw [iI_12, iI_eq (by omega) (by omega) (by omega) (by omega)]; omega), if_neg (by rw [iI_eq (by omega) (by omega) (by omega) (by omega)]; intro e; exact q (Or.inr (k3.mp (by omega))))]
theorem rw_second (hL : L ≤ 64) (hx : ∀ k, k < L → 0 ≤ tx k ∧ tx k ≤ 255) (hT : txM h L tx) (hp : h.1 0 3 = iI P) (hM : h.1 0 4 = iI M) (hM2 : M ≤ 12) (hP : P < L) (hN : tP h 2 n w) (ha : tx P - 48 = (a : Int)) (han : a < n) (hno : ¬ (M = 12 ∨ allF n w a)) (hz : P + 1 = L ∨ (P + 1 < L ∧ ¬ (0 ≤ tx (P + 1) - 48 ∧ tx (P + 1) - 48 < n ∧ w (6 * a + (tx (P + 1) - 48).toNat) = -9))) : stopAt h (P + 1) := by
  have h6 := hN.2.1.2.1
  have hpre := (rw_pre hL hx hT hp hM hM2 hP hN ha han).2 hno
  have g4 : gR h (tr_si h 0 3 (iI (P + 1 : Nat))) := gR_0 _ _ (Or.inl rfl)
  have hT4 := txM_g g4 hT
  have hp4 : (tr_si h 0 3 (iI (P + 1 : Nat))).1 0 3 = iI (P + 1 : Nat) := si_s _ _ _ _
  have hN4 : tP (tr_si h 0 3 (iI (P + 1 : Nat))) 2 n w := tP_fr (fr_si (L := [0]) _ _ _ (by simp)) (by simp) hN
  generalize tr_si h 0 3 (iI (P + 1 : Nat)) = h4 at hpre g4 hT4 hp4 hN4
  rcases hz with e | ⟨hlt, hz⟩
  · subst e
    refine ⟨h4, ?_, g4, hp4⟩
    rw [hpre, r_fig_end hT4 hp4, tr_b2_some, if_pos rfl]
  · by_cases c : 0 ≤ tx (P + 1) - 48 ∧ tx (P + 1) - 48 < n
    · obtain ⟨b, hb⟩ : ∃ b : Nat, tx (P + 1) - 48 = (b : Int) := ⟨(tx (P + 1) - 48).toNat, by omega⟩
      have hw9 : w (6 * a + b) ≠ -9 := fun q => hz ⟨c.1, c.2, by rw [hb]; exact q⟩
      have hf := r_fig_yes (mo := (n : Int) - 1) hL (hx _ hlt) (by omega) hT4 hp4 hlt (by omega)
      rw [hb] at hf
      have g5 : gR h4 (tr_si h4 0 3 (iI (P + 1 + 1 : Nat))) := gR_0 _ _ (Or.inl rfl)
      have hN5 : tP (tr_si h4 0 3 (iI (P + 1 + 1 : Nat))) 2 n w := tP_fr (fr_si (L := [0]) _ _ _ (by simp)) (by simp) hN4
      have hp5 : (tr_si h4 0 3 (iI (P + 1 + 1 : Nat))).1 0 3 = iI (P + 1 + 1 : Nat) := si_s _ _ _ _
      generalize tr_si h4 0 3 (iI (P + 1 + 1 : Nat)) = h5 at hf g5 hN5 hp5
      have hi := r_isThere hN5 (i := a) (j := b) (by omega) (by omega)
      rw [if_neg hw9] at hi
      refine ⟨tr_si h5 0 3 (h5.1 0 3 - 1), ?_, gR_tr g4 (gR_tr g5 (gR_0 _ _ (Or.inl rfl))), ?_⟩
      · rw [hpre, hf, tr_b2_some, if_neg (show ¬ iI (b : Int) = -9 by rw [iI_m9, iI_eq (by omega) (by omega) (by omega) (by omega)]; omega), hi, tr_bn_some, if_neg (by decide)]
      · rw [si_s, hp5, iI_1, iI_sub]
        congr 1
        omega
    · refine ⟨h4, ?_, g4, hp4⟩
      rw [hpre, r_fig_no (mo := (n : Int) - 1) hL (hx _ hlt) (by omega) hT4 hp4 hlt (by omega), tr_b2_some, if_pos rfl]
theorem r_J131 {h : tr_H} (ha : a < 6) (hb : b < 6) (hM : h.1 0 4 = iI M) (t u : Int32) : f_X8_readWait_J131 (iI a) (iI b) h t u = some (if t = -9 then 0 else 1, tr_si (tr_si h 2 (1 + (6 * a + b)) u) 0 4 (iI (M + 1 : Nat))) := by
  have e1 : (1 + 6 * (a : Int) + (b : Int)) = ((1 + (6 * a + b) : Nat) : Int) := by omega
  unfold f_X8_readWait_J131
  simp only [tr_bd]
  rw [iI_1, iI_6, iI_mul, iI_add, iI_add, e1, tr_gdI (by omega) (by omega) (by omega), iI_ix (by omega), si_c _ _ _ (show (0 : Nat) ≠ 2 by decide), hM, iI_add]
  by_cases c : t = -9
  · rw [if_pos c, if_pos c]
    rfl
  · rw [if_neg c, if_neg c]
    rfl
theorem tP_up {h : tr_H} {q : Nat} (hP : tP h q n w) (ha : a < n) (hb : b < n) {v : Int} (hv : v = -9 ∨ (0 ≤ v ∧ v ≤ 9)) : tP (tr_si h q (1 + (6 * a + b)) (iI (cvn v))) q n (wup w (6 * a + b) v) := by
  obtain ⟨a1, a2, a3, a4⟩ := hP
  refine ⟨a1, okn_up a2 ha hb hv, ?_, fun c hc => ?_⟩
  · rw [si_n _ _ _ (by omega)]; exact a3
  · unfold wup
    by_cases e : c = 6 * a + b
    · rw [if_pos e, e, si_s]
    · rw [if_neg e, si_n _ _ _ (by omega)]
      exact a4 c hc
theorem rw_third (hL : L ≤ 64) (hx : ∀ k, k < L → 0 ≤ tx k ∧ tx k ≤ 255) (hT : txM h L tx) (hp : h.1 0 3 = iI P) (hM : h.1 0 4 = iI M) (hM2 : M ≤ 12) (hP : P + 1 < L) (hN : tP h 2 n w) (ha : tx P - 48 = (a : Int)) (han : a < n) (hno : ¬ (M = 12 ∨ allF n w a)) (hb : tx (P + 1) - 48 = (b : Int)) (hbn : b < n) (hw9 : w (6 * a + b) = -9) : ((P + 2 = L ∨ (P + 2 < L ∧ ¬ (0 ≤ tx (P + 2) - 48 ∧ tx (P + 2) - 48 ≤ 9))) → stopAt h (P + 2)) ∧
    ((P + 2 < L ∧ 0 ≤ tx (P + 2) - 48 ∧ tx (P + 2) - 48 ≤ 9) → ∃ h', f_X8_readWait h = some (1, h') ∧ gR h h' ∧ h'.1 0 3 = iI (P + 3 : Nat) ∧ h'.1 0 4 = iI (M + 1 : Nat) ∧ tP h' 2 n (wup w (6 * a + b) (tx (P + 2) - 48))) := by
  have h6 := hN.2.1.2.1
  have hpre := (rw_pre hL hx hT hp hM hM2 (by omega) hN ha han).2 hno
  have g4 : gR h (tr_si h 0 3 (iI (P + 1 : Nat))) := gR_0 _ _ (Or.inl rfl)
  have hT4 := txM_g g4 hT
  have hp4 : (tr_si h 0 3 (iI (P + 1 : Nat))).1 0 3 = iI (P + 1 : Nat) := si_s _ _ _ _
  have hN4 : tP (tr_si h 0 3 (iI (P + 1 : Nat))) 2 n w := tP_fr (fr_si (L := [0]) _ _ _ (by simp)) (by simp) hN
  have hM4 : (tr_si h 0 3 (iI (P + 1 : Nat))).1 0 4 = iI M := by rw [si_n _ _ _ (by decide)]; exact hM
  generalize tr_si h 0 3 (iI (P + 1 : Nat)) = h4 at hpre g4 hT4 hp4 hN4 hM4
  have hf := r_fig_yes (mo := (n : Int) - 1) hL (hx _ hP) (by omega) hT4 hp4 hP (by omega)
  rw [hb] at hf
  have g5 : gR h4 (tr_si h4 0 3 (iI (P + 1 + 1 : Nat))) := gR_0 _ _ (Or.inl rfl)
  have hN5 : tP (tr_si h4 0 3 (iI (P + 1 + 1 : Nat))) 2 n w := tP_fr (fr_si (L := [0]) _ _ _ (by simp)) (by simp) hN4
  have hp5 : (tr_si h4 0 3 (iI (P + 1 + 1 : Nat))).1 0 3 = iI (P + 1 + 1 : Nat) := si_s _ _ _ _
  have hM5 : (tr_si h4 0 3 (iI (P + 1 + 1 : Nat))).1 0 4 = iI M := by rw [si_n _ _ _ (by decide)]; exact hM4
  have hT5 := txM_g g5 hT4
  generalize tr_si h4 0 3 (iI (P + 1 + 1 : Nat)) = h5 at hf g5 hN5 hp5 hM5 hT5
  have hi := r_isThere hN5 (i := a) (j := b) (by omega) (by omega)
  rw [if_pos hw9] at hi
  have hpre2 : f_X8_readWait h = tr_b2 (f_X8_figure 9 h5) fun tv19 th20 => if 0 ≤ (tv19 + 1) then (f_X8_readWait_J131 (iI a) (iI b) th20 tv19 (tv19 + 1)) else (f_X8_readWait_J131 (iI a) (iI b) th20 tv19 0) := by
    rw [hpre, hf, tr_b2_some, if_neg (show ¬ iI (b : Int) = -9 by rw [iI_m9, iI_eq (by omega) (by omega) (by omega) (by omega)]; omega), hi, tr_bn_some, if_pos rfl]
  rw [iI_9] at hpre2
  constructor
  · intro q
    have hfg : f_X8_figure (iI 9) h5 = some (-9, h5) := by
      rcases q with e | ⟨e, z⟩
      · subst e
        exact r_fig_end hT5 hp5
      · exact r_fig_no (P := P + 1 + 1) hL (hx _ e) (by omega) hT5 hp5 e z
    refine ⟨tr_si (tr_si h5 2 (1 + (6 * a + b)) 0) 0 4 (iI (M + 1 : Nat)), ?_, gR_tr g4 (gR_tr g5 (gR_tr (gR_2 _ _ _) (gR_0 _ _ (Or.inr rfl)))), ?_⟩
    · rw [hpre2, hfg, tr_b2_some, if_neg (by decide), r_J131 (by omega) (by omega) hM5, if_pos rfl]
    · rw [si_n _ _ _ (by decide), si_c _ _ _ (by decide), hp5]
  · rintro ⟨e, z1, z2⟩
    have hfg := r_fig_yes (mo := 9) (P := P + 1 + 1) hL (hx _ e) (by omega) hT5 hp5 e ⟨z1, z2⟩
    obtain ⟨v, ev⟩ : ∃ v, v = tx (P + 2) - 48 := ⟨_, rfl⟩
    rw [show tx (P + 1 + 1) - 48 = v from ev.symm] at hfg
    rw [← ev] at z1 z2 ⊢
    refine ⟨tr_si (tr_si (tr_si h5 0 3 (iI (P + 1 + 1 + 1 : Nat))) 2 (1 + (6 * a + b)) (iI (v + 1))) 0 4 (iI (M + 1 : Nat)), ?_, gR_tr g4 (gR_tr g5 (gR_tr (gR_0 _ _ (Or.inl rfl)) (gR_tr (gR_2 _ _ _) (gR_0 _ _ (Or.inr rfl))))), ?_, ?_, ?_⟩
    · rw [hpre2, hfg, tr_b2_some, iI_1, iI_add, if_pos (by rw [iI_0, iI_le (by omega) (by omega) (by omega) (by omega)]; omega), r_J131 (M := M) (by omega) (by omega) (by rw [si_n _ _ _ (by decide)]; exact hM5), if_neg (show ¬ iI v = -9 by rw [iI_m9, iI_eq (by omega) (by omega) (by omega) (by omega)]; omega)]
      rfl
    · rw [si_n _ _ _ (by decide), si_c _ _ _ (by decide), si_s]
    · rw [si_s]
    · refine tP_fr (fr_si (L := [0]) _ _ _ (by simp)) (by simp) ?_
      have h7 := tP_up (tP_fr (fr_si (L := [0]) (i := 0) h5 3 (iI (P + 1 + 1 + 1 : Nat)) (by simp)) (by simp) hN5) (a := a) (b := b) (v := v) han hbn (Or.inr ⟨z1, z2⟩)
      rw [show cvn v = v + 1 by unfold cvn; rw [if_neg (by omega)]] at h7
      exact h7
end RW
theorem r_stop {h : tr_H} {L P Q : Nat} {tx : Nat → Int} (hT : txM h L tx) (hp : h.1 0 3 = iI P) (hP : P < L) (hL : L ≤ 64) (hs : stopAt h Q) : ∃ h', tr_lp (fun q => f_X8_readNet_L72 q) h = some (.inr (iI Q, h')) ∧ gR h h' := by
  obtain ⟨h', k1, k2, k3⟩ := hs
  refine ⟨h', tr_lp_out ?_, k2⟩
  unfold f_X8_readNet_L72
  rw [hT.1, hp, if_neg (by rw [iI_le (by omega) (by omega) (by omega) (by omega)]; omega), k1, tr_b2_some, if_pos rfl, k3]
theorem r_go {h h' : tr_H} {L P : Nat} {tx : Nat → Int} (hT : txM h L tx) (hp : h.1 0 3 = iI P) (hP : P < L) (hL : L ≤ 64) (hk : f_X8_readWait h = some (1, h')) : tr_lp (fun q => f_X8_readNet_L72 q) h = tr_lp (fun q => f_X8_readNet_L72 q) h' := by
  apply tr_lp_go
  unfold f_X8_readNet_L72
  rw [hT.1, hp, if_neg (by rw [iI_le (by omega) (by omega) (by omega) (by omega)]; omega), hk, tr_b2_some, if_neg (by decide)]
/-- both are at the same place of the text, with the same net -/
def rdOk (L : Nat) (sc : tr_H ⊕ (Int32 × tr_H)) (sr : tr_H ⊕ (Int32 × tr_H)) (hx hm : tr_H) : Prop := ∃ r hx' hm', Sum.elim (fun x => f_X3_read_E44 (iI L) x) (fun x => some x) sc = some (iI r, hx') ∧ Sum.elim (fun x => f_X8_readNet_E95 x) (fun x => some x) sr = some (iI r, hm') ∧ fr [4, 5, 12] hx hx' ∧ gR hm hm' ∧ (-9 ≤ r ∧ r ≤ 64) ∧ (r = -9 → ∃ n w, tN hx' 4 n w ∧ tP hm' 2 n w)
theorem rdOk_stop {L Q : Nat} {hx hm hx' hm' : tr_H} (hQ : Q ≤ 64) (f1 : fr [4, 5, 12] hx hx') (f2 : gR hm hm') : rdOk L (.inr (iI Q, hx')) (.inr (iI Q, hm')) hx hm := ⟨Q, hx', hm', rfl, rfl, f1, f2, by omega, fun q => by omega⟩
theorem rdOk_short {L : Nat} {hx hm hx' hm' : tr_H} (hL : L ≤ 64) (hs : ¬ (2 ≤ L ∧ (L - 2) % 3 = 0)) (f1 : fr [4, 5, 12] hx hx') (f2 : gR hm hm') : rdOk L (.inl hx') (.inr (iI L, hm')) hx hm := by
  refine ⟨L, hx', hm', ?_, rfl, f1, f2, by omega, fun q => by omega⟩
  show f_X3_read_E44 (iI L) hx' = _
  rw [c_E44 hL, if_neg hs]
theorem rdOk_mono {L : Nat} {sc sr : tr_H ⊕ (Int32 × tr_H)} {hx hm hx1 hm1 : tr_H} (f1 : fr [4, 5, 12] hx hx1) (f2 : gR hm hm1) (h : rdOk L sc sr hx1 hm1) : rdOk L sc sr hx hm := by
  obtain ⟨r, a, b, h1, h2, h3, h4, h5, h6⟩ := h
  exact ⟨r, a, b, h1, h2, fr_tr f1 h3, gR_tr f2 h4, h5, h6⟩
theorem rd_loop {L : Nat} {tx : Nat → Int} (hL : L ≤ 64) (hx : ∀ k, k < L → 0 ≤ tx k ∧ tx k ≤ 255) : ∀ (d j n : Nat) (w : Nat → Int) (hc hm : tr_H), 2 + 3 * j + d = L → j ≤ 12 → tN hc 4 n w → (∀ k, k < L → hc.1 1 k = iI (tx k)) → tP hm 2 n w → txM hm L tx → hm.1 0 3 = iI (2 + 3 * j : Nat) → hm.1 0 4 = iI j →
    ∃ sc sr, tr_lp (fun q => f_X3_read_L8 (iI L) 4 q.1 q.2) (iI (2 + 3 * j : Nat), hc) = some sc ∧ tr_lp (fun q => f_X8_readNet_L72 q) hm = some sr ∧ rdOk L sc sr hc hm := by
  intro d
  induction d using Nat.strongRecOn with
  | ind d ih =>
    intro j n w hc hm hd hj hN hcT hP hT hp hM
    have h6 := hN.2.1.2.1
    by_cases c0 : d = 0
    · subst c0
      obtain rfl : L = 2 + 3 * j := by omega
      refine ⟨.inl hc, .inl hm, c_end hL, tr_lp_out ?_, -9, hc, hm, ?_, rfl, fr_rf _ _, gR_rf _, by omega, fun _ => ⟨n, w, hN, hP⟩⟩
      · unfold f_X8_readNet_L72
        rw [hT.1, hp, if_pos (Int32.le_refl _)]
      · show f_X3_read_E44 (iI (2 + 3 * j : Nat)) hc = _
        rw [c_E44 hL, if_pos (by omega)]
    · have hlt : 2 + 3 * j < L := by omega
      have ht0 := c_take0 hN (j := j) (by omega) (hx _ hlt)
      have f0 : fr [4, 5, 12] hc (tr_si hc 12 0 (iI (tx (2 + 3 * j) - 48))) := fr_si _ _ _ (by simp)
      by_cases c1 : j < 12 ∧ 0 ≤ tx (2 + 3 * j) - 48 ∧ tx (2 + 3 * j) - 48 < n ∧ ¬ allF n w (tx (2 + 3 * j) - 48).toNat
      · obtain ⟨a, ha⟩ : ∃ a : Nat, tx (2 + 3 * j) - 48 = (a : Int) := ⟨(tx (2 + 3 * j) - 48).toNat, by omega⟩
        have hna : ¬ allF n w a := by have := c1.2.2.2; rw [ha] at this; exact this
        have han : a < n := by omega
        have hgo := c_go hL hlt (hcT _ hlt) (ht0.1 c1)
        rw [ha] at f0 hgo
        have hN1 : tN (tr_si hc 12 0 (iI a)) 4 n w := tN_fr (fr_si (L := [12]) _ _ _ (by simp)) (by simp) (by simp) hN
        have hc1T : ∀ k, k < L → (tr_si hc 12 0 (iI a)).1 1 k = iI (tx k) := fun k hk => by rw [si_c _ _ _ (by decide)]; exact hcT k hk
        have h12 : (tr_si hc 12 0 (iI a)).1 12 0 = iI a := si_s _ _ _ _
        generalize tr_si hc 12 0 (iI a) = hc1 at f0 hgo hN1 hc1T h12
        have hno : ¬ (j = 12 ∨ allF n w a) := fun q => q.elim (fun q => by omega) hna
        by_cases c2 : 2 + 3 * j + 1 = L
        · obtain ⟨hm', r1, r2⟩ := r_stop hT hp hlt hL (rw_second hL hx hT hp hM hj hlt hP ha han hno (Or.inl c2))
          refine ⟨.inl hc1, .inr (iI (2 + 3 * j + 1 : Nat), hm'), ?_, r1, ?_⟩
          · rw [hgo, c2]
            exact c_end hL
          · rw [c2]
            exact rdOk_short hL (by omega) f0 r2
        · have hlt1 : 2 + 3 * j + 1 < L := by omega
          have ht1 := c_take1 hN1 (j := j) (by omega) han h12 (hx _ hlt1)
          have f1 : fr [4, 5, 12] hc1 (tr_si hc1 12 1 (iI (tx (2 + 3 * j + 1) - 48))) := fr_si _ _ _ (by simp)
          by_cases c3 : 0 ≤ tx (2 + 3 * j + 1) - 48 ∧ tx (2 + 3 * j + 1) - 48 < n ∧ w (6 * a + (tx (2 + 3 * j + 1) - 48).toNat) = -9
          · obtain ⟨b, hb⟩ : ∃ b : Nat, tx (2 + 3 * j + 1) - 48 = (b : Int) := ⟨(tx (2 + 3 * j + 1) - 48).toNat, by omega⟩
            have hw9 : w (6 * a + b) = -9 := by have := c3.2.2; rw [hb] at this; exact this
            have hbn : b < n := by omega
            have hgo1 := c_go hL hlt1 (hc1T _ hlt1) (ht1.1 c3)
            rw [hb] at f1 hgo1
            have hN2 : tN (tr_si hc1 12 1 (iI b)) 4 n w := tN_fr (fr_si (L := [12]) _ _ _ (by simp)) (by simp) (by simp) hN1
            have hc2T : ∀ k, k < L → (tr_si hc1 12 1 (iI b)).1 1 k = iI (tx k) := fun k hk => by rw [si_c _ _ _ (by decide)]; exact hc1T k hk
            have h12b : (tr_si hc1 12 1 (iI b)).1 12 0 = iI a := by rw [si_n _ _ _ (by decide)]; exact h12
            have h13b : (tr_si hc1 12 1 (iI b)).1 12 1 = iI b := si_s _ _ _ _
            generalize tr_si hc1 12 1 (iI b) = hc2 at f1 hgo1 hN2 hc2T h12b h13b
            have hthird := rw_third hL hx hT hp hM hj hlt1 hP ha han hno hb hbn hw9
            have f01 : fr [4, 5, 12] hc hc2 := fr_tr f0 f1
            by_cases c4 : 2 + 3 * j + 2 = L
            · obtain ⟨hm', r1, r2⟩ := r_stop hT hp hlt hL (hthird.1 (Or.inl c4))
              refine ⟨.inl hc2, .inr (iI (2 + 3 * j + 2 : Nat), hm'), ?_, r1, ?_⟩
              · rw [hgo, hgo1, show 2 + 3 * j + 1 + 1 = L by omega]
                exact c_end hL
              · rw [c4]
                exact rdOk_short hL (by omega) f01 r2
            · have hlt2 : 2 + 3 * j + 2 < L := by omega
              have ht2 := c_take2 hN2 (j := j) (by omega) han hbn h12b h13b (hx _ hlt2)
              by_cases c5 : 0 ≤ tx (2 + 3 * j + 2) - 48 ∧ tx (2 + 3 * j + 2) - 48 ≤ 9
              · obtain ⟨hm', k1, k2, k3, k4, k5⟩ := hthird.2 ⟨hlt2, c5.1, c5.2⟩
                have hgo2 := c_go hL hlt2 (hc2T _ hlt2) (ht2.1 c5)
                have hN3 := tN_up hN2 (a := a) (b := b) (v := tx (2 + 3 * j + 2) - 48) han hbn (Or.inr c5)
                have f2 : fr [4, 5, 12] hc2 (tr_sa hc2 (4 + 1) (upd (hc2.1 (4 + 1)) (6 * a + b) (iI (tx (2 + 3 * j + 2) - 48)))) := fr_sa _ _ (by simp)
                obtain ⟨sc, sr, u1, u2, u3⟩ := ih (d - 3) (by omega) (j + 1) n _ _ hm' (by omega) (by omega) hN3 (fun k hk => by rw [tr_sa_ne _ _ (by decide)]; exact hc2T k hk) k5 (txM_g k2 hT) (by rw [k3]; rfl) k4
                refine ⟨sc, sr, ?_, ?_, rdOk_mono (fr_tr f01 f2) k2 u3⟩
                · rw [hgo, hgo1, show 2 + 3 * j + 1 + 1 = 2 + 3 * j + 2 by omega, hgo2, show 2 + 3 * j + 2 + 1 = 2 + 3 * (j + 1) by omega]
                  exact u1
                · rw [r_go hT hp hlt hL k1]
                  exact u2
              · obtain ⟨hm', r1, r2⟩ := r_stop hT hp hlt hL (hthird.1 (Or.inr ⟨hlt2, c5⟩))
                refine ⟨_, .inr (iI (2 + 3 * j + 2 : Nat), hm'), ?_, r1, rdOk_stop (by omega) f01 r2⟩
                rw [hgo, hgo1, show 2 + 3 * j + 1 + 1 = 2 + 3 * j + 2 by omega]
                exact c_stop hL hlt2 (hc2T _ hlt2) (ht2.2 c5)
          · obtain ⟨hm', r1, r2⟩ := r_stop hT hp hlt hL (rw_second hL hx hT hp hM hj hlt hP ha han hno (Or.inr ⟨hlt1, c3⟩))
            refine ⟨_, .inr (iI (2 + 3 * j + 1 : Nat), hm'), ?_, r1, rdOk_stop (by omega) (fr_tr f0 f1) r2⟩
            rw [hgo]
            exact c_stop hL hlt1 (hc1T _ hlt1) (ht1.2 c3)
      · have hs : stopAt hm (2 + 3 * j) := by
          by_cases c2 : 0 ≤ tx (2 + 3 * j) - 48 ∧ tx (2 + 3 * j) - 48 < n
          · obtain ⟨a, ha⟩ : ∃ a : Nat, tx (2 + 3 * j) - 48 = (a : Int) := ⟨(tx (2 + 3 * j) - 48).toNat, by omega⟩
            refine (rw_pre hL hx hT hp hM hj hlt hP ha (by omega)).1 ?_
            apply Classical.byContradiction
            intro q
            refine c1 ⟨?_, c2.1, c2.2, ?_⟩
            · have : j ≠ 12 := fun e => q (Or.inl e)
              omega
            · intro e
              rw [ha] at e
              exact q (Or.inr e)
          · exact rw_first hL hx hT hp hlt hP c2
        obtain ⟨hm', r1, r2⟩ := r_stop hT hp hlt hL hs
        exact ⟨_, .inr (iI (2 + 3 * j : Nat), hm'), c_stop hL hlt (hcT _ hlt) (ht0.2 c1), r1, rdOk_stop (by omega) f0 r2⟩
/-- the whole text -/
theorem rd_all {L : Nat} {tx : Nat → Int} (hL : L ≤ 64) (hx : ∀ k, k < L → 0 ≤ tx k ∧ tx k ≤ 255) {hc hm : tr_H} (hcT : ∀ k, k < L → hc.1 1 k = iI (tx k)) (hT : txM hm L tx) : ∃ r hc' hm', f_X3_read (iI L) 4 hc = some (iI r, hc') ∧ f_X8_readNet hm = some (iI r, hm') ∧ fr [4, 5, 12] hc hc' ∧ gR hm hm' ∧ (-9 ≤ r ∧ r ≤ 64) ∧ (r = -9 → ∃ n w, tN hc' 4 n w ∧ tP hm' 2 n w) := by
  -- the class's net is begun, the reference's page is wiped
  obtain ⟨c1, b1, b2, b3⟩ := n_begin hc (v := 1) (by omega) (by omega)
  have hc1T : ∀ k, k < L → c1.1 1 k = iI (tx k) := fun k hk => by rw [b2.1 1 (by decide)]; exact hcT k hk
  obtain ⟨m1, w1, w2, w3⟩ := tr_inv (f := fun q => f_X8_readNet_L2 q.1 q.2) (fun m s => ∃ h1, s = (iI m, h1) ∧ gR hm h1 ∧ ∀ k, k < m → h1.1 2 k = 0) (fun h1 => gR hm h1 ∧ ∀ k, k < 37 → h1.1 2 k = 0) (hi := 37) (by
    rintro m s hm37 ⟨h1, rfl, g1, g2⟩
    refine ⟨(iI (m + 1 : Nat), tr_si h1 2 m 0), ?_, _, rfl, gR_tr g1 (gR_2 _ _ _), fun k hk => ?_⟩
    · show f_X8_readNet_L2 (iI m) h1 = _
      unfold f_X8_readNet_L2
      rw [if_neg (by rw [iI_37, iI_le (by omega) (by omega) (by omega) (by omega)]; omega), tr_gdI (by omega) (by omega) (by omega)]
      simp only [tr_bd]
      rw [iI_ix (by omega), iI_1, iI_add]
      rfl
    · by_cases e : k = m
      · rw [e, si_s]
      · rw [si_n _ _ _ e]; exact g2 k (by omega)) (by
    rintro s ⟨h1, rfl, g1, g2⟩
    exact ⟨h1, rfl, g1, g2⟩) 0 (iI (0 : Nat), hm) (by omega) ⟨hm, rfl, gR_rf _, fun k hk => by omega⟩
  obtain ⟨m2, em2⟩ : ∃ m2, m2 = tr_si m1 0 4 0 := ⟨_, rfl⟩
  have g2 : gR hm m2 := by rw [em2]; exact gR_tr w2 (gR_0 _ _ (Or.inr rfl))
  have hT2 := txM_g g2 hT
  have z2 : ∀ k, k < 37 → m2.1 2 k = 0 := fun k hk => by rw [em2, si_c _ _ _ (by decide)]; exact w3 k hk
  have r4 : m2.1 0 4 = 0 := by rw [em2, si_s]
  have hR : f_X8_readNet hm = if (m2.1 0 2) = 0 then some (0, m2) else if (m2.1 1 0) = 78 then (tr_b2 (f_X8_figure 6 (tr_si m2 0 3 1)) fun tv7 th8 => if 1 ≤ tv7 then (tr_bn (tr_lp (fun q => f_X8_readNet_L72 q) (tr_si th8 2 0 tv7)) (fun q => Sum.elim (fun x => f_X8_readNet_E95 x) (fun x => some x) q)) else some (1, th8)) else some (0, m2) := by
    unfold f_X8_readNet
    rw [show ((0 : Int32), hm) = (iI (0 : Nat), hm) from rfl, w1, tr_bn_some]
    unfold f_X8_readNet_E21
    simp only [tr_bd]
    rw [← em2]
    rfl
  have hC : f_X3_read (iI L) 4 hc = tr_bn (tr_lp (fun q => f_X3_read_L8 (iI L) 4 q.1 q.2) (iI (0 : Nat), c1)) (fun q => Sum.elim (fun x => f_X3_read_E44 (iI L) x) (fun x => some x) q) := by
    unfold f_X3_read
    rw [iI_1, b1, tr_bn_some]
    rfl
  by_cases c0 : L = 0
  · refine ⟨0, c1, m2, ?_, ?_, b2, g2, by omega, fun q => by omega⟩
    · rw [hC]
      subst c0
      rw [c_end (h := c1) hL, tr_bn_some]
      show f_X3_read_E44 (iI (0 : Nat)) c1 = _
      rw [c_E44 hL, if_neg (by omega)]
      rfl
    · rw [hR, if_pos (by rw [hT2.1, c0]; rfl)]
      rfl
  · have hl0 : 0 < L := by omega
    have h0 := hx 0 hl0
    have t0 : (tx 0 = 78 → f_X3_takes (iI (0 : Nat)) (iI (tx 0)) 4 c1 = some (1, c1)) ∧ (tx 0 ≠ 78 → f_X3_takes (iI (0 : Nat)) (iI (tx 0)) 4 c1 = some (0, c1)) := by
      unfold f_X3_takes
      simp only [tr_bd]
      rw [if_pos (show iI (0 : Nat) = 0 from rfl)]
      constructor
      · intro q
        rw [if_pos (by rw [q]; rfl)]
      · intro q
        rw [if_neg (by rw [iI_78, iI_eq (by omega) (by omega) (by omega) (by omega)]; exact q)]
    have n0 : ¬ m2.1 0 2 = 0 := by rw [hT2.1, iI_0, iI_eq (by omega) (by omega) (by omega) (by omega)]; omega
    by_cases c78 : tx 0 = 78
    · have s0 := c_go (h := c1) hL hl0 (hc1T 0 hl0) (t0.1 c78)
      have hR2 : f_X8_readNet hm = tr_b2 (f_X8_figure (iI 6) (tr_si m2 0 3 (iI (1 : Nat)))) fun tv7 th8 => if 1 ≤ tv7 then (tr_bn (tr_lp (fun q => f_X8_readNet_L72 q) (tr_si th8 2 0 tv7)) (fun q => Sum.elim (fun x => f_X8_readNet_E95 x) (fun x => some x) q)) else some (1, th8) := by
        rw [hR, if_neg n0, if_pos (by rw [hT2.2 0 hl0, c78]; rfl)]
        rfl
      have g3 : gR hm (tr_si m2 0 3 (iI (1 : Nat))) := gR_tr g2 (gR_0 _ _ (Or.inl rfl))
      have hT3 := txM_g g3 hT
      have p3 : (tr_si m2 0 3 (iI (1 : Nat))).1 0 3 = iI (1 : Nat) := si_s _ _ _ _
      have r3 : (tr_si m2 0 3 (iI (1 : Nat))).1 0 4 = 0 := by rw [si_n _ _ _ (by decide)]; exact r4
      have z3 : ∀ k, k < 37 → (tr_si m2 0 3 (iI (1 : Nat))).1 2 k = 0 := fun k hk => by rw [si_c _ _ _ (by decide)]; exact z2 k hk
      generalize tr_si m2 0 3 (iI (1 : Nat)) = m3 at hR2 g3 hT3 p3 r3 z3
      by_cases c1L : L = 1
      · subst c1L
        refine ⟨1, c1, m3, ?_, ?_, b2, g3, by omega, fun q => by omega⟩
        · rw [hC, s0, c_end (h := c1) hL, tr_bn_some]
          show f_X3_read_E44 (iI (1 : Nat)) c1 = _
          rw [c_E44 hL, if_neg (by omega)]
          rfl
        · rw [hR2, r_fig_end hT3 p3, tr_b2_some, if_neg (by decide)]
          rfl
      · have hl1 : 1 < L := by omega
        have h1 := hx 1 hl1
        obtain ⟨c2, d1, d2, d3⟩ := n_begin c1 (v := tx 1 - 48) (by omega) (by omega)
        have hc2T : ∀ k, k < L → c2.1 1 k = iI (tx k) := fun k hk => by rw [d2.1 1 (by decide)]; exact hc1T k hk
        have t1 : f_X3_takes (iI (1 : Nat)) (iI (tx 1)) 4 c1 = if iI (tx 1 - 48) < 1 then some (0, c2) else if 6 < iI (tx 1 - 48) then some (0, c2) else some (1, c2) := by
          unfold f_X3_takes
          simp only [tr_bd]
          rw [if_neg (show ¬ iI (1 : Nat) = 0 by decide), if_pos (show iI (1 : Nat) = 1 from rfl), iI_48, iI_sub, d1, tr_bn_some]
        by_cases cok : 1 ≤ tx 1 - 48 ∧ tx 1 - 48 ≤ 6
        · obtain ⟨n, hn⟩ : ∃ n : Nat, tx 1 - 48 = (n : Int) := ⟨(tx 1 - 48).toNat, by omega⟩
          rw [if_neg (by rw [iI_1, iI_lt (by omega) (by omega) (by omega) (by omega)]; omega), if_neg (by rw [iI_6, iI_lt (by omega) (by omega) (by omega) (by omega)]; omega)] at t1
          have s1 := c_go (h := c1) hL hl1 (hc1T 1 hl1) t1
          rw [hn, show (max 1 (min 6 (n : Int))).toNat = n by omega] at d3
          have hf := r_fig_yes (mo := 6) (P := 1) hL h1 (by omega) hT3 p3 hl1 (by omega)
          rw [hn] at hf
          obtain ⟨m4, em4⟩ : ∃ m4, m4 = tr_si (tr_si m3 0 3 (iI (1 + 1 : Nat))) 2 0 (iI n) := ⟨_, rfl⟩
          have g4 : gR hm m4 := by rw [em4]; exact gR_tr g3 (gR_tr (gR_0 _ _ (Or.inl rfl)) (gR_2 _ _ _))
          have hP4 : tP m4 2 n (fun _ => -9) := by
            rw [em4]
            refine ⟨Or.inl rfl, d3.2.1, by rw [si_s], fun c hc => ?_⟩
            rw [si_n _ _ _ (by omega), si_c _ _ _ (by decide), z3 _ (by omega)]
            rfl
          obtain ⟨sc, sr, u1, u2, u3⟩ := rd_loop hL hx (L - 2) 0 n _ c2 m4 (by omega) (by omega) d3 hc2T hP4 (txM_g g4 hT) (by rw [em4, si_c _ _ _ (by decide), si_s]) (by rw [em4, si_c _ _ _ (by decide), si_n _ _ _ (by decide), r3]; rfl)
          obtain ⟨r, a, b, v1, v2, v3, v4, v5, v6⟩ := rdOk_mono (fr_tr b2 d2) g4 u3
          refine ⟨r, a, b, ?_, ?_, v3, v4, v5, v6⟩
          · rw [hC, s0, s1, show 1 + 1 = 2 + 3 * 0 from rfl, u1, tr_bn_some]
            exact v1
          · rw [hR2, hf, tr_b2_some, if_pos (by rw [iI_1, iI_le (by omega) (by omega) (by omega) (by omega)]; omega), ← em4, u2, tr_bn_some]
            exact v2
        · have tst : f_X3_takes (iI (1 : Nat)) (iI (tx 1)) 4 c1 = some (0, c2) := by
            rw [t1]
            by_cases q : tx 1 - 48 < 1
            · rw [if_pos (by rw [iI_1, iI_lt (by omega) (by omega) (by omega) (by omega)]; omega)]
            · rw [if_neg (by rw [iI_1, iI_lt (by omega) (by omega) (by omega) (by omega)]; omega), if_pos (by rw [iI_6, iI_lt (by omega) (by omega) (by omega) (by omega)]; omega)]
          have s1 := c_stop (h := c1) hL hl1 (hc1T 1 hl1) tst
          have hfin : ∃ m5, f_X8_readNet hm = some (1, m5) ∧ gR hm m5 := by
            by_cases q : 0 ≤ tx 1 - 48 ∧ tx 1 - 48 ≤ 6
            · have hf := r_fig_yes (mo := 6) (P := 1) hL h1 (by omega) hT3 p3 hl1 q
              refine ⟨tr_si m3 0 3 (iI (1 + 1 : Nat)), ?_, gR_tr g3 (gR_0 _ _ (Or.inl rfl))⟩
              rw [hR2, hf, tr_b2_some, if_neg (by rw [iI_1, iI_le (by omega) (by omega) (by omega) (by omega)]; omega)]
            · refine ⟨m3, ?_, g3⟩
              rw [hR2, r_fig_no (mo := 6) (P := 1) hL h1 (by omega) hT3 p3 hl1 q, tr_b2_some, if_neg (by decide)]
          obtain ⟨m5, q1, q2⟩ := hfin
          refine ⟨1, c2, m5, ?_, q1, fr_tr b2 d2, q2, by omega, fun q => by omega⟩
          rw [hC, s0, s1, tr_bn_some]
          rfl
    · refine ⟨0, c1, m2, ?_, ?_, b2, g2, by omega, fun q => by omega⟩
      · rw [hC, c_stop (h := c1) hL hl0 (hc1T 0 hl0) (t0.2 c78), tr_bn_some]
        rfl
      · rw [hR, if_neg n0, if_neg (by rw [hT2.2 0 hl0, iI_78, iI_eq (by omega) (by omega) (by omega) (by omega)]; exact c78)]
        rfl
end
section
/-! what holds between the two heaps of numbers, between calls -/
theorem ex_iI (x : Int32) : ∃ v : Int, (-2147483648 ≤ v ∧ v < 2147483648) ∧ x = iI v := ⟨x.toInt, ⟨iI_lo _, iI_hi _⟩, iI_to _⟩
def bkP (h : tr_H) (cl o n : Nat) (w : Nat → Int) : Prop := h.1 cl o = iI n ∧ ∀ c, c < 36 → h.1 cl (o + (1 + c)) = iI (cvn (w c))
def dgs (hx hm : tr_H) (n : Nat) (w : Nat → Int) (D : Nat) (W : Nat → Nat → Int) : Prop :=
  D ≤ 14 ∧ hx.1 13 3 = iI D ∧ hm.1 0 9 = iI D ∧ W D = w ∧ ∀ k, k < D → okn n (W k) ∧ (∃ a b, a < n ∧ b < n ∧ hx.1 14 k = iI a ∧ hx.1 15 k = iI b ∧ hx.1 16 k = iI (W k (6 * a + b)) ∧ W k = wup (W (k + 1)) (6 * a + b) (W k (6 * a + b))) ∧ bkP hm 5 (37 * k) n (W k)
def slo (hx hm : tr_H) : Prop := ∀ s, s < 2 → hm.1 7 s = hx.1 11 s ∧ (hx.1 11 s = 0 ∨ (hx.1 11 s = 1 ∧ ∃ n w, tN hx (6 + 2 * s) n w ∧ bkP hm 6 (37 * s) n w))
def sen (hx hm : tr_H) (Z : Nat) : Prop := Z ≤ 6 ∧ hx.1 17 3 = iI Z ∧ hm.1 0 12 = iI Z ∧ ∀ k, k < Z → ∃ a r q : Nat, (a < 6 ∧ 1 ≤ r ∧ r ≤ 9 ∧ q ≤ 1) ∧ (hx.1 18 k = iI a ∧ hx.1 19 k = iI r ∧ hx.1 20 k = iI q) ∧ hm.1 8 k = iI a ∧ hm.1 9 k = iI r ∧ hm.1 10 k = iI q
def txt (hx hm : tr_H) (L : Nat) (tx : Nat → Int) : Prop := (L ≤ 64 ∧ ∀ k, k < L → 0 ≤ tx k ∧ tx k ≤ 255) ∧ (hx.1 0 11 = iI L ∧ ∀ k, k < L → hx.1 1 k = iI (tx k)) ∧ txM hm L tx
def Rl (hx hm : tr_H) : Prop := (∃ n w, (tN hx 2 n w ∧ tP hm 3 n w) ∧ ∃ D W, dgs hx hm n w D W) ∧ (∃ L tx, txt hx hm L tx) ∧ slo hx hm ∧ (∃ Z, sen hx hm Z) ∧ hx.2 0 12 = hm.2 0 16
/-! cells that only one call uses -/
def LX : List Nat := [4, 5, 12, 21, 22, 23, 24, 25, 26, 27, 28, 29, 30]
def gM (h h' : tr_H) : Prop := (∀ c, c ∉ [0, 2, 4, 11, 12, 13, 14, 15, 16] → h'.1 c = h.1 c) ∧ (∀ k, k = 2 ∨ k = 9 ∨ k = 12 → h'.1 0 k = h.1 0 k) ∧ h'.2 0 16 = h.2 0 16
theorem gM_rf (h : tr_H) : gM h h := ⟨fun _ _ => rfl, fun _ _ => rfl, rfl⟩
theorem gM_tr {a b c : tr_H} (h1 : gM a b) (h2 : gM b c) : gM a c := ⟨fun k hk => (h2.1 k hk).trans (h1.1 k hk), fun k hk => (h2.2.1 k hk).trans (h1.2.1 k hk), h2.2.2.trans h1.2.2⟩
theorem gM_R {a b : tr_H} (h : mR a b) : gM a b := ⟨fun c hc => h.1 c (by rintro rfl; simp at hc) (by rintro rfl; simp at hc) (by rintro rfl; simp at hc), fun k hk => h.2.1 k (by omega) (by omega) (by omega) (by omega), h.2.2 0 16 (by omega)⟩
theorem gM_g {a b : tr_H} (h : gR a b) : gM a b := ⟨fun c hc => h.1 c (by rintro rfl; simp at hc) (by rintro rfl; simp at hc), fun k hk => h.2.1 k (by omega) (by omega), by rw [h.2.2]⟩
theorem gM_f {L : List Nat} {a b : tr_H} (h : fr L a b) (h0 : 0 ∉ L) (hL : ∀ x, x ∈ L → x ∈ [0, 2, 4, 11, 12, 13, 14, 15, 16]) : gM a b := ⟨fun c hc => h.1 c (fun q => hc (hL c q)), fun k _ => by rw [h.1 0 h0], by rw [h.2]⟩
theorem gM_0 (h : tr_H) {k : Nat} (v : Int32) (hk : k = 0 ∨ k = 3 ∨ k = 4 ∨ (17 ≤ k ∧ k ≤ 22) ∨ k = 28 ∨ k = 29) : gM h (tr_si h 0 k v) := ⟨fun c hc => si_c _ _ _ (by rintro rfl; simp at hc), fun j hj => si_n _ _ _ (by omega), rfl⟩
theorem tP_M {h h' : tr_H} {n : Nat} {w : Nat → Int} (hg : gM h h') (hP : tP h 3 n w) : tP h' 3 n w := by
  obtain ⟨a, b, c, d⟩ := hP
  exact ⟨a, b, by rw [hg.1 3 (by decide)]; exact c, fun k hk => by rw [hg.1 3 (by decide)]; exact d k hk⟩
theorem dgs_c {hx hx' hm hm' : tr_H} {n : Nat} {w : Nat → Int} {D : Nat} {W : Nat → Nat → Int} (e1 : hx'.1 13 = hx.1 13) (e2 : hx'.1 14 = hx.1 14) (e3 : hx'.1 15 = hx.1 15) (e4 : hx'.1 16 = hx.1 16) (e5 : hm'.1 0 9 = hm.1 0 9) (e6 : hm'.1 5 = hm.1 5) (h : dgs hx hm n w D W) : dgs hx' hm' n w D W := by
  unfold dgs bkP at h ⊢
  rw [e1, e2, e3, e4, e5, e6]
  exact h
theorem slo_c {hx hx' hm hm' : tr_H} (e0 : hx'.1 11 = hx.1 11) (e1 : hx'.1 6 = hx.1 6) (e2 : hx'.1 7 = hx.1 7) (e3 : hx'.1 8 = hx.1 8) (e4 : hx'.1 9 = hx.1 9) (e5 : hm'.1 7 = hm.1 7) (e6 : hm'.1 6 = hm.1 6) (h : slo hx hm) : slo hx' hm' := by
  intro s hs
  obtain ⟨h1, h2⟩ := h s hs
  rw [e0, e5]
  refine ⟨h1, h2.imp id ?_⟩
  rintro ⟨h3, n, w, h4, h5⟩
  refine ⟨h3, n, w, ?_, by unfold bkP at h5 ⊢; rw [e6]; exact h5⟩
  have q1 : hx'.1 (6 + 2 * s) = hx.1 (6 + 2 * s) ∧ hx'.1 (6 + 2 * s + 1) = hx.1 (6 + 2 * s + 1) := by
    rcases (show s = 0 ∨ s = 1 by omega) with rfl | rfl
    · exact ⟨e1, e2⟩
    · exact ⟨e3, e4⟩
  obtain ⟨a, b, c, d⟩ := h4
  exact ⟨a, b, by rw [q1.1]; exact c, fun k hk => by rw [q1.2]; exact d k hk⟩
theorem sen_c {hx hx' hm hm' : tr_H} {Z : Nat} (e1 : hx'.1 17 = hx.1 17) (e2 : hx'.1 18 = hx.1 18) (e3 : hx'.1 19 = hx.1 19) (e4 : hx'.1 20 = hx.1 20) (e5 : hm'.1 0 12 = hm.1 0 12) (e6 : hm'.1 8 = hm.1 8) (e7 : hm'.1 9 = hm.1 9) (e8 : hm'.1 10 = hm.1 10) (h : sen hx hm Z) : sen hx' hm' Z := by
  unfold sen at h ⊢
  rw [e1, e2, e3, e4, e5, e6, e7, e8]
  exact h
theorem txt_c {hx hx' hm hm' : tr_H} {L : Nat} {tx : Nat → Int} (e1 : hx'.1 0 11 = hx.1 0 11) (e2 : hx'.1 1 = hx.1 1) (e3 : hm'.1 0 2 = hm.1 0 2) (e4 : hm'.1 1 = hm.1 1) (h : txt hx hm L tx) : txt hx' hm' L tx := by
  unfold txt txM at h ⊢
  rw [e1, e2, e3, e4]
  exact h
/-- a call that leaves all but its own cells -/
theorem Rl_fr {hx gx hm gm : tr_H} (f1 : fr LX hx gx) (f2 : gM hm gm) (h : Rl hx hm) : Rl gx gm := by
  obtain ⟨⟨n, w, ⟨h1, h2⟩, D, W, h3⟩, ⟨L, tx, h4⟩, h5, ⟨Z, h6⟩, h7⟩ := h
  have c := fun (k : Nat) (hk : k ∉ LX) => f1.1 k hk
  have m := fun (k : Nat) (hk : k ∉ [0, 2, 4, 11, 12, 13, 14, 15, 16]) => f2.1 k hk
  refine ⟨⟨n, w, ⟨tN_fr f1 (by decide) (by decide) h1, tP_M f2 h2⟩, D, W, dgs_c (c 13 (by decide)) (c 14 (by decide)) (c 15 (by decide)) (c 16 (by decide)) (f2.2.1 9 (by omega)) (m 5 (by decide)) h3⟩, ⟨L, tx, txt_c (by rw [c 0 (by decide)]) (c 1 (by decide)) (f2.2.1 2 (by omega)) (m 1 (by decide)) h4⟩, slo_c (c 11 (by decide)) (c 6 (by decide)) (c 7 (by decide)) (c 8 (by decide)) (c 9 (by decide)) (m 7 (by decide)) (m 6 (by decide)) h5, ⟨Z, sen_c (c 17 (by decide)) (c 18 (by decide)) (c 19 (by decide)) (c 20 (by decide)) (f2.2.1 12 (by omega)) (m 8 (by decide)) (m 9 (by decide)) (m 10 (by decide)) h6⟩, ?_⟩
  rw [f1.2, f2.2.2]
  exact h7
theorem Rl_0 {hx hm : tr_H} (h : Rl hx hm) : Rl hx (tr_si hm 0 0 0) := Rl_fr (fr_rf _ _) (gM_0 _ _ (by omega)) h
theorem Rl_net {hx hm : tr_H} (h : Rl hx hm) : ∃ n w, tN hx 2 n w ∧ tP hm 3 n w := by
  obtain ⟨⟨n, w, h1, -⟩, -⟩ := h
  exact ⟨n, w, h1⟩
/-! small rows -/
theorem r_inv {v : Int} (hv : -2147483648 ≤ v ∧ v < 2147483648) (a b : Int64) : f_X8_in ((iI v : Int32).toInt64) a b = some (if a.toInt ≤ v ∧ v ≤ b.toInt then 1 else 0) := by
  rw [r_in, Int32.toInt_toInt64, iI_in hv.1 hv.2]
theorem r_nod {h : tr_H} {n : Nat} {w : Nat → Int} (hP : tP h 3 n w) {v : Int} (hv : -2147483648 ≤ v ∧ v < 2147483648) : f_X8_noDeparture (iI v) h = some (if 0 ≤ v ∧ v < n then 0 else 1) := by
  rw [r_noDep hP, iI_in hv.1 hv.2]
theorem i64_0 : (0 : Int64).toInt = 0 := by decide
theorem i64_1 : (1 : Int64).toInt = 1 := by decide
theorem i64_4 : (4 : Int64).toInt = 4 := by decide
theorem i64_9 : (9 : Int64).toInt = 9 := by decide
theorem i64_10 : (10 : Int64).toInt = 10 := by decide
theorem i64_20 : (20 : Int64).toInt = 20 := by decide
theorem i64_30 : (30 : Int64).toInt = 30 := by decide
theorem i64_40 : (40 : Int64).toInt = 40 := by decide
theorem i64_255 : (255 : Int64).toInt = 255 := by decide
theorem n10 : ¬ (1 : Int32) = 0 := by decide
/-! the calls, one by one: the text -/
theorem s_write : ∀ (v0 : Int32) (hx hm : tr_H), Rl hx hm → ∃ (r0 : Int32) (gx gm : tr_H), f_X7_write v0 hx = some (r0, gx) ∧ f_X8_write v0 hm = some (r0, gm) ∧ Rl gx gm := by
  intro v0 hx hm hR
  obtain ⟨v, hv, rfl⟩ := ex_iI v0
  have hR0 := Rl_0 hR
  obtain ⟨m0, em0⟩ : ∃ m0, m0 = tr_si hm 0 0 0 := ⟨_, rfl⟩
  have hin := r_inv hv 0 255
  rw [i64_0, i64_255] at hin
  unfold f_X7_write f_X8_write
  simp only [tr_bd]
  rw [← em0, hin, tr_bn_some]
  rw [← em0] at hR0
  by_cases c : 0 ≤ v ∧ v ≤ 255
  · obtain ⟨k1, ⟨L, tx, ⟨⟨t1, t2⟩, ⟨t3, t4⟩, t5, t6⟩⟩, k3, k4, k5⟩ := hR0
    rw [if_pos c, if_neg n10, if_neg (show ¬ iI v < 0 by rw [iI_0, iI_lt (by omega) (by omega) (by omega) (by omega)]; omega), if_pos (show iI v ≤ 255 by rw [iI_255, iI_le (by omega) (by omega) (by omega) (by omega)]; omega), t3, t5, if_neg (show ¬ iI (L : Int) < 0 by rw [iI_0, iI_lt (by omega) (by omega) (by omega) (by omega)]; omega)]
    by_cases c2 : L < 64
    · rw [if_pos (show iI (L : Int) < 64 by rw [iI_64, iI_lt (by omega) (by omega) (by omega) (by omega)]; omega), if_neg (show ¬ iI (L : Int) = 64 by rw [iI_64, iI_eq (by omega) (by omega) (by omega) (by omega)]; omega), tr_gdI (by omega) (by omega) (by omega), tr_gdI (by omega) (by omega) (by omega), iI_ix (by omega), si_c _ _ _ (show (0 : Nat) ≠ 1 by decide), si_c _ _ _ (show (0 : Nat) ≠ 1 by decide), t3, t5, iI_1, iI_add, si_s, si_s, show (L : Int) + 1 = ((L + 1 : Nat) : Int) from rfl]
      refine ⟨_, _, _, rfl, rfl, ?_⟩
      obtain ⟨n, w, ⟨h1, h2⟩, D, W, h3⟩ := k1
      obtain ⟨Z, k4⟩ := k4
      refine ⟨⟨n, w, ⟨?_, ?_⟩, D, W, dgs_c ?_ ?_ ?_ ?_ ?_ ?_ h3⟩, ⟨L + 1, fun k => if k = L then v else tx k, ⟨by omega, fun k hk => ?_⟩, ⟨by rw [si_s], fun k hk => ?_⟩, by rw [si_s], fun k hk => ?_⟩, slo_c ?_ ?_ ?_ ?_ ?_ ?_ ?_ k3, ⟨Z, sen_c ?_ ?_ ?_ ?_ ?_ ?_ ?_ ?_ k4⟩, k5⟩
      · exact tN_fr (L := [0, 1]) (fr_tr (fr_si _ _ _ (by simp)) (fr_si _ _ _ (by simp))) (by simp) (by simp) h1
      · exact tP_fr (L := [0, 1]) (fr_tr (fr_si _ _ _ (by simp)) (fr_si _ _ _ (by simp))) (by simp) h2
      all_goals first
        | (rw [si_c _ _ _ (by decide), si_c _ _ _ (by decide)]; done)
        | (rw [si_n _ _ _ (by decide), si_c _ _ _ (by decide)]; done)
        | (by_cases e : k = L
           · simp [e]; omega
           · have := t2 k (by omega); simp [e]; omega)
        | (rw [si_c _ _ _ (show (1 : Nat) ≠ 0 by decide)]
           by_cases e : k = L
           · rw [e, si_s]; simp
           · rw [si_n _ _ _ e]; simp only [e, if_false]; first | exact t4 k (by omega) | exact t6 k (by omega))
    · obtain rfl : L = 64 := by omega
      rw [if_neg (show ¬ iI ((64 : Nat) : Int) < 64 by decide), if_pos (show iI ((64 : Nat) : Int) = 64 from rfl)]
      exact ⟨_, _, _, rfl, rfl, k1, ⟨64, tx, ⟨t1, t2⟩, ⟨t3, t4⟩, t5, t6⟩, k3, k4, k5⟩
  · rw [if_neg c, if_pos rfl]
    refine ⟨-2, hx, m0, ?_, rfl, hR0⟩
    by_cases c2 : v < 0
    · rw [if_pos (show iI v < 0 by rw [iI_0, iI_lt (by omega) (by omega) (by omega) (by omega)]; omega)]
    · rw [if_neg (show ¬ iI v < 0 by rw [iI_0, iI_lt (by omega) (by omega) (by omega) (by omega)]; omega), if_neg (show ¬ iI v ≤ 255 by rw [iI_255, iI_le (by omega) (by omega) (by omega) (by omega)]; omega)]
theorem s_wipe : ∀ (hx hm : tr_H), Rl hx hm → ∃ (r0 : Int32) (gx gm : tr_H), f_X7_wipe hx = some (r0, gx) ∧ f_X8_wipe hm = some (r0, gm) ∧ Rl gx gm := by
  intro hx hm hR
  have hR0 := Rl_0 hR
  obtain ⟨m0, em0⟩ : ∃ m0, m0 = tr_si hm 0 0 0 := ⟨_, rfl⟩
  unfold f_X7_wipe f_X8_wipe
  simp only [tr_bd]
  rw [← em0]
  rw [← em0] at hR0
  obtain ⟨⟨n, w, ⟨h1, h2⟩, D, W, h3⟩, ⟨L, tx, ⟨⟨t1, t2⟩, ⟨t3, t4⟩, t5, t6⟩⟩, k3, ⟨Z, k4⟩, k5⟩ := hR0
  rw [t3, t5]
  refine ⟨_, _, _, rfl, rfl, ?_⟩
  refine ⟨⟨n, w, ⟨tN_fr (L := [0]) (fr_si _ _ _ (by simp)) (by simp) (by simp) h1, tP_fr (L := [0]) (fr_si _ _ _ (by simp)) (by simp) h2⟩, D, W, dgs_c ?_ ?_ ?_ ?_ ?_ ?_ h3⟩, ⟨0, tx, ⟨by omega, fun k hk => by omega⟩, ⟨by rw [si_s]; rfl, fun k hk => by omega⟩, by rw [si_s]; rfl, fun k hk => by omega⟩, slo_c ?_ ?_ ?_ ?_ ?_ ?_ ?_ k3, ⟨Z, sen_c ?_ ?_ ?_ ?_ ?_ ?_ ?_ ?_ k4⟩, k5⟩
  all_goals first
    | (rw [si_c _ _ _ (by decide)]; done)
    | (rw [si_n _ _ _ (by decide)]; done)
theorem s_fault : ∀ (hx hm : tr_H), Rl hx hm → ∃ (r0 : Int32) (gx gm : tr_H), f_X7_fault hx = some (r0, gx) ∧ f_X8_fault hm = some (r0, gm) ∧ Rl gx gm := by
  intro hx hm hR
  have hR0 := Rl_0 hR
  obtain ⟨m0, em0⟩ : ∃ m0, m0 = tr_si hm 0 0 0 := ⟨_, rfl⟩
  rw [← em0] at hR0
  obtain ⟨L, tx, ⟨⟨t1, t2⟩, ⟨t3, t4⟩, t5⟩⟩ := hR0.2.1
  obtain ⟨r, gx, gm, k1, k2, k3, k4, -⟩ := rd_all t1 t2 t4 t5
  refine ⟨iI r, gx, gm, ?_, ?_, Rl_fr (fr_up k3 (by decide)) (gM_g k4) hR0⟩
  · unfold f_X7_fault
    rw [t3, k1]
    rfl
  · unfold f_X8_fault
    simp only [tr_bd]
    rw [← em0, k2]
    rfl
theorem s_minutes : ∀ (v0 : Int32) (v1 : Int32) (hx hm : tr_H), Rl hx hm → ∃ (r0 : Int32) (_gx gm : tr_H), f_X7_minutes v0 v1 hx = some r0 ∧ f_X8_minutes v0 v1 hm = some (r0, gm) ∧ Rl hx gm := by
  intro v0 v1 hx hm hR
  obtain ⟨v, hv, rfl⟩ := ex_iI v0
  obtain ⟨u, hu, rfl⟩ := ex_iI v1
  have hR0 := Rl_0 hR
  obtain ⟨m0, em0⟩ : ∃ m0, m0 = tr_si hm 0 0 0 := ⟨_, rfl⟩
  rw [← em0] at hR0
  obtain ⟨n, w, hN, hP⟩ := Rl_net hR0
  have h6 := hN.2.1.2.1
  unfold f_X7_minutes f_X8_minutes
  simp only [tr_bd]
  rw [← em0, n_has hN hv.1 hv.2, n_has hN hu.1 hu.2, r_nod hP hv, r_nod hP hu, n_of hN hv.1 hv.2 hu.1 hu.2]
  simp only [tr_bn_some]
  by_cases c1 : 0 ≤ v ∧ v < n
  · by_cases c2 : 0 ≤ u ∧ u < n
    · obtain ⟨a, rfl⟩ : ∃ a : Nat, v = (a : Int) := ⟨v.toNat, by omega⟩
      obtain ⟨b, rfl⟩ : ∃ b : Nat, u = (b : Int) := ⟨u.toNat, by omega⟩
      rw [if_pos c1, if_pos c1, if_pos c2, if_pos c2, if_neg n10, if_neg n10, if_pos rfl, if_pos rfl, woI_in (by omega) (by omega), r_isThere hP (i := a) (j := b) (by omega) (by omega), tr_bn_some, r_minutesOf hP (i := a) (j := b) (by omega) (by omega), tr_bn_some]
      have b3 := cvn_b hN.2.1 (c := 6 * a + b) (by omega)
      refine ⟨_, hx, m0, rfl, ?_, hR0⟩
      by_cases c3 : w (6 * a + b) = -9
      · rw [if_pos c3, if_pos rfl, c3]
        rfl
      · rw [if_neg c3, if_neg n10, b3.2.2.2 c3, show w (6 * a + b) + 1 - 1 = w (6 * a + b) by omega]
    · rw [if_pos c1, if_pos c1, if_neg c2, if_neg c2, if_neg n10, if_pos rfl, if_pos rfl, if_neg n10]
      exact ⟨_, hx, m0, rfl, rfl, hR0⟩
  · rw [if_neg c1, if_neg c1, if_pos rfl, if_neg n10]
    exact ⟨_, hx, m0, rfl, rfl, hR0⟩
/-! what is seen, the seed -/
theorem s_see : ∀ (v0 : Int32) (v1 : Int32) (v2 : Int32) (hx hm : tr_H), Rl hx hm → ∃ (r0 : Int32) (gx gm : tr_H), f_X7_see v0 v1 v2 hx = some (r0, gx) ∧ f_X8_see v0 v1 v2 hm = some (r0, gm) ∧ Rl gx gm := by
  intro v0 v1 v2 hx hm hR
  obtain ⟨v, hv, rfl⟩ := ex_iI v0
  obtain ⟨u, hu, rfl⟩ := ex_iI v1
  obtain ⟨t, ht, rfl⟩ := ex_iI v2
  have hR0 := Rl_0 hR
  obtain ⟨m0, em0⟩ : ∃ m0, m0 = tr_si hm 0 0 0 := ⟨_, rfl⟩
  rw [← em0] at hR0
  obtain ⟨n, w, hN, hP⟩ := Rl_net hR0
  have h6 := hN.2.1.2.1
  have i1 := r_inv hu 1 9
  have i2 := r_inv ht 0 1
  rw [i64_1, i64_9] at i1
  rw [i64_0, i64_1] at i2
  unfold f_X7_see f_X8_see
  simp only [tr_bd]
  rw [← em0, n_has hN hv.1 hv.2, r_nod hP hv, i1, i2]
  simp only [tr_bn_some]
  by_cases c1 : 0 ≤ v ∧ v < n
  · rw [if_pos c1, if_pos c1, if_neg n10, if_pos rfl]
    by_cases c2 : 1 ≤ u ∧ u ≤ 9
    · rw [if_pos c2, if_neg n10, if_neg (show ¬ iI u < 1 by rw [iI_1, iI_lt (by omega) (by omega) (by omega) (by omega)]; omega), if_neg (show ¬ 9 < iI u by rw [iI_9, iI_lt (by omega) (by omega) (by omega) (by omega)]; omega)]
      by_cases c3 : 0 ≤ t ∧ t ≤ 1
      · rw [if_pos c3, if_neg n10, if_neg (show ¬ iI t < 0 by rw [iI_0, iI_lt (by omega) (by omega) (by omega) (by omega)]; omega), if_pos (show iI t ≤ 1 by rw [iI_1, iI_le (by omega) (by omega) (by omega) (by omega)]; omega)]
        obtain ⟨a, rfl⟩ : ∃ a : Nat, v = (a : Int) := ⟨v.toNat, by omega⟩
        obtain ⟨r, rfl⟩ : ∃ r : Nat, u = (r : Int) := ⟨u.toNat, by omega⟩
        obtain ⟨q, rfl⟩ : ∃ q : Nat, t = (q : Int) := ⟨t.toNat, by omega⟩
        have hR1 := hR0
        obtain ⟨⟨n', w', ⟨h1, h2⟩, D, W, h3⟩, ⟨L, tx, k2⟩, k3, ⟨Z, z1, z2, z3, z4⟩, k5⟩ := hR1
        unfold f_X5_add
        rw [z2, z3, if_neg (show ¬ iI (Z : Int) < 0 by rw [iI_0, iI_lt (by omega) (by omega) (by omega) (by omega)]; omega)]
        by_cases c4 : Z < 6
        · rw [if_pos (show iI (Z : Int) < 6 by rw [iI_6, iI_lt (by omega) (by omega) (by omega) (by omega)]; omega), if_neg (show ¬ iI (Z : Int) = 6 by rw [iI_6, iI_eq (by omega) (by omega) (by omega) (by omega)]; omega)]
          simp (disch := omega) only [tr_bd, tr_gdI, iI_ix, si_c, z2, z3]
          rw [tr_b2_some, if_neg n10, si_s, si_s, iI_1, iI_add]
          refine ⟨_, _, _, rfl, rfl, ?_⟩
          refine ⟨⟨n', w', ⟨tN_fr (L := [17, 18, 19, 20]) (fr_tr (fr_tr (fr_tr (fr_si _ _ _ (by simp)) (fr_si _ _ _ (by simp))) (fr_si _ _ _ (by simp))) (fr_si _ _ _ (by simp))) (by simp) (by simp) h1, tP_fr (L := [0, 8, 9, 10]) (fr_tr (fr_tr (fr_tr (fr_si _ _ _ (by simp)) (fr_si _ _ _ (by simp))) (fr_si _ _ _ (by simp))) (fr_si _ _ _ (by simp))) (by simp) h2⟩, D, W, dgs_c ?_ ?_ ?_ ?_ ?_ ?_ h3⟩, ⟨L, tx, txt_c ?_ ?_ ?_ ?_ k2⟩, slo_c ?_ ?_ ?_ ?_ ?_ ?_ ?_ k3, ⟨Z + 1, by omega, by rw [si_s]; rfl, by rw [si_s]; rfl, fun k hk => ?_⟩, k5⟩
          case refine_18 =>
            by_cases e : k = Z
            · subst e
              refine ⟨a, r, q, ⟨by omega, by omega, by omega, by omega⟩, ⟨?_, ?_, ?_⟩, ?_, ?_, ?_⟩
              all_goals simp (disch := decide) only [si_c, si_s]
            · obtain ⟨a', r', q', g1, ⟨g2, g3, g4⟩, g5, g6, g7⟩ := z4 k (by omega)
              refine ⟨a', r', q', g1, ⟨?_, ?_, ?_⟩, ?_, ?_, ?_⟩
              all_goals simp (disch := first | decide | exact e) only [si_c, si_n]
              all_goals assumption
          all_goals simp (disch := decide) only [si_c, si_n]
        · obtain rfl : Z = 6 := by omega
          rw [if_neg (show ¬ iI ((6 : Nat) : Int) < 6 by decide), if_pos (show iI ((6 : Nat) : Int) = 6 from rfl), tr_b2_some, if_pos rfl]
          exact ⟨_, _, _, rfl, rfl, hR0⟩
      · rw [if_neg c3, if_pos rfl]
        refine ⟨-2, hx, m0, ?_, rfl, hR0⟩
        by_cases c4 : t < 0
        · rw [if_pos (show iI t < 0 by rw [iI_0, iI_lt (by omega) (by omega) (by omega) (by omega)]; omega)]
        · rw [if_neg (show ¬ iI t < 0 by rw [iI_0, iI_lt (by omega) (by omega) (by omega) (by omega)]; omega), if_neg (show ¬ iI t ≤ 1 by rw [iI_1, iI_le (by omega) (by omega) (by omega) (by omega)]; omega)]
    · rw [if_neg c2, if_pos rfl]
      refine ⟨-2, hx, m0, ?_, rfl, hR0⟩
      by_cases c4 : u < 1
      · rw [if_pos (show iI u < 1 by rw [iI_1, iI_lt (by omega) (by omega) (by omega) (by omega)]; omega)]
      · rw [if_neg (show ¬ iI u < 1 by rw [iI_1, iI_lt (by omega) (by omega) (by omega) (by omega)]; omega), if_pos (show 9 < iI u by rw [iI_9, iI_lt (by omega) (by omega) (by omega) (by omega)]; omega)]
  · rw [if_neg c1, if_neg c1, if_pos rfl, if_neg n10]
    exact ⟨_, hx, m0, rfl, rfl, hR0⟩
theorem s_unsee : ∀ (hx hm : tr_H), Rl hx hm → ∃ (r0 : Int32) (gx gm : tr_H), f_X7_unsee hx = some (r0, gx) ∧ f_X8_unsee hm = some (r0, gm) ∧ Rl gx gm := by
  intro hx hm hR
  have hR0 := Rl_0 hR
  obtain ⟨m0, em0⟩ : ∃ m0, m0 = tr_si hm 0 0 0 := ⟨_, rfl⟩
  unfold f_X7_unsee f_X8_unsee
  simp only [tr_bd]
  rw [← em0]
  rw [← em0] at hR0
  obtain ⟨⟨n, w, ⟨h1, h2⟩, D, W, h3⟩, ⟨L, tx, k2⟩, k3, ⟨Z, z1, z2, z3, z4⟩, k5⟩ := hR0
  rw [z2, z3]
  refine ⟨_, _, _, rfl, rfl, ?_⟩
  refine ⟨⟨n, w, ⟨tN_fr (L := [17]) (fr_si _ _ _ (by simp)) (by simp) (by simp) h1, tP_fr (L := [0]) (fr_si _ _ _ (by simp)) (by simp) h2⟩, D, W, dgs_c ?_ ?_ ?_ ?_ ?_ ?_ h3⟩, ⟨L, tx, txt_c ?_ ?_ ?_ ?_ k2⟩, slo_c ?_ ?_ ?_ ?_ ?_ ?_ ?_ k3, ⟨0, by omega, by rw [si_s]; rfl, by rw [si_s]; rfl, fun k hk => by omega⟩, k5⟩
  all_goals simp (disch := decide) only [si_c, si_n]
theorem s_seed : ∀ (v0 : Int64) (hx hm : tr_H), Rl hx hm → ∃ (r0 : Int64) (gx gm : tr_H), f_X7_seed v0 hx = some (r0, gx) ∧ f_X8_seed v0 hm = some (r0, gm) ∧ Rl gx gm := by
  intro v0 hx hm hR
  have hR0 := Rl_0 hR
  obtain ⟨m0, em0⟩ : ∃ m0, m0 = tr_si hm 0 0 0 := ⟨_, rfl⟩
  unfold f_X7_seed f_X8_seed
  simp only [tr_bd]
  rw [← em0]
  rw [← em0] at hR0
  obtain ⟨k1, k2, k3, k4, k5⟩ := hR0
  rw [k5]
  refine ⟨_, _, _, rfl, rfl, k1, k2, k3, k4, ?_⟩
  rw [sl_s, sl_s]
end
section
/-! rows copied, doings, slots -/
theorem cpy {f : Int32 × tr_H → Option ((Int32 × tr_H) ⊕ tr_H)} {src dst so off N : Nat} (hne : src ≠ dst) (h : tr_H) (step : ∀ m h1, m < N → fr [dst] h h1 → f (iI m, h1) = some (.inl (iI (m + 1 : Nat), tr_si h1 dst (off + m) (h1.1 src (so + m))))) (ex : ∀ h1, fr [dst] h h1 → f (iI N, h1) = some (.inr h1)) : ∃ h', tr_lp f (iI (0 : Nat), h) = some h' ∧ fr [dst] h h' ∧ (∀ m, m < N → h'.1 dst (off + m) = h.1 src (so + m)) ∧ ∀ k, (k < off ∨ off + N ≤ k) → h'.1 dst k = h.1 dst k := by
  obtain ⟨r, k1, k2⟩ := tr_inv (f := f) (fun m s => ∃ h1, s = (iI m, h1) ∧ fr [dst] h h1 ∧ (∀ j, j < m → h1.1 dst (off + j) = h.1 src (so + j)) ∧ ∀ k, (k < off ∨ off + m ≤ k) → h1.1 dst k = h.1 dst k) (fun h1 => fr [dst] h h1 ∧ (∀ j, j < N → h1.1 dst (off + j) = h.1 src (so + j)) ∧ ∀ k, (k < off ∨ off + N ≤ k) → h1.1 dst k = h.1 dst k) (hi := N) (by
    rintro m s hm ⟨h1, rfl, f1, g1, g2⟩
    refine ⟨_, step m h1 hm f1, _, rfl, fr_tr f1 (fr_si _ _ _ (by simp)), fun j hj => ?_, fun k hk => ?_⟩
    · by_cases e : j = m
      · rw [e, si_s, f1.1 src (by simpa using hne)]
      · rw [si_n _ _ _ (by omega)]
        exact g1 j (by omega)
    · rw [si_n _ _ _ (by omega)]
      exact g2 k (by omega)) (by
    rintro s ⟨h1, rfl, f1, g1, g2⟩
    exact ⟨h1, ex h1 f1, f1, g1, g2⟩) 0 (iI (0 : Nat), h) (by omega) ⟨h, rfl, fr_rf _ _, fun j hj => by omega, fun _ _ => rfl⟩
  exact ⟨r, k1, k2⟩
theorem n_copy {h : tr_H} {i j n : Nat} {w : Nat → Int} (hN : tN h i n w) (hj : netI j) (hne : i ≠ j) : ∃ h', f_X2_copyFrom j i h = some h' ∧ fr [j, j + 1] h h' ∧ tN h' j n w := by
  have hi := hN.1
  refine ⟨tr_cp (tr_si h j 1 (h.1 i 1)) (i + 1) (j + 1), rfl, fr_tr (b := tr_si h j 1 (h.1 i 1)) (fr_si h 1 (h.1 i 1) (by simp)) (by unfold tr_cp; exact fr_sa _ _ (by simp)), hj, hN.2.1, ?_, fun c hc => ?_⟩
  · unfold tr_cp
    rw [tr_sa_ne _ _ (by omega), si_s]
    exact hN.2.2.1
  · unfold tr_cp
    rw [tr_sa_at]
    unfold va_cpy
    rw [if_pos (by omega), si_c _ _ _ (by unfold netI at hi hj; omega), show 0 + (c - 0) = c by omega]
    exact hN.2.2.2 c hc
/-! a doing is noted -/
theorem c_add {h : tr_H} {D a b : Nat} {z : Int} (hD : D ≤ 14) (hc : h.1 13 3 = iI D) : ∃ h' o D1, D = D1 + o ∧ o ≤ 1 ∧ D1 ≤ 13 ∧ (o = 1 → D = 14) ∧ (D = 14 → o = 1) ∧ f_X1_add (iI a) (iI b) (iI z) h = some h' ∧ fr [13, 14, 15, 16] h h' ∧ h'.1 13 3 = iI (D1 + 1 : Nat) ∧ (∀ k, k < D1 → h'.1 14 k = h.1 14 (k + o) ∧ h'.1 15 k = h.1 15 (k + o) ∧ h'.1 16 k = h.1 16 (k + o)) ∧ h'.1 14 D1 = iI a ∧ h'.1 15 D1 = iI b ∧ h'.1 16 D1 = iI z := by
  have hj : ∀ (D1 : Nat) (h1 : tr_H), D1 ≤ 13 → h1.1 13 3 = iI D1 → ∃ h', f_X1_add_J13 (iI a) (iI b) (iI z) h1 = some h' ∧ fr [13, 14, 15, 16] h1 h' ∧ h'.1 13 3 = iI (D1 + 1 : Nat) ∧ (∀ k, k < D1 → h'.1 14 k = h1.1 14 k ∧ h'.1 15 k = h1.1 15 k ∧ h'.1 16 k = h1.1 16 k) ∧ h'.1 14 D1 = iI a ∧ h'.1 15 D1 = iI b ∧ h'.1 16 D1 = iI z := by
    intro D1 h1 hD1 hc1
    refine ⟨tr_si (tr_si (tr_si (tr_si h1 14 D1 (iI a)) 15 D1 (iI b)) 16 D1 (iI z)) 13 3 (iI (D1 + 1 : Nat)), ?_, fr_tr (fr_tr (fr_tr (fr_si _ _ _ (by simp)) (fr_si _ _ _ (by simp))) (fr_si _ _ _ (by simp))) (fr_si _ _ _ (by simp)), si_s _ _ _ _, fun k hk => ⟨?_, ?_, ?_⟩, ?_, ?_, ?_⟩
    · unfold f_X1_add_J13
      rw [hc1, if_neg (show ¬ iI (D1 : Int) < 0 by rw [iI_0, iI_lt (by omega) (by omega) (by omega) (by omega)]; omega), if_pos (show iI (D1 : Int) < 14 by rw [iI_14, iI_lt (by omega) (by omega) (by omega) (by omega)]; omega)]
      simp (disch := omega) only [tr_bd, tr_gdI, iI_ix, si_c, hc1]
      rw [iI_1, iI_add]
      rfl
    · rw [si_c _ _ _ (by decide), si_c _ _ _ (by decide), si_c _ _ _ (by decide), si_n _ _ _ (by omega)]
    · rw [si_c _ _ _ (by decide), si_c _ _ _ (by decide), si_n _ _ _ (by omega), si_c _ _ _ (by decide)]
    · rw [si_c _ _ _ (by decide), si_n _ _ _ (by omega), si_c _ _ _ (by decide), si_c _ _ _ (by decide)]
    · rw [si_c _ _ _ (by decide), si_c _ _ _ (by decide), si_c _ _ _ (by decide), si_s]
    · rw [si_c _ _ _ (by decide), si_c _ _ _ (by decide), si_s]
    · rw [si_c _ _ _ (by decide), si_s]
  by_cases c : D < 14
  · obtain ⟨h', k1, k2, k3, k4, k5⟩ := hj D h (by omega) hc
    refine ⟨h', 0, D, rfl, by omega, by omega, by omega, by omega, ?_, k2, k3, k4, k5⟩
    unfold f_X1_add
    rw [hc, if_pos (show iI (D : Int) < 14 by rw [iI_14, iI_lt (by omega) (by omega) (by omega) (by omega)]; omega)]
    exact k1
  · obtain rfl : D = 14 := by omega
    obtain ⟨h1, e1, f1, g1, g2⟩ := tr_inv (f := fun q => f_X1_forgetFirst_L2 q.1 q.2) (fun m s => ∃ h1, s = (iI m, h1) ∧ 1 ≤ m ∧ fr [13, 14, 15, 16] h h1 ∧ (∀ k, k + 1 < m → h1.1 14 k = h.1 14 (k + 1) ∧ h1.1 15 k = h.1 15 (k + 1) ∧ h1.1 16 k = h.1 16 (k + 1)) ∧ ∀ k, m ≤ k + 1 → h1.1 14 k = h.1 14 k ∧ h1.1 15 k = h.1 15 k ∧ h1.1 16 k = h.1 16 k) (fun h1 => fr [13, 14, 15, 16] h h1 ∧ (∀ k, k + 1 < 14 → h1.1 14 k = h.1 14 (k + 1) ∧ h1.1 15 k = h.1 15 (k + 1) ∧ h1.1 16 k = h.1 16 (k + 1)) ∧ True) (hi := 14) (by
      rintro m s hm ⟨h1, rfl, hm1, f1, g1, g2⟩
      obtain ⟨m', rfl⟩ : ∃ m', m = m' + 1 := ⟨m - 1, by omega⟩
      have e5 : iI ((m' + 1 : Nat) : Int) - 1 = iI (m' : Nat) := by
        rw [iI_1, iI_sub]
        congr 1
        omega
      refine ⟨(iI (m' + 1 + 1 : Nat), tr_si (tr_si (tr_si h1 14 m' (h1.1 14 (m' + 1))) 15 m' (h1.1 15 (m' + 1))) 16 m' (h1.1 16 (m' + 1))), ?_, _, rfl, by omega, fr_tr f1 (fr_tr (fr_tr (fr_si _ _ _ (by simp)) (fr_si _ _ _ (by simp))) (fr_si _ _ _ (by simp))), fun k hk => ?_, fun k hk => ?_⟩
      · show f_X1_forgetFirst_L2 (iI (m' + 1 : Nat)) h1 = _
        unfold f_X1_forgetFirst_L2
        rw [if_neg (by rw [iI_14, iI_le (by omega) (by omega) (by omega) (by omega)]; omega), e5]
        simp (disch := omega) only [tr_bd, tr_gdI, iI_ix, si_c]
        rw [iI_1, iI_add]
        rfl
      · have z := g2 (m' + 1) (by omega)
        by_cases e : k = m'
        · subst e
          refine ⟨?_, ?_, ?_⟩
          · rw [si_c _ _ _ (by decide), si_c _ _ _ (by decide), si_s]; exact z.1
          · rw [si_c _ _ _ (by decide), si_s]; exact z.2.1
          · rw [si_s]; exact z.2.2
        · have y := g1 k (by omega)
          refine ⟨?_, ?_, ?_⟩
          · rw [si_c _ _ _ (by decide), si_c _ _ _ (by decide), si_n _ _ _ e]; exact y.1
          · rw [si_c _ _ _ (by decide), si_n _ _ _ e, si_c _ _ _ (by decide)]; exact y.2.1
          · rw [si_n _ _ _ e, si_c _ _ _ (by decide), si_c _ _ _ (by decide)]; exact y.2.2
      · have y := g2 k (by omega)
        have e : k ≠ m' := by omega
        refine ⟨?_, ?_, ?_⟩
        · rw [si_c _ _ _ (by decide), si_c _ _ _ (by decide), si_n _ _ _ e]; exact y.1
        · rw [si_c _ _ _ (by decide), si_n _ _ _ e, si_c _ _ _ (by decide)]; exact y.2.1
        · rw [si_n _ _ _ e, si_c _ _ _ (by decide), si_c _ _ _ (by decide)]; exact y.2.2) (by
      rintro s ⟨h1, rfl, hm1, f1, g1, g2⟩
      exact ⟨h1, rfl, f1, g1, trivial⟩) 1 (iI (1 : Nat), h) (by omega) ⟨h, rfl, by omega, fr_rf _ _, fun k hk => by omega, fun k hk => ⟨rfl, rfl, rfl⟩⟩
    obtain ⟨h', k1, k2, k3, k4, k5⟩ := hj 13 (tr_si h1 13 3 13) (by omega) (by rw [si_s]; rfl)
    refine ⟨h', 1, 13, rfl, by omega, by omega, by omega, by omega, ?_, fr_tr f1 (fr_tr (fr_si _ _ _ (by simp)) k2), k3, fun k hk => ?_, k5⟩
    · unfold f_X1_add
      rw [hc, if_neg (by decide)]
      unfold f_X1_forgetFirst
      rw [show ((1 : Int32), h) = (iI (1 : Nat), h) from rfl, e1, tr_bn_some]
      exact k1
    · have y := g1 k (by omega)
      have z := k4 k hk
      rw [si_c _ _ _ (by decide), si_c _ _ _ (by decide), si_c _ _ _ (by decide)] at z
      exact ⟨z.1.trans y.1, z.2.1.trans y.2.1, z.2.2.trans y.2.2⟩
theorem r_note {h : tr_H} {D : Nat} (hD : D ≤ 14) (hc : h.1 0 9 = iI D) {o D1 : Nat} (e1 : D = D1 + o) (e2 : o ≤ 1) (e3 : D1 ≤ 13) (e4 : o = 1 → D = 14) (e5 : D = 14 → o = 1) : ∃ h', f_X8_note h = some h' ∧ (∀ c, c ≠ 0 → c ≠ 5 → h'.1 c = h.1 c) ∧ (∀ k, k ≠ 9 → h'.1 0 k = h.1 0 k) ∧ h'.2 = h.2 ∧ h'.1 0 9 = iI (D1 + 1 : Nat) ∧ (∀ k, k < 37 * D1 → h'.1 5 k = h.1 5 (k + 37 * o)) ∧ ∀ k, k < 37 → h'.1 5 (37 * D1 + k) = h.1 3 k := by
  have hj : ∀ (h1 : tr_H), h1.1 0 9 = iI D1 → ∃ h', f_X8_note_J49 h1 = some h' ∧ (∀ c, c ≠ 0 → c ≠ 5 → h'.1 c = h1.1 c) ∧ (∀ k, k ≠ 9 → h'.1 0 k = h1.1 0 k) ∧ h'.2 = h1.2 ∧ h'.1 0 9 = iI (D1 + 1 : Nat) ∧ (∀ k, k < 37 * D1 → h'.1 5 k = h1.1 5 k) ∧ ∀ k, k < 37 → h'.1 5 (37 * D1 + k) = h1.1 3 k := by
    intro h1 hc1
    obtain ⟨h2, k1, k2, k3, k4⟩ := cpy (f := fun q => f_X8_note_L51 q.1 q.2) (src := 3) (dst := 5) (so := 0) (off := 37 * D1) (N := 37) (by decide) h1 (by
      intro m h2 hm f2
      have hc2 : h2.1 0 9 = iI D1 := by rw [f2.1 0 (by decide)]; exact hc1
      have ec : iI 37 * iI D1 + iI m = iI (37 * D1 + m : Nat) := by
        rw [iI_mul, iI_add]
        congr 1
      show f_X8_note_L51 (iI m) h2 = _
      unfold f_X8_note_L51
      rw [if_neg (by rw [iI_37, iI_le (by omega) (by omega) (by omega) (by omega)]; omega), tr_gdI (by omega) (by omega) (by omega), hc2, iI_37, ec]
      simp (disch := omega) only [tr_bd, tr_gdI, iI_ix]
      rw [iI_1, iI_add, show 0 + m = m by omega]
      rfl) (by
      intro h2 f2
      rfl)
    refine ⟨tr_si h2 0 9 (iI (D1 + 1 : Nat)), ?_, fun c q1 q2 => ?_, fun k hk => ?_, by rw [si_2]; exact k2.2, si_s _ _ _ _, fun k hk => ?_, fun k hk => ?_⟩
    · unfold f_X8_note_J49
      rw [show ((0 : Int32), h1) = (iI (0 : Nat), h1) from rfl, k1, tr_bn_some]
      unfold f_X8_note_E83 tr_bd
      rw [k2.1 0 (by decide), hc1, iI_1, iI_add]
      rfl
    · rw [si_c _ _ _ q1, k2.1 c (by simpa using q2)]
    · rw [si_n _ _ _ hk, k2.1 0 (by decide)]
    · rw [si_c _ _ _ (by decide)]; exact k4 k (Or.inl hk)
    · rw [si_c _ _ _ (by decide), k3 k hk, show 0 + k = k by omega]
  by_cases c : D = 14
  · have ho := e5 c
    subst ho
    obtain ⟨h1, k1, f1, g1, g2⟩ := tr_inv (f := fun q => f_X8_note_L11 q.1 q.2) (fun m s => ∃ h1, s = (iI m, h1) ∧ fr [5] h h1 ∧ (∀ k, k < m → h1.1 5 k = h.1 5 (k + 37)) ∧ ∀ k, m ≤ k → h1.1 5 k = h.1 5 k) (fun h1 => fr [5] h h1 ∧ (∀ k, k < 481 → h1.1 5 k = h.1 5 (k + 37)) ∧ True) (hi := 481) (by
      rintro m s hm ⟨h1, rfl, f1, g1, g2⟩
      refine ⟨(iI (m + 1 : Nat), tr_si h1 5 m (h1.1 5 (m + 37))), ?_, _, rfl, fr_tr f1 (fr_si _ _ _ (by simp)), fun k hk => ?_, fun k hk => ?_⟩
      · show f_X8_note_L11 (iI m) h1 = _
        unfold f_X8_note_L11
        rw [if_neg (by rw [iI_481, iI_le (by omega) (by omega) (by omega) (by omega)]; omega), iI_37, iI_add, show ((m : Int) + 37) = ((m + 37 : Nat) : Int) from rfl]
        simp (disch := omega) only [tr_bd, tr_gdI, iI_ix]
        rw [iI_1, iI_add]
        rfl
      · by_cases e : k = m
        · rw [e, si_s, g2 (m + 37) (by omega)]
        · rw [si_n _ _ _ e]; exact g1 k (by omega)
      · rw [si_n _ _ _ (by omega)]; exact g2 k (by omega)) (by
      rintro s ⟨h1, rfl, f1, g1, g2⟩
      exact ⟨h1, rfl, f1, g1, trivial⟩) 0 (iI (0 : Nat), h) (by omega) ⟨h, rfl, fr_rf _ _, fun k hk => by omega, fun _ _ => rfl⟩
    obtain ⟨h', j1, j2, j3, j4, j5, j6, j7⟩ := hj (tr_si h1 0 9 (iI D1)) (si_s _ _ _ _)
    refine ⟨h', ?_, fun c q1 q2 => ?_, fun k hk => ?_, ?_, j5, fun k hk => ?_, fun k hk => ?_⟩
    · unfold f_X8_note
      rw [hc, c, if_pos (show iI ((14 : Nat) : Int) = 14 from rfl), show ((0 : Int32), h) = (iI (0 : Nat), h) from rfl, k1, tr_bn_some]
      unfold f_X8_note_E39 tr_bd
      dsimp only
      rw [f1.1 0 (by decide), hc, iI_1, iI_sub, show ((D : Int) - 1) = (D1 : Int) by omega]
      exact j1
    · rw [j2 c q1 q2, si_c _ _ _ q1, f1.1 c (by simpa using q2)]
    · rw [j3 k hk, si_n _ _ _ hk, f1.1 0 (by decide)]
    · rw [j4, si_2, f1.2]
    · rw [j6 k hk, si_c _ _ _ (by decide), g1 k (by omega)]
    · rw [j7 k hk, si_c _ _ _ (by decide), f1.1 3 (by decide)]
  · have ho : o = 0 := by
      apply Classical.byContradiction
      intro q
      exact c (e4 (by omega))
    subst ho
    have : D1 = D := by omega
    subst this
    obtain ⟨h', j1, j2, j3, j4, j5, j6, j7⟩ := hj h hc
    refine ⟨h', ?_, j2, j3, j4, j5, j6, j7⟩
    unfold f_X8_note
    rw [hc, if_neg (by rw [iI_14, iI_eq (by omega) (by omega) (by omega) (by omega)]; omega)]
    exact j1
theorem wup_back (w : Nat → Int) (c : Nat) (v : Int) : wup (wup w c v) c (w c) = w := by
  funext k
  unfold wup
  by_cases e : k = c
  · rw [if_pos e, e]
  · rw [if_neg e, if_neg e]
def Rw (n : Nat) (w : Nat → Int) (hx hm : tr_H) : Prop := ((tN hx 2 n w ∧ tP hm 3 n w) ∧ ∃ D W, dgs hx hm n w D W) ∧ (∃ L tx, txt hx hm L tx) ∧ slo hx hm ∧ (∃ Z, sen hx hm Z) ∧ hx.2 0 12 = hm.2 0 16
theorem Rl_w {hx hm : tr_H} (h : Rl hx hm) : ∃ n w, Rw n w hx hm := by
  obtain ⟨⟨n, w, h1⟩, h2⟩ := h
  exact ⟨n, w, h1, h2⟩
theorem Rw_l {n : Nat} {w : Nat → Int} {hx hm : tr_H} (h : Rw n w hx hm) : Rl hx hm := ⟨⟨n, w, h.1⟩, h.2⟩
/-- a doing, on both sides -/
theorem chg {hx hm : tr_H} {n : Nat} {w : Nat → Int} (hR : Rw n w hx hm) {a b : Nat} (ha : a < n) (hb : b < n) {v : Int} (hv : v = -9 ∨ (0 ≤ v ∧ v ≤ 9)) :
    ∃ gx gm, f_X7_change (iI a) (iI b) (iI v) hx = some (iI (w (6 * a + b)), gx) ∧ f_X8_note hm = some gm ∧ tP gm 3 n w ∧ Rw n (wup w (6 * a + b) v) gx (tr_si gm 3 (1 + (6 * a + b)) (iI (cvn v))) := by
  obtain ⟨⟨⟨hN, hP⟩, D, W, d1, d2, d3, d4, d5⟩, ⟨L, tx, k2⟩, k3, ⟨Z, k4⟩, k5⟩ := hR
  have h6 := hN.2.1.2.1
  obtain ⟨g1, o, D1, e1, e2, e3, e4, e5, q1, q2, q3, q4, q5, q6, q7⟩ := c_add (a := a) (b := b) (z := w (6 * a + b)) d1 d2
  obtain ⟨gm, r1, r2, r3, r4, r5, r6, r7⟩ := r_note d1 d3 e1 e2 e3 e4 e5
  have hN1 : tN g1 2 n w := tN_fr q2 (by simp) (by simp) hN
  have ho := n_of hN (a := (a : Int)) (b := (b : Int)) (by omega) (by omega) (by omega) (by omega)
  rw [woI_in ha hb] at ho
  have hl := n_lay hN1 (a := (a : Int)) (b := (b : Int)) v (by omega) (by omega) (by omega) (by omega)
  rw [if_pos (by omega)] at hl
  simp only [Int.toNat_natCast] at hl
  have hN2 := tN_up hN1 (a := a) (b := b) (v := v) ha hb hv
  have fx : fr [3] g1 (tr_sa g1 (2 + 1) (upd (g1.1 (2 + 1)) (6 * a + b) (iI v))) := fr_sa _ _ (by simp)
  generalize tr_sa g1 (2 + 1) (upd (g1.1 (2 + 1)) (6 * a + b) (iI v)) = gx at hl hN2 fx
  have hP1 : tP gm 3 n w := by
    obtain ⟨a1, a2, a3, a4⟩ := hP
    exact ⟨a1, a2, by rw [r2 3 (by decide) (by decide)]; exact a3, fun c hc => by rw [r2 3 (by decide) (by decide)]; exact a4 c hc⟩
  have ff : ∀ c, c ∉ [3, 13, 14, 15, 16] → gx.1 c = hx.1 c := fun c hc => by
    rw [fx.1 c (fun z => hc (by simp at z; simp [z])), q2.1 c (fun z => hc (by simp at z; simp; omega))]
  refine ⟨gx, gm, ?_, r1, hP1, ?_⟩
  · unfold f_X7_change
    rw [ho, tr_bn_some, q1, tr_bn_some, hl, tr_b2_some]
  · have hP2 := tP_up hP1 (a := a) (b := b) (v := v) ha hb hv
    have fm : fr [3] gm (tr_si gm 3 (1 + (6 * a + b)) (iI (cvn v))) := fr_si _ _ _ (by simp)
    generalize tr_si gm 3 (1 + (6 * a + b)) (iI (cvn v)) = gm2 at hP2 fm
    have mm : ∀ c, c ≠ 0 → c ≠ 3 → c ≠ 5 → gm2.1 c = hm.1 c := fun c z0 z3 z5 => by rw [fm.1 c (by simpa using z3), r2 c z0 z5]
    have m0 : ∀ k, k ≠ 9 → gm2.1 0 k = hm.1 0 k := fun k hk => by rw [fm.1 0 (by simp), r3 k hk]
    refine ⟨⟨⟨hN2, hP2⟩, D1 + 1, fun k => if k < D1 then W (k + o) else if k = D1 then wup (wup w (6 * a + b) v) (6 * a + b) (w (6 * a + b)) else wup w (6 * a + b) v, by omega, ?_, ?_, ?_, fun k hk => ?_⟩, ⟨L, tx, txt_c (by rw [ff 0 (by simp)]) (ff 1 (by simp)) (m0 2 (by decide)) (mm 1 (by decide) (by decide) (by decide)) k2⟩, slo_c (ff 11 (by simp)) (ff 6 (by simp)) (ff 7 (by simp)) (ff 8 (by simp)) (ff 9 (by simp)) (mm 7 (by decide) (by decide) (by decide)) (mm 6 (by decide) (by decide) (by decide)) k3, ⟨Z, sen_c (ff 17 (by simp)) (ff 18 (by simp)) (ff 19 (by simp)) (ff 20 (by simp)) (m0 12 (by decide)) (mm 8 (by decide) (by decide) (by decide)) (mm 9 (by decide) (by decide) (by decide)) (mm 10 (by decide) (by decide) (by decide)) k4⟩, ?_⟩
    · rw [fx.1 13 (by simp)]; exact q3
    · rw [fm.1 0 (by simp)]; exact r5
    · dsimp only
      rw [if_neg (by omega), if_neg (by omega)]
    · have hbk : gm2.1 5 = gm.1 5 := fm.1 5 (by simp)
      by_cases c : k < D1
      · obtain ⟨y1, ⟨a', b', y2, y3, y4, y5, y6, y7⟩, y8, y9⟩ := d5 (k + o) (by omega)
        have y10 := q4 k c
        dsimp only
        rw [if_pos c]
        refine ⟨y1, ⟨a', b', y2, y3, ?_, ?_, ?_, ?_⟩, ?_, fun z hz => ?_⟩
        · rw [fx.1 14 (by simp), y10.1]; exact y4
        · rw [fx.1 15 (by simp), y10.2.1]; exact y5
        · rw [fx.1 16 (by simp), y10.2.2]; exact y6
        · by_cases c2 : k + 1 < D1
          · rw [if_pos c2, show k + 1 + o = k + o + 1 by omega]
            exact y7
          · rw [if_neg c2, if_pos (by omega), wup_back]
            have e9 : k + o + 1 = D := by omega
            rw [e9, d4] at y7
            exact y7
        · rw [hbk, r6 _ (by omega), show 37 * k + 37 * o = 37 * (k + o) by rw [Nat.mul_add]]; exact y8
        · rw [hbk, r6 _ (by omega), show 37 * k + (1 + z) + 37 * o = 37 * (k + o) + (1 + z) by omega]; exact y9 z hz
      · obtain rfl : k = D1 := by omega
        dsimp only
        rw [if_neg c, if_pos rfl, if_neg (by omega), if_neg (by omega), wup_back]
        refine ⟨hN.2.1, ⟨a, b, ha, hb, ?_, ?_, ?_, (wup_back _ _ _).symm⟩, ?_, fun z hz => ?_⟩
        · rw [fx.1 14 (by simp)]; exact q5
        · rw [fx.1 15 (by simp)]; exact q6
        · rw [fx.1 16 (by simp)]; exact q7
        · rw [hbk, show 37 * k = 37 * k + 0 from rfl, r7 0 (by omega)]; exact hP.2.2.1
        · rw [hbk, r7 (1 + z) (by omega)]; exact hP.2.2.2 z hz
    · rw [fx.2, q2.2, fm.2, r4]
      exact k5
end
section
/-! doings, undone; the net; the slots -/
theorem Rw_fr {n : Nat} {w : Nat → Int} {hx gx hm gm : tr_H} (f1 : fr LX hx gx) (f2 : gM hm gm) (h : Rw n w hx hm) : Rw n w gx gm := by
  obtain ⟨⟨⟨h1, h2⟩, D, W, h3⟩, ⟨L, tx, h4⟩, h5, ⟨Z, h6⟩, h7⟩ := h
  have c := fun (k : Nat) (hk : k ∉ LX) => f1.1 k hk
  have m := fun (k : Nat) (hk : k ∉ [0, 2, 4, 11, 12, 13, 14, 15, 16]) => f2.1 k hk
  refine ⟨⟨⟨tN_fr f1 (by decide) (by decide) h1, tP_M f2 h2⟩, D, W, dgs_c (c 13 (by decide)) (c 14 (by decide)) (c 15 (by decide)) (c 16 (by decide)) (f2.2.1 9 (by omega)) (m 5 (by decide)) h3⟩, ⟨L, tx, txt_c (by rw [c 0 (by decide)]) (c 1 (by decide)) (f2.2.1 2 (by omega)) (m 1 (by decide)) h4⟩, slo_c (c 11 (by decide)) (c 6 (by decide)) (c 7 (by decide)) (c 8 (by decide)) (c 9 (by decide)) (m 7 (by decide)) (m 6 (by decide)) h5, ⟨Z, sen_c (c 17 (by decide)) (c 18 (by decide)) (c 19 (by decide)) (c 20 (by decide)) (f2.2.1 12 (by omega)) (m 8 (by decide)) (m 9 (by decide)) (m 10 (by decide)) h6⟩, ?_⟩
  rw [f1.2, f2.2.2]
  exact h7
theorem Rw_0 {n : Nat} {w : Nat → Int} {hx hm : tr_H} (h : Rw n w hx hm) : Rw n w hx (tr_si hm 0 0 0) := Rw_fr (fr_rf _ _) (gM_0 _ _ (by omega)) h
theorem ix37 {a b : Nat} : 1 + 6 * iI a + iI b = iI (1 + (6 * a + b) : Nat) := by
  rw [iI_1, iI_6, iI_mul, iI_add, iI_add]
  congr 1
  omega
theorem cvn_nn {v : Int} (h : 0 ≤ v) : cvn v = v + 1 := by
  unfold cvn
  rw [if_neg (by omega)]
theorem s_put : ∀ (v0 : Int32) (v1 : Int32) (v2 : Int32) (hx hm : tr_H), Rl hx hm → ∃ (r0 : Int32) (gx gm : tr_H), f_X7_put v0 v1 v2 hx = some (r0, gx) ∧ f_X8_put v0 v1 v2 hm = some (r0, gm) ∧ Rl gx gm := by
  intro v0 v1 v2 hx hm hR
  obtain ⟨v, hv, rfl⟩ := ex_iI v0
  obtain ⟨u, hu, rfl⟩ := ex_iI v1
  obtain ⟨t, ht, rfl⟩ := ex_iI v2
  obtain ⟨n, w, hR⟩ := Rl_w hR
  have hR0 := Rw_0 hR
  obtain ⟨m0, em0⟩ : ∃ m0, m0 = tr_si hm 0 0 0 := ⟨_, rfl⟩
  rw [← em0] at hR0
  obtain ⟨hN, hP⟩ := hR0.1.1
  have h6 := hN.2.1.2.1
  have i1 := r_inv ht 0 9
  rw [i64_0, i64_9] at i1
  unfold f_X7_put f_X8_put
  simp only [tr_bd]
  rw [← em0, n_has hN hv.1 hv.2, n_has hN hu.1 hu.2, r_nod hP hv, r_nod hP hu, i1]
  simp only [tr_bn_some]
  by_cases c1 : 0 ≤ v ∧ v < n
  · by_cases c2 : 0 ≤ u ∧ u < n
    · obtain ⟨a, rfl⟩ : ∃ a : Nat, v = (a : Int) := ⟨v.toNat, by omega⟩
      obtain ⟨b, rfl⟩ : ∃ b : Nat, u = (b : Int) := ⟨u.toNat, by omega⟩
      rw [if_pos c1, if_pos c1, if_pos c2, if_pos c2, if_neg n10, if_neg n10, if_pos rfl, if_pos rfl]
      by_cases c3 : 0 ≤ t ∧ t ≤ 9
      · rw [if_pos c3, if_neg n10, if_neg (show ¬ iI t < 0 by rw [iI_0, iI_lt (by omega) (by omega) (by omega) (by omega)]; omega), if_pos (show iI t ≤ 9 by rw [iI_9, iI_le (by omega) (by omega) (by omega) (by omega)]; omega), n_of hN hv.1 hv.2 hu.1 hu.2, woI_in (by omega) (by omega), tr_bn_some, r_isThere hP (i := a) (j := b) (by omega) (by omega), tr_bn_some]
        have b3 := okn_b hN.2.1 (c := 6 * a + b) (by omega)
        by_cases c4 : w (6 * a + b) = -9
        · obtain ⟨gx, gm, k1, k2, k3, k4⟩ := chg hR0 (a := a) (b := b) (v := t) (by omega) (by omega) (Or.inr c3)
          rw [if_pos c4, if_pos rfl, c4, if_pos (show iI (-9) = -9 from rfl), k1, tr_b2_some, k2, tr_bn_some, ix37, tr_gdI (by omega) (by omega) (by omega), iI_ix (by omega), iI_1, iI_add, ← cvn_nn c3.1, n_waits k4.1.1.1, tr_bn_some, r_waits k4.1.1.2, tr_bn_some]
          exact ⟨_, _, _, rfl, rfl, Rw_l k4⟩
        · rw [if_neg c4, if_neg n10, if_neg (show ¬ iI (w (6 * a + b)) = -9 by rw [iI_m9, iI_eq (by omega) (by omega) (by omega) (by omega)]; exact c4)]
          exact ⟨_, _, _, rfl, rfl, Rw_l hR0⟩
      · rw [if_neg c3, if_pos rfl]
        refine ⟨-2, hx, m0, ?_, rfl, Rw_l hR0⟩
        by_cases c4 : t < 0
        · rw [if_pos (show iI t < 0 by rw [iI_0, iI_lt (by omega) (by omega) (by omega) (by omega)]; omega)]
        · rw [if_neg (show ¬ iI t < 0 by rw [iI_0, iI_lt (by omega) (by omega) (by omega) (by omega)]; omega), if_neg (show ¬ iI t ≤ 9 by rw [iI_9, iI_le (by omega) (by omega) (by omega) (by omega)]; omega)]
    · rw [if_pos c1, if_pos c1, if_neg c2, if_neg c2, if_neg n10, if_pos rfl, if_pos rfl, if_neg n10]
      exact ⟨_, _, _, rfl, rfl, Rw_l hR0⟩
  · rw [if_neg c1, if_neg c1, if_pos rfl, if_neg n10]
    exact ⟨_, _, _, rfl, rfl, Rw_l hR0⟩
theorem s_cut : ∀ (v0 : Int32) (v1 : Int32) (hx hm : tr_H), Rl hx hm → ∃ (r0 : Int32) (gx gm : tr_H), f_X7_cut v0 v1 hx = some (r0, gx) ∧ f_X8_cut v0 v1 hm = some (r0, gm) ∧ Rl gx gm := by
  intro v0 v1 hx hm hR
  obtain ⟨v, hv, rfl⟩ := ex_iI v0
  obtain ⟨u, hu, rfl⟩ := ex_iI v1
  obtain ⟨n, w, hR⟩ := Rl_w hR
  have hR0 := Rw_0 hR
  obtain ⟨m0, em0⟩ : ∃ m0, m0 = tr_si hm 0 0 0 := ⟨_, rfl⟩
  rw [← em0] at hR0
  obtain ⟨hN, hP⟩ := hR0.1.1
  have h6 := hN.2.1.2.1
  unfold f_X7_cut f_X8_cut
  simp only [tr_bd]
  rw [← em0, n_has hN hv.1 hv.2, n_has hN hu.1 hu.2, r_nod hP hv, r_nod hP hu]
  simp only [tr_bn_some]
  by_cases c1 : 0 ≤ v ∧ v < n
  · by_cases c2 : 0 ≤ u ∧ u < n
    · obtain ⟨a, rfl⟩ : ∃ a : Nat, v = (a : Int) := ⟨v.toNat, by omega⟩
      obtain ⟨b, rfl⟩ : ∃ b : Nat, u = (b : Int) := ⟨u.toNat, by omega⟩
      rw [if_pos c1, if_pos c1, if_pos c2, if_pos c2, if_neg n10, if_neg n10, if_pos rfl, if_pos rfl, n_of hN hv.1 hv.2 hu.1 hu.2, woI_in (by omega) (by omega), tr_bn_some, r_isThere hP (i := a) (j := b) (by omega) (by omega), tr_bn_some]
      have b3 := okn_b hN.2.1 (c := 6 * a + b) (by omega)
      have b4 := cvn_b hN.2.1 (c := 6 * a + b) (by omega)
      by_cases c4 : w (6 * a + b) = -9
      · rw [if_pos c4, if_pos rfl, c4, if_pos (show iI (-9) = -9 from rfl)]
        exact ⟨_, _, _, rfl, rfl, Rw_l hR0⟩
      · obtain ⟨gx, gm, k1, k2, k3, k4⟩ := chg hR0 (a := a) (b := b) (v := -9) (by omega) (by omega) (Or.inl rfl)
        rw [if_neg c4, if_neg n10, if_neg (show ¬ iI (w (6 * a + b)) = -9 by rw [iI_m9, iI_eq (by omega) (by omega) (by omega) (by omega)]; exact c4), show (-9 : Int32) = iI (-9) from rfl, k1, tr_b2_some, k2, tr_bn_some, r_minutesOf k3 (i := a) (j := b) (by omega) (by omega), tr_bn_some, ix37, tr_gdI (by omega) (by omega) (by omega), iI_ix (by omega), b4.2.2.2 c4, show w (6 * a + b) + 1 - 1 = w (6 * a + b) by omega]
        exact ⟨_, _, _, rfl, rfl, Rw_l k4⟩
    · rw [if_pos c1, if_pos c1, if_neg c2, if_neg c2, if_neg n10, if_pos rfl, if_pos rfl, if_neg n10]
      exact ⟨_, _, _, rfl, rfl, Rw_l hR0⟩
  · rw [if_neg c1, if_neg c1, if_pos rfl, if_neg n10]
    exact ⟨_, _, _, rfl, rfl, Rw_l hR0⟩
theorem s_time : ∀ (v0 : Int32) (v1 : Int32) (v2 : Int32) (hx hm : tr_H), Rl hx hm → ∃ (r0 : Int32) (gx gm : tr_H), f_X7_time v0 v1 v2 hx = some (r0, gx) ∧ f_X8_time v0 v1 v2 hm = some (r0, gm) ∧ Rl gx gm := by
  intro v0 v1 v2 hx hm hR
  obtain ⟨v, hv, rfl⟩ := ex_iI v0
  obtain ⟨u, hu, rfl⟩ := ex_iI v1
  obtain ⟨t, ht, rfl⟩ := ex_iI v2
  obtain ⟨n, w, hR⟩ := Rl_w hR
  have hR0 := Rw_0 hR
  obtain ⟨m0, em0⟩ : ∃ m0, m0 = tr_si hm 0 0 0 := ⟨_, rfl⟩
  rw [← em0] at hR0
  obtain ⟨hN, hP⟩ := hR0.1.1
  have h6 := hN.2.1.2.1
  have i1 := r_inv ht 0 9
  rw [i64_0, i64_9] at i1
  unfold f_X7_time f_X8_time
  simp only [tr_bd]
  rw [← em0, n_has hN hv.1 hv.2, n_has hN hu.1 hu.2, r_nod hP hv, r_nod hP hu, i1]
  simp only [tr_bn_some]
  by_cases c1 : 0 ≤ v ∧ v < n
  · by_cases c2 : 0 ≤ u ∧ u < n
    · obtain ⟨a, rfl⟩ : ∃ a : Nat, v = (a : Int) := ⟨v.toNat, by omega⟩
      obtain ⟨b, rfl⟩ : ∃ b : Nat, u = (b : Int) := ⟨u.toNat, by omega⟩
      rw [if_pos c1, if_pos c1, if_pos c2, if_pos c2, if_neg n10, if_neg n10, if_pos rfl, if_pos rfl]
      by_cases c3 : 0 ≤ t ∧ t ≤ 9
      · rw [if_pos c3, if_neg n10, if_neg (show ¬ iI t < 0 by rw [iI_0, iI_lt (by omega) (by omega) (by omega) (by omega)]; omega), if_pos (show iI t ≤ 9 by rw [iI_9, iI_le (by omega) (by omega) (by omega) (by omega)]; omega), n_of hN hv.1 hv.2 hu.1 hu.2, woI_in (by omega) (by omega), tr_bn_some, r_isThere hP (i := a) (j := b) (by omega) (by omega), tr_bn_some]
        have b3 := okn_b hN.2.1 (c := 6 * a + b) (by omega)
        have b4 := cvn_b hN.2.1 (c := 6 * a + b) (by omega)
        by_cases c4 : w (6 * a + b) = -9
        · rw [if_pos c4, if_pos rfl, c4, if_pos (show iI (-9) = -9 from rfl)]
          exact ⟨_, _, _, rfl, rfl, Rw_l hR0⟩
        · obtain ⟨gx, gm, k1, k2, k3, k4⟩ := chg hR0 (a := a) (b := b) (v := t) (by omega) (by omega) (Or.inr c3)
          rw [if_neg c4, if_neg n10, if_neg (show ¬ iI (w (6 * a + b)) = -9 by rw [iI_m9, iI_eq (by omega) (by omega) (by omega) (by omega)]; exact c4), k1, tr_b2_some, k2, tr_bn_some, r_minutesOf k3 (i := a) (j := b) (by omega) (by omega), tr_bn_some, ix37, tr_gdI (by omega) (by omega) (by omega), iI_ix (by omega), b4.2.2.2 c4, show w (6 * a + b) + 1 - 1 = w (6 * a + b) by omega, iI_1, iI_add, ← cvn_nn c3.1]
          exact ⟨_, _, _, rfl, rfl, Rw_l k4⟩
      · rw [if_neg c3, if_pos rfl]
        refine ⟨-2, hx, m0, ?_, rfl, Rw_l hR0⟩
        by_cases c4 : t < 0
        · rw [if_pos (show iI t < 0 by rw [iI_0, iI_lt (by omega) (by omega) (by omega) (by omega)]; omega)]
        · rw [if_neg (show ¬ iI t < 0 by rw [iI_0, iI_lt (by omega) (by omega) (by omega) (by omega)]; omega), if_neg (show ¬ iI t ≤ 9 by rw [iI_9, iI_le (by omega) (by omega) (by omega) (by omega)]; omega)]
    · rw [if_pos c1, if_pos c1, if_neg c2, if_neg c2, if_neg n10, if_pos rfl, if_pos rfl, if_neg n10]
      exact ⟨_, _, _, rfl, rfl, Rw_l hR0⟩
  · rw [if_neg c1, if_neg c1, if_pos rfl, if_neg n10]
    exact ⟨_, _, _, rfl, rfl, Rw_l hR0⟩
theorem s_undo : ∀ (hx hm : tr_H), Rl hx hm → ∃ (r0 : Int32) (gx gm : tr_H), f_X7_undo hx = some (r0, gx) ∧ f_X8_undo hm = some (r0, gm) ∧ Rl gx gm := by
  intro hx hm hR
  obtain ⟨n, w, hR⟩ := Rl_w hR
  have hR0 := Rw_0 hR
  obtain ⟨m0, em0⟩ : ∃ m0, m0 = tr_si hm 0 0 0 := ⟨_, rfl⟩
  rw [← em0] at hR0
  have hR1 := hR0
  obtain ⟨⟨⟨hN, hP⟩, D, W, d1, d2, d3, d4, d5⟩, ⟨L, tx, k2⟩, k3, ⟨Z, k4⟩, k5⟩ := hR1
  have h6 := hN.2.1.2.1
  unfold f_X7_undo f_X8_undo
  simp only [tr_bd]
  rw [← em0, d2, d3]
  by_cases c : D = 0
  · rw [c, if_pos (show iI ((0 : Nat) : Int) = 0 from rfl), if_pos (show iI ((0 : Nat) : Int) = 0 from rfl)]
    exact ⟨_, _, _, rfl, rfl, Rw_l hR0⟩
  · obtain ⟨E, rfl⟩ : ∃ E, D = E + 1 := ⟨D - 1, by omega⟩
    have e5 : iI ((E + 1 : Nat) : Int) - 1 = iI (E : Nat) := by
      rw [iI_1, iI_sub]
      congr 1
      omega
    rw [if_neg (show ¬ iI ((E + 1 : Nat) : Int) = 0 by rw [iI_0, iI_eq (by omega) (by omega) (by omega) (by omega)]; omega), if_neg (show ¬ iI ((E + 1 : Nat) : Int) = 0 by rw [iI_0, iI_eq (by omega) (by omega) (by omega) (by omega)]; omega), e5]
    obtain ⟨y1, ⟨a, b, ya, yb, y4, y5, y6, y7⟩, y8, y9⟩ := d5 E (by omega)
    rw [d4] at y7
    have hval : W E (6 * a + b) = -9 ∨ (0 ≤ W E (6 * a + b) ∧ W E (6 * a + b) ≤ 9) := (y1.2.2 _ (by omega)).1
    have hN1 : tN (tr_si hx 13 3 (iI E)) 2 n w := tN_fr (L := [13]) (fr_si _ _ _ (by simp)) (by simp) (by simp) hN
    have hl := n_lay hN1 (a := (a : Int)) (b := (b : Int)) (W E (6 * a + b)) (by omega) (by omega) (by omega) (by omega)
    rw [if_pos (by omega)] at hl
    simp only [Int.toNat_natCast] at hl
    have hN2 := tN_up hN1 (a := a) (b := b) (v := W E (6 * a + b)) ya yb hval
    rw [← y7] at hN2
    have fx : fr [3, 13] hx (tr_sa (tr_si hx 13 3 (iI E)) (2 + 1) (upd ((tr_si hx 13 3 (iI E)).1 (2 + 1)) (6 * a + b) (iI (W E (6 * a + b))))) := fr_tr (b := tr_si hx 13 3 (iI E)) (fr_si _ _ _ (by simp)) (fr_sa _ _ (by simp))
    have gx13 : (tr_sa (tr_si hx 13 3 (iI E)) (2 + 1) (upd ((tr_si hx 13 3 (iI E)).1 (2 + 1)) (6 * a + b) (iI (W E (6 * a + b))))).1 13 3 = iI E := by rw [tr_sa_ne _ _ (by decide), si_s]
    have hTB : f_X1_takeBack 2 hx = some (tr_sa (tr_si hx 13 3 (iI E)) (2 + 1) (upd ((tr_si hx 13 3 (iI E)).1 (2 + 1)) (6 * a + b) (iI (W E (6 * a + b))))) := by
      unfold f_X1_takeBack
      rw [d2, if_neg (show ¬ iI ((E + 1 : Nat) : Int) < 1 by rw [iI_1, iI_lt (by omega) (by omega) (by omega) (by omega)]; omega), if_pos (show iI ((E + 1 : Nat) : Int) ≤ 14 by rw [iI_14, iI_le (by omega) (by omega) (by omega) (by omega)]; omega), e5]
      simp only [tr_bd, si_s]
      simp (disch := omega) only [tr_gdI, iI_ix, si_c, y4, y5, y6]
      rw [hl, tr_b2_some, si_c _ _ _ (show (2 + 1 : Nat) ≠ 13 by decide)]
    generalize tr_sa (tr_si hx 13 3 (iI E)) (2 + 1) (upd ((tr_si hx 13 3 (iI E)).1 (2 + 1)) (6 * a + b) (iI (W E (6 * a + b)))) = gx at hN2 fx gx13 hTB
    obtain ⟨gm, j1, j2, j3, -⟩ := cpy (f := fun q => f_X8_undo_L27 q.1 q.2) (src := 5) (dst := 3) (so := 37 * E) (off := 0) (N := 37) (by decide) (tr_si m0 0 9 (iI E)) (by
      intro m h2 hm f2
      have hc2 : h2.1 0 9 = iI E := by rw [f2.1 0 (by decide), si_s]
      have ec : iI 37 * iI E + iI m = iI (37 * E + m : Nat) := by
        rw [iI_mul, iI_add]
        congr 1
      show f_X8_undo_L27 (iI m) h2 = _
      unfold f_X8_undo_L27
      rw [if_neg (by rw [iI_37, iI_le (by omega) (by omega) (by omega) (by omega)]; omega), hc2, iI_37, ec]
      simp (disch := omega) only [tr_bd, tr_gdI, iI_ix]
      rw [iI_1, iI_add, show 0 + m = m by omega]
      rfl) (by
      intro h2 f2
      rfl)
    have fm : ∀ c, c ≠ 0 → c ≠ 3 → gm.1 c = m0.1 c := fun c z0 z3 => by rw [j2.1 c (by simpa using z3), si_c _ _ _ z0]
    have m09 : gm.1 0 9 = iI E := by rw [j2.1 0 (by decide), si_s]
    have m0k : ∀ k, k ≠ 9 → gm.1 0 k = m0.1 0 k := fun k hk => by rw [j2.1 0 (by decide), si_n _ _ _ hk]
    refine ⟨iI E, gx, gm, ?_, ?_, ?_⟩
    · rw [hTB, tr_bn_some, gx13]
    · rw [show ((0 : Int32), tr_si m0 0 9 (iI E)) = (iI (0 : Nat), tr_si m0 0 9 (iI E)) from rfl, j1, tr_bn_some]
      unfold f_X8_undo_E59
      rw [m09]
    · have ff : ∀ c, c ∉ [3, 13] → gx.1 c = hx.1 c := fun c hc => fx.1 c hc
      refine ⟨⟨n, W E, ⟨hN2, Or.inr (Or.inl rfl), y1, ?_, fun c hc => ?_⟩, E, W, by omega, gx13, m09, rfl, fun k hk => ?_⟩, ⟨L, tx, txt_c (by rw [ff 0 (by simp)]) (ff 1 (by simp)) (m0k 2 (by decide)) (fm 1 (by decide) (by decide)) k2⟩, slo_c (ff 11 (by simp)) (ff 6 (by simp)) (ff 7 (by simp)) (ff 8 (by simp)) (ff 9 (by simp)) (fm 7 (by decide) (by decide)) (fm 6 (by decide) (by decide)) k3, ⟨Z, sen_c (ff 17 (by simp)) (ff 18 (by simp)) (ff 19 (by simp)) (ff 20 (by simp)) (m0k 12 (by decide)) (fm 8 (by decide) (by decide)) (fm 9 (by decide) (by decide)) (fm 10 (by decide) (by decide)) k4⟩, ?_⟩
      · have := j3 0 (by decide)
        rw [show (0 : Nat) + 0 = 0 from rfl, si_c _ _ _ (by decide), show 37 * E + 0 = 37 * E from rfl, y8] at this
        exact this
      · have := j3 (1 + c) (by omega)
        rw [show (0 : Nat) + (1 + c) = 1 + c by omega, si_c _ _ _ (by decide), y9 c hc] at this
        exact this
      · have := d5 k (by omega)
        unfold bkP at this ⊢
        rw [ff 14 (by simp), ff 15 (by simp), ff 16 (by simp), fm 5 (by decide) (by decide)]
        exact this
      · rw [fx.2, j2.2, si_2]
        exact k5
theorem s_net : ∀ (hx hm : tr_H), Rl hx hm → ∃ (r0 : Int32) (gx gm : tr_H), f_X7_net hx = some (r0, gx) ∧ f_X8_net hm = some (r0, gm) ∧ Rl gx gm := by
  intro hx hm hR
  have hR0 := Rl_0 hR
  obtain ⟨m0, em0⟩ : ∃ m0, m0 = tr_si hm 0 0 0 := ⟨_, rfl⟩
  rw [← em0] at hR0
  obtain ⟨L, tx, ⟨⟨t1, t2⟩, ⟨t3, t4⟩, t5⟩⟩ := hR0.2.1
  obtain ⟨r, x1, m1, k1, k2, k3, k4, k5, k6⟩ := rd_all t1 t2 t4 t5
  have hR1 := Rl_fr (fr_up k3 (by decide)) (gM_g k4) hR0
  unfold f_X7_net f_X8_net
  simp only [tr_bd]
  rw [t3, k1, tr_b2_some, ← em0, k2, tr_b2_some]
  by_cases c : r = -9
  · obtain ⟨n, w, hN, hP⟩ := k6 c
    have h6 := hN.2.1.2.1
    rw [c, if_pos (show iI (-9) = -9 from rfl), if_pos (show iI (-9) = -9 from rfl)]
    obtain ⟨x2, a1, a2, a3⟩ := n_copy hN (j := 2) (Or.inl rfl) (by decide)
    obtain ⟨x3, b1, b2, b3⟩ := tr_inv (f := fun q => f_X7_net_L47 q.1 q.2) (fun m s => ∃ h1, s = (iI m, h1) ∧ fr [11] (tr_si x2 13 3 0) h1 ∧ ∀ k, k < m → h1.1 11 k = 0) (fun h1 => fr [11] (tr_si x2 13 3 0) h1 ∧ ∀ k, k < 2 → h1.1 11 k = 0) (hi := 2) (by
      rintro m s hm ⟨h1, rfl, g1, g2⟩
      refine ⟨(iI (m + 1 : Nat), tr_si h1 11 m 0), ?_, _, rfl, fr_tr g1 (fr_si _ _ _ (by simp)), fun k hk => ?_⟩
      · show f_X7_net_L47 (iI m) h1 = _
        unfold f_X7_net_L47
        rw [if_neg (by rw [iI_2, iI_le (by omega) (by omega) (by omega) (by omega)]; omega), tr_gdI (by omega) (by omega) (by omega)]
        simp only [tr_bd]
        rw [iI_ix (by omega), iI_1, iI_add]
        rfl
      · by_cases e : k = m
        · rw [e, si_s]
        · rw [si_n _ _ _ e]; exact g2 k (by omega)) (by
      rintro s ⟨h1, rfl, g1, g2⟩
      exact ⟨h1, rfl, g1, g2⟩) 0 (iI (0 : Nat), tr_si x2 13 3 0) (by omega) ⟨_, rfl, fr_rf _ _, fun k hk => by omega⟩
    obtain ⟨m2, j1, j2, j3, -⟩ := cpy (f := fun q => f_X8_net_L19 q.1 q.2) (src := 2) (dst := 3) (so := 0) (off := 0) (N := 37) (by decide) m1 (by
      intro m h2 hm f2
      show f_X8_net_L19 (iI m) h2 = _
      unfold f_X8_net_L19
      rw [if_neg (by rw [iI_37, iI_le (by omega) (by omega) (by omega) (by omega)]; omega)]
      simp (disch := omega) only [tr_bd, tr_gdI, iI_ix]
      rw [iI_1, iI_add, show 0 + m = m by omega]
      rfl) (by
      intro h2 f2
      rfl)
    obtain ⟨m3, em3⟩ : ∃ m3, m3 = tr_si (tr_si (tr_si m2 0 9 0) 7 0 0) 7 1 0 := ⟨_, rfl⟩
    have fx : ∀ c, c ∉ [2, 3, 11, 13] → x3.1 c = x1.1 c := fun c hc => by
      rw [b2.1 c (fun z => hc (by simp at z; simp [z])), si_c _ _ _ (fun z => hc (by simp [z])), a2.1 c (fun z => hc (by simp at z; simp; omega))]
    have fm : ∀ c, c ∉ [0, 3, 7] → m3.1 c = m1.1 c := fun c hc => by
      rw [em3, si_c _ _ _ (fun z => hc (by simp [z])), si_c _ _ _ (fun z => hc (by simp [z])), si_c _ _ _ (fun z => hc (by simp [z])), j2.1 c (fun z => hc (by simp at z; simp [z]))]
    have fm0 : ∀ k, k ≠ 9 → m3.1 0 k = m1.1 0 k := fun k hk => by
      rw [em3, si_c _ _ _ (by decide), si_c _ _ _ (by decide), si_n _ _ _ hk, j2.1 0 (by decide)]
    have hN3 : tN x3 2 n w := tN_fr b2 (by simp) (by simp) (tN_fr (L := [13]) (fr_si _ _ _ (by simp)) (by simp) (by simp) a3)
    have hP3 : tP m3 3 n w := by
      have e3 : m3.1 3 = m2.1 3 := by rw [em3, si_c _ _ _ (by decide), si_c _ _ _ (by decide), si_c _ _ _ (by decide)]
      refine ⟨Or.inr (Or.inl rfl), hP.2.1, ?_, fun c hc => ?_⟩
      · have := j3 0 (by decide)
        rw [e3]
        exact this.trans hP.2.2.1
      · have := j3 (1 + c) (by omega)
        rw [show (0 : Nat) + (1 + c) = 1 + c by omega] at this
        rw [e3]
        exact this.trans (hP.2.2.2 c hc)
    refine ⟨iI (nwt w), x3, m3, ?_, ?_, ?_⟩
    · rw [a1, tr_bn_some]
      unfold f_X1_forget tr_bd
      dsimp only
      rw [tr_bn_some, show ((0 : Int32), tr_si x2 13 3 0) = (iI (0 : Nat), tr_si x2 13 3 0) from rfl, b1, tr_bn_some]
      unfold f_X7_net_E65
      rw [n_waits hN3, tr_bn_some]
    · rw [show ((0 : Int32), m1) = (iI (0 : Nat), m1) from rfl, j1, tr_bn_some]
      unfold f_X8_net_E43
      simp only [tr_bd]
      rw [show (0 : Int32).toNatClampNeg = 0 from rfl, show (1 : Int32).toNatClampNeg = 1 from rfl, ← em3, r_waits hP3, tr_bn_some]
    · obtain ⟨-, ⟨L', tx', h4⟩, -, ⟨Z, h5⟩, h7⟩ := hR1
      refine ⟨⟨n, w, ⟨hN3, hP3⟩, 0, fun _ => w, by omega, ?_, ?_, rfl, fun k hk => by omega⟩, ⟨L', tx', txt_c (by rw [fx 0 (by simp)]) (fx 1 (by simp)) (fm0 2 (by decide)) (fm 1 (by simp)) h4⟩, fun s hs => ⟨?_, Or.inl (b3 s hs)⟩, ⟨Z, sen_c (fx 17 (by simp)) (fx 18 (by simp)) (fx 19 (by simp)) (fx 20 (by simp)) (fm0 12 (by decide)) (fm 8 (by simp)) (fm 9 (by simp)) (fm 10 (by simp)) h5⟩, ?_⟩
      · rw [b2.1 13 (by simp), si_s]; rfl
      · rw [em3, si_c _ _ _ (by decide), si_c _ _ _ (by decide), si_s]; rfl
      · rw [b3 s hs, em3]
        rcases (show s = 0 ∨ s = 1 by omega) with rfl | rfl
        · rw [si_n _ _ _ (by decide), si_s]
        · rw [si_s]
      · rw [b2.2, si_2, a2.2, em3, si_2, si_2, si_2, j2.2]
        exact h7
  · rw [if_neg (show ¬ iI r = -9 by rw [iI_m9, iI_eq (by omega) (by omega) (by omega) (by omega)]; exact c), if_neg (show ¬ iI r = -9 by rw [iI_m9, iI_eq (by omega) (by omega) (by omega) (by omega)]; exact c)]
    exact ⟨_, _, _, rfl, rfl, hR1⟩
theorem s_keep : ∀ (v0 : Int32) (hx hm : tr_H), Rl hx hm → ∃ (r0 : Int32) (gx gm : tr_H), f_X7_keep v0 hx = some (r0, gx) ∧ f_X8_keep v0 hm = some (r0, gm) ∧ Rl gx gm := by
  intro v0 hx hm hR
  obtain ⟨v, hv, rfl⟩ := ex_iI v0
  have hR0 := Rl_0 hR
  obtain ⟨m0, em0⟩ : ∃ m0, m0 = tr_si hm 0 0 0 := ⟨_, rfl⟩
  rw [← em0] at hR0
  have hin := r_inv hv 0 1
  rw [i64_0, i64_1] at hin
  unfold f_X7_keep f_X8_keep
  simp only [tr_bd]
  rw [← em0, hin, tr_bn_some]
  by_cases c : 0 ≤ v ∧ v ≤ 1
  · obtain ⟨s, rfl⟩ : ∃ s : Nat, v = (s : Int) := ⟨v.toNat, by omega⟩
    obtain ⟨⟨n, w, ⟨hN, hP⟩, D, W, h3⟩, ⟨L, tx, h4⟩, h5, ⟨Z, h6⟩, h7⟩ := hR0
    have hn6 := hN.2.1.2.1
    rw [if_pos c, if_neg n10, if_neg (show ¬ iI (s : Int) < 0 by rw [iI_0, iI_lt (by omega) (by omega) (by omega) (by omega)]; omega), if_pos (show iI (s : Int) < 2 by rw [iI_2, iI_lt (by omega) (by omega) (by omega) (by omega)]; omega), tr_gdI (by omega) (by omega) (by omega), tr_gdI (by omega) (by omega) (by omega), iI_ix (by omega)]
    have hns : netI (6 + 2 * s) := by unfold netI; omega
    obtain ⟨x1, a1, a2, a3⟩ := n_copy hN (j := 6 + 2 * s) hns (by omega)
    rw [a1, tr_bn_some, tr_gdI (by omega) (by omega) (by omega)]
    have hN1 : tN (tr_si x1 11 s 1) 2 n w := tN_fr (L := [11]) (fr_si _ _ _ (by simp)) (by simp) (by simp) (tN_fr a2 (by simp; omega) (by simp; omega) hN)
    obtain ⟨m1, j1, j2, j3, j4⟩ := cpy (f := fun q => f_X8_keep_L26 (iI s) q.1 q.2) (src := 3) (dst := 6) (so := 0) (off := 37 * s) (N := 37) (by decide) (tr_si m0 7 s 1) (by
      intro m h2 hm f2
      have ec : iI 37 * iI s + iI m = iI (37 * s + m : Nat) := by
        rw [iI_mul, iI_add]
        congr 1
      show f_X8_keep_L26 (iI s) (iI m) h2 = _
      unfold f_X8_keep_L26
      rw [if_neg (by rw [iI_37, iI_le (by omega) (by omega) (by omega) (by omega)]; omega), iI_37, ec]
      simp (disch := omega) only [tr_bd, tr_gdI, iI_ix]
      rw [iI_1, iI_add, show 0 + m = m by omega]
      rfl) (by
      intro h2 f2
      rfl)
    have fm : ∀ c, c ≠ 6 → c ≠ 7 → m1.1 c = m0.1 c := fun c z1 z2 => by rw [j2.1 c (by simpa using z1), si_c _ _ _ z2]
    have hP1 : tP m1 3 n w := tP_fr j2 (by simp) (tP_fr (L := [7]) (fr_si _ _ _ (by simp)) (by simp) hP)
    rw [n_waits hN1, tr_bn_some, show ((0 : Int32), tr_si m0 7 s 1) = (iI (0 : Nat), tr_si m0 7 s 1) from rfl, j1, tr_bn_some]
    unfold f_X8_keep_E55
    rw [r_waits hP1, tr_bn_some]
    refine ⟨_, _, _, rfl, rfl, ?_⟩
    have fx : ∀ c, c ∉ [6 + 2 * s, 6 + 2 * s + 1, 11] → (tr_si x1 11 s 1).1 c = hx.1 c := fun c hc => by
      rw [si_c _ _ _ (fun z => hc (by simp [z])), a2.1 c (fun z => hc (by simp at z; simp; omega))]
    refine ⟨⟨n, w, ⟨hN1, hP1⟩, D, W, dgs_c (fx 13 (by simp; omega)) (fx 14 (by simp; omega)) (fx 15 (by simp; omega)) (fx 16 (by simp; omega)) (by rw [fm 0 (by decide) (by decide)]) (fm 5 (by decide) (by decide)) h3⟩, ⟨L, tx, txt_c (by rw [fx 0 (by simp; omega)]) (fx 1 (by simp; omega)) (by rw [fm 0 (by decide) (by decide)]) (fm 1 (by decide) (by decide)) h4⟩, fun s' hs' => ?_, ⟨Z, sen_c (fx 17 (by simp; omega)) (fx 18 (by simp; omega)) (fx 19 (by simp; omega)) (fx 20 (by simp; omega)) (by rw [fm 0 (by decide) (by decide)]) (fm 8 (by decide) (by decide)) (fm 9 (by decide) (by decide)) (fm 10 (by decide) (by decide)) h6⟩, ?_⟩
    · have e7 : m1.1 7 = (tr_si m0 7 s 1).1 7 := j2.1 7 (by simp)
      by_cases e : s' = s
      · subst e
        refine ⟨by rw [e7, si_s, si_s], Or.inr ⟨si_s _ _ _ _, n, w, tN_fr (L := [11]) (fr_si _ _ _ (by simp)) (by simp; omega) (by simp; omega) a3, ?_, fun c hc => ?_⟩⟩
        · have := j3 0 (by decide)
          rw [si_c _ _ _ (by decide)] at this
          exact this.trans hP.2.2.1
        · have := j3 (1 + c) (by omega)
          rw [si_c _ _ _ (by decide), show (0 : Nat) + (1 + c) = 1 + c by omega] at this
          exact this.trans (hP.2.2.2 c hc)
      · obtain ⟨g1, g2⟩ := h5 s' hs'
        have ex11 : (tr_si x1 11 s 1).1 11 s' = hx.1 11 s' := by rw [si_n _ _ _ e, a2.1 11 (by simp; omega)]
        rw [e7, si_n _ _ _ e, ex11]
        refine ⟨g1, g2.imp id ?_⟩
        rintro ⟨g3, n', w', g4, g5, g6⟩
        refine ⟨g3, n', w', ?_, ?_, fun c hc => ?_⟩
        · exact tN_fr (L := [11]) (fr_si _ _ _ (by simp)) (by simp; omega) (by simp; omega) (tN_fr a2 (by simp; omega) (by simp; omega) g4)
        · rw [j4 _ (by omega), si_c _ _ _ (by decide)]; exact g5
        · rw [j4 _ (by omega), si_c _ _ _ (by decide)]; exact g6 c hc
    · rw [si_2, a2.2, j2.2, si_2]
      exact h7
  · rw [if_neg c, if_pos rfl]
    refine ⟨-1, hx, m0, ?_, rfl, hR0⟩
    by_cases c4 : v < 0
    · rw [if_pos (show iI v < 0 by rw [iI_0, iI_lt (by omega) (by omega) (by omega) (by omega)]; omega)]
    · rw [if_neg (show ¬ iI v < 0 by rw [iI_0, iI_lt (by omega) (by omega) (by omega) (by omega)]; omega), if_neg (show ¬ iI v < 2 by rw [iI_2, iI_lt (by omega) (by omega) (by omega) (by omega)]; omega)]
theorem s_again : ∀ (v0 : Int32) (hx hm : tr_H), Rl hx hm → ∃ (r0 : Int32) (gx gm : tr_H), f_X7_again v0 hx = some (r0, gx) ∧ f_X8_again v0 hm = some (r0, gm) ∧ Rl gx gm := by
  intro v0 hx hm hR
  obtain ⟨v, hv, rfl⟩ := ex_iI v0
  have hR0 := Rl_0 hR
  obtain ⟨m0, em0⟩ : ∃ m0, m0 = tr_si hm 0 0 0 := ⟨_, rfl⟩
  rw [← em0] at hR0
  have hin := r_inv hv 0 1
  rw [i64_0, i64_1] at hin
  unfold f_X7_again f_X8_again
  simp only [tr_bd]
  rw [← em0, hin, tr_bn_some]
  by_cases c : 0 ≤ v ∧ v ≤ 1
  · obtain ⟨s, rfl⟩ : ∃ s : Nat, v = (s : Int) := ⟨v.toNat, by omega⟩
    have hR1 := hR0
    obtain ⟨⟨n0, w0, ⟨hN, hP⟩, D, W, h3⟩, ⟨L, tx, h4⟩, h5, ⟨Z, h6⟩, h7⟩ := hR1
    obtain ⟨g1, g2⟩ := h5 s (by omega)
    rw [if_pos c, if_neg n10, if_neg (show ¬ iI (s : Int) < 0 by rw [iI_0, iI_lt (by omega) (by omega) (by omega) (by omega)]; omega), if_pos (show iI (s : Int) < 2 by rw [iI_2, iI_lt (by omega) (by omega) (by omega) (by omega)]; omega)]
    simp (disch := omega) only [tr_gdI, iI_ix]
    rw [g1]
    rcases g2 with g2 | ⟨g2, n, w, g3, g4, g5⟩
    · rw [g2, if_pos rfl, if_pos rfl]
      exact ⟨_, _, _, rfl, rfl, hR0⟩
    · rw [g2, if_neg n10, if_neg n10]
      obtain ⟨x1, a1, a2, a3⟩ := n_copy g3 (j := 2) (Or.inl rfl) (by omega)
      obtain ⟨m1, j1, j2, j3, -⟩ := cpy (f := fun q => f_X8_again_L31 (iI s) q.1 q.2) (src := 6) (dst := 3) (so := 37 * s) (off := 0) (N := 37) (by decide) m0 (by
        intro m h2 hm f2
        have ec : iI 37 * iI s + iI m = iI (37 * s + m : Nat) := by
          rw [iI_mul, iI_add]
          congr 1
        show f_X8_again_L31 (iI s) (iI m) h2 = _
        unfold f_X8_again_L31
        rw [if_neg (by rw [iI_37, iI_le (by omega) (by omega) (by omega) (by omega)]; omega), iI_37, ec]
        simp (disch := omega) only [tr_bd, tr_gdI, iI_ix]
        rw [iI_1, iI_add, show 0 + m = m by omega]
        rfl) (by
        intro h2 f2
        rfl)
      have hN1 : tN (tr_si x1 13 3 0) 2 n w := tN_fr (L := [13]) (fr_si _ _ _ (by simp)) (by simp) (by simp) a3
      have hP1 : tP (tr_si m1 0 9 0) 3 n w := by
        refine ⟨Or.inr (Or.inl rfl), g3.2.1, ?_, fun c hc => ?_⟩
        · rw [si_c _ _ _ (by decide)]
          exact (j3 0 (by decide)).trans g4
        · have := j3 (1 + c) (by omega)
          rw [show (0 : Nat) + (1 + c) = 1 + c by omega] at this
          rw [si_c _ _ _ (by decide)]
          exact this.trans (g5 c hc)
      have fx : ∀ c, c ∉ [2, 3, 13] → (tr_si x1 13 3 0).1 c = hx.1 c := fun c hc => by
        rw [si_c _ _ _ (fun z => hc (by simp [z])), a2.1 c (fun z => hc (by simp at z; simp; omega))]
      have fm : ∀ c, c ≠ 0 → c ≠ 3 → (tr_si m1 0 9 0).1 c = m0.1 c := fun c z1 z2 => by rw [si_c _ _ _ z1, j2.1 c (by simpa using z2)]
      have fm0 : ∀ k, k ≠ 9 → (tr_si m1 0 9 0).1 0 k = m0.1 0 k := fun k hk => by rw [si_n _ _ _ hk, j2.1 0 (by decide)]
      refine ⟨iI (nwt w), tr_si x1 13 3 0, tr_si m1 0 9 0, ?_, ?_, ?_⟩
      · rw [a1, tr_bn_some]
        unfold f_X1_forget tr_bd
        dsimp only
        rw [tr_bn_some, n_waits hN1, tr_bn_some]
      · rw [show ((0 : Int32), m0) = (iI (0 : Nat), m0) from rfl, j1, tr_bn_some]
        unfold f_X8_again_E60
        simp only [tr_bd]
        rw [r_waits hP1, tr_bn_some]
      · refine ⟨⟨n, w, ⟨hN1, hP1⟩, 0, fun _ => w, by omega, by rw [si_s]; rfl, by rw [si_s]; rfl, rfl, fun k hk => by omega⟩, ⟨L, tx, txt_c (by rw [fx 0 (by simp)]) (fx 1 (by simp)) (fm0 2 (by decide)) (fm 1 (by decide) (by decide)) h4⟩, slo_c (fx 11 (by simp)) (fx 6 (by simp)) (fx 7 (by simp)) (fx 8 (by simp)) (fx 9 (by simp)) (fm 7 (by decide) (by decide)) (fm 6 (by decide) (by decide)) h5, ⟨Z, sen_c (fx 17 (by simp)) (fx 18 (by simp)) (fx 19 (by simp)) (fx 20 (by simp)) (fm0 12 (by decide)) (fm 8 (by decide) (by decide)) (fm 9 (by decide) (by decide)) (fm 10 (by decide) (by decide)) h6⟩, ?_⟩
        rw [si_2, a2.2, si_2, j2.2]
        exact h7
  · rw [if_neg c, if_pos rfl]
    refine ⟨-1, hx, m0, ?_, rfl, hR0⟩
    by_cases c4 : v < 0
    · rw [if_pos (show iI v < 0 by rw [iI_0, iI_lt (by omega) (by omega) (by omega) (by omega)]; omega)]
    · rw [if_neg (show ¬ iI v < 0 by rw [iI_0, iI_lt (by omega) (by omega) (by omega) (by omega)]; omega), if_neg (show ¬ iI v < 2 by rw [iI_2, iI_lt (by omega) (by omega) (by omega) (by omega)]; omega)]
end
section
/-! rings and periods: the calls -/
theorem w_slow {h : tr_H} {i n : Nat} {w : Nat → Int} (hN : tN h i n w) : ∃ h', f_X6_slowest i h = some (iI (pac n w), h') ∧ fr [22] h h' := by
  obtain ⟨f, hf⟩ := w_slowest hN
  exact ⟨_, hf, fr_sa _ _ (by simp)⟩
theorem w_kept {h : tr_H} {i n : Nat} {w : Nat → Int} (hN : tN h i n w) {p : Int} (p1 : 0 ≤ p) (p2 : p ≤ 20) : ∃ h', f_X6_isKept i (iI p) h = some (if pac n w ≤ 60 * p then 1 else 0, h') ∧ fr [22] h h' := by
  obtain ⟨f, hf⟩ := w_isKept hN p1 p2
  exact ⟨_, hf, fr_sa _ _ (by simp)⟩
theorem w_set {h : tr_H} {i n : Nat} {w : Nat → Int} {p : Int} (hN : tN h i n w) (hk : kept n w p) : ∃ h', f_X0_settle i (iI p) h = some h' ∧ fr [24, 25] h h' ∧ timH h' n w p := by
  obtain ⟨g, e, t⟩ := w_settle hN hk
  exact ⟨_, e, fr_tr (b := tr_si h 24 2 (iI p)) (fr_si _ _ _ (by simp)) (fr_sa _ _ (by simp)), by rw [tr_sa_ne _ _ (by decide), si_s], fun v hv => by rw [tr_sa_at]; exact t v hv⟩
theorem r_set {h : tr_H} {q n : Nat} {w : Nat → Int} {p : Int} (hP : tP h q n w) (hk : kept n w p) : ∃ h', f_X8_layTimes q (iI p) h = some h' ∧ fr [13] h h' ∧ timP h' n w p := by
  obtain ⟨g, e, t⟩ := r_layTimes hP hk
  exact ⟨_, e, fr_sa _ _ (by simp), fun v hv => by rw [tr_sa_at]; exact t v hv⟩
theorem w_lasts {h : tr_H} {i n : Nat} {w : Nat → Int} {p d : Int} {at_ : Nat} (hN : tN h i n w) (hk : kept n w p) (hd : 0 ≤ d ∧ d ≤ 30) (ha : at_ < n) : ∃ h', f_X7_lastsUntil i (iI at_) (iI d) (iI p) h = some (iI (dieF n w p at_ d 40 1), h') ∧ fr [24, 25, 26] h h' := by
  have hi := hN.1
  obtain ⟨h1, a1, a2, a3⟩ := w_set hN hk
  have hN1 := tN_fr a2 (by unfold netI at hi; simp; omega) (by unfold netI at hi; simp; omega) hN
  obtain ⟨g, b1, b2⟩ := w_spread hN1 hk a3 ha (Nat.le_refl 40)
  have hN2 := tN_ne (c := 26) hN1 g (by unfold netI at hi; omega) (by unfold netI at hi; omega)
  have c1 := w_quiet (h := tr_sa h1 26 g) hN.2.1 hk hd (by rw [tr_sa_at]; exact b2)
  refine ⟨tr_sa h1 26 g, ?_, fr_tr (fr_up a2 (by simp)) (fr_sa _ _ (by simp))⟩
  unfold f_X7_lastsUntil
  rw [a1, tr_bn_some, show (40 : Int32) = iI ((40 : Nat) : Int) from rfl, b1, tr_bn_some, hN2.2.2.1, c1, tr_bn_some]
theorem s_pace : ∀ (v0 : Int32) (hx hm : tr_H), Rl hx hm → ∃ (r0 : Int32) (gx gm : tr_H), f_X7_pace v0 hx = some (r0, gx) ∧ f_X8_pace v0 hm = some (r0, gm) ∧ Rl gx gm := by
  intro v0 hx hm hR
  have hR0 := Rl_0 hR
  obtain ⟨m0, em0⟩ : ∃ m0, m0 = tr_si hm 0 0 0 := ⟨_, rfl⟩
  rw [← em0] at hR0
  obtain ⟨n, w, hN, hP⟩ := Rl_net hR0
  obtain ⟨x1, a1, a2⟩ := w_slow hN
  obtain ⟨S, B, m1, b1, b2, -, b4, b5, b6⟩ := r_find hP
  have hR1 := Rl_fr (fr_up a2 (by decide)) (gM_R b2) hR0
  unfold f_X7_pace f_X8_pace
  simp only [tr_bd]
  rw [← em0, a1, tr_b2_some, b1, tr_bn_some, b4, b5]
  rcases b6 with ⟨c1, c2⟩ | ⟨c1, c2, c3, c4, c5, c6, c7⟩
  · rw [c1, c2, if_pos (show iI (-1) = -1 from rfl), if_pos (show iI 0 = 0 from rfl)]
    exact ⟨_, _, _, rfl, rfl, hR1⟩
  · rw [if_neg (show ¬ iI (pac n w) = -1 by rw [iI_m1, iI_eq (by omega) (by omega) (by omega) (by omega)]; omega), if_neg (show ¬ iI B = 0 by rw [iI_0, iI_eq (by omega) (by omega) (by omega) (by omega)]; omega)]
    obtain ⟨P, eP⟩ : ∃ P : Nat, pac n w = (P : Int) := ⟨(pac n w).toNat, by omega⟩
    obtain ⟨S', rfl⟩ : ∃ S' : Nat, S = (S' : Int) := ⟨S.toNat, by omega⟩
    obtain ⟨B', rfl⟩ : ∃ B' : Nat, B = (B' : Int) := ⟨B.toNat, by omega⟩
    rw [eP] at c7
    have e : P * B' = S' * 60 := by
      have : ((P * B' : Nat) : Int) = ((S' * 60 : Nat) : Int) := by
        rw [Int.natCast_mul, Int.natCast_mul]
        omega
      exact Int.ofNat.inj this
    obtain ⟨f1, f2⟩ := frac_eq (a := P) (b := 60) (c := S') (d := B') (by omega) (by omega) e
    rw [eP, show (60 : Int32) = iI ((60 : Nat) : Int) from rfl, c_told (by omega) (by omega) (by omega), tr_bn_some, r_fraction (by omega) (by omega) (by omega), tr_bn_some, f1, f2]
    exact ⟨_, _, _, rfl, rfl, hR1⟩
theorem s_critical : ∀ (v0 : Int32) (v1 : Int32) (hx hm : tr_H), Rl hx hm → ∃ (r0 : Int32) (gx gm : tr_H), f_X7_critical v0 v1 hx = some (r0, gx) ∧ f_X8_critical v0 v1 hm = some (r0, gm) ∧ Rl gx gm := by
  intro v0 v1 hx hm hR
  obtain ⟨v, hv, rfl⟩ := ex_iI v0
  obtain ⟨u, hu, rfl⟩ := ex_iI v1
  have hR0 := Rl_0 hR
  obtain ⟨m0, em0⟩ : ∃ m0, m0 = tr_si hm 0 0 0 := ⟨_, rfl⟩
  rw [← em0] at hR0
  obtain ⟨n, w, hN, hP⟩ := Rl_net hR0
  have h6 := hN.2.1.2.1
  unfold f_X7_critical f_X8_critical
  simp only [tr_bd]
  rw [← em0, n_has hN hv.1 hv.2, n_has hN hu.1 hu.2, r_nod hP hv, r_nod hP hu]
  simp only [tr_bn_some]
  by_cases c1 : 0 ≤ v ∧ v < n
  · by_cases c2 : 0 ≤ u ∧ u < n
    · obtain ⟨a, rfl⟩ : ∃ a : Nat, v = (a : Int) := ⟨v.toNat, by omega⟩
      obtain ⟨b, rfl⟩ : ∃ b : Nat, u = (b : Int) := ⟨u.toNat, by omega⟩
      rw [if_pos c1, if_pos c1, if_pos c2, if_pos c2, if_neg n10, if_neg n10, if_pos rfl, if_pos rfl, n_of hN hv.1 hv.2 hu.1 hu.2, woI_in (by omega) (by omega), tr_bn_some, r_isThere hP (i := a) (j := b) (by omega) (by omega), tr_bn_some]
      have b3 := okn_b hN.2.1 (c := 6 * a + b) (by omega)
      by_cases c4 : w (6 * a + b) = -9
      · rw [if_pos c4, if_pos rfl, c4, if_pos (show iI (-9) = -9 from rfl)]
        exact ⟨_, _, _, rfl, rfl, hR0⟩
      · rw [if_neg c4, if_neg n10, if_neg (show ¬ iI (w (6 * a + b)) = -9 by rw [iI_m9, iI_eq (by omega) (by omega) (by omega) (by omega)]; exact c4)]
        obtain ⟨f, g, k1, k2⟩ := w_comp hN
        have fx : fr LX hx (tr_sa (tr_si (tr_sa hx 22 f) 21 2 (iI (pac n w))) 23 g) := fr_tr (b := tr_si (tr_sa hx 22 f) 21 2 (iI (pac n w))) (fr_tr (b := tr_sa hx 22 f) (fr_sa _ _ (by decide)) (fr_si _ _ _ (by decide))) (fr_sa _ _ (by decide))
        generalize tr_sa (tr_si (tr_sa hx 22 f) 21 2 (iI (pac n w))) 23 g = x1 at k1 k2 fx
        have hcr := w_isCritical k2 (a := a) (b := b) (by omega) (by omega)
        obtain ⟨S, B, m1, b1, b2, b7, -⟩ := r_find hP
        obtain ⟨rwt, cw, cd, e1, -, -, -, e5, -, -, e8, -⟩ := rF_bits hP.2.1 b7
        have hbit := bit64 (a := cw) (k := 6 * a + b) (by omega) (Nat.lt_of_lt_of_le e5 (by decide))
        have e9 := e8 a b (by omega) (by omega)
        have ei : 6 * iI a + iI b = iI (6 * a + b : Nat) := by
          rw [iI_6, iI_mul, iI_add]
          congr 1
        rw [k1, tr_bn_some, b1, tr_bn_some, e1, ei, hbit]
        have hR1 := Rl_fr fx (gM_R b2) hR0
        by_cases cc : crR n w a b
        · rw [hcr.1 cc, tr_bn_some, if_neg n10, if_pos (e9.mpr cc)]
          exact ⟨_, _, _, rfl, rfl, hR1⟩
        · rw [hcr.2 cc, tr_bn_some, if_pos rfl, if_neg (fun q => cc (e9.mp q))]
          exact ⟨_, _, _, rfl, rfl, hR1⟩
    · rw [if_pos c1, if_pos c1, if_neg c2, if_neg c2, if_neg n10, if_pos rfl, if_pos rfl, if_neg n10]
      exact ⟨_, _, _, rfl, rfl, hR0⟩
  · rw [if_neg c1, if_neg c1, if_pos rfl, if_neg n10]
    exact ⟨_, _, _, rfl, rfl, hR0⟩
theorem s_departs : ∀ (v0 : Int32) (v1 : Int32) (hx hm : tr_H), Rl hx hm → ∃ (r0 : Int32) (gx gm : tr_H), f_X7_departs v0 v1 hx = some (r0, gx) ∧ f_X8_departs v0 v1 hm = some (r0, gm) ∧ Rl gx gm := by
  intro v0 v1 hx hm hR
  obtain ⟨v, hv, rfl⟩ := ex_iI v0
  obtain ⟨p, hp, rfl⟩ := ex_iI v1
  have hR0 := Rl_0 hR
  obtain ⟨m0, em0⟩ : ∃ m0, m0 = tr_si hm 0 0 0 := ⟨_, rfl⟩
  rw [← em0] at hR0
  obtain ⟨n, w, hN, hP⟩ := Rl_net hR0
  have h6 := hN.2.1.2.1
  have i1 := r_inv hp 0 20
  rw [i64_0, i64_20] at i1
  unfold f_X7_departs f_X8_departs
  simp only [tr_bd]
  rw [← em0, n_has hN hv.1 hv.2, r_nod hP hv, i1]
  simp only [tr_bn_some]
  by_cases c1 : 0 ≤ v ∧ v < n
  · obtain ⟨a, rfl⟩ : ∃ a : Nat, v = (a : Int) := ⟨v.toNat, by omega⟩
    rw [if_pos c1, if_pos c1, if_neg n10, if_pos rfl]
    by_cases c3 : 0 ≤ p ∧ p ≤ 20
    · rw [if_pos c3, if_neg n10, if_neg (show ¬ iI p < 0 by rw [iI_0, iI_lt (by omega) (by omega) (by omega) (by omega)]; omega), if_pos (show iI p ≤ 20 by rw [iI_20, iI_le (by omega) (by omega) (by omega) (by omega)]; omega)]
      obtain ⟨x1, a1, a2⟩ := w_kept hN c3.1 c3.2
      obtain ⟨m1, b1, b2⟩ := r_isPeriod hP c3.1 (show p ≤ 100 by omega)
      rw [a1, tr_b2_some, b1, tr_b2_some]
      have hN1 := tN_fr a2 (by simp) (by simp) hN
      have hP1 := tP_R b2 hP
      have hR1 := Rl_fr (fr_up a2 (by decide)) (gM_R b2) hR0
      by_cases c4 : pac n w ≤ 60 * p
      · have hk : kept n w p := ⟨c4, c3.1, c3.2⟩
        obtain ⟨x2, d1, d2, d3⟩ := w_set hN1 hk
        obtain ⟨m2, e1, e2, e3⟩ := r_set hP1 hk
        rw [if_pos c4, if_neg n10, if_neg n10, d1, tr_bn_some, e1, tr_bn_some, w_timeOf (by omega), tr_bn_some, tr_gdI (by omega) (by omega) (by omega), iI_ix (by omega), d3.2 a (by omega), e3 a (by omega)]
        exact ⟨_, _, _, rfl, rfl, Rl_fr (fr_up d2 (by decide)) (gM_f e2 (by decide) (by decide)) hR1⟩
      · rw [if_neg c4, if_pos rfl, if_pos rfl]
        exact ⟨_, _, _, rfl, rfl, hR1⟩
    · rw [if_neg c3, if_pos rfl]
      refine ⟨-2, hx, m0, ?_, rfl, hR0⟩
      by_cases c4 : p < 0
      · rw [if_pos (show iI p < 0 by rw [iI_0, iI_lt (by omega) (by omega) (by omega) (by omega)]; omega)]
      · rw [if_neg (show ¬ iI p < 0 by rw [iI_0, iI_lt (by omega) (by omega) (by omega) (by omega)]; omega), if_neg (show ¬ iI p ≤ 20 by rw [iI_20, iI_le (by omega) (by omega) (by omega) (by omega)]; omega)]
  · rw [if_neg c1, if_neg c1, if_pos rfl, if_neg n10]
    exact ⟨_, _, _, rfl, rfl, hR0⟩
theorem s_spare : ∀ (v0 : Int32) (v1 : Int32) (v2 : Int32) (hx hm : tr_H), Rl hx hm → ∃ (r0 : Int32) (gx gm : tr_H), f_X7_spare v0 v1 v2 hx = some (r0, gx) ∧ f_X8_spare v0 v1 v2 hm = some (r0, gm) ∧ Rl gx gm := by
  intro v0 v1 v2 hx hm hR
  obtain ⟨v, hv, rfl⟩ := ex_iI v0
  obtain ⟨u, hu, rfl⟩ := ex_iI v1
  obtain ⟨p, hp, rfl⟩ := ex_iI v2
  have hR0 := Rl_0 hR
  obtain ⟨m0, em0⟩ : ∃ m0, m0 = tr_si hm 0 0 0 := ⟨_, rfl⟩
  rw [← em0] at hR0
  obtain ⟨n, w, hN, hP⟩ := Rl_net hR0
  have h6 := hN.2.1.2.1
  have i1 := r_inv hp 0 20
  rw [i64_0, i64_20] at i1
  unfold f_X7_spare f_X8_spare
  simp only [tr_bd]
  rw [← em0, n_has hN hv.1 hv.2, n_has hN hu.1 hu.2, r_nod hP hv, r_nod hP hu, i1]
  simp only [tr_bn_some]
  by_cases c1 : 0 ≤ v ∧ v < n
  · by_cases c2 : 0 ≤ u ∧ u < n
    · obtain ⟨a, rfl⟩ : ∃ a : Nat, v = (a : Int) := ⟨v.toNat, by omega⟩
      obtain ⟨b, rfl⟩ : ∃ b : Nat, u = (b : Int) := ⟨u.toNat, by omega⟩
      rw [if_pos c1, if_pos c1, if_pos c2, if_pos c2, if_neg n10, if_neg n10, if_pos rfl, if_pos rfl]
      by_cases c3 : 0 ≤ p ∧ p ≤ 20
      · rw [if_pos c3, if_neg n10, if_neg (show ¬ iI p < 0 by rw [iI_0, iI_lt (by omega) (by omega) (by omega) (by omega)]; omega), if_pos (show iI p ≤ 20 by rw [iI_20, iI_le (by omega) (by omega) (by omega) (by omega)]; omega), n_of hN hv.1 hv.2 hu.1 hu.2, woI_in (by omega) (by omega), tr_bn_some, r_isThere hP (i := a) (j := b) (by omega) (by omega), tr_bn_some]
        have b3 := okn_b hN.2.1 (c := 6 * a + b) (by omega)
        by_cases c5 : w (6 * a + b) = -9
        · rw [if_pos c5, if_pos rfl, c5, if_pos (show iI (-9) = -9 from rfl)]
          exact ⟨_, _, _, rfl, rfl, hR0⟩
        · rw [if_neg c5, if_neg n10, if_neg (show ¬ iI (w (6 * a + b)) = -9 by rw [iI_m9, iI_eq (by omega) (by omega) (by omega) (by omega)]; exact c5)]
          obtain ⟨x1, a1, a2⟩ := w_kept hN c3.1 c3.2
          obtain ⟨m1, b1, b2⟩ := r_isPeriod hP c3.1 (show p ≤ 100 by omega)
          rw [a1, tr_b2_some, b1, tr_b2_some]
          have hN1 := tN_fr a2 (by simp) (by simp) hN
          have hP1 := tP_R b2 hP
          have hR1 := Rl_fr (fr_up a2 (by decide)) (gM_R b2) hR0
          by_cases c4 : pac n w ≤ 60 * p
          · have hk : kept n w p := ⟨c4, c3.1, c3.2⟩
            obtain ⟨x2, d1, d2, d3⟩ := w_set hN1 hk
            obtain ⟨m2, e1, e2, e3⟩ := r_set hP1 hk
            have hN2 := tN_fr d2 (by simp) (by simp) hN1
            have hP2 := tP_fr e2 (by simp) hP1
            rw [if_pos c4, if_neg n10, if_neg n10, d1, tr_bn_some, e1, tr_bn_some, w_spareOf hN2 d3 (by omega) (by omega), tr_bn_some, r_spareOf hP2 e3 (by omega) (by omega) c5, tr_bn_some]
            exact ⟨_, _, _, rfl, rfl, Rl_fr (fr_up d2 (by decide)) (gM_f e2 (by decide) (by decide)) hR1⟩
          · rw [if_neg c4, if_pos rfl, if_pos rfl]
            exact ⟨_, _, _, rfl, rfl, hR1⟩
      · rw [if_neg c3, if_pos rfl]
        refine ⟨-2, hx, m0, ?_, rfl, hR0⟩
        by_cases c4 : p < 0
        · rw [if_pos (show iI p < 0 by rw [iI_0, iI_lt (by omega) (by omega) (by omega) (by omega)]; omega)]
        · rw [if_neg (show ¬ iI p < 0 by rw [iI_0, iI_lt (by omega) (by omega) (by omega) (by omega)]; omega), if_neg (show ¬ iI p ≤ 20 by rw [iI_20, iI_le (by omega) (by omega) (by omega) (by omega)]; omega)]
    · rw [if_pos c1, if_pos c1, if_neg c2, if_neg c2, if_neg n10, if_pos rfl, if_pos rfl, if_neg n10]
      exact ⟨_, _, _, rfl, rfl, hR0⟩
  · rw [if_neg c1, if_neg c1, if_pos rfl, if_neg n10]
    exact ⟨_, _, _, rfl, rfl, hR0⟩
theorem s_dies : ∀ (v0 : Int32) (v1 : Int32) (v2 : Int32) (hx hm : tr_H), Rl hx hm → ∃ (r0 : Int32) (gx gm : tr_H), f_X7_dies v0 v1 v2 hx = some (r0, gx) ∧ f_X8_dies v0 v1 v2 hm = some (r0, gm) ∧ Rl gx gm := by
  intro v0 v1 v2 hx hm hR
  obtain ⟨v, hv, rfl⟩ := ex_iI v0
  obtain ⟨d, hd, rfl⟩ := ex_iI v1
  obtain ⟨p, hp, rfl⟩ := ex_iI v2
  have hR0 := Rl_0 hR
  obtain ⟨m0, em0⟩ : ∃ m0, m0 = tr_si hm 0 0 0 := ⟨_, rfl⟩
  rw [← em0] at hR0
  obtain ⟨n, w, hN, hP⟩ := Rl_net hR0
  have h6 := hN.2.1.2.1
  have i1 := r_inv hp 0 20
  rw [i64_0, i64_20] at i1
  have i2 := r_inv hd 1 30
  rw [i64_1, i64_30] at i2
  unfold f_X7_dies f_X8_dies
  simp only [tr_bd]
  rw [← em0, n_has hN hv.1 hv.2, r_nod hP hv, i1, i2]
  simp only [tr_bn_some]
  by_cases c1 : 0 ≤ v ∧ v < n
  · obtain ⟨a, rfl⟩ : ∃ a : Nat, v = (a : Int) := ⟨v.toNat, by omega⟩
    rw [if_pos c1, if_pos c1, if_neg n10, if_pos rfl]
    by_cases c2 : 1 ≤ d ∧ d ≤ 30
    · rw [if_pos c2, if_neg n10, if_neg (show ¬ iI d < 1 by rw [iI_1, iI_lt (by omega) (by omega) (by omega) (by omega)]; omega), if_neg (show ¬ 30 < iI d by rw [iI_30, iI_lt (by omega) (by omega) (by omega) (by omega)]; omega)]
      by_cases c3 : 0 ≤ p ∧ p ≤ 20
      · rw [if_pos c3, if_neg n10, if_neg (show ¬ iI p < 0 by rw [iI_0, iI_lt (by omega) (by omega) (by omega) (by omega)]; omega), if_pos (show iI p ≤ 20 by rw [iI_20, iI_le (by omega) (by omega) (by omega) (by omega)]; omega)]
        obtain ⟨x1, a1, a2⟩ := w_kept hN c3.1 c3.2
        obtain ⟨m1, b1, b2⟩ := r_isPeriod hP c3.1 (show p ≤ 100 by omega)
        rw [a1, tr_b2_some, b1, tr_b2_some]
        have hN1 := tN_fr a2 (by simp) (by simp) hN
        have hP1 := tP_R b2 hP
        have hR1 := Rl_fr (fr_up a2 (by decide)) (gM_R b2) hR0
        by_cases c4 : pac n w ≤ 60 * p
        · have hk : kept n w p := ⟨c4, c3.1, c3.2⟩
          obtain ⟨x2, d1, d2⟩ := w_lasts (d := d) (at_ := a) hN1 hk (by omega) (by omega)
          obtain ⟨m2, e1, e2⟩ := r_diesOf (d := d) (at_ := a) hP1 hk (by omega) (by omega)
          rw [if_pos c4, if_neg n10, if_neg n10, d1, tr_b2_some, e1, tr_b2_some]
          exact ⟨_, _, _, rfl, rfl, Rl_fr (fr_up d2 (by decide)) (gM_f e2 (by decide) (by decide)) hR1⟩
        · rw [if_neg c4, if_pos rfl, if_pos rfl]
          exact ⟨_, _, _, rfl, rfl, hR1⟩
      · rw [if_neg c3, if_pos rfl]
        refine ⟨-2, hx, m0, ?_, rfl, hR0⟩
        by_cases c4 : p < 0
        · rw [if_pos (show iI p < 0 by rw [iI_0, iI_lt (by omega) (by omega) (by omega) (by omega)]; omega)]
        · rw [if_neg (show ¬ iI p < 0 by rw [iI_0, iI_lt (by omega) (by omega) (by omega) (by omega)]; omega), if_neg (show ¬ iI p ≤ 20 by rw [iI_20, iI_le (by omega) (by omega) (by omega) (by omega)]; omega)]
    · rw [if_neg c2, if_pos rfl]
      refine ⟨-2, hx, m0, ?_, rfl, hR0⟩
      by_cases c4 : d < 1
      · rw [if_pos (show iI d < 1 by rw [iI_1, iI_lt (by omega) (by omega) (by omega) (by omega)]; omega)]
      · rw [if_neg (show ¬ iI d < 1 by rw [iI_1, iI_lt (by omega) (by omega) (by omega) (by omega)]; omega), if_pos (show 30 < iI d by rw [iI_30, iI_lt (by omega) (by omega) (by omega) (by omega)]; omega)]
  · rw [if_neg c1, if_neg c1, if_pos rfl, if_neg n10]
    exact ⟨_, _, _, rfl, rfl, hR0⟩
/-- round by round, on the reference's side -/
theorem r_rounds {h : tr_H} {n : Nat} {w : Nat → Int} {p d : Int} {at_ R : Nat} (hP : tP h 3 n w) (hk : kept n w p) (hT : timP h n w p) (hd : 0 ≤ d ∧ d ≤ 30) (hL : latP h n w p at_ d 0) (hR : R ≤ 40) : ∃ h', tr_lp (fun q => f_X8_late_L97 (iI R) (iI p) q.1 q.2) (iI (0 : Nat), h) = some h' ∧ fr [14, 15] h h' ∧ latP h' n w p at_ d R := by
  obtain ⟨r, k1, k2, k3⟩ := tr_inv (f := fun q => f_X8_late_L97 (iI R) (iI p) q.1 q.2) (fun m s => ∃ h1, s = (iI m, h1) ∧ fr [14, 15] h h1 ∧ latP h1 n w p at_ d m) (fun h1 => fr [14, 15] h h1 ∧ latP h1 n w p at_ d R) (hi := R) (by
    rintro m s hm ⟨h1, rfl, f1, l1⟩
    have hP1 := tP_fr f1 (by simp) hP
    obtain ⟨h2, e2, f2, l2⟩ := r_goRound hP1 hk (fun v hv => by rw [f1.1 13 (by decide)]; exact hT v hv) hd l1
    refine ⟨(iI (m + 1 : Nat), h2), ?_, h2, rfl, fr_tr f1 f2, l2⟩
    show f_X8_late_L97 (iI R) (iI p) (iI m) h1 = _
    unfold f_X8_late_L97
    rw [if_neg (by rw [iI_le (by omega) (by omega) (by omega) (by omega)]; omega), e2, tr_b2_some]
    unfold tr_bd
    rw [iI_1, iI_add]
    rfl) (by
    rintro s ⟨h1, rfl, f1, l1⟩
    refine ⟨h1, ?_, f1, l1⟩
    show f_X8_late_L97 (iI R) (iI p) (iI R) h1 = _
    unfold f_X8_late_L97
    rw [if_pos (Int32.le_refl _)]) 0 (iI (0 : Nat), h) (by omega) ⟨h, rfl, fr_rf _ _, hL⟩
  exact ⟨r, k1, k2, k3⟩
theorem s_late : ∀ (v0 : Int32) (v1 : Int32) (v2 : Int32) (v3 : Int32) (v4 : Int32) (hx hm : tr_H), Rl hx hm → ∃ (r0 : Int32) (gx gm : tr_H), f_X7_late v0 v1 v2 v3 v4 hx = some (r0, gx) ∧ f_X8_late v0 v1 v2 v3 v4 hm = some (r0, gm) ∧ Rl gx gm := by
  intro v0 v1 v2 v3 v4 hx hm hR
  obtain ⟨v, hv, rfl⟩ := ex_iI v0
  obtain ⟨d, hd, rfl⟩ := ex_iI v1
  obtain ⟨p, hp, rfl⟩ := ex_iI v2
  obtain ⟨u, hu, rfl⟩ := ex_iI v3
  obtain ⟨r, hr, rfl⟩ := ex_iI v4
  have hR0 := Rl_0 hR
  obtain ⟨m0, em0⟩ : ∃ m0, m0 = tr_si hm 0 0 0 := ⟨_, rfl⟩
  rw [← em0] at hR0
  obtain ⟨n, w, hN, hP⟩ := Rl_net hR0
  have h6 := hN.2.1.2.1
  have i1 := r_inv hp 0 20
  rw [i64_0, i64_20] at i1
  have i2 := r_inv hd 1 30
  rw [i64_1, i64_30] at i2
  have i3 := r_inv hr 0 40
  rw [i64_0, i64_40] at i3
  unfold f_X7_late f_X8_late
  simp only [tr_bd]
  rw [← em0, n_has hN hv.1 hv.2, n_has hN hu.1 hu.2, r_nod hP hv, r_nod hP hu, i1, i2, i3]
  simp only [tr_bn_some]
  by_cases c1 : 0 ≤ v ∧ v < n
  · by_cases c1' : 0 ≤ u ∧ u < n
    · obtain ⟨a, rfl⟩ : ∃ a : Nat, v = (a : Int) := ⟨v.toNat, by omega⟩
      obtain ⟨b, rfl⟩ : ∃ b : Nat, u = (b : Int) := ⟨u.toNat, by omega⟩
      rw [if_pos c1, if_pos c1, if_pos c1', if_pos c1', if_neg n10, if_neg n10, if_pos rfl, if_pos rfl]
      by_cases c2 : 1 ≤ d ∧ d ≤ 30
      · rw [if_pos c2, if_neg n10, if_neg (show ¬ iI d < 1 by rw [iI_1, iI_lt (by omega) (by omega) (by omega) (by omega)]; omega), if_neg (show ¬ 30 < iI d by rw [iI_30, iI_lt (by omega) (by omega) (by omega) (by omega)]; omega)]
        by_cases c3 : 0 ≤ p ∧ p ≤ 20
        · rw [if_pos c3, if_neg n10, if_neg (show ¬ iI p < 0 by rw [iI_0, iI_lt (by omega) (by omega) (by omega) (by omega)]; omega), if_pos (show iI p ≤ 20 by rw [iI_20, iI_le (by omega) (by omega) (by omega) (by omega)]; omega)]
          by_cases c5 : 0 ≤ r ∧ r ≤ 40
          · obtain ⟨R, rfl⟩ : ∃ R : Nat, r = (R : Int) := ⟨r.toNat, by omega⟩
            rw [if_pos c5, if_neg n10, if_neg (show ¬ iI (R : Int) < 0 by rw [iI_0, iI_lt (by omega) (by omega) (by omega) (by omega)]; omega), if_pos (show iI (R : Int) ≤ 40 by rw [iI_40, iI_le (by omega) (by omega) (by omega) (by omega)]; omega)]
            obtain ⟨x1, a1, a2⟩ := w_kept hN c3.1 c3.2
            obtain ⟨m1, b1, b2⟩ := r_isPeriod hP c3.1 (show p ≤ 100 by omega)
            rw [a1, tr_b2_some, b1, tr_b2_some]
            have hN1 := tN_fr a2 (by simp) (by simp) hN
            have hP1 := tP_R b2 hP
            have hR1 := Rl_fr (fr_up a2 (by decide)) (gM_R b2) hR0
            by_cases c4 : pac n w ≤ 60 * p
            · have hk : kept n w p := ⟨c4, c3.1, c3.2⟩
              obtain ⟨x2, d1, d2, d3⟩ := w_set hN1 hk
              obtain ⟨m2, e1, e2, e3⟩ := r_set hP1 hk
              have hN2 := tN_fr d2 (by simp) (by simp) hN1
              have hP2 := tP_fr e2 (by simp) hP1
              obtain ⟨g, f1, f2⟩ := w_spread hN2 hk d3 (at_ := a) (by omega) (show R ≤ 40 by omega)
              have lx := w_lateness (h := tr_sa x2 26 g) (d := d) (r := R) (v := b) hN.2.1 hk (by omega) (by rw [tr_sa_at]; exact f2) (Nat.le_refl _) (by omega) (by omega)
              obtain ⟨m3, g1, g2, g3⟩ := r_beginLate (h := m2) (n := n) (w := w) (p := p) (d := d) (at_ := a) (by omega)
              have hP3 := tP_fr g2 (by simp) hP2
              obtain ⟨m4, j1, j2, j3⟩ := r_rounds hP3 hk (fun v hv => by rw [g2.1 13 (by decide)]; exact e3 v hv) (by omega) g3 (show R ≤ 40 by omega)
              rw [if_pos c4, if_neg n10, if_neg n10, d1, tr_bn_some, e1, tr_bn_some, f1, tr_bn_some, lx, tr_bn_some, g1, tr_bn_some, show ((0 : Int32), m3) = (iI (0 : Nat), m3) from rfl, j1, tr_bn_some]
              unfold f_X8_late_E120
              rw [tr_gdI (by omega) (by omega) (by omega), iI_ix (by omega), j3 b (by omega)]
              refine ⟨_, _, _, rfl, rfl, Rl_fr (fr_tr (fr_up d2 (by decide)) (fr_sa _ _ (by decide))) (gM_tr (gM_f e2 (by decide) (by decide)) (gM_tr (gM_f g2 (by decide) (by decide)) (gM_f j2 (by decide) (by decide)))) hR1⟩
            · rw [if_neg c4, if_pos rfl, if_pos rfl]
              exact ⟨_, _, _, rfl, rfl, hR1⟩
          · rw [if_neg c5, if_pos rfl]
            refine ⟨-2, hx, m0, ?_, rfl, hR0⟩
            by_cases c4 : r < 0
            · rw [if_pos (show iI r < 0 by rw [iI_0, iI_lt (by omega) (by omega) (by omega) (by omega)]; omega)]
            · rw [if_neg (show ¬ iI r < 0 by rw [iI_0, iI_lt (by omega) (by omega) (by omega) (by omega)]; omega), if_neg (show ¬ iI r ≤ 40 by rw [iI_40, iI_le (by omega) (by omega) (by omega) (by omega)]; omega)]
        · rw [if_neg c3, if_pos rfl]
          refine ⟨-2, hx, m0, ?_, rfl, hR0⟩
          by_cases c4 : p < 0
          · rw [if_pos (show iI p < 0 by rw [iI_0, iI_lt (by omega) (by omega) (by omega) (by omega)]; omega)]
          · rw [if_neg (show ¬ iI p < 0 by rw [iI_0, iI_lt (by omega) (by omega) (by omega) (by omega)]; omega), if_neg (show ¬ iI p ≤ 20 by rw [iI_20, iI_le (by omega) (by omega) (by omega) (by omega)]; omega)]
      · rw [if_neg c2, if_pos rfl]
        refine ⟨-2, hx, m0, ?_, rfl, hR0⟩
        by_cases c4 : d < 1
        · rw [if_pos (show iI d < 1 by rw [iI_1, iI_lt (by omega) (by omega) (by omega) (by omega)]; omega)]
        · rw [if_neg (show ¬ iI d < 1 by rw [iI_1, iI_lt (by omega) (by omega) (by omega) (by omega)]; omega), if_pos (show 30 < iI d by rw [iI_30, iI_lt (by omega) (by omega) (by omega) (by omega)]; omega)]
    · rw [if_pos c1, if_pos c1, if_neg c1', if_neg c1', if_neg n10, if_pos rfl, if_pos rfl, if_neg n10]
      exact ⟨_, _, _, rfl, rfl, hR0⟩
  · rw [if_neg c1, if_neg c1, if_pos rfl, if_neg n10]
    exact ⟨_, _, _, rfl, rfl, hR0⟩
end
section
/-! about: a look at each wait -/
theorem cnt_cg {p q : Nat → Bool} : ∀ k, (∀ j, j < k → p j = q j) → cnt p k = cnt q k := by
  intro k
  induction k with
  | zero => intro _; rfl
  | succ k ih =>
    intro h
    unfold cnt
    rw [ih (fun j hj => h j (by omega)), h k (by omega)]
theorem cnt_no {p : Nat → Bool} {m : Nat} : ∀ d, (∀ j, m ≤ j → j < m + d → p j = false) → cnt p (m + d) = cnt p m := by
  intro d
  induction d with
  | zero => intro _; rfl
  | succ d ih =>
    intro h
    show cnt p (m + d) + (if p (m + d) then 1 else 0) = _
    rw [ih (fun j h1 h2 => h j h1 (by omega)), h (m + d) (by omega) (by omega)]
    rfl
theorem tb_eq {a b : Bool} (h : a = true ↔ b = true) : a = b := by
  cases a <;> cases b <;> simp_all
noncomputable def pB (P : Prop) : Bool := @decide P (Classical.propDecidable P)
theorem pB_t {P : Prop} (h : P) : pB P = true := @decide_eq_true P (Classical.propDecidable P) h
theorem pB_f {P : Prop} (h : ¬ P) : pB P = false := @decide_eq_false P (Classical.propDecidable P) h
theorem pB_i {P : Prop} : pB P = true ↔ P := ⟨fun h => Classical.byContradiction (fun q => by rw [pB_f q] at h; exact absurd h (by decide)), pB_t⟩
noncomputable def svB (n : Nat) (w : Nat → Int) (c : Nat) : Bool := pB (c / 6 < n ∧ c % 6 < n ∧ w c ≠ -9 ∧ ¬ onR n w (c / 6) (c % 6))
noncomputable def crB (n : Nat) (w : Nat → Int) (c : Nat) : Bool := pB (crR n w (c / 6) (c % 6))
noncomputable def ddN (n : Nat) (w : Nat → Int) (m : Nat) : Nat := itr (fun c a => if crB n w c then a ||| 2 ^ (c / 6) else a) m 0
section ABT
variable {n : Nat} {w : Nat → Int}
theorem crR_lt {a b : Nat} (h : crR n w a b) : a < n ∧ b < n := eB_b _ _ (onR_ed (crR_on h))
theorem svB_out {c : Nat} (h : n ≤ c / 6 ∨ n ≤ c % 6) : svB n w c = false := pB_f (fun q => by omega)
theorem crB_out {c : Nat} (h : n ≤ c / 6 ∨ n ≤ c % 6) : crB n w c = false := pB_f (fun q => by have := crR_lt q; omega)
theorem ddN_no {m : Nat} : ∀ d, (∀ j, m ≤ j → j < m + d → crB n w j = false) → ddN n w (m + d) = ddN n w m := by
  intro d
  induction d with
  | zero => intro _; rfl
  | succ d ih =>
    intro h
    have h1 := ih (fun j h1 h2 => h j h1 (by omega))
    show (if crB n w (m + d) then ddN n w (m + d) ||| 2 ^ ((m + d) / 6) else ddN n w (m + d)) = _
    rw [h (m + d) (by omega) (by omega), h1]
    rfl
theorem ddN_t (a : Nat) : ∀ m, (ddN n w m).testBit a = true ↔ ∃ c, c < m ∧ crB n w c = true ∧ c / 6 = a := by
  intro m
  induction m with
  | zero =>
    constructor
    · intro h
      simp [ddN, itr] at h
    · rintro ⟨c, h, -⟩
      omega
  | succ m ih =>
    have e : ddN n w (m + 1) = if crB n w m then ddN n w m ||| 2 ^ (m / 6) else ddN n w m := rfl
    rw [e]
    by_cases c : crB n w m = true
    · rw [if_pos c, or_t, ih]
      constructor
      · rintro (⟨c', h1, h2⟩ | h)
        · exact ⟨c', by omega, h2⟩
        · exact ⟨m, by omega, c, h.symm⟩
      · rintro ⟨c', h1, h2, h3⟩
        by_cases q : c' = m
        · subst q
          exact Or.inr h3.symm
        · exact Or.inl ⟨c', by omega, h2, h3⟩
    · rw [if_neg c, ih]
      constructor
      · rintro ⟨c', h1, h2⟩
        exact ⟨c', by omega, h2⟩
      · rintro ⟨c', h1, h2, h3⟩
        have q : c' ≠ m := fun q => by subst q; exact c h2
        exact ⟨c', by omega, h2, h3⟩
/-- the three numbers, as far as a cell -/
noncomputable def tri (n : Nat) (w : Nat → Int) (m : Nat) : Int32 × Int32 × Int32 := (iI (cnt (svB n w) m : Nat), iI (cnt (crB n w) m : Nat), iI (ddN n w m : Nat))
theorem tri_no {m d : Nat} (h : ∀ j, m ≤ j → j < m + d → n ≤ j / 6 ∨ n ≤ j % 6) : tri n w (m + d) = tri n w m := by
  unfold tri
  rw [cnt_no d (fun j h1 h2 => svB_out (h j h1 h2)), cnt_no d (fun j h1 h2 => crB_out (h j h1 h2)), ddN_no d (fun j h1 h2 => crB_out (h j h1 h2))]
theorem tri_36 (h6 : n ≤ 6) : tri n w (6 * n) = tri n w 36 := by
  have := tri_no (n := n) (w := w) (m := 6 * n) (d := 36 - 6 * n) (fun j h1 h2 => by omega)
  rw [show 6 * n + (36 - 6 * n) = 36 by omega] at this
  exact this.symm
theorem tri_row (h6 : n ≤ 6) {f : Nat} : tri n w (6 * f + n) = tri n w (6 * (f + 1)) := by
  have := tri_no (n := n) (w := w) (m := 6 * f + n) (d := 6 - n) (fun j h1 h2 => by omega)
  rw [show 6 * f + n + (6 - n) = 6 * (f + 1) by omega] at this
  exact this.symm
theorem w_each {H : tr_H} (hH : gainsH H 2 n w) {f : Nat} (hf : f < n) {t : Nat} (ht : t < n) : f_X7_aboutEachWait_L36 H (iI f) (tri n w (6 * f + t)).1 (tri n w (6 * f + t)).2.1 (tri n w (6 * f + t)).2.2 (iI t) = some (.inl ((tri n w (6 * f + t + 1)).1, (tri n w (6 * f + t + 1)).2.1, (tri n w (6 * f + t + 1)).2.2, iI (t + 1 : Nat))) := by
  have hw := hH.1.2.1
  have h6 := hw.2.1
  have ho := n_of hH.1 (a := (f : Int)) (b := (t : Int)) (by omega) (by omega) (by omega) (by omega)
  rw [woI_in hf ht] at ho
  have b3 := okn_b hw (c := 6 * f + t) (by omega)
  have e1 : (6 * f + t) / 6 = f := by omega
  have e2 : (6 * f + t) % 6 = t := by omega
  have hcr := w_isCritical hH (a := f) (b := t) (by omega) (by omega)
  have hJ : ∀ s : Int32, f_X7_aboutEachWait_J81 (iI f) (iI t) H (tri n w (6 * f + t)).2.1 (tri n w (6 * f + t)).2.2 s = some (.inl (s, (tri n w (6 * f + t + 1)).2.1, (tri n w (6 * f + t + 1)).2.2, iI (t + 1 : Nat))) := by
    intro s
    unfold f_X7_aboutEachWait_J81 tri
    by_cases c : crR n w f t
    · have cb : crB n w (6 * f + t) = true := by unfold crB; rw [e1, e2]; exact pB_t c
      have z1 : cnt (crB n w) (6 * f + t + 1) = cnt (crB n w) (6 * f + t) + 1 := by
        show cnt (crB n w) (6 * f + t) + (if crB n w (6 * f + t) then 1 else 0) = _
        rw [if_pos cb]
      have z2 : ddN n w (6 * f + t + 1) = ddN n w (6 * f + t) ||| 2 ^ f := by
        show (if crB n w (6 * f + t) then ddN n w (6 * f + t) ||| 2 ^ ((6 * f + t) / 6) else ddN n w (6 * f + t)) = _
        rw [if_pos cb, e1]
      rw [hcr.1 c, tr_bn_some, if_neg n10, z1, z2]
      simp only [tr_bd]
      rw [orb (by omega), iI_1, iI_add, iI_add]
      rfl
    · have cb : crB n w (6 * f + t) = false := by unfold crB; rw [e1, e2]; exact pB_f c
      have z1 : cnt (crB n w) (6 * f + t + 1) = cnt (crB n w) (6 * f + t) := by
        show cnt (crB n w) (6 * f + t) + (if crB n w (6 * f + t) then 1 else 0) = _
        rw [cb]; rfl
      have z2 : ddN n w (6 * f + t + 1) = ddN n w (6 * f + t) := by
        show (if crB n w (6 * f + t) then ddN n w (6 * f + t) ||| 2 ^ ((6 * f + t) / 6) else ddN n w (6 * f + t)) = _
        rw [cb]; rfl
      rw [hcr.2 c, tr_bn_some, if_pos rfl, z1, z2]
      simp only [tr_bd]
      rw [iI_1, iI_add]
      rfl
  unfold f_X7_aboutEachWait_L36
  rw [hH.1.2.2.1, if_neg (by rw [iI_le (by omega) (by omega) (by omega) (by omega)]; omega), ho, tr_bn_some]
  have hsv : ∀ b : Bool, svB n w (6 * f + t) = b → (tri n w (6 * f + t + 1)).1 = iI ((cnt (svB n w) (6 * f + t) + (if b then 1 else 0) : Nat) : Int) := by
    intro b hb
    show iI ((cnt (svB n w) (6 * f + t) + (if svB n w (6 * f + t) then 1 else 0) : Nat) : Int) = _
    rw [hb]
  by_cases c : w (6 * f + t) = -9
  · rw [c, if_pos (show iI (-9) = -9 from rfl), hJ, hsv false (pB_f (fun q => q.2.2.1 c))]
    rfl
  · have he : eP (eB n w) f t := by simp [eP, eB]; exact ⟨hf, ht, c⟩
    have hcb := w_comesBack hH he
    rw [if_neg (show ¬ iI (w (6 * f + t)) = -9 by rw [iI_m9, iI_eq (by omega) (by omega) (by omega) (by omega)]; exact c)]
    by_cases c2 : onR n w f t
    · rw [hcb.1 c2, tr_bn_some, if_neg n10, hJ, hsv false (pB_f (fun q => q.2.2.2 (by rw [e1, e2]; exact c2)))]
      rfl
    · rw [hcb.2 c2, tr_bn_some, if_pos rfl]
      simp only [tr_bd]
      rw [hJ, hsv true (pB_t ⟨by omega, by omega, c, by rw [e1, e2]; exact c2⟩)]
      unfold tri
      dsimp only
      rw [iI_1, iI_add]
      rfl
theorem w_eachAll {h : tr_H} (hN : tN h 2 n w) (v : Int32) : ∃ h', f_X7_aboutEachWait v h = some (if v = 3 then (tri n w 36).1 else if v = 4 then (tri n w 36).2.1 else (tri n w 36).2.2, h') ∧ fr LX h h' := by
  have hw := hN.2.1
  have h6 := hw.2.1
  obtain ⟨f, g, k1, k2⟩ := w_comp hN
  have fx : fr LX h (tr_sa (tr_si (tr_sa h 22 f) 21 2 (iI (pac n w))) 23 g) := fr_tr (b := tr_si (tr_sa h 22 f) 21 2 (iI (pac n w))) (fr_tr (b := tr_sa h 22 f) (fr_sa _ _ (by decide)) (fr_si _ _ _ (by decide))) (fr_sa _ _ (by decide))
  generalize tr_sa (tr_si (tr_sa h 22 f) 21 2 (iI (pac n w))) 23 g = H at k1 k2 fx
  refine ⟨H, ?_, fx⟩
  have hin : ∀ f, f < n → tr_lp (fun q => f_X7_aboutEachWait_L36 H (iI f) q.1 q.2.1 q.2.2.1 q.2.2.2) ((tri n w (6 * f)).1, (tri n w (6 * f)).2.1, (tri n w (6 * f)).2.2, iI (0 : Nat)) = some (tri n w (6 * (f + 1))) := by
    intro f hf
    have key := tr_seq (f := fun q => f_X7_aboutEachWait_L36 H (iI f) q.1 q.2.1 q.2.2.1 q.2.2.2) (fun t => ((tri n w (6 * f + t)).1, (tri n w (6 * f + t)).2.1, (tri n w (6 * f + t)).2.2, iI t)) (lo := 0) (hi := n) (r := tri n w (6 * f + n)) (by omega) (fun t _ ht => w_each k2 hf ht) (by
      show f_X7_aboutEachWait_L36 H (iI f) _ _ _ (iI n) = _
      unfold f_X7_aboutEachWait_L36
      rw [k2.1.2.2.1, if_pos (Int32.le_refl _)])
    rw [tri_row h6] at key
    exact key
  have key := tr_seq (f := fun q => f_X7_aboutEachWait_L21 H q.1 q.2.1 q.2.2.1 q.2.2.2) (fun f => ((tri n w (6 * f)).1, (tri n w (6 * f)).2.1, (tri n w (6 * f)).2.2, iI f)) (lo := 0) (hi := n) (r := tri n w (6 * n)) (by omega) (fun f _ hf => by
    show f_X7_aboutEachWait_L21 H _ _ _ (iI f) = _
    unfold f_X7_aboutEachWait_L21
    rw [k2.1.2.2.1, if_neg (by rw [iI_le (by omega) (by omega) (by omega) (by omega)]; omega), show ((tri n w (6 * f)).1, (tri n w (6 * f)).2.1, (tri n w (6 * f)).2.2, (0 : Int32)) = ((tri n w (6 * f)).1, (tri n w (6 * f)).2.1, (tri n w (6 * f)).2.2, iI (0 : Nat)) from rfl, hin f hf, tr_bn_some]
    unfold f_X7_aboutEachWait_E117 tr_bd
    rw [iI_1, iI_add]
    rfl) (by
    show f_X7_aboutEachWait_L21 H _ _ _ (iI n) = _
    unfold f_X7_aboutEachWait_L21
    rw [k2.1.2.2.1, if_pos (Int32.le_refl _)])
  unfold f_X7_aboutEachWait
  rw [k1, tr_bn_some, show ((0 : Int32), (0 : Int32), (0 : Int32), (0 : Int32)) = ((tri n w (6 * 0)).1, (tri n w (6 * 0)).2.1, (tri n w (6 * 0)).2.2, iI (0 : Nat)) from rfl, key, tr_bn_some, tri_36 h6]
  unfold f_X7_aboutEachWait_E123
  by_cases c3 : v = 3
  · rw [if_pos c3, if_pos c3]
  · rw [if_neg c3, if_neg c3]
    by_cases c4 : v = 4
    · rw [if_pos c4, if_pos c4]
    · rw [if_neg c4, if_neg c4]
/-- the same three by the reference's bits -/
theorem tri_bits (hw : okn n w) {rwt cw cd : Nat} (h1 : ∀ a b, a < 6 → b < 6 → (rwt.testBit (6 * a + b) = true ↔ onR n w a b)) (h2 : ∀ a b, a < 6 → b < 6 → (cw.testBit (6 * a + b) = true ↔ crR n w a b)) (h3 : ∀ a, cd.testBit a = true ↔ ∃ b, crR n w a b) : tri n w 36 = (iI (nwt w) - iI (pcn rwt 36), iI (pcn cw 36), iI cd) := by
  have h6 := hw.2.1
  have ec : ∀ c, c < 36 → c = 6 * (c / 6) + c % 6 := fun c _ => by omega
  have s1 : ∀ k, k ≤ 36 → cnt (fun c => decide (w c ≠ -9)) k = cnt (svB n w) k + cnt (fun j => rwt.testBit j) k := by
    intro k
    induction k with
    | zero => intro _; rfl
    | succ k ih =>
      intro hk
      have hb := h1 (k / 6) (k % 6) (by omega) (by omega)
      rw [← ec k (by omega)] at hb
      show cnt (fun c => decide (w c ≠ -9)) k + (if decide (w k ≠ -9) then 1 else 0) = (cnt (svB n w) k + (if svB n w k then 1 else 0)) + (cnt (fun j => rwt.testBit j) k + (if rwt.testBit k then 1 else 0))
      rw [ih (by omega)]
      by_cases c : onR n w (k / 6) (k % 6)
      · have c2 : w k ≠ -9 := by
          have := onR_ed c
          simp [eP, eB] at this
          rw [ec k (by omega)]
          exact this.2.2
        rw [if_pos (decide_eq_true c2), show svB n w k = false from pB_f (fun q => q.2.2.2 c), hb.mpr c]
        simp
        omega
      · have c3 : rwt.testBit k = false := by
          apply Classical.byContradiction
          intro q
          exact c (hb.mp (nfb q))
        rw [c3]
        by_cases c2 : w k = -9
        · rw [show svB n w k = false from pB_f (fun q => q.2.2.1 c2)]
          simp [c2]
        · have hlt : k / 6 < n ∧ k % 6 < n := by
            apply Classical.byContradiction
            intro q
            exact c2 ((hw.2.2 k (by omega)).2 (by omega))
          rw [show svB n w k = true from pB_t ⟨hlt.1, hlt.2, c2, c⟩]
          simp [c2]
          omega
  have s2 : cnt (crB n w) 36 = pcn cw 36 := by
    rw [pcn_cnt]
    refine cnt_cg 36 (fun j hj => ?_)
    have hb := h2 (j / 6) (j % 6) (by omega) (by omega)
    rw [← ec j hj] at hb
    by_cases c : crR n w (j / 6) (j % 6)
    · rw [hb.mpr c]; exact pB_t c
    · have : cw.testBit j = false := by
        apply Classical.byContradiction
        intro q
        exact c (hb.mp (nfb q))
      rw [this]; exact pB_f c
  have s3 : ddN n w 36 = cd := by
    apply Nat.eq_of_testBit_eq
    intro i
    have : (ddN n w 36).testBit i = true ↔ cd.testBit i = true := by
      rw [ddN_t, h3]
      constructor
      · rintro ⟨c, q1, q2, rfl⟩
        exact ⟨c % 6, pB_i.mp q2⟩
      · rintro ⟨b, q⟩
        have hl := crR_lt q
        refine ⟨6 * i + b, by omega, ?_, by omega⟩
        unfold crB
        rw [show (6 * i + b) / 6 = i by omega, show (6 * i + b) % 6 = b by omega]
        exact pB_t q
    exact tb_eq this
  have s4 := s1 36 (Nat.le_refl _)
  unfold tri
  rw [s2, s3, iI_sub]
  unfold nwt
  rw [s4, pcn_cnt rwt, show ((cnt (svB n w) 36 + cnt (fun j => rwt.testBit j) 36 : Nat) : Int) - ((cnt (fun j => rwt.testBit j) 36 : Nat) : Int) = ((cnt (svB n w) 36 : Nat) : Int) by omega]
end ABT
/-- the least period, on the reference's side -/
theorem r_least {h : tr_H} {n : Nat} {w : Nat → Int} (hP : tP h 3 n w) : ∃ h', f_X8_leastPeriod h = some (iI ((max 0 (pac n w) + 60 - 1) / 60), h') ∧ mR h h' := by
  have hb := pac_b hP.2.1
  obtain ⟨q, eq⟩ : ∃ q : Nat, (max 0 (pac n w) + 60 - 1) / 60 = (q : Int) := ⟨((max 0 (pac n w) + 60 - 1) / 60).toNat, by omega⟩
  obtain ⟨r, k1, h1, k2, k3⟩ := tr_inv (f := fun z => f_X8_leastPeriod_L2 z.1 z.2) (fun m s => ∃ h1, s = (iI m, h1) ∧ mR h h1) (fun s => ∃ h1, s = (iI q, h1) ∧ mR h h1) (hi := q) (by
    rintro m s hm ⟨h1, rfl, f1⟩
    obtain ⟨h2, e2, f2⟩ := r_isPeriod (tP_R f1 hP) (d := (m : Int)) (by omega) (by omega)
    refine ⟨(iI (m + 1 : Nat), h2), ?_, h2, rfl, mR_tr f1 f2⟩
    show f_X8_leastPeriod_L2 (iI m) h1 = _
    unfold f_X8_leastPeriod_L2
    rw [e2, tr_b2_some, if_neg (show ¬ pac n w ≤ 60 * (m : Int) by omega), if_pos rfl]
    unfold tr_bd
    rw [iI_1, iI_add]
    rfl) (by
    rintro s ⟨h1, rfl, f1⟩
    obtain ⟨h2, e2, f2⟩ := r_isPeriod (tP_R f1 hP) (d := (q : Int)) (by omega) (by omega)
    refine ⟨(iI q, h2), ?_, h2, rfl, mR_tr f1 f2⟩
    show f_X8_leastPeriod_L2 (iI q) h1 = _
    unfold f_X8_leastPeriod_L2
    rw [e2, tr_b2_some, if_pos (show pac n w ≤ 60 * (q : Int) by omega), if_neg n10]) 0 (iI (0 : Nat), h) (by omega) ⟨h, rfl, mR_rf h⟩
  refine ⟨h1, ?_, k3⟩
  unfold f_X8_leastPeriod
  rw [show ((0 : Int32), h) = (iI (0 : Nat), h) from rfl, k1, tr_bn_some, k2, eq]
  rfl
theorem s_about : ∀ (v0 : Int32) (hx hm : tr_H), Rl hx hm → ∃ (r0 : Int32) (gx gm : tr_H), f_X7_about v0 hx = some (r0, gx) ∧ f_X8_about v0 hm = some (r0, gm) ∧ Rl gx gm := by
  intro v0 hx hm hR
  have hR0 := Rl_0 hR
  obtain ⟨m0, em0⟩ : ∃ m0, m0 = tr_si hm 0 0 0 := ⟨_, rfl⟩
  rw [← em0] at hR0
  obtain ⟨n0, w0, hN0, hP0⟩ := Rl_net hR0
  obtain ⟨S, B, m1, b1, b2, b7, -⟩ := r_find hP0
  have hR1 := Rl_fr (fr_rf _ _) (gM_R b2) hR0
  have hP1 := tP_R b2 hP0
  unfold f_X7_about f_X8_about
  simp only [tr_bd]
  rw [← em0, b1, tr_bn_some]
  by_cases c0 : v0 = 0
  · rw [if_pos c0, if_pos c0, show (0 : Int32).toNatClampNeg = 0 from rfl, hN0.2.2.1, hP1.2.2.1]
    exact ⟨_, _, _, rfl, rfl, hR1⟩
  rw [if_neg c0, if_neg c0]
  by_cases c1 : v0 = 1
  · rw [if_pos c1, if_pos c1, n_waits hN0, tr_bn_some, r_waits hP1, tr_bn_some]
    exact ⟨_, _, _, rfl, rfl, hR1⟩
  rw [if_neg c1, if_neg c1]
  by_cases c2 : v0 = 2
  · obtain ⟨x1, a1, a2, a3, -⟩ := w_fill hN0
    rw [if_pos c2, if_pos c2, a1, tr_bn_some, a3, b7.1]
    exact ⟨_, _, _, rfl, rfl, Rl_fr (fr_up a2 (by decide)) (gM_rf _) hR1⟩
  rw [if_neg c2, if_neg c2]
  obtain ⟨rwt, cw, cd, e1, e2, e3, e4, e5, e6, e7, e8, e9⟩ := rF_bits hP0.2.1 b7
  have hT := tri_bits hP0.2.1 e7 e8 e9
  obtain ⟨x1, a1, a2⟩ := w_eachAll hN0 v0
  have hR2 := Rl_fr a2 (gM_rf _) hR1
  by_cases c3 : v0 = 3
  · rw [if_pos c3, if_pos c3, a1, tr_b2_some, if_pos c3, r_waits hP1, tr_bn_some, e3, r_many e4 (by decide), tr_bn_some, hT]
    exact ⟨_, _, _, rfl, rfl, hR2⟩
  rw [if_neg c3, if_neg c3]
  by_cases c4 : v0 = 4
  · rw [if_pos c4, if_pos c4, a1, tr_b2_some, if_neg c3, if_pos c4, e1, r_many e5 (by decide), tr_bn_some, hT]
    exact ⟨_, _, _, rfl, rfl, hR2⟩
  rw [if_neg c4, if_neg c4]
  by_cases c5 : v0 = 5
  · rw [if_pos c5, if_pos c5, a1, tr_b2_some, if_neg c3, if_neg c4, e2, hT, ← iI_nat]
    exact ⟨_, _, _, rfl, rfl, hR2⟩
  rw [if_neg c5, if_neg c5]
  by_cases c6 : v0 = 6
  · have hb := pac_b hN0.2.1
    obtain ⟨x2, d1, d2⟩ := w_slow hN0
    obtain ⟨m2, g1, g2⟩ := r_least hP1
    rw [if_pos c6, if_pos c6, g1, tr_b2_some]
    unfold f_X7_leastPeriod
    simp only [tr_bd]
    rw [d1, tr_b2_some, tr_b2_some, iI_0, tr_maxI (by omega) (by omega) (by omega) (by omega), iI_60, iI_add, iI_1, iI_sub, iI_div (by omega) (by omega) (by omega) (by omega)]
    exact ⟨_, _, _, rfl, rfl, Rl_fr (fr_up d2 (by decide)) (gM_R g2) hR1⟩
  rw [if_neg c6, if_neg c6]
  have hR3 := hR1
  obtain ⟨⟨n, w, -, D, W, d1, d2, d3, -⟩, ⟨L, tx, ⟨-, ⟨t3, -⟩, t5, -⟩⟩, -, ⟨Z, z1, z2, z3, -⟩, -⟩ := hR1
  by_cases c7 : v0 = 7
  · rw [if_pos c7, if_pos c7, d2, d3]
    exact ⟨_, _, _, rfl, rfl, hR3⟩
  rw [if_neg c7, if_neg c7]
  by_cases c8 : v0 = 8
  · rw [if_pos c8, if_pos c8, z2, z3]
    exact ⟨_, _, _, rfl, rfl, hR3⟩
  rw [if_neg c8, if_neg c8]
  by_cases c9 : v0 = 9
  · rw [if_pos c9, if_pos c9, t3, t5]
    exact ⟨_, _, _, rfl, rfl, hR3⟩
  rw [if_neg c9, if_neg c9]
  exact ⟨_, _, _, rfl, rfl, hR3⟩
end
section
/-! what is tried: best, drawn -/
theorem r_begin {h : tr_H} {n : Nat} {w : Nat → Int} (hP : tP h 3 n w) : ∃ h', f_X8_begin h = some h' ∧ fr [4] h h' ∧ tP h' 4 n w := by
  obtain ⟨h', j1, j2, j3, -⟩ := cpy (f := fun q => f_X8_begin_L2 q.1 q.2) (src := 3) (dst := 4) (so := 0) (off := 0) (N := 37) (by decide) h (by
    intro m h2 hm f2
    show f_X8_begin_L2 (iI m) h2 = _
    unfold f_X8_begin_L2
    rw [if_neg (by rw [iI_37, iI_le (by omega) (by omega) (by omega) (by omega)]; omega)]
    simp (disch := omega) only [tr_bd, tr_gdI, iI_ix]
    rw [iI_1, iI_add, show 0 + m = m by omega]
    rfl) (by
    intro h2 f2
    rfl)
  refine ⟨h', ?_, j2, Or.inr (Or.inr rfl), hP.2.1, ?_, fun c hc => ?_⟩
  · unfold f_X8_begin
    rw [show ((0 : Int32), h) = (iI (0 : Nat), h) from rfl, j1]
    rfl
  · exact (j3 0 (by decide)).trans hP.2.2.1
  · have := j3 (1 + c) (by omega)
    rw [show (0 : Nat) + (1 + c) = 1 + c by omega] at this
    exact this.trans (hP.2.2.2 c hc)
theorem r_sixP {h : tr_H} {n : Nat} {w : Nat → Int} {q : Nat} (hP : tP h q n w) : ∃ h', f_X8_sixtiethsOf q 63 h = some (iI (pac n w), h') ∧ mR h h' := by
  have h6 := hP.2.1.2.1
  obtain ⟨P, h', k1, k2, k3⟩ := r_sixt (mask := 63) (by decide) hP
  have e := isPace_one k3 (pac_isPace hP.2.1 (fun y hy => m63 y (by omega)))
  subst e
  exact ⟨h', k1, k2⟩
abbrev skp (how : Int) (w : Nat → Int) (c : Nat) : Prop := w c = -9 ∨ (how = 0 ∧ w c = 0)
def tri1 (how : Int) (w : Nat → Int) (c : Nat) : Nat → Int := wup w c (if how = 0 then w c - 1 else -9)
def bst (how : Int) (n : Nat) (w : Nat → Int) (c : Nat) (s : Int × Int) : Int × Int := if skp how w c then s else if pac n (tri1 how w c) < s.2 then ((10 * (c / 6) + c % 6 : Nat), pac n (tri1 how w c)) else s
def bsF (how : Int) (n : Nat) (w : Nat → Int) (m : Nat) : Int × Int := itr (bst how n w) m (-9, 1000000)
section BST
variable {how : Int} {n : Nat} {w : Nat → Int}
theorem bsF_s (m : Nat) : bsF how n w (m + 1) = bst how n w m (bsF how n w m) := rfl
theorem bsF_no {m : Nat} : ∀ d, (∀ j, m ≤ j → j < m + d → w j = -9) → bsF how n w (m + d) = bsF how n w m := by
  intro d
  induction d with
  | zero => intro _; rfl
  | succ d ih =>
    intro h
    show bst how n w (m + d) (bsF how n w (m + d)) = _
    rw [ih (fun j h1 h2 => h j h1 (by omega))]
    unfold bst
    rw [if_pos (Or.inl (h (m + d) (by omega) (by omega)))]
theorem tri1_ok (hw : okn n w) {c : Nat} (hc : c < 36) (hs : ¬ skp how w c) (hh : how = 0 ∨ how = 1) : c / 6 < n ∧ c % 6 < n ∧ okn n (tri1 how w c) ∧ ((if how = 0 then w c - 1 else -9) = -9 ∨ (0 ≤ (if how = 0 then w c - 1 else -9) ∧ (if how = 0 then w c - 1 else -9) ≤ 9)) := by
  have h6 := hw.2.1
  have h9 : w c ≠ -9 := fun q => hs (Or.inl q)
  have hlt : c / 6 < n ∧ c % 6 < n := by
    apply Classical.byContradiction
    intro q
    exact h9 ((hw.2.2 c hc).2 (by omega))
  have hv := (hw.2.2 c hc).1
  have hz : (if how = 0 then w c - 1 else -9) = -9 ∨ (0 ≤ (if how = 0 then w c - 1 else -9) ∧ (if how = 0 then w c - 1 else -9) ≤ 9) := by
    rcases hh with e | e
    · rw [if_pos e]
      have : w c ≠ 0 := fun q => hs (Or.inr ⟨e, q⟩)
      omega
    · rw [if_neg (by omega)]
      omega
  refine ⟨hlt.1, hlt.2, ?_, hz⟩
  have := okn_up hw (i := c / 6) (j := c % 6) hlt.1 hlt.2 hz
  rw [show 6 * (c / 6) + c % 6 = c by omega] at this
  exact this
theorem bsF_b (hw : okn n w) (hh : how = 0 ∨ how = 1) : ∀ m, m ≤ 36 → ((bsF how n w m).1 = -9 ∧ (bsF how n w m).2 = 1000000) ∨ ((0 ≤ (bsF how n w m).1 ∧ (bsF how n w m).1 ≤ 100) ∧ -1 ≤ (bsF how n w m).2 ∧ (bsF how n w m).2 ≤ 540) := by
  intro m
  induction m with
  | zero => intro _; exact Or.inl ⟨rfl, rfl⟩
  | succ m ih =>
    intro hm
    rw [bsF_s]
    unfold bst
    by_cases c : skp how w m
    · rw [if_pos c]; exact ih (by omega)
    · have hb := pac_b (tri1_ok hw (by omega) c hh).2.2.1
      rw [if_neg c]
      by_cases c2 : pac n (tri1 how w m) < (bsF how n w m).2
      · rw [if_pos c2]
        right
        exact ⟨by show (0 : Int) ≤ ((10 * (m / 6) + m % 6 : Nat) : Int) ∧ ((10 * (m / 6) + m % 6 : Nat) : Int) ≤ 100; omega, hb⟩
      · rw [if_neg c2]; exact ih (by omega)
/-- the class's look -/
theorem w_bestStep {H : tr_H} (hN : tN H 2 n w) (hT : tN H 4 n w) (hh : how = 0 ∨ how = 1) {f t : Nat} (hf : f < n) (ht : t < n) : ∃ H', f_X7_best_L47 (iI f) (iI how) (iI (bsF how n w (6 * f + t)).1) (iI (bsF how n w (6 * f + t)).2) (iI t) H = some (.inl (iI (bsF how n w (6 * f + t + 1)).1, iI (bsF how n w (6 * f + t + 1)).2, iI (t + 1 : Nat), H')) ∧ fr LX H H' ∧ tN H' 2 n w ∧ tN H' 4 n w := by
  have hw := hN.2.1
  have h6 := hw.2.1
  have ho := n_of hN (a := (f : Int)) (b := (t : Int)) (by omega) (by omega) (by omega) (by omega)
  rw [woI_in hf ht] at ho
  have b3 := okn_b hw (c := 6 * f + t) (by omega)
  have hbs := bsF_b (how := how) hw hh (6 * f + t) (by omega)
  rw [bsF_s]
  unfold bst
  by_cases c : skp how w (6 * f + t)
  · refine ⟨H, ?_, fr_rf _ _, hN, hT⟩
    rw [if_pos c]
    unfold f_X7_best_L47
    rw [hN.2.2.1, if_neg (by rw [iI_le (by omega) (by omega) (by omega) (by omega)]; omega), ho, tr_bn_some]
    rcases c with c | ⟨c, c2⟩
    · rw [c, if_pos (show iI (-9) = -9 from rfl)]
      unfold tr_bd
      rw [iI_1, iI_add]
      rfl
    · rw [c2, if_neg (show ¬ iI 0 = -9 by decide), c, if_pos (show iI 0 = 0 from rfl), if_pos (show iI 0 = 0 from rfl)]
      unfold tr_bd
      rw [iI_1, iI_add]
      rfl
  · obtain ⟨-, -, ok1, hz⟩ := tri1_ok hw (c := 6 * f + t) (by omega) c hh
    rw [if_neg c]
    obtain ⟨z, ez⟩ : ∃ z, z = (if how = 0 then w (6 * f + t) - 1 else -9) := ⟨_, rfl⟩
    have etri : tri1 how w (6 * f + t) = wup w (6 * f + t) z := by unfold tri1; rw [ez]
    rw [← ez] at hz
    rw [etri] at ok1 ⊢
    -- laid, looked at, laid back
    have l1 := n_lay hT (a := (f : Int)) (b := (t : Int)) z (by omega) (by omega) (by omega) (by omega)
    rw [if_pos (by omega)] at l1
    simp only [Int.toNat_natCast] at l1
    have hT1 := tN_up hT (a := f) (b := t) (v := z) hf ht hz
    have f1 : fr LX H (tr_sa H (4 + 1) (upd (H.1 (4 + 1)) (6 * f + t) (iI z))) := fr_sa _ _ (by decide)
    generalize tr_sa H (4 + 1) (upd (H.1 (4 + 1)) (6 * f + t) (iI z)) = H1 at l1 hT1 f1
    obtain ⟨H2, s1, s2⟩ := w_slow hT1
    have hT2 := tN_fr s2 (by simp) (by simp) hT1
    have l2 := n_lay hT2 (a := (f : Int)) (b := (t : Int)) (w (6 * f + t)) (by omega) (by omega) (by omega) (by omega)
    rw [if_pos (by omega)] at l2
    simp only [Int.toNat_natCast] at l2
    have hT3 := tN_up hT2 (a := f) (b := t) (v := w (6 * f + t)) hf ht (hw.2.2 _ (by omega)).1
    rw [wup_back] at hT3
    have f3 : fr LX H2 (tr_sa H2 (4 + 1) (upd (H2.1 (4 + 1)) (6 * f + t) (iI (w (6 * f + t))))) := fr_sa _ _ (by decide)
    generalize tr_sa H2 (4 + 1) (upd (H2.1 (4 + 1)) (6 * f + t) (iI (w (6 * f + t)))) = H3 at l2 hT3 f3
    have fA : fr LX H H3 := fr_tr f1 (fr_tr (fr_up s2 (by decide)) f3)
    have hb := pac_b ok1
    refine ⟨H3, ?_, fA, tN_fr fA (by decide) (by decide) hN, hT3⟩
    have hJ : f_X7_best_J112 (iI f) (iI t) H (iI (w (6 * f + t))) (iI (bsF how n w (6 * f + t)).2) (iI (bsF how n w (6 * f + t)).1) (iI z) = some (.inl (iI (if pac n (wup w (6 * f + t) z) < (bsF how n w (6 * f + t)).2 then (((10 * ((6 * f + t) / 6) + (6 * f + t) % 6 : Nat) : Int), pac n (wup w (6 * f + t) z)) else bsF how n w (6 * f + t)).1, iI (if pac n (wup w (6 * f + t) z) < (bsF how n w (6 * f + t)).2 then (((10 * ((6 * f + t) / 6) + (6 * f + t) % 6 : Nat) : Int), pac n (wup w (6 * f + t) z)) else bsF how n w (6 * f + t)).2, iI (t + 1 : Nat), H3)) := by
      unfold f_X7_best_J112
      rw [l1, tr_b2_some, s1, tr_b2_some, l2, tr_b2_some]
      by_cases c2 : pac n (wup w (6 * f + t) z) < (bsF how n w (6 * f + t)).2
      · rw [if_pos c2, if_neg (by rw [iI_le (by omega) (by omega) (by omega) (by omega)]; omega)]
        unfold tr_bd
        rw [iI_10, iI_mul, iI_add, iI_1, iI_add, show (6 * f + t) / 6 = f by omega, show (6 * f + t) % 6 = t by omega]
        rfl
      · rw [if_neg c2, if_pos (by rw [iI_le (by omega) (by omega) (by omega) (by omega)]; omega)]
        unfold tr_bd
        rw [iI_1, iI_add]
        rfl
    unfold f_X7_best_L47
    have c9 : w (6 * f + t) ≠ -9 := fun q => c (Or.inl q)
    rw [hN.2.2.1, if_neg (by rw [iI_le (by omega) (by omega) (by omega) (by omega)]; omega), ho, tr_bn_some, if_neg (show ¬ iI (w (6 * f + t)) = -9 by rw [iI_m9, iI_eq (by omega) (by omega) (by omega) (by omega)]; exact c9)]
    rcases hh with e | e
    · have c0 : w (6 * f + t) ≠ 0 := fun q => c (Or.inr ⟨e, q⟩)
      rw [if_pos (show iI how = 0 by rw [e]; rfl), if_neg (show ¬ iI (w (6 * f + t)) = 0 by rw [iI_0, iI_eq (by omega) (by omega) (by omega) (by omega)]; exact c0)]
      unfold f_X7_best_J91
      rw [if_pos (show iI how = 0 by rw [e]; rfl), iI_1, iI_sub, show w (6 * f + t) - 1 = z by rw [ez, if_pos e]]
      exact hJ
    · rw [if_neg (show ¬ iI how = 0 by rw [e]; decide)]
      unfold f_X7_best_J91
      rw [if_neg (show ¬ iI how = 0 by rw [e]; decide), show (-9 : Int32) = iI z by rw [ez, if_neg (by omega)]; rfl]
      exact hJ
theorem w_bestAll {h : tr_H} (hN : tN h 2 n w) (hh : how = 0 ∨ how = 1) : ∃ h', f_X7_best_J12 h (iI how) = some (iI (bsF how n w 36).1, h') ∧ fr LX h h' := by
  have hw := hN.2.1
  have h6 := hw.2.1
  obtain ⟨h1, a1, a2, a3⟩ := n_copy hN (j := 4) (Or.inr (Or.inl rfl)) (by decide)
  have f1 : fr LX h h1 := fr_up a2 (by decide)
  have hN1 := tN_fr f1 (by decide) (by decide) hN
  obtain ⟨r, k1, h2, k2, k3⟩ := tr_inv (f := fun q => f_X7_best_L32 (iI how) q.1 q.2.1 q.2.2.1 q.2.2.2) (fun f s => ∃ H, s = (iI (bsF how n w (6 * f)).1, iI (bsF how n w (6 * f)).2, iI f, H) ∧ fr LX h H ∧ tN H 2 n w ∧ tN H 4 n w) (fun s => ∃ H, s = (iI (bsF how n w (6 * n)).1, H) ∧ fr LX h H) (hi := n) (by
    rintro f s hf ⟨H, rfl, g1, g2, g3⟩
    obtain ⟨r2, j1, H2, j2, j3, j4, j5⟩ := tr_inv (f := fun q => f_X7_best_L47 (iI f) (iI how) q.1 q.2.1 q.2.2.1 q.2.2.2) (fun t s => ∃ H, s = (iI (bsF how n w (6 * f + t)).1, iI (bsF how n w (6 * f + t)).2, iI t, H) ∧ fr LX h H ∧ tN H 2 n w ∧ tN H 4 n w) (fun s => ∃ H, s = (iI (bsF how n w (6 * f + n)).1, iI (bsF how n w (6 * f + n)).2, H) ∧ fr LX h H ∧ tN H 2 n w ∧ tN H 4 n w) (hi := n) (by
      rintro t s ht ⟨H, rfl, g1, g2, g3⟩
      obtain ⟨H', q1, q2, q3, q4⟩ := w_bestStep g2 g3 hh hf ht
      exact ⟨_, q1, H', rfl, fr_tr g1 q2, q3, q4⟩) (by
      rintro s ⟨H, rfl, g1, g2, g3⟩
      refine ⟨_, ?_, H, rfl, g1, g2, g3⟩
      show f_X7_best_L47 (iI f) (iI how) _ _ (iI n) H = _
      unfold f_X7_best_L47
      rw [g2.2.2.1, if_pos (Int32.le_refl _)]) 0 (iI (bsF how n w (6 * f)).1, iI (bsF how n w (6 * f)).2, iI (0 : Nat), H) (by omega) ⟨H, rfl, g1, g2, g3⟩
    have erow : bsF how n w (6 * f + n) = bsF how n w (6 * (f + 1)) := by
      have := bsF_no (how := how) (n := n) (w := w) (m := 6 * f + n) (6 - n) (fun j q1 q2 => (hw.2.2 j (by omega)).2 (by omega))
      rw [show 6 * f + n + (6 - n) = 6 * (f + 1) by omega] at this
      exact this.symm
    rw [erow] at j2
    refine ⟨(iI (bsF how n w (6 * (f + 1))).1, iI (bsF how n w (6 * (f + 1))).2, iI (f + 1 : Nat), H2), ?_, H2, rfl, j3, j4, j5⟩
    show f_X7_best_L32 (iI how) _ _ (iI f) H = _
    unfold f_X7_best_L32
    rw [g2.2.2.1, if_neg (by rw [iI_le (by omega) (by omega) (by omega) (by omega)]; omega), show (iI (bsF how n w (6 * f)).1, iI (bsF how n w (6 * f)).2, (0 : Int32), H) = (iI (bsF how n w (6 * f)).1, iI (bsF how n w (6 * f)).2, iI (0 : Nat), H) from rfl, j1, tr_bn_some, j2]
    unfold f_X7_best_E167 tr_bd
    rw [iI_1, iI_add]
    rfl) (by
    rintro s ⟨H, rfl, g1, g2, g3⟩
    refine ⟨_, ?_, H, rfl, g1⟩
    show f_X7_best_L32 (iI how) _ _ (iI n) H = _
    unfold f_X7_best_L32
    rw [g2.2.2.1, if_pos (Int32.le_refl _)]) 0 (iI (bsF how n w (6 * 0)).1, iI (bsF how n w (6 * 0)).2, iI (0 : Nat), h1) (by omega) ⟨h1, rfl, f1, hN1, a3⟩
  refine ⟨h2, ?_, k3⟩
  have eend : bsF how n w (6 * n) = bsF how n w 36 := by
    have := bsF_no (how := how) (n := n) (w := w) (m := 6 * n) (36 - 6 * n) (fun j q1 q2 => (hw.2.2 j (by omega)).2 (by omega))
    rw [show 6 * n + (36 - 6 * n) = 36 by omega] at this
    exact this.symm
  unfold f_X7_best_J12
  rw [a1, tr_bn_some, show ((-9 : Int32), (1000000 : Int32), (0 : Int32), h1) = (iI (bsF how n w (6 * 0)).1, iI (bsF how n w (6 * 0)).2, iI (0 : Nat), h1) from rfl, k1, tr_bn_some, k2, eend]
  rfl
/-- the reference's look -/
theorem r_bestStep {h : tr_H} (hP : tP h 3 n w) (hh : how = 0 ∨ how = 1) {m : Nat} (hm : m < 36) {l : Int} (hl : -1 ≤ l ∧ l ≤ 540) (hle : (bsF how n w m).1 ≠ -9 → l = (bsF how n w m).2) : ∃ h' l', f_X8_best_L26 (iI how) (iI (bsF how n w m).1) (iI l) (iI m) h = some (.inl (iI (bsF how n w (m + 1)).1, iI l', iI (m + 1 : Nat), h')) ∧ gM h h' ∧ (-1 ≤ l' ∧ l' ≤ 540) ∧ ((bsF how n w (m + 1)).1 ≠ -9 → l' = (bsF how n w (m + 1)).2) := by
  have hw := hP.2.1
  have h6 := hw.2.1
  have b3 := cvn_b hw hm
  have hv := (hw.2.2 m hm).1
  have hbs := bsF_b (how := how) hw hh m (by omega)
  have hpg := hP.2.2.2 m hm
  have e1 : (1 : Int32) + iI m = iI (1 + m : Nat) := by
    rw [iI_1, iI_add]
    rfl
  have e2 : (1 : Int32) - iI how = iI (1 - how) := by rw [iI_1, iI_sub]
  rw [bsF_s]
  unfold bst
  by_cases c : skp how w m
  · refine ⟨h, l, ?_, gM_rf _, hl, by rw [if_pos c]; exact hle⟩
    rw [if_pos c]
    unfold f_X8_best_L26
    rw [if_neg (by rw [iI_36, iI_le (by omega) (by omega) (by omega) (by omega)]; omega)]
    simp only [tr_bd]
    have hcond : cvn (w m) ≤ 1 - how := by
      rcases c with c | ⟨c, c2⟩
      · rw [b3.2.2.1.mpr c]; omega
      · rw [b3.2.2.2 (by omega), c2, c]; omega
    rw [e1, tr_gdI (by omega) (by omega) (by omega), iI_ix (by omega), hpg, e2, if_pos (by rw [iI_le (by omega) (by omega) (by omega) (by omega)]; exact hcond), iI_1, iI_add]
    rfl
  · obtain ⟨hl1, hl2, ok1, hz⟩ := tri1_ok hw hm c hh
    have hm6 : 6 * (m / 6) + m % 6 = m := by omega
    obtain ⟨z, ez⟩ : ∃ z, z = (if how = 0 then w m - 1 else -9) := ⟨_, rfl⟩
    have etri : tri1 how w m = wup w m z := by unfold tri1; rw [ez]
    rw [← ez] at hz
    rw [etri] at ok1 ⊢
    have c9 : w m ≠ -9 := fun q => c (Or.inl q)
    have hw1 := b3.2.2.2 c9
    obtain ⟨h1, a1, a2, a3⟩ := r_begin hP
    have hP2 := tP_up a3 (a := m / 6) (b := m % 6) (v := z) hl1 hl2 hz
    rw [hm6] at hP2
    obtain ⟨h3, s1, s2⟩ := r_sixP hP2
    have hb := pac_b ok1
    have fA : gM h h3 := gM_tr (gM_f a2 (by decide) (by decide)) (gM_tr (gM_f (fr_si (L := [4]) _ _ _ (by simp)) (by decide) (by decide)) (gM_R s2))
    have hJ : f_X8_best_J79 (iI m) h1 (iI (bsF how n w m).1) (iI l) (iI (cvn z)) = some (.inl (iI (if pac n (wup w m z) < (bsF how n w m).2 then (((10 * (m / 6) + m % 6 : Nat) : Int), pac n (wup w m z)) else bsF how n w m).1, iI (if pac n (wup w m z) < (bsF how n w m).2 then pac n (wup w m z) else l), iI (m + 1 : Nat), h3)) := by
      unfold f_X8_best_J79
      simp only [tr_bd]
      rw [e1, tr_gdI (by omega) (by omega) (by omega), iI_ix (by omega), s1, tr_b2_some]
      have hup : f_X8_best_J104 (iI m) (iI l) h3 (iI (pac n (wup w m z))) (iI (bsF how n w m).1) = some (.inl (iI ((10 * (m / 6) + m % 6 : Nat) : Int), iI (pac n (wup w m z)), iI (m + 1 : Nat), h3)) := by
        unfold f_X8_best_J104 f_X8_best_J109
        rw [if_neg n10]
        unfold f_X8_best_J134
        rw [if_neg n10]
        simp only [tr_bd]
        have d1 := iI_rem (a := (m : Int)) (b := 6) (by omega) (by omega) (by omega) (by omega)
        have d2 := iI_div (a := (m : Int)) (b := 6) (by omega) (by omega) (by omega) (by omega)
        rw [iI_6, d1, d2, iI_10, iI_mul, iI_add, iI_1, iI_add]
        have d3 : (10 : Int) * ((m : Int) / 6) + (m : Int) % 6 = ((10 * (m / 6) + m % 6 : Nat) : Int) := by omega
        rw [d3]
        rfl
      rcases hbs with ⟨q1, q2⟩ | ⟨⟨q1, q2⟩, q3, q4⟩
      · rw [if_pos (show iI (bsF how n w m).1 = -9 by rw [q1]; rfl), hup, if_pos (show pac n (wup w m z) < (bsF how n w m).2 by omega), if_pos (show pac n (wup w m z) < (bsF how n w m).2 by omega)]
      · rw [if_neg (show ¬ iI (bsF how n w m).1 = -9 by rw [iI_m9, iI_eq (by omega) (by omega) (by omega) (by omega)]; omega)]
        have hl3 := hle (by omega)
        by_cases c2 : pac n (wup w m z) < (bsF how n w m).2
        · rw [if_neg (show ¬ iI l ≤ iI (pac n (wup w m z)) by rw [iI_le (by omega) (by omega) (by omega) (by omega)]; omega), hup, if_pos c2, if_pos c2]
        · rw [if_pos (show iI l ≤ iI (pac n (wup w m z)) by rw [iI_le (by omega) (by omega) (by omega) (by omega)]; omega), if_neg c2, if_neg c2]
          unfold f_X8_best_J109
          rw [if_pos rfl]
          unfold f_X8_best_J134
          rw [if_pos rfl]
          simp only [tr_bd]
          rw [iI_1, iI_add]
          rfl
    refine ⟨h3, if pac n (wup w m z) < (bsF how n w m).2 then pac n (wup w m z) else l, ?_, fA, ?_, ?_⟩
    · rw [if_neg c]
      have hcond : ¬ cvn (w m) ≤ 1 - how := by
        rcases hh with e | e
        · have : w m ≠ 0 := fun q => c (Or.inr ⟨e, q⟩)
          omega
        · omega
      unfold f_X8_best_L26
      rw [if_neg (by rw [iI_36, iI_le (by omega) (by omega) (by omega) (by omega)]; omega)]
      simp only [tr_bd]
      rw [e1, tr_gdI (by omega) (by omega) (by omega), iI_ix (by omega), hpg, e2, if_neg (by rw [iI_le (by omega) (by omega) (by omega) (by omega)]; exact hcond), a1, tr_bn_some]
      rcases hh with e | e
      · rw [if_pos (show iI how = 0 by rw [e]; rfl), tr_gdI (by omega) (by omega) (by omega), a3.2.2.2 m hm, iI_1, iI_sub, show cvn (w m) - 1 = cvn z by rw [hw1, cvn_nn (show 0 ≤ z by rw [ez, if_pos e]; have : w m ≠ 0 := fun q => c (Or.inr ⟨e, q⟩); omega), ez, if_pos e]; omega]
        exact hJ
      · rw [if_neg (show ¬ iI how = 0 by rw [e]; decide), show (0 : Int32) = iI (cvn z) by rw [ez, if_neg (by omega)]; rfl]
        exact hJ
    · split <;> omega
    · rw [if_neg c]
      by_cases c2 : pac n (wup w m z) < (bsF how n w m).2
      · rw [if_pos c2, if_pos c2]
        intro _
        rfl
      · rw [if_neg c2, if_neg c2]
        exact hle
end BST
theorem s_best : ∀ (v0 : Int32) (hx hm : tr_H), Rl hx hm → ∃ (r0 : Int32) (gx gm : tr_H), f_X7_best v0 hx = some (r0, gx) ∧ f_X8_best v0 hm = some (r0, gm) ∧ Rl gx gm := by
  intro v0 hx hm hR
  obtain ⟨how, hv, rfl⟩ := ex_iI v0
  have hR0 := Rl_0 hR
  obtain ⟨m0, em0⟩ : ∃ m0, m0 = tr_si hm 0 0 0 := ⟨_, rfl⟩
  rw [← em0] at hR0
  obtain ⟨n, w, hN, hP⟩ := Rl_net hR0
  have hin := r_inv hv 0 1
  rw [i64_0, i64_1] at hin
  unfold f_X7_best f_X8_best
  simp only [tr_bd]
  rw [← em0, hin, tr_bn_some]
  by_cases c : 0 ≤ how ∧ how ≤ 1
  · have hh : how = 0 ∨ how = 1 := by omega
    obtain ⟨x1, a1, a2⟩ := w_bestAll hN hh
    obtain ⟨r, k1, m1, k2, k3⟩ := tr_inv (f := fun q => f_X8_best_L26 (iI how) q.1 q.2.1 q.2.2.1 q.2.2.2) (fun m s => ∃ h1 l, s = (iI (bsF how n w m).1, iI l, iI m, h1) ∧ gM m0 h1 ∧ (-1 ≤ l ∧ l ≤ 540) ∧ ((bsF how n w m).1 ≠ -9 → l = (bsF how n w m).2)) (fun s => ∃ h1, s = (iI (bsF how n w 36).1, h1) ∧ gM m0 h1) (hi := 36) (by
      rintro m s hm36 ⟨h1, l, rfl, g1, g2, g3⟩
      obtain ⟨h', l', q1, q2, q3, q4⟩ := r_bestStep (tP_M g1 hP) hh hm36 g2 g3
      exact ⟨_, q1, h', l', rfl, gM_tr g1 q2, q3, q4⟩) (by
      rintro s ⟨h1, l, rfl, g1, g2, g3⟩
      exact ⟨_, rfl, h1, rfl, g1⟩) 0 (iI (-9), iI 0, iI (0 : Nat), m0) (by omega) ⟨m0, 0, rfl, gM_rf _, by omega, fun q => absurd rfl q⟩
    have hx12 : (if iI how = 0 then f_X7_best_J12 hx (iI how) else if iI how = 1 then f_X7_best_J12 hx (iI how) else some (-2, hx)) = some (iI (bsF how n w 36).1, x1) := by
      rcases hh with e | e
      · rw [if_pos (show iI how = 0 by rw [e]; rfl)]; exact a1
      · rw [if_neg (show ¬ iI how = 0 by rw [e]; decide), if_pos (show iI how = 1 by rw [e]; rfl)]; exact a1
    rw [hx12, if_pos c, if_neg n10, show ((-9 : Int32), (0 : Int32), (0 : Int32), m0) = (iI (-9), iI 0, iI (0 : Nat), m0) from rfl, k1, tr_bn_some, k2]
    exact ⟨_, _, _, rfl, rfl, Rl_fr a2 k3 hR0⟩
  · rw [if_neg c, if_pos rfl, if_neg (show ¬ iI how = 0 by rw [iI_0, iI_eq (by omega) (by omega) (by omega) (by omega)]; omega), if_neg (show ¬ iI how = 1 by rw [iI_1, iI_eq (by omega) (by omega) (by omega) (by omega)]; omega)]
    exact ⟨_, _, _, rfl, rfl, hR0⟩
/-! drawn by the seed -/
theorem drw (x : Int64) : ∃ v : Nat, v < 2147483648 ∧ (((x.toUInt64 >>> ((33 : Int32).toInt64.toUInt64 &&& Int64.toUInt64 63)).toInt64 : Int64).toInt32) = iI (v : Int) := by
  obtain ⟨k, hk, rfl⟩ := wb_of x
  refine ⟨k / 2 ^ 33, ?_, ?_⟩
  · rw [Nat.div_lt_iff_lt_mul (by decide)]
    exact Nat.lt_of_lt_of_le hk (by decide)
  · have := wb_shr (n := k) (k := 33) hk (by decide)
    rw [show (33 : Int32) = nI 33 from rfl, this, lN_i, iI_nat]
theorem Rl_sl {hx hm : tr_H} (v : Int64) (h : Rl hx hm) : Rl (tr_sl hx 0 12 v) (tr_sl hm 0 16 v) := by
  obtain ⟨k1, k2, k3, k4, k5⟩ := h
  refine ⟨k1, k2, k3, k4, ?_⟩
  rw [sl_s, sl_s]
theorem tN_sl {h : tr_H} {i n c k : Nat} {w : Nat → Int} {v : Int64} (hN : tN h i n w) : tN (tr_sl h c k v) i n w := hN
theorem tP_sl {h : tr_H} {i n c k : Nat} {w : Nat → Int} {v : Int64} (hP : tP h i n w) : tP (tr_sl h c k v) i n w := hP
theorem dv60 {P S B : Int} (h1 : 1 ≤ B) (h2 : B ≤ 6) (h : 60 * S = P * B) (h0 : 0 ≤ P) : S / B = P / 60 := by
  rcases (show B = 1 ∨ B = 2 ∨ B = 3 ∨ B = 4 ∨ B = 5 ∨ B = 6 by omega) with rfl | rfl | rfl | rfl | rfl | rfl <;> omega
theorem drawn_lay {hx1 hm1 : tr_H} {n : Nat} {w : Nat → Int} (hN1 : tN hx1 4 n w) (hP1 : tP hm1 4 n w) {a b q : Nat} (ha : a < 6) (hb : b < 6) (hq : q < 11) {z : Int} (ez : z = if q ≤ 9 then (q : Int) else -9) : ∃ w' x2 m2, (∃ u, f_X2_lay 4 (iI a) (iI b) (iI z) hx1 = some (u, x2)) ∧ f_X8_draw (iI a) (iI b) (iI q) hm1 = some m2 ∧ fr LX hx1 x2 ∧ gM hm1 m2 ∧ tN x2 4 n w' ∧ tP m2 4 n w' := by
  have h6 := hN1.2.1.2.1
  have hz : z = -9 ∨ (0 ≤ z ∧ z ≤ 9) := by rw [ez]; split <;> omega
  have l1 := n_lay hN1 (a := (a : Int)) (b := (b : Int)) z (by omega) (by omega) (by omega) (by omega)
  have e0 : (0 : Int32).toNatClampNeg = 0 := rfl
  by_cases c : a < n ∧ b < n
  · rw [if_pos (by omega)] at l1
    simp only [Int.toNat_natCast] at l1
    refine ⟨_, _, tr_si hm1 4 (1 + (6 * a + b)) (iI (cvn z)), ⟨_, l1⟩, ?_, fr_sa _ _ (by decide), gM_f (fr_si (L := [4]) _ _ _ (by simp)) (by decide) (by decide), tN_up hN1 c.1 c.2 hz, tP_up hP1 c.1 c.2 hz⟩
    unfold f_X8_draw
    simp only [tr_bd]
    rw [e0, hP1.2.2.1, if_neg (by rw [iI_le (by omega) (by omega) (by omega) (by omega)]; omega), if_neg (by rw [iI_le (by omega) (by omega) (by omega) (by omega)]; omega), ix37, tr_gdI (by omega) (by omega) (by omega), tr_gdI (by omega) (by omega) (by omega), iI_ix (by omega)]
    by_cases c2 : q ≤ 9
    · rw [if_neg (by rw [iI_10, iI_eq (by omega) (by omega) (by omega) (by omega)]; omega), show cvn z = (q : Int) + 1 by rw [ez, if_pos c2, cvn_nn (by omega)], iI_1, iI_add]
    · rw [if_pos (by rw [iI_10, iI_eq (by omega) (by omega) (by omega) (by omega)]; omega), show cvn z = 0 by rw [ez, if_neg c2]; rfl, iI_0]
  · rw [if_neg (by omega)] at l1
    refine ⟨w, hx1, hm1, ⟨_, l1⟩, ?_, fr_rf _ _, gM_rf _, hN1, hP1⟩
    unfold f_X8_draw
    rw [e0, hP1.2.2.1]
    by_cases c2 : a < n
    · rw [if_neg (by rw [iI_le (by omega) (by omega) (by omega) (by omega)]; omega), if_pos (by rw [iI_le (by omega) (by omega) (by omega) (by omega)]; omega)]
    · rw [if_pos (by rw [iI_le (by omega) (by omega) (by omega) (by omega)]; omega)]
theorem drawn_fig {v : Nat} (hv : v < 2147483648) : ∃ a b q : Nat, a < 6 ∧ b < 6 ∧ q < 11 ∧ iI (v : Int) - iI (v : Int) / iI 6 * iI 6 = iI a ∧ iI (v : Int) / iI 8 - iI (v : Int) / iI 8 / iI 6 * iI 6 = iI b ∧ iI (v : Int) / iI 64 - iI (v : Int) / iI 64 / iI 11 * iI 11 = iI q := by
  refine ⟨v % 6, v / 8 % 6, v / 64 % 11, Nat.mod_lt _ (by decide), Nat.mod_lt _ (by decide), Nat.mod_lt _ (by decide), ?_, ?_, ?_⟩
  · rw [iI_rem (by omega) (by omega) (by omega) (by omega)]
    rfl
  · rw [iI_div (by omega) (by omega) (by omega) (by omega), iI_rem (by omega) (by omega) (by omega) (by omega)]
    rfl
  · rw [iI_div (by omega) (by omega) (by omega) (by omega), iI_rem (by omega) (by omega) (by omega) (by omega)]
    rfl
theorem drawn_core {hx1 hm1 : tr_H} {n : Nat} {w : Nat → Int} (hR1 : Rl hx1 hm1) (hN1 : tN hx1 4 n w) (hP1 : tP hm1 4 n w) {v : Nat} (hv : v < 2147483648) (T i : Int32) : ∃ T' gx gm w', (if (iI (v : Int) / 64 - iI (v : Int) / 64 / 11 * 11) ≤ 9 then f_X7_drawn_J101 (iI (v : Int)) hx1 T i (iI (v : Int) / 64 - iI (v : Int) / 64 / 11 * 11) else f_X7_drawn_J101 (iI (v : Int)) hx1 T i (-9)) = some (.inl (T', i + 1, gx)) ∧ (tr_bn (f_X8_draw (iI (v : Int) - iI (v : Int) / 6 * 6) (iI (v : Int) / 8 - iI (v : Int) / 8 / 6 * 6) (iI (v : Int) / 64 - iI (v : Int) / 64 / 11 * 11) hm1) fun th16 =>
  tr_bn (f_X8_find 4 th16) fun th18 =>
  if (th18.1 0 19) = 0 then (some (.inl (T + 0, i + 1, th18))) else (tr_nz (th18.1 0 19) <| some (.inl (T + ((th18.1 0 18) / (th18.1 0 19)), i + 1, th18)) : Option ((Int32 × Int32 × tr_H) ⊕ (Int32 × tr_H)))) = some (.inl (T', i + 1, gm)) ∧ Rl gx gm ∧ tN gx 4 n w' ∧ tP gm 4 n w' := by
  have h6 := hN1.2.1.2.1
  obtain ⟨a, b, q, ha, hb', hq, a1, a3, a5⟩ := drawn_fig hv
  obtain ⟨z, ez⟩ : ∃ z : Int, z = if q ≤ 9 then (q : Int) else -9 := ⟨_, rfl⟩
  have hz : z = -9 ∨ (0 ≤ z ∧ z ≤ 9) := by rw [ez]; split <;> omega
  obtain ⟨w', x2, m2, ⟨u, l1⟩, l2, f1, f2, hN2, hP2⟩ := drawn_lay hN1 hP1 ha hb' hq ez
  obtain ⟨x3, s1, s2⟩ := w_slow hN2
  obtain ⟨S, B, m3, b1, b2, -, b4, b5, b6⟩ := r_find hP2
  have hb := pac_b hN2.2.1
  have hR3 := Rl_fr (fr_tr f1 (fr_up s2 (by decide))) (gM_tr f2 (gM_R b2)) hR1
  have hN3 := tN_fr s2 (by simp) (by simp) hN2
  have hP3 := tP_R b2 hP2
  have hJ : f_X7_drawn_J101 (iI (v : Int)) hx1 T i (iI z) = some (.inl (T + iI (max 0 (pac n w') / 60), i + 1, x3)) := by
    unfold f_X7_drawn_J101
    simp only [tr_bd]
    rw [iI_6, a1, iI_8, a3, l1, tr_b2_some, s1, tr_b2_some, iI_0, tr_maxI (by omega) (by omega) (by omega) (by omega), iI_60, iI_div (by omega) (by omega) (by omega) (by omega)]
  refine ⟨T + iI (max 0 (pac n w') / 60), x3, m3, w', ?_, ?_, hR3, hN3, hP3⟩
  · rw [iI_64, iI_11, a5]
    by_cases c2 : q ≤ 9
    · rw [if_pos (by rw [iI_9, iI_le (by omega) (by omega) (by omega) (by omega)]; omega), show ((q : Nat) : Int) = z by rw [ez, if_pos c2]]
      exact hJ
    · rw [if_neg (by rw [iI_9, iI_le (by omega) (by omega) (by omega) (by omega)]; omega), show (-9 : Int32) = iI z by rw [ez, if_neg c2]; rfl]
      exact hJ
  · rw [iI_6, a1, iI_8, a3, iI_64, iI_11, a5, l2, tr_bn_some, b1, tr_bn_some, b5]
    rcases b6 with ⟨c1, c2⟩ | ⟨c1, c2, c3, c4, c5, c6, c7⟩
    · rw [c2, if_pos (show iI 0 = 0 from rfl), c1, show max 0 (-1 : Int) / 60 = 0 from by decide, iI_0]
    · rw [if_neg (show ¬ iI B = 0 by rw [iI_0, iI_eq (by omega) (by omega) (by omega) (by omega)]; omega), tr_nzI (by omega) (by omega) (by omega), b4, iI_div (by omega) (by omega) (by omega) (by omega), dv60 c3 c4 c7 c1, show max 0 (pac n w') = pac n w' by omega]
end
section
/-! drawn -/
theorem tr_bdq {α β : Type} (e : α) (f : α → β) : tr_bd e f = f e := Eq.trans (Eq.refl _) (Eq.refl _)
theorem drawn_step {hx hm : tr_H} {n : Nat} {w : Nat → Int} (hR : Rl hx hm) (hN : tN hx 4 n w) (hP : tP hm 4 n w) {M i T : Int32} (hi : ¬ M ≤ i) : ∃ T' gx gm w', f_X7_drawn_L29 M T i hx = some (.inl (T', i + 1, gx)) ∧ f_X8_drawn_L28 M T i hm = some (.inl (T', i + 1, gm)) ∧ Rl gx gm ∧ tN gx 4 n w' ∧ tP gm 4 n w' := by
  have hs := hR.2.2.2.2
  unfold f_X7_drawn_L29 f_X8_drawn_L28
  rw [if_neg hi, if_neg hi, ← hs]
  generalize hx.2 0 12 * 6364136223846793005 + 1442695040888963407 = X
  simp only [tr_bdq, sl_s]
  obtain ⟨v, hv, ev⟩ := drw X
  rw [ev]
  exact drawn_core (Rl_sl X hR) (tN_sl hN) (tP_sl hP) hv T i
theorem s_drawn : ∀ (v0 : Int32) (hx hm : tr_H), Rl hx hm → ∃ (r0 : Int32) (gx gm : tr_H), f_X7_drawn v0 hx = some (r0, gx) ∧ f_X8_drawn v0 hm = some (r0, gm) ∧ Rl gx gm := by
  intro v0 hx hm hR
  obtain ⟨M, hM, rfl⟩ := ex_iI v0
  have hR0 := Rl_0 hR
  obtain ⟨m0, em0⟩ : ∃ m0, m0 = tr_si hm 0 0 0 := ⟨_, rfl⟩
  rw [← em0] at hR0
  obtain ⟨n, w, hN, hP⟩ := Rl_net hR0
  have hin := r_inv hM 1 20
  rw [i64_1, i64_20] at hin
  unfold f_X7_drawn f_X8_drawn
  simp only [tr_bd]
  rw [← em0, hin, tr_bn_some]
  by_cases c : 1 ≤ M ∧ M ≤ 20
  · rw [if_pos c, if_neg n10, if_neg (show ¬ iI M < 1 by rw [iI_1, iI_lt (by omega) (by omega) (by omega) (by omega)]; omega), if_pos (show iI M ≤ 20 by rw [iI_20, iI_le (by omega) (by omega) (by omega) (by omega)]; omega)]
    obtain ⟨x1, a1, a2, a3⟩ := n_copy hN (j := 4) (Or.inr (Or.inl rfl)) (by decide)
    obtain ⟨m1, b1, b2, b3⟩ := r_begin hP
    have hR1 := Rl_fr (fr_up a2 (by decide)) (gM_f b2 (by decide) (by decide)) hR0
    have key : ∀ (k i : Nat), (i : Int) + k = M → ∀ (T : Int32) (x m : tr_H) (w' : Nat → Int), Rl x m → tN x 4 n w' → tP m 4 n w' → ∃ r gx gm, tr_lp (fun q => f_X7_drawn_L29 (iI M) q.1 q.2.1 q.2.2) (T, iI i, x) = some (r, gx) ∧ tr_lp (fun q => f_X8_drawn_L28 (iI M) q.1 q.2.1 q.2.2) (T, iI i, m) = some (r, gm) ∧ Rl gx gm := by
      intro k
      induction k with
      | zero =>
        intro i hi T x m w' h1 h2 h3
        have hle : iI M ≤ iI (i : Int) := by rw [iI_le (by omega) (by omega) (by omega) (by omega)]; omega
        refine ⟨T, x, m, tr_lp_out ?_, tr_lp_out ?_, h1⟩
        · show f_X7_drawn_L29 (iI M) T (iI i) x = _
          unfold f_X7_drawn_L29
          rw [if_pos hle]
        · show f_X8_drawn_L28 (iI M) T (iI i) m = _
          unfold f_X8_drawn_L28
          rw [if_pos hle]
      | succ k ih =>
        intro i hi T x m w' h1 h2 h3
        have hle : ¬ iI M ≤ iI (i : Int) := by rw [iI_le (by omega) (by omega) (by omega) (by omega)]; omega
        obtain ⟨T', gx, gm, w2, q1, q2, q3, q4, q5⟩ := drawn_step h1 h2 h3 (T := T) hle
        have e1 : iI (i : Int) + 1 = iI ((i + 1 : Nat) : Int) := by rw [iI_1, iI_add]; rfl
        rw [e1] at q1 q2
        rw [tr_lp_go (f := fun q => f_X7_drawn_L29 (iI M) q.1 q.2.1 q.2.2) (s := (T, iI i, x)) (s' := (T', iI ((i + 1 : Nat) : Int), gx)) q1, tr_lp_go (f := fun q => f_X8_drawn_L28 (iI M) q.1 q.2.1 q.2.2) (s := (T, iI i, m)) (s' := (T', iI ((i + 1 : Nat) : Int), gm)) q2]
        exact ih (i + 1) (by omega) T' gx gm w2 q3 q4 q5
    obtain ⟨r, gx, gm, k1, k2, k3⟩ := key M.toNat 0 (by omega) 0 x1 m1 w hR1 a3 b3
    rw [a1, tr_bn_some, b1, tr_bn_some, show ((0 : Int32), (0 : Int32), x1) = ((0 : Int32), iI (0 : Nat), x1) from rfl, k1, tr_bn_some, show ((0 : Int32), (0 : Int32), m1) = ((0 : Int32), iI (0 : Nat), m1) from rfl, k2, tr_bn_some]
    exact ⟨_, _, _, rfl, rfl, k3⟩
  · rw [if_neg c, if_pos rfl]
    refine ⟨-2, hx, m0, ?_, rfl, hR0⟩
    by_cases c4 : M < 1
    · rw [if_pos (show iI M < 1 by rw [iI_1, iI_lt (by omega) (by omega) (by omega) (by omega)]; omega)]
    · rw [if_neg (show ¬ iI M < 1 by rw [iI_1, iI_lt (by omega) (by omega) (by omega) (by omega)]; omega), if_neg (show ¬ iI M ≤ 20 by rw [iI_20, iI_le (by omega) (by omega) (by omega) (by omega)]; omega)]
end
section
/-! told doings are judged -/
def jI (z : Int) : Int64 := Int64.ofInt z
theorem jI_in {a : Int} (h1 : -9223372036854775808 ≤ a) (h2 : a < 9223372036854775808) : (jI a).toInt = a := Int64.toInt_ofInt_of_le (by omega) (by omega)
theorem jI_to (x : Int64) : x = jI x.toInt := (Int64.ofInt_toInt x).symm
theorem jI_sub (a b : Int) : jI a - jI b = jI (a - b) := (Int64.ofInt_sub a b).symm
theorem jI_mul (a b : Int) : jI a * jI b = jI (a * b) := (Int64.ofInt_mul a b).symm
theorem jI_32 (a : Int) : (jI a).toInt32 = iI a := Int64.toInt32_ofInt
theorem jI_m1 : (-1 : Int64) = jI (-1) := by decide
theorem jI_1 : (1 : Int64) = jI 1 := by decide
theorem jI_0 : (0 : Int64) = jI 0 := by decide
theorem jI_t4 : (10000 : Int64) = jI 10000 := by decide
theorem jI_div {a b : Int} (h1 : 0 ≤ a) (h2 : a < 9223372036854775808) (h3 : 0 < b) (h4 : b < 9223372036854775808) : jI a / jI b = jI (a / b) := by
  have h5 : 0 ≤ a / b := Int.ediv_nonneg h1 (by omega)
  have h6 : a / b ≤ a := Int.ediv_le_self b h1
  rw [← Int64.toInt_inj, jI_in (a := a / b) (by omega) (by omega), Int64.toInt_div_of_ne_right]
  · rw [jI_in (by omega) h2, jI_in (by omega) h4, Int.tdiv_eq_ediv_of_nonneg h1]
  · intro h
    rw [← Int64.toInt_inj, jI_in (by omega) h4, jI_m1, jI_in (by omega) (by omega)] at h
    omega
theorem jI_rem {a : Int} (h1 : 0 ≤ a) (h2 : a < 9223372036854775808) : (jI a - jI a / 10000 * 10000 : Int64).toInt32 = iI (a % 10000) := by
  rw [jI_t4, jI_div h1 h2 (by omega) (by omega), jI_mul, jI_sub, jI_32]
  congr 1
  rw [Int.emod_def, Int.mul_comm]
theorem c_fig {R k : Nat} (hR : R < 9223372036854775808) (hk : k ≤ 4) : f_X7_figuresOf (jI R) (iI k) = some (iI (R / 10000 ^ k % 10000 : Nat)) := by
  unfold f_X7_figuresOf
  have hle : ∀ m, R / 10000 ^ m ≤ R := fun m => Nat.div_le_self _ _
  have key := tr_seq (f := fun q => f_X7_figuresOf_L5 (iI k) q.1 q.2) (fun m => (jI (R / 10000 ^ m : Nat), iI m)) (lo := 0) (hi := k) (r := jI (R / 10000 ^ k : Nat)) (by omega) (fun m _ hm => by
    have := hle m
    show f_X7_figuresOf_L5 (iI k) (jI (R / 10000 ^ m : Nat)) (iI m) = _
    unfold f_X7_figuresOf_L5
    rw [if_neg (by rw [iI_le (by omega) (by omega) (by omega) (by omega)]; omega)]
    unfold tr_bd
    rw [jI_t4, jI_div (Int.natCast_nonneg _) (Int.lt_of_le_of_lt (Int.ofNat_le.mpr (hle m)) (by omega)) (by omega) (by omega), iI_1, iI_add, show ((R / 10000 ^ m : Nat) : Int) / 10000 = ((R / 10000 ^ (m + 1) : Nat) : Int) by rw [Nat.pow_succ, ← Nat.div_div_eq_div_mul]; rfl]
    rfl) (by
    show f_X7_figuresOf_L5 (iI k) (jI (R / 10000 ^ k : Nat)) (iI k) = _
    unfold f_X7_figuresOf_L5
    rw [if_pos (Int32.le_refl _)])
  have h0 : (jI R, (0 : Int32)) = (jI (R / 10000 ^ 0 : Nat), iI (0 : Nat)) := by rw [Nat.pow_zero, Nat.div_one]; rfl
  have := hle k
  rw [h0, key, tr_bn_some]
  unfold f_X7_figuresOf_E23
  rw [jI_rem (Int.natCast_nonneg _) (Int.lt_of_le_of_lt (Int.ofNat_le.mpr (hle k)) (by omega))]
  rfl
theorem p4 : ∀ k : Nat, k ≤ 4 → 1 ≤ 10000 ^ k ∧ 10000 ^ k ≤ 10000000000000000 := by
  intro k hk
  rcases (show k = 0 ∨ k = 1 ∨ k = 2 ∨ k = 3 ∨ k = 4 by omega) with rfl | rfl | rfl | rfl | rfl <;> decide
theorem r_lpw {k : Nat} (hk : k ≤ 4) : f_X8_longPower 10000 (iI k) = some (jI (10000 ^ k : Nat)) := by
  unfold f_X8_longPower
  have key := tr_seq (f := fun q => f_X8_longPower_L5 (iI k) 10000 q.1 q.2) (fun m => (jI (10000 ^ m : Nat), iI m)) (lo := 0) (hi := k) (r := jI (10000 ^ k : Nat)) (by omega) (fun m _ hm => by
    show f_X8_longPower_L5 (iI k) 10000 (jI (10000 ^ m : Nat)) (iI m) = _
    unfold f_X8_longPower_L5
    rw [if_neg (by rw [iI_le (by omega) (by omega) (by omega) (by omega)]; omega)]
    unfold tr_bd
    rw [jI_t4, jI_mul, iI_1, iI_add, show ((10000 ^ m : Nat) : Int) * 10000 = ((10000 ^ (m + 1) : Nat) : Int) by rw [Nat.pow_succ, Int.natCast_mul]; rfl]
    rfl) (by
    show f_X8_longPower_L5 (iI k) 10000 (jI (10000 ^ k : Nat)) (iI k) = _
    unfold f_X8_longPower_L5
    rw [if_pos (Int32.le_refl _)])
  have h0 : ((1 : Int64), (0 : Int32)) = (jI (10000 ^ 0 : Nat), iI (0 : Nat)) := by rw [Nat.pow_zero, jI_1]; rfl
  rw [h0, key]
  rfl
theorem f2_p {k : Nat} (hk : k ≤ 4) : tr_f2 k = jI (10000 ^ k : Nat) := by
  rcases (show k = 0 ∨ k = 1 ∨ k = 2 ∨ k = 3 ∨ k = 4 by omega) with rfl | rfl | rfl | rfl | rfl <;> decide
/-! one told thing -/
theorem zb1 {α : Type} (o : Option α) : tr_zb 1 o = o := rfl
theorem zb0 {α : Type} (o : Option α) : tr_zb 0 o = o := rfl
section SETS
variable {hx hm : tr_H} {n a b : Nat} {w : Nat → Int}
theorem r_sets (hP : tP hm 4 n w) (ha : a < 10) (hb : b < 10) {th : Int32} (hth : th = 0 ∨ th = 1) {v : Int} (hv : v = -9 ∨ (0 ≤ v ∧ v ≤ 9)) : (a < n ∧ b < n ∧ (th = 0 ↔ w (6 * a + b) = -9) → f_X8_sets (iI a) (iI b) th (iI (cvn v)) hm = some (1, tr_si hm 4 (1 + (6 * a + b)) (iI (cvn v)))) ∧ (¬ (a < n ∧ b < n ∧ (th = 0 ↔ w (6 * a + b) = -9)) → f_X8_sets (iI a) (iI b) th (iI (cvn v)) hm = some (0, hm)) := by
  have h6 := hP.2.1.2.1
  have e0 : (0 : Int32).toNatClampNeg = 0 := rfl
  have h37 : f_X8_sets_J37 hm (iI a) (iI b) (iI (cvn v)) = some (0, hm) := rfl
  unfold f_X8_sets
  rw [e0, hP.2.2.1]
  by_cases c1 : a < n
  · rw [if_neg (by rw [iI_le (by omega) (by omega) (by omega) (by omega)]; omega)]
    by_cases c2 : b < n
    · rw [if_neg (by rw [iI_le (by omega) (by omega) (by omega) (by omega)]; omega), r_isThere hP (i := a) (j := b) (by omega) (by omega), tr_bn_some]
      have h38 : f_X8_sets_J38 hm (iI a) (iI b) (iI (cvn v)) 1 = some (1, tr_si hm 4 (1 + (6 * a + b)) (iI (cvn v))) := by
        unfold f_X8_sets_J38
        rw [if_neg n10]
        simp only [tr_bd]
        rw [ix37, tr_gdI (by omega) (by omega) (by omega), iI_ix (by omega), zb1]
      by_cases c3 : w (6 * a + b) = -9
      · rw [if_pos c3]
        rcases hth with rfl | rfl
        · rw [if_pos rfl]
          exact ⟨fun _ => h38, fun q => absurd ⟨c1, c2, ⟨fun _ => c3, fun _ => rfl⟩⟩ q⟩
        · rw [if_neg (by decide)]
          exact ⟨fun q => absurd (q.2.2.mpr c3) (by decide), fun _ => h37⟩
      · rw [if_neg c3]
        rcases hth with rfl | rfl
        · rw [if_neg (by decide)]
          exact ⟨fun q => absurd (q.2.2.mp rfl) c3, fun _ => h37⟩
        · rw [if_pos rfl]
          exact ⟨fun _ => h38, fun q => absurd ⟨c1, c2, ⟨fun z => absurd z (by decide), fun z => absurd z c3⟩⟩ q⟩
    · rw [if_pos (by rw [iI_le (by omega) (by omega) (by omega) (by omega)]; omega)]
      exact ⟨fun q => absurd q.2.1 c2, fun _ => h37⟩
  · rw [if_pos (by rw [iI_le (by omega) (by omega) (by omega) (by omega)]; omega)]
    exact ⟨fun q => absurd q.1 c1, fun _ => h37⟩
end SETS
theorem kept10 {n : Nat} {w : Nat → Int} (hw : okn n w) : kept n w 10 := ⟨by have := pac_b hw; omega, by omega, by omega⟩
/-- both judge alike -/
def jud (hx hm : tr_H) (n : Nat) (X M : Option (Int32 × tr_H)) : Prop := ∃ t gx gm w', X = some (t, gx) ∧ M = some (t, gm) ∧ Rl gx gm ∧ tN gx 4 n w' ∧ tP gm 4 n w'
theorem jud_mk {hx hm gx gm : tr_H} {n : Nat} {w : Nat → Int} (hR : Rl hx hm) (hN : tN hx 4 n w) (hP : tP hm 4 n w) (t : Int32) (f1 : fr [12, 21, 22, 23, 24, 25, 26, 27, 28, 29, 30] hx gx) (f2 : gM hm gm) (f3 : gm.1 4 = hm.1 4) : jud hx hm n (some (t, gx)) (some (t, gm)) := by
  refine ⟨t, gx, gm, w, rfl, rfl, Rl_fr (fr_up f1 (by decide)) f2 hR, tN_fr f1 (by decide) (by decide) hN, ?_⟩
  obtain ⟨p1, p2, p3, p4⟩ := hP
  exact ⟨p1, p2, by rw [f3]; exact p3, fun c hc => by rw [f3]; exact p4 c hc⟩
theorem mR_4 {h h' : tr_H} (hR : mR h h') : h'.1 4 = h.1 4 := hR.1 4 (by decide) (by decide) (by decide)
theorem jud_lay {hx hm : tr_H} {n a b : Nat} {w : Nat → Int} (hR : Rl hx hm) (hN : tN hx 4 n w) (hP : tP hm 4 n w) (ha : a < n) (hb : b < n) {v : Int} (hv : v = -9 ∨ (0 ≤ v ∧ v ≤ 9)) : jud hx hm n (tr_b2 (f_X2_lay 4 (iI a) (iI b) (iI v) hx) fun tv th => if tv = 0 then some (0, th) else some (1, th)) (some (1, tr_si hm 4 (1 + (6 * a + b)) (iI (cvn v)))) := by
  have h6 := hN.2.1.2.1
  have l1 := n_lay hN (a := (a : Int)) (b := (b : Int)) v (by omega) (by omega) (by omega) (by omega)
  rw [if_pos (by omega)] at l1
  simp only [Int.toNat_natCast] at l1
  refine ⟨1, _, _, wup w (6 * a + b) v, ?_, rfl, Rl_fr (gx := tr_sa hx (4 + 1) (upd (hx.1 (4 + 1)) (6 * a + b) (iI v))) (fr_sa _ _ (by decide)) (gM_f (fr_si (L := [4]) _ _ _ (by simp)) (by decide) (by decide)) hR, tN_up hN ha hb hv, tP_up hP ha hb hv⟩
  rw [l1, tr_b2_some, if_neg n10]
theorem z00 : (0 : Int32) = 0 := rfl
theorem has_y {h : tr_H} {i n a : Nat} {w : Nat → Int} (hN : tN h i n w) (ha : a < n) : f_X2_has i (iI a) h = some 1 := by
  have h6 := hN.2.1.2.1
  rw [n_has hN (by omega) (by omega), if_pos (by omega)]
theorem has_n {h : tr_H} {i n a : Nat} {w : Nat → Int} (hN : tN h i n w) (h10 : a < 10) (ha : ¬ a < n) : f_X2_has i (iI a) h = some 0 := by
  rw [n_has hN (by omega) (by omega), if_neg (by omega)]
section JD
variable {hx hm : tr_H} {n a b c u : Nat} {w : Nat → Int} {g : Int32}
theorem jd_st (hR : Rl hx hm) (hN : tN hx 4 n w) (hP : tP hm 4 n w) (t : Int32) : jud hx hm n (some (t, hx)) (some (t, hm)) := jud_mk hR hN hP t (fr_rf _ _) (gM_rf _) rfl
def gOk (n : Nat) (w : Nat → Int) (a b : Nat) (g : Int32) : Prop := (a < n ∧ b < n → g = if w (6 * a + b) = -9 then 0 else 1) ∧ (¬ (a < n ∧ b < n) → g = 0)
theorem jd1 (hR : Rl hx hm) (hN : tN hx 4 n w) (hP : tP hm 4 n w) (ha : a < 10) (hb : b < 10) (hc : c < 10) (hg : gOk n w a b g) : jud hx hm n (tr_bn (f_X2_has 4 (iI a) hx) fun tv11 => if tv11 = 0 then (some (0, hx)) else (tr_bn (f_X2_has 4 (iI b) hx) fun tv14 => if tv14 = 0 then (some (0, hx)) else (if g = 0 then (tr_b2 (f_X2_lay 4 (iI a) (iI b) (iI c) hx) fun tv18 th19 => if tv18 = 0 then (some (0, th19)) else (some (1, th19))) else (some (0, hx))))) (tr_b2 (f_X8_sets (iI a) (iI b) 0 (iI c + 1) hm) fun tv8 th9 => tr_zb tv8 <| some (tv8, th9)) := by
  have hs := r_sets hP ha hb (th := 0) (Or.inl rfl) (v := (c : Int)) (Or.inr (by omega))
  have e1 : iI (c : Int) + 1 = iI (cvn (c : Int)) := by rw [iI_1, iI_add, cvn_nn (by omega)]
  rw [e1]
  by_cases p1 : a < n
  · rw [has_y hN p1, tr_bn_some, if_neg n10]
    by_cases p2 : b < n
    · rw [has_y hN p2, tr_bn_some, if_neg n10, hg.1 ⟨p1, p2⟩]
      by_cases p3 : w (6 * a + b) = -9
      · rw [if_pos p3, if_pos z00, hs.1 ⟨p1, p2, ⟨fun _ => p3, fun _ => rfl⟩⟩, tr_b2_some, zb1]
        exact jud_lay hR hN hP p1 p2 (Or.inr (by omega))
      · rw [if_neg p3, if_neg n10, hs.2 (fun q => p3 (q.2.2.mp rfl)), tr_b2_some, zb0]
        exact jd_st hR hN hP 0
    · rw [has_n hN hb p2, tr_bn_some, if_pos z00, hs.2 (fun q => p2 q.2.1), tr_b2_some, zb0]
      exact jd_st hR hN hP 0
  · rw [has_n hN ha p1, tr_bn_some, if_pos z00, hs.2 (fun q => p1 q.1), tr_b2_some, zb0]
    exact jd_st hR hN hP 0
theorem jd2 (hR : Rl hx hm) (hN : tN hx 4 n w) (hP : tP hm 4 n w) (ha : a < 10) (hb : b < 10) (c01 : iI (c : Int) = 0 ↔ c = 0) (hg : gOk n w a b g) : jud hx hm n (if g = 0 then (some (0, hx)) else (if iI (c : Int) = 0 then (tr_b2 (f_X2_lay 4 (iI a) (iI b) (-9) hx) fun tv25 th26 => if tv25 = 0 then (some (0, th26)) else (some (1, th26))) else (some (0, hx)))) (if iI (c : Int) = 0 then (tr_b2 (f_X8_sets (iI a) (iI b) 1 0 hm) fun tv14 th15 => if tv14 = 0 then (some (0, th15)) else (some (1, th15))) else (some (0, hm))) := by
  have hs := r_sets hP ha hb (th := 1) (Or.inr rfl) (v := -9) (Or.inl rfl)
  rw [show iI (cvn (-9)) = 0 from rfl] at hs
  by_cases p0 : c = 0
  · rw [if_pos (c01.mpr p0), if_pos (c01.mpr p0)]
    by_cases p1 : a < n ∧ b < n
    · rw [hg.1 p1]
      by_cases p3 : w (6 * a + b) = -9
      · rw [if_pos p3, if_pos z00, hs.2 (fun q => absurd (q.2.2.mpr p3) (by decide)), tr_b2_some, if_pos z00]
        exact jd_st hR hN hP 0
      · rw [if_neg p3, if_neg n10, hs.1 ⟨p1.1, p1.2, ⟨fun z => absurd z (by decide), fun z => absurd z p3⟩⟩, tr_b2_some, if_neg n10]
        exact jud_lay hR hN hP p1.1 p1.2 (Or.inl rfl)
    · rw [hg.2 p1, if_pos z00, hs.2 (fun q => p1 ⟨q.1, q.2.1⟩), tr_b2_some, if_pos z00]
      exact jd_st hR hN hP 0
  · rw [if_neg (fun z => p0 (c01.mp z)), if_neg (fun z => p0 (c01.mp z))]
    by_cases p1 : g = 0
    · rw [if_pos p1]; exact jd_st hR hN hP 0
    · rw [if_neg p1]; exact jd_st hR hN hP 0
theorem jd3 (hR : Rl hx hm) (hN : tN hx 4 n w) (hP : tP hm 4 n w) (ha : a < 10) (hb : b < 10) (hc : c < 10) (hg : gOk n w a b g) : jud hx hm n (if g = 0 then (some (0, hx)) else (tr_b2 (f_X2_lay 4 (iI a) (iI b) (iI c) hx) fun tv31 th32 => if tv31 = 0 then (some (0, th32)) else (some (1, th32)))) (tr_b2 (f_X8_sets (iI a) (iI b) 1 (iI c + 1) hm) fun tv19 th20 => tr_zb tv19 <| some (tv19, th20)) := by
  have hs := r_sets hP ha hb (th := 1) (Or.inr rfl) (v := (c : Int)) (Or.inr (by omega))
  have e1 : iI (c : Int) + 1 = iI (cvn (c : Int)) := by rw [iI_1, iI_add, cvn_nn (by omega)]
  rw [e1]
  by_cases p1 : a < n ∧ b < n
  · rw [hg.1 p1]
    by_cases p3 : w (6 * a + b) = -9
    · rw [if_pos p3, if_pos z00, hs.2 (fun q => absurd (q.2.2.mpr p3) (by decide)), tr_b2_some, zb0]
      exact jd_st hR hN hP 0
    · rw [if_neg p3, if_neg n10, hs.1 ⟨p1.1, p1.2, ⟨fun z => absurd z (by decide), fun z => absurd z p3⟩⟩, tr_b2_some, zb1]
      exact jud_lay hR hN hP p1.1 p1.2 (Or.inr (by omega))
  · rw [hg.2 p1, if_pos z00, hs.2 (fun q => p1 ⟨q.1, q.2.1⟩), tr_b2_some, zb0]
    exact jd_st hR hN hP 0
theorem jd4 (hR : Rl hx hm) (hN : tN hx 4 n w) (hP : tP hm 4 n w) (hu : u < 100) : jud hx hm n (if iI (a : Int) = 0 then (if 20 < iI (u : Int) then (some (0, hx)) else (tr_b2 (f_X6_isKept 4 (iI u) hx) fun tv38 th39 => if tv38 = 0 then (some (0, th39)) else (some (1, th39)))) else (some (0, hx))) (if iI (a : Int) = 0 then (if 20 < iI (u : Int) then (some (0, hm)) else (tr_b2 (f_X8_isPeriod 4 (iI u) hm) fun tv26 th27 => if tv26 = 0 then (some (0, th27)) else (some (1, th27)))) else (some (0, hm))) := by
  by_cases p0 : iI (a : Int) = 0
  · rw [if_pos p0, if_pos p0]
    by_cases p1 : (20 : Int32) < iI (u : Int)
    · rw [if_pos p1, if_pos p1]
      exact jd_st hR hN hP 0
    · have p1' : (u : Int) ≤ 20 := by
        rw [iI_20, iI_lt (by omega) (by omega) (by omega) (by omega)] at p1
        omega
      rw [if_neg p1, if_neg p1]
      obtain ⟨x1, a1, a2⟩ := w_kept hN (p := (u : Int)) (by omega) p1'
      obtain ⟨m1, b1, b2⟩ := r_isPeriod hP (d := (u : Int)) (by omega) (by omega)
      rw [a1, tr_b2_some, b1, tr_b2_some]
      have hgo : ∀ t, jud hx hm n (some (t, x1)) (some (t, m1)) := fun t => jud_mk hR hN hP t (fr_up a2 (by decide)) (gM_R b2) (mR_4 b2)
      by_cases p2 : pac n w ≤ 60 * (u : Int)
      · rw [if_pos p2, if_neg n10, if_neg n10]; exact hgo 1
      · rw [if_neg p2, if_pos z00, if_pos z00]; exact hgo 0
  · rw [if_neg p0, if_neg p0]
    exact jd_st hR hN hP 0
theorem r_crit4 (hP : tP hm 4 n w) (ha : a < 10) (hb : b < 10) : ∃ m1, mR hm m1 ∧ (crR n w a b → f_X8_isCritical (iI a) (iI b) hm = some (1, m1)) ∧ (¬ crR n w a b → f_X8_isCritical (iI a) (iI b) hm = some (0, m1)) := by
  have h6 := hP.2.1.2.1
  obtain ⟨S, B, m1, b1, b2, b7, -⟩ := r_find hP
  obtain ⟨rwt, cw, cd, e1, -, -, -, e5, -, -, e8, -⟩ := rF_bits hP.2.1 b7
  have hP1 := tP_R b2 hP
  refine ⟨m1, b2, ?_⟩
  unfold f_X8_isCritical
  rw [b1, tr_bn_some, show (0 : Int32).toNatClampNeg = 0 from rfl, hP1.2.2.1]
  by_cases p1 : a < n
  · rw [if_neg (show ¬ iI (n : Int) ≤ iI (a : Int) by rw [iI_le (by omega) (by omega) (by omega) (by omega)]; omega)]
    by_cases p2 : b < n
    · have hbit := bit64 (a := cw) (k := 6 * a + b) (by omega) (Nat.lt_of_lt_of_le e5 (by decide))
      have e9 := e8 a b (by omega) (by omega)
      have ei : 6 * iI a + iI b = iI (6 * a + b : Nat) := by
        rw [iI_6, iI_mul, iI_add]
        congr 1
      rw [if_neg (show ¬ iI (n : Int) ≤ iI (b : Int) by rw [iI_le (by omega) (by omega) (by omega) (by omega)]; omega), e1, ei, hbit]
      constructor
      · intro p3
        rw [if_pos (e9.mpr p3), if_pos (show lg_cmp (lN 1) 1 = 0 by decide)]
      · intro p3
        rw [if_neg (fun z => p3 (e9.mp z)), if_neg (show ¬ lg_cmp (lN 0) 1 = 0 by decide)]
    · rw [if_pos (show iI (n : Int) ≤ iI (b : Int) by rw [iI_le (by omega) (by omega) (by omega) (by omega)]; omega)]
      exact ⟨fun z => absurd (crR_lt z).2 p2, fun _ => rfl⟩
  · rw [if_pos (show iI (n : Int) ≤ iI (a : Int) by rw [iI_le (by omega) (by omega) (by omega) (by omega)]; omega)]
    exact ⟨fun z => absurd (crR_lt z).1 p1, fun _ => rfl⟩
theorem jd5 (hR : Rl hx hm) (hN : tN hx 4 n w) (hP : tP hm 4 n w) (ha : a < 10) (hb : b < 10) : jud hx hm n (tr_bn (f_X6_compare 4 hx) fun th43 => if iI (c : Int) = 0 then (tr_bn (f_X6_isCritical 4 (iI a) (iI b) th43) fun tv46 => if tv46 = 0 then (some (0, th43)) else (some (1, th43))) else (some (0, th43))) (if iI (c : Int) = 0 then (tr_b2 (f_X8_isCritical (iI a) (iI b) hm) fun tv32 th33 => if tv32 = 0 then (some (0, th33)) else (some (1, th33))) else (some (0, hm))) := by
  obtain ⟨f, g', j1, j2⟩ := w_comp hN
  have fx : fr [12, 21, 22, 23, 24, 25, 26, 27, 28, 29, 30] hx (tr_sa (tr_si (tr_sa hx 22 f) 21 2 (iI (pac n w))) 23 g') := fr_tr (b := tr_si (tr_sa hx 22 f) 21 2 (iI (pac n w))) (fr_tr (b := tr_sa hx 22 f) (fr_sa _ _ (by decide)) (fr_si _ _ _ (by decide))) (fr_sa _ _ (by decide))
  generalize tr_sa (tr_si (tr_sa hx 22 f) 21 2 (iI (pac n w))) 23 g' = x1 at j1 j2 fx
  rw [j1, tr_bn_some]
  by_cases p0 : iI (c : Int) = 0
  · rw [if_pos p0, if_pos p0]
    have hcr := w_isCritical j2 (a := a) (b := b) ha hb
    obtain ⟨m1, b2, b3, b4⟩ := r_crit4 (a := a) (b := b) hP ha hb
    have hgo : ∀ t, jud hx hm n (some (t, x1)) (some (t, m1)) := fun t => jud_mk hR hN hP t fx (gM_R b2) (mR_4 b2)
    by_cases p3 : crR n w a b
    · rw [hcr.1 p3, tr_bn_some, b3 p3, tr_b2_some, if_neg n10, if_neg n10]
      exact hgo 1
    · rw [hcr.2 p3, tr_bn_some, b4 p3, tr_b2_some, if_pos z00, if_pos z00]
      exact hgo 0
  · rw [if_neg p0, if_neg p0]
    exact jud_mk hR hN hP 0 fx (gM_rf _) rfl
theorem r_time4 (hP : tP hm 4 n w) (ha : a < 10) (hu : u < 100) : ∃ m1, fr [13] hm m1 ∧ (a < n ∧ TM n w 10 n a = (u : Int) → f_X8_isTime (iI a) (iI u) hm = some (1, m1)) ∧ (¬ (a < n ∧ TM n w 10 n a = (u : Int)) → f_X8_isTime (iI a) (iI u) hm = some (0, m1)) := by
  have hw := hP.2.1
  have h6 := hw.2.1
  have hk := kept10 hw
  obtain ⟨m1, b1, b2, b3⟩ := r_set hP hk
  refine ⟨m1, b2, ?_⟩
  unfold f_X8_isTime
  rw [iI_10, b1, tr_bn_some, show (0 : Int32).toNatClampNeg = 0 from rfl, (tP_fr b2 (by simp) hP).2.2.1]
  by_cases p1 : a < n
  · have tb := TW_b hw hk (TW_TM (p := 10) hw n) a
    rw [if_neg (show ¬ iI (n : Int) ≤ iI (a : Int) by rw [iI_le (by omega) (by omega) (by omega) (by omega)]; omega), tr_gdI (by omega) (by omega) (by omega), iI_ix (by omega), b3 a (by omega)]
    constructor
    · intro q
      rw [if_pos (show iI (TM n w 10 n a) = iI (u : Int) by rw [q.2])]
    · intro q
      rw [if_neg (show ¬ iI (TM n w 10 n a) = iI (u : Int) by rw [iI_eq (by omega) (by omega) (by omega) (by omega)]; exact fun z => q ⟨p1, z⟩)]
  · rw [if_pos (show iI (n : Int) ≤ iI (a : Int) by rw [iI_le (by omega) (by omega) (by omega) (by omega)]; omega)]
    exact ⟨fun z => absurd z.1 p1, fun _ => rfl⟩
theorem jd6 (hR : Rl hx hm) (hN : tN hx 4 n w) (hP : tP hm 4 n w) (ha : a < 10) (hu : u < 100) : jud hx hm n (tr_bn (f_X2_has 4 (iI a) hx) fun tv50 => if tv50 = 0 then (some (0, hx)) else (tr_b2 (f_X7_departsAt (iI a) (iI u) hx) fun tv53 th54 => if tv53 = 0 then (some (0, th54)) else (some (1, th54)))) (tr_b2 (f_X8_isTime (iI a) (iI u) hm) fun tv37 th38 => tr_zb tv37 <| some (tv37, th38)) := by
  have hw := hN.2.1
  have h6 := hw.2.1
  have hk := kept10 hw
  obtain ⟨m1, b2, b3, b4⟩ := r_time4 (a := a) (u := u) hP ha hu
  have fm : gM hm m1 := gM_f b2 (by decide) (by decide)
  have fm4 : m1.1 4 = hm.1 4 := b2.1 4 (by decide)
  by_cases p1 : a < n
  · rw [has_y hN p1, tr_bn_some, if_neg n10]
    obtain ⟨x1, a1, a2⟩ := w_kept hN (p := 10) (by omega) (by omega)
    rw [if_pos hk.1] at a1
    obtain ⟨x2, c1, c2, c3⟩ := w_set (tN_fr a2 (by simp) (by simp) hN) hk
    have tb := TW_b hw hk (TW_TM (p := 10) hw n) a
    have hgo : ∀ t, jud hx hm n (some (t, x2)) (some (t, m1)) := fun t => jud_mk hR hN hP t (fr_tr (fr_up a2 (by decide)) (fr_up c2 (by decide))) fm fm4
    unfold f_X7_departsAt
    rw [iI_10, a1, tr_b2_some, if_neg n10, c1, tr_bn_some, w_timeOf (by omega), tr_bn_some, c3.2 a (by omega)]
    by_cases p2 : TM n w 10 n a = (u : Int)
    · rw [if_pos (show iI (TM n w 10 n a) = iI (u : Int) by rw [p2]), tr_b2_some, if_neg n10, b3 ⟨p1, p2⟩, tr_b2_some, zb1]
      exact hgo 1
    · rw [if_neg (show ¬ iI (TM n w 10 n a) = iI (u : Int) by rw [iI_eq (by omega) (by omega) (by omega) (by omega)]; exact p2), tr_b2_some, if_pos z00, b4 (fun z => p2 z.2), tr_b2_some, zb0]
      exact hgo 0
  · rw [has_n hN ha p1, tr_bn_some, if_pos z00, b4 (fun z => p1 z.1), tr_b2_some, zb0]
    exact jud_mk hR hN hP 0 (fr_rf _ _) fm fm4
theorem jd7 (hR : Rl hx hm) (hN : tN hx 4 n w) (hP : tP hm 4 n w) (ha : a < 10) (hu : u < 100) : jud hx hm n (tr_bn (f_X2_has 4 (iI a) hx) fun tv58 => if tv58 = 0 then (some (0, hx)) else (tr_b2 (f_X7_isOver (iI a) (iI u) hx) fun tv61 th62 => if tv61 = 0 then (some (0, th62)) else (some (1, th62)))) (if (hm.1 4 ((0 : Int32).toNatClampNeg)) ≤ iI (a : Int) then (some (0, hm)) else (tr_bn (f_X8_in ((iI (u : Int) : Int32).toInt64) 1 30) fun tv43 => if tv43 = 0 then (some (0, hm)) else (tr_b2 (f_X8_diesOf 4 (iI a) (iI u) 10 hm) fun tv46 th47 => if tv46 = (-9) then (some (0, th47)) else (some (1, th47))))) := by
  have hw := hN.2.1
  have h6 := hw.2.1
  have hk := kept10 hw
  have hin := r_inv (v := (u : Int)) (by omega) 1 30
  rw [i64_1, i64_30] at hin
  rw [show (0 : Int32).toNatClampNeg = 0 from rfl, hP.2.2.1, hin, tr_bn_some]
  by_cases p1 : a < n
  · rw [has_y hN p1, tr_bn_some, if_neg n10, if_neg (show ¬ iI (n : Int) ≤ iI (a : Int) by rw [iI_le (by omega) (by omega) (by omega) (by omega)]; omega)]
    unfold f_X7_isOver
    by_cases p2 : 1 ≤ (u : Int) ∧ (u : Int) ≤ 30
    · obtain ⟨x1, a1, a2⟩ := w_kept hN (p := 10) (by omega) (by omega)
      rw [if_pos hk.1] at a1
      obtain ⟨x2, c1, c2⟩ := w_lasts (d := (u : Int)) (at_ := a) (tN_fr a2 (by simp) (by simp) hN) hk (by omega) p1
      obtain ⟨m1, b1, b2⟩ := r_diesOf (d := (u : Int)) (at_ := a) hP hk (by omega) p1
      have hgo : ∀ t, jud hx hm n (some (t, x2)) (some (t, m1)) := fun t => jud_mk hR hN hP t (fr_tr (fr_up a2 (by decide)) (fr_up c2 (by decide))) (gM_f b2 (by decide) (by decide)) (b2.1 4 (by decide))
      rw [if_neg (show ¬ iI (u : Int) < 1 by rw [iI_1, iI_lt (by omega) (by omega) (by omega) (by omega)]; omega), if_neg (show ¬ 30 < iI (u : Int) by rw [iI_30, iI_lt (by omega) (by omega) (by omega) (by omega)]; omega), if_pos p2, if_neg n10, iI_10, a1, tr_b2_some, if_neg n10, c1, tr_b2_some, b1, tr_b2_some]
      by_cases p3 : iI (dieF n w 10 a (u : Int) 40 1) = -9
      · rw [if_pos p3, if_pos p3, tr_b2_some, if_pos z00]
        exact hgo 0
      · rw [if_neg p3, if_neg p3, tr_b2_some, if_neg n10]
        exact hgo 1
    · rw [if_neg p2, if_pos z00]
      by_cases p3 : (u : Int) < 1
      · rw [if_pos (show iI (u : Int) < 1 by rw [iI_1, iI_lt (by omega) (by omega) (by omega) (by omega)]; omega), tr_b2_some, if_pos z00]
        exact jd_st hR hN hP 0
      · rw [if_neg (show ¬ iI (u : Int) < 1 by rw [iI_1, iI_lt (by omega) (by omega) (by omega) (by omega)]; omega), if_pos (show 30 < iI (u : Int) by rw [iI_30, iI_lt (by omega) (by omega) (by omega) (by omega)]; omega), tr_b2_some, if_pos z00]
        exact jd_st hR hN hP 0
  · rw [has_n hN ha p1, tr_bn_some, if_pos z00, if_pos (show iI (n : Int) ≤ iI (a : Int) by rw [iI_le (by omega) (by omega) (by omega) (by omega)]; omega)]
    exact jd_st hR hN hP 0
end JD
theorem fig4 {F : Nat} (hF : F < 10000) : ∃ a b c u K : Nat, a < 10 ∧ b < 10 ∧ c < 10 ∧ u < 100 ∧ K < 10 ∧ iI (F : Int) / 100 - iI (F : Int) / 100 / 10 * 10 = iI a ∧ iI (F : Int) / 10 - iI (F : Int) / 10 / 10 * 10 = iI b ∧ iI (F : Int) - iI (F : Int) / 10 * 10 = iI c ∧ iI (F : Int) - iI (F : Int) / 100 * 100 = iI u ∧ iI (F : Int) / 1000 = iI K ∧ 10 * iI (b : Int) + iI (c : Int) = iI u := by
  refine ⟨F / 100 % 10, F / 10 % 10, F % 10, F % 100, F / 1000, by omega, by omega, by omega, by omega, by omega, ?_, ?_, ?_, ?_, ?_, ?_⟩
  · rw [iI_100, iI_10, iI_div (by omega) (by omega) (by omega) (by omega), iI_rem (by omega) (by omega) (by omega) (by omega)]
    rfl
  · rw [iI_10, iI_div (by omega) (by omega) (by omega) (by omega), iI_rem (by omega) (by omega) (by omega) (by omega)]
    rfl
  · rw [iI_10, iI_rem (by omega) (by omega) (by omega) (by omega)]
    rfl
  · rw [iI_100, iI_rem (by omega) (by omega) (by omega) (by omega)]
    rfl
  · rw [iI_1000, iI_div (by omega) (by omega) (by omega) (by omega)]
    rfl
  · rw [iI_10, iI_mul, iI_add]
    congr 1
    omega
theorem does_ok {hx hm : tr_H} {n F : Nat} {w : Nat → Int} (hR : Rl hx hm) (hN : tN hx 4 n w) (hP : tP hm 4 n w) (hF : F < 10000) : jud hx hm n (f_X7_holds (iI F) hx) (f_X8_does (iI F) hm) := by
  have hw := hN.2.1
  obtain ⟨a, b, c, u, K, ha, hb, hc, hu, hK, d1, d2, d3, d4, d5, d6⟩ := fig4 hF
  have ho := n_of hN (a := (a : Int)) (b := (b : Int)) (by omega) (by omega) (by omega) (by omega)
  obtain ⟨g, eg⟩ : ∃ g : Int32, g = if woI n w a b = -9 then 0 else 1 := ⟨_, rfl⟩
  have hX : f_X7_holds (iI F) hx = f_X7_holds_J50 (iI F) (iI a) hx (iI b) (iI c) (iI u) g := by
    unfold f_X7_holds
    simp only [tr_bd]
    have hwb := woI_b hw (a : Int) (b : Int)
    rw [d1, d2, d3, d6, ho, tr_bn_some, eg]
    by_cases q : woI n w a b = -9
    · rw [if_pos q, if_pos (show iI (woI n w a b) = -9 by rw [q]; rfl)]
    · rw [if_neg q, if_neg (show ¬ iI (woI n w a b) = -9 by rw [iI_m9, iI_eq (by omega) (by omega) (by omega) (by omega)]; exact q)]
  have hg : gOk n w a b g := by
    refine ⟨fun q => ?_, fun q => ?_⟩
    · rw [eg, woI_in q.1 q.2]
    · have hwo : woI n w a b = -9 := by
        unfold woI
        rw [if_neg (by omega)]
      rw [eg, if_pos hwo]
  have c01 : (iI (c : Int) = 0 ↔ c = 0) := by
    rw [iI_0, iI_eq (by omega) (by omega) (by omega) (by omega)]
    omega
  rw [hX]
  unfold f_X7_holds_J50 f_X8_does
  simp only [tr_bd]
  rw [d5, d1, d2, d3, d4]
  by_cases q1 : iI (K : Int) = 1
  · rw [if_pos q1, if_pos q1]
    exact jd1 hR hN hP ha hb hc hg
  rw [if_neg q1, if_neg q1]
  by_cases q2 : iI (K : Int) = 2
  · rw [if_pos q2, if_pos q2]
    exact jd2 hR hN hP ha hb c01 hg
  rw [if_neg q2, if_neg q2]
  by_cases q3 : iI (K : Int) = 3
  · rw [if_pos q3, if_pos q3]
    exact jd3 hR hN hP ha hb hc hg
  rw [if_neg q3, if_neg q3]
  by_cases q4 : iI (K : Int) = 4
  · rw [if_pos q4, if_pos q4]
    exact jd4 hR hN hP hu
  rw [if_neg q4, if_neg q4]
  by_cases q5 : iI (K : Int) = 5
  · rw [if_pos q5, if_pos q5]
    exact jd5 hR hN hP ha hb
  rw [if_neg q5, if_neg q5]
  by_cases q6 : iI (K : Int) = 6
  · rw [if_pos q6, if_pos q6]
    exact jd6 hR hN hP ha hu
  rw [if_neg q6, if_neg q6]
  by_cases q7 : iI (K : Int) = 7
  · rw [if_pos q7, if_pos q7]
    exact jd7 hR hN hP ha hu
  rw [if_neg q7, if_neg q7]
  exact jd_st hR hN hP 0
theorem s_judge : ∀ (v0 : Int32) (v1 : Int64) (hx hm : tr_H), Rl hx hm → ∃ (r0 : Int32) (gx gm : tr_H), f_X7_judge v0 v1 hx = some (r0, gx) ∧ f_X8_judge v0 v1 hm = some (r0, gm) ∧ Rl gx gm := by
  intro v0 v1 hx hm hR
  obtain ⟨N, hN0, rfl⟩ := ex_iI v0
  have hR0 := Rl_0 hR
  obtain ⟨m0, em0⟩ : ∃ m0, m0 = tr_si hm 0 0 0 := ⟨_, rfl⟩
  rw [← em0] at hR0
  obtain ⟨n, w, hN, hP⟩ := Rl_net hR0
  have hin := r_inv hN0 1 4
  rw [i64_1, i64_4] at hin
  unfold f_X7_judge f_X8_judge
  simp only [tr_bd]
  rw [← em0, hin, tr_bn_some]
  by_cases c : 1 ≤ N ∧ N ≤ 4
  · obtain ⟨k, rfl⟩ : ∃ k : Nat, N = (k : Int) := ⟨N.toNat, by omega⟩
    have hp4 := p4 k (by omega)
    obtain ⟨Q, eQ⟩ : ∃ Q : Nat, Q = 10000 ^ k := ⟨_, rfl⟩
    rw [← eQ] at hp4
    have e1 : (jI (Q : Nat) - 1 : Int64).toInt = (Q : Int) - 1 := by
      rw [jI_1, jI_sub, jI_in (by omega) (by omega)]
    have e2 : (jI (Q : Nat)).toInt = (Q : Int) := jI_in (by omega) (by omega)
    have hin2 := r_in v1 0 (jI (Q : Nat) - 1)
    rw [i64_0, e1] at hin2
    rw [if_neg (show ¬ iI (k : Int) < 1 by rw [iI_1, iI_lt (by omega) (by omega) (by omega) (by omega)]; omega), if_neg (show ¬ 4 < iI (k : Int) by rw [iI_4, iI_lt (by omega) (by omega) (by omega) (by omega)]; omega), if_pos c, if_neg n10, tr_gdI (by omega) (by omega) (by omega), iI_ix (by omega), f2_p (by omega), r_lpw (by omega), tr_bn_some, ← eQ, hin2, tr_bn_some]
    by_cases c2 : 0 ≤ v1.toInt ∧ v1.toInt ≤ (Q : Int) - 1
    · rw [if_pos c2, if_neg n10, if_neg (show ¬ lg_cmp v1 0 < 0 by rw [lg_lt, i64_0]; omega), if_pos (show lg_cmp v1 (jI (Q : Nat)) < 0 by rw [lg_lt, e2]; omega)]
      obtain ⟨R, eR⟩ : ∃ R : Nat, v1.toInt = (R : Int) := ⟨v1.toInt.toNat, by omega⟩
      have ev : v1 = jI (R : Nat) := by rw [jI_to v1, eR]
      have hRb : R < 9223372036854775808 := by omega
      rw [ev]
      obtain ⟨x1, a1, a2, a3⟩ := n_copy hN (j := 4) (Or.inr (Or.inl rfl)) (by decide)
      obtain ⟨m1, b1, b2, b3⟩ := r_begin hP
      have hR1 := Rl_fr (fr_up a2 (by decide)) (gM_f b2 (by decide) (by decide)) hR0
      rw [a1, tr_bn_some, b1, tr_bn_some]
      have key : ∀ (d i : Nat), i + d = k → ∀ (x m : tr_H) (w' : Nat → Int), Rl x m → tN x 4 n w' → tP m 4 n w' → ∃ sc sr, tr_lp (fun q => f_X7_judge_L43 (iI k) (jI (R : Nat)) q.1 q.2) (iI i, x) = some sc ∧ tr_lp (fun q => f_X8_judge_L44 (iI k) (jI (R : Nat)) q.1 q.2) (iI i, m) = some sr ∧ ∃ r gx gm, Sum.elim (fun x => f_X7_judge_E75 x) (fun x => some x) sc = some (r, gx) ∧ Sum.elim (fun x => f_X8_judge_E85 x) (fun x => some x) sr = some (r, gm) ∧ Rl gx gm := by
        intro d
        induction d with
        | zero =>
          intro i hi x m w' h1 h2 h3
          obtain rfl : i = k := by omega
          refine ⟨.inl x, .inl m, tr_lp_out ?_, tr_lp_out ?_, -9, x, m, rfl, rfl, h1⟩
          · show f_X7_judge_L43 (iI i) (jI (R : Nat)) (iI i) x = _
            unfold f_X7_judge_L43
            rw [if_pos (Int32.le_refl _)]
          · show f_X8_judge_L44 (iI i) (jI (R : Nat)) (iI i) m = _
            unfold f_X8_judge_L44
            rw [if_pos (Int32.le_refl _)]
        | succ d ih =>
          intro i hi x m w' h1 h2 h3
          have ek : iI (k : Int) - 1 - iI (i : Int) = iI (d : Nat) := by
            rw [iI_1, iI_sub, iI_sub]
            congr 1
            omega
          have hpd := p4 d (by omega)
          have hF : R / 10000 ^ d % 10000 < 10000 := Nat.mod_lt _ (by decide)
          have hle : R / 10000 ^ d ≤ R := Nat.div_le_self _ _
          obtain ⟨t, gx, gm, w2, q1, q2, q3, q4, q5⟩ := does_ok h1 h2 h3 hF
          have hnz : ¬ jI (10000 ^ d : Nat) = 0 := by
            intro z
            rw [← Int64.toInt_inj, jI_in (by omega) (by omega), i64_0] at z
            omega
          have hfr : ((jI (R : Nat) / jI (10000 ^ d : Nat)) - (jI (R : Nat) / jI (10000 ^ d : Nat)) / 10000 * 10000 : Int64).toInt32 = iI ((R / 10000 ^ d % 10000 : Nat) : Int) := by
            rw [jI_div (by omega) (by omega) (by omega) (by omega), show ((R : Nat) : Int) / ((10000 ^ d : Nat) : Int) = ((R / 10000 ^ d : Nat) : Int) from rfl, jI_rem (Int.natCast_nonneg _) (Int.lt_of_le_of_lt (Int.ofNat_le.mpr hle) (by omega))]
            rfl
          have hL : f_X7_judge_L43 (iI k) (jI (R : Nat)) (iI i) x = if t = 0 then some (.inr (.inr (iI i, gx))) else some (.inl (iI (i + 1 : Nat), gx)) := by
            unfold f_X7_judge_L43
            rw [if_neg (show ¬ iI (k : Int) ≤ iI (i : Int) by rw [iI_le (by omega) (by omega) (by omega) (by omega)]; omega), ek, c_fig hRb (by omega), tr_bn_some, q1, tr_b2_some, tr_bdq, iI_1, iI_add]
            rfl
          have hM : f_X8_judge_L44 (iI k) (jI (R : Nat)) (iI i) m = if t = 0 then some (.inr (.inr (iI i, gm))) else some (.inl (iI (i + 1 : Nat), gm)) := by
            unfold f_X8_judge_L44
            rw [if_neg (show ¬ iI (k : Int) ≤ iI (i : Int) by rw [iI_le (by omega) (by omega) (by omega) (by omega)]; omega), ek, r_lpw (by omega), tr_bn_some]
            unfold tr_nzl
            rw [if_neg hnz, hfr, q2, tr_b2_some, tr_bdq, iI_1, iI_add]
            rfl
          by_cases p : t = 0
          · rw [if_pos p] at hL hM
            exact ⟨.inr (iI i, gx), .inr (iI i, gm), tr_lp_out hL, tr_lp_out hM, iI i, gx, gm, rfl, rfl, q3⟩
          · rw [if_neg p] at hL hM
            rw [tr_lp_go (f := fun q => f_X7_judge_L43 (iI k) (jI (R : Nat)) q.1 q.2) (s := (iI i, x)) (s' := (iI (i + 1 : Nat), gx)) hL, tr_lp_go (f := fun q => f_X8_judge_L44 (iI k) (jI (R : Nat)) q.1 q.2) (s := (iI i, m)) (s' := (iI (i + 1 : Nat), gm)) hM]
            exact ih (i + 1) (by omega) gx gm w2 q3 q4 q5
      obtain ⟨sc, sr, k1, k2, r, gx, gm, k3, k4, k5⟩ := key k 0 (by omega) x1 m1 w hR1 a3 b3
      rw [show ((0 : Int32), x1) = (iI (0 : Nat), x1) from rfl, k1, tr_bn_some, show ((0 : Int32), m1) = (iI (0 : Nat), m1) from rfl, k2, tr_bn_some]
      exact ⟨r, gx, gm, k3, k4, k5⟩
    · rw [if_neg c2, if_pos z00]
      refine ⟨-2, hx, m0, ?_, rfl, hR0⟩
      by_cases c3 : v1.toInt < 0
      · rw [if_pos (show lg_cmp v1 0 < 0 by rw [lg_lt, i64_0]; exact c3)]
      · rw [if_neg (show ¬ lg_cmp v1 0 < 0 by rw [lg_lt, i64_0]; exact c3), if_neg (show ¬ lg_cmp v1 (jI (Q : Nat)) < 0 by rw [lg_lt, e2]; omega)]
  · rw [if_neg c, if_pos z00]
    refine ⟨-2, hx, m0, ?_, rfl, hR0⟩
    by_cases c4 : N < 1
    · rw [if_pos (show iI N < 1 by rw [iI_1, iI_lt (by omega) (by omega) (by omega) (by omega)]; omega)]
    · rw [if_neg (show ¬ iI N < 1 by rw [iI_1, iI_lt (by omega) (by omega) (by omega) (by omega)]; omega), if_pos (show 4 < iI N by rw [iI_4, iI_lt (by omega) (by omega) (by omega) (by omega)]; omega)]
end
section
/-! the share of a departure in the slowest ring -/
def fct (k : Nat) : Nat := ([1, 1, 2, 6, 24, 120, 720] : List Nat).getD k 0
theorem f1_fct : ∀ k : Nat, k < 7 → tr_f1 k = iI (fct k : Nat) := by decide +kernel
theorem fct_s : ∀ m : Nat, m < 6 → fct (m + 1) = fct m * (m + 1) := by decide +kernel
theorem fct_b : ∀ m : Nat, m < 7 → 1 ≤ fct m ∧ fct m ≤ 720 := by decide +kernel
theorem pcn_ou0 : ∀ n : Nat, n < 7 → ∀ S : Nat, S < 64 → ∀ d : Nat, d < 6 → (S < 2 ^ n ∧ d < n ∧ S.testBit d = false) → pcn S 6 + 1 ≤ n := by decide +kernel
theorem pcn_out (n : Nat) (hn : n < 7) (S : Nat) (hS : S < 64) (h2 : S < 2 ^ n) (d : Nat) (hd : d < 6) (hdn : d < n) (hb : S.testBit d = false) : pcn S 6 + 1 ≤ n := pcn_ou0 n hn S hS d hd ⟨h2, hdn, hb⟩
theorem l64 : ∀ S : Nat, S < 64 → (iI S).toInt64 = lN S := by decide +kernel
theorem r_orders {n k : Nat} (hn : n ≤ 6) (hk : k + 1 ≤ n) : f_X8_orders (iI n) (iI k) = some (iI (fct k * fct (n - 1 - k) : Nat)) := by
  have k1 : tr_lp (fun q => f_X8_orders_L4 (iI k) q.1 q.2) (1, 2) = some (iI (fct k : Nat)) := by
    have key := tr_seq (f := fun q => f_X8_orders_L4 (iI k) q.1 q.2) (fun m => (iI (fct m : Nat), iI (m + 1 : Nat))) (lo := 1) (hi := max 1 k) (r := iI (fct k : Nat)) (by omega) (fun m h1 h2 => by
      show f_X8_orders_L4 (iI k) (iI (fct m : Nat)) (iI (m + 1 : Nat)) = _
      unfold f_X8_orders_L4
      rw [if_neg (by rw [iI_lt (by omega) (by omega) (by omega) (by omega)]; omega)]
      unfold tr_bd
      rw [iI_mul, iI_1, iI_add, fct_s m (by omega)]
      rfl) (by
      show f_X8_orders_L4 (iI k) (iI (fct (max 1 k) : Nat)) (iI (max 1 k + 1 : Nat)) = _
      unfold f_X8_orders_L4
      rw [if_pos (by rw [iI_lt (by omega) (by omega) (by omega) (by omega)]; omega)]
      by_cases c : k = 0
      · subst c; rfl
      · rw [show max 1 k = k by omega])
    exact key
  unfold f_X8_orders
  rw [k1, tr_bn_some]
  unfold f_X8_orders_E19
  have e1 : iI (n : Int) - 1 - iI (k : Int) = iI (n - 1 - k : Nat) := by
    rw [iI_1, iI_sub, iI_sub]
    congr 1
    omega
  have key := tr_seq (f := fun q => f_X8_orders_L21 (iI n) (iI k) q.1 q.2) (fun m => (iI (fct k * fct m : Nat), iI (m + 1 : Nat))) (lo := 1) (hi := max 1 (n - 1 - k)) (r := iI (fct k * fct (n - 1 - k) : Nat)) (by omega) (fun m h1 h2 => by
    show f_X8_orders_L21 (iI n) (iI k) (iI (fct k * fct m : Nat)) (iI (m + 1 : Nat)) = _
    unfold f_X8_orders_L21
    rw [e1, if_neg (by rw [iI_lt (by omega) (by omega) (by omega) (by omega)]; omega)]
    unfold tr_bd
    rw [iI_mul, iI_1, iI_add, fct_s m (by omega), ← Nat.mul_assoc]
    rfl) (by
    show f_X8_orders_L21 (iI n) (iI k) (iI (fct k * fct (max 1 (n - 1 - k)) : Nat)) (iI (max 1 (n - 1 - k) + 1 : Nat)) = _
    unfold f_X8_orders_L21
    rw [e1, if_pos (by rw [iI_lt (by omega) (by omega) (by omega) (by omega)]; omega)]
    by_cases c : n - 1 - k = 0
    · rw [c]; rfl
    · rw [show max 1 (n - 1 - k) = n - 1 - k by omega])
  have h0 : (iI (fct k : Nat), (2 : Int32)) = (iI (fct k * fct 1 : Nat), iI (1 + 1 : Nat)) := by
    rw [show fct 1 = 1 from rfl, Nat.mul_one]
    rfl
  rw [h0, key]
  rfl
/-! the pace of each set -/
noncomputable def PS (n : Nat) (w : Nat → Int) (S : Nat) : Int := @dite _ (∃ P, isPace n w (fun k => S.testBit k) P) (Classical.propDecidable _) (fun h => Classical.choose h) (fun _ => 0)
theorem PS_is {n : Nat} {w : Nat → Int} {S : Nat} {P : Int} (h : isPace n w (fun k => S.testBit k) P) : PS n w S = P := by
  have hex : ∃ P, isPace n w (fun k => S.testBit k) P := ⟨P, h⟩
  unfold PS
  rw [dif_pos hex]
  exact isPace_one (Classical.choose_spec hex) h
noncomputable def pv (n : Nat) (w : Nat → Int) (S : Nat) : Int := max 0 (PS n w S)
theorem isPace_b {n : Nat} {w : Nat → Int} {som : Nat → Bool} {P : Int} (h : isPace n w som P) : -1 ≤ P ∧ P ≤ 540 := by
  rcases h with ⟨h, -⟩ | ⟨h1, h2, -⟩ <;> omega
theorem isPace_le {n : Nat} {w : Nat → Int} {s1 s2 : Nat → Bool} {P Q : Int} (h1 : isPace n w s1 P) (h2 : isPace n w s2 Q) (hs : ∀ y, s1 y = true → s2 y = true) : P ≤ Q := by
  have hq := isPace_b h2
  rcases h1 with ⟨h, -⟩ | ⟨a1, a2, a3, x, b, a4, a5, a6⟩
  · omega
  · have hin : ∀ y ∈ x :: b, s2 y = true := fun y hy => hs y (a5 y hy)
    rcases h2 with ⟨-, g⟩ | ⟨g1, g2, g3, -⟩
    · exact absurd hin (g x b a4)
    · have := g3 x b a4 hin
      rw [a6] at this
      exact Int.le_of_mul_le_mul_right this (by omega)
section SHR
variable {n d : Nat} {w : Nat → Int}
def fT (n S : Nat) : Nat := fct (pcn S 6) * fct (n - 1 - pcn S 6)
noncomputable def upF (n d : Nat) (w : Nat → Int) (m : Nat) : Int := itr (fun S a => if S.testBit d then a else a + (fT n S : Int) * (pv n w (S ||| 2 ^ d) - pv n w S)) m 0
def lowF (n d m : Nat) : Nat := itr (fun S a => if S.testBit d then a else a + fT n S) m 0
theorem low_all : ∀ n : Nat, n < 7 → ∀ d : Nat, d < 6 → d < n → lowF n d (2 ^ n) = fct n := by decide +kernel
/-- what both sides hold of the sets -/
def hasP (n : Nat) (w : Nat → Int) (f : Nat → Int32) (m : Nat) : Prop := ∀ S, S < m → f S = iI (pv n w S) ∧ ∃ P, isPace n w (fun k => S.testBit k) P
theorem upF_b {f : Nat → Int32} (hp : hasP n w f (2 ^ n)) (hd : d < n) : ∀ m, m ≤ 2 ^ n → 0 ≤ upF n d w m ∧ upF n d w m ≤ 540 * (lowF n d m : Int) := by
  intro m
  induction m with
  | zero => intro _; exact ⟨Int.le_refl _, Int.le_refl _⟩
  | succ m ih =>
    intro hm
    have h1 := ih (by omega)
    show 0 ≤ (if m.testBit d then upF n d w m else upF n d w m + (fT n m : Int) * (pv n w (m ||| 2 ^ d) - pv n w m)) ∧ (if m.testBit d then upF n d w m else upF n d w m + (fT n m : Int) * (pv n w (m ||| 2 ^ d) - pv n w m)) ≤ 540 * ((if m.testBit d then lowF n d m else lowF n d m + fT n m : Nat) : Int)
    by_cases c : m.testBit d = true
    · rw [if_pos c, if_pos c]; exact h1
    · rw [if_neg c, if_neg c]
      have hor : m ||| 2 ^ d < 2 ^ n := Nat.or_lt_two_pow (by omega) (Nat.pow_lt_pow_right (by decide) hd)
      obtain ⟨-, P, hP⟩ := hp m (by omega)
      obtain ⟨-, Q, hQ⟩ := hp (m ||| 2 ^ d) hor
      have e1 : pv n w m = max 0 P := by unfold pv; rw [PS_is hP]
      have e2 : pv n w (m ||| 2 ^ d) = max 0 Q := by unfold pv; rw [PS_is hQ]
      have hPQ := isPace_le hP hQ (fun y hy => or_t.mpr (Or.inl hy))
      have bP := isPace_b hP
      have bQ := isPace_b hQ
      have x1 : 0 ≤ pv n w (m ||| 2 ^ d) - pv n w m := by rw [e1, e2]; omega
      have x2 : pv n w (m ||| 2 ^ d) - pv n w m ≤ 540 := by rw [e1, e2]; omega
      have y1 := Int.mul_nonneg (Int.natCast_nonneg (fT n m)) x1
      have y2 := Int.mul_le_mul_of_nonneg_left x2 (Int.natCast_nonneg (fT n m))
      generalize (fT n m : Int) * (pv n w (m ||| 2 ^ d) - pv n w m) = X at y1 y2
      omega
theorem w_added {h : tr_H} (hn : n ≤ 6) (hd : d < n) (hp : hasP n w (h.1 30) (2 ^ n)) : f_X4_added (iI d) (iI n) h = some (iI (upF n d w (2 ^ n))) := by
  have h64 : 2 ^ n ≤ 2 ^ 6 := Nat.pow_le_pow_right (by decide) hn
  unfold f_X4_added
  have key := tr_seq (f := fun q => f_X4_added_L5 (iI n) (iI d) h q.1 q.2) (fun m => (iI (upF n d w m), iI m)) (lo := 0) (hi := 2 ^ n) (r := iI (upF n d w (2 ^ n))) (Nat.zero_le _) (fun m _ hm => by
    have hm64 : m < 64 := by omega
    show f_X4_added_L5 (iI n) (iI d) h (iI (upF n d w m)) (iI m) = some (.inl (iI (if m.testBit d then upF n d w m else upF n d w m + (fT n m : Int) * (pv n w (m ||| 2 ^ d) - pv n w m)), iI (m + 1 : Nat)))
    unfold f_X4_added_L5
    rw [shl7 n (by omega), if_neg (by rw [iI_le (by omega) (by omega) (by omega) (by omega)]; omega)]
    by_cases c : m.testBit d = true
    · rw [if_neg (fun q => by rw [(bitz m hm64 d (by omega)).mp q] at c; cases c), if_pos c]
      unfold tr_bd
      rw [iI_1, iI_add]
      rfl
    · have c' : m.testBit d = false := by cases q : m.testBit d <;> simp_all
      have hor : m ||| 2 ^ d < 2 ^ n := Nat.or_lt_two_pow hm (Nat.pow_lt_pow_right (by decide) hd)
      have hpc := pcn_out n (by omega) m hm64 hm d (by omega) hd c'
      have e1 : iI (n : Int) - 1 - iI (pcn m 6 : Nat) = iI (n - 1 - pcn m 6 : Nat) := by
        rw [iI_1, iI_sub, iI_sub]
        congr 1
        omega
      have q1 := (hp m hm).1
      have q2 := (hp _ hor).1
      have q3 := f1_fct (pcn m 6) (by omega)
      have q4 := f1_fct (n - 1 - pcn m 6) (by omega)
      rw [if_pos ((bitz m hm64 d (by omega)).mpr c'), bcn m hm64, tr_bn_some, tr_gdI (by omega) (by omega) (by omega), if_neg c, e1, orb (by omega)]
      simp (disch := omega) only [tr_bd, tr_gdI, iI_ix, q1, q2, q3, q4]
      rw [iI_mul, iI_sub, iI_mul, iI_add, iI_1, iI_add]
      rfl) (by
    show f_X4_added_L5 (iI n) (iI d) h (iI (upF n d w (2 ^ n))) (iI (2 ^ n : Nat)) = _
    unfold f_X4_added_L5
    rw [shl7 n (by omega), if_pos (Int32.le_refl _)])
  rw [show ((0 : Int32), (0 : Int32)) = (iI (upF n d w 0), iI (0 : Nat)) from rfl, key]
  rfl
theorem r_share2 {h : tr_H} (hn : n ≤ 6) (hd : d < n) (hp : hasP n w (h.1 16) (2 ^ n)) : tr_lp (fun q => f_X8_share_L78 (iI n) (iI d) h q.1 q.2.1 q.2.2) (0, 0, 0) = some (iI (upF n d w (2 ^ n)), iI (lowF n d (2 ^ n) : Nat)) := by
  have h64 : 2 ^ n ≤ 2 ^ 6 := Nat.pow_le_pow_right (by decide) hn
  have key := tr_seq (f := fun q => f_X8_share_L78 (iI n) (iI d) h q.1 q.2.1 q.2.2) (fun m => (iI (upF n d w m), iI (lowF n d m : Nat), iI m)) (lo := 0) (hi := 2 ^ n) (r := (iI (upF n d w (2 ^ n)), iI (lowF n d (2 ^ n) : Nat))) (Nat.zero_le _) (fun m _ hm => by
    have hm64 : m < 64 := by omega
    show f_X8_share_L78 (iI n) (iI d) h (iI (upF n d w m)) (iI (lowF n d m : Nat)) (iI m) = some (.inl (iI (if m.testBit d then upF n d w m else upF n d w m + (fT n m : Int) * (pv n w (m ||| 2 ^ d) - pv n w m)), iI ((if m.testBit d then lowF n d m else lowF n d m + fT n m : Nat) : Int), iI (m + 1 : Nat)))
    unfold f_X8_share_L78
    rw [shl7 n (by omega), if_neg (by rw [iI_le (by omega) (by omega) (by omega) (by omega)]; omega), r_has hm64 (by omega), tr_bn_some]
    by_cases c : m.testBit d = true
    · rw [if_pos c, if_pos c, if_pos c, if_neg n10]
      unfold tr_bd
      rw [iI_1, iI_add]
      rfl
    · have c' : m.testBit d = false := by cases q : m.testBit d <;> simp_all
      have hor : m ||| 2 ^ d < 2 ^ n := Nat.or_lt_two_pow hm (Nat.pow_lt_pow_right (by decide) hd)
      have hpc := pcn_out n (by omega) m hm64 hm d (by omega) hd c'
      have q1 := (hp m hm).1
      have q2 := (hp _ hor).1
      rw [if_neg c, if_neg c, if_neg c, if_pos z00, l64 m hm64, r_many (K := 6) (by omega) (by omega), tr_bn_some, r_orders hn hpc, tr_bn_some, orb (by omega)]
      simp (disch := omega) only [tr_bd, tr_gdI, iI_ix, q1, q2]
      rw [iI_sub, iI_mul, iI_add, iI_add, iI_1, iI_add]
      rfl) (by
    show f_X8_share_L78 (iI n) (iI d) h (iI (upF n d w (2 ^ n))) (iI (lowF n d (2 ^ n) : Nat)) (iI (2 ^ n : Nat)) = _
    unfold f_X8_share_L78
    rw [shl7 n (by omega), if_pos (Int32.le_refl _)])
  exact key
theorem r_share1 {h : tr_H} (hP : tP h 3 n w) : ∃ h', tr_lp (fun q => f_X8_share_L25 (iI n) q.1 q.2) (iI (0 : Nat), h) = some h' ∧ gM h h' ∧ hasP n w (h'.1 16) (2 ^ n) := by
  have hn := hP.2.1.2.1
  have h64 : 2 ^ n ≤ 2 ^ 6 := Nat.pow_le_pow_right (by decide) hn
  obtain ⟨r, k1, k2, k3⟩ := tr_inv (f := fun q => f_X8_share_L25 (iI n) q.1 q.2) (fun m s => ∃ h1, s = (iI m, h1) ∧ gM h h1 ∧ hasP n w (h1.1 16) m) (fun h1 => gM h h1 ∧ hasP n w (h1.1 16) (2 ^ n)) (hi := 2 ^ n) (by
    rintro m s hm ⟨h1, rfl, g1, g2⟩
    have hm64 : m < 64 := by omega
    obtain ⟨P, h2, e1, e2, e3⟩ := r_sixt (mask := m) hm64 (tP_M g1 hP)
    have hb := isPace_b e3
    have hpv : pv n w m = max 0 P := by unfold pv; rw [PS_is e3]
    have e16 : h2.1 16 = h1.1 16 := e2.1 16 (by decide) (by decide) (by decide)
    refine ⟨(iI (m + 1 : Nat), tr_si h2 16 m (iI (pv n w m))), ?_, _, rfl, gM_tr g1 (gM_tr (gM_R e2) (gM_f (fr_si (L := [16]) _ _ _ (by simp)) (by decide) (by decide))), fun S hS => ?_⟩
    · show f_X8_share_L25 (iI n) (iI m) h1 = _
      unfold f_X8_share_L25
      rw [shl7 n (by omega), if_neg (by rw [iI_le (by omega) (by omega) (by omega) (by omega)]; omega), e1, tr_b2_some]
      by_cases c : 0 ≤ P
      · rw [if_pos (show (0 : Int32) ≤ iI P by rw [iI_0, iI_le (by omega) (by omega) (by omega) (by omega)]; exact c), tr_gdI (by omega) (by omega) (by omega), iI_ix (by omega), hpv, show max 0 P = P by omega]
        unfold tr_bd
        rw [iI_1, iI_add]
        rfl
      · rw [if_neg (show ¬ (0 : Int32) ≤ iI P by rw [iI_0, iI_le (by omega) (by omega) (by omega) (by omega)]; exact c), tr_gdI (by omega) (by omega) (by omega), iI_ix (by omega), hpv, show max 0 P = 0 by omega]
        unfold tr_bd
        rw [iI_1, iI_add]
        rfl
    · by_cases e : S = m
      · rw [e, si_s]
        exact ⟨rfl, P, e3⟩
      · rw [si_n _ _ _ e, e16]
        exact g2 S (by omega)) (by
    rintro s ⟨h1, rfl, g1, g2⟩
    refine ⟨h1, ?_, g1, g2⟩
    show f_X8_share_L25 (iI n) (iI (2 ^ n : Nat)) h1 = _
    unfold f_X8_share_L25
    rw [shl7 n (by omega), if_pos (Int32.le_refl _)]) 0 (iI (0 : Nat), h) (Nat.zero_le _) ⟨h, rfl, gM_rf _, fun S hS => by omega⟩
  exact ⟨r, k1, k2, k3⟩
end SHR
theorem s_share : ∀ (v0 : Int32) (v1 : Int32) (hx hm : tr_H), Rl hx hm → ∃ (r0 : Int32) (gx gm : tr_H), f_X7_share v0 v1 hx = some (r0, gx) ∧ f_X8_share v0 v1 hm = some (r0, gm) ∧ Rl gx gm := by
  intro v0 v1 hx hm hR
  obtain ⟨v, hv, rfl⟩ := ex_iI v0
  have hR0 := Rl_0 hR
  obtain ⟨m0, em0⟩ : ∃ m0, m0 = tr_si hm 0 0 0 := ⟨_, rfl⟩
  rw [← em0] at hR0
  obtain ⟨n, w, hN, hP⟩ := Rl_net hR0
  have h6 := hN.2.1.2.1
  have h1 := hN.2.1.1
  unfold f_X7_share f_X8_share
  simp only [tr_bd]
  rw [← em0, n_has hN hv.1 hv.2, r_nod hP hv, tr_bn_some, tr_bn_some]
  by_cases c1 : 0 ≤ v ∧ v < n
  · obtain ⟨d, rfl⟩ : ∃ d : Nat, v = (d : Int) := ⟨v.toNat, by omega⟩
    rw [if_pos c1, if_pos c1, if_neg n10, if_pos z00]
    obtain ⟨x1, a1, a2, -, a4⟩ := w_fill hN
    have hpx : hasP n w (x1.1 30) (2 ^ n) := fun S hS => by
      obtain ⟨P, g1, g2⟩ := a4 S hS
      exact ⟨by rw [g2]; unfold pv; rw [PS_is g1], P, g1⟩
    obtain ⟨m1, b1, b2, b3⟩ := r_share1 hP
    have hN1 := tN_fr a2 (by simp) (by simp) hN
    have hub := upF_b (d := d) hpx (by omega) (2 ^ n) (Nat.le_refl _)
    have hlow := low_all n (by omega) d (by omega) (by omega)
    have hfb := fct_b n (by omega)
    rw [hlow] at hub
    obtain ⟨U, eU⟩ : ∃ U : Nat, upF n d w (2 ^ n) = (U : Int) := ⟨(upF n d w (2 ^ n)).toNat, by omega⟩
    rw [a1, tr_bn_some, hN1.2.2.1, tr_gdI (by omega) (by omega) (by omega), iI_ix (by omega), f1_fct n (by omega), w_added h6 (by omega) hpx, tr_bn_some, show (0 : Int32).toNatClampNeg = 0 from rfl, hP.2.2.1, show ((0 : Int32), m0) = (iI (0 : Nat), m0) from rfl, b1, tr_bn_some]
    unfold f_X8_share_E69
    rw [r_share2 h6 (by omega) b3, tr_bn_some]
    unfold f_X8_share_E147
    rw [hlow, eU, iI_60, iI_mul, iI_mul, show ((fct n : Nat) : Int) * 60 = ((60 * fct n : Nat) : Int) by omega, show (60 : Int) * ((fct n : Nat) : Int) = ((60 * fct n : Nat) : Int) by omega, c_told (by omega) (by omega) (by omega), tr_bn_some, r_fraction (by omega) (by omega) (by omega), tr_bn_some]
    exact ⟨_, _, _, rfl, rfl, Rl_fr (fr_up a2 (by decide)) b2 hR0⟩
  · rw [if_neg c1, if_neg c1, if_pos z00, if_neg n10]
    exact ⟨_, _, _, rfl, rfl, hR0⟩
end
section
/-! where the delay began -/
theorem scanAll {f : Int32 → Option (Int32 ⊕ (Unit ⊕ Int32))} {Z : Nat} (ok : Nat → Prop) (step : ∀ i, i < Z → (ok i → f (iI i) = some (.inl (iI (i + 1 : Nat)))) ∧ (¬ ok i → f (iI i) = some (.inr (.inr 0)))) (ex : f (iI Z) = some (.inr (.inl ()))) : ((∀ i, i < Z → ok i) → tr_lp f (iI (0 : Nat)) = some (.inl ())) ∧ (¬ (∀ i, i < Z → ok i) → tr_lp f (iI (0 : Nat)) = some (.inr 0)) := by
  constructor
  · intro h
    exact tr_seq (f := f) (fun m => iI m) (lo := 0) (hi := Z) (by omega) (fun i _ hi => (step i hi).1 (h i hi)) ex
  · intro h
    have key : ∀ (d i : Nat), i + d = Z → (∃ k, i ≤ k ∧ k < Z ∧ ¬ ok k) → tr_lp f (iI i) = some (.inr 0) := by
      intro d
      induction d with
      | zero =>
        rintro i hi ⟨k, h1, h2, -⟩
        omega
      | succ d ih =>
        rintro i hi ⟨k, h1, h2, h3⟩
        by_cases c : ok i
        · rw [tr_lp_go ((step i (by omega)).1 c)]
          refine ih (i + 1) (by omega) ⟨k, ?_, h2, h3⟩
          have : k ≠ i := fun e => by subst e; exact h3 c
          omega
        · exact tr_lp_out ((step i (by omega)).2 c)
    refine key Z 0 (by omega) ?_
    apply Classical.byContradiction
    intro q
    exact h (fun i hi => Classical.byContradiction fun z => q ⟨i, Nat.zero_le _, hi, z⟩)
/-- what was seen, as numbers -/
def seeN (hx hm : tr_H) (Z : Nat) (A R Q : Nat → Nat) : Prop := (Z ≤ 6 ∧ hx.1 17 3 = iI Z ∧ hm.1 0 12 = iI Z) ∧ ∀ k, k < Z → (A k < 6 ∧ 1 ≤ R k ∧ R k ≤ 9 ∧ Q k ≤ 1) ∧ (hx.1 18 k = iI (A k) ∧ hx.1 19 k = iI (R k) ∧ hx.1 20 k = iI (Q k)) ∧ hm.1 8 k = iI (A k) ∧ hm.1 9 k = iI (R k) ∧ hm.1 10 k = iI (Q k)
theorem sen_fun {hx hm : tr_H} {Z : Nat} (h : sen hx hm Z) : seeN hx hm Z (fun k => (hx.1 18 k).toNatClampNeg) (fun k => (hx.1 19 k).toNatClampNeg) (fun k => (hx.1 20 k).toNatClampNeg) := by
  obtain ⟨z1, z2, z3, z4⟩ := h
  refine ⟨⟨z1, z2, z3⟩, fun k hk => ?_⟩
  obtain ⟨a, r, q, g1, ⟨g2, g3, g4⟩, g5, g6, g7⟩ := z4 k hk
  have e1 : (hx.1 18 k).toNatClampNeg = a := by rw [g2, iI_ix (by omega)]
  have e2 : (hx.1 19 k).toNatClampNeg = r := by rw [g3, iI_ix (by omega)]
  have e3 : (hx.1 20 k).toNatClampNeg = q := by rw [g4, iI_ix (by omega)]
  dsimp only
  rw [e1, e2, e3]
  exact ⟨g1, ⟨g2, g3, g4⟩, g5, g6, g7⟩
section BEG
variable {n : Nat} {w : Nat → Int} {Z : Nat} {A R Q : Nat → Nat}
def fit1 (n : Nat) (w : Nat → Int) (A R Q : Nat → Nat) (at_ : Nat) (d : Int) (k : Nat) : Prop := 0 < lat n w 10 at_ d (R k) (A k) ↔ Q k = 1
def fitP (n : Nat) (w : Nat → Int) (Z : Nat) (A R Q : Nat → Nat) (at_ : Nat) (d : Int) : Prop := ∀ k, k < Z → fit1 n w A R Q at_ d k
theorem w_fits {h hm : tr_H} (hw : okn n w) (hS : seeN h hm Z A R Q) {at_ : Nat} {d : Int} (hd : 0 ≤ d ∧ d ≤ 30) (hs : spT n (spq n w 10 at_) (9 + 1) 0 (h.1 26)) : (fitP n w Z A R Q at_ d → f_X5_fits (iI d) (iI n) h = some 1) ∧ (¬ fitP n w Z A R Q at_ d → f_X5_fits (iI d) (iI n) h = some 0) := by
  have hk := kept10 hw
  have h6 := hw.2.1
  have lb := lat_b (at_ := at_) hw hk hd
  have hsc := scanAll (f := fun q => f_X5_fits_L3 h (iI n) (iI d) q) (Z := Z) (fit1 n w A R Q at_ d) (by
    intro i hi
    obtain ⟨⟨a1, a2, a3, a4⟩, ⟨b1, b2, b3⟩, -⟩ := hS.2 i hi
    have hZ := hS.1.1
    -- what follows once it is known whether it was late
    have hJ : ∀ (L : Prop) (g : Int32), (L → g = 1) → (¬ L → g = 0) → ((L ↔ Q i = 1) → f_X5_fits_J57 (iI i) h g = some (.inl (iI (i + 1 : Nat)))) ∧ (¬ (L ↔ Q i = 1) → f_X5_fits_J57 (iI i) h g = some (.inr (.inr 0))) := by
      intro L g g1 g0
      unfold f_X5_fits_J57
      rw [tr_gdI (by omega) (by omega) (by omega), iI_ix (by omega), b3]
      have hq : (iI (Q i : Nat) = 1 ↔ Q i = 1) := by
        rw [iI_1, iI_eq (by omega) (by omega) (by omega) (by omega)]
        omega
      unfold f_X5_fits_J77
      simp only [tr_bd]
      by_cases cq : Q i = 1
      · rw [if_pos (hq.mpr cq)]
        by_cases cl : L
        · rw [g1 cl, if_pos rfl, iI_1, iI_add]
          exact ⟨fun _ => rfl, fun q => absurd ⟨fun _ => cq, fun _ => cl⟩ q⟩
        · rw [g0 cl, if_neg (by decide)]
          exact ⟨fun q => absurd (q.mpr cq) cl, fun _ => rfl⟩
      · rw [if_neg (fun z => cq (hq.mp z))]
        by_cases cl : L
        · rw [g1 cl, if_neg (by decide)]
          exact ⟨fun q => absurd (q.mp cl) cq, fun _ => rfl⟩
        · rw [g0 cl, if_pos rfl, iI_1, iI_add]
          exact ⟨fun _ => rfl, fun q => absurd ⟨fun z => absurd z cl, fun z => absurd z cq⟩ q⟩
    show (fit1 n w A R Q at_ d i → f_X5_fits_L3 h (iI n) (iI d) (iI i) = _) ∧ (¬ fit1 n w A R Q at_ d i → f_X5_fits_L3 h (iI n) (iI d) (iI i) = _)
    unfold f_X5_fits_L3
    rw [hS.1.2.1, if_neg (by rw [iI_le (by omega) (by omega) (by omega) (by omega)]; omega), if_neg (by rw [iI_6, iI_le (by omega) (by omega) (by omega) (by omega)]; omega), tr_gdI (by omega) (by omega) (by omega), tr_gdI (by omega) (by omega) (by omega), tr_gdI (by omega) (by omega) (by omega), iI_ix (by omega), b1, b2]
    by_cases ca : A i < n
    · have hl := w_lateness hw hk hd hs (r := R i) (v := A i) (by omega) (by omega) ca
      have b4 := lb (R i) (A i)
      rw [if_neg (by rw [iI_le (by omega) (by omega) (by omega) (by omega)]; omega), hl, tr_bn_some]
      by_cases cl : 0 < lat n w 10 at_ d (R i) (A i)
      · rw [if_neg (by rw [iI_0, iI_le (by omega) (by omega) (by omega) (by omega)]; omega)]
        exact hJ (0 < lat n w 10 at_ d (R i) (A i)) 1 (fun _ => rfl) (fun q => absurd cl q)
      · rw [if_pos (by rw [iI_0, iI_le (by omega) (by omega) (by omega) (by omega)]; omega)]
        exact hJ (0 < lat n w 10 at_ d (R i) (A i)) 0 (fun q => absurd q cl) (fun _ => rfl)
    · have hz : lat n w 10 at_ d (R i) (A i) = 0 := by
        obtain ⟨r, er⟩ : ∃ r, R i = r + 1 := ⟨R i - 1, by omega⟩
        rw [er, lat_s, if_neg ca]
      rw [if_pos (by rw [iI_le (by omega) (by omega) (by omega) (by omega)]; omega)]
      exact hJ (0 < lat n w 10 at_ d (R i) (A i)) 0 (fun q => by omega) (fun _ => rfl)) (by
    show f_X5_fits_L3 h (iI n) (iI d) (iI Z) = _
    unfold f_X5_fits_L3
    rw [hS.1.2.1, if_pos (Int32.le_refl _)])
  constructor
  · intro q
    unfold f_X5_fits
    rw [show (0 : Int32) = iI (0 : Nat) from rfl, hsc.1 q]
    rfl
  · intro q
    unfold f_X5_fits
    rw [show (0 : Int32) = iI (0 : Nat) from rfl, hsc.2 q]
    rfl
noncomputable def bI (P : Prop) : Int32 := if pB P then 1 else 0
theorem bI_t {P : Prop} (h : P) : bI P = 1 := by unfold bI; rw [pB_t h]; rfl
theorem bI_f {P : Prop} (h : ¬ P) : bI P = 0 := by unfold bI; rw [pB_f h]; rfl
theorem bI_cg {P P' : Prop} (h : P ↔ P') : bI P = bI P' := by
  by_cases c : P
  · rw [bI_t c, bI_t (h.mp c)]
  · rw [bI_f c, bI_f (fun q => c (h.mpr q))]
/-- as far as a round, and in it as far as a number -/
def exP (n : Nat) (w : Nat → Int) (Z : Nat) (A R Q : Nat → Nat) (at_ : Nat) (d : Int) (r i : Nat) : Prop := ∀ k, k < Z → (R k < r ∨ (R k = r ∧ k < i)) → fit1 n w A R Q at_ d k
theorem r_exStep {h hx : tr_H} (hw : okn n w) (hS : seeN hx h Z A R Q) {at_ : Nat} {d : Int} (hd : 0 ≤ d ∧ d ≤ 30) {r : Nat} (hr : r < 10) (hl : latP h n w 10 at_ d r) {i : Nat} (hi : i < Z) : f_X8_explains_L32 h (iI r) (bI (exP n w Z A R Q at_ d r i)) (iI i) = some (.inl (bI (exP n w Z A R Q at_ d r (i + 1)), iI (i + 1 : Nat))) := by
  have hk := kept10 hw
  have lb := lat_b (at_ := at_) hw hk hd
  obtain ⟨⟨a1, a2, a3, a4⟩, -, b1, b2, b3⟩ := hS.2 i hi
  have hZ := hS.1.1
  have hsucc : exP n w Z A R Q at_ d r (i + 1) ↔ (exP n w Z A R Q at_ d r i ∧ (R i = r → fit1 n w A R Q at_ d i)) := by
    constructor
    · intro q
      exact ⟨fun k h1 h2 => q k h1 (by omega), fun e => q i hi (by omega)⟩
    · rintro ⟨q1, q2⟩ k h1 h2
      by_cases e : k = i
      · subst e
        rcases h2 with h2 | h2
        · exact q1 k h1 (Or.inl h2)
        · exact q2 h2.1
      · exact q1 k h1 (by omega)
  unfold f_X8_explains_L32
  rw [hS.1.2.2, if_neg (by rw [iI_le (by omega) (by omega) (by omega) (by omega)]; omega)]
  by_cases c1 : exP n w Z A R Q at_ d r i
  · rw [bI_t c1, if_neg n10, tr_gdI (by omega) (by omega) (by omega), iI_ix (by omega), b2]
    by_cases c2 : R i = r
    · have b4 := lb r (A i)
      have hlA := hl (A i) a1
      rw [if_pos (show iI (R i : Nat) = iI (r : Nat) by rw [c2])]
      simp (disch := omega) only [tr_bd, tr_gdI, iI_ix, b1, hlA]
      have hq : (iI (Q i : Nat) = 1 ↔ Q i = 1) := by
        rw [iI_1, iI_eq (by omega) (by omega) (by omega) (by omega)]
        omega
      have hfit : bI (exP n w Z A R Q at_ d r (i + 1)) = bI (0 < lat n w 10 at_ d r (A i) ↔ Q i = 1) := bI_cg (by
        rw [hsucc]
        unfold fit1
        rw [c2]
        exact ⟨fun z => z.2 rfl, fun z => ⟨c1, fun _ => z⟩⟩)
      rw [hfit]
      have hJ : ∀ (L : Prop) (g : Int32), (L → g = 1) → (¬ L → g = 0) → f_X8_explains_J77 (iI i) h g = some (.inl (bI (L ↔ Q i = 1), iI (i + 1 : Nat))) := by
        intro L g g1 g0
        unfold f_X8_explains_J77
        rw [tr_gdI (by omega) (by omega) (by omega), iI_ix (by omega), b3]
        unfold f_X8_explains_J93
        simp only [tr_bd]
        by_cases cq : Q i = 1
        · rw [if_pos (hq.mpr cq)]
          by_cases cl : L
          · rw [g1 cl, if_pos rfl, bI_t ⟨fun _ => cq, fun _ => cl⟩, iI_1, iI_add]
            rfl
          · rw [g0 cl, if_neg (by decide), bI_f (fun z => cl (z.mpr cq)), iI_1, iI_add]
            rfl
        · rw [if_neg (fun z => cq (hq.mp z))]
          by_cases cl : L
          · rw [g1 cl, if_neg (by decide), bI_f (fun z => cq (z.mp cl)), iI_1, iI_add]
            rfl
          · rw [g0 cl, if_pos rfl, bI_t ⟨fun z => absurd z cl, fun z => absurd z cq⟩, iI_1, iI_add]
            rfl
      by_cases cl : 0 < lat n w 10 at_ d r (A i)
      · rw [if_neg (by rw [iI_0, iI_le (by omega) (by omega) (by omega) (by omega)]; omega)]
        exact hJ _ 1 (fun _ => rfl) (fun q => absurd cl q)
      · rw [if_pos (by rw [iI_0, iI_le (by omega) (by omega) (by omega) (by omega)]; omega)]
        exact hJ _ 0 (fun q => absurd q cl) (fun _ => rfl)
    · rw [if_neg (show ¬ iI (R i : Nat) = iI (r : Nat) by rw [iI_eq (by omega) (by omega) (by omega) (by omega)]; omega), bI_t (hsucc.mpr ⟨c1, fun z => absurd z c2⟩)]
      simp only [tr_bd]
      rw [iI_1, iI_add]
      rfl
  · rw [bI_f c1, if_pos z00, bI_f (fun z => c1 (hsucc.mp z).1)]
    simp only [tr_bd]
    rw [iI_1, iI_add]
    rfl
theorem seeN_m {hx hm hm' : tr_H} (e0 : hm'.1 0 12 = hm.1 0 12) (e1 : hm'.1 8 = hm.1 8) (e2 : hm'.1 9 = hm.1 9) (e3 : hm'.1 10 = hm.1 10) (h : seeN hx hm Z A R Q) : seeN hx hm' Z A R Q := by
  unfold seeN at h ⊢
  rw [e0, e1, e2, e3]
  exact h
theorem seeN_x {hx hx' hm : tr_H} (e0 : hx'.1 17 = hx.1 17) (e1 : hx'.1 18 = hx.1 18) (e2 : hx'.1 19 = hx.1 19) (e3 : hx'.1 20 = hx.1 20) (h : seeN hx hm Z A R Q) : seeN hx' hm Z A R Q := by
  unfold seeN at h ⊢
  rw [e0, e1, e2, e3]
  exact h
theorem r_explains {h hx : tr_H} (hP : tP h 3 n w) (hT : timP h n w 10) (hS : seeN hx h Z A R Q) {at_ : Nat} (ha : at_ < n) {d : Int} (hd : 0 ≤ d ∧ d ≤ 30) : ∃ h', f_X8_explains (iI at_) (iI d) h = some (bI (fitP n w Z A R Q at_ d), h') ∧ fr [14, 15] h h' := by
  have hw := hP.2.1
  have h6 := hw.2.1
  have hk := kept10 hw
  obtain ⟨h1, a1, a2, a3⟩ := r_beginLate (h := h) (n := n) (w := w) (p := 10) (d := d) (at_ := at_) (by omega)
  have f1 : fr [14, 15] h h1 := fr_up a2 (by simp)
  obtain ⟨r, k1, h2, k2, k3⟩ := tr_inv (f := fun q => f_X8_explains_L11 q.1 q.2.1 q.2.2) (fun m s => ∃ h2, s = (bI (exP n w Z A R Q at_ d m 0), iI m, h2) ∧ fr [14, 15] h h2 ∧ 1 ≤ m ∧ latP h2 n w 10 at_ d (m - 1)) (fun s => ∃ h2, s = (bI (exP n w Z A R Q at_ d 10 0), h2) ∧ fr [14, 15] h h2) (hi := 10) (by
    rintro m s hm ⟨h2, rfl, f2, m1, l2⟩
    have hP2 := tP_fr f2 (by simp) hP
    obtain ⟨h3, e3, f3, l3⟩ := r_goRound hP2 hk (fun v hv => by rw [f2.1 13 (by decide)]; exact hT v hv) hd l2
    rw [show m - 1 + 1 = m by omega] at l3
    have f4 : fr [14, 15] h h3 := fr_tr f2 f3
    have hS3 : seeN hx h3 Z A R Q := seeN_m (by rw [f4.1 0 (by decide)]) (f4.1 8 (by decide)) (f4.1 9 (by decide)) (f4.1 10 (by decide)) hS
    have hZ := hS.1.1
    have key := tr_seq (f := fun q => f_X8_explains_L32 h3 (iI m) q.1 q.2) (fun i => (bI (exP n w Z A R Q at_ d m i), iI i)) (lo := 0) (hi := Z) (r := bI (exP n w Z A R Q at_ d m Z)) (by omega) (fun i _ hi => r_exStep hw hS3 hd hm l3 hi) (by
      show f_X8_explains_L32 h3 (iI m) (bI (exP n w Z A R Q at_ d m Z)) (iI Z) = _
      unfold f_X8_explains_L32
      rw [hS3.1.2.2, if_pos (Int32.le_refl _)])
    have hnx : bI (exP n w Z A R Q at_ d m Z) = bI (exP n w Z A R Q at_ d (m + 1) 0) := bI_cg ⟨fun q k h1 h2 => q k h1 (by omega), fun q k h1 h2 => q k h1 (by omega)⟩
    refine ⟨(bI (exP n w Z A R Q at_ d (m + 1) 0), iI (m + 1 : Nat), h3), ?_, h3, rfl, f4, by omega, by rw [show m + 1 - 1 = m by omega]; exact l3⟩
    show f_X8_explains_L11 (bI (exP n w Z A R Q at_ d m 0)) (iI m) h2 = _
    unfold f_X8_explains_L11
    rw [if_neg (by rw [iI_10, iI_le (by omega) (by omega) (by omega) (by omega)]; omega), iI_10, e3, tr_b2_some, show ((bI (exP n w Z A R Q at_ d m 0)), (0 : Int32)) = (bI (exP n w Z A R Q at_ d m 0), iI (0 : Nat)) from rfl, key, tr_bn_some, hnx]
    unfold f_X8_explains_E108 tr_bd
    rw [iI_1, iI_add]
    rfl) (by
    rintro s ⟨h2, rfl, f2, m1, l2⟩
    exact ⟨_, rfl, h2, rfl, f2⟩) 1 (bI (exP n w Z A R Q at_ d 1 0), iI (1 : Nat), h1) (by omega) ⟨h1, rfl, f1, by omega, a3⟩
  refine ⟨h2, ?_, k3⟩
  have e0 : bI (exP n w Z A R Q at_ d 1 0) = 1 := bI_t (fun k h1 h2 => by have := (hS.2 k h1).1; omega)
  have e9 : bI (exP n w Z A R Q at_ d 10 0) = bI (fitP n w Z A R Q at_ d) := bI_cg ⟨fun q k h1 => q k h1 (by have := (hS.2 k h1).1; omega), fun q k h1 _ => q k h1⟩
  unfold f_X8_explains
  rw [a1, tr_bn_some, show ((1 : Int32), (1 : Int32), h1) = (bI (exP n w Z A R Q at_ d 1 0), iI (1 : Nat), h1) by rw [e0]; rfl, k1, tr_bn_some, k2, e9]
  unfold f_X8_explains_E114
  by_cases c : fitP n w Z A R Q at_ d
  · rw [bI_t c, zb1]
  · rw [bI_f c, zb0]
/-! both count -/
noncomputable def stp (n : Nat) (w : Nat → Int) (Z : Nat) (A R Q : Nat → Nat) (at_ e : Nat) (s : Int × Int) : Int × Int := if pB (fitP n w Z A R Q at_ ((e + 1 : Nat) : Int)) then (if s.2 = 0 then ((100 * at_ + (e + 1) : Nat) : Int) else s.1, s.2 + 1) else s
noncomputable def bgD (n : Nat) (w : Nat → Int) (Z : Nat) (A R Q : Nat → Nat) (at_ m : Nat) (s : Int × Int) : Int × Int := itr (stp n w Z A R Q at_) m s
noncomputable def bgA (n : Nat) (w : Nat → Int) (Z : Nat) (A R Q : Nat → Nat) (m : Nat) : Int × Int := itr (fun at_ s => bgD n w Z A R Q at_ 30 s) m (-9, 0)
theorem stp_b {at_ e : Nat} {s : Int × Int} {B : Int} (h : 0 ≤ s.2 ∧ s.2 ≤ B) : 0 ≤ (stp n w Z A R Q at_ e s).2 ∧ (stp n w Z A R Q at_ e s).2 ≤ B + 1 := by
  unfold stp
  split
  · show 0 ≤ s.2 + 1 ∧ s.2 + 1 ≤ B + 1
    omega
  · omega
theorem bgD_b {at_ : Nat} {s : Int × Int} {B : Int} (h : 0 ≤ s.2 ∧ s.2 ≤ B) : ∀ m : Nat, 0 ≤ (bgD n w Z A R Q at_ m s).2 ∧ (bgD n w Z A R Q at_ m s).2 ≤ B + m := by
  intro m
  induction m with
  | zero => exact ⟨h.1, by show s.2 ≤ B + 0; omega⟩
  | succ m ih =>
    have := stp_b (n := n) (w := w) (Z := Z) (A := A) (R := R) (Q := Q) (at_ := at_) (e := m) ih
    exact ⟨this.1, by show (stp n w Z A R Q at_ m (bgD n w Z A R Q at_ m s)).2 ≤ B + ((m + 1 : Nat) : Int); omega⟩
theorem bgA_b : ∀ m : Nat, 0 ≤ (bgA n w Z A R Q m).2 ∧ (bgA n w Z A R Q m).2 ≤ 30 * m := by
  intro m
  induction m with
  | zero => exact ⟨Int.le_refl _, Int.le_refl _⟩
  | succ m ih =>
    have := bgD_b (n := n) (w := w) (Z := Z) (A := A) (R := R) (Q := Q) (at_ := m) ih 30
    exact ⟨this.1, by show (bgD n w Z A R Q m 30 (bgA n w Z A R Q m)).2 ≤ 30 * ((m + 1 : Nat) : Int); omega⟩
theorem w_beganD {h hm : tr_H} (hN : tN h 2 n w) (hS : seeN h hm Z A R Q) {at_ : Nat} (ha : at_ < n) (hs : spT n (spq n w 10 at_) (9 + 1) 0 (h.1 26)) {s : Int × Int} (hb : 0 ≤ s.2 ∧ s.2 ≤ 200) : tr_lp (fun q => f_X7_began_L79 h (iI at_) q.1 q.2.1 q.2.2) (iI s.1, iI s.2, iI (1 : Nat)) = some (iI (bgD n w Z A R Q at_ 30 s).1, iI (bgD n w Z A R Q at_ 30 s).2) := by
  have hw := hN.2.1
  have h6 := hw.2.1
  have key := tr_seq (f := fun q => f_X7_began_L79 h (iI at_) q.1 q.2.1 q.2.2) (fun m => (iI (bgD n w Z A R Q at_ m s).1, iI (bgD n w Z A R Q at_ m s).2, iI (m + 1 : Nat))) (lo := 0) (hi := 30) (r := (iI (bgD n w Z A R Q at_ 30 s).1, iI (bgD n w Z A R Q at_ 30 s).2)) (by omega) (fun m _ hm => by
    have b := bgD_b (n := n) (w := w) (Z := Z) (A := A) (R := R) (Q := Q) (at_ := at_) hb m
    have hf := w_fits hw hS (at_ := at_) (d := ((m + 1 : Nat) : Int)) (by omega) hs
    show f_X7_began_L79 h (iI at_) (iI (bgD n w Z A R Q at_ m s).1) (iI (bgD n w Z A R Q at_ m s).2) (iI (m + 1 : Nat)) = some (.inl (iI (stp n w Z A R Q at_ m (bgD n w Z A R Q at_ m s)).1, iI (stp n w Z A R Q at_ m (bgD n w Z A R Q at_ m s)).2, iI (m + 1 + 1 : Nat)))
    generalize bgD n w Z A R Q at_ m s = t at b
    unfold f_X7_began_L79 stp
    rw [if_neg (by rw [iI_30, iI_lt (by omega) (by omega) (by omega) (by omega)]; omega), hN.2.2.1]
    by_cases c : fitP n w Z A R Q at_ ((m + 1 : Nat) : Int)
    · rw [hf.1 c, tr_bn_some, if_neg n10, pB_t c, if_pos rfl]
      by_cases c2 : t.2 = 0
      · rw [if_pos (show iI t.2 = 0 by rw [c2]; rfl), if_pos c2]
        simp only [tr_bd]
        rw [iI_100, iI_mul, iI_add, iI_1, iI_add, iI_add]
        rfl
      · rw [if_neg (show ¬ iI t.2 = 0 by rw [iI_0, iI_eq (by omega) (by omega) (by omega) (by omega)]; exact c2), if_neg c2]
        simp only [tr_bd]
        rw [iI_1, iI_add, iI_add]
        rfl
    · rw [hf.2 c, tr_bn_some, if_pos z00, pB_f c, if_neg (by decide)]
      simp only [tr_bd]
      rw [iI_1, iI_add]
      rfl) (by
    show f_X7_began_L79 h (iI at_) _ _ (iI (30 + 1 : Nat)) = _
    unfold f_X7_began_L79
    rw [if_pos (by rw [iI_30, iI_lt (by omega) (by omega) (by omega) (by omega)]; omega)])
  exact key
theorem w_beganA {h hm : tr_H} (hN : tN h 2 n w) (hS : seeN h hm Z A R Q) (hT : timH h n w 10) : ∃ h', tr_lp (fun q => f_X7_began_L49 q.1 q.2.1 q.2.2.1 q.2.2.2) (iI (-9), iI 0, iI (0 : Nat), h) = some (iI (bgA n w Z A R Q n).1, iI (bgA n w Z A R Q n).2, h') ∧ fr [26] h h' := by
  have hw := hN.2.1
  have h6 := hw.2.1
  have hk := kept10 hw
  obtain ⟨r, k1, h2, k2, k3⟩ := tr_inv (f := fun q => f_X7_began_L49 q.1 q.2.1 q.2.2.1 q.2.2.2) (fun m s => ∃ h1, s = (iI (bgA n w Z A R Q m).1, iI (bgA n w Z A R Q m).2, iI m, h1) ∧ fr [26] h h1) (fun s => ∃ h1, s = (iI (bgA n w Z A R Q n).1, iI (bgA n w Z A R Q n).2, h1) ∧ fr [26] h h1) (hi := n) (by
    rintro m s hm ⟨h1, rfl, f1⟩
    have hN1 := tN_fr f1 (by simp) (by simp) hN
    have b := bgA_b (n := n) (w := w) (Z := Z) (A := A) (R := R) (Q := Q) m
    obtain ⟨g, e1, e2⟩ := w_spread hN1 hk (show timH h1 n w 10 from ⟨by rw [f1.1 24 (by decide)]; exact hT.1, fun v hv => by rw [f1.1 25 (by decide)]; exact hT.2 v hv⟩) hm (show 9 ≤ 40 by omega)
    have f2 : fr [26] h (tr_sa h1 26 g) := fr_tr f1 (fr_sa _ _ (by simp))
    have hN2 := tN_fr f2 (by simp) (by simp) hN
    have hd := w_beganD (h := tr_sa h1 26 g) hN2 (seeN_x (f2.1 17 (by decide)) (f2.1 18 (by decide)) (f2.1 19 (by decide)) (f2.1 20 (by decide)) hS) hm (by rw [tr_sa_at]; exact e2) (s := bgA n w Z A R Q m) (by omega)
    refine ⟨(iI (bgA n w Z A R Q (m + 1)).1, iI (bgA n w Z A R Q (m + 1)).2, iI (m + 1 : Nat), tr_sa h1 26 g), ?_, _, rfl, f2⟩
    show f_X7_began_L49 _ _ (iI m) h1 = _
    unfold f_X7_began_L49
    rw [hN1.2.2.1, if_neg (by rw [iI_le (by omega) (by omega) (by omega) (by omega)]; omega), show (9 : Int32) = iI ((9 : Nat) : Int) from rfl, e1, tr_bn_some, show (iI (bgA n w Z A R Q m).1, iI (bgA n w Z A R Q m).2, (1 : Int32)) = (iI (bgA n w Z A R Q m).1, iI (bgA n w Z A R Q m).2, iI (1 : Nat)) from rfl, hd, tr_bn_some]
    unfold f_X7_began_E135 tr_bd
    rw [iI_1, iI_add]
    rfl) (by
    rintro s ⟨h1, rfl, f1⟩
    refine ⟨_, ?_, h1, rfl, f1⟩
    have hN1 := tN_fr f1 (by simp) (by simp) hN
    show f_X7_began_L49 _ _ (iI n) h1 = _
    unfold f_X7_began_L49
    rw [hN1.2.2.1, if_pos (Int32.le_refl _)]) 0 (iI (-9), iI 0, iI (0 : Nat), h) (by omega) ⟨h, rfl, fr_rf _ _⟩
  exact ⟨h2, by rw [k1, k2], k3⟩
/-- the reference's heap while it counts -/
def bgH (h h1 : tr_H) (s : Int × Int) : Prop := (∀ c, c ≠ 0 → c ≠ 14 → c ≠ 15 → h1.1 c = h.1 c) ∧ (∀ k, k ≠ 28 → k ≠ 29 → h1.1 0 k = h.1 0 k) ∧ h1.2 = h.2 ∧ h1.1 0 28 = iI s.2 ∧ h1.1 0 29 = iI s.1
theorem bgH_tP {h h1 : tr_H} {s : Int × Int} (hB : bgH h h1 s) (hP : tP h 3 n w) : tP h1 3 n w := by
  obtain ⟨a, b, c, d⟩ := hP
  exact ⟨a, b, by rw [hB.1 3 (by decide) (by decide) (by decide)]; exact c, fun k hk => by rw [hB.1 3 (by decide) (by decide) (by decide)]; exact d k hk⟩
theorem r_beganD {h h1 hx : tr_H} (hP : tP h 3 n w) (hT : timP h n w 10) (hS : seeN hx h Z A R Q) {at_ : Nat} (ha : at_ < n) {s : Int × Int} (hb : 0 ≤ s.2 ∧ s.2 ≤ 200) (hB : bgH h h1 s) : ∃ h', tr_lp (fun q => f_X8_began_L53 (iI at_) q.1 q.2) (iI (1 : Nat), h1) = some h' ∧ bgH h h' (bgD n w Z A R Q at_ 30 s) := by
  have hw := hP.2.1
  have h6 := hw.2.1
  obtain ⟨r, k1, k2⟩ := tr_inv (f := fun q => f_X8_began_L53 (iI at_) q.1 q.2) (fun m z => ∃ h2, z = (iI (m + 1 : Nat), h2) ∧ bgH h h2 (bgD n w Z A R Q at_ m s)) (fun h2 => bgH h h2 (bgD n w Z A R Q at_ 30 s)) (hi := 30) (by
    rintro m z hm ⟨h2, rfl, B2⟩
    have b := bgD_b (n := n) (w := w) (Z := Z) (A := A) (R := R) (Q := Q) (at_ := at_) hb m
    have hS2 : seeN hx h2 Z A R Q := seeN_m (B2.2.1 12 (by decide) (by decide)) (B2.1 8 (by decide) (by decide) (by decide)) (B2.1 9 (by decide) (by decide) (by decide)) (B2.1 10 (by decide) (by decide) (by decide)) hS
    obtain ⟨h3, e3, f3⟩ := r_explains (bgH_tP B2 hP) (fun v hv => by rw [B2.1 13 (by decide) (by decide) (by decide)]; exact hT v hv) hS2 ha (d := ((m + 1 : Nat) : Int)) (by omega)
    have B3 : bgH h h3 (bgD n w Z A R Q at_ m s) := by
      refine ⟨fun c q1 q2 q3 => ?_, fun k q1 q2 => ?_, by rw [f3.2]; exact B2.2.2.1, by rw [f3.1 0 (by decide)]; exact B2.2.2.2.1, by rw [f3.1 0 (by decide)]; exact B2.2.2.2.2⟩
      · rw [f3.1 c (by simp; omega)]; exact B2.1 c q1 q2 q3
      · rw [f3.1 0 (by decide)]; exact B2.2.1 k q1 q2
    have eT : bgD n w Z A R Q at_ (m + 1) s = stp n w Z A R Q at_ m (bgD n w Z A R Q at_ m s) := rfl
    show ∃ s', f_X8_began_L53 (iI at_) (iI (m + 1 : Nat)) h2 = some (.inl s') ∧ ∃ h2, s' = (iI (m + 1 + 1 : Nat), h2) ∧ bgH h h2 (bgD n w Z A R Q at_ (m + 1) s)
    rw [eT]
    generalize bgD n w Z A R Q at_ m s = t at b B3
    have hfin : ∀ (v : Int32) (y : Int) (z : Int × Int), v = iI y → z.1 = y → (z.2 = t.2 + 1) → f_X8_began_J93 h3 1 (iI (m + 1 : Nat)) v = some (.inl (iI (m + 1 + 1 : Nat), tr_si (tr_si h3 0 29 (iI z.1)) 0 28 (iI z.2))) ∧ bgH h (tr_si (tr_si h3 0 29 (iI z.1)) 0 28 (iI z.2)) z := by
      intro v y z hv hz1 hz2
      constructor
      · unfold f_X8_began_J93
        simp only [tr_bd]
        rw [if_neg n10, si_n _ _ _ (show (28 : Nat) ≠ 29 by decide), B3.2.2.2.1, iI_1, iI_add, iI_add, hv, hz1, hz2]
        rfl
      · refine ⟨fun c q1 q2 q3 => ?_, fun k q1 q2 => ?_, by rw [si_2, si_2]; exact B3.2.2.1, si_s _ _ _ _, by rw [si_n _ _ _ (by decide), si_s]⟩
        · rw [si_c _ _ _ q1, si_c _ _ _ q1]; exact B3.1 c q1 q2 q3
        · rw [si_n _ _ _ q1, si_n _ _ _ q2]; exact B3.2.1 k q1 q2
    unfold f_X8_began_L53
    rw [if_neg (by rw [iI_30, iI_lt (by omega) (by omega) (by omega) (by omega)]; omega), e3, tr_b2_some]
    by_cases c : fitP n w Z A R Q at_ ((m + 1 : Nat) : Int)
    · have est : stp n w Z A R Q at_ m t = (if t.2 = 0 then ((100 * at_ + (m + 1) : Nat) : Int) else t.1, t.2 + 1) := by
        unfold stp
        rw [pB_t c, if_pos rfl]
      rw [bI_t c, if_neg n10, B3.2.2.2.1, est]
      by_cases c2 : t.2 = 0
      · rw [if_pos (show iI t.2 = 0 by rw [c2]; rfl), if_pos c2]
        have q := hfin (100 * iI at_ + iI (m + 1 : Nat)) ((100 * at_ + (m + 1) : Nat) : Int) (((100 * at_ + (m + 1) : Nat) : Int), t.2 + 1) (by rw [iI_100, iI_mul, iI_add]; rfl) rfl rfl
        exact ⟨_, q.1, _, rfl, q.2⟩
      · rw [if_neg (show ¬ iI t.2 = 0 by rw [iI_0, iI_eq (by omega) (by omega) (by omega) (by omega)]; exact c2), if_neg c2]
        unfold f_X8_began_J89
        have q := hfin (h3.1 0 29) t.1 (t.1, t.2 + 1) B3.2.2.2.2 rfl rfl
        exact ⟨_, q.1, _, rfl, q.2⟩
    · have est : stp n w Z A R Q at_ m t = t := by
        unfold stp
        rw [pB_f c, if_neg (by decide)]
      rw [bI_f c, if_pos z00, est]
      unfold f_X8_began_J89 f_X8_began_J93
      simp only [tr_bd]
      rw [if_pos trivial, si_n _ _ _ (show (28 : Nat) ≠ 29 by decide), B3.2.2.2.1, B3.2.2.2.2, iI_0, iI_add, iI_1, iI_add]
      refine ⟨_, rfl, _, rfl, fun c q1 q2 q3 => ?_, fun k q1 q2 => ?_, by rw [si_2, si_2]; exact B3.2.2.1, by rw [si_s, Int.add_zero], by rw [si_n _ _ _ (by decide), si_s]⟩
      · rw [si_c _ _ _ q1, si_c _ _ _ q1]; exact B3.1 c q1 q2 q3
      · rw [si_n _ _ _ q1, si_n _ _ _ q2]; exact B3.2.1 k q1 q2) (by
    rintro z ⟨h2, rfl, B2⟩
    exact ⟨h2, rfl, B2⟩) 0 (iI (1 : Nat), h1) (by omega) ⟨h1, rfl, hB⟩
  exact ⟨r, k1, k2⟩
theorem r_beganA {h h1 hx : tr_H} (hP : tP h 3 n w) (hT : timP h n w 10) (hS : seeN hx h Z A R Q) (hB : bgH h h1 (-9, 0)) : ∃ h', tr_lp (fun q => f_X8_began_L41 q.1 q.2) (iI (0 : Nat), h1) = some h' ∧ bgH h h' (bgA n w Z A R Q n) := by
  have hw := hP.2.1
  have h6 := hw.2.1
  obtain ⟨r, k1, k2⟩ := tr_inv (f := fun q => f_X8_began_L41 q.1 q.2) (fun m z => ∃ h2, z = (iI m, h2) ∧ bgH h h2 (bgA n w Z A R Q m)) (fun h2 => bgH h h2 (bgA n w Z A R Q n)) (hi := n) (by
    rintro m z hm ⟨h2, rfl, B2⟩
    have b := bgA_b (n := n) (w := w) (Z := Z) (A := A) (R := R) (Q := Q) m
    obtain ⟨h3, e3, B3⟩ := r_beganD hP hT hS hm (s := bgA n w Z A R Q m) (by omega) B2
    refine ⟨(iI (m + 1 : Nat), h3), ?_, h3, rfl, B3⟩
    show f_X8_began_L41 (iI m) h2 = _
    unfold f_X8_began_L41
    rw [show (0 : Int32).toNatClampNeg = 0 from rfl, (bgH_tP B2 hP).2.2.1, if_neg (by rw [iI_le (by omega) (by omega) (by omega) (by omega)]; omega), show ((1 : Int32), h2) = (iI (1 : Nat), h2) from rfl, e3, tr_bn_some]
    unfold f_X8_began_E121 tr_bd
    rw [iI_1, iI_add]
    rfl) (by
    rintro z ⟨h2, rfl, B2⟩
    refine ⟨h2, ?_, B2⟩
    show f_X8_began_L41 (iI n) h2 = _
    unfold f_X8_began_L41
    rw [show (0 : Int32).toNatClampNeg = 0 from rfl, (bgH_tP B2 hP).2.2.1, if_pos (Int32.le_refl _)]) 0 (iI (0 : Nat), h1) (by omega) ⟨h1, rfl, hB⟩
  exact ⟨r, k1, k2⟩
end BEG
theorem s_began : ∀ (v0 : Int32) (hx hm : tr_H), Rl hx hm → ∃ (r0 : Int32) (gx gm : tr_H), f_X7_began v0 hx = some (r0, gx) ∧ f_X8_began v0 hm = some (r0, gm) ∧ Rl gx gm := by
  intro v0 hx hm hR
  obtain ⟨v, hv, rfl⟩ := ex_iI v0
  have hR0 := Rl_0 hR
  obtain ⟨m0, em0⟩ : ∃ m0, m0 = tr_si hm 0 0 0 := ⟨_, rfl⟩
  rw [← em0] at hR0
  obtain ⟨n, w, hN, hP⟩ := Rl_net hR0
  have hw := hN.2.1
  have hk := kept10 hw
  obtain ⟨Z, hZ⟩ := hR0.2.2.2.1
  have hS := sen_fun hZ
  generalize (fun k => (hx.1 18 k).toNatClampNeg) = A at hS
  generalize (fun k => (hx.1 19 k).toNatClampNeg) = R at hS
  generalize (fun k => (hx.1 20 k).toNatClampNeg) = Q at hS
  have hin := r_inv hv 0 1
  rw [i64_0, i64_1] at hin
  unfold f_X7_began f_X8_began
  simp only [tr_bd]
  rw [← em0, hin, tr_bn_some]
  by_cases c : 0 ≤ v ∧ v ≤ 1
  · -- the class
    obtain ⟨x1, a1, a2⟩ := w_kept hN (p := 10) (by omega) (by omega)
    rw [if_pos hk.1] at a1
    have hN1 := tN_fr a2 (by simp) (by simp) hN
    obtain ⟨x2, c1, c2, c3⟩ := w_set hN1 hk
    have f2 : fr [22, 24, 25] hx x2 := fr_tr (fr_up a2 (by simp)) (fr_up c2 (by simp))
    have hN2 := tN_fr f2 (by simp) (by simp) hN
    have hS2 : seeN x2 m0 Z A R Q := seeN_x (f2.1 17 (by decide)) (f2.1 18 (by decide)) (f2.1 19 (by decide)) (f2.1 20 (by decide)) hS
    obtain ⟨x3, d1, d2⟩ := w_beganA hN2 hS2 c3
    have hX : f_X7_began_J12 hx (iI v) = some (if v = 0 then iI (bgA n w Z A R Q n).2 else iI (bgA n w Z A R Q n).1, x3) := by
      unfold f_X7_began_J12
      rw [iI_10, a1, tr_b2_some, if_neg n10, c1, tr_bn_some, show ((-9 : Int32), (0 : Int32), (0 : Int32), x2) = (iI (-9), iI 0, iI (0 : Nat), x2) from rfl, d1, tr_bn_some]
      unfold f_X7_began_E141 f_X7_began_J141
      by_cases e : v = 0
      · rw [if_pos (show iI v = 0 by rw [e]; rfl), if_pos e]
      · rw [if_neg (show ¬ iI v = 0 by rw [iI_0, iI_eq (by omega) (by omega) (by omega) (by omega)]; exact e), if_neg e]
    have hX2 : (if iI v = 0 then f_X7_began_J12 hx (iI v) else if iI v = 1 then f_X7_began_J12 hx (iI v) else some (-2, hx)) = f_X7_began_J12 hx (iI v) := by
      by_cases e : v = 0
      · rw [if_pos (show iI v = 0 by rw [e]; rfl)]
      · rw [if_neg (show ¬ iI v = 0 by rw [iI_0, iI_eq (by omega) (by omega) (by omega) (by omega)]; exact e), if_pos (show iI v = 1 by rw [show v = 1 by omega]; rfl)]
    -- the reference
    have g1 : gM m0 (tr_si (tr_si m0 0 28 0) 0 29 (-9)) := gM_tr (gM_0 _ _ (by omega)) (gM_0 _ _ (by omega))
    have z28 : (tr_si (tr_si m0 0 28 0) 0 29 (-9)).1 0 28 = iI 0 := by rw [si_n _ _ _ (by decide), si_s]; rfl
    have z29 : (tr_si (tr_si m0 0 28 0) 0 29 (-9)).1 0 29 = iI (-9) := by rw [si_s]; rfl
    generalize tr_si (tr_si m0 0 28 0) 0 29 (-9) = m1 at g1 z28 z29
    have hP1 := tP_M g1 hP
    obtain ⟨m2, e1, e2, e3⟩ := r_set hP1 hk
    have hP2 := tP_fr e2 (by simp) hP1
    have g2 : gM m0 m2 := gM_tr g1 (gM_f e2 (by decide) (by decide))
    have hSm : seeN hx m2 Z A R Q := seeN_m (g2.2.1 12 (by omega)) (g2.1 8 (by decide)) (g2.1 9 (by decide)) (g2.1 10 (by decide)) hS
    obtain ⟨m3, j1, j2⟩ := r_beganA hP2 e3 hSm (h1 := m2) ⟨fun _ _ _ _ => rfl, fun _ _ _ => rfl, rfl, by rw [e2.1 0 (by decide)]; exact z28, by rw [e2.1 0 (by decide)]; exact z29⟩
    have g3 : gM m2 m3 := ⟨fun c hc => j2.1 c (by rintro rfl; simp at hc) (by rintro rfl; simp at hc) (by rintro rfl; simp at hc), fun k hk => j2.2.1 k (by omega) (by omega), by rw [j2.2.2.1]⟩
    refine ⟨if v = 0 then iI (bgA n w Z A R Q n).2 else iI (bgA n w Z A R Q n).1, x3, m3, by rw [hX2, hX], ?_, Rl_fr (fr_tr (fr_up f2 (by decide)) (fr_up d2 (by decide))) (gM_tr g2 g3) hR0⟩
    rw [if_pos c, if_neg n10, iI_10, e1, tr_bn_some, show ((0 : Int32), m2) = (iI (0 : Nat), m2) from rfl, j1, tr_bn_some]
    unfold f_X8_began_E127
    rw [j2.2.2.2.1, j2.2.2.2.2]
    by_cases e : v = 0
    · rw [if_pos (show iI v = 0 by rw [e]; rfl), if_pos e]
    · rw [if_neg (show ¬ iI v = 0 by rw [iI_0, iI_eq (by omega) (by omega) (by omega) (by omega)]; exact e), if_neg e]
  · rw [if_neg c, if_pos z00, if_neg (show ¬ iI v = 0 by rw [iI_0, iI_eq (by omega) (by omega) (by omega) (by omega)]; omega), if_neg (show ¬ iI v = 1 by rw [iI_1, iI_eq (by omega) (by omega) (by omega) (by omega)]; omega)]
    exact ⟨_, _, _, rfl, rfl, hR0⟩
end
section
/-! waits given up by chance: rings leave a departure by one wait alone -/
theorem edg_uq : ∀ (l : List Nat) (u e : Nat), (u :: l).Nodup → ∀ i j j', (i, j) ∈ edg u (l ++ [e]) → (i, j') ∈ edg u (l ++ [e]) → j = j' := by
  intro l
  induction l with
  | nil =>
    intro u e _ i j j' h1 h2
    have a1 : (i, j) = (u, e) := List.mem_singleton.mp h1
    have a2 : (i, j') = (u, e) := List.mem_singleton.mp h2
    have b1 := congrArg Prod.snd a1
    have b2 := congrArg Prod.snd a2
    exact b1.trans b2.symm
  | cons y l ih =>
    intro u e hn i j j' h1 h2
    have hsrc : ∀ (l : List Nat) (u e i j : Nat), (i, j) ∈ edg u (l ++ [e]) → i ∈ u :: l := by
      intro l
      induction l with
      | nil =>
        intro u e i j h
        have a1 : (i, j) = (u, e) := List.mem_singleton.mp h
        have := congrArg Prod.fst a1
        simp at this
        simp [this]
      | cons z l ih2 =>
        intro u e i j h
        rcases List.mem_cons.mp h with q | q
        · have := congrArg Prod.fst q
          simp at this
          simp [this]
        · exact List.mem_cons_of_mem _ (ih2 z e i j q)
    have hu : u ∉ y :: l := (List.nodup_cons.mp hn).1
    have hn' : (y :: l).Nodup := (List.nodup_cons.mp hn).2
    rcases List.mem_cons.mp h1 with q1 | q1
    · rcases List.mem_cons.mp h2 with q2 | q2
      · have b1 := congrArg Prod.snd q1
        have b2 := congrArg Prod.snd q2
        exact b1.trans b2.symm
      · have b1 : i = u := congrArg Prod.fst q1
        exact absurd (by rw [← b1]; exact hsrc _ _ _ _ _ q2) hu
    · rcases List.mem_cons.mp h2 with q2 | q2
      · have b1 : i = u := congrArg Prod.fst q2
        exact absurd (by rw [← b1]; exact hsrc _ _ _ _ _ q1) hu
      · exact ih y e hn' i j j' q1 q2
theorem wsm_cg {f g : Nat → Nat → Int} : ∀ (l : List Nat) (u : Nat), (∀ i j, (i, j) ∈ edg u l → f i j = g i j) → wsm f u l = wsm g u l := by
  intro l
  induction l with
  | nil => intro u _; rfl
  | cons y l ih =>
    intro u h
    show f u y + wsm f y l = g u y + wsm g y l
    rw [h u y (by simp [edg]), ih y (fun i j q => h i j (by simp [edg, q]))]
theorem chn_cg {P Q : Nat → Nat → Prop} : ∀ (l : List Nat) (u : Nat), (∀ i j, (i, j) ∈ edg u l → P i j → Q i j) → chn P u l → chn Q u l := by
  intro l
  induction l with
  | nil => intro u _ _; trivial
  | cons y l ih =>
    intro u h hc
    exact ⟨h u y (by simp [edg]) hc.1, ih y (fun i j q => h i j (by simp [edg, q])) hc.2⟩
theorem ring_sub {n : Nat} {W W2 : Nat → Int} {x : Nat} {b : List Nat} (hr : ring (eP (eB n W)) x b) (h : ∀ i j, (i, j) ∈ edg x (b ++ [x]) → W2 (6 * i + j) = W (6 * i + j)) : ring (eP (eB n W2)) x b ∧ wsm (wN W2) x (b ++ [x]) = wsm (wN W) x (b ++ [x]) := by
  refine ⟨⟨hr.1, chn_cg _ _ (fun i j q hp => ?_) hr.2⟩, wsm_cg _ _ (fun i j q => h i j q)⟩
  simp [eP, eB] at hp ⊢
  rw [h i j q]
  exact hp
theorem kept_iff {n : Nat} {W : Nat → Int} (hw : okn n W) {p : Int} (hp : 0 ≤ p) : pac n W ≤ 60 * p ↔ ∀ x b, ring (eP (eB n W)) x b → 60 * wsm (wN W) x (b ++ [x]) ≤ 60 * p * (b.length + 1 : Nat) := by
  rcases pac_all hw with ⟨h1, h2⟩ | ⟨h1, h2, h3, x0, b0, h4, h5⟩
  · exact ⟨fun _ x b hr => absurd hr (h2 x b), fun _ => by omega⟩
  · constructor
    · intro q x b hr
      have k1 := h3 x b hr
      have k2 : pac n W * (b.length + 1 : Nat) ≤ 60 * p * (b.length + 1 : Nat) := Int.mul_le_mul_of_nonneg_right q (by omega)
      omega
    · intro q
      have k1 := q x0 b0 (mem_ringsL.mp h4).1
      rw [h5] at k1
      exact Int.le_of_mul_le_mul_right k1 (by omega)
section DRP
variable {n d : Nat} {w W : Nat → Int} {p : Int}
def w0 (w : Nat → Int) (d m : Nat) : Nat → Int := fun c => if c / 6 = d ∧ c % 6 < m then -9 else w c
def w1 (n : Nat) (w : Nat → Int) (d t : Nat) : Nat → Int := wup (w0 w d n) (6 * d + t) (w (6 * d + t))
theorem w0_ok (hw : okn n w) (m : Nat) : okn n (w0 w d m) := by
  refine ⟨hw.1, hw.2.1, fun c hc => ?_⟩
  unfold w0
  by_cases e : c / 6 = d ∧ c % 6 < m
  · rw [if_pos e]; exact ⟨Or.inl rfl, fun _ => rfl⟩
  · rw [if_neg e]; exact hw.2.2 c hc
theorem w1_ok (hw : okn n w) (hd : d < n) {t : Nat} (ht : t < n) : okn n (w1 n w d t) := okn_up (w0_ok hw n) hd ht (hw.2.2 _ (by have := hw.2.1; omega)).1
/-- a net between: of the waits from d some are left -/
def betw (n d : Nat) (w W : Nat → Int) : Prop := okn n W ∧ (∀ c, c / 6 ≠ d → W c = w c) ∧ ∀ t, t < n → W (6 * d + t) = -9 ∨ W (6 * d + t) = w (6 * d + t)
theorem betw_kept (hw : okn n w) (hd : d < n) (hp : 0 ≤ p) (hB : betw n d w W) : pac n W ≤ 60 * p ↔ (pac n (w0 w d n) ≤ 60 * p ∧ ∀ t, t < n → W (6 * d + t) ≠ -9 → pac n (w1 n w d t) ≤ 60 * p) := by
  have h6 := hw.2.1
  obtain ⟨hW, hB1, hB2⟩ := hB
  have lt : ∀ {V : Nat → Int} {x : Nat} {b : List Nat}, ring (eP (eB n V)) x b → ∀ i j, (i, j) ∈ edg x (b ++ [x]) → i < n ∧ j < n ∧ V (6 * i + j) ≠ -9 := by
    intro V x b hr i j hij
    have := (edg_chn _ _ hr.2 _ hij).1
    simp [eP, eB] at this
    exact this
  rw [kept_iff hW hp, kept_iff (w0_ok hw n) hp]
  constructor
  · intro q
    refine ⟨fun x b hr => ?_, fun t ht hne => ?_⟩
    · obtain ⟨r1, r2⟩ := ring_sub (W2 := W) hr (fun i j hij => by
        obtain ⟨l1, l2, l3⟩ := lt hr i j hij
        unfold w0 at l3 ⊢
        by_cases e : (6 * i + j) / 6 = d ∧ (6 * i + j) % 6 < n
        · rw [if_pos e] at l3; exact absurd rfl l3
        · rw [if_neg e]
          exact hB1 _ (by omega))
      rw [← r2]
      exact q x b r1
    · rw [kept_iff (w1_ok hw hd ht) hp]
      intro x b hr
      obtain ⟨r1, r2⟩ := ring_sub (W2 := W) hr (fun i j hij => by
        obtain ⟨l1, l2, l3⟩ := lt hr i j hij
        unfold w1 wup at l3 ⊢
        by_cases e1 : 6 * i + j = 6 * d + t
        · rw [if_pos e1, e1]
          exact (hB2 t ht).resolve_left hne
        · rw [if_neg e1] at l3 ⊢
          unfold w0 at l3 ⊢
          by_cases e : (6 * i + j) / 6 = d ∧ (6 * i + j) % 6 < n
          · rw [if_pos e] at l3; exact absurd rfl l3
          · rw [if_neg e]
            exact hB1 _ (by omega))
      rw [← r2]
      exact q x b r1
  · rintro ⟨q0, q1⟩ x b hr
    by_cases hex : ∃ t, (d, t) ∈ edg x (b ++ [x])
    · obtain ⟨t, ht⟩ := hex
      obtain ⟨l1, l2, l3⟩ := lt hr d t ht
      have k := (kept_iff (w1_ok hw hd l2) hp).mp (q1 t l2 l3)
      obtain ⟨r1, r2⟩ := ring_sub (W2 := w1 n w d t) hr (fun i j hij => by
        obtain ⟨m1, m2, m3⟩ := lt hr i j hij
        unfold w1 wup
        by_cases e : i = d
        · subst e
          have : j = t := edg_uq b x x hr.1 i j t hij ht
          subst this
          rw [if_pos rfl]
          exact ((hB2 j m2).resolve_left m3).symm
        · rw [if_neg (by omega)]
          unfold w0
          rw [if_neg (by omega)]
          exact (hB1 _ (by omega)).symm)
      rw [← r2]
      exact k x b r1
    · obtain ⟨r1, r2⟩ := ring_sub (W2 := w0 w d n) hr (fun i j hij => by
        obtain ⟨m1, m2, m3⟩ := lt hr i j hij
        unfold w0
        have e : i ≠ d := fun e => hex ⟨j, by rw [← e]; exact hij⟩
        rw [if_neg (by omega)]
        exact (hB1 _ (by omega)).symm)
      rw [← r2]
      exact q0 x b r1
end DRP
/-! a sum over what is cut -/
section SUMS
variable (bJ : Nat → Prop) (x : Nat)
def allG (m S : Nat) : Prop := ∀ j, j < m → S.testBit j = false → ¬ bJ j
noncomputable def trm (m S : Nat) : Nat := if pB (allG bJ m S) then x ^ pcn S m * (10 - x) ^ (m - pcn S m) else 0
noncomputable def smT (m k : Nat) : Nat := itr (fun S a => a + trm bJ x m S) k 0
noncomputable def prJ (m : Nat) : Nat := itr (fun j a => a * (if pB (bJ j) then x else 10)) m 1
theorem smT_add {f : Nat → Nat} : ∀ (k a b : Nat), itr (fun S c => c + f S) (a + k) b = itr (fun S c => c + f (a + S)) k (itr (fun S c => c + f S) a b) := by
  intro k
  induction k with
  | zero => intro a b; rfl
  | succ k ih =>
    intro a b
    show itr (fun S c => c + f S) (a + k) b + f (a + k) = _
    rw [ih a b]
    rfl
theorem itr_lin {f g : Nat → Nat} {c : Nat} : ∀ (k a b : Nat), (∀ S, S < k → f S = c * g S) → itr (fun S z => z + f S) k (a + c * b) = a + c * itr (fun S z => z + g S) k b := by
  intro k
  induction k with
  | zero => intro a b _; rfl
  | succ k ih =>
    intro a b h
    show itr (fun S z => z + f S) k (a + c * b) + f k = a + c * (itr (fun S z => z + g S) k b + g k)
    rw [ih a b (fun S hS => h S (by omega)), h k (by omega), Nat.mul_add]
    omega
theorem pcn_le (S m : Nat) : pcn S m ≤ m := by rw [pcn_cnt]; exact cnt_le _ m
theorem trm_lo {m S : Nat} (hS : S < 2 ^ m) : trm bJ x (m + 1) S = (if pB (bJ m) then 0 else 10 - x) * trm bJ x m S := by
  have hb : S.testBit m = false := Nat.testBit_lt_two_pow hS
  have hpc : pcn S (m + 1) = pcn S m := by
    show pcn S m + S / 2 ^ m % 2 = _
    rw [Nat.div_eq_of_lt hS]
    rfl
  have hle := pcn_le S m
  have hall : allG bJ (m + 1) S ↔ allG bJ m S ∧ ¬ bJ m := by
    constructor
    · intro q
      exact ⟨fun j hj => q j (by omega), q m (by omega) hb⟩
    · rintro ⟨q1, q2⟩ j hj hb'
      by_cases e : j = m
      · rw [e]; exact q2
      · exact q1 j (by omega) hb'
  unfold trm
  rw [hpc]
  by_cases c : bJ m
  · rw [pB_t c, pB_f (fun q => (hall.mp q).2 c)]
    simp
  · rw [pB_f c]
    by_cases c2 : allG bJ m S
    · rw [pB_t c2, pB_t (hall.mpr ⟨c2, c⟩), if_pos rfl, if_pos rfl, if_neg (by decide), show m + 1 - pcn S m = (m - pcn S m) + 1 by omega, Nat.pow_succ, ← Nat.mul_assoc, Nat.mul_comm]
    · rw [pB_f c2, pB_f (fun q => c2 (hall.mp q).1)]
      simp
theorem trm_hi {m S : Nat} (hS : S < 2 ^ m) : trm bJ x (m + 1) (2 ^ m + S) = x * trm bJ x m S := by
  have hbit : ∀ j, j < m → (2 ^ m + S).testBit j = S.testBit j := fun j hj => Nat.testBit_two_pow_add_gt hj S
  have hb : (2 ^ m + S).testBit m = true := by rw [Nat.testBit_two_pow_add_eq, Nat.testBit_lt_two_pow hS]; rfl
  have hpc : pcn (2 ^ m + S) (m + 1) = pcn S m + 1 := by
    rw [pcn_cnt, pcn_cnt]
    show cnt (fun j => (2 ^ m + S).testBit j) m + (if (2 ^ m + S).testBit m then 1 else 0) = _
    rw [cnt_cg m (fun j hj => hbit j hj), if_pos hb]
  have hle := pcn_le S m
  have hall : allG bJ (m + 1) (2 ^ m + S) ↔ allG bJ m S := by
    constructor
    · intro q j hj hb'
      exact q j (by omega) (by rw [hbit j hj]; exact hb')
    · intro q j hj hb'
      by_cases e : j = m
      · rw [e, hb] at hb'; cases hb'
      · exact q j (by omega) (by rw [← hbit j (by omega)]; exact hb')
  unfold trm
  rw [hpc]
  by_cases c : allG bJ m S
  · rw [pB_t c, pB_t (hall.mpr c), if_pos rfl, if_pos rfl, show m + 1 - (pcn S m + 1) = m - pcn S m by omega, Nat.pow_succ, Nat.mul_comm (x ^ pcn S m) x, Nat.mul_assoc]
  · rw [pB_f c, pB_f (fun q => c (hall.mp q))]
    simp
theorem sum_prod (hx : x ≤ 10) : ∀ m, smT bJ x m (2 ^ m) = prJ bJ x m := by
  intro m
  induction m with
  | zero =>
    show 0 + trm bJ x 0 0 = 1
    unfold trm
    rw [pB_t (show allG bJ 0 0 from fun j hj => by omega)]
    rfl
  | succ m ih =>
    have e1 : smT bJ x (m + 1) (2 ^ m) = 0 + (if pB (bJ m) then 0 else 10 - x) * smT bJ x m (2 ^ m) := by
      have := itr_lin (f := trm bJ x (m + 1)) (g := trm bJ x m) (c := if pB (bJ m) then 0 else 10 - x) (2 ^ m) 0 0 (fun S hS => trm_lo bJ x hS)
      rw [Nat.mul_zero] at this
      exact this
    have e2 : smT bJ x (m + 1) (2 ^ (m + 1)) = smT bJ x (m + 1) (2 ^ m) + x * smT bJ x m (2 ^ m) := by
      have h1 := smT_add (f := trm bJ x (m + 1)) (2 ^ m) (2 ^ m) 0
      have h2 := itr_lin (f := fun S => trm bJ x (m + 1) (2 ^ m + S)) (g := trm bJ x m) (c := x) (2 ^ m) (smT bJ x (m + 1) (2 ^ m)) 0 (fun S hS => trm_hi bJ x hS)
      rw [Nat.mul_zero, Nat.add_zero] at h2
      show itr (fun S a => a + trm bJ x (m + 1) S) (2 ^ (m + 1)) 0 = _
      rw [show 2 ^ (m + 1) = 2 ^ m + 2 ^ m by rw [Nat.pow_succ]; omega, h1]
      exact h2
    show _ = prJ bJ x m * (if pB (bJ m) then x else 10)
    rw [e2, e1, ih]
    by_cases c : bJ m
    · rw [pB_t c, if_pos rfl, if_pos rfl, Nat.zero_mul, Nat.mul_comm]
      omega
    · rw [pB_f c, if_neg (by decide), if_neg (by decide), Nat.zero_add, ← Nat.add_mul, show 10 - x + x = 10 by omega, Nat.mul_comm]
theorem sum_none {m : Nat} (h : ∀ S, S < 2 ^ m → ¬ allG bJ m S) : ∀ k, k ≤ 2 ^ m → smT bJ x m k = 0 := by
  intro k
  induction k with
  | zero => intro _; rfl
  | succ k ih =>
    intro hk
    show smT bJ x m k + trm bJ x m k = 0
    rw [ih (by omega)]
    unfold trm
    rw [pB_f (h k (by omega))]
    rfl
theorem prJ_b (hx : x ≤ 10) : ∀ m, prJ bJ x m ≤ 10 ^ m := by
  intro m
  induction m with
  | zero => exact Nat.le_refl _
  | succ m ih =>
    show prJ bJ x m * (if pB (bJ m) then x else 10) ≤ 10 ^ (m + 1)
    rw [Nat.pow_succ]
    exact Nat.mul_le_mul ih (by split <;> omega)
end SUMS
end
section
/-! dropped: both sides -/
section DR
variable {n d : Nat} {w : Nat → Int} {p : Int}
def idx (w : Nat → Int) (d t : Nat) : Nat := cnt (fun k => decide (w (6 * d + k) ≠ -9)) t
def badT (n : Nat) (w : Nat → Int) (d : Nat) (p : Int) (t : Nat) : Prop := ¬ pac n (w1 n w d t) ≤ 60 * p
def badJ (n : Nat) (w : Nat → Int) (d : Nat) (p : Int) (j : Nat) : Prop := ∃ t, t < n ∧ w (6 * d + t) ≠ -9 ∧ idx w d t = j ∧ badT n w d p t
noncomputable def nBd (n : Nat) (w : Nat → Int) (d : Nat) (p : Int) (k : Nat) : Nat := cnt (fun t => pB (badT n w d p t)) k
theorem idx_s (t : Nat) : idx w d (t + 1) = idx w d t + (if decide (w (6 * d + t) ≠ -9) then 1 else 0) := rfl
theorem idx_mono : ∀ (k t : Nat), idx w d t ≤ idx w d (t + k) := by
  intro k
  induction k with
  | zero => intro t; exact Nat.le_refl _
  | succ k ih =>
    intro t
    have := ih t
    rw [show t + (k + 1) = t + k + 1 from rfl, idx_s]
    omega
theorem idx_lt {t m : Nat} (ht : t < m) (hw : w (6 * d + t) ≠ -9) : idx w d t < idx w d m := by
  have h1 : idx w d (t + 1) = idx w d t + 1 := by rw [idx_s, if_pos (decide_eq_true hw)]
  have h2 := idx_mono (w := w) (d := d) (m - (t + 1)) (t + 1)
  rw [show t + 1 + (m - (t + 1)) = m by omega] at h2
  omega
theorem badJ_t {t : Nat} (ht : t < n) (hw : w (6 * d + t) ≠ -9) : badJ n w d p (idx w d t) ↔ badT n w d p t := by
  constructor
  · rintro ⟨u, h1, h2, h3, h4⟩
    have : u = t := by
      rcases Nat.lt_trichotomy u t with q | q | q
      · have := idx_lt (w := w) (d := d) q h2; omega
      · exact q
      · have := idx_lt (w := w) (d := d) q hw; omega
    rw [← this]; exact h4
  · intro h
    exact ⟨t, ht, hw, rfl, h⟩
theorem w1_none (hw : okn n w) {t : Nat} (ht : t < n) (hd : d < n) (hn : w (6 * d + t) = -9) : w1 n w d t = w0 w d n := by
  have h6 := hw.2.1
  funext c
  unfold w1 wup
  by_cases e : c = 6 * d + t
  · rw [if_pos e, hn]
    unfold w0
    rw [if_pos (by omega)]
  · rw [if_neg e]
/-- so many bad ones of so many -/
theorem prJ_is (hw : okn n w) (hd : d < n) (hk0 : pac n (w0 w d n) ≤ 60 * p) (x : Nat) : ∀ k, k ≤ n → nBd n w d p k ≤ idx w d k ∧ prJ (badJ n w d p) x (idx w d k) = x ^ nBd n w d p k * 10 ^ (idx w d k - nBd n w d p k) := by
  intro k
  induction k with
  | zero => intro _; exact ⟨Nat.le_refl _, rfl⟩
  | succ k ih =>
    intro hk
    obtain ⟨h1, h2⟩ := ih (by omega)
    have e1 : nBd n w d p (k + 1) = nBd n w d p k + (if pB (badT n w d p k) then 1 else 0) := rfl
    rw [e1, idx_s]
    by_cases c : w (6 * d + k) = -9
    · have hg : ¬ badT n w d p k := fun q => q (by rw [w1_none hw (by omega) hd c]; exact hk0)
      rw [pB_f hg, show decide (w (6 * d + k) ≠ -9) = false by simp [c]]
      exact ⟨h1, h2⟩
    · have hJ := badJ_t (p := p) (show k < n by omega) c
      rw [if_pos (decide_eq_true c)]
      have e2 : prJ (badJ n w d p) x (idx w d k + 1) = prJ (badJ n w d p) x (idx w d k) * (if pB (badJ n w d p (idx w d k)) then x else 10) := rfl
      rw [e2, h2]
      by_cases c2 : badT n w d p k
      · rw [pB_t c2, pB_t (hJ.mpr c2), if_pos rfl, if_pos rfl, show idx w d k + 1 - (nBd n w d p k + 1) = idx w d k - nBd n w d p k by omega, Nat.pow_succ]
        refine ⟨by omega, ?_⟩
        rw [Nat.mul_assoc, Nat.mul_comm (10 ^ _) x, ← Nat.mul_assoc]
      · rw [pB_f c2, pB_f (fun q => c2 (hJ.mp q)), if_neg (by decide), if_neg (by decide), Nat.add_zero, show idx w d k + 1 - nBd n w d p k = (idx w d k - nBd n w d p k) + 1 by omega, Nat.pow_succ, Nat.mul_assoc]
        exact ⟨by omega, rfl⟩
/-! the class's side -/
theorem w0_s (hw : okn n w) (hd : d < n) {k : Nat} (hk : k < n) : wup (w0 w d k) (6 * d + k) (-9) = w0 w d (k + 1) := by
  have h6 := hw.2.1
  funext c
  unfold wup w0
  by_cases e : c = 6 * d + k
  · rw [if_pos e, if_pos (by omega)]
  · rw [if_neg e]
    by_cases q : c / 6 = d ∧ c % 6 < k
    · rw [if_pos q, if_pos (by omega)]
    · rw [if_neg q, if_neg (by omega)]
theorem w0_0 : w0 w d 0 = w := by
  funext c
  unfold w0
  rw [if_neg (by omega)]
theorem c_drop1 {h : tr_H} (hN : tN h 2 n w) (hT : tN h 4 n w) (hd : d < n) : ∃ h', tr_lp (fun q => f_X7_dropped_L50 (iI d) q.1 q.2) (iI (0 : Nat), h) = some h' ∧ fr [4, 5] h h' ∧ tN h' 4 n (w0 w d n) := by
  have hw := hN.2.1
  have h6 := hw.2.1
  obtain ⟨r, k1, k2, k3⟩ := tr_inv (f := fun q => f_X7_dropped_L50 (iI d) q.1 q.2) (fun m s => ∃ h1, s = (iI m, h1) ∧ fr [4, 5] h h1 ∧ tN h1 4 n (w0 w d m)) (fun h1 => fr [4, 5] h h1 ∧ tN h1 4 n (w0 w d n)) (hi := n) (by
    rintro m s hm ⟨h1, rfl, f1, t1⟩
    have l1 := n_lay t1 (a := (d : Int)) (b := (m : Int)) (-9) (by omega) (by omega) (by omega) (by omega)
    rw [if_pos (by omega)] at l1
    simp only [Int.toNat_natCast] at l1
    have t2 := tN_up t1 (a := d) (b := m) (v := -9) hd hm (Or.inl rfl)
    rw [w0_s hw hd hm] at t2
    refine ⟨(iI (m + 1 : Nat), _), ?_, _, rfl, fr_tr f1 (fr_sa _ _ (by simp)), t2⟩
    show f_X7_dropped_L50 (iI d) (iI m) h1 = _
    unfold f_X7_dropped_L50
    rw [(tN_fr f1 (by simp) (by simp) hN).2.2.1, if_neg (by rw [iI_le (by omega) (by omega) (by omega) (by omega)]; omega), show (-9 : Int32) = iI (-9) from rfl, l1, tr_b2_some]
    unfold tr_bd
    rw [iI_1, iI_add]
    rfl) (by
    rintro s ⟨h1, rfl, f1, t1⟩
    refine ⟨h1, ?_, f1, t1⟩
    show f_X7_dropped_L50 (iI d) (iI n) h1 = _
    unfold f_X7_dropped_L50
    rw [(tN_fr f1 (by simp) (by simp) hN).2.2.1, if_pos (Int32.le_refl _)]) 0 (iI (0 : Nat), h) (by omega) ⟨h, rfl, fr_rf _ _, by rw [w0_0]; exact hT⟩
  exact ⟨r, k1, k2, k3⟩
theorem c_drop2 {h : tr_H} (hN : tN h 2 n w) (hT : tN h 4 n (w0 w d n)) (hd : d < n) (hp : 0 ≤ p ∧ p ≤ 20) (x : Nat) : ∃ h', tr_lp (fun q => f_X7_dropped_L113 (iI d) (iI p) (iI x) q.1 q.2.1 q.2.2.1 q.2.2.2) (iI (1 : Nat), iI (1 : Nat), iI (0 : Nat), h) = some (iI (x ^ nBd n w d p n : Nat), iI (10 ^ nBd n w d p n : Nat), h') ∧ fr [4, 5, 22] h h' := by
  have hw := hN.2.1
  have h6 := hw.2.1
  obtain ⟨r, k1, h2, k2, k3⟩ := tr_inv (f := fun q => f_X7_dropped_L113 (iI d) (iI p) (iI x) q.1 q.2.1 q.2.2.1 q.2.2.2) (fun m s => ∃ h1, s = (iI (x ^ nBd n w d p m : Nat), iI (10 ^ nBd n w d p m : Nat), iI m, h1) ∧ fr [4, 5, 22] h h1 ∧ tN h1 4 n (w0 w d n)) (fun s => ∃ h1, s = (iI (x ^ nBd n w d p n : Nat), iI (10 ^ nBd n w d p n : Nat), h1) ∧ fr [4, 5, 22] h h1) (hi := n) (by
    rintro m s hm ⟨h1, rfl, f1, t1⟩
    have hN1 := tN_fr f1 (by simp) (by simp) hN
    have ho := n_of hN1 (a := (d : Int)) (b := (m : Int)) (by omega) (by omega) (by omega) (by omega)
    rw [woI_in hd hm] at ho
    have l1 := n_lay t1 (a := (d : Int)) (b := (m : Int)) (w (6 * d + m)) (by omega) (by omega) (by omega) (by omega)
    rw [if_pos (by omega)] at l1
    simp only [Int.toNat_natCast] at l1
    have t2 := tN_up t1 (a := d) (b := m) (v := w (6 * d + m)) hd hm (hw.2.2 _ (by omega)).1
    have f2 : fr [4, 5, 22] h1 (tr_sa h1 (4 + 1) (upd (h1.1 (4 + 1)) (6 * d + m) (iI (w (6 * d + m))))) := fr_sa _ _ (by simp)
    generalize tr_sa h1 (4 + 1) (upd (h1.1 (4 + 1)) (6 * d + m) (iI (w (6 * d + m)))) = h2 at l1 t2 f2
    obtain ⟨h3, s1, s2⟩ := w_kept t2 hp.1 hp.2
    have t3 := tN_fr s2 (by simp) (by simp) t2
    have l2 := n_lay t3 (a := (d : Int)) (b := (m : Int)) (-9) (by omega) (by omega) (by omega) (by omega)
    rw [if_pos (by omega)] at l2
    simp only [Int.toNat_natCast] at l2
    have t4 := tN_up t3 (a := d) (b := m) (v := -9) hd hm (Or.inl rfl)
    have eb : wup (wup (w0 w d n) (6 * d + m) (w (6 * d + m))) (6 * d + m) (-9) = w0 w d n := by
      have := wup_back (w0 w d n) (6 * d + m) (w (6 * d + m))
      rw [show w0 w d n (6 * d + m) = -9 by unfold w0; rw [if_pos (by omega)]] at this
      exact this
    rw [eb] at t4
    have f4 : fr [4, 5, 22] h3 (tr_sa h3 (4 + 1) (upd (h3.1 (4 + 1)) (6 * d + m) (iI (-9)))) := fr_sa _ _ (by simp)
    generalize tr_sa h3 (4 + 1) (upd (h3.1 (4 + 1)) (6 * d + m) (iI (-9))) = h4 at l2 t4 f4
    have fA : fr [4, 5, 22] h h4 := fr_tr f1 (fr_tr f2 (fr_tr (fr_up s2 (by simp)) f4))
    have e1 : nBd n w d p (m + 1) = nBd n w d p m + (if pB (badT n w d p m) then 1 else 0) := rfl
    refine ⟨(iI (x ^ nBd n w d p (m + 1) : Nat), iI (10 ^ nBd n w d p (m + 1) : Nat), iI (m + 1 : Nat), h4), ?_, h4, rfl, fA, t4⟩
    show f_X7_dropped_L113 (iI d) (iI p) (iI x) (iI (x ^ nBd n w d p m : Nat)) (iI (10 ^ nBd n w d p m : Nat)) (iI m) h1 = _
    unfold f_X7_dropped_L113
    rw [hN1.2.2.1, if_neg (by rw [iI_le (by omega) (by omega) (by omega) (by omega)]; omega), ho, tr_bn_some, l1, tr_b2_some, s1, tr_b2_some, show (-9 : Int32) = iI (-9) from rfl, l2, e1]
    by_cases c : pac n (wup (w0 w d n) (6 * d + m) (w (6 * d + m))) ≤ 60 * p
    · rw [if_pos c, if_neg n10, tr_b2_some, pB_f (show ¬ badT n w d p m from fun q => q c), if_neg (by decide), Nat.add_zero]
      unfold tr_bd
      rw [iI_1, iI_add]
      rfl
    · rw [if_neg c, if_pos z00, pB_t (show badT n w d p m from c), if_pos rfl]
      simp only [tr_bd]
      rw [tr_b2_some, iI_10, iI_mul, iI_mul, iI_1, iI_add, show ((x ^ nBd n w d p m : Nat) : Int) * (x : Int) = ((x ^ (nBd n w d p m + 1) : Nat) : Int) by rw [Nat.pow_succ, Int.natCast_mul], show ((10 ^ nBd n w d p m : Nat) : Int) * 10 = ((10 ^ (nBd n w d p m + 1) : Nat) : Int) by rw [Nat.pow_succ, Int.natCast_mul]; rfl]
      rfl) (by
    rintro s ⟨h1, rfl, f1, t1⟩
    refine ⟨_, ?_, h1, rfl, f1⟩
    show f_X7_dropped_L113 (iI d) (iI p) (iI x) _ _ (iI n) h1 = _
    unfold f_X7_dropped_L113
    rw [(tN_fr f1 (by simp) (by simp) hN).2.2.1, if_pos (Int32.le_refl _)]) 0 (iI (1 : Nat), iI (1 : Nat), iI (0 : Nat), h) (by omega) ⟨h, rfl, fr_rf _ _, hT⟩
  exact ⟨h2, by rw [k1, k2], k3⟩
/-! the reference's side -/
theorem r_power {a k : Nat} (hk : k ≤ 6) : f_X8_power (iI a) (iI k) = some (iI (a ^ k : Nat)) := by
  unfold f_X8_power
  have key := tr_seq (f := fun q => f_X8_power_L4 (iI k) (iI a) q.1 q.2) (fun m => (iI (a ^ m : Nat), iI m)) (lo := 0) (hi := k) (r := iI (a ^ k : Nat)) (by omega) (fun m _ hm => by
    show f_X8_power_L4 (iI k) (iI a) (iI (a ^ m : Nat)) (iI m) = _
    unfold f_X8_power_L4
    rw [if_neg (by rw [iI_le (by omega) (by omega) (by omega) (by omega)]; omega)]
    unfold tr_bd
    rw [iI_mul, iI_1, iI_add, show ((a ^ m : Nat) : Int) * (a : Int) = ((a ^ (m + 1) : Nat) : Int) by rw [Nat.pow_succ, Int.natCast_mul]]
    rfl) (by
    show f_X8_power_L4 (iI k) (iI a) (iI (a ^ k : Nat)) (iI k) = _
    unfold f_X8_power_L4
    rw [if_pos (Int32.le_refl _)])
  rw [show ((1 : Int32), (0 : Int32)) = (iI (a ^ 0 : Nat), iI (0 : Nat)) from rfl, key]
  rfl
def wS (w : Nat → Int) (d S k : Nat) : Nat → Int := fun c => if c / 6 = d ∧ c % 6 < k ∧ S.testBit (idx w d (c % 6)) = true then -9 else w c
theorem r_drops {h : tr_H} (hP : tP h 3 n w) (hd : d < n) {S : Nat} (hS : S < 64) : ∃ h', f_X8_drops (iI d) (iI S) h = some (iI (idx w d n : Nat), h') ∧ fr [4] h h' ∧ tP h' 4 n (wS w d S n) := by
  have hw := hP.2.1
  have h6 := hw.2.1
  obtain ⟨h1, a1, a2, a3⟩ := r_begin hP
  have e0 : (0 : Int32).toNatClampNeg = 0 := rfl
  obtain ⟨r, k1, h2, k2, k3, k4⟩ := tr_inv (f := fun q => f_X8_drops_L9 (iI d) (iI S) q.1 q.2.1 q.2.2) (fun m s => ∃ h2, s = (iI (idx w d m : Nat), iI m, h2) ∧ fr [4] h h2 ∧ tP h2 4 n (wS w d S m)) (fun s => ∃ h2, s = (iI (idx w d n : Nat), h2) ∧ fr [4] h h2 ∧ tP h2 4 n (wS w d S n)) (hi := n) (by
    rintro m s hm ⟨h2, rfl, f2, t2⟩
    have hP2 := tP_fr f2 (by simp) hP
    have hidx : idx w d m ≤ 5 := by have := cnt_le (fun k => decide (w (6 * d + k) ≠ -9)) m; unfold idx; omega
    have hcm : (6 * d + m) % 6 = m := by omega
    have hcd : (6 * d + m) / 6 = d := by omega
    show ∃ s', f_X8_drops_L9 (iI d) (iI S) (iI (idx w d m : Nat)) (iI m) h2 = some (.inl s') ∧ _
    unfold f_X8_drops_L9
    rw [e0, hP2.2.2.1, if_neg (by rw [iI_le (by omega) (by omega) (by omega) (by omega)]; omega), r_isThere hP2 (i := d) (j := m) (by omega) (by omega), tr_bn_some]
    by_cases c : w (6 * d + m) = -9
    · rw [if_pos c, if_pos z00]
      have ei : idx w d (m + 1) = idx w d m := by rw [idx_s, show decide (w (6 * d + m) ≠ -9) = false by simp [c]]; rfl
      have ew : wS w d S (m + 1) = wS w d S m := by
        funext z
        unfold wS
        by_cases q : z = 6 * d + m
        · subst q
          rw [hcm, hcd, c]
          split <;> split <;> rfl
        · by_cases q1 : z / 6 = d ∧ z % 6 < m ∧ S.testBit (idx w d (z % 6)) = true
          · rw [if_pos q1, if_pos ⟨q1.1, by omega, q1.2.2⟩]
          · rw [if_neg q1, if_neg (fun y => q1 ⟨y.1, by omega, y.2.2⟩)]
      refine ⟨(iI (idx w d m : Nat), iI (m + 1 : Nat), h2), ?_, h2, by rw [ei], f2, by rw [ew]; exact t2⟩
      unfold tr_bd
      rw [iI_1, iI_add]
      rfl
    · rw [if_neg c, if_neg n10, r_has hS (show idx w d m < 6 by omega), tr_bn_some]
      have ei : idx w d (m + 1) = idx w d m + 1 := by rw [idx_s, if_pos (decide_eq_true c)]
      have ewg : ∀ v, (v = if S.testBit (idx w d m) then -9 else w (6 * d + m)) → wup (wS w d S m) (6 * d + m) v = wS w d S (m + 1) := by
        intro v hv
        funext z
        unfold wup wS
        by_cases q : z = 6 * d + m
        · rw [if_pos q, q, hcm, hcd, hv]
          by_cases q2 : S.testBit (idx w d m) = true
          · rw [if_pos q2, if_pos ⟨rfl, by omega, q2⟩]
          · rw [if_neg q2, if_neg (fun y => q2 y.2.2)]
        · rw [if_neg q]
          by_cases q1 : z / 6 = d ∧ z % 6 < m ∧ S.testBit (idx w d (z % 6)) = true
          · rw [if_pos q1, if_pos ⟨q1.1, by omega, q1.2.2⟩]
          · rw [if_neg q1, if_neg (fun y => q1 ⟨y.1, by omega, y.2.2⟩)]
      have hix : iI ((idx w d m : Nat) : Int) + 1 = iI (idx w d (m + 1) : Nat) := by rw [iI_1, iI_add, ei]; rfl
      have him : iI ((m : Nat) : Int) + 1 = iI (m + 1 : Nat) := by rw [iI_1, iI_add]; rfl
      by_cases q : S.testBit (idx w d m) = true
      · have t3 := tP_up t2 (a := d) (b := m) (v := -9) hd hm (Or.inl rfl)
        rw [ewg (-9) (by rw [if_pos q])] at t3
        refine ⟨(iI (idx w d (m + 1) : Nat), iI (m + 1 : Nat), tr_si h2 4 (1 + (6 * d + m)) (iI (cvn (-9)))), ?_, _, rfl, fr_tr f2 (fr_si _ _ _ (by simp)), t3⟩
        rw [if_pos q, if_neg n10, ix37]
        simp (disch := omega) only [tr_bd, tr_gdI, iI_ix]
        rw [hix, him]
        rfl
      · have t3 := tP_up t2 (a := d) (b := m) (v := w (6 * d + m)) hd hm (hw.2.2 _ (by omega)).1
        rw [ewg (w (6 * d + m)) (by rw [if_neg q])] at t3
        refine ⟨(iI (idx w d (m + 1) : Nat), iI (m + 1 : Nat), tr_si h2 4 (1 + (6 * d + m)) (iI (cvn (w (6 * d + m))))), ?_, _, rfl, fr_tr f2 (fr_si _ _ _ (by simp)), t3⟩
        have hpg := hP2.2.2.2 (6 * d + m) (by omega)
        rw [if_neg q, if_pos z00, ix37]
        simp (disch := omega) only [tr_bd, tr_gdI, iI_ix, hpg]
        rw [hix, him]) (by
    rintro s ⟨h2, rfl, f2, t2⟩
    refine ⟨_, ?_, h2, rfl, f2, t2⟩
    show f_X8_drops_L9 (iI d) (iI S) _ (iI n) h2 = _
    unfold f_X8_drops_L9
    rw [e0, (tP_fr f2 (by simp) hP).2.2.1, if_pos (Int32.le_refl _)]) 0 (iI (0 : Nat), iI (0 : Nat), h1) (by omega) ⟨h1, rfl, a2, by
      rw [show wS w d S 0 = w from by funext c; unfold wS; rw [if_neg (fun q => by omega)]]
      exact a3⟩
  refine ⟨h2, ?_, k3, k4⟩
  unfold f_X8_drops
  rw [a1, tr_bn_some, show ((0 : Int32), (0 : Int32), h1) = (iI (0 : Nat), iI (0 : Nat), h1) from rfl, k1, tr_bn_some, k2]
  rfl
theorem wS_betw (hw : okn n w) (hd : d < n) {S : Nat} (hk : okn n (wS w d S n)) : betw n d w (wS w d S n) := by
  refine ⟨hk, fun c hc => ?_, fun t ht => ?_⟩
  · unfold wS
    rw [if_neg (fun q => hc q.1)]
  · unfold wS
    split
    · exact Or.inl rfl
    · exact Or.inr rfl
theorem wS_kept (hw : okn n w) (hd : d < n) (hp : 0 ≤ p) {S : Nat} (hk : okn n (wS w d S n)) : pac n (wS w d S n) ≤ 60 * p ↔ (pac n (w0 w d n) ≤ 60 * p ∧ allG (badJ n w d p) (idx w d n) S) := by
  have h6 := hw.2.1
  rw [betw_kept hw hd hp (wS_betw hw hd hk)]
  have hcut : ∀ t, t < n → (wS w d S n (6 * d + t) ≠ -9 ↔ (w (6 * d + t) ≠ -9 ∧ S.testBit (idx w d t) = false)) := by
    intro t ht
    unfold wS
    rw [show (6 * d + t) / 6 = d by omega, show (6 * d + t) % 6 = t by omega]
    by_cases q : S.testBit (idx w d t) = true
    · rw [if_pos ⟨rfl, ht, q⟩, q]
      simp
    · have q' : S.testBit (idx w d t) = false := by cases z : S.testBit (idx w d t) <;> simp_all
      rw [if_neg (fun z => q z.2.2), q']
      simp
  constructor
  · rintro ⟨q0, q1⟩
    refine ⟨q0, fun j hj hb hbad => ?_⟩
    obtain ⟨t, h1, h2, h3, h4⟩ := hbad
    exact h4 (q1 t h1 ((hcut t h1).mpr ⟨h2, by rw [h3]; exact hb⟩))
  · rintro ⟨q0, q1⟩
    refine ⟨q0, fun t ht hne => ?_⟩
    obtain ⟨h1, h2⟩ := (hcut t ht).mp hne
    apply Classical.byContradiction
    intro hb
    exact q1 (idx w d t) (idx_lt ht h1) h2 ⟨t, ht, h1, rfl, hb⟩
theorem r_dropL {h m1 : tr_H} (hP : tP h 3 n w) (hd : d < n) (hp : 0 ≤ p ∧ p ≤ 20) {x : Nat} (hx : x ≤ 10) (g1 : gM h m1) : ∃ U h', tr_lp (fun q => f_X8_dropped_L56 (iI (idx w d n : Nat)) (iI d) (iI p) (iI x) q.1 q.2.1 q.2.2) (iI (0 : Nat), iI (0 : Nat), m1) = some (iI (U : Nat), h') ∧ gM h h' ∧ (pac n (w0 w d n) ≤ 60 * p → U = prJ (badJ n w d p) x (idx w d n)) ∧ (¬ pac n (w0 w d n) ≤ 60 * p → U = 0) := by
  have hw := hP.2.1
  have h6 := hw.2.1
  have hM : idx w d n ≤ 6 := by have := cnt_le (fun k => decide (w (6 * d + k) ≠ -9)) n; unfold idx; omega
  obtain ⟨M, eM⟩ : ∃ M, M = idx w d n := ⟨_, rfl⟩
  rw [← eM] at hM ⊢
  have h64 : 2 ^ M ≤ 2 ^ 6 := Nat.pow_le_pow_right (by decide) hM
  obtain ⟨tm, etm⟩ : ∃ tm : Nat → Nat, tm = fun S => if pB (pac n (w0 w d n) ≤ 60 * p) then trm (badJ n w d p) x M S else 0 := ⟨_, rfl⟩
  obtain ⟨r, k1, h2, k2, k3⟩ := tr_inv (f := fun q => f_X8_dropped_L56 (iI (M : Nat)) (iI d) (iI p) (iI x) q.1 q.2.1 q.2.2) (fun S s => ∃ h2, s = (iI (itr (fun S a => a + tm S) S 0 : Nat), iI S, h2) ∧ gM h h2) (fun s => ∃ h2, s = (iI (itr (fun S a => a + tm S) (2 ^ M) 0 : Nat), h2) ∧ gM h h2) (hi := 2 ^ M) (by
    rintro S s hS ⟨h2, rfl, f2⟩
    have hS64 : S < 64 := by omega
    obtain ⟨h3, b1, b2, b3⟩ := r_drops (tP_M f2 hP) hd hS64
    obtain ⟨h4, c1, c2⟩ := r_isPeriod b3 hp.1 (show p ≤ 100 by omega)
    have hpc := pcn_le S M
    have f4 : gM h h4 := gM_tr f2 (gM_tr (gM_f b2 (by decide) (by decide)) (gM_R c2))
    have hk := wS_kept hw hd hp.1 (S := S) b3.2.1
    rw [← eM] at hk
    refine ⟨(iI (itr (fun S a => a + tm S) (S + 1) 0 : Nat), iI (S + 1 : Nat), h4), ?_, h4, rfl, f4⟩
    show f_X8_dropped_L56 (iI (M : Nat)) (iI d) (iI p) (iI x) (iI (itr (fun S a => a + tm S) S 0 : Nat)) (iI S) h2 = some (.inl (iI (itr (fun S a => a + tm S) S 0 + tm S : Nat), iI (S + 1 : Nat), h4))
    generalize itr (fun S a => a + tm S) S 0 = acc
    unfold f_X8_dropped_L56
    rw [shl7 M (by omega), if_neg (by rw [iI_le (by omega) (by omega) (by omega) (by omega)]; omega), b1, tr_b2_some, l64 S hS64, r_many (K := M) hS (by omega), tr_bn_some, c1, tr_b2_some]
    by_cases c : pac n (wS w d S n) ≤ 60 * p
    · have hk2 := hk.mp c
      have e1 : tm S = x ^ pcn S M * (10 - x) ^ (M - pcn S M) := by
        rw [etm]
        dsimp only
        rw [pB_t hk2.1, if_pos rfl]
        unfold trm
        rw [pB_t hk2.2, if_pos rfl]
      have e2 : (10 : Int32) - iI (x : Int) = iI (10 - x : Nat) := by
        rw [iI_10, iI_sub]
        congr 1
        omega
      have e3 : iI (M : Int) - iI (pcn S M : Nat) = iI (M - pcn S M : Nat) := by
        rw [iI_sub]
        congr 1
        omega
      rw [if_pos c, if_neg n10, r_power (by omega), tr_bn_some, e2, e3, r_power (by omega), tr_bn_some, e1]
      simp only [tr_bd]
      rw [iI_mul, iI_add, iI_1, iI_add]
      rfl
    · have e1 : tm S = 0 := by
        rw [etm]
        dsimp only
        by_cases q : pac n (w0 w d n) ≤ 60 * p
        · rw [pB_t q, if_pos rfl]
          unfold trm
          rw [pB_f (fun z => c (hk.mpr ⟨q, z⟩)), if_neg (by decide)]
        · rw [pB_f q, if_neg (by decide)]
      rw [if_neg c, if_pos z00, e1]
      simp only [tr_bd]
      rw [iI_0, iI_add, iI_1, iI_add]
      rfl) (by
    rintro s ⟨h2, rfl, f2⟩
    refine ⟨_, ?_, h2, rfl, f2⟩
    show f_X8_dropped_L56 (iI (M : Nat)) (iI d) (iI p) (iI x) _ (iI (2 ^ M : Nat)) h2 = _
    unfold f_X8_dropped_L56
    rw [shl7 M (by omega), if_pos (Int32.le_refl _)]) 0 (iI (0 : Nat), iI (0 : Nat), m1) (Nat.zero_le _) ⟨m1, rfl, g1⟩
  refine ⟨itr (fun S a => a + tm S) (2 ^ M) 0, h2, by rw [k1, k2], k3, fun q => ?_, fun q => ?_⟩
  · rw [← sum_prod (badJ n w d p) x hx M]
    unfold smT
    refine itr_cg _ (fun S _ a => ?_)
    rw [etm]
    dsimp only
    rw [pB_t q, if_pos rfl]
  · refine itr_ind (fun (_ : Nat) (a : Nat) => a = 0) _ rfl (fun k b _ hb => ?_)
    rw [hb, etm]
    dsimp only
    rw [pB_f q, if_neg (by decide)]
end DR
theorem s_dropped : ∀ (v0 : Int32) (v1 : Int32) (v2 : Int32) (v3 : Int32) (hx hm : tr_H), Rl hx hm → ∃ (r0 : Int32) (gx gm : tr_H), f_X7_dropped v0 v1 v2 v3 hx = some (r0, gx) ∧ f_X8_dropped v0 v1 v2 v3 hm = some (r0, gm) ∧ Rl gx gm := by
  intro v0 v1 v2 v3 hx hm hR
  obtain ⟨v, hv, rfl⟩ := ex_iI v0
  obtain ⟨p, hp, rfl⟩ := ex_iI v1
  obtain ⟨t, ht, rfl⟩ := ex_iI v2
  have hR0 := Rl_0 hR
  obtain ⟨m0, em0⟩ : ∃ m0, m0 = tr_si hm 0 0 0 := ⟨_, rfl⟩
  rw [← em0] at hR0
  obtain ⟨n, w, hN, hP⟩ := Rl_net hR0
  have hw := hN.2.1
  have h6 := hw.2.1
  have i1 := r_inv hp 0 20
  rw [i64_0, i64_20] at i1
  have i2 := r_inv ht 0 10
  rw [i64_0, i64_10] at i2
  unfold f_X7_dropped f_X8_dropped
  simp only [tr_bd]
  rw [← em0, n_has hN hv.1 hv.2, r_nod hP hv, i1, i2]
  simp only [tr_bn_some]
  by_cases c1 : 0 ≤ v ∧ v < n
  · obtain ⟨d, rfl⟩ : ∃ d : Nat, v = (d : Int) := ⟨v.toNat, by omega⟩
    rw [if_pos c1, if_pos c1, if_neg n10, if_pos z00]
    by_cases c3 : 0 ≤ p ∧ p ≤ 20
    · rw [if_pos c3, if_neg n10, if_neg (show ¬ iI p < 0 by rw [iI_0, iI_lt (by omega) (by omega) (by omega) (by omega)]; omega), if_neg (show ¬ 20 < iI p by rw [iI_20, iI_lt (by omega) (by omega) (by omega) (by omega)]; omega)]
      by_cases c4 : 0 ≤ t ∧ t ≤ 10
      · obtain ⟨x, rfl⟩ : ∃ x : Nat, t = (x : Int) := ⟨t.toNat, by omega⟩
        have hx10 : x ≤ 10 := by omega
        rw [if_pos c4, if_neg n10, if_neg (show ¬ iI (x : Int) < 0 by rw [iI_0, iI_lt (by omega) (by omega) (by omega) (by omega)]; omega), if_pos (show iI (x : Int) ≤ 10 by rw [iI_10, iI_le (by omega) (by omega) (by omega) (by omega)]; omega)]
        -- the class
        obtain ⟨x1, a1, a2, a3⟩ := n_copy hN (j := 4) (Or.inr (Or.inl rfl)) (by decide)
        have hN1 := tN_fr a2 (by simp) (by simp) hN
        obtain ⟨x2, b1, b2, b3⟩ := c_drop1 hN1 a3 (d := d) (by omega)
        have hN2 := tN_fr b2 (by simp) (by simp) hN1
        obtain ⟨x3, e1, e2⟩ := w_kept b3 c3.1 c3.2
        have hN3 := tN_fr e2 (by simp) (by simp) hN2
        have hT3 := tN_fr e2 (by simp) (by simp) b3
        -- the reference
        obtain ⟨m1, g1, g2, -⟩ := r_drops hP (d := d) (S := 0) (by omega) (by decide)
        obtain ⟨U, m2, j1, j2, j3, j4⟩ := r_dropL hP (d := d) (by omega) c3 hx10 (gM_f g2 (by decide) (by decide))
        have hM : idx w d n ≤ 6 := by have := cnt_le (fun k => decide (w (6 * d + k) ≠ -9)) n; unfold idx; omega
        have hp10 : 10 ^ idx w d n ≤ 10 ^ 6 := Nat.pow_le_pow_right (by decide) hM
        have hp1 : 1 ≤ 10 ^ idx w d n := Nat.one_le_pow _ _ (by decide)
        have fxA : fr LX hx x3 := fr_tr (fr_up a2 (by decide)) (fr_tr (fr_up b2 (by decide)) (fr_up e2 (by decide)))
        have hMr : f_X8_dropped_E127 (iI (idx w d n : Nat)) v3 (iI (U : Nat)) m2 = tr_bn (f_X8_fraction (iI (U : Nat)) (iI (10 ^ idx w d n : Nat)) v3) fun tv19 => some (tv19, m2) := by
          unfold f_X8_dropped_E127
          rw [show (10 : Int32) = iI ((10 : Nat) : Int) from rfl, r_power hM, tr_bn_some]
        rw [a1, tr_bn_some, show ((0 : Int32), x1) = (iI (0 : Nat), x1) from rfl, b1, tr_bn_some, show (0 : Int32) = iI ((0 : Nat) : Int) from rfl, g1, tr_b2_some, j1, tr_bn_some, hMr]
        unfold f_X7_dropped_E81
        rw [e1, tr_b2_some]
        by_cases ck : pac n (w0 w d n) ≤ 60 * p
        · obtain ⟨x4, l1, l2⟩ := c_drop2 hN3 hT3 (d := d) (by omega) c3 x
          have hpr := prJ_is hw (show d < n by omega) ck x n (Nat.le_refl _)
          have hU := j3 ck
          have hub := prJ_b (badJ n w d p) x hx10 (idx w d n)
          rw [← hU] at hub
          have hB6 : nBd n w d p n ≤ 6 := by omega
          have hxb : x ^ nBd n w d p n ≤ 10 ^ 6 := Nat.le_trans (Nat.pow_le_pow_left hx10 _) (Nat.pow_le_pow_right (by decide) hB6)
          have htb : 10 ^ nBd n w d p n ≤ 10 ^ 6 := Nat.pow_le_pow_right (by decide) hB6
          have ht1 : 1 ≤ 10 ^ nBd n w d p n := Nat.one_le_pow _ _ (by decide)
          have efr : x ^ nBd n w d p n * 10 ^ idx w d n = U * 10 ^ nBd n w d p n := by
            rw [hU, hpr.2, Nat.mul_assoc, ← Nat.pow_add]
            congr 2
            omega
          obtain ⟨q1, q2⟩ := frac_eq (by omega) (by omega) efr
          rw [if_pos ck, if_neg n10, show ((1 : Int32), (1 : Int32), (0 : Int32), x3) = (iI (1 : Nat), iI (1 : Nat), iI (0 : Nat), x3) from rfl, l1, tr_bn_some]
          unfold f_X7_dropped_E193
          rw [c_told (by omega) (by omega) (by omega), tr_bn_some, r_fraction (by omega) (by omega) (by omega), tr_bn_some, q1, q2]
          exact ⟨_, _, _, rfl, rfl, Rl_fr (fr_tr fxA (fr_up l2 (by decide))) j2 hR0⟩
        · have hU := j4 ck
          obtain ⟨q1, q2⟩ := frac_eq (a := 0) (b := 1) (c := U) (d := 10 ^ idx w d n) (by omega) (by omega) (by rw [hU, Nat.zero_mul, Nat.zero_mul])
          rw [if_neg ck, if_pos z00, show (0 : Int32) = iI ((0 : Nat) : Int) from rfl, show (1 : Int32) = iI ((1 : Nat) : Int) from rfl, c_told (by omega) (by omega) (by omega), tr_bn_some, r_fraction (by omega) (by omega) (by omega), tr_bn_some, q1, q2]
          exact ⟨_, _, _, rfl, rfl, Rl_fr fxA j2 hR0⟩
      · rw [if_neg c4, if_pos z00]
        refine ⟨-2, hx, m0, ?_, rfl, hR0⟩
        by_cases c5 : t < 0
        · rw [if_pos (show iI t < 0 by rw [iI_0, iI_lt (by omega) (by omega) (by omega) (by omega)]; omega)]
        · rw [if_neg (show ¬ iI t < 0 by rw [iI_0, iI_lt (by omega) (by omega) (by omega) (by omega)]; omega), if_neg (show ¬ iI t ≤ 10 by rw [iI_10, iI_le (by omega) (by omega) (by omega) (by omega)]; omega)]
    · rw [if_neg c3, if_pos z00]
      refine ⟨-2, hx, m0, ?_, rfl, hR0⟩
      by_cases c5 : p < 0
      · rw [if_pos (show iI p < 0 by rw [iI_0, iI_lt (by omega) (by omega) (by omega) (by omega)]; omega)]
      · rw [if_neg (show ¬ iI p < 0 by rw [iI_0, iI_lt (by omega) (by omega) (by omega) (by omega)]; omega), if_pos (show 20 < iI p by rw [iI_20, iI_lt (by omega) (by omega) (by omega) (by omega)]; omega)]
  · rw [if_neg c1, if_neg c1, if_pos z00, if_neg n10]
    exact ⟨_, _, _, rfl, rfl, hR0⟩
end
