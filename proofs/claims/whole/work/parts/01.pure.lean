/-! OUR WORLD: a side (class or reference) is a fixed row of cells; a heap of numbers tells what they hold -/
abbrev tr_H : Type := (Nat → Nat → Int32) × (Nat → Nat → Int64)
def tr_sa (h : tr_H) (i : Nat) (f : Nat → Int32) : tr_H := (fun a => if a = i then f else h.1 a, h.2)
def tr_sb (h : tr_H) (i : Nat) (g : Nat → Int64) : tr_H := (h.1, fun a => if a = i then g else h.2 a)
def tr_si (h : tr_H) (i k : Nat) (v : Int32) : tr_H := tr_sa h i (upd (h.1 i) k v)
def tr_sl (h : tr_H) (i k : Nat) (v : Int64) : tr_H := tr_sb h i (vp_updL (h.2 i) k v)
def tr_f0 (k : Nat) : Int32 := ([0, 60, 30, 20, 15, 12, 10] : List Int32).getD k 0
def tr_f1 (k : Nat) : Int32 := ([1, 1, 2, 6, 24, 120, 720] : List Int32).getD k 0
def tr_f2 (k : Nat) : Int64 := ([1, 10000, 100000000, 1000000000000, 10000000000000000] : List Int64).getD k 0
def tr_max (x y : Int32) : Int32 := if x < y then y else x
def tr_min (x y : Int32) : Int32 := if y < x then y else x
def tr_cp (h : tr_H) (i j : Nat) : tr_H := tr_sa h j (va_cpy (h.1 i) (h.1 j) 0 0 36)
/-! the pure side: what a method does, as a partial function -/
def tr_ok {α : Type} (o : Option α) (P : α → Prop) : Prop := ∃ a, o = some a ∧ P a
def tr_bd {α β : Type} (e : α) (f : α → β) : β := f e
def tr_bn {α β : Type} (o : Option α) (f : α → Option β) : Option β := o.bind f
def tr_gd {α : Type} (i : Int32) (n : Nat) (o : Option α) : Option α := if i < 0 ∨ n ≤ i.toNatClampNeg then none else o
def tr_nz {α : Type} (y : Int32) (o : Option α) : Option α := if y = 0 then none else o
def tr_nzl {α : Type} (y : Int64) (o : Option α) : Option α := if y = 0 then none else o
def tr_zb {α : Type} (v : Int32) (o : Option α) : Option α := if v = 0 ∨ v = 1 then o else none
def tr_it {σ ρ : Type} (f : σ → Option (σ ⊕ ρ)) : Nat → σ → Option ρ
  | 0, _ => none
  | n + 1, s => (f s).bind fun q => match q with
    | .inl s' => tr_it f n s'
    | .inr r => some r
theorem tr_it_up {σ ρ : Type} {f : σ → Option (σ ⊕ ρ)} : ∀ (n k : Nat) (s : σ) (r : ρ), tr_it f n s = some r → tr_it f (n + k) s = some r := by
  intro n
  induction n with
  | zero => intro k s r h; cases h
  | succ n ih =>
    intro k s r h
    rw [show n + 1 + k = (n + k) + 1 by omega]
    unfold tr_it at h ⊢
    cases hf : f s with
    | none => rw [hf] at h; cases h
    | some q =>
      rw [hf] at h
      cases q with
      | inl s' => exact ih k s' r h
      | inr r' => exact h
theorem tr_it_one {σ ρ : Type} {f : σ → Option (σ ⊕ ρ)} {n k : Nat} {s : σ} {r r' : ρ} (h : tr_it f n s = some r) (h' : tr_it f k s = some r') : r = r' := by
  have a := tr_it_up n k s r h
  have b := tr_it_up k n s r' h'
  rw [Nat.add_comm] at b
  exact Option.some.inj (a.symm.trans b)
noncomputable def tr_lp {σ ρ : Type} (f : σ → Option (σ ⊕ ρ)) (s : σ) : Option ρ :=
  @dite _ (∃ r, ∃ n, tr_it f n s = some r) (Classical.propDecidable _) (fun h => some (Classical.choose h)) (fun _ => none)
theorem tr_lp_iff {σ ρ : Type} {f : σ → Option (σ ⊕ ρ)} {s : σ} {r : ρ} : tr_lp f s = some r ↔ ∃ n, tr_it f n s = some r := by
  unfold tr_lp
  by_cases h : ∃ r, ∃ n, tr_it f n s = some r
  · rw [dif_pos h]
    obtain ⟨n, hn⟩ := Classical.choose_spec h
    refine ⟨fun e => ⟨n, by rw [hn]; exact e⟩, fun ⟨k, hk⟩ => by rw [tr_it_one hn hk]⟩
  · rw [dif_neg h]
    refine ⟨fun e => (by cases e), fun hk => absurd ⟨r, hk⟩ h⟩
theorem tr_lp_eq {σ ρ : Type} (f : σ → Option (σ ⊕ ρ)) (s : σ) : tr_lp f s = (f s).bind fun q => match q with
    | .inl s' => tr_lp f s'
    | .inr r => some r := by
  apply Option.ext
  intro r
  rw [tr_lp_iff]
  constructor
  · rintro ⟨n, hn⟩
    cases n with
    | zero => cases hn
    | succ n =>
      unfold tr_it at hn
      cases hf : f s with
      | none => rw [hf] at hn; cases hn
      | some q =>
        rw [hf] at hn
        cases q with
        | inl s' => exact tr_lp_iff.mpr ⟨n, hn⟩
        | inr r' => exact hn
  · intro h
    cases hf : f s with
    | none => rw [hf] at h; cases h
    | some q =>
      rw [hf] at h
      cases q with
      | inl s' =>
        obtain ⟨n, hn⟩ := tr_lp_iff.mp h
        refine ⟨n + 1, ?_⟩
        unfold tr_it
        rw [hf]
        exact hn
      | inr r' =>
        refine ⟨1, ?_⟩
        unfold tr_it
        rw [hf]
        exact h
theorem tr_okS {α : Type} {a : α} {P : α → Prop} (h : tr_ok (some a) P) : P a := by
  obtain ⟨b, hb, hP⟩ := h
  cases hb
  exact hP
theorem tr_ift {α : Type} {c : Prop} [Decidable c] {A B : Option α} {P : α → Prop} (h : tr_ok (if c then A else B) P) (hc : c) : tr_ok A P := by rwa [if_pos hc] at h
theorem tr_iff {α : Type} {c : Prop} [Decidable c] {A B : Option α} {P : α → Prop} (h : tr_ok (if c then A else B) P) (hc : ¬ c) : tr_ok B P := by rwa [if_neg hc] at h
theorem tr_okg {α : Type} {i : Int32} {n : Nat} {o : Option α} {P : α → Prop} (h : tr_ok (tr_gd i n o) P) : vp_in i n ∧ tr_ok o P := by
  unfold tr_gd at h
  by_cases hc : i < 0 ∨ n ≤ i.toNatClampNeg
  · rw [if_pos hc] at h; obtain ⟨a, ha, -⟩ := h; cases ha
  · rw [if_neg hc] at h; exact ⟨hc, h⟩
theorem tr_okn {α : Type} {y : Int32} {o : Option α} {P : α → Prop} (h : tr_ok (tr_nz y o) P) : ¬ y = 0 ∧ tr_ok o P := by
  unfold tr_nz at h
  by_cases hc : y = 0
  · rw [if_pos hc] at h; obtain ⟨a, ha, -⟩ := h; cases ha
  · rw [if_neg hc] at h; exact ⟨hc, h⟩
theorem tr_oknl {α : Type} {y : Int64} {o : Option α} {P : α → Prop} (h : tr_ok (tr_nzl y o) P) : ¬ y = 0 ∧ tr_ok o P := by
  unfold tr_nzl at h
  by_cases hc : y = 0
  · rw [if_pos hc] at h; obtain ⟨a, ha, -⟩ := h; cases ha
  · rw [if_neg hc] at h; exact ⟨hc, h⟩
theorem tr_okz {α : Type} {v : Int32} {o : Option α} {P : α → Prop} (h : tr_ok (tr_zb v o) P) : narrow .boolean (.int v) = .int v ∧ tr_ok o P := by
  unfold tr_zb at h
  by_cases hc : v = 0 ∨ v = 1
  · rw [if_pos hc] at h
    refine ⟨?_, h⟩
    rcases hc with rfl | rfl <;> rfl
  · rw [if_neg hc] at h; obtain ⟨a, ha, -⟩ := h; cases ha
theorem tr_okb {α β : Type} {o : Option α} {f : α → Option β} {P : β → Prop} (h : tr_ok (tr_bn o f) P) : ∃ a, o = some a ∧ tr_ok (f a) P := by
  obtain ⟨b, hb, hP⟩ := h
  unfold tr_bn at hb
  cases ho : o with
  | none => rw [ho] at hb; cases hb
  | some a => rw [ho] at hb; exact ⟨a, rfl, b, hb, hP⟩
theorem tr_okd {α β : Type} {e : α} {f : α → Option β} {P : β → Prop} (h : tr_ok (tr_bd e f) P) : ∃ x, x = e ∧ tr_ok (f x) P := ⟨e, rfl, h⟩
theorem tr_loop {σ ρ α : Type} {f : σ → Option (σ ⊕ ρ)} {s0 : σ} {cont : ρ → Option α} {P : α → Prop} (G : σ → Prop) (hk : tr_ok (tr_bn (tr_lp f s0) cont) P)
    (step : ∀ (P1 : σ ⊕ ρ → Prop), (∀ s', P1 (.inl s') → G s') → (∀ r, P1 (.inr r) → tr_ok (cont r) P) → ∀ s, tr_ok (f s) P1 → G s) : G s0 := by
  obtain ⟨r, hr, hP⟩ := tr_okb hk
  obtain ⟨n, hn⟩ := tr_lp_iff.mp hr
  clear hk hr
  induction n generalizing s0 with
  | zero => cases hn
  | succ n ih =>
    unfold tr_it at hn
    cases hf : f s0 with
    | none => rw [hf] at hn; cases hn
    | some q =>
      rw [hf] at hn
      refine step (fun q' => q' = q) ?_ ?_ s0 ⟨q, hf, rfl⟩
      · intro s' e
        subst e
        exact ih hn
      · intro r' e
        subst e
        cases hn
        exact hP
def tr_b2 {α β γ : Type} (o : Option (α × β)) (f : α → β → Option γ) : Option γ := o.bind fun q => f q.1 q.2
theorem tr_okb2 {α β γ : Type} {o : Option (α × β)} {f : α → β → Option γ} {P : γ → Prop} (h : tr_ok (tr_b2 o f) P) : ∃ a b, o = some (a, b) ∧ tr_ok (f a b) P := by
  obtain ⟨c, hc, hP⟩ := h
  unfold tr_b2 at hc
  cases ho : o with
  | none => rw [ho] at hc; cases hc
  | some q => rw [ho] at hc; exact ⟨q.1, q.2, rfl, c, hc, hP⟩
