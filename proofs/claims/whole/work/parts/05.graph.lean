/-! walks: a head and the list of what follows it -/
def la : Nat → List Nat → Nat
  | u, [] => u
  | _, x :: l => la x l
def chn (ed : Nat → Nat → Prop) : Nat → List Nat → Prop
  | _, [] => True
  | u, x :: l => ed u x ∧ chn ed x l
def wsm (wt : Nat → Nat → Int) : Nat → List Nat → Int
  | _, [] => 0
  | u, x :: l => wt u x + wsm wt x l
theorem la_app (u : Nat) (a b : List Nat) : la u (a ++ b) = la (la u a) b := by
  induction a generalizing u with
  | nil => rfl
  | cons x a ih => exact ih x
theorem chn_app {ed : Nat → Nat → Prop} (u : Nat) (a b : List Nat) : chn ed u (a ++ b) ↔ chn ed u a ∧ chn ed (la u a) b := by
  induction a generalizing u with
  | nil => simp [chn, la]
  | cons x a ih => simp [chn, la, ih x, and_assoc]
theorem wsm_app (wt : Nat → Nat → Int) (u : Nat) (a b : List Nat) : wsm wt u (a ++ b) = wsm wt u a + wsm wt (la u a) b := by
  induction a generalizing u with
  | nil => simp [wsm, la]
  | cons x a ih => simp [wsm, la, ih x]; omega
theorem la_mem (u : Nat) (l : List Nat) : la u l ∈ u :: l := by
  induction l generalizing u with
  | nil => simp [la]
  | cons x l ih => exact List.mem_cons_of_mem _ (ih x)
/-- a ring through x: the others behind it -/
def ring (ed : Nat → Nat → Prop) (x : Nat) (b : List Nat) : Prop := (x :: b).Nodup ∧ chn ed x (b ++ [x])
theorem mem_split_first {x : Nat} : ∀ {l : List Nat}, x ∈ l → ∃ a b, l = a ++ x :: b ∧ x ∉ a := by
  intro l
  induction l with
  | nil => intro h; cases h
  | cons y l ih =>
    intro h
    by_cases hy : y = x
    · subst hy; exact ⟨[], l, rfl, by simp⟩
    · have h2 : x ∈ l := by
        rcases List.mem_cons.mp h with h | h
        · exact absurd h.symm hy
        · exact h
      obtain ⟨a, b, e, hn⟩ := ih h2
      refine ⟨y :: a, b, by rw [e]; rfl, ?_⟩
      intro hm
      rcases List.mem_cons.mp hm with hm | hm
      · exact hy hm.symm
      · exact hn hm
/-- a walk that comes somewhere twice goes round a ring -/
theorem walk_cut {ed : Nat → Nat → Prop} (wt : Nat → Nat → Int) : ∀ (l : List Nat) (u : Nat), chn ed u l → ¬ (u :: l).Nodup → ∃ x b l', ring ed x b ∧ chn ed u l' ∧ la u l' = la u l ∧ l.length = l'.length + (b.length + 1) ∧ wsm wt u l = wsm wt u l' + wsm wt x (b ++ [x]) ∧ (∀ y, y ∈ u :: l' → y ∈ u :: l) ∧ (∀ y, y ∈ x :: b → y ∈ u :: l) := by
  intro l
  induction l with
  | nil => intro u _ h; exact absurd (by simp) h
  | cons y r ih =>
    intro u hc hn
    obtain ⟨h1, h2⟩ := hc
    by_cases hy : (y :: r).Nodup
    · have hu : u ∈ y :: r := by
        apply Classical.byContradiction
        intro hu
        exact hn (List.nodup_cons.mpr ⟨hu, hy⟩)
      obtain ⟨a, c, e, hna⟩ := mem_split_first hu
      have hch : chn ed u (a ++ u :: c) := by rw [← e]; exact ⟨h1, h2⟩
      have hch2 : chn ed u ((a ++ [u]) ++ c) := by simpa using hch
      obtain ⟨g1, g2⟩ := (chn_app u (a ++ [u]) c).mp hch2
      have hla : la u (a ++ [u]) = u := by rw [la_app]; rfl
      rw [hla] at g2
      refine ⟨u, a, c, ⟨?_, g1⟩, g2, ?_, ?_, ?_, ?_, ?_⟩
      · rw [e] at hy
        have h5 := List.nodup_append.mp hy
        exact List.nodup_cons.mpr ⟨hna, h5.1⟩
      · rw [e, show a ++ u :: c = (a ++ [u]) ++ c by simp, la_app u (a ++ [u]) c, hla]
      · rw [e]; simp; omega
      · rw [e, show a ++ u :: c = (a ++ [u]) ++ c by simp, wsm_app, hla]; omega
      · intro z hz
        rcases List.mem_cons.mp hz with hz | hz
        · subst hz; simp
        · rw [e]; simp [hz]
      · intro z hz
        rcases List.mem_cons.mp hz with hz | hz
        · subst hz; simp
        · rw [e]; simp [hz]
    · obtain ⟨x, b, l', r1, r2, r3, r4, r5, r6, r7⟩ := ih y h2 hy
      refine ⟨x, b, y :: l', r1, ⟨h1, r2⟩, r3, ?_, ?_, ?_, ?_⟩
      · simp only [List.length_cons]; omega
      · simp only [wsm]; omega
      · intro z hz
        rcases List.mem_cons.mp hz with hz | hz
        · subst hz; simp
        · exact List.mem_cons_of_mem _ (r6 z hz)
      · intro z hz
        exact List.mem_cons_of_mem _ (r7 z hz)
/-- where no ring gains, a walk can be made to come nowhere twice -/
theorem walk_simple {ed : Nat → Nat → Prop} {wt : Nat → Nat → Int} (u : Nat) (l : List Nat) (hc : chn ed u l) (hr : ∀ x b, ring ed x b → (∀ y, y ∈ x :: b → y ∈ u :: l) → wsm wt x (b ++ [x]) ≤ 0) : ∃ l', (u :: l').Nodup ∧ chn ed u l' ∧ la u l' = la u l ∧ wsm wt u l ≤ wsm wt u l' ∧ (∀ y, y ∈ u :: l' → y ∈ u :: l) := by
  generalize hn : l.length = n
  induction n using Nat.strongRecOn generalizing l with
  | ind n ih =>
    by_cases h : (u :: l).Nodup
    · exact ⟨l, h, hc, rfl, Int.le_refl _, fun _ h => h⟩
    · obtain ⟨x, b, l', r1, r2, r3, r4, r5, r6, r7⟩ := walk_cut wt l u hc h
      obtain ⟨l'', s1, s2, s3, s4, s5⟩ := ih l'.length (by omega) l' r2 (fun x b h1 h2 => hr x b h1 (fun y hy => r6 y (h2 y hy))) rfl
      have := hr x b r1 r7
      exact ⟨l'', s1, s2, by rw [s3, r3], by omega, fun y hy => r6 y (s5 y hy)⟩
/-- nor does a walk that comes back gain -/
theorem walk_back {ed : Nat → Nat → Prop} {wt : Nat → Nat → Int} (hr : ∀ x b, ring ed x b → wsm wt x (b ++ [x]) ≤ 0) (x : Nat) (l : List Nat) (hc : chn ed x l) (hl : la x l = x) : wsm wt x l ≤ 0 := by
  obtain ⟨l', h1, h2, h3, h4, -⟩ := walk_simple x l hc (fun x b h _ => hr x b h)
  rw [hl] at h3
  cases l' with
  | nil => simpa [wsm] using h4
  | cons y l' =>
    have h5 : x ∈ y :: l' := by
      have := la_mem y l'
      rw [show la x (y :: l') = la y l' from rfl] at h3
      rw [h3] at this
      exact this
    exact absurd h5 (List.nodup_cons.mp h1).1
theorem nodup_lt : ∀ (n : Nat) (l : List Nat), l.Nodup → (∀ x ∈ l, x < n) → l.length ≤ n := by
  intro n
  induction n with
  | zero =>
    intro l _ h
    cases l with
    | nil => simp
    | cons x l => exact absurd (h x (by simp)) (by omega)
  | succ n ih =>
    intro l hn h
    by_cases hm : n ∈ l
    · have h1 := ih (l.erase n) (hn.erase n) (fun x hx => by
        have h2 := h x (List.mem_of_mem_erase hx)
        have h3 : x ≠ n := fun e => by subst e; exact hn.not_mem_erase hx
        omega)
      rw [List.length_erase_of_mem hm] at h1
      omega
    · have := ih l hn (fun x hx => by
        have h2 := h x hx
        have h3 : x ≠ n := fun e => by subst e; exact hm hx
        omega)
      omega
/-! turning a ring -/
theorem ring_turn1 {ed : Nat → Nat → Prop} {x y : Nat} {b : List Nat} (h : ring ed x (y :: b)) : ring ed y (b ++ [x]) := by
  obtain ⟨h1, h2⟩ := h
  refine ⟨?_, ?_⟩
  · have h3 : ([x] ++ (y :: b)).Nodup := h1
    have h4 := (List.perm_append_comm.nodup_iff).mp h3
    simpa using h4
  · have h3 : chn ed x ([y] ++ (b ++ [x])) := h2
    have h5 : chn ed y (b ++ [x]) := h3.2
    rw [chn_app]
    refine ⟨h5, ?_⟩
    rw [la_app]
    exact ⟨h3.1, trivial⟩
theorem ring_turn1_w (wt : Nat → Nat → Int) {x y : Nat} {b : List Nat} : wsm wt y ((b ++ [x]) ++ [y]) = wsm wt x ((y :: b) ++ [x]) := by
  rw [wsm_app, la_app]
  simp only [la, wsm, List.cons_append]
  omega
theorem ring_turn {ed : Nat → Nat → Prop} (wt : Nat → Nat → Int) : ∀ (a : List Nat) (x m : Nat) (c : List Nat), ring ed x (a ++ m :: c) → ring ed m (c ++ x :: a) ∧ wsm wt m ((c ++ x :: a) ++ [m]) = wsm wt x ((a ++ m :: c) ++ [x]) := by
  intro a
  induction a with
  | nil =>
    intro x m c h
    exact ⟨ring_turn1 h, ring_turn1_w wt⟩
  | cons y a ih =>
    intro x m c h
    have h1 : ring ed y ((a ++ m :: c) ++ [x]) := ring_turn1 h
    have h2 : ring ed y (a ++ m :: (c ++ [x])) := by simpa using h1
    obtain ⟨h3, h4⟩ := ih y m (c ++ [x]) h2
    refine ⟨by simpa using h3, ?_⟩
    have h5 : wsm wt y (((a ++ m :: c) ++ [x]) ++ [y]) = wsm wt x ((y :: (a ++ m :: c)) ++ [x]) := ring_turn1_w wt
    have h6 : (c ++ [x]) ++ y :: a = c ++ x :: y :: a := by simp
    rw [h6] at h4
    rw [h4]
    rw [show (a ++ m :: (c ++ [x])) ++ [y] = ((a ++ m :: c) ++ [x]) ++ [y] by simp, h5]
    rfl
