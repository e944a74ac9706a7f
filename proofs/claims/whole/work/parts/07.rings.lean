/-! all rings, each begun at its least departure, as the reference goes through them -/
section DFS
variable (e : Nat → Nat → Bool) (n first : Nat) (som : Nat → Bool)
def dfs : Nat → List Nat → List (List Nat)
  | 0, _ => []
  | f + 1, b => (List.range' first (n - first)).flatMap (fun to => if to = first ∧ e (la first b) to = true then [b] else if e (la first b) to = true ∧ som to = true ∧ to ∉ first :: b then dfs f (b ++ [to]) else [])
end DFS
def eP (e : Nat → Nat → Bool) : Nat → Nat → Prop := fun i j => e i j = true
theorem nodup_snoc {x : Nat} {l : List Nat} : (l ++ [x]).Nodup ↔ l.Nodup ∧ x ∉ l := by
  rw [List.perm_append_comm.nodup_iff]
  simp [List.nodup_cons, and_comm]
theorem mem_dfs {e : Nat → Nat → Bool} {n first : Nat} {som : Nat → Bool} (hf : first < n) : ∀ (f : Nat) (b c : List Nat), (first :: b).Nodup → (c ∈ dfs e n first som f b ↔ ∃ t, c = b ++ t ∧ t.length < f ∧ chn (eP e) (la first b) (t ++ [first]) ∧ (first :: (b ++ t)).Nodup ∧ ∀ y ∈ t, first ≤ y ∧ y < n ∧ som y = true) := by
  intro f
  induction f with
  | zero =>
    intro b c _
    simp [dfs]
  | succ f ih =>
    intro b c hb
    unfold dfs
    rw [List.mem_flatMap]
    constructor
    · rintro ⟨to, hto, hc⟩
      rw [List.mem_range'_1] at hto
      by_cases h1 : to = first ∧ e (la first b) to = true
      · rw [if_pos h1, List.mem_singleton] at hc
        refine ⟨[], by simp [hc], by simp, ?_, by simpa using hb, by simp⟩
        obtain ⟨rfl, h2⟩ := h1
        exact ⟨h2, trivial⟩
      · rw [if_neg h1] at hc
        by_cases h2 : e (la first b) to = true ∧ som to = true ∧ to ∉ first :: b
        · rw [if_pos h2] at hc
          have hnd : (first :: (b ++ [to])).Nodup := by
            have : ((first :: b) ++ [to]).Nodup := nodup_snoc.mpr ⟨hb, h2.2.2⟩
            simpa using this
          obtain ⟨t, g1, g2, g3, g4, g5⟩ := (ih (b ++ [to]) c hnd).mp hc
          refine ⟨to :: t, by rw [g1]; simp, by simp only [List.length_cons]; omega, ?_, by simpa using g4, ?_⟩
          · rw [la_app] at g3
            exact ⟨h2.1, g3⟩
          · intro y hy
            rcases List.mem_cons.mp hy with q | q
            · subst q; exact ⟨by omega, by omega, h2.2.1⟩
            · exact g5 y q
        · rw [if_neg h2] at hc
          cases hc
    · rintro ⟨t, rfl, h2, h3, h4, h5⟩
      cases t with
      | nil =>
        refine ⟨first, by rw [List.mem_range'_1]; omega, ?_⟩
        rw [if_pos ⟨rfl, h3.1⟩]
        simp
      | cons to t =>
        have h6 := h5 to (by simp)
        refine ⟨to, by rw [List.mem_range'_1]; omega, ?_⟩
        have h7 : to ∉ first :: b := by
          intro hm
          have h8 : ((first :: b) ++ (to :: t)).Nodup := by simpa using h4
          exact (List.nodup_append.mp h8).2.2 to hm to (by simp) rfl
        have h8 : ¬ (to = first ∧ e (la first b) to = true) := fun q => h7 (by rw [q.1]; simp)
        rw [if_neg h8, if_pos ⟨h3.1, h6.2.2, h7⟩]
        have hnd : (first :: (b ++ [to])).Nodup := by
          have : ((first :: b) ++ [to]).Nodup := nodup_snoc.mpr ⟨hb, h7⟩
          simpa using this
        rw [ih (b ++ [to]) _ hnd]
        refine ⟨t, by simp, by simp only [List.length_cons] at h2; omega, ?_, by simpa using h4, fun y hy => h5 y (by simp [hy])⟩
        rw [la_app]
        exact h3.2
/-- the rings of some departures -/
def ringsL (e : Nat → Nat → Bool) (n : Nat) (som : Nat → Bool) : List (Nat × List Nat) :=
  (List.range n).flatMap (fun d => if som d = true then (dfs e n d som n []).map (fun b => (d, b)) else [])
theorem mem_ringsL {e : Nat → Nat → Bool} {n : Nat} {som : Nat → Bool} {x : Nat} {b : List Nat} : (x, b) ∈ ringsL e n som ↔ ring (eP e) x b ∧ ∀ y ∈ x :: b, x ≤ y ∧ y < n ∧ som y = true := by
  unfold ringsL
  rw [List.mem_flatMap]
  constructor
  · rintro ⟨d, hd, h⟩
    rw [List.mem_range] at hd
    by_cases hs : som d = true
    · rw [if_pos hs, List.mem_map] at h
      obtain ⟨c, hc, e1⟩ := h
      have e2 : d = x := congrArg Prod.fst e1
      have e3 : c = b := congrArg Prod.snd e1
      subst e2
      rw [e3, mem_dfs hd n [] b (by simp)] at hc
      obtain ⟨t, g1, g2, g3, g4, g5⟩ := hc
      simp only [List.nil_append] at g1 g4
      subst g1
      refine ⟨⟨g4, g3⟩, fun y hy => ?_⟩
      rcases List.mem_cons.mp hy with q | q
      · subst q; exact ⟨Nat.le_refl _, hd, hs⟩
      · exact g5 y q
    · rw [if_neg hs] at h
      cases h
  · rintro ⟨⟨h1, h2⟩, h3⟩
    have hx := h3 x (by simp)
    refine ⟨x, List.mem_range.mpr hx.2.1, ?_⟩
    rw [if_pos hx.2.2, List.mem_map]
    refine ⟨b, ?_, rfl⟩
    rw [mem_dfs hx.2.1 n [] b (by simp)]
    refine ⟨b, by simp, ?_, h2, by simpa using h1, fun y hy => h3 y (by simp [hy])⟩
    have := nodup_lt n (x :: b) h1 (fun y hy => (h3 y hy).2.1)
    simp only [List.length_cons] at this
    omega
/-- the waits of a ring -/
def edg : Nat → List Nat → List (Nat × Nat)
  | _, [] => []
  | u, x :: l => (u, x) :: edg x l
theorem edg_app (u : Nat) (a b : List Nat) : edg u (a ++ b) = edg u a ++ edg (la u a) b := by
  induction a generalizing u with
  | nil => rfl
  | cons x a ih => simp [edg, la, ih x]
theorem edg_turn1 {x y : Nat} {b : List Nat} {p : Nat × Nat} : p ∈ edg y ((b ++ [x]) ++ [y]) ↔ p ∈ edg x ((y :: b) ++ [x]) := by
  rw [edg_app, la_app]
  simp only [la, edg, List.cons_append, List.mem_append, List.mem_cons, List.not_mem_nil, or_false]
  exact or_comm
theorem edg_turn : ∀ (a : List Nat) (x m : Nat) (c : List Nat) (p : Nat × Nat), p ∈ edg m ((c ++ x :: a) ++ [m]) ↔ p ∈ edg x ((a ++ m :: c) ++ [x]) := by
  intro a
  induction a with
  | nil => intro x m c p; exact edg_turn1
  | cons y a ih =>
    intro x m c p
    have h5 := edg_turn1 (x := x) (y := y) (b := a ++ m :: c) (p := p)
    have h4 := ih y m (c ++ [x]) p
    rw [show (c ++ [x]) ++ y :: a = c ++ x :: y :: a by simp] at h4
    rw [h4, show (a ++ m :: (c ++ [x])) ++ [y] = ((a ++ m :: c) ++ [x]) ++ [y] by simp, h5]
    rfl
theorem edg_chn {ed : Nat → Nat → Prop} : ∀ (l : List Nat) (u : Nat), chn ed u l → ∀ p ∈ edg u l, ed p.1 p.2 ∧ p.1 ∈ u :: l ∧ p.2 ∈ l := by
  intro l
  induction l with
  | nil => intro u _ p hp; cases hp
  | cons x l ih =>
    intro u h p hp
    rcases List.mem_cons.mp hp with q | q
    · subst q; exact ⟨h.1, by simp, by simp⟩
    · obtain ⟨g1, g2, g3⟩ := ih x h.2 p q
      exact ⟨g1, List.mem_cons_of_mem _ g2, List.mem_cons_of_mem _ g3⟩
theorem ex_min : ∀ (l : List Nat) (x : Nat), ∃ m, m ∈ x :: l ∧ ∀ y ∈ x :: l, m ≤ y := by
  intro l
  induction l with
  | nil => intro x; exact ⟨x, by simp, by simp⟩
  | cons z l ih =>
    intro x
    obtain ⟨m, h1, h2⟩ := ih z
    by_cases hx : x ≤ m
    · refine ⟨x, by simp, fun y hy => ?_⟩
      rcases List.mem_cons.mp hy with q | q
      · omega
      · have := h2 y q; omega
    · refine ⟨m, List.mem_cons_of_mem _ h1, fun y hy => ?_⟩
      rcases List.mem_cons.mp hy with q | q
      · omega
      · exact h2 y q
/-- every ring is among them, turned -/
theorem ring_in {e : Nat → Nat → Bool} {n : Nat} {som : Nat → Bool} {x : Nat} {b : List Nat} (h : ring (eP e) x b) (hv : ∀ y ∈ x :: b, y < n ∧ som y = true) (w : Nat → Nat → Int) : ∃ x' b', (x', b') ∈ ringsL e n som ∧ b'.length = b.length ∧ wsm w x' (b' ++ [x']) = wsm w x (b ++ [x]) ∧ (∀ p, p ∈ edg x' (b' ++ [x']) ↔ p ∈ edg x (b ++ [x])) ∧ ∀ y, y ∈ x' :: b' ↔ y ∈ x :: b := by
  obtain ⟨m, h1, h2⟩ := ex_min b x
  by_cases hm : m = x
  · subst hm
    exact ⟨m, b, mem_ringsL.mpr ⟨h, fun y hy => ⟨h2 y hy, hv y hy⟩⟩, rfl, rfl, fun _ => Iff.rfl, fun _ => Iff.rfl⟩
  · have h3 : m ∈ b := by
      rcases List.mem_cons.mp h1 with q | q
      · exact absurd q hm
      · exact q
    obtain ⟨a, c, rfl, -⟩ := mem_split_first h3
    obtain ⟨g1, g2⟩ := ring_turn w a x m c h
    have hmem : ∀ y, y ∈ m :: (c ++ x :: a) ↔ y ∈ x :: (a ++ m :: c) := by
      intro y
      simp only [List.mem_cons, List.mem_append]
      constructor
      · rintro (q | q | q | q)
        · exact Or.inr (Or.inr (Or.inl q))
        · exact Or.inr (Or.inr (Or.inr q))
        · exact Or.inl q
        · exact Or.inr (Or.inl q)
      · rintro (q | q | q | q)
        · exact Or.inr (Or.inr (Or.inl q))
        · exact Or.inr (Or.inr (Or.inr q))
        · exact Or.inl q
        · exact Or.inr (Or.inl q)
    refine ⟨m, c ++ x :: a, mem_ringsL.mpr ⟨g1, fun y hy => ?_⟩, by simp; omega, g2, edg_turn a x m c, hmem⟩
    have := (hmem y).mp hy
    exact ⟨h2 y this, hv y this⟩
