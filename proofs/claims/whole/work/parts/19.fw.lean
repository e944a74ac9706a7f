/-! what walks gain over the pace, from each to each -/
def NOW : Int := -1000000
def rdw (w : Nat → Int) (P : Int) : Nat → Nat → Int := fun i j => 60 * wN w i j - P
def FW (n : Nat) (w : Nat → Int) (P : Int) : Nat → Nat → Nat → Int
  | 0, i, j => if i = j then 0 else if w (6 * i + j) = -9 then NOW else 60 * w (6 * i + j) - P
  | k + 1, i, j => if FW n w P k i k ≠ NOW ∧ FW n w P k k j ≠ NOW then max (FW n w P k i j) (FW n w P k i k + FW n w P k k j) else FW n w P k i j
theorem FW_s (n : Nat) (w : Nat → Int) (P : Int) (k i j : Nat) : FW n w P (k + 1) i j = if FW n w P k i k ≠ NOW ∧ FW n w P k k j ≠ NOW then max (FW n w P k i j) (FW n w P k i k + FW n w P k k j) else FW n w P k i j := rfl
section FWS
variable {n : Nat} {w : Nat → Int} {P : Int}
/-- no ring gains -/
def noGain (n : Nat) (w : Nat → Int) (P : Int) : Prop := (-1 ≤ P ∧ P ≤ 540) ∧ ∀ x b, ring (eP (eB n w)) x b → wsm (rdw w P) x (b ++ [x]) ≤ 0
theorem pac_noGain (hw : okn n w) : noGain n w (pac n w) := by
  refine ⟨pac_b hw, fun x b h => ?_⟩
  unfold rdw
  rw [wsm_red, List.length_append, List.length_singleton]
  rcases pac_all hw with ⟨-, h2⟩ | ⟨-, -, h3, -⟩
  · exact absurd h (h2 x b)
  · have := h3 x b h
    omega
theorem wsm_rb (hw : okn n w) (hP : -1 ≤ P ∧ P ≤ 540) : ∀ (l : List Nat) (u : Nat), chn (eP (eB n w)) u l → -541 * l.length ≤ wsm (rdw w P) u l ∧ wsm (rdw w P) u l ≤ 541 * l.length := by
  intro l
  induction l with
  | nil => intro u _; simp [wsm]
  | cons x l ih =>
    intro u h
    have h1 := eB_nn hw _ _ h.1
    have h2 := ih x h.2
    simp only [wsm, rdw, List.length_cons] at h2 ⊢
    omega
/-- each is reached by a walk, or not at all -/
theorem FW_a (hw : okn n w) (hG : noGain n w P) : ∀ k, k ≤ n → ∀ i j, i < n → j < n → (FW n w P k i j = NOW ∨ ∃ l, chn (eP (eB n w)) i l ∧ la i l = j ∧ wsm (rdw w P) i l = FW n w P k i j ∧ l.length ≤ 2 ^ k) ∧ FW n w P k i i = 0 := by
  intro k
  induction k with
  | zero =>
    intro _ i j hi hj
    refine ⟨?_, by simp [FW]⟩
    unfold FW
    by_cases e : i = j
    · rw [if_pos e]
      exact Or.inr ⟨[], trivial, e, rfl, by simp⟩
    · rw [if_neg e]
      by_cases c : w (6 * i + j) = -9
      · rw [if_pos c]; exact Or.inl rfl
      · rw [if_neg c]
        refine Or.inr ⟨[j], ⟨?_, trivial⟩, rfl, by simp [wsm, rdw, wN], by simp⟩
        simp [eP, eB]
        exact ⟨hi, hj, c⟩
  | succ k ih =>
    intro hk i j hi hj
    have hpow : 2 ^ k ≤ 2 ^ (k + 1) := Nat.pow_le_pow_right (by decide) (by omega)
    have hpow2 : 2 ^ (k + 1) = 2 ^ k + 2 ^ k := by rw [Nat.pow_succ]; omega
    have gen : ∀ i j, i < n → j < n → (FW n w P (k + 1) i j = NOW ∨ ∃ l, chn (eP (eB n w)) i l ∧ la i l = j ∧ wsm (rdw w P) i l = FW n w P (k + 1) i j ∧ l.length ≤ 2 ^ (k + 1)) := by
      intro i j hi hj
      rw [FW_s]
      have h1 := (ih (by omega) i j hi hj).1
      by_cases c : FW n w P k i k ≠ NOW ∧ FW n w P k k j ≠ NOW
      · rw [if_pos c]
        by_cases c2 : FW n w P k i j < FW n w P k i k + FW n w P k k j
        · rw [show max (FW n w P k i j) (FW n w P k i k + FW n w P k k j) = FW n w P k i k + FW n w P k k j by omega]
          obtain ⟨a, a1, a2, a3, a4⟩ := (ih (by omega) i k hi (by omega)).1.resolve_left c.1
          obtain ⟨b, b1, b2, b3, b4⟩ := (ih (by omega) k j (by omega) hj).1.resolve_left c.2
          refine Or.inr ⟨a ++ b, by rw [chn_app, a2]; exact ⟨a1, b1⟩, by rw [la_app, a2]; exact b2, by rw [wsm_app, a2, a3, b3], by rw [List.length_append]; omega⟩
        · rw [show max (FW n w P k i j) (FW n w P k i k + FW n w P k k j) = FW n w P k i j by omega]
          rcases h1 with h1 | ⟨l, l1, l2, l3, l4⟩
          · exact Or.inl h1
          · exact Or.inr ⟨l, l1, l2, l3, by omega⟩
      · rw [if_neg c]
        rcases h1 with h1 | ⟨l, l1, l2, l3, l4⟩
        · exact Or.inl h1
        · exact Or.inr ⟨l, l1, l2, l3, by omega⟩
    refine ⟨gen i j hi hj, ?_⟩
    have z := (ih (by omega) i i hi hi).2
    have lo : 0 ≤ FW n w P (k + 1) i i := by
      rw [FW_s]
      split <;> omega
    rcases gen i i hi hi with q | ⟨l, l1, l2, l3, -⟩
    · rw [q] at lo
      exact absurd lo (by decide)
    · have := walk_back hG.2 i l l1 l2
      omega
theorem FW_b (hw : okn n w) (hG : noGain n w P) {k i j : Nat} (hk : k ≤ n) (hi : i < n) (hj : j < n) : FW n w P k i j = NOW ∨ (-40000 ≤ FW n w P k i j ∧ FW n w P k i j ≤ 40000) := by
  have h6 := hw.2.1
  rcases (FW_a hw hG k hk i j hi hj).1 with q | ⟨l, l1, l2, l3, l4⟩
  · exact Or.inl q
  · have := wsm_rb hw hG.1 l i l1
    have : 2 ^ k ≤ 2 ^ 6 := Nat.pow_le_pow_right (by decide) (by omega)
    right
    omega
/-- and no walk that comes nowhere twice gains more -/
theorem FW_m (hw : okn n w) (hG : noGain n w P) : ∀ k, k ≤ n → ∀ (i j : Nat) (m : List Nat), i < n → j < n → chn (eP (eB n w)) i (m ++ [j]) → (i :: (m ++ [j])).Nodup → (∀ y ∈ m, y < k) → FW n w P k i j ≠ NOW ∧ wsm (rdw w P) i (m ++ [j]) ≤ FW n w P k i j := by
  intro k
  induction k with
  | zero =>
    intro _ i j m hi hj hc hn hm
    have hm0 : m = [] := by
      cases m with
      | nil => rfl
      | cons y m => exact absurd (hm y (by simp)) (by omega)
    subst hm0
    simp only [List.nil_append] at hc hn ⊢
    have he : w (6 * i + j) ≠ -9 := by
      have := hc.1
      simp [eP, eB] at this
      exact this.2.2
    have hij : i ≠ j := by
      intro q
      subst q
      simp at hn
    have hb := eB_nn hw _ _ hc.1
    unfold wN at hb
    unfold FW
    rw [if_neg hij, if_neg he]
    simp only [wsm, rdw, wN]
    unfold NOW
    have := hG.1
    omega
  | succ k ih =>
    intro hk i j m hi hj hc hn hm
    have mono : FW n w P k i j ≠ NOW → FW n w P (k + 1) i j ≠ NOW ∧ FW n w P k i j ≤ FW n w P (k + 1) i j := by
      intro q
      have hb := FW_b hw hG (k := k) (by omega) hi hj
      rw [FW_s]
      unfold NOW at *
      split <;> omega
    by_cases hkm : k ∈ m
    · obtain ⟨a, c, rfl, hna⟩ := mem_split_first hkm
      have e1 : (a ++ k :: c) ++ [j] = (a ++ [k]) ++ (c ++ [j]) := by simp
      rw [e1] at hc hn ⊢
      obtain ⟨c1, c2⟩ := (chn_app _ _ _).mp hc
      have hla : la i (a ++ [k]) = k := by rw [la_app]; rfl
      rw [hla] at c2
      have hn' : ((i :: (a ++ [k])) ++ (c ++ [j])).Nodup := by simpa using hn
      obtain ⟨n1, n2, n3⟩ := List.nodup_append.mp hn'
      have hkc : k ∉ c := fun q => n3 k (by simp) k (by simp [q]) rfl
      have hkj : k ≠ j := fun q => n3 k (by simp) k (by simp [q]) rfl
      have g1 := ih (by omega) i k a hi (by omega) c1 n1 (fun y hy => by
        have h1 := hm y (by simp [hy])
        have h2 : y ≠ k := fun q => hna (by rw [← q]; exact hy)
        omega)
      have g2 := ih (by omega) k j c (by omega) hj c2 (by
        refine List.nodup_cons.mpr ⟨?_, n2⟩
        intro q
        rcases List.mem_append.mp q with q | q
        · exact hkc q
        · rw [List.mem_singleton] at q; exact hkj q) (fun y hy => by
        have h1 := hm y (by simp [hy])
        have h2 : y ≠ k := fun q => hkc (by rw [← q]; exact hy)
        omega)
      rw [wsm_app, hla]
      have b1 := FW_b hw hG (k := k) (by omega) hi (show k < n by omega)
      have b2 := FW_b hw hG (k := k) (by omega) (show k < n by omega) hj
      rw [FW_s, if_pos ⟨g1.1, g2.1⟩]
      unfold NOW at *
      omega
    · have g := ih (by omega) i j m hi hj hc hn (fun y hy => by
        have h1 := hm y hy
        have h2 : y ≠ k := fun q => hkm (by rw [← q]; exact hy)
        omega)
      have := mono g.1
      exact ⟨this.1, by omega⟩
/-- a wait with a walk back lies on a ring; how much at most such a ring gains -/
theorem FW_ring (hw : okn n w) (hG : noGain n w P) {i j : Nat} (he : eP (eB n w) i j) : (FW n w P n j i ≠ NOW ↔ ∃ x b, ring (eP (eB n w)) x b ∧ (i, j) ∈ edg x (b ++ [x])) ∧ (FW n w P n j i ≠ NOW → (rdw w P i j + FW n w P n j i = 0 ↔ ∃ x b, ring (eP (eB n w)) x b ∧ (i, j) ∈ edg x (b ++ [x]) ∧ wsm (rdw w P) x (b ++ [x]) = 0)) := by
  have hij := eB_b i j he
  -- a ring through the wait, as a path from j back to i
  have toPath : ∀ x b, ring (eP (eB n w)) x b → (i, j) ∈ edg x (b ++ [x]) → ∃ l, chn (eP (eB n w)) j l ∧ la j l = i ∧ (j :: l).Nodup ∧ wsm (rdw w P) x (b ++ [x]) = rdw w P i j + wsm (rdw w P) j l := by
    intro x b hr hm
    -- turn the ring so that it begins at i
    have hi : i ∈ x :: b := by
      have this : i ∈ x :: (b ++ [x]) := (edg_chn _ _ hr.2 _ hm).2.1
      rcases List.mem_cons.mp this with q | q
      · rw [q]; simp
      · rcases List.mem_append.mp q with q | q
        · simp [q]
        · rw [List.mem_singleton] at q; rw [q]; simp
    have turned : ∃ b', ring (eP (eB n w)) i b' ∧ (i, j) ∈ edg i (b' ++ [i]) ∧ wsm (rdw w P) i (b' ++ [i]) = wsm (rdw w P) x (b ++ [x]) := by
      by_cases e : i = x
      · subst e; exact ⟨b, hr, hm, rfl⟩
      · have hib : i ∈ b := by
          rcases List.mem_cons.mp hi with q | q
          · exact absurd q e
          · exact q
        obtain ⟨a, c, rfl, -⟩ := mem_split_first hib
        have t := ring_turn (rdw w P) a x i c hr
        exact ⟨c ++ x :: a, t.1, (edg_turn a x i c (i, j)).mpr hm, t.2⟩
    obtain ⟨b', r1, r2, r3⟩ := turned
    -- the only wait from i in it is its first
    cases b' with
    | nil =>
      simp [edg] at r2
      subst r2
      exact ⟨[], trivial, rfl, by simp, by rw [← r3]; simp [wsm]⟩
    | cons y b' =>
      have hy : j = y := by
        rw [List.cons_append] at r2
        rcases List.mem_cons.mp r2 with q | q
        · exact congrArg Prod.snd q
        · exfalso
          have h1 := r1.2
          rw [List.cons_append] at h1
          have h2 := (edg_chn (ed := fun a _ => a ≠ i) (b' ++ [i]) y (by
            -- none of the departures but the last is i
            have nd := r1.1
            have : ∀ (l : List Nat) (u : Nat), u ≠ i → (∀ z ∈ l, z ≠ i) → chn (fun a _ => a ≠ i) u (l ++ [i]) := by
              intro l
              induction l with
              | nil => intro u hu _; exact ⟨hu, trivial⟩
              | cons z l ihl => intro u hu hl; exact ⟨hu, ihl z (hl z (by simp)) (fun t ht => hl t (by simp [ht]))⟩
            have nd2 := (List.nodup_cons.mp nd).1
            exact this b' y (fun q => nd2 (by simp [q])) (fun z hz q => nd2 (by rw [← q]; simp [hz]))) _ q).1
          exact h2 rfl
      subst hy
      have h1 := r1.2
      rw [List.cons_append] at h1
      refine ⟨b' ++ [i], h1.2, by rw [la_app]; rfl, ?_, ?_⟩
      · have := r1.1
        have h2 : ([i] ++ (j :: b')).Nodup := this
        have h3 := (List.perm_append_comm.nodup_iff).mp h2
        simpa using h3
      · rw [← r3, List.cons_append]
        rfl
  -- a path from j back to i closes to a ring
  have toRing : ∀ l, chn (eP (eB n w)) j l → la j l = i → (j :: l).Nodup → ∃ x b, ring (eP (eB n w)) x b ∧ (i, j) ∈ edg x (b ++ [x]) ∧ wsm (rdw w P) x (b ++ [x]) = rdw w P i j + wsm (rdw w P) j l := by
    intro l l1 l2 l3
    refine ⟨j, l, ⟨l3, by rw [chn_app, l2]; exact ⟨l1, he, trivial⟩⟩, ?_, ?_⟩
    · rw [edg_app, l2]
      simp [edg]
    · rw [wsm_app, l2]
      simp only [wsm]
      omega
  have best : ∀ l, chn (eP (eB n w)) j l → la j l = i → (j :: l).Nodup → FW n w P n j i ≠ NOW ∧ wsm (rdw w P) j l ≤ FW n w P n j i := by
    intro l l1 l2 l3
    by_cases hl : l = []
    · subst hl
      have e : j = i := l2
      subst e
      have := (FW_a hw hG n (Nat.le_refl _) j j hij.2 hij.2).2
      rw [this]
      simp [wsm]
      decide
    · have e := List.dropLast_concat_getLast hl
      generalize l.dropLast = m at e
      generalize l.getLast hl = v at e
      subst e
      rw [la_app] at l2
      have e2 : v = i := l2
      subst e2
      exact FW_m hw hG n (Nat.le_refl _) j v m hij.2 hij.1 l1 l3 (fun y hy => chn_lt eB_b _ _ l1 y (by simp [hy]))
  constructor
  · constructor
    · intro h
      obtain ⟨l, l1, l2, l3, -⟩ := (FW_a hw hG n (Nat.le_refl _) j i hij.2 hij.1).1.resolve_left h
      obtain ⟨l', s1, s2, s3, -, -⟩ := walk_simple j l l1 (fun x b h _ => hG.2 x b h)
      obtain ⟨x, b, r1, r2, -⟩ := toRing l' s2 (by rw [s3, l2]) s1
      exact ⟨x, b, r1, r2⟩
    · rintro ⟨x, b, r1, r2⟩
      obtain ⟨l, l1, l2, l3, -⟩ := toPath x b r1 r2
      exact (best l l1 l2 l3).1
  · intro h
    constructor
    · intro h0
      obtain ⟨l, l1, l2, l3, -⟩ := (FW_a hw hG n (Nat.le_refl _) j i hij.2 hij.1).1.resolve_left h
      obtain ⟨l', s1, s2, s3, s4, -⟩ := walk_simple j l l1 (fun x b h _ => hG.2 x b h)
      obtain ⟨x, b, r1, r2, r3⟩ := toRing l' s2 (by rw [s3, l2]) s1
      have := hG.2 x b r1
      exact ⟨x, b, r1, r2, by omega⟩
    · rintro ⟨x, b, r1, r2, r3⟩
      obtain ⟨l, l1, l2, l3, l4⟩ := toPath x b r1 r2
      have b1 := (best l l1 l2 l3).2
      obtain ⟨l'', t1, t2, t3, -⟩ := (FW_a hw hG n (Nat.le_refl _) j i hij.2 hij.1).1.resolve_left h
      have b2 := walk_back hG.2 i (j :: l'') ⟨he, t1⟩ t2
      simp only [wsm] at b2
      omega
end FWS
