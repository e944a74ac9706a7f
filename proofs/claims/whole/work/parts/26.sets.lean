/-! walks over just a set of departures, from its least one -/
theorem bitz : ∀ m : Nat, m < 64 → ∀ k : Nat, k < 6 → ((iI m >>> (iI k &&& 31)) &&& 1 = 0 ↔ m.testBit k = false) := by decide +kernel
theorem shl7 : ∀ k : Nat, k < 7 → (1 : Int32) <<< (iI k &&& 31) = iI (2 ^ k : Nat) := by decide +kernel
theorem clrb : ∀ m : Nat, m < 64 → ∀ k : Nat, k < 6 → iI m &&& (((1 : Int32) <<< (iI k &&& 31)) ^^^ (-1)) = iI ((if m.testBit k then m ^^^ 2 ^ k else m : Nat)) := by decide +kernel
theorem bcn : ∀ m : Nat, m < 64 → f_J6_bitCount_0f7a4 (iI m) = some (iI (pcn m 6)) := by decide +kernel
theorem clr_lt : ∀ m : Nat, m < 64 → ∀ k : Nat, k < 6 → m.testBit k = true → m ^^^ 2 ^ k < m := by decide +kernel
theorem pcn_in : ∀ m : Nat, m < 64 → ∀ k : Nat, k < 6 → m.testBit k = false → pcn (m ||| 2 ^ k) 6 = pcn m 6 + 1 := by decide +kernel
theorem pcn_1 : ∀ m : Nat, m < 64 → m ≠ 0 → 1 ≤ pcn m 6 := by decide +kernel
theorem pcn_6 (m : Nat) : pcn m 6 ≤ 6 := by rw [pcn_cnt]; exact cnt_le _ 6
theorem orb {m k : Nat} (hk : k < 6) : iI m ||| ((1 : Int32) <<< (iI k &&& 31)) = iI ((m ||| 2 ^ k : Nat)) := by
  rw [shl32 k hk, iI_nat, iI_nat, nI_or]
theorem or_64 {m k : Nat} (hm : m < 64) (hk : k < 6) : m ||| 2 ^ k < 64 := by
  have h1 : 2 ^ k < 2 ^ 6 := Nat.pow_lt_pow_right (by decide) hk
  exact Nat.or_lt_two_pow (n := 6) hm h1
theorem or_t {m k t : Nat} : (m ||| 2 ^ k).testBit t = true ↔ m.testBit t = true ∨ t = k := by
  rw [or_bit, Nat.testBit_two_pow]
  constructor
  · rintro (h | h)
    · exact Or.inl h
    · exact Or.inr (of_decide_eq_true h).symm
  · rintro (h | h)
    · exact Or.inl h
    · exact Or.inr (decide_eq_true h.symm)
theorem xor_t {m k t : Nat} (hk : m.testBit k = true) : (m ^^^ 2 ^ k).testBit t = true ↔ m.testBit t = true ∧ t ≠ k := by
  rw [Nat.testBit_xor, Nat.testBit_two_pow]
  by_cases e : k = t
  · subst e
    simp [hk]
  · have e2 : t ≠ k := fun q => e q.symm
    simp [e, e2]
def msk (l : List Nat) : Nat := l.foldr (fun t a => a ||| 2 ^ t) 0
theorem msk_t (l : List Nat) (t : Nat) : (msk l).testBit t = true ↔ t ∈ l := by
  induction l with
  | nil => simp [msk]
  | cons x l ih =>
    show (msk l ||| 2 ^ x).testBit t = true ↔ _
    rw [or_t, ih, List.mem_cons]
    exact or_comm
def pth (n : Nat) (w : Nat → Int) (S x : Nat) (b : List Nat) (e : Nat) : Prop := (x :: b).Nodup ∧ chn (eP (eB n w)) x b ∧ (∀ y ∈ x :: b, x ≤ y ∧ y < n) ∧ la x b = e ∧ ∀ t, S.testBit t = true ↔ t ∈ x :: b
def lowS (S : Nat) : Nat := if S.testBit 0 then 0 else if S.testBit 1 then 1 else if S.testBit 2 then 2 else if S.testBit 3 then 3 else if S.testBit 4 then 4 else 5
theorem lowS_is {S x : Nat} (hx : x < 6) (h1 : S.testBit x = true) (h2 : ∀ t, t < x → S.testBit t = false) : lowS S = x := by
  unfold lowS
  rcases (show x = 0 ∨ x = 1 ∨ x = 2 ∨ x = 3 ∨ x = 4 ∨ x = 5 by omega) with rfl | rfl | rfl | rfl | rfl | rfl
  · simp [h1]
  · simp [h1, h2 0 (by omega)]
  · simp [h1, h2 0 (by omega), h2 1 (by omega)]
  · simp [h1, h2 0 (by omega), h2 1 (by omega), h2 2 (by omega)]
  · simp [h1, h2 0 (by omega), h2 1 (by omega), h2 2 (by omega), h2 3 (by omega)]
  · simp [h2 0 (by omega), h2 1 (by omega), h2 2 (by omega), h2 3 (by omega), h2 4 (by omega)]
theorem cnt_mem : ∀ (N : Nat) (l : List Nat), l.Nodup → (∀ y ∈ l, y < N) → cnt (fun t => decide (t ∈ l)) N = l.length := by
  intro N
  induction N with
  | zero =>
    intro l _ h
    cases l with
    | nil => rfl
    | cons x l => exact absurd (h x (by simp)) (by omega)
  | succ N ih =>
    intro l hn h
    have hcg : ∀ (p q : Nat → Bool) (k : Nat), (∀ j, j < k → p j = q j) → cnt p k = cnt q k := by
      intro p q k
      induction k with
      | zero => intro _; rfl
      | succ k ihk =>
        intro hpq
        unfold cnt
        rw [ihk (fun j hj => hpq j (by omega)), hpq k (by omega)]
    by_cases hm : N ∈ l
    · have h1 := ih (l.erase N) (hn.erase N) (fun x hx => by
        have h2 := h x (List.mem_of_mem_erase hx)
        have h3 : x ≠ N := fun e => by subst e; exact hn.not_mem_erase hx
        omega)
      rw [List.length_erase_of_mem hm] at h1
      have hl : 0 < l.length := List.length_pos_of_mem hm
      unfold cnt
      rw [hcg _ (fun t => decide (t ∈ l.erase N)) N (fun j hj => by
        have : j ∈ l ↔ j ∈ l.erase N := by rw [hn.mem_erase_iff]; exact ⟨fun q => ⟨by omega, q⟩, fun q => q.2⟩
        simp [this]), h1, if_pos (decide_eq_true hm)]
      omega
    · have := ih l hn (fun x hx => by
        have h2 := h x hx
        have h3 : x ≠ N := fun e => by subst e; exact hm hx
        omega)
      unfold cnt
      rw [this, if_neg (by simp [hm])]
      rfl
section PTH
variable {n : Nat} {w : Nat → Int} {S x e : Nat} {b : List Nat}
theorem pth_lt (h6 : n ≤ 6) (h : pth n w S x b e) : S < 2 ^ n ∧ S < 64 ∧ x < n ∧ e < n ∧ S.testBit e = true ∧ S.testBit x = true ∧ S ≠ 0 := by
  obtain ⟨h1, h2, h3, h4, h5⟩ := h
  have hx := (h3 x (by simp)).2
  have hl : S < 2 ^ n := Nat.lt_pow_two_of_testBit _ (fun i hi => by
    apply Classical.byContradiction
    intro q
    have q2 : S.testBit i = true := by simpa using q
    have := (h3 i ((h5 i).mp q2)).2
    omega)
  have h64 : S < 64 := Nat.lt_of_lt_of_le hl (Nat.pow_le_pow_right (n := 2) (by decide) h6)
  have hm : e ∈ x :: b := by rw [← h4]; exact la_mem x b
  have hxS : S.testBit x = true := (h5 x).mpr (by simp)
  exact ⟨hl, h64, hx, (h3 e hm).2, (h5 e).mpr hm, hxS, fun q => by rw [q] at hxS; simp at hxS⟩
theorem pth_low (h6 : n ≤ 6) (h : pth n w S x b e) : lowS S = x ∧ ∀ t, t < x → S.testBit t = false := by
  have h0 := pth_lt h6 h
  have h1 : ∀ t, t < x → S.testBit t = false := by
    intro t ht
    apply Classical.byContradiction
    intro q
    have q2 : S.testBit t = true := by simpa using q
    have := (h.2.2.1 t ((h.2.2.2.2 t).mp q2)).1
    omega
  exact ⟨lowS_is (by omega) h0.2.2.2.2.2.1 h1, h1⟩
theorem pth_pc (h6 : n ≤ 6) (h : pth n w S x b e) : pcn S 6 = b.length + 1 := by
  rw [pcn_cnt, show (fun j => S.testBit j) = fun j => decide (j ∈ x :: b) from ?_, cnt_mem 6 (x :: b) h.1 (fun y hy => by have := (h.2.2.1 y hy).2; omega)]
  · rfl
  · funext j
    by_cases c : j ∈ x :: b
    · rw [(h.2.2.2.2 j).mpr c]; simp [c]
    · have : S.testBit j = false := by
        apply Classical.byContradiction
        intro q
        exact c ((h.2.2.2.2 j).mp (by simpa using q))
      rw [this]; simp [c]
theorem pth_ext (h : pth n w S x b e) {t : Nat} (ht : x < t) (he : eB n w e t = true) (hb : S.testBit t = false) : pth n w (S ||| 2 ^ t) x (b ++ [t]) t := by
  obtain ⟨h1, h2, h3, h4, h5⟩ := h
  have hm : t ∉ x :: b := fun q => by rw [(h5 t).mpr q] at hb; cases hb
  refine ⟨?_, ?_, ?_, ?_, ?_⟩
  · have := nodup_snoc.mpr ⟨h1, hm⟩
    simpa using this
  · rw [chn_app, h4]
    exact ⟨h2, he, trivial⟩
  · intro y hy
    rw [← List.cons_append, List.mem_append, List.mem_singleton] at hy
    rcases hy with q | q
    · exact h3 y q
    · subst q
      have := (eB_b _ _ he).2
      omega
  · rw [la_app]; rfl
  · intro y
    rw [or_t, h5, ← List.cons_append, List.mem_append, List.mem_singleton]
theorem pth_pred (h : pth n w S x b e) : b = [] ∨ ∃ S' b', b = b' ++ [e] ∧ pth n w S' x b' (la x b') ∧ eB n w (la x b') e = true ∧ x < e ∧ S'.testBit e = false ∧ S = S' ||| 2 ^ e ∧ S' < S := by
  obtain ⟨h1, h2, h3, h4, h5⟩ := h
  by_cases hb : b = []
  · exact Or.inl hb
  · right
    have e1 := List.dropLast_concat_getLast hb
    generalize b.dropLast = b' at e1
    generalize b.getLast hb = t at e1
    subst e1
    have et : t = e := by rw [la_app] at h4; exact h4
    subst et
    have hnd : (x :: b').Nodup ∧ t ∉ x :: b' := nodup_snoc.mp (by simpa using h1)
    obtain ⟨c1, c2, -⟩ := (chn_app x b' [t]).mp h2
    have hbit : (msk (x :: b')).testBit t = false := by
      apply Classical.byContradiction
      intro q
      exact hnd.2 ((msk_t _ _).mp (by simpa using q))
    have hS : S = msk (x :: b') ||| 2 ^ t := by
      apply Nat.eq_of_testBit_eq
      intro i
      have : S.testBit i = true ↔ (msk (x :: b') ||| 2 ^ t).testBit i = true := by
        rw [h5, or_t, msk_t, ← List.cons_append, List.mem_append, List.mem_singleton]
      cases q1 : S.testBit i <;> cases q2 : (msk (x :: b') ||| 2 ^ t).testBit i <;> simp_all
    refine ⟨msk (x :: b'), b', rfl, ⟨hnd.1, c1, fun y hy => h3 y (by rw [← List.cons_append, List.mem_append]; exact Or.inl hy), rfl, fun t => msk_t _ _⟩, c2, ?_, hbit, hS, ?_⟩
    · have := (h3 t (by simp)).1
      have h9 : t ≠ x := fun q => hnd.2 (by rw [q]; simp)
      omega
    · have h8 : msk (x :: b') ≤ S := by rw [hS]; exact Nat.left_le_or
      have h9 : msk (x :: b') ≠ S := fun q => by
        have : S.testBit t = true := by rw [hS, or_t]; exact Or.inr rfl
        rw [← q, hbit] at this
        cases this
      omega
end PTH
/-! how many rings go on from a walk -/
def Rn (n : Nat) (w : Nat → Int) (x : Nat) : Nat → Nat → Nat → Nat
  | 0, _, _ => 0
  | f + 1, S, e => (if eB n w e x = true then 1 else 0) + itr (fun t a => a + (if x < t ∧ eB n w e t = true ∧ S.testBit t = false then Rn n w x f (S ||| 2 ^ t) t else 0)) n 0
theorem Rn_s (n : Nat) (w : Nat → Int) (x f S e : Nat) : Rn n w x (f + 1) S e = (if eB n w e x = true then 1 else 0) + itr (fun t a => a + (if x < t ∧ eB n w e t = true ∧ S.testBit t = false then Rn n w x f (S ||| 2 ^ t) t else 0)) n 0 := rfl
theorem itr_cg {α : Type} {g g' : Nat → α → α} {a : α} : ∀ (n : Nat), (∀ k, k < n → ∀ b, g k b = g' k b) → itr g n a = itr g' n a := by
  intro n
  induction n with
  | zero => intro _; rfl
  | succ n ih =>
    intro h
    simp only [itr]
    rw [ih (fun k hk => h k (by omega)), h n (by omega)]
theorem len_fm {α : Type} (a : Nat) (g : Nat → List α) : ∀ k : Nat, ((List.range' a k).flatMap g).length = itr (fun t c => c + (if a ≤ t then (g t).length else 0)) (a + k) 0 := by
  intro k
  induction k with
  | zero =>
    have : ∀ m, m ≤ a → itr (fun t c => c + (if a ≤ t then (g t).length else 0)) m 0 = 0 := by
      intro m
      induction m with
      | zero => intro _; rfl
      | succ m ih =>
        intro hm
        simp only [itr]
        rw [ih (by omega), if_neg (by omega)]
    rw [show a + 0 = a from rfl, this a (Nat.le_refl _)]
    rfl
  | succ k ih =>
    rw [List.range'_1_concat, List.flatMap_append, List.length_append, ih, List.flatMap_singleton]
    show _ = itr (fun t c => c + (if a ≤ t then (g t).length else 0)) (a + k) 0 + (if a ≤ a + k then (g (a + k)).length else 0)
    rw [if_pos (by omega)]
theorem dfs_Rn {n : Nat} {w : Nat → Int} {som : Nat → Bool} (h6 : n ≤ 6) (hsom : ∀ t, t < n → som t = true) {x : Nat} : ∀ (f g S e : Nat) (b : List Nat), pth n w S x b e → n ≤ f + b.length → n ≤ g + b.length → (dfs (eB n w) n x som f b).length = Rn n w x g S e := by
  intro f
  induction f with
  | zero =>
    intro g S e b h h1 _
    have := nodup_lt n (x :: b) h.1 (fun y hy => (h.2.2.1 y hy).2)
    simp only [List.length_cons] at this
    omega
  | succ f ih =>
    intro g S e b h h1 h2
    have hlen := nodup_lt n (x :: b) h.1 (fun y hy => (h.2.2.1 y hy).2)
    simp only [List.length_cons] at hlen
    obtain ⟨g', rfl⟩ : ∃ g', g = g' + 1 := ⟨g - 1, by omega⟩
    have hl := pth_lt h6 h
    rw [dfs_bd, Rn_s, len_fm]
    rw [show x + (n - x) = n by omega]
    have key : ∀ m, m ≤ n → itr (fun t c => c + (if x ≤ t then (dbd (eB n w) n x som f b t).length else 0)) m 0 = (if x < m ∧ eB n w e x = true then 1 else 0) + itr (fun t a => a + (if x < t ∧ eB n w e t = true ∧ S.testBit t = false then Rn n w x g' (S ||| 2 ^ t) t else 0)) m 0 := by
      intro m
      induction m with
      | zero => intro _; simp [itr]
      | succ m ihm =>
        intro hm
        simp only [itr]
        rw [ihm (by omega)]
        generalize itr (fun t a => a + (if x < t ∧ eB n w e t = true ∧ S.testBit t = false then Rn n w x g' (S ||| 2 ^ t) t else 0)) m 0 = acc
        rcases Nat.lt_trichotomy m x with c | c | c
        · rw [if_neg (show ¬ (x < m ∧ eB n w e x = true) from fun q => by omega), if_neg (show ¬ x ≤ m by omega), if_neg (show ¬ (x < m + 1 ∧ eB n w e x = true) from fun q => by omega), if_neg (show ¬ (x < m ∧ _) from fun q => by omega)]
          omega
        · subst c
          rw [if_neg (show ¬ (m < m ∧ eB n w e m = true) from fun q => by omega), if_pos (Nat.le_refl _), if_neg (show ¬ (m < m ∧ eB n w e m = true ∧ _) from fun q => by omega)]
          unfold dbd
          rw [h.2.2.2.1]
          by_cases c2 : eB n w e m = true
          · rw [if_pos ⟨rfl, c2⟩, if_pos ⟨by omega, c2⟩]
            simp
            omega
          · rw [if_neg (fun q => c2 q.2), if_neg (fun q => c2 q.1), if_neg (fun q => c2 q.2)]
            simp
        · rw [if_pos (show x ≤ m by omega)]
          unfold dbd
          rw [h.2.2.2.1, if_neg (show ¬ (m = x ∧ _) from fun q => by omega)]
          have e1 : (if x < m ∧ eB n w e x = true then 1 else 0) = (if x < m + 1 ∧ eB n w e x = true then 1 else 0) := by
            by_cases q : eB n w e x = true
            · rw [if_pos ⟨c, q⟩, if_pos ⟨by omega, q⟩]
            · rw [if_neg (fun z => q z.2), if_neg (fun z => q z.2)]
          rw [e1]
          by_cases c2 : eB n w e m = true ∧ som m = true ∧ m ∉ x :: b
          · have hb : S.testBit m = false := by
              apply Classical.byContradiction
              intro q
              exact c2.2.2 ((h.2.2.2.2 m).mp (by simpa using q))
            rw [if_pos c2, if_pos (show x < m ∧ eB n w e m = true ∧ S.testBit m = false from ⟨c, c2.1, hb⟩), ih g' (S ||| 2 ^ m) m (b ++ [m]) (pth_ext h c c2.1 hb) (by simp; omega) (by simp; omega)]
            omega
          · have h9 : ¬ (x < m ∧ eB n w e m = true ∧ S.testBit m = false) := fun q => c2 ⟨q.2.1, hsom m (by omega), fun z => by rw [(h.2.2.2.2 m).mpr z] at q; cases q.2.2⟩
            rw [if_neg c2, if_neg h9]
            simp
    rw [key n (Nat.le_refl _)]
    have e2 : (if x < n ∧ eB n w e x = true then 1 else 0) = (if eB n w e x = true then 1 else 0) := by
      by_cases q : eB n w e x = true
      · rw [if_pos ⟨hl.2.2.1, q⟩, if_pos q]
      · rw [if_neg (fun z => q z.2), if_neg q]
    rw [e2]
/-! sums over the cells that are still to come -/
def sF (c Q : Nat → Nat) : Nat → Nat
  | 0 => 0
  | d + 1 => c (383 - d) * Q (383 - d) + sF c Q d
def nup (c : Nat → Nat) (a v : Nat) : Nat → Nat := fun k => if k = a then v else c k
theorem sF_out {c Q : Nat → Nat} {a v : Nat} : ∀ d, d ≤ 384 → a < 384 - d → sF (nup c a v) Q d = sF c Q d := by
  intro d
  induction d with
  | zero => intro _ _; rfl
  | succ d ih =>
    intro hd ha
    unfold sF
    rw [ih (by omega) (by omega)]
    unfold nup
    rw [if_neg (by omega)]
theorem sF_up {c Q : Nat → Nat} {a v : Nat} : ∀ d, d ≤ 384 → 384 - d ≤ a → a < 384 → sF (nup c a (c a + v)) Q d = sF c Q d + v * Q a := by
  intro d
  induction d with
  | zero => intro _ h1 h2; omega
  | succ d ih =>
    intro hd h1 h2
    unfold sF
    by_cases e : 383 - d = a
    · rw [sF_out d (by omega) (by omega)]
      unfold nup
      rw [if_pos e, e, Nat.add_mul]
      omega
    · rw [ih (by omega) (by omega) h2]
      unfold nup
      rw [if_neg e]
      omega
theorem sF_ge {c Q : Nat → Nat} {a : Nat} : ∀ d, d ≤ 384 → 384 - d ≤ a → a < 384 → c a * Q a ≤ sF c Q d := by
  intro d
  induction d with
  | zero => intro _ h1 h2; omega
  | succ d ih =>
    intro hd h1 h2
    unfold sF
    by_cases e : 383 - d = a
    · rw [e]; omega
    · have := ih (by omega) (by omega) h2
      omega
theorem sF_0 {c Q : Nat → Nat} : ∀ d, d ≤ 384 → (∀ j, 384 - d ≤ j → j < 384 → c j = 0) → sF c Q d = 0 := by
  intro d
  induction d with
  | zero => intro _ _; rfl
  | succ d ih =>
    intro hd h
    unfold sF
    rw [ih (by omega) (fun j h1 h2 => h j (by omega) h2), h (383 - d) (by omega) (by omega)]
    simp
theorem sF_at {c Q : Nat → Nat} {k : Nat} (hk : k < 384) : sF c Q (384 - k) = c k * Q k + sF c Q (384 - (k + 1)) := by
  rw [show 384 - k = (384 - (k + 1)) + 1 by omega]
  show c (383 - (384 - (k + 1))) * Q (383 - (384 - (k + 1))) + _ = _
  rw [show 383 - (384 - (k + 1)) = k by omega]
/-! one walk taken one departure further -/
abbrev hit (n : Nat) (w : Nat → Int) (S e x m j : Nat) : Prop := j % 6 < m ∧ x < j % 6 ∧ eB n w e (j % 6) = true ∧ S.testBit (j % 6) = false ∧ j / 6 = S ||| 2 ^ (j % 6)
def gC (n : Nat) (w : Nat → Int) (S e x m : Nat) (c : Nat → Nat) (v : Nat) : Nat → Nat := fun j => if hit n w S e x m j then c j + v else c j
def gL (n : Nat) (w : Nat → Int) (S e x m : Nat) (l : Nat → Int) (z : Int) : Nat → Int := fun j => if hit n w S e x m j then max (l j) (z + w (6 * e + j % 6)) else l j
abbrev okt (n : Nat) (w : Nat → Int) (S e x t : Nat) : Prop := x < t ∧ eB n w e t = true ∧ S.testBit t = false
def cel (S t : Nat) : Nat := 6 * (S ||| 2 ^ t) + t
theorem cel_6 {S t : Nat} (ht : t < 6) : cel S t % 6 = t ∧ cel S t / 6 = S ||| 2 ^ t := by unfold cel; omega
section STEP
variable {n : Nat} {w : Nat → Int} {S e x m : Nat}
theorem hit_s (hm : m < 6) (j : Nat) : hit n w S e x (m + 1) j ↔ hit n w S e x m j ∨ (okt n w S e x m ∧ j = cel S m) := by
  have hc := cel_6 (S := S) hm
  constructor
  · rintro ⟨h1, h2, h3, h4, h5⟩
    by_cases q : j % 6 = m
    · right
      rw [q] at h2 h3 h4 h5
      refine ⟨⟨h2, h3, h4⟩, ?_⟩
      unfold cel
      omega
    · exact Or.inl ⟨by omega, h2, h3, h4, h5⟩
  · rintro (⟨h1, h2, h3, h4, h5⟩ | ⟨⟨h1, h2, h3⟩, rfl⟩)
    · exact ⟨by omega, h2, h3, h4, h5⟩
    · refine ⟨?_, ?_, ?_, ?_, ?_⟩
      · rw [hc.1]; omega
      · rw [hc.1]; exact h1
      · rw [hc.1]; exact h2
      · rw [hc.1]; exact h3
      · rw [hc.1]; exact hc.2
theorem hit_no (hm : m < 6) : ¬ hit n w S e x m (cel S m) := fun q => by
  have hc := cel_6 (S := S) hm
  have := q.1
  omega
theorem gC_n (hm : m < 6) (c : Nat → Nat) (v : Nat) (h : ¬ okt n w S e x m) : gC n w S e x (m + 1) c v = gC n w S e x m c v := by
  funext j
  unfold gC
  have := hit_s (n := n) (w := w) (S := S) (e := e) (x := x) hm j
  by_cases q : hit n w S e x m j
  · rw [if_pos q, if_pos (this.mpr (Or.inl q))]
  · rw [if_neg q, if_neg (fun z => (this.mp z).elim q (fun z => h z.1))]
theorem gC_y (hm : m < 6) (c : Nat → Nat) (v : Nat) (h : okt n w S e x m) : gC n w S e x (m + 1) c v = nup (gC n w S e x m c v) (cel S m) (gC n w S e x m c v (cel S m) + v) := by
  funext j
  have h1 := hit_s (n := n) (w := w) (S := S) (e := e) (x := x) hm j
  have h2 := hit_no (n := n) (w := w) (S := S) (e := e) (x := x) hm
  unfold nup
  by_cases q : j = cel S m
  · rw [if_pos q]
    subst q
    unfold gC
    rw [if_neg h2, if_pos (h1.mpr (Or.inr ⟨h, rfl⟩))]
  · rw [if_neg q]
    unfold gC
    by_cases z : hit n w S e x m j
    · rw [if_pos z, if_pos (h1.mpr (Or.inl z))]
    · rw [if_neg z, if_neg (fun y => (h1.mp y).elim z (fun y => q y.2))]
theorem gL_n (hm : m < 6) (l : Nat → Int) (z : Int) (h : ¬ okt n w S e x m) : gL n w S e x (m + 1) l z = gL n w S e x m l z := by
  funext j
  unfold gL
  have := hit_s (n := n) (w := w) (S := S) (e := e) (x := x) hm j
  by_cases q : hit n w S e x m j
  · rw [if_pos q, if_pos (this.mpr (Or.inl q))]
  · rw [if_neg q, if_neg (fun z => (this.mp z).elim q (fun z => h z.1))]
theorem gL_y (hm : m < 6) (l : Nat → Int) (z : Int) (h : okt n w S e x m) : gL n w S e x (m + 1) l z = wup (gL n w S e x m l z) (cel S m) (max (gL n w S e x m l z (cel S m)) (z + w (6 * e + m))) := by
  funext j
  have h1 := hit_s (n := n) (w := w) (S := S) (e := e) (x := x) hm j
  have h2 := hit_no (n := n) (w := w) (S := S) (e := e) (x := x) hm
  unfold wup
  by_cases q : j = cel S m
  · rw [if_pos q]
    subst q
    unfold gL
    rw [if_neg h2, if_pos (h1.mpr (Or.inr ⟨h, rfl⟩)), (cel_6 hm).1]
  · rw [if_neg q]
    unfold gL
    by_cases z : hit n w S e x m j
    · rw [if_pos z, if_pos (h1.mpr (Or.inl z))]
    · rw [if_neg z, if_neg (fun y => (h1.mp y).elim z (fun y => q y.2))]
theorem gC_0 (c : Nat → Nat) (v : Nat) (hm : m ≤ x + 1) : gC n w S e x m c v = c := by
  funext j
  unfold gC
  rw [if_neg (fun q => by have := q.1; have := q.2.1; omega)]
theorem gL_0 (l : Nat → Int) (z : Int) (hm : m ≤ x + 1) : gL n w S e x m l z = l := by
  funext j
  unfold gL
  rw [if_neg (fun q => by have := q.1; have := q.2.1; omega)]
theorem gC_sum (h6 : n ≤ 6) (hS : S < 64) (c Q : Nat → Nat) (v : Nat) {d : Nat} (hd : d ≤ 384) (hlo : ∀ t, t < n → okt n w S e x t → 384 - d ≤ cel S t) : ∀ m, m ≤ n → sF (gC n w S e x m c v) Q d = sF c Q d + v * itr (fun t a => a + (if okt n w S e x t then Q (cel S t) else 0)) m 0 := by
  intro m
  induction m with
  | zero =>
    intro _
    rw [gC_0 c v (by omega)]
    simp [itr]
  | succ m ih =>
    intro hm
    simp only [itr]
    by_cases q : okt n w S e x m
    · have h64 := or_64 hS (show m < 6 by omega)
      rw [gC_y (by omega) c v q, sF_up d hd (hlo m (by omega) q) (by unfold cel; omega), ih (by omega), if_pos q, Nat.mul_add]
      omega
    · rw [gC_n (by omega) c v q, ih (by omega), if_neg q, Nat.add_zero]
end STEP
