/-! a ring is closed in the reference -/
def gl (x : Nat) (l : List Nat) (k : Nat) : Nat := (x :: l).getD k 0
theorem gl_s (x : Nat) (l : List Nat) (k : Nat) (hk : k < l.length) : gl x l (k + 1) = l[k] := by
  unfold gl
  simp [hk]
theorem take_snoc (x : Nat) (l : List Nat) (m : Nat) (hm : m < l.length) : l.take (m + 1) = l.take m ++ [gl x l (m + 1)] := by
  rw [gl_s x l m hm, List.take_succ, List.getElem?_eq_getElem hm]
  rfl
theorem la_take (x : Nat) (l : List Nat) : ∀ m, m ≤ l.length → la x (l.take m) = gl x l m := by
  intro m hm
  cases m with
  | zero => simp [la, gl]
  | succ m =>
    rw [take_snoc x l m (by omega), la_app]
    rfl
theorem wsm_take (w : Nat → Int) (x : Nat) (l : List Nat) : ∀ m, m ≤ l.length → itr (fun k a => a + w (6 * gl x l k + gl x l (k + 1))) m 0 = wsm (wN w) x (l.take m) := by
  intro m
  induction m with
  | zero => intro _; simp [itr, wsm]
  | succ m ih =>
    intro hm
    rw [take_snoc x l m (by omega), wsm_app, la_take x l m (by omega)]
    simp only [itr]
    rw [ih (by omega)]
    simp [wsm, wN]
theorem edg_take (x : Nat) (l : List Nat) (p : Nat × Nat) : ∀ m, m ≤ l.length → (p ∈ edg x (l.take m) ↔ ∃ k, k < m ∧ p = (gl x l k, gl x l (k + 1))) := by
  intro m
  induction m with
  | zero => intro _; simp [edg]
  | succ m ih =>
    intro hm
    rw [take_snoc x l m (by omega), edg_app, la_take x l m (by omega), List.mem_append, ih (by omega)]
    constructor
    · rintro (⟨k, h1, h2⟩ | h)
      · exact ⟨k, by omega, h2⟩
      · simp [edg] at h
        exact ⟨m, by omega, h⟩
    · rintro ⟨k, h1, h2⟩
      by_cases e : k = m
      · subst e
        right
        simp [edg, h2]
      · left
        exact ⟨k, by omega, h2⟩
theorem itr_or (f : Nat → Nat) (j : Nat) : ∀ m, ((itr (fun k a => a ||| 2 ^ f k) m 0).testBit j = true ↔ ∃ k, k < m ∧ j = f k) := by
  intro m
  induction m with
  | zero => simp [itr]
  | succ m ih =>
    simp only [itr]
    rw [Nat.testBit_or, Bool.or_eq_true, ih, Nat.testBit_two_pow]
    constructor
    · rintro (⟨k, h1, h2⟩ | h)
      · exact ⟨k, by omega, h2⟩
      · exact ⟨m, by omega, (of_decide_eq_true h).symm⟩
    · rintro ⟨k, h1, h2⟩
      by_cases e : k = m
      · subst e; right; simp [h2]
      · left; exact ⟨k, by omega, h2⟩
/-- the sum of a ring's minutes -/
def sm (w : Nat → Int) (q : Nat × List Nat) : Int := wsm (wN w) q.1 (q.2 ++ [q.1])
def hasE (q : Nat × List Nat) (k : Nat) : Prop := ∃ p ∈ edg q.1 (q.2 ++ [q.1]), k = 6 * p.1 + p.2
/-- what the reference has noted of the rings so far -/
def rF (h : tr_H) (w : Nat → Int) (A : List (Nat × List Nat)) : Prop :=
  h.1 0 17 = iI A.length ∧ ∃ (S B : Int) (rw cw cd : Nat), h.1 0 18 = iI S ∧ h.1 0 19 = iI B ∧ h.2 0 20 = lN cw ∧ h.1 0 21 = nI cd ∧ h.2 0 22 = lN rw ∧ (0 ≤ S ∧ S ≤ 60 ∧ 0 ≤ B ∧ B ≤ 6) ∧
    (∀ k, rw.testBit k = true ↔ ∃ q ∈ A, hasE q k) ∧
    ((A = [] ∧ B = 0 ∧ cw = 0 ∧ cd = 0) ∨ (1 ≤ B ∧ (∃ q ∈ A, sm w q = S ∧ (q.2.length + 1 : Nat) = B) ∧ (∀ q ∈ A, sm w q * B ≤ S * (q.2.length + 1 : Nat)) ∧
      (∀ k, cw.testBit k = true ↔ ∃ q ∈ A, sm w q * B = S * (q.2.length + 1 : Nat) ∧ hasE q k) ∧ (∀ k, cd.testBit k = true ↔ ∃ q ∈ A, sm w q * B = S * (q.2.length + 1 : Nat) ∧ k ∈ q.1 :: q.2)))
def mC (h h' : tr_H) : Prop := (∀ c, c ≠ 0 → h'.1 c = h.1 c) ∧ (∀ k, k ≠ 17 → k ≠ 18 → k ≠ 19 → k ≠ 21 → h'.1 0 k = h.1 0 k) ∧ ∀ c k, ¬ (c = 0 ∧ (k = 20 ∨ k = 22)) → h'.2 c k = h.2 c k
theorem mem_snoc {α : Type} {P : α → Prop} {A : List α} {a : α} : (∃ q ∈ A ++ [a], P q) ↔ (∃ q ∈ A, P q) ∨ P a := by
  constructor
  · rintro ⟨q, h1, h2⟩
    rcases List.mem_append.mp h1 with h | h
    · exact Or.inl ⟨q, h, h2⟩
    · rw [List.mem_singleton] at h; subst h; exact Or.inr h2
  · rintro (⟨q, h1, h2⟩ | h)
    · exact ⟨q, by simp [h1], h2⟩
    · exact ⟨a, by simp, h⟩
/-- the loop over the ring -/
theorem r_closeL {h : tr_H} {p n : Nat} {w : Nat → Int} (hP : tP h p n w) {x : Nat} {b : List Nat} (hr : ring (eP (eB n w)) x b) (hrow : ∀ k, k ≤ b.length → h.1 11 k = iI (gl x b k)) :
    tr_lp (fun q => f_X8_closeRing_L11 (iI (b.length + 1 : Nat)) h p q.1 q.2.1 q.2.2.1 q.2.2.2) (0, 0, 0, 0) = some (iI (sm w (x, b)), lN (itr (fun k a => a ||| 2 ^ (6 * gl x (b ++ [x]) k + gl x (b ++ [x]) (k + 1))) (b.length + 1) 0), nI (itr (fun k a => a ||| 2 ^ gl x b k) (b.length + 1) 0)) := by
  have h6 := hP.2.1.2.1
  have hlen := ring_len hr
  have hlt := ring_lt hr
  have hg : ∀ k, k ≤ b.length → gl x (b ++ [x]) k = gl x b k := by
    intro k hk
    unfold gl
    rw [show x :: (b ++ [x]) = (x :: b) ++ [x] from rfl, List.getD_eq_getElem?_getD, List.getD_eq_getElem?_getD, List.getElem?_append_left (by simp; omega)]
  have hgl : gl x (b ++ [x]) (b.length + 1) = x := by
    rw [gl_s _ _ _ (by simp)]
    simp
  have hglt : ∀ k, k ≤ b.length → gl x b k < 6 := by
    intro k hk
    have : gl x b k ∈ x :: b := by
      unfold gl
      rw [List.getD_eq_getElem?_getD, List.getElem?_eq_getElem (by simp; omega)]
      exact List.getElem_mem _
    have := hlt _ this
    omega
  have hgx : gl x b 0 = x := rfl
  have hx6 : x < 6 := by have := hlt x (by simp); omega
  have hmod : ∀ k, k < b.length + 1 → ((k : Int) + 1) % ((b.length + 1 : Nat) : Int) = if k = b.length then 0 else (k : Int) + 1 := by
    intro k hk
    by_cases e : k = b.length
    · rw [if_pos e, e]
      exact Int.emod_self
    · rw [if_neg e]
      exact Int.emod_eq_of_lt (by omega) (by omega)
  have hto : ∀ k, k < b.length + 1 → h.1 11 (if k = b.length then 0 else k + 1) = iI (gl x (b ++ [x]) (k + 1)) := by
    intro k hk
    by_cases e : k = b.length
    · rw [if_pos e, e, hgl]
      exact hrow 0 (by omega)
    · rw [if_neg e, hg (k + 1) (by omega)]
      exact hrow (k + 1) (by omega)
  have htolt : ∀ k, k < b.length + 1 → gl x (b ++ [x]) (k + 1) < 6 := by
    intro k hk
    by_cases e : k = b.length
    · rw [e, hgl]; exact hx6
    · rw [hg (k + 1) (by omega)]
      exact hglt _ (by omega)
  have hedge : ∀ k, k < b.length + 1 → w (6 * gl x b k + gl x (b ++ [x]) (k + 1)) ≠ -9 := by
    intro k hk
    have h1 : (gl x (b ++ [x]) k, gl x (b ++ [x]) (k + 1)) ∈ edg x (b ++ [x]) := by
      have := (edg_take x (b ++ [x]) (gl x (b ++ [x]) k, gl x (b ++ [x]) (k + 1)) (b.length + 1) (by simp)).mpr ⟨k, hk, rfl⟩
      rw [List.take_of_length_le (by simp)] at this
      exact this
    have h2 := (edg_chn _ _ hr.2 _ h1).1
    rw [hg k (by omega)] at h2
    simp [eP, eB] at h2
    exact h2.2.2
  have hsum : sm w (x, b) = itr (fun k a => a + w (6 * gl x (b ++ [x]) k + gl x (b ++ [x]) (k + 1))) (b.length + 1) 0 := by
    rw [wsm_take w x (b ++ [x]) (b.length + 1) (by simp), List.take_of_length_le (by simp)]
    rfl
  rw [hsum]
  refine tr_seq (f := fun q => f_X8_closeRing_L11 (iI (b.length + 1 : Nat)) h p q.1 q.2.1 q.2.2.1 q.2.2.2) (fun m => (iI (itr (fun k a => a + w (6 * gl x (b ++ [x]) k + gl x (b ++ [x]) (k + 1))) m 0), lN (itr (fun k a => a ||| 2 ^ (6 * gl x (b ++ [x]) k + gl x (b ++ [x]) (k + 1))) m 0), nI (itr (fun k a => a ||| 2 ^ gl x b k) m 0), iI m)) (lo := 0) (hi := b.length + 1) (by omega) ?_ ?_
  · intro k _ hk
    have a1 := hrow k (by omega)
    have a2 := hto k hk
    have a3 := hglt k (by omega)
    have a4 := htolt k hk
    have a5 := hedge k hk
    have a6 := r_minutesOf hP a3 a4
    have a7 := (cvn_b hP.2.1 (c := 6 * gl x b k + gl x (b ++ [x]) (k + 1)) (by omega)).2.2.2 a5
    rw [a7, show w (6 * gl x b k + gl x (b ++ [x]) (k + 1)) + 1 - 1 = w (6 * gl x b k + gl x (b ++ [x]) (k + 1)) by omega] at a6
    have a8 := hmod k hk
    have a9 := iI_rem (a := (k : Int) + 1) (b := ((b.length + 1 : Nat) : Int)) (by omega) (by omega) (by omega) (by omega)
    rw [a8] at a9
    have a10 : (if k = b.length then (0 : Int) else (k : Int) + 1).toNat = if k = b.length then 0 else k + 1 := by
      by_cases e : k = b.length
      · rw [if_pos e, if_pos e]; rfl
      · rw [if_neg e, if_neg e]; omega
    have a11 : 0 ≤ (if k = b.length then (0 : Int) else (k : Int) + 1) ∧ (if k = b.length then (0 : Int) else (k : Int) + 1) < 6 := by
      by_cases e : k = b.length
      · rw [if_pos e]; omega
      · rw [if_neg e]; omega
    generalize (if k = b.length then (0 : Int) else (k : Int) + 1) = md at a9 a10 a11
    show f_X8_closeRing_L11 (iI (b.length + 1 : Nat)) h p _ _ _ (iI k) = some (.inl (_, _, _, iI ((k + 1 : Nat))))
    simp only [itr]
    rw [hg k (by omega)]
    generalize itr (fun k a => a + w (6 * gl x (b ++ [x]) k + gl x (b ++ [x]) (k + 1))) k 0 = s1
    generalize itr (fun k a => a ||| 2 ^ (6 * gl x (b ++ [x]) k + gl x (b ++ [x]) (k + 1))) k 0 = s2
    generalize itr (fun k a => a ||| 2 ^ gl x b k) k 0 = s3
    unfold f_X8_closeRing_L11
    rw [if_neg (by rw [iI_le (by omega) (by omega) (by omega) (by omega)]; omega), tr_nzI (by omega) (by omega) (by omega)]
    rw [show iI (k : Int) + 1 = iI ((k : Int) + 1) by rw [iI_1, iI_add], a9]
    obtain ⟨m1, m2⟩ := a11
    simp (disch := omega) only [tr_bd, tr_bn_some, tr_gdI, iI_cl, a10, a2, a1, a6, Int.toNat_natCast]
    rw [iI_add, iI_6, iI_mul, iI_add, shl32 _ a3, nI_or]
    rw [show (6 * ((gl x b k : Nat) : Int) + ((gl x (b ++ [x]) (k + 1) : Nat) : Int)) = ((6 * gl x b k + gl x (b ++ [x]) (k + 1) : Nat) : Int) by omega, shl64 (by omega), lN_or]
    rfl
  · show f_X8_closeRing_L11 (iI (b.length + 1 : Nat)) h p _ _ _ (iI (b.length + 1 : Nat)) = _
    unfold f_X8_closeRing_L11
    rw [if_pos (by rw [iI_le (by omega) (by omega) (by omega) (by omega)]; omega)]
