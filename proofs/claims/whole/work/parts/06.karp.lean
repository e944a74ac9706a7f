/-! the slowest ring by tables of walks -/
theorem ex_max (f : Nat → Int) (p : Nat → Prop) : ∀ n : Nat, (∃ k, k < n ∧ p k) → ∃ k0, k0 < n ∧ p k0 ∧ ∀ k, k < n → p k → f k ≤ f k0 := by
  intro n
  induction n with
  | zero => rintro ⟨k, h, -⟩; omega
  | succ n ih =>
    rintro ⟨k, hk, hp⟩
    by_cases he : ∃ k, k < n ∧ p k
    · obtain ⟨k0, h1, h2, h3⟩ := ih he
      by_cases hn : p n ∧ f k0 < f n
      · refine ⟨n, by omega, hn.1, fun j hj hpj => ?_⟩
        by_cases hjn : j = n
        · subst hjn; exact Int.le_refl _
        · have := h3 j (by omega) hpj
          omega
      · refine ⟨k0, by omega, h2, fun j hj hpj => ?_⟩
        by_cases hjn : j = n
        · subst hjn
          rcases Int.lt_or_le (f k0) (f j) with q | q
          · exact absurd ⟨hpj, q⟩ hn
          · exact q
        · exact h3 j (by omega) hpj
    · have hkn : k = n := by
        apply Classical.byContradiction
        intro hne
        exact he ⟨k, by omega, hp⟩
      subst hkn
      refine ⟨k, by omega, hp, fun j hj hpj => ?_⟩
      by_cases hjn : j = k
      · subst hjn; exact Int.le_refl _
      · exact absurd ⟨j, by omega, hpj⟩ he
theorem chn_lt {ed : Nat → Nat → Prop} {n : Nat} (hb : ∀ i j, ed i j → i < n ∧ j < n) : ∀ (l : List Nat) (u : Nat), chn ed u l → ∀ y ∈ l, y < n := by
  intro l
  induction l with
  | nil => intro u _ y hy; cases hy
  | cons x l ih =>
    intro u h y hy
    rcases List.mem_cons.mp hy with e | e
    · subst e; exact (hb _ _ h.1).2
    · exact ih x h.2 y e
theorem wsm_red (w : Nat → Nat → Int) (P : Int) : ∀ (l : List Nat) (u : Nat), wsm (fun i j => 60 * w i j - P) u l = 60 * wsm w u l - P * l.length := by
  intro l
  induction l with
  | nil => intro u; simp [wsm]
  | cons x l ih =>
    intro u
    simp only [wsm, ih x, List.length_cons, Int.natCast_add, Int.mul_add]
    omega
theorem wsm_nn {ed : Nat → Nat → Prop} {w : Nat → Nat → Int} (hw : ∀ i j, ed i j → 0 ≤ w i j) : ∀ (l : List Nat) (u : Nat), chn ed u l → 0 ≤ wsm w u l := by
  intro l
  induction l with
  | nil => intro u _; simp [wsm]
  | cons x l ih =>
    intro u h
    have h1 := hw _ _ h.1
    have h2 := ih x h.2
    simp only [wsm]
    omega
/-- what the rows of the tables are -/
def rowsOf (ed : Nat → Nat → Prop) (w : Nat → Nat → Int) (n : Nat) (R : Nat → Nat → Int) : Prop :=
  (∀ k v, k ≤ n → v < n → 0 ≤ R k v → ∃ u l, u < n ∧ l.length = k ∧ chn ed u l ∧ la u l = v ∧ wsm w u l = R k v) ∧
  ∀ u l, u < n → l.length ≤ n → chn ed u l → wsm w u l ≤ R l.length (la u l)
section KARP
variable {ed : Nat → Nat → Prop} {w : Nat → Nat → Int} {n : Nat} {R : Nat → Nat → Int} {P : Int}
theorem karp_suf (hb : ∀ i j, ed i j → i < n ∧ j < n) (hw : ∀ i j, ed i j → 0 ≤ w i j) (hR : rowsOf ed w n R) {v : Nat} (hv : v < n) (h : 0 ≤ R n v) : ∀ k, k ≤ n → 0 ≤ R k v := by
  intro k hk
  obtain ⟨u, l, h1, h2, h3, h4, h5⟩ := hR.1 n v (Nat.le_refl _) hv h
  have e := List.take_append_drop (n - k) l
  have h6 : chn ed u (l.take (n - k) ++ l.drop (n - k)) := by rw [e]; exact h3
  obtain ⟨g1, g2⟩ := (chn_app _ _ _).mp h6
  have h7 : la (la u (l.take (n - k))) (l.drop (n - k)) = v := by rw [← la_app, e]; exact h4
  have h8 : (l.drop (n - k)).length = k := by rw [List.length_drop]; omega
  have h9 : la u (l.take (n - k)) < n := by
    rcases List.mem_cons.mp (la_mem u (l.take (n - k))) with q | q
    · rw [q]; exact h1
    · exact chn_lt hb _ _ g1 _ q
  have := hR.2 _ (l.drop (n - k)) h9 (by omega) g2
  rw [h7, h8] at this
  have h10 := wsm_nn hw _ _ g2
  omega
theorem karp_cut (hb : ∀ i j, ed i j → i < n ∧ j < n) (hR : rowsOf ed w n R) {v : Nat} (hv : v < n) (h : 0 ≤ R n v) : ∃ x b k, ring ed x b ∧ k < n ∧ k + (b.length + 1) = n ∧ R n v ≤ R k v + wsm w x (b ++ [x]) := by
  obtain ⟨u, l, h1, h2, h3, h4, h5⟩ := hR.1 n v (Nat.le_refl _) hv h
  have hnd : ¬ (u :: l).Nodup := by
    intro hn
    have := nodup_lt n (u :: l) hn (fun y hy => by
      rcases List.mem_cons.mp hy with q | q
      · rw [q]; exact h1
      · exact chn_lt hb _ _ h3 _ q)
    simp only [List.length_cons] at this
    omega
  obtain ⟨x, b, l', r1, r2, r3, r4, r5, r6, r7⟩ := walk_cut w l u h3 hnd
  refine ⟨x, b, l'.length, r1, by omega, by omega, ?_⟩
  have := hR.2 u l' h1 (by omega) r2
  rw [r3, h4] at this
  omega
theorem karp_le (hb : ∀ i j, ed i j → i < n ∧ j < n) (hR : rowsOf ed w n R) (hP : ∀ x b, ring ed x b → 60 * wsm w x (b ++ [x]) ≤ P * (b.length + 1 : Nat)) {v : Nat} (hv : v < n) (h : 0 ≤ R n v) : ∃ k, k < n ∧ 60 * (R n v - R k v) ≤ P * (n - k : Nat) := by
  obtain ⟨x, b, k, r1, r2, r3, r4⟩ := karp_cut hb hR hv h
  refine ⟨k, r2, ?_⟩
  have h1 := hP x b r1
  rw [show n - k = b.length + 1 by omega]
  omega
theorem flat_rep (x : Nat) (z : List Nat) (hz : chn ed x z) (hl : la x z = x) (hw0 : wsm (fun i j => 60 * w i j - P) x z = 0) : ∀ t : Nat, chn ed x (List.replicate t z).flatten ∧ la x (List.replicate t z).flatten = x ∧ wsm (fun i j => 60 * w i j - P) x (List.replicate t z).flatten = 0 ∧ (List.replicate t z).flatten.length = t * z.length := by
  intro t
  induction t with
  | zero => simp [chn, la, wsm]
  | succ t ih =>
    obtain ⟨i1, i2, i3, i4⟩ := ih
    rw [List.replicate_succ, List.flatten_cons]
    refine ⟨?_, ?_, ?_, ?_⟩
    · rw [chn_app, hl]; exact ⟨hz, i1⟩
    · rw [la_app, hl]; exact i2
    · rw [wsm_app, hl, hw0, i3]; rfl
    · rw [List.length_append, i4, Nat.succ_mul]; omega
theorem karp_ge (hb : ∀ i j, ed i j → i < n ∧ j < n) (hw : ∀ i j, ed i j → 0 ≤ w i j) (hR : rowsOf ed w n R) (hP : ∀ x b, ring ed x b → 60 * wsm w x (b ++ [x]) ≤ P * (b.length + 1 : Nat)) {x0 : Nat} {b0 : List Nat} (h0 : ring ed x0 b0) (hc : 60 * wsm w x0 (b0 ++ [x0]) = P * (b0.length + 1 : Nat)) : ∃ v, v < n ∧ 0 ≤ R n v ∧ ∀ k, k < n → P * (n - k : Nat) ≤ 60 * (R n v - R k v) := by
  have hz : chn ed x0 (b0 ++ [x0]) := h0.2
  have hx0 : x0 < n := chn_lt hb _ _ hz x0 (by simp)
  have hlz : la x0 (b0 ++ [x0]) = x0 := by rw [la_app]; rfl
  have hwz : wsm (fun i j => 60 * w i j - P) x0 (b0 ++ [x0]) = 0 := by
    rw [wsm_red, List.length_append, List.length_singleton]; omega
  have hred : ∀ x b, ring ed x b → wsm (fun i j => 60 * w i j - P) x (b ++ [x]) ≤ 0 := by
    intro x b h
    have := hP x b h
    rw [wsm_red, List.length_append, List.length_singleton]; omega
  have hR0 : 0 ≤ R 0 x0 := by
    have := hR.2 x0 [] hx0 (by simp) trivial
    simpa [wsm, la] using this
  obtain ⟨k0, k1, k2, k3⟩ := ex_max (fun k => 60 * R k x0 - P * k) (fun k => 0 ≤ R k x0) n ⟨0, by omega, hR0⟩
  -- every walk that ends at x0
  have hall : ∀ u l, u < n → chn ed u l → la u l = x0 → wsm (fun i j => 60 * w i j - P) u l ≤ 60 * R k0 x0 - P * k0 := by
    intro u l hu hl1 hl2
    obtain ⟨l', s1, s2, s3, s4, -⟩ := walk_simple u l hl1 (fun x b h _ => hred x b h)
    have hlen := nodup_lt n (u :: l') s1 (fun y hy => by
      rcases List.mem_cons.mp hy with q | q
      · rw [q]; exact hu
      · exact chn_lt hb _ _ s2 _ q)
    simp only [List.length_cons] at hlen
    have h1 := hR.2 u l' hu (by omega) s2
    rw [s3, hl2] at h1
    have h2 := wsm_nn hw _ _ s2
    have h3 := k3 l'.length (by omega) (by omega)
    rw [wsm_red] at s4 ⊢
    have h4 := wsm_red w P l' u
    rw [h4] at s4
    omega
  obtain ⟨u0, q0, a1, a2, a3, a4, a5⟩ := hR.1 k0 x0 (by omega) hx0 k2
  obtain ⟨f1, f2, f3, f4⟩ := flat_rep (P := P) (w := w) x0 (b0 ++ [x0]) hz hlz hwz n
  generalize hzt : (List.replicate n (b0 ++ [x0])).flatten = zt at f1 f2 f3 f4
  have hzl : n ≤ zt.length := by
    rw [f4, List.length_append, List.length_singleton]
    exact Nat.le_mul_of_pos_right n (by omega)
  have e := List.take_append_drop (n - k0) zt
  have g0 : chn ed x0 (zt.take (n - k0) ++ zt.drop (n - k0)) := by rw [e]; exact f1
  obtain ⟨g1, g2⟩ := (chn_app _ _ _).mp g0
  have g3 : la (la x0 (zt.take (n - k0))) (zt.drop (n - k0)) = x0 := by rw [← la_app, e]; exact f2
  have g4 : wsm (fun i j => 60 * w i j - P) x0 (zt.take (n - k0)) + wsm (fun i j => 60 * w i j - P) (la x0 (zt.take (n - k0))) (zt.drop (n - k0)) = 0 := by rw [← wsm_app, e]; exact f3
  generalize hv : la x0 (zt.take (n - k0)) = v at g2 g3 g4
  have g5 : (zt.take (n - k0)).length = n - k0 := by rw [List.length_take]; omega
  have hvn : v < n := by
    rw [← hv]
    rcases List.mem_cons.mp (la_mem x0 (zt.take (n - k0))) with q | q
    · rw [q]; exact hx0
    · exact chn_lt hb _ _ g1 _ q
  have hq : chn ed u0 (q0 ++ zt.take (n - k0)) := by rw [chn_app, a4]; exact ⟨a3, g1⟩
  have hql : (q0 ++ zt.take (n - k0)).length = n := by rw [List.length_append, a2, g5]; omega
  have hqv : la u0 (q0 ++ zt.take (n - k0)) = v := by rw [la_app, a4]; exact hv
  have hqm := hR.2 u0 _ a1 (by omega) hq
  rw [hqv, hql] at hqm
  have hqw : wsm w u0 (q0 ++ zt.take (n - k0)) = R k0 x0 + wsm w x0 (zt.take (n - k0)) := by rw [wsm_app, a4, a5]
  rw [hqw] at hqm
  have hs1 := wsm_red w P (zt.take (n - k0)) x0
  rw [hs1, g5] at g4
  have hnn := wsm_nn hw _ _ g1
  refine ⟨v, hvn, by omega, fun k hk => ?_⟩
  have hkk : 0 ≤ R k v := karp_suf hb hw hR hvn (by omega) k (by omega)
  obtain ⟨u1, q1, b1, b2, b3, b4, b5⟩ := hR.1 k v (by omega) hvn hkk
  have c1 := hall u1 (q1 ++ zt.drop (n - k0)) b1 (by rw [chn_app, b4]; exact ⟨b3, g2⟩) (by rw [la_app, b4]; exact g3)
  rw [wsm_app, b4] at c1
  have c2 := wsm_red w P q1 u1
  rw [c2, b2, b5] at c1
  have e1 : (n - k : Nat) = (n : Int) - (k : Int) := by omega
  have e2 : (n - k0 : Nat) = (n : Int) - (k0 : Int) := by omega
  rw [e1, Int.mul_sub]
  rw [e2, Int.mul_sub] at g4
  omega
end KARP
