/-! the earliest times by a period that is kept -/
theorem j_fill (h : tr_H) (c k : Nat) (v : Int32) (hk : k < 2147483648) : f_J7_fill_53178 c k v h = some (tr_sa h c (fun j => if j < k then v else h.1 c j)) := by
  unfold f_J7_fill_53178
  have e0 : Int32.ofNat k = iI k := (iI_nat k).symm
  rw [e0]
  unfold tr_bd
  dsimp only
  have key := tr_seq (f := fun q => f_J7_fill_53178_L5 (iI k) k c v q.1 q.2) (fun m => (iI m, tr_sa h c (fun j => if j < m then v else h.1 c j))) (lo := 0) (hi := k) (r := tr_sa h c (fun j => if j < k then v else h.1 c j)) (by omega) ?_ ?_
  · have e1 : ((0 : Int32), h) = (iI (0 : Nat), tr_sa h c (fun j => if j < 0 then v else h.1 c j)) := by
      have : (fun j => if j < 0 then v else h.1 c j) = h.1 c := by funext j; simp
      rw [this, tr_sa_self]
      rfl
    rw [e1, key]
    rfl
  · intro m _ hm
    show f_J7_fill_53178_L5 (iI k) k c v (iI m) _ = some (.inl (iI ((m + 1 : Nat)), _))
    unfold f_J7_fill_53178_L5
    simp (disch := omega) only [iI_0, iI_1, iI_2, iI_3, iI_4, iI_5, iI_6, iI_7, iI_8, iI_9, iI_10, iI_11, iI_12, iI_14, iI_20, iI_30, iI_31, iI_36, iI_37, iI_40, iI_48, iI_60, iI_63, iI_64, iI_78, iI_100, iI_255, iI_481, iI_1000000, iI_m1, iI_m2, iI_m3, iI_m4, iI_m9, iI_m1000000, iI_add, iI_sub, iI_mul, iI_neg, iI_lt, iI_le, iI_eq, iI_cl, tr_bd, tr_bn_some, tr_b2_some, tr_gdI, tr_nzI, if_pos, if_neg, ↓reduceIte, Int.toNat_natCast, tr_si, tr_sa_at, tr_sa_sa]
    have e2 : upd (fun j => if j < m then v else h.1 c j) m v = fun j => if j < m + 1 then v else h.1 c j := by
      funext j
      unfold upd
      by_cases e : j = m
      · rw [if_pos e, if_pos (by omega)]
      · rw [if_neg e]
        dsimp only
        by_cases q : j < m
        · rw [if_pos q, if_pos (by omega)]
        · rw [if_neg q, if_neg (by omega)]
    rw [e2]
    rfl
  · show f_J7_fill_53178_L5 (iI k) k c v (iI k) _ = _
    unfold f_J7_fill_53178_L5
    rw [if_pos (Int32.le_refl _)]
/-- one wait laid on the times -/
def rlx (w : Nat → Int) (p : Int) (i j : Nat) (T : Nat → Int) : Nat → Int := if w (6 * i + j) = -9 then T else fun v => if v = j then max (T j) (T i + w (6 * i + j) - p) else T v
def rlr (n : Nat) (w : Nat → Int) (p : Int) (i : Nat) (T : Nat → Int) : Nat → Int := itr (fun j T => rlx w p i j T) n T
def rnd (n : Nat) (w : Nat → Int) (p : Int) (T : Nat → Int) : Nat → Int := itr (fun i T => rlr n w p i T) n T
def TM (n : Nat) (w : Nat → Int) (p : Int) (m : Nat) : Nat → Int := itr (fun _ T => rnd n w p T) m (fun _ => 0)
def cw_ (w : Nat → Int) (p : Int) : Nat → Nat → Int := fun i j => wN w i j - p
section TIMES
variable {n : Nat} {w : Nat → Int} {p : Int}
/-- the period is kept: no ring takes longer -/
def kept (n : Nat) (w : Nat → Int) (p : Int) : Prop := pac n w ≤ 60 * p ∧ 0 ≤ p ∧ p ≤ 20
theorem kept_ring (hw : okn n w) (hk : kept n w p) : ∀ x b, ring (eP (eB n w)) x b → wsm (cw_ w p) x (b ++ [x]) ≤ 0 := by
  intro x b hr
  have e : ∀ (l : List Nat) (u : Nat), wsm (cw_ w p) u l = wsm (wN w) u l - p * l.length := by
    intro l
    induction l with
    | nil => intro u; simp [wsm]
    | cons y l ih =>
      intro u
      simp only [wsm, ih y, cw_, List.length_cons, Int.natCast_add, Int.mul_add]
      omega
  rw [e, List.length_append, List.length_singleton]
  rcases pac_all hw with ⟨-, h2⟩ | ⟨-, -, h3, -⟩
  · exact absurd hr (h2 x b)
  · have h4 := h3 x b hr
    have h5 : pac n w * ((b.length + 1 : Nat) : Int) ≤ 60 * p * ((b.length + 1 : Nat) : Int) := Int.mul_le_mul_of_nonneg_right hk.1 (by omega)
    rw [Int.mul_assoc] at h5
    omega
/-- each time is that of a walk -/
def TW (n : Nat) (w : Nat → Int) (p : Int) (T : Nat → Int) : Prop := (∀ v, v < n → 0 ≤ T v ∧ ∃ u l, u < n ∧ chn (eP (eB n w)) u l ∧ la u l = v ∧ wsm (cw_ w p) u l = T v) ∧ ∀ v, n ≤ v → T v = 0
theorem cwalk9 (hw : okn n w) (hp : 0 ≤ p) : ∀ (l : List Nat) (u : Nat), chn (eP (eB n w)) u l → wsm (cw_ w p) u l ≤ 9 * l.length := by
  intro l
  induction l with
  | nil => intro u _; simp [wsm]
  | cons x l ih =>
    intro u h
    have h1 := eB_nn hw _ _ h.1
    have h2 := ih x h.2
    simp only [wsm, cw_, List.length_cons] at h2 ⊢
    omega
theorem TW_b (hw : okn n w) (hk : kept n w p) {T : Nat → Int} (hT : TW n w p T) (v : Nat) : 0 ≤ T v ∧ T v ≤ 60 := by
  have h6 := hw.2.1
  by_cases hv : v < n
  · obtain ⟨h1, u, l, h2, h3, h4, h5⟩ := hT.1 v hv
    obtain ⟨l', s1, s2, s3, s4, -⟩ := walk_simple u l h3 (fun x b h _ => kept_ring hw hk x b h)
    have h7 := nodup_lt n (u :: l') s1 (chn_mem_lt h2 s2)
    have h8 := cwalk9 hw hk.2.1 l' u s2
    simp only [List.length_cons] at h7
    omega
  · rw [hT.2 v (by omega)]
    omega
theorem TW_rlx (hw : okn n w) {T : Nat → Int} (hT : TW n w p T) {i j : Nat} (hi : i < n) (hj : j < n) : TW n w p (rlx w p i j T) ∧ ∀ v, T v ≤ rlx w p i j T v := by
  unfold rlx
  by_cases c : w (6 * i + j) = -9
  · rw [if_pos c]
    exact ⟨hT, fun v => Int.le_refl _⟩
  · rw [if_neg c]
    refine ⟨⟨fun v hv => ?_, fun v hv => ?_⟩, fun v => ?_⟩
    · dsimp only
      by_cases e : v = j
      · subst e
        rw [if_pos rfl]
        by_cases c2 : T v < T i + w (6 * i + v) - p
        · rw [show max (T v) (T i + w (6 * i + v) - p) = T i + w (6 * i + v) - p by omega]
          obtain ⟨h1, u, l, h2, h3, h4, h5⟩ := hT.1 i hi
          have h0 := (hT.1 v hv).1
          refine ⟨by omega, u, l ++ [v], h2, ?_, by rw [la_app]; rfl, ?_⟩
          · rw [chn_app, h4]
            refine ⟨h3, ?_, trivial⟩
            simp [eP, eB]
            exact ⟨hi, hj, c⟩
          · rw [wsm_app, h4, h5]
            simp only [wsm, cw_, wN]
            omega
        · rw [show max (T v) (T i + w (6 * i + v) - p) = T v by omega]
          exact hT.1 v hv
      · rw [if_neg e]
        exact hT.1 v hv
    · dsimp only
      rw [if_neg (by omega)]
      exact hT.2 v hv
    · split
      · rename_i e; subst e; omega
      · exact Int.le_refl _
theorem TW_rlr (hw : okn n w) {T : Nat → Int} (hT : TW n w p T) {i : Nat} (hi : i < n) : ∀ m, m ≤ n → TW n w p (itr (fun j T => rlx w p i j T) m T) ∧ ∀ v, T v ≤ itr (fun j T => rlx w p i j T) m T v := by
  intro m
  induction m with
  | zero => intro _; exact ⟨hT, fun v => Int.le_refl _⟩
  | succ m ih =>
    intro hm
    have h1 := ih (by omega)
    have h2 := TW_rlx hw h1.1 hi (show m < n by omega)
    exact ⟨h2.1, fun v => Int.le_trans (h1.2 v) (h2.2 v)⟩
theorem TW_rnd (hw : okn n w) {T : Nat → Int} (hT : TW n w p T) : ∀ m, m ≤ n → TW n w p (itr (fun i T => rlr n w p i T) m T) ∧ ∀ v, T v ≤ itr (fun i T => rlr n w p i T) m T v := by
  intro m
  induction m with
  | zero => intro _; exact ⟨hT, fun v => Int.le_refl _⟩
  | succ m ih =>
    intro hm
    have h1 := ih (by omega)
    have h2 := TW_rlr hw h1.1 (show m < n by omega) n (Nat.le_refl _)
    exact ⟨h2.1, fun v => Int.le_trans (h1.2 v) (h2.2 v)⟩
theorem TW_TM (hw : okn n w) : ∀ m, TW n w p (TM n w p m) := by
  intro m
  induction m with
  | zero => exact ⟨fun v hv => ⟨Int.le_refl _, v, [], hv, trivial, rfl, rfl⟩, fun _ _ => rfl⟩
  | succ m ih => exact (TW_rnd hw ih n (Nat.le_refl _)).1
theorem TM_mono (hw : okn n w) (m v : Nat) : TM n w p m v ≤ TM n w p (m + 1) v := (TW_rnd hw (TW_TM hw m) n (Nat.le_refl _)).2 v
/-- a round lays every wait -/
theorem rnd_ge (hw : okn n w) {T : Nat → Int} (hT : TW n w p T) {i j : Nat} (hi : i < n) (hj : j < n) (he : w (6 * i + j) ≠ -9) : T i + w (6 * i + j) - p ≤ rnd n w p T j := by
  have h1 := TW_rnd hw hT i (by omega)
  have h2 := TW_rlr hw h1.1 hi j (by omega)
  have h3 : itr (fun j T => rlx w p i j T) j (itr (fun i T => rlr n w p i T) i T) i + w (6 * i + j) - p ≤ itr (fun j T => rlx w p i j T) (j + 1) (itr (fun i T => rlr n w p i T) i T) j := by
    show _ ≤ rlx w p i j (itr (fun j T => rlx w p i j T) j (itr (fun i T => rlr n w p i T) i T)) j
    unfold rlx
    rw [if_neg he, if_pos rfl]
    omega
  -- the rest of the row, and the rows behind it, take nothing away
  have up1 : ∀ d m, m + d ≤ n → ∀ (S : Nat → Int), TW n w p S → ∀ v, itr (fun j T => rlx w p i j T) m S v ≤ itr (fun j T => rlx w p i j T) (m + d) S v := by
    intro d
    induction d with
    | zero => intro m _ S _ v; exact Int.le_refl _
    | succ d ih =>
      intro m hm S hS v
      have q1 := ih m (by omega) S hS v
      have q2 := (TW_rlx hw (TW_rlr hw hS hi (m + d) (by omega)).1 hi (show m + d < n by omega)).2 v
      exact Int.le_trans q1 q2
  have up2 : ∀ d m, m + d ≤ n → ∀ (S : Nat → Int), TW n w p S → ∀ v, itr (fun i T => rlr n w p i T) m S v ≤ itr (fun i T => rlr n w p i T) (m + d) S v := by
    intro d
    induction d with
    | zero => intro m _ S _ v; exact Int.le_refl _
    | succ d ih =>
      intro m hm S hS v
      have q1 := ih m (by omega) S hS v
      have q2 := (TW_rlr hw (TW_rnd hw hS (m + d) (by omega)).1 (show m + d < n by omega) n (Nat.le_refl _)).2 v
      exact Int.le_trans q1 q2
  have k1 := up1 (n - (j + 1)) (j + 1) (by omega) _ h1.1 j
  rw [show j + 1 + (n - (j + 1)) = n by omega] at k1
  have k2 := up2 (n - (i + 1)) (i + 1) (by omega) _ hT j
  rw [show i + 1 + (n - (i + 1)) = n by omega] at k2
  have k3 := h2.2 i
  have k4 := h1.2 i
  have k5 : itr (fun i T => rlr n w p i T) (i + 1) T j = itr (fun j T => rlx w p i j T) n (itr (fun i T => rlr n w p i T) i T) j := rfl
  unfold rnd
  omega
theorem TM_walk (hw : okn n w) : ∀ (l : List Nat) (u : Nat), u < n → chn (eP (eB n w)) u l → wsm (cw_ w p) u l ≤ TM n w p l.length (la u l) := by
  intro l
  generalize hd : l.length = d
  induction d generalizing l with
  | zero =>
    intro u hu _
    have : l = [] := List.length_eq_zero_iff.mp hd
    subst this
    exact Int.le_refl _
  | succ d ih =>
    intro u hu hc
    have hne : l ≠ [] := fun q => by subst q; simp at hd
    have e := List.dropLast_concat_getLast hne
    generalize l.dropLast = m at e
    generalize l.getLast hne = v at e
    subst e
    obtain ⟨c1, c2, -⟩ := (chn_app _ _ _).mp hc
    have hm : m.length = d := by simp at hd; omega
    have h1 := ih m hm u hu c1
    have hv := eB_b _ _ c2
    have he : w (6 * la u m + v) ≠ -9 := by simp [eP, eB] at c2; exact c2.2.2
    have h2 := rnd_ge (p := p) hw (TW_TM hw d) hv.1 hv.2 he
    rw [wsm_app, la_app]
    simp only [wsm, cw_, wN, la] at h1 ⊢
    show _ ≤ rnd n w p (TM n w p d) v
    omega
theorem TM_up (hw : okn n w) (m d v : Nat) : TM n w p m v ≤ TM n w p (m + d) v := by
  induction d with
  | zero => exact Int.le_refl _
  | succ d ih => exact Int.le_trans ih (TM_mono hw (m + d) v)
/-- so many turns as there are departures are enough -/
theorem TM_all (hw : okn n w) (hk : kept n w p) {u : Nat} {l : List Nat} (hu : u < n) (hc : chn (eP (eB n w)) u l) : wsm (cw_ w p) u l ≤ TM n w p n (la u l) := by
  obtain ⟨l', s1, s2, s3, s4, -⟩ := walk_simple u l hc (fun x b h _ => kept_ring hw hk x b h)
  have h7 := nodup_lt n (u :: l') s1 (chn_mem_lt hu s2)
  simp only [List.length_cons] at h7
  have h8 := TM_walk (p := p) hw l' u hu s2
  have h9 := TM_up (p := p) hw l'.length (n - l'.length) (la u l')
  rw [show l'.length + (n - l'.length) = n by omega, s3] at h9
  rw [s3] at h8
  omega
theorem TM_six (hw : okn n w) (hk : kept n w p) : TM n w p 6 = TM n w p n := by
  have h6 := hw.2.1
  funext v
  have h1 := TM_up (p := p) hw n (6 - n) v
  rw [show n + (6 - n) = 6 by omega] at h1
  by_cases hv : v < n
  · obtain ⟨-, u, l, a1, a2, a3, a4⟩ := (TW_TM (p := p) hw 6).1 v hv
    have h2 := TM_all hw hk a1 a2
    rw [a3, a4] at h2
    omega
  · rw [(TW_TM (p := p) hw 6).2 v (by omega), (TW_TM (p := p) hw n).2 v (by omega)]
/-- what a wait has to spare -/
def spr (n : Nat) (w : Nat → Int) (p : Int) (i j : Nat) : Int := TM n w p n j + p - TM n w p n i - w (6 * i + j)
theorem spr_nn (hw : okn n w) (hk : kept n w p) {i j : Nat} (he : eP (eB n w) i j) : 0 ≤ spr n w p i j ∧ spr n w p i j ≤ 100 := by
  have hij := eB_b i j he
  obtain ⟨-, u, l, a1, a2, a3, a4⟩ := (TW_TM (p := p) hw n).1 i hij.1
  have h2 := TM_all hw hk (u := u) (l := l ++ [j]) a1 (by rw [chn_app, a3]; exact ⟨a2, he, trivial⟩)
  rw [wsm_app, la_app, a3, a4] at h2
  simp only [wsm, cw_, wN, la] at h2
  have b1 := TW_b hw hk (TW_TM (p := p) hw n) i
  have b2 := TW_b hw hk (TW_TM (p := p) hw n) j
  have b3 := eB_nn hw i j he
  have b4 := hk.2
  unfold wN at b3
  unfold spr
  omega
end TIMES
