/-! ===== shortest ways over any graph with four cards a cell ===== -/
theorem pigeon : ∀ (n m : Nat) (f : Nat → Nat), (∀ i, i < m → f i < n) → (∀ i j, i < m → j < m → f i = f j → i = j) → m ≤ n := by
  intro n
  induction n with
  | zero =>
    intro m f h1 _
    rcases Nat.eq_zero_or_pos m with h | h
    · omega
    · exact absurd (h1 0 h) (Nat.not_lt_zero _)
  | succ n ih =>
    intro m f h1 h2
    rcases Nat.eq_zero_or_pos m with h | h
    · omega
    · by_cases hn : ∃ i, i < m ∧ f i = n
      · obtain ⟨i, hi, hfi⟩ := hn
        have := ih (m - 1) (fun j => if j < i then f j else f (j + 1)) ?_ ?_
        · omega
        · intro j hj
          split
          next hji =>
            have a := h1 j (by omega)
            have b : f j ≠ n := fun q => by have := h2 j i (by omega) hi (q.trans hfi.symm); omega
            omega
          next hji =>
            have a := h1 (j + 1) (by omega)
            have b : f (j + 1) ≠ n := fun q => by have := h2 (j + 1) i (by omega) hi (q.trans hfi.symm); omega
            omega
        · intro j k hj hk hq
          split at hq <;> split at hq
          · exact h2 j k (by omega) (by omega) hq
          · have := h2 j (k + 1) (by omega) (by omega) hq; omega
          · have := h2 (j + 1) k (by omega) (by omega) hq; omega
          · have := h2 (j + 1) (k + 1) (by omega) (by omega) hq; omega
      · have := ih m f (fun i hi => by
          have a := h1 i hi
          have b : f i ≠ n := fun q => hn ⟨i, hi, q⟩
          omega) h2
        omega
abbrev Gr : Type := Nat → Nat → Option (Nat × Nat)
def okG (n : Nat) (ed : Gr) : Prop := ∀ c k e w, c < n → k < 4 → ed c k = some (e, w) → e < n
def jk (ed : Gr) (t : Nat → Nat) (x m : Nat) : Nat := match ed (m / 4) (m % 4) with
  | none => t x
  | some (e, w) => if e = x then t (m / 4) + w else t x
def jm (ed : Gr) (t : Nat → Nat) (x : Nat) : Nat → Nat
  | 0 => t x
  | m + 1 => min (jm ed t x m) (jk ed t x m)
def Bd (ed : Gr) (n : Nat) (t0 : Nat → Nat) : Nat → Nat → Nat
  | 0 => t0
  | r + 1 => fun x => jm ed (Bd ed n t0 r) x (4 * n)
theorem jm_le (ed : Gr) (t : Nat → Nat) (x : Nat) : ∀ m, jm ed t x m ≤ t x := by
  intro m
  induction m with
  | zero => exact Nat.le_refl _
  | succ m ih => rw [jm]; exact Nat.le_trans (Nat.min_le_left _ _) ih
theorem jm_ed {ed : Gr} {t : Nat → Nat} {x c k w : Nat} (h : ed c k = some (x, w)) (hk : k < 4) : ∀ m, 4 * c + k < m → jm ed t x m ≤ t c + w := by
  intro m
  induction m with
  | zero => intro q; exact absurd q (Nat.not_lt_zero _)
  | succ m ih =>
    intro q
    rw [jm]
    by_cases hm : 4 * c + k = m
    · refine Nat.le_trans (Nat.min_le_right _ _) ?_
      unfold jk
      rw [show m / 4 = c by omega, show m % 4 = k by omega, h]
      dsimp only
      rw [if_pos rfl]
      exact Nat.le_refl _
    · exact Nat.le_trans (Nat.min_le_left _ _) (ih (by omega))
theorem jm_or (ed : Gr) (t : Nat → Nat) (x : Nat) : ∀ m, jm ed t x m = t x ∨ ∃ c k w, 4 * c + k < m ∧ k < 4 ∧ ed c k = some (x, w) ∧ jm ed t x m = t c + w := by
  intro m
  induction m with
  | zero => exact Or.inl rfl
  | succ m ih =>
    rw [jm]
    have hle := jm_le ed t x m
    by_cases hj : jm ed t x m ≤ jk ed t x m
    · rw [Nat.min_eq_left hj]
      rcases ih with h | ⟨c, k, w, h1, h2, h3, h4⟩
      · exact Or.inl h
      · exact Or.inr ⟨c, k, w, by omega, h2, h3, h4⟩
    · rw [Nat.min_eq_right (by omega)]
      have hc : ∀ v, jk ed t x m = v → (v = t x ∨ ∃ c k w, 4 * c + k < m + 1 ∧ k < 4 ∧ ed c k = some (x, w) ∧ v = t c + w) := by
        intro v hv
        unfold jk at hv
        split at hv
        next => exact Or.inl hv.symm
        next e w he =>
          split at hv
          next hex =>
            rw [hex] at he
            exact Or.inr ⟨m / 4, m % 4, w, by omega, by omega, he, hv.symm⟩
          next => exact Or.inl hv.symm
      exact hc _ rfl
section BD
variable {ed : Gr} {n : Nat} {t0 : Nat → Nat}
theorem Bd_dn (r x : Nat) : Bd ed n t0 (r + 1) x ≤ Bd ed n t0 r x := jm_le ed _ x _
theorem Bd_mono {r s : Nat} (h : r ≤ s) (x : Nat) : Bd ed n t0 s x ≤ Bd ed n t0 r x := by
  induction s with
  | zero => rw [show r = 0 by omega]; exact Nat.le_refl _
  | succ s ih =>
    by_cases hs : r = s + 1
    · rw [hs]; exact Nat.le_refl _
    · exact Nat.le_trans (Bd_dn s x) (ih (by omega))
theorem Bd_ed {r c k x w : Nat} (hc : c < n) (hk : k < 4) (h : ed c k = some (x, w)) : Bd ed n t0 (r + 1) x ≤ Bd ed n t0 r c + w := jm_ed h hk _ (by omega)
theorem Bd_or (r x : Nat) : Bd ed n t0 (r + 1) x = Bd ed n t0 r x ∨ ∃ c k w, c < n ∧ k < 4 ∧ ed c k = some (x, w) ∧ Bd ed n t0 (r + 1) x = Bd ed n t0 r c + w := by
  rcases jm_or ed (Bd ed n t0 r) x (4 * n) with h | ⟨c, k, w, h1, h2, h3, h4⟩
  · exact Or.inl h
  · exact Or.inr ⟨c, k, w, by omega, h2, h3, h4⟩
theorem Bd_chain : ∀ r x, x < n → Bd ed n t0 (r + 1) x < Bd ed n t0 r x → ∃ f : Nat → Nat, (∀ i, i ≤ r + 1 → f i < n) ∧ f (r + 1) = x ∧ ∀ i, i ≤ r → Bd ed n t0 i (f i) ≤ Bd ed n t0 (i + 1) (f (i + 1)) ∧ Bd ed n t0 (i + 1) (f (i + 1)) < Bd ed n t0 i (f (i + 1)) := by
  intro r
  induction r with
  | zero =>
    intro x hx hi
    rcases Bd_or (ed := ed) (n := n) (t0 := t0) 0 x with h | ⟨c, k, w, h1, h2, h3, h4⟩
    · omega
    · refine ⟨fun i => if i = 0 then c else x, ?_, rfl, ?_⟩
      · intro i _; dsimp only; split <;> assumption
      · intro i hi0
        have : i = 0 := by omega
        subst this
        dsimp only
        rw [if_pos rfl, if_neg (by omega)]
        exact ⟨by omega, hi⟩
  | succ r ih =>
    intro x hx hi
    rcases Bd_or (ed := ed) (n := n) (t0 := t0) (r + 1) x with h | ⟨c, k, w, h1, h2, h3, h4⟩
    · omega
    · have a := Bd_ed (t0 := t0) (r := r) h1 h2 h3
      obtain ⟨f, f1, f2, f3⟩ := ih c h1 (by omega)
      refine ⟨fun i => if i = r + 2 then x else f i, ?_, if_pos rfl, ?_⟩
      · intro i hi2
        dsimp only
        split
        · exact hx
        · exact f1 i (by omega)
      · intro i hi2
        dsimp only
        by_cases h5 : i = r + 1
        · subst h5
          rw [if_neg (by omega), if_pos rfl, f2]
          exact ⟨by omega, hi⟩
        · rw [if_neg (by omega), if_neg (by omega)]
          exact f3 i (by omega)
theorem Bd_stop {r x : Nat} (hx : x < n) (hr : n ≤ r + 1) : Bd ed n t0 (r + 1) x = Bd ed n t0 r x := by
  have hd := Bd_dn (ed := ed) (n := n) (t0 := t0) r x
  by_cases h : Bd ed n t0 (r + 1) x < Bd ed n t0 r x
  · obtain ⟨f, f1, f2, f3⟩ := Bd_chain r x hx h
    have up : ∀ i j, i ≤ j → j ≤ r + 1 → Bd ed n t0 i (f i) ≤ Bd ed n t0 j (f j) := by
      intro i j
      induction j with
      | zero => intro h1 _; rw [show i = 0 by omega]; exact Nat.le_refl _
      | succ j ih =>
        intro h1 h2
        by_cases hj : i = j + 1
        · rw [hj]; exact Nat.le_refl _
        · exact Nat.le_trans (ih (by omega) (by omega)) (f3 j (by omega)).1
    have df : ∀ i j, i < j → j ≤ r + 1 → f i ≠ f j := by
      intro i j hij hj hq
      have a := up i j (by omega) hj
      have b := (f3 (j - 1) (by omega)).2
      rw [show j - 1 + 1 = j by omega] at b
      have c := Bd_mono (ed := ed) (n := n) (t0 := t0) (show i ≤ j - 1 by omega) (f j)
      rw [hq] at a
      omega
    have := pigeon n (r + 2) f (fun i hi => f1 i (by omega)) (fun i j hi hj hq => by
      rcases Nat.lt_trichotomy i j with h1 | h1 | h1
      · exact absurd hq (df i j h1 (by omega))
      · exact h1
      · exact absurd hq.symm (df j i h1 (by omega)))
    omega
  · omega
theorem Bd_stable {r s x : Nat} (hx : x < n) (hr : n ≤ r + 1) (hs : n ≤ s + 1) : Bd ed n t0 r x = Bd ed n t0 s x := by
  have key : ∀ k, Bd ed n t0 (n - 1 + k) x = Bd ed n t0 (n - 1) x := by
    intro k
    induction k with
    | zero => rfl
    | succ k ih => rw [show n - 1 + (k + 1) = n - 1 + k + 1 by omega, Bd_stop hx (by omega), ih]
  have a := key (r - (n - 1))
  have b := key (s - (n - 1))
  rw [show n - 1 + (r - (n - 1)) = r by omega] at a
  rw [show n - 1 + (s - (n - 1)) = s by omega] at b
  rw [a, b]
theorem Bd_fix {r c k x w : Nat} (hx : x < n) (hr : n ≤ r + 1) (hc : c < n) (hk : k < 4) (h : ed c k = some (x, w)) : Bd ed n t0 r x ≤ Bd ed n t0 r c + w := by
  rw [← Bd_stop hx hr]
  exact Bd_ed hc hk h
end BD
/-! relaxing in place -/
def relx (ed : Gr) (t : Nat → Nat) (m x : Nat) : Nat := match ed (m / 4) (m % 4) with
  | none => t x
  | some (e, w) => if x = e then min (t e) (t (m / 4) + w) else t x
def rlx (ed : Gr) (t : Nat → Nat) : Nat → Nat → Nat
  | 0 => t
  | m + 1 => relx ed (rlx ed t m) m
def rnds (ed : Gr) (n : Nat) (t : Nat → Nat) : Nat → Nat → Nat
  | 0 => t
  | r + 1 => rlx ed (rnds ed n t r) (4 * n)
theorem relx_le (ed : Gr) (t : Nat → Nat) (m x : Nat) : relx ed t m x ≤ t x := by
  unfold relx
  split
  next => exact Nat.le_refl _
  next e w he =>
    split
    next h => rw [h]; exact Nat.min_le_left _ _
    next => exact Nat.le_refl _
theorem rlx_mono (ed : Gr) (t : Nat → Nat) (x : Nat) : ∀ m m', m ≤ m' → rlx ed t m' x ≤ rlx ed t m x := by
  intro m m'
  induction m' with
  | zero => intro h; rw [show m = 0 by omega]; exact Nat.le_refl _
  | succ k ih =>
    intro h
    by_cases hk : m = k + 1
    · rw [hk]; exact Nat.le_refl _
    · exact Nat.le_trans (relx_le ed _ k x) (ih (by omega))
theorem rlx_ed {ed : Gr} {t : Nat → Nat} {c k x w m : Nat} (h : ed c k = some (x, w)) (hk : k < 4) (hm : 4 * c + k < m) : rlx ed t m x ≤ t c + w := by
  refine Nat.le_trans (rlx_mono ed t x (4 * c + k + 1) m (by omega)) ?_
  rw [rlx, relx, show (4 * c + k) / 4 = c by omega, show (4 * c + k) % 4 = k by omega, h]
  dsimp only
  rw [if_pos rfl]
  have := rlx_mono ed t c 0 (4 * c + k) (by omega)
  rw [show rlx ed t 0 = t from rfl] at this
  have h2 := Nat.min_le_right (rlx ed t (4 * c + k) x) (rlx ed t (4 * c + k) c + w)
  omega
theorem rlx_ge {ed : Gr} {n : Nat} {D t : Nat → Nat} (hG : okG n ed) (hf : ∀ c k x w, c < n → k < 4 → ed c k = some (x, w) → D x ≤ D c + w) (ht : ∀ x, x < n → D x ≤ t x) : ∀ m, m ≤ 4 * n → ∀ x, x < n → D x ≤ rlx ed t m x := by
  intro m
  induction m with
  | zero => intro _; exact ht
  | succ m ih =>
    intro hm x hx
    have i1 := ih (by omega)
    rw [rlx, relx]
    split
    next => exact i1 x hx
    next e w he =>
      split
      next h =>
        subst h
        have a := i1 x hx
        have b := i1 (m / 4) (by omega)
        have c := hf _ _ _ _ (show m / 4 < n by omega) (show m % 4 < 4 by omega) he
        exact Nat.le_min.mpr ⟨a, by omega⟩
      next => exact i1 x hx
theorem rnds_le {ed : Gr} {n : Nat} {t : Nat → Nat} : ∀ r x, rnds ed n t r x ≤ Bd ed n t r x := by
  intro r
  induction r with
  | zero => intro x; exact Nat.le_refl _
  | succ r ih =>
    intro x
    rcases Bd_or (ed := ed) (n := n) (t0 := t) r x with h | ⟨c, k, w, h1, h2, h3, h4⟩
    · rw [h, rnds]
      exact Nat.le_trans (rlx_mono ed _ x 0 _ (by omega)) (ih x)
    · rw [h4, rnds]
      exact Nat.le_trans (rlx_ed h3 h2 (by omega)) (Nat.add_le_add_right (ih c) w)
theorem rnds_ge {ed : Gr} {n : Nat} {D t : Nat → Nat} (hG : okG n ed) (hf : ∀ c k x w, c < n → k < 4 → ed c k = some (x, w) → D x ≤ D c + w) (ht : ∀ x, x < n → D x ≤ t x) : ∀ r x, x < n → D x ≤ rnds ed n t r x := by
  intro r
  induction r with
  | zero => exact ht
  | succ r ih => exact rlx_ge hG hf ih (4 * n) (Nat.le_refl _)
/-- as many rounds as cells, less one, find the least ways -/
theorem rnds_eq {ed : Gr} {n : Nat} {t : Nat → Nat} (hG : okG n ed) {r s x : Nat} (hx : x < n) (hr : n ≤ r + 1) (hs : n ≤ s + 1) : rnds ed n t r x = Bd ed n t s x := by
  have a := rnds_le (ed := ed) (n := n) (t := t) r x
  have b := rnds_ge (D := Bd ed n t s) hG (fun c k y w hc hk h => Bd_fix (hG c k y w hc hk h) hs hc hk h) (t := t) (fun y _ => Bd_mono (ed := ed) (n := n) (t0 := t) (Nat.zero_le s) y) r x hx
  rw [Bd_stable hx hr hs] at a
  omega
