/-! ===== what is done: rows of bolts made new ===== -/
theorem BZ_upd {g : eS} {a : Nat} {z : Nat → Nat} (h : BZ g a z) (i x : Nat) : BZ (eSA g a (upd (g.2.1 a) i (nI x))) a (upd' z i x) := by
  intro j hj
  simp only [eSA_r, if_true]
  by_cases hji : j = i
  · subst hji; rw [pk_us]; simp [upd']
  · rw [pk_un hji, h j hj]; simp [upd', hji]
theorem upd'_ne (f : Nat → Nat) {k j : Nat} (x : Nat) (h : j ≠ k) : upd' f k x j = f j := by simp [upd', h]
theorem upd'_eq (f : Nat → Nat) (k x : Nat) : upd' f k x k = x := by simp [upd']
/-- a bolt's own numbers are the same -/
def sameB (z z' : Nat → Nat) (b : Nat) : Prop := ∀ j, 1 + b * 14 ≤ j → j < 1 + b * 14 + 14 → z' j = z j
theorem same_cb {d : Lnd} {z z' : Nat → Nat} {b : Nat} (h : sameB z z' b) : ∀ i, i ≤ 12 → cb d z' b i = cb d z b i := by
  intro i
  induction i with
  | zero => intro _; exact h _ (by omega) (by omega)
  | succ i ih =>
    intro hi
    have e : bc z' b i = bc z b i := h _ (by omega) (by omega)
    rw [cb, cb, ih (by omega), e]
theorem same_ok {d : Lnd} {z z' : Nat → Nat} {b : Nat} (h : sameB z z' b) (ho : bf z b < lC d ∧ bl z b ≤ 12 ∧ ∀ i, i < bl z b → bc z b i < 4 ∧ gb d (cb d z b i) (bc z b i) = some (cb d z b (i + 1))) : bf z' b < lC d ∧ bl z' b ≤ 12 ∧ ∀ i, i < bl z' b → bc z' b i < 4 ∧ gb d (cb d z' b i) (bc z' b i) = some (cb d z' b (i + 1)) := by
  have e1 : bf z' b = bf z b := h _ (by omega) (by omega)
  have e2 : bl z' b = bl z b := h _ (by omega) (by omega)
  obtain ⟨h1, h2, h3⟩ := ho
  rw [e1, e2]
  refine ⟨h1, h2, fun i hi => ?_⟩
  have e3 : bc z' b i = bc z b i := h _ (by omega) (by omega)
  rw [e3, same_cb h i (by omega), same_cb h (i + 1) (by omega)]
  exact h3 i hi
/-- a bolt begun -/
def zBeg (z : Nat → Nat) (c : Nat) : Nat → Nat := upd' (upd' (upd' z (1 + z 0 * 14) c) (1 + z 0 * 14 + 1) 0) 0 (z 0 + 1)
theorem okB_beg {d : Lnd} {z : Nat → Nat} (h : okB d z) (h4 : z 0 < 4) {c : Nat} (hc : c < lC d) : okB d (zBeg z c) := by
  have e0 : zBeg z c 0 = z 0 + 1 := upd'_eq _ _ _
  refine ⟨by omega, fun b hb => ?_⟩
  rw [e0] at hb
  by_cases hb2 : b = z 0
  · have f1 : bf (zBeg z c) b = c := by
      unfold bf zBeg
      rw [hb2, upd'_ne _ _ (by omega), upd'_ne _ _ (by omega), upd'_eq]
    have f2 : bl (zBeg z c) b = 0 := by
      unfold bl zBeg
      rw [hb2, upd'_ne _ _ (by omega), upd'_eq]
    rw [f1, f2]
    exact ⟨hc, by omega, fun i hi => by omega⟩
  · refine same_ok (z := z) (fun j h1 h2 => ?_) (h.2 b (by omega))
    unfold zBeg
    rw [upd'_ne _ _ (by omega), upd'_ne _ _ (by omega), upd'_ne _ _ (by omega)]
/-- a card woven -/
def zWea (z : Nat → Nat) (b k : Nat) : Nat → Nat := upd' (upd' z (1 + b * 14 + 2 + bl z b) k) (1 + b * 14 + 1) (bl z b + 1)
theorem okB_wea {d : Lnd} {z : Nat → Nat} (h : okB d z) {b k e : Nat} (hb : b < z 0) (hl : bl z b < 12) (hk : k < 4) (hg : gb d (cb d z b (bl z b)) k = some e) : okB d (zWea z b k) := by
  have h4 := h.1
  have e0 : zWea z b k 0 = z 0 := by unfold zWea; rw [upd'_ne _ _ (by omega), upd'_ne _ _ (by omega)]
  refine ⟨by omega, fun b' hb' => ?_⟩
  rw [e0] at hb'
  by_cases hb2 : b' = b
  · subst hb2
    obtain ⟨h1, h2, h3⟩ := h.2 b' hb
    have f1 : bf (zWea z b' k) b' = bf z b' := by unfold bf zWea; rw [upd'_ne _ _ (by omega), upd'_ne _ _ (by omega)]
    have f2 : bl (zWea z b' k) b' = bl z b' + 1 := by
      show zWea z b' k (1 + b' * 14 + 1) = _
      unfold zWea; rw [upd'_eq]
    have f3 : ∀ i, i < bl z b' → bc (zWea z b' k) b' i = bc z b' i := fun i hi => by
      unfold bc zWea; rw [upd'_ne _ _ (by omega), upd'_ne _ _ (by omega)]
    have f4 : bc (zWea z b' k) b' (bl z b') = k := by
      unfold bc zWea; rw [upd'_ne _ _ (by omega), upd'_eq]
    have f5 : ∀ i, i ≤ bl z b' → cb d (zWea z b' k) b' i = cb d z b' i := by
      intro i
      induction i with
      | zero => intro _; exact f1
      | succ i ih => intro hi; rw [cb, cb, ih (by omega), f3 i (by omega)]
    rw [f1, f2]
    refine ⟨h1, by omega, fun i hi => ?_⟩
    by_cases hi2 : i = bl z b'
    · subst hi2
      rw [f4, f5 _ (Nat.le_refl _)]
      refine ⟨hk, ?_⟩
      rw [cb, f4, f5 _ (Nat.le_refl _), (gb_nb hg).1]
      exact hg
    · rw [f3 i (by omega), f5 i (by omega), f5 (i + 1) (by omega)]
      exact h3 i (by omega)
  · refine same_ok (z := z) (fun j h1 h2 => ?_) (h.2 b' hb')
    unfold zWea
    have hl2 := (h.2 b hb).2.1
    rw [upd'_ne _ _ (by omega), upd'_ne _ _ (by omega)]
/-- rain -/
def frC (d : Lnd) (z : Nat → Nat) (b : Nat) : Bool := decide (0 < bl z b) && !isT d (cb d z b (bl z b))
def zFr (d : Lnd) (z : Nat → Nat) : Nat → Nat → Nat
  | 0 => z
  | k + 1 => if frC d z k then upd' (zFr d z k) (1 + k * 14 + 1) (bl z k - 1) else zFr d z k
def nFr (d : Lnd) (z : Nat → Nat) : Nat → Nat
  | 0 => 0
  | k + 1 => if frC d z k then nFr d z k + 1 else nFr d z k
theorem zFr_same {d : Lnd} {z : Nat → Nat} : ∀ k j, (∀ b, b < k → j ≠ 1 + b * 14 + 1) → zFr d z k j = z j := by
  intro k
  induction k with
  | zero => intro j _; rfl
  | succ k ih =>
    intro j h
    unfold zFr
    split
    · rw [upd'_ne _ _ (h k (by omega))]; exact ih j (fun b hb => h b (by omega))
    · exact ih j (fun b hb => h b (by omega))
theorem zFr_len {d : Lnd} {z : Nat → Nat} : ∀ k b, b < k → zFr d z k (1 + b * 14 + 1) = if frC d z b then bl z b - 1 else bl z b := by
  intro k
  induction k with
  | zero => intro b hb; omega
  | succ k ih =>
    intro b hb
    unfold zFr
    by_cases hbk : b = k
    · subst hbk
      split
      · rw [upd'_eq]
      · rw [zFr_same b _ (fun b' hb' => by omega)]; rfl
    · split
      · rw [upd'_ne _ _ (by omega), ih b (by omega)]
      · exact ih b (by omega)
theorem zFr_own {d : Lnd} {z : Nat → Nat} {k b : Nat} (h : k ≤ b) : sameB z (zFr d z k) b := by
  intro j h1 h2
  exact zFr_same k j (fun b' hb' => by omega)
theorem zFr_cb {d : Lnd} {z : Nat → Nat} (k b : Nat) : ∀ i, i ≤ 12 → cb d (zFr d z k) b i = cb d z b i := by
  intro i
  induction i with
  | zero => intro _; exact zFr_same k _ (fun b' hb' => by omega)
  | succ i ih =>
    intro hi
    have e : bc (zFr d z k) b i = bc z b i := zFr_same k _ (fun b' hb' => by omega)
    rw [cb, cb, ih (by omega), e]
theorem okB_fr {d : Lnd} {z : Nat → Nat} (h : okB d z) : ∀ k, k ≤ z 0 → okB d (zFr d z k) := by
  intro k hk
  have h4 := h.1
  have e0 : zFr d z k 0 = z 0 := zFr_same k 0 (fun b' hb' => by omega)
  refine ⟨by omega, fun b hb => ?_⟩
  rw [e0] at hb
  obtain ⟨h1, h2, h3⟩ := h.2 b hb
  by_cases hbk : b < k
  · have f1 : bf (zFr d z k) b = bf z b := zFr_same k _ (fun b' hb' => by omega)
    have f2 : bl (zFr d z k) b ≤ bl z b := by
      show zFr d z k (1 + b * 14 + 1) ≤ _
      rw [zFr_len k b hbk]; split <;> omega
    have f3 : ∀ i, i < 12 → bc (zFr d z k) b i = bc z b i := fun i hi => zFr_same k _ (fun b' hb' => by omega)
    rw [f1]
    refine ⟨h1, by omega, fun i hi => ?_⟩
    rw [f3 i (by omega), zFr_cb k b i (by omega), zFr_cb k b (i + 1) (by omega)]
    exact h3 i (by omega)
  · exact same_ok (zFr_own (by omega)) ⟨h1, h2, h3⟩
theorem frC_own {d : Lnd} {z : Nat → Nat} {k : Nat} (h : okB d z) (hk : k < z 0) : bl (zFr d z k) k = bl z k ∧ cb d (zFr d z k) k (bl z k) = cb d z k (bl z k) := by
  have e1 : bl (zFr d z k) k = bl z k := zFr_own (Nat.le_refl k) _ (by omega) (by omega)
  exact ⟨e1, zFr_cb k k _ (h.2 k hk).2.1⟩
/-! turned about -/
def opp (k : Nat) : Nat := (k + 2) % 4
set_option maxRecDepth 100000 in
theorem nb_fin : ∀ (W : Fin 6) (D : Fin 5) (c : Fin 20) (k : Fin 4), (2 ≤ W.val ∧ 2 ≤ D.val ∧ c.val < W.val * D.val) → (nb W.val D.val c.val k.val).all (fun e => nb W.val D.val e (opp k.val) == some c.val) = true := by decide +kernel
theorem nb_opp {d : Lnd} (hd : okL d) {c k e : Nat} (hc : c < lC d) (h : nb (lW d) (lD d) c k = some e) : nb (lW d) (lD d) e (opp k) = some c := by
  have hC := okL_C hd
  have hk := (nb_lt hd.1.1 hc h).2
  have := nb_fin ⟨lW d, by have := hd.1.2; omega⟩ ⟨lD d, by have := hd.2.1.2; omega⟩ ⟨c, by omega⟩ ⟨k, hk⟩ ⟨hd.1.1, hd.2.1.1, hc⟩
  dsimp only at this
  rw [h] at this
  exact eq_of_beq this
theorem gb_opp {d : Lnd} (hd : okL d) {c k e : Nat} (hc : c < lC d) (h : gb d c k = some e) : gb d e (opp k) = some c := by
  obtain ⟨h1, h2⟩ := gb_nb h
  unfold gb
  rw [nb_opp hd hc h1]
  dsimp only
  rw [ad_comm, if_pos h2]
theorem opp_lt (k : Nat) : opp k < 4 := Nat.mod_lt _ (by decide)
/-- the cards' places i < k and those from n - k on are turned -/
def zTu (z : Nat → Nat) (b n e k : Nat) : Nat → Nat := fun j => if j = 1 + b * 14 then e else if 1 + b * 14 + 2 ≤ j ∧ j < 1 + b * 14 + 2 + n ∧ (j < 1 + b * 14 + 2 + k ∨ 1 + b * 14 + 2 + n ≤ j + k) then opp (z (1 + b * 14 + 2 + (1 + b * 14 + 2 + n - 1 - j))) else z j
def zTurn (d : Lnd) (z : Nat → Nat) (b : Nat) : Nat → Nat := zTu z b (bl z b) (cb d z b (bl z b)) (bl z b)
theorem zTurn_card {d : Lnd} {z : Nat → Nat} {b i : Nat} (hi : i < bl z b) : bc (zTurn d z b) b i = opp (bc z b (bl z b - 1 - i)) := by
  unfold bc zTurn zTu
  rw [if_neg (by omega), if_pos ⟨by omega, by omega, Or.inl (by omega)⟩]
  congr 2
  omega
theorem okB_turn {d : Lnd} (hd : okL d) {z : Nat → Nat} (h : okB d z) {b : Nat} (hb : b < z 0) : okB d (zTurn d z b) := by
  have h4 := h.1
  have e0 : zTurn d z b 0 = z 0 := by unfold zTurn zTu; rw [if_neg (by omega), if_neg (by omega)]
  refine ⟨by omega, fun b' hb' => ?_⟩
  rw [e0] at hb'
  obtain ⟨h1, h2, h3⟩ := h.2 b hb
  by_cases hb2 : b' = b
  · subst hb2
    have f1 : bf (zTurn d z b') b' = cb d z b' (bl z b') := by unfold bf zTurn zTu; rw [if_pos rfl]
    have f2 : bl (zTurn d z b') b' = bl z b' := by
      show zTurn d z b' (1 + b' * 14 + 1) = z (1 + b' * 14 + 1)
      unfold zTurn zTu; rw [if_neg (by omega), if_neg (by omega)]
    have f3 : ∀ i, i ≤ bl z b' → cb d (zTurn d z b') b' i = cb d z b' (bl z b' - i) := by
      intro i
      induction i with
      | zero => intro _; exact f1
      | succ i ih =>
        intro hi
        have c1 := okB_cb hd h hb (bl z b' - 1 - i) (by omega)
        have c2 := nb_opp hd c1 (okB_nb h hb (show bl z b' - 1 - i < bl z b' by omega))
        rw [cb, ih (by omega), zTurn_card (by omega)]
        rw [show bl z b' - 1 - i + 1 = bl z b' - i by omega] at c2
        rw [c2, Option.getD_some]
        congr 1
        omega
    rw [f1, f2]
    refine ⟨okB_cb hd h hb _ (Nat.le_refl _), h2, fun i hi => ?_⟩
    rw [zTurn_card hi, f3 i (by omega), f3 (i + 1) (by omega)]
    refine ⟨opp_lt _, ?_⟩
    have c1 := okB_cb hd h hb (bl z b' - 1 - i) (by omega)
    have c2 := gb_opp hd c1 (h3 (bl z b' - 1 - i) (by omega)).2
    rw [show bl z b' - 1 - i + 1 = bl z b' - i by omega] at c2
    rw [c2]
    congr 2
    omega
  · refine same_ok (z := z) (fun j h5 h6 => ?_) (h.2 b' hb')
    unfold zTurn zTu
    rw [if_neg (by omega), if_neg (by omega)]
