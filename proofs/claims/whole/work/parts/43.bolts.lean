/-! ===== bolts ===== -/
def bf (z : Nat → Nat) (b : Nat) : Nat := z (1 + b * 14)
def bl (z : Nat → Nat) (b : Nat) : Nat := z (1 + b * 14 + 1)
def bc (z : Nat → Nat) (b i : Nat) : Nat := z (1 + b * 14 + 2 + i)
def BZ (g : eS) (a : Nat) (z : Nat → Nat) : Prop := ∀ i, i < 57 → g.2.1 a i = nI (z i)
def cb (d : Lnd) (z : Nat → Nat) (b : Nat) : Nat → Nat
  | 0 => bf z b
  | i + 1 => (nb (lW d) (lD d) (cb d z b i) (bc z b i)).getD 0
def okB (d : Lnd) (z : Nat → Nat) : Prop := z 0 ≤ 4 ∧ ∀ b, b < z 0 → bf z b < lC d ∧ bl z b ≤ 12 ∧ ∀ i, i < bl z b → bc z b i < 4 ∧ gb d (cb d z b i) (bc z b i) = some (cb d z b (i + 1))
theorem okB_cb {d : Lnd} (hd : okL d) {z : Nat → Nat} (h : okB d z) {b : Nat} (hb : b < z 0) : ∀ i, i ≤ bl z b → cb d z b i < lC d := by
  intro i
  obtain ⟨h1, h2, h3⟩ := h.2 b hb
  induction i with
  | zero => intro _; exact h1
  | succ i ih => intro hi; exact (gb_lt hd (ih (by omega)) (h3 i (by omega)).2).1
theorem okB_nb {d : Lnd} {z : Nat → Nat} (h : okB d z) {b i : Nat} (hb : b < z 0) (hi : i < bl z b) : nb (lW d) (lD d) (cb d z b i) (bc z b i) = some (cb d z b (i + 1)) := (gb_nb ((h.2 b hb).2.2 i hi).2).1
def isBo (B ro a : Nat) : Prop := (B = 14 ∧ ro = 15 ∧ a = 16) ∨ (B = 33 ∧ ro = 34 ∧ a = 35)
theorem isBo_row {B ro a : Nat} (h : isBo B ro a) : RowOf ro a 57 := by
  rcases h with ⟨rfl, rfl, rfl⟩ | ⟨rfl, rfl, rfl⟩
  · exact r15
  · exact r34
theorem isBo_O {B ro a : Nat} (h : isBo B ro a) (g : eS) : eO (eE g) B 0 = true ∧ eGR (eE g) B 0 0 = some 1 ∧ eGR (eE g) B 0 1 = some ro := by
  rcases h with ⟨rfl, rfl, rfl⟩ | ⟨rfl, rfl, rfl⟩ <;> simp only [tO, tR, and_self]
theorem row_get0 {o a n : Nat} (h : RowOf o a n) (g : eS) (hn : 0 < n) : fX7_get o 0 (eE g) = some (g.2.1 a 0, eE g) := row_getN h g hn
theorem row_put0 {o a n : Nat} (h : RowOf o a n) (g : eS) (hn : 0 < n) (x : Int32) : fX7_put o 0 x (eE g) = some (eE (eSA g a (upd (g.2.1 a) 0 x))) := row_putN h g hn x
theorem pl_c (b : Nat) : (1 : Int32) + nI b * 14 = nI (1 + b * 14) := by
  show nI 1 + nI b * nI 14 = _
  rw [pk_mul, nI_add]
theorem pl_m (b : Nat) : (1 : Int32) + 14 * nI b = nI (1 + b * 14) := by
  show nI 1 + nI 14 * nI b = _
  rw [pk_mul, nI_add, Nat.mul_comm]
theorem nI_p0 (a : Nat) : nI a + 0 = nI a := nI_add a 0
theorem nI_p2 (a : Nat) : nI a + 2 = nI (a + 2) := nI_add a 2
def CS (g : eS) (a : Nat) (d : Lnd) (z : Nat → Nat) : Prop := CL g 1 3 5 d ∧ okL d ∧ BZ g a z ∧ okB d z
def MS (g : eS) (a : Nat) (d : Lnd) (z : Nat → Nat) : Prop := ML g d ∧ okL d ∧ BZ g a z ∧ okB d z
theorem g1 : isG 1 3 5 := Or.inl ⟨rfl, rfl, rfl⟩
section BOL
variable {g : eS} {B ro a : Nat} {d : Lnd} {z : Nat → Nat}
theorem c_size (hB : isBo B ro a) (hz : BZ g a z) : fX0_size B (eE g) = some (nI (z 0), eE g) := by
  obtain ⟨o1, o2, o3⟩ := isBo_O hB g
  rw [fX0_size, o1, cond_true, fX0_size_0, o3, bis, row_get0 (isBo_row hB) g (by decide), b2s, hz 0 (by decide)]
theorem c_has (hB : isBo B ro a) (hz : BZ g a z) (h4 : z 0 ≤ 4) {b : Nat} (hb : b < z 0) : fX0_has B (nI b) (eE g) = some (1, eE g) := by
  obtain ⟨o1, o2, o3⟩ := isBo_O hB g
  rw [fX0_has, o1, cond_true, fX0_has_0, if_neg (nI_pos (by omega)), c_size hB hz, b2s, if_neg (nI_ge hb (by omega)), eZ_1, bis]
theorem c_hasNo (hB : isBo B ro a) (hz : BZ g a z) {x : Int32} (hx : x < 0 ∨ nI (z 0) ≤ x) : fX0_has B x (eE g) = some (0, eE g) := by
  obtain ⟨o1, o2, o3⟩ := isBo_O hB g
  by_cases h0 : x < 0
  · rw [fX0_has, o1, cond_true, fX0_has_0, if_pos h0, fX0_has_16, eZ_0, bis]
  · rw [fX0_has, o1, cond_true, fX0_has_0, if_neg h0, c_size hB hz, b2s, if_pos (hx.resolve_left h0), fX0_has_16, eZ_0, bis]
theorem c_first (hB : isBo B ro a) (hz : BZ g a z) {b : Nat} (hb : b < 4) : fX0_firstCell B (nI b) (eE g) = some (nI (bf z b), eE g) := by
  obtain ⟨o1, o2, o3⟩ := isBo_O hB g
  rw [fX0_firstCell, o1, cond_true, fX0_firstCell_0, o3, bis, fX0_placeOf, fX0_placeOf_0, b2s, pl_c, nI_p0, row_getN (isBo_row hB) g (by omega), b2s, hz _ (by omega)]
  rfl
theorem c_len (hB : isBo B ro a) (hz : BZ g a z) {b : Nat} (hb : b < 4) : fX0_length B (nI b) (eE g) = some (nI (bl z b), eE g) := by
  obtain ⟨o1, o2, o3⟩ := isBo_O hB g
  rw [fX0_length, o1, cond_true, fX0_length_0, o3, bis, fX0_placeOf, fX0_placeOf_0, b2s, pl_c, nI_1, row_getN (isBo_row hB) g (by omega), b2s, hz _ (by omega)]
  rfl
theorem c_card (hB : isBo B ro a) (hz : BZ g a z) {b i : Nat} (hb : b < 4) (hi : i < 12) : fX0_cardAt B (nI b) (nI i) (eE g) = some (nI (bc z b i), eE g) := by
  obtain ⟨o1, o2, o3⟩ := isBo_O hB g
  rw [fX0_cardAt, o1, cond_true, fX0_cardAt_0, o3, bis, fX0_placeOf, fX0_placeOf_0, b2s, pl_c, nI_p2, nI_add, row_getN (isBo_row hB) g (by omega), b2s, hz _ (by omega)]
  rfl
theorem c_behind (hB : isBo B ro a) (hS : CS g a d z) {b i : Nat} (hb : b < z 0) (hi : i ≤ bl z b) : fX0_cellBehind B (nI b) (nI i) (eE g) = some (nI (cb d z b i), eE g) := by
  obtain ⟨hL, hd, hz, ho⟩ := hS
  obtain ⟨o1, o2, o3⟩ := isBo_O hB g
  have hb4 : b < 4 := by have := ho.1; omega
  have hl12 := (ho.2 b hb).2.1
  rw [fX0_cellBehind, o1, cond_true, fX0_cellBehind_0, c_first hB hz hb4, b2s]
  have key : ∀ (fu k : Nat), k ≤ i → i - k < fu → fX0_cellBehind_9 fu B (nI b) (nI i) (nI (cb d z b k)) (nI k) (eE g) = some (nI (cb d z b i), eE g) := by
    intro fu
    induction fu with
    | zero => intro k h1 h2; omega
    | succ fu ih =>
      intro k h1 h2
      rw [fX0_cellBehind_9]
      by_cases hk : k = i
      · subst hk
        rw [if_pos (nI_le (Nat.le_refl _) (by omega))]
      · have hk2 : k < bl z b := by omega
        rw [if_neg (nI_ge (show k < i by omega) (by omega)), o2, bis, c_card hB hz hb4 (by omega), b2s, c_neighbour g1 hL hd (okB_cb hd ho hb k (by omega)) ((ho.2 b hb).2.2 k hk2).1, b2s, okB_nb ho hb hk2, oM1, nI_1]
        exact ih (k + 1) (by omega) (by omega)
  exact key eN 0 (by omega) (by rw [eN_eq]; omega)
theorem c_last (hB : isBo B ro a) (hS : CS g a d z) {b : Nat} (hb : b < z 0) : fX0_lastCell B (nI b) (eE g) = some (nI (cb d z b (bl z b)), eE g) := by
  obtain ⟨o1, o2, o3⟩ := isBo_O hB g
  rw [fX0_lastCell, o1, cond_true, fX0_lastCell_0, c_len hB hS.2.2.1 (by have := hS.2.2.2.1; omega), b2s, c_behind hB hS hb (Nat.le_refl _), b2s]
/-! the model's -/
def isMa (a : Nat) : Prop := a = 43 ∨ a = 44
theorem isMa_ar {a : Nat} (h : isMa a) : eAr sh0 a = some (false, 57) := by rcases h with rfl | rfl <;> rfl
theorem q_first (ha : isMa a) (hz : BZ g a z) {b : Nat} (hb : b < 4) : fX11_firstOf a (nI b) (eE g) = some (nI (bf z b), eE g) := by
  rw [fX11_firstOf, fX11_firstOf_0, pl_m, ld g (isMa_ar ha) (by decide) (by omega), bis, hz _ (by omega)]
  rfl
theorem q_len (ha : isMa a) (hz : BZ g a z) {b : Nat} (hb : b < 4) : fX11_cardsOf a (nI b) (eE g) = some (nI (bl z b), eE g) := by
  rw [fX11_cardsOf, fX11_cardsOf_0, pl_m, nI_1, ld g (isMa_ar ha) (by decide) (by omega), bis, hz _ (by omega)]
  rfl
theorem q_card (ha : isMa a) (hz : BZ g a z) {b i : Nat} (hb : b < 4) (hi : i < 12) : fX11_cardAt a (nI b) (nI i) (eE g) = some (nI (bc z b i), eE g) := by
  rw [fX11_cardAt, fX11_cardAt_0, pl_m, nI_p2, nI_add, ld g (isMa_ar ha) (by decide) (by omega), bis, hz _ (by omega)]
  rfl
theorem q_behind (ha : isMa a) (hS : MS g a d z) {b i : Nat} (hb : b < z 0) (hi : i ≤ bl z b) : fX11_behind 38 a (nI b) (nI i) (eE g) = some (nI (cb d z b i), eE g) := by
  obtain ⟨hL, hd, hz, ho⟩ := hS
  have hb4 : b < 4 := by have := ho.1; omega
  have hl12 := (ho.2 b hb).2.1
  simp only [fX11_behind, tO, cond_true, fX11_behind_0, q_first ha hz hb4, b2s]
  have key : ∀ (fu k : Nat), k ≤ i → i - k < fu → fX11_behind_10 fu 38 a (nI b) (nI i) (nI (cb d z b k)) (nI k) (eE g) = some (nI (cb d z b i), eE g) := by
    intro fu
    induction fu with
    | zero => intro k h1 h2; omega
    | succ fu ih =>
      intro k h1 h2
      rw [fX11_behind_10]
      by_cases hk : k = i
      · subst hk
        rw [if_pos (nI_le (Nat.le_refl _) (by omega))]
      · have hk2 : k < bl z b := by omega
        rw [if_neg (nI_ge (show k < i by omega) (by omega)), q_card ha hz hb4 (by omega), b2s, q_leads hL hd (okB_cb hd ho hb k (by omega)) ((ho.2 b hb).2.2 k hk2).1, b2s, okB_nb ho hb hk2, oM9, nI_1]
        exact ih (k + 1) (by omega) (by omega)
  exact key eN 0 (by omega) (by rw [eN_eq]; omega)
theorem q_end (ha : isMa a) (hS : MS g a d z) {b : Nat} (hb : b < z 0) : fX11_endOf 38 a (nI b) (eE g) = some (nI (cb d z b (bl z b)), eE g) := by
  simp only [fX11_endOf, tO, cond_true, fX11_endOf_0, q_len ha hS.2.2.1 (show b < 4 by have := hS.2.2.2.1; omega), b2s, q_behind ha hS hb (Nat.le_refl _)]
theorem q_isB (hz : BZ g 43 z) (h4 : z 0 ≤ 4) {b : Nat} (hb : b < z 0) : fX11_isBolt 38 (nI b) (eE g) = some (1, eE g) := by
  simp only [fX11_isBolt, tO, cond_true, fX11_isBolt_0, tR, tK, bis, hz 0 (by decide), m_inN hb (show z 0 < 2 ^ 30 by omega), b2s, eZ_1]
theorem q_isBNo (hz : BZ g 43 z) (h4 : z 0 ≤ 4) {x : Int32} (hx : x < 0 ∨ nI (z 0) ≤ x) : fX11_isBolt 38 x (eE g) = some (0, eE g) := by
  simp only [fX11_isBolt, tO, cond_true, fX11_isBolt_0, tR, tK, bis, hz 0 (by decide), m_inO hx (show z 0 < 2 ^ 30 by omega), b2s, eZ_0]
end BOL
/-! how much a bolt goes up -/
def upS (d : Lnd) (z : Nat → Nat) (b : Nat) : Nat → Nat
  | 0 => 0
  | i + 1 => upS d z b i + (lH d (cb d z b (i + 1)) - lH d (cb d z b i))
theorem up_fin : ∀ a b : Fin 10, (if nI b.val - nI a.val < 0 then 0 else nI b.val - nI a.val) = nI (b.val - a.val) := by decide +kernel
theorem up_fin2 : ∀ a b : Fin 10, (if nI b.val ≤ nI a.val then 0 else nI b.val - nI a.val) = nI (b.val - a.val) := by decide +kernel
section BOL2
variable {g : eS} {B ro a : Nat} {d : Lnd} {z : Nat → Nat}
theorem c_climb (hB : isBo B ro a) (hS : CS g a d z) {b : Nat} (hb : b < z 0) : fX0_climb B (nI b) (eE g) = some (nI (upS d z b (bl z b)), eE g) := by
  have hS' := hS
  obtain ⟨hL, hd, hz, ho⟩ := hS
  obtain ⟨o1, o2, o3⟩ := isBo_O hB g
  have hC := okL_C hd
  have hb4 : b < 4 := by have := ho.1; omega
  have hl12 := (ho.2 b hb).2.1
  rw [fX0_climb, o1, cond_true, fX0_climb_0, c_first hB hz hb4, b2s]
  have key : ∀ (fu k : Nat), k ≤ bl z b → bl z b - k < fu → fX0_climb_11 fu B (nI b) (nI (upS d z b k)) (nI (cb d z b k)) (nI k) (eE g) = some (nI (upS d z b (bl z b)), eE g) := by
    intro fu
    induction fu with
    | zero => intro k h1 h2; omega
    | succ fu ih =>
      intro k h1 h2
      rw [fX0_climb_11, c_len hB hz hb4, b2s]
      by_cases hk : k = bl z b
      · subst hk
        rw [if_pos (nI_le (Nat.le_refl _) (by omega))]
      · have hk2 : k < bl z b := by omega
        have c1 := okB_cb hd ho hb k (by omega)
        have c2 := okB_cb hd ho hb (k + 1) (by omega)
        have hH := hd.2.2.2.2.1
        have h3 := up_fin ⟨lH d (cb d z b k), by have := hH (cb d z b k); omega⟩ ⟨lH d (cb d z b (k + 1)), by have := hH (cb d z b (k + 1)); omega⟩
        rw [if_neg (nI_ge hk2 (by omega)), o2, bis, c_card hB hz hb4 (by omega), b2s, c_neighbour g1 hL hd c1 ((ho.2 b hb).2.2 k hk2).1, b2s, okB_nb ho hb hk2, oM1, o2, bis, c_step g1 hL (by omega) (by omega), b2s, m_max, b2s, nI_1]
        dsimp only at h3
        rw [h3, nI_add]
        exact ih (k + 1) (by omega) (by omega)
  exact key eN 0 (by omega) (by rw [eN_eq]; omega)
theorem q_up (hS : MS g 43 d z) {b : Nat} (hb : b < z 0) : fX11_upOf 38 (nI b) (eE g) = some (nI (upS d z b (bl z b)), eE g) := by
  have hS' := hS
  obtain ⟨hL, hd, hz, ho⟩ := hS
  have hC := okL_C hd
  have hb4 : b < 4 := by have := ho.1; omega
  have hl12 := (ho.2 b hb).2.1
  have ha : isMa 43 := Or.inl rfl
  simp only [fX11_upOf, tO, cond_true, fX11_upOf_0]
  have key : ∀ (fu k : Nat), k ≤ bl z b → bl z b - k < fu → fX11_upOf_4 fu 38 (nI b) (nI (upS d z b k)) (nI k) (eE g) = some (nI (upS d z b (bl z b)), eE g) := by
    intro fu
    induction fu with
    | zero => intro k h1 h2; omega
    | succ fu ih =>
      intro k h1 h2
      simp only [fX11_upOf_4, tR, bis, q_len ha hz hb4, b2s]
      by_cases hk : k = bl z b
      · subst hk
        rw [if_pos (nI_le (Nat.le_refl _) (by omega))]
      · have hk2 : k < bl z b := by omega
        have c1 := okB_cb hd ho hb k (by omega)
        have c2 := okB_cb hd ho hb (k + 1) (by omega)
        have hH := hd.2.2.2.2.1
        have h3 := up_fin2 ⟨lH d (cb d z b k), by have := hH (cb d z b k); omega⟩ ⟨lH d (cb d z b (k + 1)), by have := hH (cb d z b (k + 1)); omega⟩
        have nx := ih (k + 1) (by omega) (by omega)
        have b1 := q_behind ha hS' hb (show k ≤ bl z b by omega)
        have b2 := q_behind ha hS' hb (show k + 1 ≤ bl z b by omega)
        have b3 := q_h hL (show cb d z b k < 20 by omega)
        have b4 := q_h hL (show cb d z b (k + 1) < 20 by omega)
        rw [if_neg (nI_ge hk2 (by omega))]
        simp only [nI_1, b1, b2, b3, b4, b2s, tR, bis, fX11_upOf_79]
        rw [upS, ← nI_add, ← h3] at nx
        dsimp only at nx
        rw [← nx]
        split <;> rfl
  exact key eN 0 (by omega) (by rw [eN_eq]; omega)
end BOL2
