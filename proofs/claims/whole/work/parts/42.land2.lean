theorem nI_neg1 {n : Nat} (h : n < 2 ^ 31) : ¬ nI n = -1 := fun q => by
  have := congrArg Int32.toInt q
  rw [nI_toInt h] at this
  have h2 : (-1 : Int32).toInt = -1 := by decide
  omega
theorem nI_neg9 {n : Nat} (h : n < 2 ^ 31) : ¬ nI n = -9 := fun q => by
  have := congrArg Int32.toInt q
  rw [nI_toInt h] at this
  have h2 : (-9 : Int32).toInt = -9 := by decide
  omega
theorem ad_fin : ∀ a b : Fin 10, (if 0 ≤ nI b.val - nI a.val then nI b.val - nI a.val else -(nI b.val - nI a.val)) = nI (ad a.val b.val) := by decide +kernel
theorem ad_ok {a b : Nat} (ha : a ≤ 9) (hb : b ≤ 9) : (if 0 ≤ nI b - nI a then nI b - nI a else -(nI b - nI a)) = nI (ad a b) := ad_fin ⟨a, by omega⟩ ⟨b, by omega⟩
theorem ad_fin2 : ∀ a b : Fin 10, (if nI a.val ≤ nI b.val then nI b.val - nI a.val else nI a.val - nI b.val) = nI (ad a.val b.val) := by decide +kernel
theorem ad_ok2 {a b : Nat} (ha : a ≤ 9) (hb : b ≤ 9) : (if nI a ≤ nI b then nI b - nI a else nI a - nI b) = nI (ad a b) := ad_fin2 ⟨a, by omega⟩ ⟨b, by omega⟩
theorem ad_le {a b : Nat} (ha : a ≤ 9) (hb : b ≤ 9) : ad a b ≤ 9 := by unfold ad; split <;> omega
theorem ad_comm (a b : Nat) : ad a b = ad b a := by unfold ad; split <;> split <;> omega
theorem c_height {g : eS} {o h t : Nat} {d : Lnd} (ho : isG o h t) (hL : CL g o h t d) {c : Nat} (hc : c < 20) : fX1_heightAt o (nI c) (eE g) = some (nI (lH d c), eE g) := by
  have hh := hL.2.2.2.2.1 c hc
  rcases ho with ⟨rfl, rfl, rfl⟩ | ⟨rfl, rfl, rfl⟩
  · simp only [fX1_heightAt, fX1_heightAt_0, tO, tR, bis, cond_true, row_getN r2 g hc, b2s, hh]
  · simp only [fX1_heightAt, fX1_heightAt_0, tO, tR, bis, cond_true, row_getN r10 g hc, b2s, hh]
theorem c_townCell {g : eS} {o h t : Nat} {d : Lnd} (ho : isG o h t) (hL : CL g o h t d) (hd : okL d) {k : Nat} (hk : k < lK d) : fX1_townCell o (nI k) (eE g) = some (nI (lT d k), eE g) := by
  have hh := hL.2.2.2.2.2 k hk
  have h4 : k < 4 := by have := hd.2.2.2.1; omega
  rcases ho with ⟨rfl, rfl, rfl⟩ | ⟨rfl, rfl, rfl⟩
  · simp only [fX1_townCell, fX1_townCell_0, tO, tR, bis, cond_true, row_getN r4 g h4, b2s, hh]
  · simp only [fX1_townCell, fX1_townCell_0, tO, tR, bis, cond_true, row_getN r12 g h4, b2s, hh]
theorem c_step {g : eS} {o h t : Nat} {d : Lnd} (ho : isG o h t) (hL : CL g o h t d) {a b : Nat} (ha : a < 20) (hb : b < 20) : fX1_step o (nI a) (nI b) (eE g) = some (nI (lH d b) - nI (lH d a), eE g) := by
  have h1 := hL.2.2.2.2.1 a ha
  have h2 := hL.2.2.2.2.1 b hb
  rcases ho with ⟨rfl, rfl, rfl⟩ | ⟨rfl, rfl, rfl⟩
  · simp only [fX1_step, fX1_step_0, tO, tR, bis, cond_true, row_getN r2 g ha, row_getN r2 g hb, b2s, h1, h2]
  · simp only [fX1_step, fX1_step_0, tO, tR, bis, cond_true, row_getN r10 g ha, row_getN r10 g hb, b2s, h1, h2]
theorem c_cellBy {g : eS} {o h t : Nat} {d : Lnd} (ho : isG o h t) (hL : CL g o h t d) (hd : okL d) {c k : Nat} (hc : c < lC d) (hk : k < 4) : fX1_cellBy o (nI c) (nI k) (eE g) = some (oM1 (gb d c k), eE g) := by
  have hC := okL_C hd
  have e1 := c_neighbour ho hL hd hc hk
  have e0 : eO (eE g) o 1 = true := by rcases ho with ⟨rfl, rfl, rfl⟩ | ⟨rfl, rfl, rfl⟩ <;> simp only [tO]
  have e3 : eGI (eE g) o 1 2 = some (nI (lS d)) := by rw [← hL.2.2.1]; rcases ho with ⟨rfl, rfl, rfl⟩ | ⟨rfl, rfl, rfl⟩ <;> simp only [tI]
  rw [fX1_cellBy, e0, cond_true, fX1_cellBy_0, e1, b2s]
  unfold gb
  cases hn : nb (lW d) (lD d) c k with
  | none => simp [oM1, fX1_cellBy_32]
  | some q =>
    have hq := (nb_lt hd.1.1 hc hn).1
    have hq20 : q < 20 := by unfold lC at hC; omega
    have hc20 : c < 20 := by omega
    have hS := hd.2.2.1
    have hH := hd.2.2.2.2.1
    have had := ad_le (hH c) (hH q)
    simp only [oM1, if_neg (nI_neg1 (show q < 2 ^ 31 by omega)), c_step ho hL hc20 hq20, b2s, m_abs, ad_ok (hH c) (hH q), e3, bis, fX1_cellBy_32]
    by_cases hs : ad (lH d c) (lH d q) ≤ lS d
    · rw [if_neg (nI_nlt hs (by omega)), if_pos hs]
    · rw [if_pos (nI_lt (by omega) (by omega)), if_neg hs]
theorem q_h {g : eS} {d : Lnd} (hL : ML g d) {c : Nat} (hc : c < 20) : eLd (eE g) false 41 (nI c) = some (nI (lH d c)) := by
  rw [ld (n := 40) g rfl (by decide) (by omega), hL.2.2.2.2.1 c hc]
theorem q_t {g : eS} {d : Lnd} (hL : ML g d) (hd : okL d) {k : Nat} (hk : k < lK d) : eLd (eE g) false 42 (nI k) = some (nI (lT d k)) := by
  rw [ld (n := 8) g rfl (by decide) (by have := hd.2.2.2.1; omega), hL.2.2.2.2.2 k hk]
theorem q_step {g : eS} {d : Lnd} (hL : ML g d) (hd : okL d) {a b : Nat} (ha : a < 20) (hb : b < 20) : fX11_step 38 (nI a) (nI b) (eE g) = some (nI (ad (lH d a) (lH d b)), eE g) := by
  have hH := hd.2.2.2.2.1
  simp only [fX11_step, fX11_step_0, tO, tR, bis, cond_true, q_h hL ha, q_h hL hb]
  rw [← ad_ok2 (hH a) (hH b)]
  split <;> rfl
theorem q_goes {g : eS} {d : Lnd} (hL : ML g d) (hd : okL d) {c k : Nat} (hc : c < lC d) (hk : k < 4) : fX11_goes 38 (nI c) (nI k) (eE g) = some (oM9 (gb d c k), eE g) := by
  have hC := okL_C hd
  simp only [fX11_goes, fX11_goes_0, tO, cond_true, q_leads hL hd hc hk, b2s, fX11_goes_28]
  unfold gb
  cases hn : nb (lW d) (lD d) c k with
  | none => simp [oM9]
  | some q =>
    have hq := (nb_lt hd.1.1 hc hn).1
    have hq20 : q < 20 := by unfold lC at hC; omega
    have hc20 : c < 20 := by omega
    have hS := hd.2.2.1
    have hH := hd.2.2.2.2.1
    have had := ad_le (hH c) (hH q)
    simp only [oM9, if_neg (nI_neg9 (show q < 2 ^ 31 by omega)), q_step hL hd hc20 hq20, b2s, tR, tK, bis, hL.2.2.1]
    by_cases hs : ad (lH d c) (lH d q) ≤ lS d
    · rw [if_pos (nI_le hs (by omega)), if_pos hs]
    · rw [if_neg (nI_ge (by omega) (by omega)), if_neg hs]
/-! in or out of a range -/
theorem m_inN {c n : Nat} (h : c < n) (hn : n < 2 ^ 30) (w : eW) : fX11_in (nI c) 0 (nI n - 1) w = some (1, w) := by
  rw [m_in, if_neg]
  intro q
  rcases q with q | q
  · exact nI_pos (by omega) q
  · have h1 : nI n - 1 = nI (n - 1) := by rw [show (1 : Int32) = nI 1 from rfl, pk_sub (by omega)]
    rw [h1] at q
    exact nI_nlt (show c ≤ n - 1 by omega) (by omega) q
theorem m_inO {x : Int32} {n : Nat} (h : x < 0 ∨ nI n ≤ x) (hn : n < 2 ^ 30) (w : eW) : fX11_in x 0 (nI n - 1) w = some (0, w) := by
  rw [m_in, if_pos]
  rcases h with h | h
  · exact Or.inl h
  · right
    rw [Int32.lt_iff_toInt_lt, show (1 : Int32) = nI 1 from rfl, pk_sub_toInt (by omega) (by decide)]
    rw [Int32.le_iff_toInt_le, nI_toInt (by omega)] at h
    omega
theorem c_hasN {g : eS} {o h t : Nat} {d : Lnd} (ho : isG o h t) (hL : CL g o h t d) (hd : okL d) {c : Nat} (hc : c < lC d) : fX1_hasCell o (nI c) (eE g) = some (1, eE g) := by
  have hC := okL_C hd
  have e0 : eO (eE g) o 1 = true := by rcases ho with ⟨rfl, rfl, rfl⟩ | ⟨rfl, rfl, rfl⟩ <;> simp only [tO]
  simp only [fX1_hasCell, e0, cond_true, fX1_hasCell_0, if_neg (nI_pos (show c < 2 ^ 31 by omega)), c_cells ho hL, b2s, if_neg (nI_ge hc (show lC d < 2 ^ 31 by omega)), eZ_1, bis]
theorem c_hasO {g : eS} {o h t : Nat} {d : Lnd} (ho : isG o h t) (hL : CL g o h t d) {x : Int32} (hx : x < 0 ∨ nI (lC d) ≤ x) : fX1_hasCell o x (eE g) = some (0, eE g) := by
  have e0 : eO (eE g) o 1 = true := by rcases ho with ⟨rfl, rfl, rfl⟩ | ⟨rfl, rfl, rfl⟩ <;> simp only [tO]
  by_cases h0 : x < 0
  · simp only [fX1_hasCell, e0, cond_true, fX1_hasCell_0, if_pos h0, fX1_hasCell_16, eZ_0, bis]
  · have h1 : nI (lC d) ≤ x := hx.resolve_left h0
    simp only [fX1_hasCell, e0, cond_true, fX1_hasCell_0, if_neg h0, c_cells ho hL, b2s, if_pos h1, fX1_hasCell_16, eZ_0, bis]
theorem q_cells {g : eS} {d : Lnd} (hL : ML g d) : fX11_cells 38 (eE g) = some (nI (lC d), eE g) := by
  simp only [fX11_cells, fX11_cells_0, tO, tR, tK, bis, cond_true, hL.1, hL.2.1, pk_mul]
  rfl
theorem q_isN {g : eS} {d : Lnd} (hL : ML g d) (hd : okL d) {c : Nat} (hc : c < lC d) : fX11_isCell 38 (nI c) (eE g) = some (1, eE g) := by
  have hC := okL_C hd
  simp only [fX11_isCell, fX11_isCell_0, tO, cond_true, q_cells hL, b2s, m_inN hc (show lC d < 2 ^ 30 by omega), eZ_1, bis]
theorem q_isO {g : eS} {d : Lnd} (hL : ML g d) (hd : okL d) {x : Int32} (hx : x < 0 ∨ nI (lC d) ≤ x) : fX11_isCell 38 x (eE g) = some (0, eE g) := by
  have hC := okL_C hd
  simp only [fX11_isCell, fX11_isCell_0, tO, cond_true, q_cells hL, b2s, m_inO hx (show lC d < 2 ^ 30 by omega), eZ_0, bis]
/-! towns as bits -/
def tset (d : Lnd) (s : Nat) : Nat → Nat
  | 0 => 0
  | t + 1 => if s.testBit t then tset d s t ||| 2 ^ (lT d t) else tset d s t
theorem tset_lt {d : Lnd} (hd : okL d) (s : Nat) : ∀ n, n ≤ lK d → tset d s n < 2 ^ 20 := by
  intro n
  induction n with
  | zero => intro _; exact Nat.two_pow_pos 20
  | succ n ih =>
    intro hn
    have h1 := ih (by omega)
    have h2 := hd.2.2.2.2.2.1 n (by omega)
    have h3 := okL_C hd
    unfold tset
    split
    · exact or_lt h1 (two_lt (by omega))
    · exact h1
theorem tset_bit (d : Lnd) (s c : Nat) : ∀ n, (tset d s n).testBit c = true ↔ ∃ t, t < n ∧ s.testBit t = true ∧ lT d t = c := by
  intro n
  induction n with
  | zero => simp [tset]
  | succ n ih =>
    unfold tset
    split
    next hs =>
      rw [Nat.testBit_or, Bool.or_eq_true, ih, Nat.testBit_two_pow, decide_eq_true_eq]
      constructor
      · rintro (⟨t, h1, h2, h3⟩ | h)
        · exact ⟨t, by omega, h2, h3⟩
        · exact ⟨n, by omega, hs, h⟩
      · rintro ⟨t, h1, h2, h3⟩
        by_cases ht : t = n
        · subst ht; exact Or.inr h3
        · exact Or.inl ⟨t, by omega, h2, h3⟩
    next hs =>
      rw [ih]
      constructor
      · rintro ⟨t, h1, h2, h3⟩
        exact ⟨t, by omega, h2, h3⟩
      · rintro ⟨t, h1, h2, h3⟩
        by_cases ht : t = n
        · subst ht; exact absurd h2 hs
        · exact ⟨t, by omega, h2, h3⟩
theorem c_ofTowns_loop {g : eS} {o h t : Nat} {d : Lnd} (ho : isG o h t) (hL : CL g o h t d) (hd : okL d) {s : Nat} (hs : s < 2 ^ 31) : ∀ (fu k : Nat), k ≤ lK d → lK d - k < fu → fX1_cellsOfTowns_4 fu o (nI s) (nI (tset d s k)) (nI k) (eE g) = some (nI (tset d s (lK d)), eE g) := by
  have hK := hd.2.2.2.1
  have hC := okL_C hd
  have e3 : eGI (eE g) o 1 3 = some (nI (lK d)) := by rw [← hL.2.2.2.1]; rcases ho with ⟨rfl, rfl, rfl⟩ | ⟨rfl, rfl, rfl⟩ <;> simp only [tI]
  intro fu
  induction fu with
  | zero => intro k h1 h2; omega
  | succ fu ih =>
    intro k h1 h2
    rw [fX1_cellsOfTowns_4, e3, bis]
    by_cases hk : k = lK d
    · subst hk
      rw [if_pos (nI_le (Nat.le_refl _) (by omega))]
    · have hlt : k < lK d := by omega
      have hT := hd.2.2.2.2.2.1 k hlt
      rw [if_neg (nI_ge hlt (by omega)), m_bit, b2s, bit_nI k (by omega)]
      have nx := ih (k + 1) (by omega) (by omega)
      cases hb : s.testBit k with
      | false =>
        rw [if_pos ((and_bit hs).mpr hb), fX1_cellsOfTowns_35, nI_1]
        rw [tset, hb] at nx
        exact nx
      | true =>
        rw [if_neg (fun q => by rw [(and_bit hs).mp q] at hb; cases hb)]
        have e4 : ∃ rw', eGR (eE g) o 1 5 = some rw' ∧ fX7_get rw' (nI k) (eE g) = some (nI (lT d k), eE g) := by
          have h4 := hL.2.2.2.2.2 k hlt
          rcases ho with ⟨rfl, rfl, rfl⟩ | ⟨rfl, rfl, rfl⟩
          · exact ⟨4, by simp only [tR], by rw [row_getN r4 g (by omega), h4]⟩
          · exact ⟨12, by simp only [tR], by rw [row_getN r12 g (by omega), h4]⟩
        obtain ⟨rw', e5, e6⟩ := e4
        rw [e5, bis, e6, b2s, m_bit, b2s, bit_nI _ (by omega), fX1_cellsOfTowns_35, nI_1, nI_or]
        rw [tset, hb] at nx
        exact nx
theorem c_ofTowns {g : eS} {o h t : Nat} {d : Lnd} (ho : isG o h t) (hL : CL g o h t d) (hd : okL d) {s : Nat} (hs : s < 2 ^ 31) : fX1_cellsOfTowns o (nI s) (eE g) = some (nI (tset d s (lK d)), eE g) := by
  have e0 : eO (eE g) o 1 = true := by rcases ho with ⟨rfl, rfl, rfl⟩ | ⟨rfl, rfl, rfl⟩ <;> simp only [tO]
  rw [fX1_cellsOfTowns, e0, cond_true, fX1_cellsOfTowns_0]
  exact c_ofTowns_loop ho hL hd hs eN 0 (by omega) (by rw [eN_eq]; have := hd.2.2.2.1; omega)
def isT (d : Lnd) (c : Nat) : Bool := (List.range (lK d)).any (fun t => lT d t == c)
theorem isT_iff (d : Lnd) (c : Nat) : isT d c = true ↔ ∃ t, t < lK d ∧ lT d t = c := by simp [isT]
theorem c_isTown {g : eS} {o h t : Nat} {d : Lnd} (ho : isG o h t) (hL : CL g o h t d) (hd : okL d) {c : Nat} (hc : c < 20) : fX1_isTown o (nI c) (eE g) = some (if isT d c then 1 else 0, eE g) := by
  have hK := hd.2.2.2.1
  have e0 : eO (eE g) o 1 = true := by rcases ho with ⟨rfl, rfl, rfl⟩ | ⟨rfl, rfl, rfl⟩ <;> simp only [tO]
  have e3 : eGI (eE g) o 1 3 = some (nI (lK d)) := by rw [← hL.2.2.2.1]; rcases ho with ⟨rfl, rfl, rfl⟩ | ⟨rfl, rfl, rfl⟩ <;> simp only [tI]
  have h2 : 2 ^ lK d ≤ 2 ^ 4 := Nat.pow_le_pow_right (by decide) hK
  have h1 := Nat.two_pow_pos (lK d)
  rw [fX1_isTown, e0, cond_true, fX1_isTown_0, e3, bis, m_bit, b2s, bit_nI _ (by omega), show nI (2 ^ lK d) - 1 = nI (2 ^ lK d - 1) from by rw [show (1 : Int32) = nI 1 from rfl, pk_sub h1], c_ofTowns ho hL hd (by omega), b2s, m_bit, b2s, bit_nI c (by omega)]
  have hlt := tset_lt hd (2 ^ lK d - 1) (lK d) (Nat.le_refl _)
  have hb := tset_bit d (2 ^ lK d - 1) c (lK d)
  have hi := isT_iff d c
  cases hx : isT d c with
  | true =>
    obtain ⟨t, h3, h4⟩ := hi.mp hx
    have h5 := hb.mpr ⟨t, h3, by rw [Nat.testBit_two_pow_sub_one]; exact decide_eq_true h3, h4⟩
    rw [if_neg (fun q => by rw [(and_bit (by omega)).mp q] at h5; cases h5), eZ_1, bis, if_pos rfl]
  | false =>
    have h5 : (tset d (2 ^ lK d - 1) (lK d)).testBit c = false := by
      cases h6 : (tset d (2 ^ lK d - 1) (lK d)).testBit c with
      | false => rfl
      | true =>
        obtain ⟨t, h3, -, h4⟩ := hb.mp h6
        rw [hi.mpr ⟨t, h3, h4⟩] at hx
        cases hx
    rw [if_pos ((and_bit (by omega)).mpr h5), eZ_0, bis]
    rfl
theorem q_isTown_loop {g : eS} {d : Lnd} (hL : ML g d) (hd : okL d) {c : Nat} (hc : c < 20) : ∀ (fu k : Nat) (b : Bool), k ≤ lK d → lK d - k < fu → (b = true ↔ ∃ t, t < k ∧ lT d t = c) → fX11_isTown_4 fu 38 (nI c) (if b then 1 else 0) (nI k) (eE g) = some (if isT d c then 1 else 0, eE g) := by
  have hK := hd.2.2.2.1
  have hC := okL_C hd
  intro fu
  induction fu with
  | zero => intro k b h1 h2; omega
  | succ fu ih =>
    intro k b h1 h2 h3
    simp only [fX11_isTown_4, tR, tK, bis, hL.2.2.2.1]
    by_cases hk : k = lK d
    · subst hk
      have hbb : b = isT d c := Bool.eq_iff_iff.mpr (h3.trans (isT_iff d c).symm)
      rw [if_pos (nI_le (Nat.le_refl _) (by omega)), hbb]
      cases isT d c <;> rfl
    · have hlt : k < lK d := by omega
      have hT := hd.2.2.2.2.2.1 k hlt
      have a1 : k + 1 ≤ lK d := hlt
      have a2 : lK d - (k + 1) < fu := by clear h3; omega
      rw [if_neg (nI_ge hlt (by omega))]
      cases b with
      | true =>
        rw [if_neg (by decide), fX11_isTown_28, fX11_isTown_33, nI_1]
        exact ih (k + 1) true a1 a2 ⟨fun _ => by obtain ⟨t, b1, b2⟩ := h3.mp rfl; exact ⟨t, by omega, b2⟩, fun _ => rfl⟩
      | false =>
        rw [if_pos (by decide), q_t hL hd hlt, bis]
        by_cases hq : lT d k = c
        · rw [if_pos (by rw [hq]), fX11_isTown_28, fX11_isTown_33, nI_1]
          exact ih (k + 1) true a1 a2 ⟨fun _ => ⟨k, by omega, hq⟩, fun _ => rfl⟩
        · rw [if_neg (fun q => hq ((nI_eq (by omega) (by omega)).mp q)), fX11_isTown_33, nI_1]
          refine ih (k + 1) false a1 a2 ⟨fun q => absurd q (by decide), fun ⟨t, b1, b2⟩ => ?_⟩
          by_cases ht : t = k
          · subst ht; exact absurd b2 hq
          · exact h3.mpr ⟨t, by omega, b2⟩
theorem q_isTown {g : eS} {d : Lnd} (hL : ML g d) (hd : okL d) {c : Nat} (hc : c < 20) : fX11_isTown 38 (nI c) (eE g) = some (if isT d c then 1 else 0, eE g) := by
  simp only [fX11_isTown, fX11_isTown_0, tO, cond_true]
  exact q_isTown_loop hL hd hc eN 0 false (by omega) (by rw [eN_eq]; have := hd.2.2.2.1; omega) ⟨fun q => absurd q (by decide), fun ⟨t, a1, a2⟩ => by omega⟩
