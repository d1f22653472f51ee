/-! ===== bits of small numbers ===== -/
theorem nI_or (a b : Nat) : nI a ||| nI b = nI (a ||| b) := by
  apply Int32.toBitVec_inj.mp
  show BitVec.ofNat 32 a ||| BitVec.ofNat 32 b = BitVec.ofNat 32 (a ||| b)
  rw [BitVec.ofNat_or]
theorem nI_and (a b : Nat) : nI a &&& nI b = nI (a &&& b) := by
  apply Int32.toBitVec_inj.mp
  show BitVec.ofNat 32 a &&& BitVec.ofNat 32 b = BitVec.ofNat 32 (a &&& b)
  rw [BitVec.ofNat_and]
theorem nI_z {a : Nat} (h : a < 2 ^ 31) : nI a = 0 ↔ a = 0 := nI_eq h (by decide)
theorem bit_nI : ∀ c, c < 31 → (1 : Int32) <<< (nI c &&& 31) = nI (2 ^ c) := by decide +kernel
theorem and_two (a c : Nat) : a &&& 2 ^ c = 0 ↔ a.testBit c = false := by
  constructor
  · intro h
    have h2 : (a &&& 2 ^ c).testBit c = false := by rw [h]; exact Nat.zero_testBit c
    rw [Nat.testBit_and, Nat.testBit_two_pow_self, Bool.and_true] at h2
    exact h2
  · intro h
    apply Nat.eq_of_testBit_eq
    intro i
    rw [Nat.testBit_and, Nat.testBit_two_pow, Nat.zero_testBit]
    by_cases hi : c = i
    · subst hi; simp [h]
    · simp [hi]
theorem and_bit {a c : Nat} (ha : a < 2 ^ 31) : nI a &&& nI (2 ^ c) = 0 ↔ a.testBit c = false := by
  have h1 : a &&& 2 ^ c ≤ a := Nat.and_le_left
  rw [nI_and, nI_z (by omega), and_two]
theorem or_lt {a b n : Nat} (ha : a < 2 ^ n) (hb : b < 2 ^ n) : a ||| b < 2 ^ n := Nat.or_lt_two_pow ha hb
theorem two_lt {c n : Nat} (h : c < n) : 2 ^ c < 2 ^ n := Nat.pow_lt_pow_right (by decide) h
theorem testBit_two (c j : Nat) : (2 ^ c).testBit j = decide (c = j) := by rw [Nat.testBit_two_pow]
/-! ===== lands ===== -/
abbrev Lnd : Type := Nat × Nat × Nat × Nat × (Nat → Nat) × (Nat → Nat)
def lW (d : Lnd) : Nat := d.1
def lD (d : Lnd) : Nat := d.2.1
def lS (d : Lnd) : Nat := d.2.2.1
def lK (d : Lnd) : Nat := d.2.2.2.1
def lH (d : Lnd) : Nat → Nat := d.2.2.2.2.1
def lT (d : Lnd) : Nat → Nat := d.2.2.2.2.2
def lC (d : Lnd) : Nat := lW d * lD d
def okL (d : Lnd) : Prop := (2 ≤ lW d ∧ lW d ≤ 5) ∧ (2 ≤ lD d ∧ lD d ≤ 4) ∧ lS d ≤ 9 ∧ lK d ≤ 4 ∧ (∀ c, lH d c ≤ 9) ∧ (∀ k, k < lK d → lT d k < lC d) ∧ (∀ j k, j < lK d → k < lK d → lT d j = lT d k → j = k)
theorem okL_C {d : Lnd} (h : okL d) : lC d ≤ 20 ∧ 4 ≤ lC d := by
  obtain ⟨⟨h1, h2⟩, ⟨h3, h4⟩, -⟩ := h
  unfold lC
  exact ⟨Nat.mul_le_mul h2 h4, Nat.mul_le_mul h1 h3⟩
/-- a land of the class: object o, its rows' arrays h and t -/
def CL (g : eS) (o h t : Nat) (d : Lnd) : Prop := g.1 o 0 = nI (lW d) ∧ g.1 o 1 = nI (lD d) ∧ g.1 o 2 = nI (lS d) ∧ g.1 o 3 = nI (lK d) ∧ (∀ c, c < 20 → g.2.1 h c = nI (lH d c)) ∧ (∀ k, k < lK d → g.2.1 t k = nI (lT d k))
/-- the model's land -/
def ML (g : eS) (d : Lnd) : Prop := g.2.1 40 0 = nI (lW d) ∧ g.2.1 40 1 = nI (lD d) ∧ g.2.1 40 3 = nI (lS d) ∧ g.2.1 40 2 = nI (lK d) ∧ (∀ c, c < 20 → g.2.1 41 c = nI (lH d c)) ∧ (∀ k, k < lK d → g.2.1 42 k = nI (lT d k))
def nb (W D c k : Nat) : Option Nat :=
  if k = 0 then (if W ≤ c then some (c - W) else none)
  else if k = 1 then (if c % W + 1 < W then some (c + 1) else none)
  else if k = 2 then (if c + W < W * D then some (c + W) else none)
  else if k = 3 then (if 0 < c % W then some (c - 1) else none) else none
def oM1 : Option Nat → Int32
  | none => -1
  | some c => nI c
def oM9 : Option Nat → Int32
  | none => -9
  | some c => nI c
def ad (a b : Nat) : Nat := if a ≤ b then b - a else a - b
def gb (d : Lnd) (c k : Nat) : Option Nat := match nb (lW d) (lD d) c k with
  | none => none
  | some e => if ad (lH d c) (lH d e) ≤ lS d then some e else none
theorem nb_lt {W D c k e : Nat} (hW : 2 ≤ W) (hc : c < W * D) (h : nb W D c k = some e) : e < W * D ∧ k < 4 := by
  unfold nb at h
  have hm := Nat.mod_add_div c W
  split at h
  · split at h <;> first | (cases h; omega) | cases h
  · split at h
    · split at h
      next hr =>
        cases h
        have h1 : c / W < D := by rw [Nat.div_lt_iff_lt_mul (by omega), Nat.mul_comm]; exact hc
        have h2 : W * (c / W + 1) ≤ W * D := Nat.mul_le_mul_left W h1
        rw [Nat.mul_add] at h2
        omega
      next => cases h
    · split at h
      · split at h <;> first | (cases h; omega) | cases h
      · split at h
        · split at h <;> first | (cases h; omega) | cases h
        · cases h
theorem gb_nb {d : Lnd} {c k e : Nat} (h : gb d c k = some e) : nb (lW d) (lD d) c k = some e ∧ ad (lH d c) (lH d e) ≤ lS d := by
  unfold gb at h
  split at h
  next => cases h
  next e' he =>
    split at h
    next hs => cases h; exact ⟨he, hs⟩
    next => cases h
theorem gb_lt {d : Lnd} (hd : okL d) {c k e : Nat} (hc : c < lC d) (h : gb d c k = some e) : e < lC d ∧ k < 4 := nb_lt hd.1.1 hc (gb_nb h).1
/-! what the class reckons -/
def pNb (W D c k : Int32) : Int32 :=
  if k = 0 then (if c - W < 0 then -1 else c - W)
  else if k = 1 then (if W ≤ (c - c / W * W) + 1 then -1 else c + 1)
  else if k = 2 then (if W * D ≤ c + W then -1 else c + W)
  else if k = 3 then (if c - c / W * W ≤ 0 then -1 else c - 1) else -1
theorem pNb_fin : ∀ (W : Fin 6) (D : Fin 5) (c : Fin 20) (k : Fin 4), (2 ≤ W.val ∧ 2 ≤ D.val ∧ c.val < W.val * D.val) → pNb (nI W.val) (nI D.val) (nI c.val) (nI k.val) = oM1 (nb W.val D.val c.val k.val) := by decide +kernel
theorem pNb_ok (W : Nat) (hW : W < 6) (D : Nat) (hD : D < 5) (c : Nat) (hc : c < 20) (k : Nat) (hk : k < 4) (h1 : 2 ≤ W) (h2 : 2 ≤ D) (h3 : c < W * D) : pNb (nI W) (nI D) (nI c) (nI k) = oM1 (nb W D c k) := pNb_fin ⟨W, hW⟩ ⟨D, hD⟩ ⟨c, hc⟩ ⟨k, hk⟩ ⟨h1, h2, h3⟩
def pLd (W D c k : Int32) : Int32 :=
  if (c - c / W * W) + (if k = 1 then 1 else if k = 3 then -1 else 0) < 0 ∨ W - 1 < (c - c / W * W) + (if k = 1 then 1 else if k = 3 then -1 else 0) then -9
  else if c / W + (if k = 2 then 1 else if k = 0 then -1 else 0) < 0 ∨ D - 1 < c / W + (if k = 2 then 1 else if k = 0 then -1 else 0) then -9
  else W * (c / W + (if k = 2 then 1 else if k = 0 then -1 else 0)) + ((c - c / W * W) + (if k = 1 then 1 else if k = 3 then -1 else 0))
theorem pLd_fin : ∀ (W : Fin 6) (D : Fin 5) (c : Fin 20) (k : Fin 4), (2 ≤ W.val ∧ 2 ≤ D.val ∧ c.val < W.val * D.val) → pLd (nI W.val) (nI D.val) (nI c.val) (nI k.val) = oM9 (nb W.val D.val c.val k.val) := by decide +kernel
theorem pLd_ok (W : Nat) (hW : W < 6) (D : Nat) (hD : D < 5) (c : Nat) (hc : c < 20) (k : Nat) (hk : k < 4) (h1 : 2 ≤ W) (h2 : 2 ≤ D) (h3 : c < W * D) : pLd (nI W) (nI D) (nI c) (nI k) = oM9 (nb W D c k) := pLd_fin ⟨W, hW⟩ ⟨D, hD⟩ ⟨c, hc⟩ ⟨k, hk⟩ ⟨h1, h2, h3⟩
theorem ld {a n i : Nat} {b : Bool} (g : eS) (h : eAr sh0 a = some (b, n)) (hn : n < 2000) (hi : i < n) : eLd (eE g) b a (nI i) = some (g.2.1 a i) := by
  unfold eE
  rw [eM_Ld g h, if_pos (nI_inR hi (by omega)), nI_cl (by omega)]
theorem st {a n i : Nat} (g : eS) (h : eAr sh0 a = some (false, n)) (hn : n < 2000) (hi : i < n) (x : Int32) : eSt (eE g) false a (nI i) x = some (eE (eSA g a (upd (g.2.1 a) i x))) := by
  unfold eE
  rw [eM_St g h, if_pos (nI_inR hi (by omega)), nI_cl (by omega)]
  rfl
/-- places of the model's rows that stand in its code -/
theorem tK (g : eS) : eLd (eE g) false 40 0 = some (g.2.1 40 0) ∧ eLd (eE g) false 40 1 = some (g.2.1 40 1) ∧ eLd (eE g) false 40 2 = some (g.2.1 40 2) ∧ eLd (eE g) false 40 3 = some (g.2.1 40 3) ∧ eLd (eE g) false 40 4 = some (g.2.1 40 4) ∧ eLd (eE g) false 40 5 = some (g.2.1 40 5) ∧ eLd (eE g) false 40 6 = some (g.2.1 40 6) ∧ eLd (eE g) false 40 7 = some (g.2.1 40 7) ∧ eLd (eE g) false 43 0 = some (g.2.1 43 0) ∧ eLd (eE g) false 44 0 = some (g.2.1 44 0) :=
  ⟨ld (i := 0) (n := 8) g rfl (by decide) (by decide), ld (i := 1) (n := 8) g rfl (by decide) (by decide), ld (i := 2) (n := 8) g rfl (by decide) (by decide), ld (i := 3) (n := 8) g rfl (by decide) (by decide), ld (i := 4) (n := 8) g rfl (by decide) (by decide), ld (i := 5) (n := 8) g rfl (by decide) (by decide), ld (i := 6) (n := 8) g rfl (by decide) (by decide), ld (i := 7) (n := 8) g rfl (by decide) (by decide), ld (i := 0) (n := 57) g rfl (by decide) (by decide), ld (i := 0) (n := 57) g rfl (by decide) (by decide)⟩
theorem tM (g : eS) (x : Int32) : eSt (eE g) false 40 0 x = some (eE (eSA g 40 (upd (g.2.1 40) 0 x))) ∧ eSt (eE g) false 40 1 x = some (eE (eSA g 40 (upd (g.2.1 40) 1 x))) ∧ eSt (eE g) false 40 2 x = some (eE (eSA g 40 (upd (g.2.1 40) 2 x))) ∧ eSt (eE g) false 40 3 x = some (eE (eSA g 40 (upd (g.2.1 40) 3 x))) ∧ eSt (eE g) false 40 4 x = some (eE (eSA g 40 (upd (g.2.1 40) 4 x))) ∧ eSt (eE g) false 40 5 x = some (eE (eSA g 40 (upd (g.2.1 40) 5 x))) ∧ eSt (eE g) false 40 6 x = some (eE (eSA g 40 (upd (g.2.1 40) 6 x))) ∧ eSt (eE g) false 40 7 x = some (eE (eSA g 40 (upd (g.2.1 40) 7 x))) ∧ eSt (eE g) false 43 0 x = some (eE (eSA g 43 (upd (g.2.1 43) 0 x))) :=
  ⟨st (i := 0) (n := 8) g rfl (by decide) (by decide) x, st (i := 1) (n := 8) g rfl (by decide) (by decide) x, st (i := 2) (n := 8) g rfl (by decide) (by decide) x, st (i := 3) (n := 8) g rfl (by decide) (by decide) x, st (i := 4) (n := 8) g rfl (by decide) (by decide) x, st (i := 5) (n := 8) g rfl (by decide) (by decide) x, st (i := 6) (n := 8) g rfl (by decide) (by decide) x, st (i := 7) (n := 8) g rfl (by decide) (by decide) x, st (i := 0) (n := 57) g rfl (by decide) (by decide) x⟩
theorem eZ_0 : eZ (0 : Int32) = some 0 := by rw [eZ, if_pos (Or.inl rfl)]
theorem eZ_1 : eZ (1 : Int32) = some 1 := by rw [eZ, if_pos (Or.inr rfl)]
/-- the ground, or the land that is being told -/
def isG (o h t : Nat) : Prop := (o = 1 ∧ h = 3 ∧ t = 5) ∨ (o = 9 ∧ h = 11 ∧ t = 13)
theorem c_cells {g : eS} {o h t : Nat} {d : Lnd} (ho : isG o h t) (hL : CL g o h t d) : fX1_cells o (eE g) = some (nI (lC d), eE g) := by
  obtain ⟨h0, h1, -⟩ := hL
  rcases ho with ⟨rfl, rfl, rfl⟩ | ⟨rfl, rfl, rfl⟩ <;>
  · simp only [fX1_cells, fX1_cells_0, tO, tI, bis, cond_true, h0, h1, pk_mul]
    rfl
theorem c_neighbour {g : eS} {o h t : Nat} {d : Lnd} (ho : isG o h t) (hL : CL g o h t d) (hd : okL d) {c k : Nat} (hc : c < lC d) (hk : k < 4) : fX1_neighbour o (nI c) (nI k) (eE g) = some (oM1 (nb (lW d) (lD d) c k), eE g) := by
  have hC := c_cells ho hL
  obtain ⟨h0, h1, -⟩ := hL
  have hb := okL_C hd
  rw [← pNb_ok _ (by have := hd.1.2; omega) _ (by have := hd.2.1.2; omega) _ (by omega) _ hk hd.1.1 hd.2.1.1 hc]
  have hw : ¬ nI (lW d) ≤ 0 := nI_nle (by have := hd.1.1; omega) (by have := hd.1.2; omega)
  have hw2 : ¬ nI (lW d) = 0 := nI_ne0 (by have := hd.1.1; omega) (by have := hd.1.2; omega)
  have hCC : nI (lC d) = nI (lW d) * nI (lD d) := (pk_mul _ _).symm
  rcases ho with ⟨rfl, rfl, rfl⟩ | ⟨rfl, rfl, rfl⟩ <;>
  · simp only [fX1_neighbour, fX1_neighbour_0, tO, tI, bis, cond_true, h0, if_neg hw, if_neg hw2, fX1_neighbour_17, hC, b2s, hCC]
    unfold pNb
    split
    · split <;> rfl
    · split
      · split <;> rfl
      · split
        · split <;> rfl
        · split
          · split <;> rfl
          · rfl
theorem m_in (x a b : Int32) (w : eW) : fX11_in x a b w = some (if x < a ∨ b < x then 0 else 1, w) := by
  rw [fX11_in, fX11_in_0, fX11_in_14, eZ_0, eZ_1]
  by_cases h1 : x < a
  · simp [h1]
  · by_cases h2 : b < x <;> simp [h1, h2]
theorem q_leads {g : eS} {d : Lnd} (hL : ML g d) (hd : okL d) {c k : Nat} (hc : c < lC d) (hk : k < 4) : fX11_leads 38 (nI c) (nI k) (eE g) = some (oM9 (nb (lW d) (lD d) c k), eE g) := by
  obtain ⟨h0, h1, -⟩ := hL
  have hb := okL_C hd
  rw [← pLd_ok _ (by have := hd.1.2; omega) _ (by have := hd.2.1.2; omega) _ (by omega) _ hk hd.1.1 hd.2.1.1 hc]
  have hw2 : ¬ nI (lW d) = 0 := nI_ne0 (by have := hd.1.1; omega) (by have := hd.1.2; omega)
  have key : ∀ x3 t0 t1 : Int32, fX11_leads_55 38 x3 t0 t1 (eE g) = some (if x3 < 0 ∨ nI (lW d) - 1 < x3 then -9 else if t0 + t1 < 0 ∨ nI (lD d) - 1 < t0 + t1 then -9 else nI (lW d) * (t0 + t1) + x3, eE g) := by
    intro x3 t0 t1
    simp only [fX11_leads_55, tR, tK, bis, b2s, m_in, h0, h1, fX11_leads_105]
    by_cases a1 : x3 < 0 ∨ nI (lW d) - 1 < x3
    · simp [a1]
    · by_cases a2 : t0 + t1 < 0 ∨ nI (lD d) - 1 < t0 + t1 <;> simp [a1, a2]
  simp only [fX11_leads, fX11_leads_0, fX11_leads_27, tO, tR, tK, bis, cond_true, h0, if_neg hw2, key]
  unfold pLd
  rcases (show k = 0 ∨ k = 1 ∨ k = 2 ∨ k = 3 by omega) with rfl | rfl | rfl | rfl <;> rfl
