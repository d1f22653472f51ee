/-! ===== how many bits ===== -/
def popN (t : Nat) : Nat → Nat
  | 0 => 0
  | k + 1 => popN t k + (if t.testBit k then 1 else 0)
theorem and_split {k a b m n : Nat} (ha : a < 2 ^ k) (hm : m < 2 ^ k) : (2 ^ k * b + a) &&& (2 ^ k * n + m) = 2 ^ k * (b &&& n) + (a &&& m) := by
  have h1 : a &&& m < 2 ^ k := Nat.lt_of_le_of_lt Nat.and_le_left ha
  apply Nat.eq_of_testBit_eq
  intro j
  rw [Nat.testBit_and, Nat.testBit_two_pow_mul_add _ ha, Nat.testBit_two_pow_mul_add _ hm, Nat.testBit_two_pow_mul_add _ h1]
  split <;> rw [Nat.testBit_and]
theorem popN_low {a k : Nat} (b : Nat) (ha : a < 2 ^ k) : ∀ n, n ≤ k → popN (2 ^ k * b + a) n = popN a n := by
  intro n
  induction n with
  | zero => intro _; rfl
  | succ n ih =>
    intro hn
    rw [popN, popN, ih (by omega), Nat.testBit_two_pow_mul_add _ ha, if_pos (show n < k by omega)]
theorem popN_split {a k : Nat} (b : Nat) (ha : a < 2 ^ k) : ∀ n, popN (2 ^ k * b + a) (k + n) = popN a k + popN b n := by
  intro n
  induction n with
  | zero => rw [Nat.add_zero, popN_low b ha k (Nat.le_refl _)]; rfl
  | succ n ih =>
    rw [show k + (n + 1) = k + n + 1 by omega, popN, popN, ih, Nat.testBit_two_pow_mul_add _ ha, if_neg (show ¬ k + n < k by omega), show k + n - k = n by omega]
    omega
theorem by_1 : ∀ (a : Fin 256) (e : Fin 2), (a.val / 2 + 128 * e.val) &&& 85 = a.val / 2 &&& 85 := by decide +kernel
theorem by_2 : ∀ (a : Fin 256) (e : Fin 4), (a.val / 4 + 64 * e.val) &&& 51 = a.val / 4 &&& 51 := by decide +kernel
def py1 (a : Nat) : Nat := a - (a / 2 &&& 85)
def py2 (a : Nat) : Nat := (py1 a &&& 51) + (py1 a / 4 &&& 51)
def py3 (a : Nat) : Nat := (py2 a + py2 a / 16) % 16
theorem by_3 : ∀ a : Fin 256, (a.val / 2 &&& 85) ≤ a.val ∧ py1 a.val < 256 ∧ py2 a.val % 16 ≤ 4 ∧ py2 a.val ≤ 68 ∧ py3 a.val = popN a.val 8 ∧ py3 a.val ≤ 8 := by decide +kernel
def sw1 (t : Nat) : Nat := t - (t / 2 &&& 1431655765)
def sw2 (v : Nat) : Nat := (v &&& 858993459) + (v / 4 &&& 858993459)
def sw3 (v : Nat) : Nat := (v + v / 16) &&& 252645135
theorem half_by {a t m : Nat} (ha : a < 256) : (256 * t + a) / 2 &&& (256 * m + 85) = 256 * (t / 2 &&& m) + (a / 2 &&& 85) := by
  have e1 : (256 * t + a) / 2 = 256 * (t / 2) + (a / 2 + 128 * (t % 2)) := by omega
  have e2 := by_1 ⟨a, ha⟩ ⟨t % 2, by omega⟩
  dsimp only at e2
  rw [e1, and_split (k := 8) (by omega) (by decide), e2]
theorem quart_by {a t m : Nat} (ha : a < 256) : (256 * t + a) / 4 &&& (256 * m + 51) = 256 * (t / 4 &&& m) + (a / 4 &&& 51) := by
  have e1 : (256 * t + a) / 4 = 256 * (t / 4) + (a / 4 + 64 * (t % 4)) := by omega
  have e2 := by_2 ⟨a, ha⟩ ⟨t % 4, by omega⟩
  dsimp only at e2
  rw [e1, and_split (k := 8) (by omega) (by decide), e2]
theorem sw1_ok {a b c : Nat} (ha : a < 256) (hb : b < 256) (hc : c < 256) : sw1 (256 * (256 * c + b) + a) = 256 * (256 * py1 c + py1 b) + py1 a ∧ ((256 * (256 * c + b) + a) / 2 &&& 1431655765) ≤ 256 * (256 * c + b) + a := by
  have h1 := (by_3 ⟨a, ha⟩).1
  have h2 := (by_3 ⟨b, hb⟩).1
  have h3 := (by_3 ⟨c, hc⟩).1
  dsimp only at h1 h2 h3
  have e : (256 * (256 * c + b) + a) / 2 &&& 1431655765 = 256 * (256 * (c / 2 &&& 85) + (b / 2 &&& 85)) + (a / 2 &&& 85) := by
    rw [show (1431655765 : Nat) = 256 * 5592405 + 85 from rfl, half_by ha, show (5592405 : Nat) = 256 * 21845 + 85 from rfl, half_by hb]
    have e3 : c / 2 &&& 21845 = c / 2 &&& 85 := by
      have := half_by (a := c) (t := 0) (m := 85) hc
      simpa using this
    rw [e3]
  unfold sw1 py1
  rw [e]
  omega
theorem sw2_ok {a b c : Nat} (ha : a < 256) (hb : b < 256) (hc : c < 256) : sw2 (256 * (256 * c + b) + a) = 256 * (256 * ((c &&& 51) + (c / 4 &&& 51)) + ((b &&& 51) + (b / 4 &&& 51))) + ((a &&& 51) + (a / 4 &&& 51)) := by
  have f1 : (256 * (256 * c + b) + a) &&& 858993459 = 256 * (256 * (c &&& 51) + (b &&& 51)) + (a &&& 51) := by
    rw [show (858993459 : Nat) = 2 ^ 8 * 3355443 + 51 from rfl]
    have := and_split (k := 8) (a := a) (b := 256 * c + b) (m := 51) (n := 3355443) ha (by decide)
    rw [show (2 : Nat) ^ 8 = 256 from rfl] at this ⊢
    rw [this]
    have h2 := and_split (k := 8) (a := b) (b := c) (m := 51) (n := 13107) hb (by decide)
    rw [show (2 : Nat) ^ 8 = 256 from rfl] at h2
    rw [show (3355443 : Nat) = 256 * 13107 + 51 from rfl, h2]
    have h3 := and_split (k := 8) (a := c) (b := 0) (m := 51) (n := 51) hc (by decide)
    have e3 : c &&& 13107 = c &&& 51 := by simpa using h3
    rw [e3]
  have f2 : (256 * (256 * c + b) + a) / 4 &&& 858993459 = 256 * (256 * (c / 4 &&& 51) + (b / 4 &&& 51)) + (a / 4 &&& 51) := by
    rw [show (858993459 : Nat) = 256 * 3355443 + 51 from rfl, quart_by ha, show (3355443 : Nat) = 256 * 13107 + 51 from rfl, quart_by hb]
    have e3 : c / 4 &&& 13107 = c / 4 &&& 51 := by
      have := quart_by (a := c) (t := 0) (m := 51) hc
      simpa using this
    rw [e3]
  unfold sw2
  rw [f1, f2]
  omega
theorem and15 (x : Nat) : x &&& 15 = x % 16 := Nat.and_two_pow_sub_one_eq_mod x 4
theorem sw3_ok {a b c : Nat} (ha : a ≤ 68) (hb : b ≤ 68) (hc : c ≤ 68) (hb4 : b % 16 ≤ 4) (hc4 : c % 16 ≤ 4) : sw3 (256 * (256 * c + b) + a) = 256 * (256 * ((c + c / 16) % 16) + (b + b / 16) % 16) + (a + a / 16) % 16 := by
  have e1 : 256 * (256 * c + b) + a + (256 * (256 * c + b) + a) / 16 = 256 * (256 * (c + c / 16) + (b + b / 16 + 16 * (c % 16))) + (a + a / 16 + 16 * (b % 16)) := by omega
  unfold sw3
  rw [e1]
  have h1 := and_split (k := 8) (a := a + a / 16 + 16 * (b % 16)) (b := 256 * (c + c / 16) + (b + b / 16 + 16 * (c % 16))) (m := 15) (n := 986895) (by omega) (by decide)
  have h2 := and_split (k := 8) (a := b + b / 16 + 16 * (c % 16)) (b := c + c / 16) (m := 15) (n := 3855) (by omega) (by decide)
  have h3 := and_split (k := 8) (a := c + c / 16) (b := 0) (m := 15) (n := 15) (by omega) (by decide)
  rw [show (2 : Nat) ^ 8 = 256 from rfl] at h1 h2 h3
  have h4 : c + c / 16 &&& 3855 = (c + c / 16) % 16 := by rw [← and15]; simpa using h3
  rw [show (252645135 : Nat) = 256 * 986895 + 15 from rfl, h1, show (986895 : Nat) = 256 * 3855 + 15 from rfl, h2, h4, and15, and15]
  omega
def swN (t : Nat) : Nat := (sw3 (sw2 (sw1 t)) + sw3 (sw2 (sw1 t)) / 256 + (sw3 (sw2 (sw1 t)) + sw3 (sw2 (sw1 t)) / 256) / 65536) % 64
theorem swN_ok {t : Nat} (ht : t < 2 ^ 20) : swN t = popN t 20 ∧ (t / 2 &&& 1431655765) ≤ t ∧ sw3 (sw2 (sw1 t)) < 2 ^ 24 ∧ sw2 (sw1 t) < 2 ^ 24 ∧ sw1 t < 2 ^ 24 ∧ popN t 20 ≤ 24 := by
  have e0 : t = 256 * (256 * (t / 65536) + t / 256 % 256) + t % 256 := by omega
  generalize ea : t % 256 = a at e0
  generalize eb : t / 256 % 256 = b at e0
  generalize ec : t / 65536 = c at e0
  have ha : a < 256 := by omega
  have hb : b < 256 := by omega
  have hc : c < 16 := by omega
  obtain ⟨s1, s1b⟩ := sw1_ok ha hb (show c < 256 by omega)
  obtain ⟨a1, a2, a3, a4, a5, a6⟩ := by_3 ⟨a, ha⟩
  obtain ⟨b1, b2, b3, b4, b5, b6⟩ := by_3 ⟨b, hb⟩
  obtain ⟨c1, c2, c3, c4, c5, c6⟩ := by_3 ⟨c, by omega⟩
  dsimp only at a1 a2 a3 a4 a5 a6 b1 b2 b3 b4 b5 b6 c1 c2 c3 c4 c5 c6
  have s2 := sw2_ok a2 b2 c2
  have s3 := sw3_ok (a := py2 a) (b := py2 b) (c := py2 c) a4 b4 c4 b3 c3
  rw [← e0] at s1 s1b
  have s2' : sw2 (sw1 t) = 256 * (256 * py2 c + py2 b) + py2 a := by rw [s1, s2]; rfl
  have s3' : sw3 (sw2 (sw1 t)) = 256 * (256 * py3 c + py3 b) + py3 a := by rw [s2', s3]; rfl
  have hp : popN t 20 = popN a 8 + (popN b 8 + popN c 4) := by
    have h1 := popN_split (k := 8) (a := a) (256 * c + b) (by omega) 12
    have h2 := popN_split (k := 8) (a := b) c (by omega) 4
    rw [show (2 : Nat) ^ 8 = 256 from rfl] at h1 h2
    rw [← e0] at h1
    rw [show (20 : Nat) = 8 + 12 from rfl, h1, show (12 : Nat) = 8 + 4 from rfl, h2]
  have hc8 : popN c 8 = popN c 4 := by
    have : ∀ x : Fin 16, popN x.val 8 = popN x.val 4 := by decide +kernel
    exact this ⟨c, hc⟩
  unfold swN
  rw [s3', s2', s1]
  rw [hp, ← hc8, ← a5, ← b5, ← c5]
  generalize py3 a = A at a6 ⊢
  generalize py3 b = B at b6 ⊢
  generalize py3 c = C at c6 ⊢
  refine ⟨?_, s1b, by omega, by omega, by omega, by omega⟩
  have d1 : (256 * (256 * C + B) + A) / 256 = 256 * C + B := by omega
  rw [d1]
  have d2 : (256 * (256 * C + B) + A + (256 * C + B)) / 65536 = C := by omega
  rw [d2]
  omega
theorem us_1 : ((((1 : Int32).toUInt32 &&& Int32.toUInt32 31).toBitVec % 32).toNat = 1) := by decide
theorem us_2 : ((((2 : Int32).toUInt32 &&& Int32.toUInt32 31).toBitVec % 32).toNat = 2) := by decide
theorem us_4 : ((((4 : Int32).toUInt32 &&& Int32.toUInt32 31).toBitVec % 32).toNat = 4) := by decide
theorem us_8 : ((((8 : Int32).toUInt32 &&& Int32.toUInt32 31).toBitVec % 32).toNat = 8) := by decide
theorem us_16 : ((((16 : Int32).toUInt32 &&& Int32.toUInt32 31).toBitVec % 32).toNat = 16) := by decide
theorem nI_andL (a : Nat) {m : Int32} {k : Nat} (h : m = nI k) : nI a &&& m = nI (a &&& k) := by rw [h, nI_and]
theorem c_bitCount {t : Nat} (ht : t < 2 ^ 20) (w : eW) : fJ6_bitCount_0f7a4 (nI t) w = some (nI (popN t 20), w) := by
  obtain ⟨h0, h1, h2, h3, h4, h5⟩ := swN_ok ht
  rw [fJ6_bitCount_0f7a4, fJ6_bitCount_0f7a4_0]
  rw [pk_ushrN (show t < 2 ^ 32 by omega) 1 1 us_1, nI_andL _ (m := 1431655765) (k := 1431655765) rfl, pk_sub (by omega), show t - (t / 2 ^ 1 &&& 1431655765) = sw1 t from rfl]
  rw [pk_ushrN (show sw1 t < 2 ^ 32 by omega) 2 2 us_2, nI_andL _ (m := 858993459) (k := 858993459) rfl, nI_andL _ (m := 858993459) (k := 858993459) rfl, nI_add, show (sw1 t &&& 858993459) + (sw1 t / 2 ^ 2 &&& 858993459) = sw2 (sw1 t) from rfl]
  rw [pk_ushrN (show sw2 (sw1 t) < 2 ^ 32 by omega) 4 4 us_4, nI_add, nI_andL _ (m := 252645135) (k := 252645135) rfl, show (sw2 (sw1 t) + sw2 (sw1 t) / 2 ^ 4) &&& 252645135 = sw3 (sw2 (sw1 t)) from rfl]
  generalize hv : sw3 (sw2 (sw1 t)) = v at h2 h0
  rw [pk_ushrN (show v < 2 ^ 32 by omega) 8 8 us_8, nI_add, show v / 2 ^ 8 = v / 256 from rfl, pk_ushrN (show v + v / 256 < 2 ^ 32 by omega) 16 16 us_16, nI_add, nI_andL _ (m := 63) (k := 63) rfl, show v + v / 256 + (v + v / 256) / 2 ^ 16 &&& 63 = (v + v / 256 + (v + v / 256) / 65536) % 64 from Nat.and_two_pow_sub_one_eq_mod _ 6]
  rw [← h0]
  unfold swN
  rw [hv]
