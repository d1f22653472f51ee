/-! ===== look ===== -/
theorem sh_fin : ∀ j : Fin 31, ((nI j.val &&& 31).toBitVec.smod 32).toNat = j.val := by decide +kernel
theorem shr1 {t j : Nat} (ht : t < 2 ^ 31) (hj : j < 31) : (nI t >>> (nI j &&& 31)) &&& (1 : Int32) = nI (if t.testBit j then 1 else 0) := by
  rw [pk_shrN ht (nI j &&& 31) j (sh_fin ⟨j, hj⟩), show (1 : Int32) = nI 1 from rfl, nI_and]
  apply congrArg nI
  rw [show (1 : Nat) = 2 ^ 1 - 1 from rfl, Nat.and_two_pow_sub_one_eq_mod, Nat.testBit_eq_decide_div_mod_eq]
  by_cases h : t / 2 ^ j % 2 = 1
  · rw [show decide (t / 2 ^ j % 2 = 1) = true from decide_eq_true h]; simpa using h
  · rw [show decide (t / 2 ^ j % 2 = 1) = false from decide_eq_false h]
    have : t / 2 ^ j % 2 = 0 := by omega
    simpa using this
theorem popN_le (t : Nat) : ∀ k, popN t k ≤ k := by
  intro k
  induction k with
  | zero => exact Nat.le_refl _
  | succ k ih => rw [popN]; split <;> omega
theorem q_count {t : Nat} (ht : t < 2 ^ 20) (w : eW) : fX11_look_161 eN (nI t) 0 0 w = some (nI (popN t 20), w) := by
  have key : ∀ (fu k : Nat), k ≤ 20 → 20 - k < fu → fX11_look_161 fu (nI t) (nI (popN t k)) (nI k) w = some (nI (popN t 20), w) := by
    intro fu
    induction fu with
    | zero => intro k h1 h2; omega
    | succ fu ih =>
      intro k h1 h2
      rw [fX11_look_161]
      by_cases hk : k = 20
      · subst hk
        rw [if_pos (by decide)]
      · rw [if_neg (show ¬ (20 : Int32) ≤ nI k from nI_ge (a := k) (b := 20) (by omega) (by decide)), shr1 (by omega) (by omega), nI_add, nI_1]
        exact ih (k + 1) (by omega) (by omega)
  exact key eN 0 (by omega) (by rw [eN_eq]; omega)
theorem xm_fin : ∀ j : Fin 31, nI (2 ^ j.val) ^^^ (-1 : Int32) = nI (2 ^ 32 - 1 - 2 ^ j.val) := by decide +kernel
/-- the cells that card i may reach, over the first k changes -/
def lk (d : Lnd) (z : Nat → Nat) (b i : Nat) : Nat → Nat
  | 0 => 0
  | k + 1 => match cIf d z b (k / 4) (k % 4) i with
    | none => lk d z b i k
    | some e => lk d z b i k ||| 2 ^ e
theorem lk_lt {d : Lnd} (hd : okL d) {z : Nat → Nat} (ho : okB d z) {b i : Nat} (hb : b < z 0) : ∀ k, lk d z b i k < 2 ^ 20 := by
  intro k
  have hC := okL_C hd
  induction k with
  | zero => exact Nat.two_pow_pos _
  | succ k ih =>
    rw [lk]
    split
    next => exact ih
    next e he => exact or_lt ih (two_lt (by have := cIf_lt hd ho hb he; omega))
def lkV (d : Lnd) (z : Nat → Nat) (b i : Nat) : Nat := popN (lk d z b i (bl z b * 4) &&& (2 ^ 32 - 1 - 2 ^ cb d z b i)) 20
theorem and_lt20 {a b : Nat} (ha : a < 2 ^ 20) : a &&& b < 2 ^ 20 := Nat.lt_of_le_of_lt Nat.and_le_left ha
theorem c_look_loop {g : eS} {d : Lnd} {z : Nat → Nat} (hS : CS g 16 d z) {b i : Nat} (hb : b < z 0) (hi : i ≤ bl z b) : ∀ (fu k : Nat), k ≤ bl z b * 4 → bl z b * 4 - k < fu → fX10_look_35 fu 0 (nI b) (nI i) (nI (lk d z b i k)) (nI k) (eE g) = some (nI (lkV d z b i), eE g) := by
  have hS' := hS
  obtain ⟨hL, hd, hz, ho⟩ := hS
  have hC := okL_C hd
  have h4 := ho.1
  obtain ⟨q1, hl12, q3⟩ := ho.2 b hb
  have l1 := c_len b14 hz (show b < 4 by omega)
  intro fu
  induction fu with
  | zero => intro k h1 h2; omega
  | succ fu ih =>
    intro k h1 h2
    simp only [fX10_look_35, tR, bis, l1, b2s, mul4]
    by_cases hk : k = bl z b * 4
    · subst hk
      have hc := okB_cb hd ho hb i hi
      rw [if_pos (nI_le (Nat.le_refl _) (by omega))]
      simp only [c_behind b14 hS' hb hi, b2s, m_bit, bit_nI _ (show cb d z b i < 31 by omega)]
      rw [xm_fin ⟨cb d z b i, by omega⟩, nI_and, c_bitCount (and_lt20 (lk_lt hd ho hb _)), b2s]
      rfl
    · have e1 := c_cellIf hS' hb (show k < bl z b * 4 by omega) hi
      rw [if_neg (nI_ge (show k < bl z b * 4 by omega) (by omega)), e1, b2s]
      have nx := ih (k + 1) (by omega) (by omega)
      rw [lk] at nx
      cases hx : cIf d z b (k / 4) (k % 4) i with
      | none =>
        rw [hx] at nx
        rw [show oM1 none = -1 from rfl, if_pos rfl, fX10_look_79, show (0 : Int32) = nI 0 from rfl, nI_or, Nat.or_zero, nI_1]
        exact nx
      | some e =>
        rw [hx] at nx
        have he := cIf_lt hd ho hb hx
        rw [show oM1 (some e) = nI e from rfl, if_neg (nI_neg1 (show e < 2 ^ 31 by omega)), m_bit, b2s, bit_nI e (by omega), fX10_look_79, nI_or, nI_1]
        exact nx
theorem q_look_loop {g : eS} {d : Lnd} {z : Nat → Nat} (hS : MS g 43 d z) {b i : Nat} (hb : b < z 0) (hi : i ≤ bl z b) : ∀ (fu k : Nat), k ≤ bl z b → bl z b - k < fu → fX11_look_36 fu 38 (nI b) (nI i) (nI (lk d z b i (k * 4))) (nI k) (eE g) = some (nI (lkV d z b i), eE g) := by
  have hS' := hS
  obtain ⟨hL, hd, hz, ho⟩ := hS
  have hC := okL_C hd
  have h4 := ho.1
  have hb4 : b < 4 := by omega
  obtain ⟨q1, hl12, q3⟩ := ho.2 b hb
  have l1 := q_len a43 hz hb4
  intro fu
  induction fu with
  | zero => intro k h1 h2; omega
  | succ fu ih =>
    intro i' h1 h2
    simp only [fX11_look_36, tR, bis, l1, b2s]
    by_cases hii : i' = bl z b
    · subst hii
      have hc := okB_cb hd ho hb i hi
      rw [if_pos (nI_le (Nat.le_refl _) (by omega))]
      simp only [q_behind a43 hS' hb hi, b2s, bit_nI _ (show cb d z b i < 31 by omega)]
      rw [xm_fin ⟨cb d z b i, by omega⟩, nI_and, q_count (and_lt20 (lk_lt hd ho hb _))]
      rfl
    · have hi2 : i' < bl z b := by omega
      rw [if_neg (nI_ge hi2 (by omega))]
      have nx := ih (i' + 1) (by omega) (by omega)
      have cl := q_card a43 hz hb4 (show i' < 12 by omega)
      have key : ∀ (fv k : Nat), k ≤ 4 → 4 - k < fv → fX11_look_52 (fX11_look_36 fu) fv 38 (nI b) (nI i) (nI (lk d z b i (i' * 4 + k))) (nI i') (nI k) (eE g) = some (nI (lkV d z b i), eE g) := by
        intro fv
        induction fv with
        | zero => intro k k1 k2; omega
        | succ fv ihv =>
          intro k k1 k2
          rw [fX11_look_52]
          by_cases hk : k = 4
          · subst hk
            rw [if_pos (show (4 : Int32) ≤ nI 4 by decide), nI_1]
            rw [show (i' + 1) * 4 = i' * 4 + 4 by omega] at nx
            exact nx
          · have hk4 : k < 4 := by omega
            have nk := ihv (k + 1) (by omega) (by omega)
            rw [if_neg (show ¬ (4 : Int32) ≤ nI k from nI_ge (a := k) (b := 4) hk4 (by decide))]
            have ot := q_other hS' (ch := i') (ot := k) hb (by omega) hk4 (Nat.le_refl _)
            have ot2 := q_other hS' (ch := i') (ot := k) hb (by omega) hk4 hi
            have hdiv : (i' * 4 + k) / 4 = i' := by omega
            have hmod : (i' * 4 + k) % 4 = k := by omega
            rw [show i' * 4 + (k + 1) = i' * 4 + k + 1 by omega, lk, hdiv, hmod] at nk
            simp only [tR, bis, cl, b2s]
            by_cases hcard : k = bc z b i'
            · have hx : cIf d z b i' k i = none := by unfold cIf; rw [if_pos hcard.symm]
              rw [hx] at nk
              rw [if_pos (by rw [← hcard]), fX11_look_99, fX11_look_100, if_pos rfl, fX11_look_124, show (0 : Int32) = nI 0 from rfl, nI_or, Nat.or_zero, nI_1]
              exact nk
            · have cb4 := (q3 i' hi2).1
              rw [if_neg (fun q => hcard ((nI_eq (by omega) (by omega)).mp q))]
              simp only [l1, b2s, ot]
              cases hp : pw d z b i' k (bl z b) with
              | none =>
                have hx : cIf d z b i' k i = none := by unfold cIf; rw [if_neg (fun q => hcard q.symm), hp]
                rw [hx] at nk
                rw [show oM9 none = -9 from rfl, if_pos rfl, fX11_look_99, fX11_look_100, if_pos rfl, fX11_look_124, show (0 : Int32) = nI 0 from rfl, nI_or, Nat.or_zero, nI_1]
                exact nk
              | some e =>
                have he := pw_lt hd ho hb _ _ hp
                have hx : cIf d z b i' k i = pw d z b i' k i := by unfold cIf; rw [if_neg (fun q => hcard q.symm), hp]
                rw [show oM9 (some e) = nI e from rfl, if_neg (nI_neg9 (show e < 2 ^ 31 by omega)), fX11_look_100, if_neg one_ne0, ot2, b2s]
                cases hq : pw d z b i' k i with
                | none => rw [pw_none hq hi] at hp; cases hp
                | some f =>
                  have hf := pw_lt hd ho hb _ _ hq
                  rw [hx, hq] at nk
                  rw [show oM9 (some f) = nI f from rfl, bit_nI f (by omega), fX11_look_124, nI_or, nI_1]
                  exact nk
      exact key eN 0 (by omega) (by rw [eN_eq]; omega)
theorem lt1_0 {x : Int32} (h : x < 0) : x < 1 := by
  rw [Int32.lt_iff_toInt_lt] at h ⊢
  have h1 : (1 : Int32).toInt = 1 := by decide
  have h0 : (0 : Int32).toInt = 0 := by decide
  omega
theorem sim20 : Sim20 Rl := by
  intro g r x u
  obtain ⟨n, tx, d, z, kn, nx, H, kp, Z, r1, r2, r8, r9, r10⟩ := id r
  have hd := r2.2.2.1
  have hC := okL_C hd
  have h4 := r2.2.2.2.2.2.1
  rcases inOr x (show z 0 < 2 ^ 31 by omega) with ⟨b, hb, rfl⟩ | hx
  · have hb4 : b < 4 := by omega
    have e1 := c_has b14 r2.2.2.2.1 h4 hb
    have e2 := q_isB (th_BZ r2.2.2.2.2.1) h4 hb
    have l1 := c_len b14 r2.2.2.2.1 hb4
    have l2 := q_len a43 (th_BZ r2.2.2.2.2.1) hb4
    have hl12 := (r2.2.2.2.2.2.2 b hb).2.1
    rcases inOr u (show bl z b + 1 < 2 ^ 31 by omega) with ⟨i, hi, rfl⟩ | hu
    · by_cases hi0 : i = 0
      · subst hi0
        refine ⟨-1, g, eSI g 38 0 0, ?_, ?_, kp_Rl (kp_th g) r⟩
        · simp only [fX10_look, fX10_look_0, tO, tR, bis, b2s, cond_true, e1, if_neg one_ne0, show nI 0 < 1 by decide, if_true]
        · simp only [fX11_look, fX11_look_0, tO, tR, tP, bis, b2s, cond_true, e2, l2, if_neg one_ne0, m_in, show nI 0 < 1 by decide, true_or, if_true]
      · refine ⟨nI (lkV d z b i), g, eSI g 38 0 0, ?_, ?_, kp_Rl (kp_th g) r⟩
        · have k1 := c_look_loop (rb_CS r2) hb (show i ≤ bl z b by omega) eN 0 (by omega) (by rw [eN_eq]; omega)
          rw [show lk d z b i 0 = 0 from rfl, nI_0] at k1
          simp only [fX10_look, fX10_look_0, tO, tR, bis, b2s, cond_true, e1, l1, if_neg one_ne0, if_neg (show ¬ nI i < 1 from nI_nlt (a := i) (b := 1) (by omega) (by omega)), if_pos (nI_le (show i ≤ bl z b by omega) (by omega))]
          exact k1
        · have k2 := q_look_loop (th_MS (rb_MS r2)) hb (show i ≤ bl z b by omega) eN 0 (by omega) (by rw [eN_eq]; omega)
          rw [show lk d z b i (0 * 4) = 0 from rfl, nI_0] at k2
          simp only [fX11_look, fX11_look_0, tO, tR, tP, bis, b2s, cond_true, e2, l2, if_neg one_ne0, m_in, if_neg (show ¬ (nI i < 1 ∨ nI (bl z b) < nI i) from fun q => q.elim (nI_nlt (a := i) (b := 1) (by omega) (by omega)) (nI_nlt (show i ≤ bl z b by omega) (by omega)))]
          exact k2
    · refine ⟨-1, g, eSI g 38 0 0, ?_, ?_, kp_Rl (kp_th g) r⟩
      · rcases hu with hu | hu
        · simp only [fX10_look, fX10_look_0, tO, tR, bis, b2s, cond_true, e1, if_neg one_ne0, if_pos (lt1_0 hu)]
        · have hn : ¬ u ≤ nI (bl z b) := by
            rw [Int32.le_iff_toInt_le, nI_toInt (by omega)] at hu ⊢
            omega
          by_cases h1 : u < 1
          · simp only [fX10_look, fX10_look_0, tO, tR, bis, b2s, cond_true, e1, if_neg one_ne0, if_pos h1]
          · simp only [fX10_look, fX10_look_0, tO, tR, bis, b2s, cond_true, e1, l1, if_neg one_ne0, if_neg h1, if_neg hn]
      · have hc : u < 1 ∨ nI (bl z b) < u := by
          rcases hu with hu | hu
          · exact Or.inl (lt1_0 hu)
          · refine Or.inr ?_
            rw [Int32.le_iff_toInt_le, nI_toInt (by omega)] at hu
            rw [Int32.lt_iff_toInt_lt, nI_toInt (by omega)]
            omega
        simp only [fX11_look, fX11_look_0, tO, tR, tP, bis, b2s, cond_true, e2, l2, if_neg one_ne0, m_in, if_pos hc, if_true]
  · refine ⟨-1, g, eSI g 38 0 0, ?_, ?_, kp_Rl (kp_th g) r⟩
    · simp only [fX10_look, fX10_look_0, tO, tR, bis, b2s, cond_true, c_hasNo b14 r2.2.2.2.1 hx, if_true]
    · simp only [fX11_look, fX11_look_0, tO, tP, bis, b2s, cond_true, q_isBNo (th_BZ r2.2.2.2.2.1) h4 hx, if_true]
