/-! ===== now: ells, to nowhere ===== -/
def elS (z : Nat → Nat) : Nat → Nat
  | 0 => 0
  | b + 1 => elS z b + bl z b
def twS (d : Lnd) (z : Nat → Nat) (b : Nat) : Nat → Bool
  | 0 => false
  | i + 1 => twS d z b i || isT d (cb d z b i)
theorem twS_up {d : Lnd} {z : Nat → Nat} {b i j : Nat} (h : twS d z b i = true) (hij : i ≤ j) : twS d z b j = true := by
  induction j with
  | zero => rw [show i = 0 by omega] at h; exact h
  | succ j ih =>
    by_cases q : i = j + 1
    · rw [← q]; exact h
    · rw [twS, ih (by omega)]; rfl
def nwS (d : Lnd) (z : Nat → Nat) : Nat → Nat
  | 0 => 0
  | b + 1 => if 0 < bl z b ∧ twS d z b (bl z b + 1) = false then nwS d z b ||| 2 ^ b else nwS d z b
section NOW
variable {g : eS} {d : Lnd} {z : Nat → Nat}
theorem c_ells (hS : CS g 16 d z) : fX0_ells 14 (eE g) = some (nI (elS z (z 0)), eE g) := by
  obtain ⟨hL, hd, hz, ho⟩ := hS
  have h4 := ho.1
  have key : ∀ (fu b : Nat), b ≤ z 0 → z 0 - b < fu → fX0_ells_4 fu 14 (nI (elS z b)) (nI b) (eE g) = some (nI (elS z (z 0)), eE g) := by
    intro fu
    induction fu with
    | zero => intro b h1 h2; omega
    | succ fu ih =>
      intro b h1 h2
      rw [fX0_ells_4, c_size b14 hz, b2s]
      by_cases hb : b = z 0
      · subst hb
        rw [if_pos (nI_le (Nat.le_refl _) (by omega))]
      · rw [if_neg (nI_ge (show b < z 0 by omega) (by omega)), c_len b14 hz (by omega), b2s, nI_add, nI_1]
        exact ih (b + 1) (by omega) (by omega)
  simp only [fX0_ells, fX0_ells_0, tO, cond_true]
  exact key eN 0 (by omega) (by rw [eN_eq]; omega)
theorem q_ells (hS : MS g 43 d z) : fX11_ells 38 (eE g) = some (nI (elS z (z 0)), eE g) := by
  obtain ⟨hL, hd, hz, ho⟩ := hS
  have h4 := ho.1
  have e0 : g.2.1 43 0 = nI (z 0) := hz 0 (by decide)
  have key : ∀ (fu b : Nat), b ≤ z 0 → z 0 - b < fu → fX11_ells_4 fu 38 (nI (elS z b)) (nI b) (eE g) = some (nI (elS z (z 0)), eE g) := by
    intro fu
    induction fu with
    | zero => intro b h1 h2; omega
    | succ fu ih =>
      intro b h1 h2
      simp only [fX11_ells_4, tR, bis, tK, e0]
      by_cases hb : b = z 0
      · subst hb
        rw [if_pos (nI_le (Nat.le_refl _) (by omega))]
      · rw [if_neg (nI_ge (show b < z 0 by omega) (by omega)), q_len a43 hz (by omega), b2s, nI_add, nI_1]
        exact ih (b + 1) (by omega) (by omega)
  simp only [fX11_ells, fX11_ells_0, tO, cond_true]
  exact key eN 0 (by omega) (by rw [eN_eq]; omega)
theorem b01i (b : Bool) : ((if b then (1 : Int32) else 0) = 0) ↔ b = false := by cases b <;> decide
theorem eZ_b (b : Bool) : eZ (if b then (1 : Int32) else 0) = some (if b then 1 else 0) := by cases b; exact eZ_0; exact eZ_1
theorem c_touches (hS : CS g 16 d z) {b : Nat} (hb : b < z 0) : fX0_touchesTown 14 (nI b) (eE g) = some (if twS d z b (bl z b + 1) then 1 else 0, eE g) := by
  obtain ⟨hL, hd, hz, ho⟩ := hS
  have hC := okL_C hd
  have h4 := ho.1
  obtain ⟨q1, q2, q3⟩ := ho.2 b hb
  have key : ∀ (fu i : Nat), i ≤ bl z b → bl z b - i < fu → fX0_touchesTown_18 fu 14 (nI b) (nI (cb d z b i)) (if twS d z b (i + 1) then 1 else 0) (nI i) (eE g) = some (if twS d z b (bl z b + 1) then 1 else 0, eE g) := by
    intro fu
    induction fu with
    | zero => intro i h1 h2; omega
    | succ fu ih =>
      intro i h1 h2
      rw [fX0_touchesTown_18, c_len b14 hz (by omega), b2s]
      by_cases hi : i = bl z b
      · subst hi
        rw [if_pos (nI_le (Nat.le_refl _) (by omega)), eZ_b, bis]
      · have hi2 : i < bl z b := by omega
        rw [if_neg (nI_ge hi2 (by omega))]
        cases ht : twS d z b (i + 1) with
        | true =>
          rw [if_neg (show ¬ (if true = true then (1 : Int32) else 0) = 0 by decide), eZ_b, bis, twS_up ht (by omega)]
        | false =>
          have hc := okB_cb hd ho hb i (by omega)
          have hc' := okB_cb hd ho hb (i + 1) (by omega)
          have nx := ih (i + 1) (by omega) (by omega)
          rw [twS, ht, Bool.false_or] at nx
          rw [if_pos (show (if false = true then (1 : Int32) else 0) = 0 by decide)]
          simp only [tR, bis]
          rw [c_card b14 hz (by omega) (by omega), b2s, c_neighbour g1 hL hd hc (q3 i hi2).1, b2s, okB_nb ho hb hi2, show oM1 (some (cb d z b (i + 1))) = nI (cb d z b (i + 1)) from rfl]
          simp only [tR, bis]
          rw [c_isTown g1 hL hd (by omega), b2s, nI_1]
          exact nx
  have k0 := key eN 0 (by omega) (by rw [eN_eq]; omega)
  rw [twS, show twS d z b 0 = false from rfl, Bool.false_or] at k0
  simp only [fX0_touchesTown, fX0_touchesTown_0, tO, tR, bis, cond_true, c_first b14 hz (show b < 4 by omega), b2s, c_isTown g1 hL hd (show bf z b < 20 by omega)]
  exact k0
theorem c_nowhere (hS : CS g 16 d z) : fX0_toNowhere 14 (eE g) = some (nI (nwS d z (z 0)), eE g) := by
  have hS' := hS
  obtain ⟨hL, hd, hz, ho⟩ := hS
  have h4 := ho.1
  have key : ∀ (fu b : Nat), b ≤ z 0 → z 0 - b < fu → fX0_toNowhere_4 fu 14 (nI (nwS d z b)) (nI b) (eE g) = some (nI (nwS d z (z 0)), eE g) := by
    intro fu
    induction fu with
    | zero => intro b h1 h2; omega
    | succ fu ih =>
      intro b h1 h2
      rw [fX0_toNowhere_4, c_size b14 hz, b2s]
      by_cases hb : b = z 0
      · subst hb
        rw [if_pos (nI_le (Nat.le_refl _) (by omega))]
      · have hb2 : b < z 0 := by omega
        have q2 := (ho.2 b hb2).2.1
        rw [if_neg (nI_ge hb2 (by omega)), c_len b14 hz (by omega), b2s]
        have nx := ih (b + 1) (by omega) (by omega)
        rw [nwS] at nx
        by_cases h0 : bl z b = 0
        · rw [if_neg (by omega)] at nx
          rw [if_pos (by rw [h0]; decide), fX0_toNowhere_35, nI_1]
          exact nx
        · rw [if_neg (nI_nle (by omega) (by omega)), c_touches hS' hb2, b2s]
          cases ht : twS d z b (bl z b + 1) with
          | true =>
            rw [ht, if_neg (by simp)] at nx
            rw [if_neg (show ¬ (if true = true then (1 : Int32) else 0) = 0 by decide), fX0_toNowhere_35, nI_1]
            exact nx
          | false =>
            rw [ht, if_pos ⟨by omega, rfl⟩] at nx
            rw [if_pos (show (if false = true then (1 : Int32) else 0) = 0 by decide), m_bit, b2s, bit_nI b (by omega), nI_or, fX0_toNowhere_35, nI_1]
            exact nx
  simp only [fX0_toNowhere, fX0_toNowhere_0, tO, cond_true]
  exact key eN 0 (by omega) (by rw [eN_eq]; omega)
theorem q_nowhere (hS : MS g 43 d z) : fX11_nowhere 38 (eE g) = some (nI (nwS d z (z 0)), eE g) := by
  have hS' := hS
  obtain ⟨hL, hd, hz, ho⟩ := hS
  have hC := okL_C hd
  have h4 := ho.1
  have e0 : g.2.1 43 0 = nI (z 0) := hz 0 (by decide)
  have key : ∀ (fu b : Nat), b ≤ z 0 → z 0 - b < fu → fX11_nowhere_4 fu 38 (nI (nwS d z b)) (nI b) (eE g) = some (nI (nwS d z (z 0)), eE g) := by
    intro fu
    induction fu with
    | zero => intro b h1 h2; omega
    | succ fu ih =>
      intro b h1 h2
      simp only [fX11_nowhere_4, tR, bis, tK, e0]
      by_cases hb : b = z 0
      · subst hb
        rw [if_pos (nI_le (Nat.le_refl _) (by omega))]
      · have hb2 : b < z 0 := by omega
        have q2 := (ho.2 b hb2).2.1
        rw [if_neg (nI_ge hb2 (by omega))]
        have nx := ih (b + 1) (by omega) (by omega)
        rw [nwS] at nx
        have l1 := q_len a43 hz (show b < 4 by omega)
        have k2 : ∀ (fv i : Nat), i ≤ bl z b + 1 → bl z b + 1 - i < fv → fX11_nowhere_19 (fX11_nowhere_4 fu) fv 38 (nI (nwS d z b)) (nI b) (if twS d z b i then 1 else 0) (nI i) (eE g) = some (nI (nwS d z (z 0)), eE g) := by
          intro fv
          induction fv with
          | zero => intro i i1 i2; omega
          | succ fv ihv =>
            intro i i1 i2
            simp only [fX11_nowhere_19, tR, bis, l1, b2s]
            by_cases hi : i = bl z b + 1
            · subst hi
              rw [if_pos (nI_lt (by omega) (by omega))]
              by_cases h0 : bl z b = 0
              · rw [if_neg (by omega)] at nx
                rw [if_pos (by rw [h0]; decide), fX11_nowhere_88, fX11_nowhere_89, show (0 : Int32) = nI 0 from rfl, nI_or, Nat.or_zero, nI_1]
                exact nx
              · rw [if_neg (nI_nle (by omega) (by omega))]
                cases ht : twS d z b (bl z b + 1) with
                | true =>
                  rw [ht, if_neg (by simp)] at nx
                  rw [if_neg (show ¬ (if true = true then (1 : Int32) else 0) = 0 by decide), fX11_nowhere_88, fX11_nowhere_89, show (0 : Int32) = nI 0 from rfl, nI_or, Nat.or_zero, nI_1]
                  exact nx
                | false =>
                  rw [ht, if_pos ⟨by omega, rfl⟩] at nx
                  rw [if_pos (show (if false = true then (1 : Int32) else 0) = 0 by decide), fX11_nowhere_89, bit_nI b (by omega), nI_or, nI_1]
                  exact nx
            · have hi2 : i ≤ bl z b := by omega
              rw [if_neg (nI_nlt hi2 (by omega))]
              have hc := okB_cb hd ho hb2 i hi2
              have nk := ihv (i + 1) (by omega) (by omega)
              cases ht : twS d z b i with
              | true =>
                rw [twS, ht] at nk
                rw [if_neg (show ¬ (if true = true then (1 : Int32) else 0) = 0 by decide), fX11_nowhere_54, fX11_nowhere_59, nI_1]
                exact nk
              | false =>
                rw [twS, ht, Bool.false_or] at nk
                rw [if_pos (show (if false = true then (1 : Int32) else 0) = 0 by decide), q_behind a43 hS' hb2 hi2, b2s, q_isTown hL hd (by omega), b2s]
                cases hT : isT d (cb d z b i) with
                | true =>
                  rw [hT] at nk
                  rw [if_neg (show ¬ (if true = true then (1 : Int32) else 0) = 0 by decide), fX11_nowhere_54, fX11_nowhere_59, nI_1]
                  exact nk
                | false =>
                  rw [hT] at nk
                  rw [if_pos (show (if false = true then (1 : Int32) else 0) = 0 by decide), fX11_nowhere_59, nI_1]
                  exact nk
        exact k2 eN 0 (by omega) (by rw [eN_eq]; omega)
  simp only [fX11_nowhere, fX11_nowhere_0, tO, cond_true]
  exact key eN 0 (by omega) (by rw [eN_eq]; omega)
end NOW
