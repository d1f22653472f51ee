/-! ===== joined, pieces ===== -/
theorem sim14 : Sim14 Rl := by
  intro g r x u
  obtain ⟨n, tx, d, z, kn, nx, H, kp, Z, r1, r2, r8, r9, r10⟩ := id r
  have hd := r2.2.2.1
  have hC := okL_C hd
  have ho := r2.2.2.2.2.2
  rcases inOr x (show lC d < 2 ^ 31 by omega) with ⟨a, ha, rfl⟩ | hx
  · have e1 := c_hasN g1 r2.1 hd ha
    rcases inOr u (show lC d < 2 ^ 31 by omega) with ⟨b, hb, rfl⟩ | hu
    · have e2 := c_hasN g1 r2.1 hd hb
      have hS := rb_CS r2
      have l1 := c_lay R22 b14 hS
      have hok := rd_ok hd ho
      have k1 := kp_rd R22 g (rdR d z) (rdD d z)
      have re := c_reach R22 (kp_CL k1 r2.1) hd hok (rdS_1 g 22 _ _) (rdS_2 g 22 _ _) (m := 20) (inC_1 ha) (Nat.le_refl _)
      rw [show nI 20 = 20 from rfl] at re
      have k2 := kp_tr k1 (kp_th _)
      obtain ⟨F, T, f1, f2, f3, f4⟩ := q_builds a43 (kp_MS k2 (rb_MS r2))
      have k3 := kp_tr k2 (kp_ar _ F T)
      obtain ⟨G, s1, s2⟩ := q_spreads (kp_ML k3 r2.2.1) hd f4 f2 ha
      have hlt := dst_lt (S := 2 ^ a) hd hok hb
      have hle : dst d (rdR d z) (rdD d z) (2 ^ a) b ≤ FF := Nat.le_trans (Bd_mono (Nat.zero_le _) b) (fS_le _ b)
      have hr20 := inC_lt hd (rc_inC hd hok (inC_1 ha) 20)
      have hff : FF = 1000000 := rfl
      refine ⟨if (rc (lW d) (rdR d z) (rdD d z) (2 ^ a) 20).testBit b then 1 else 0, rdS g 22 (rdR d z) (rdD d z), eSA (arS (eSI (rdS g 22 (rdR d z) (rdD d z)) 38 0 0) F T) 50 G, ?_, ?_, kp_Rl (kp_tr k3 (kp_50 _ G)) r⟩
      · simp only [fX10_joined, fX10_joined_0, tO, tR, bis, b2s, cond_true, e1, e2, if_neg one_ne0, l1, m_bit, bit_nI a (show a < 31 by omega), bit_nI b (show b < 31 by omega), re]
        cases hq : (rc (lW d) (rdR d z) (rdD d z) (2 ^ a) 20).testBit b with
        | false => rw [if_pos ((and_bit (by omega)).mpr hq)]; rfl
        | true => rw [if_neg (fun q => by rw [(and_bit (by omega)).mp q] at hq; cases hq)]; rfl
      · have i1 := q_isN (kp_ML k2 r2.2.1) hd ha
        have i2 := q_isN (kp_ML k2 r2.2.1) hd hb
        simp only [fX11_joined, fX11_joined_0, tO, tR, tP, bis, b2s, cond_true, i1, i2, if_neg one_ne0, f1, s1]
        rw [ld (n := 20) _ ar_50 (by decide) (by omega), bis, sA50, s2 b hb, nIFF]
        cases hq : (rc (lW d) (rdR d z) (rdD d z) (2 ^ a) 20).testBit b with
        | false =>
          rw [hq] at hlt
          rw [if_pos (nI_le (by have := hlt.mp; apply Nat.le_of_not_lt; intro q; exact absurd (hlt.mp q) (by decide)) (by omega))]; rfl
        | true => rw [if_neg (nI_ge (hlt.mpr hq) (by omega))]; rfl
    · refine ⟨-1, g, eSI g 38 0 0, ?_, ?_, kp_Rl (kp_th g) r⟩
      · simp only [fX10_joined, fX10_joined_0, tO, tR, bis, b2s, cond_true, e1, c_hasO g1 r2.1 hu, if_neg one_ne0, if_true]
      · simp only [fX11_joined, fX11_joined_0, tO, tP, bis, b2s, cond_true, q_isN (th_ML r2.2.1) hd ha, q_isO (th_ML r2.2.1) hd hu, if_neg one_ne0, if_true]
  · refine ⟨-1, g, eSI g 38 0 0, ?_, ?_, kp_Rl (kp_th g) r⟩
    · simp only [fX10_joined, fX10_joined_0, tO, tR, bis, b2s, cond_true, c_hasO g1 r2.1 hx, if_true]
    · simp only [fX11_joined, fX11_joined_0, tO, tP, bis, b2s, cond_true, q_isO (th_ML r2.2.1) hd hx, if_true]
/-- how many pieces, and what is reached, by the first towns -/
def pcs (d : Lnd) (R D : Nat) : Nat → Nat × Nat
  | 0 => (0, 0)
  | t + 1 => if (pcs d R D t).2.testBit (lT d t) then pcs d R D t else ((pcs d R D t).1 + 1, (pcs d R D t).2 ||| rc (lW d) R D (2 ^ lT d t) 20)
def mN (d : Lnd) (S : Nat) : Nat → Nat
  | 0 => 0
  | e + 1 => if S.testBit (lT d e) then mN d S e ||| 2 ^ e else mN d S e
theorem mN_bit (d : Lnd) (S e : Nat) : ∀ n, (mN d S n).testBit e = true ↔ e < n ∧ S.testBit (lT d e) = true := by
  intro n
  induction n with
  | zero => rw [mN, Nat.zero_testBit]; simp
  | succ n ih =>
    rw [mN]
    by_cases hq : S.testBit (lT d n) = true
    · rw [if_pos hq, tb_or, Bool.or_eq_true, ih, decide_eq_true_eq]
      constructor
      · rintro (h | h)
        · exact ⟨by omega, h.2⟩
        · subst h; exact ⟨by omega, hq⟩
      · rintro ⟨h1, h2⟩
        by_cases h3 : n = e
        · exact Or.inr h3
        · exact Or.inl ⟨by omega, h2⟩
    · rw [if_neg hq, ih]
      constructor
      · rintro ⟨h1, h2⟩; exact ⟨by omega, h2⟩
      · rintro ⟨h1, h2⟩
        refine ⟨?_, h2⟩
        by_cases h3 : n = e
        · subst h3; exact absurd h2 hq
        · omega
theorem mN_or (d : Lnd) (S Q n : Nat) : mN d (S ||| Q) n = mN d S n ||| mN d Q n := by
  apply Nat.eq_of_testBit_eq
  intro e
  rw [Bool.eq_iff_iff, mN_bit, Nat.testBit_or, Nat.testBit_or, Bool.or_eq_true, Bool.or_eq_true, mN_bit, mN_bit]
  constructor
  · rintro ⟨h1, h2 | h2⟩
    · exact Or.inl ⟨h1, h2⟩
    · exact Or.inr ⟨h1, h2⟩
  · rintro (⟨h1, h2⟩ | ⟨h1, h2⟩)
    · exact ⟨h1, Or.inl h2⟩
    · exact ⟨h1, Or.inr h2⟩
theorem mN_lt (d : Lnd) (S : Nat) {n : Nat} (hn : n ≤ 4) : mN d S n < 16 := by
  apply Nat.lt_pow_two_of_testBit (n := 4)
  intro i hi
  cases hq : (mN d S n).testBit i with
  | false => rfl
  | true => have := ((mN_bit d S i n).mp hq).1; omega
theorem pcs_inC {d : Lnd} (hd : okL d) {R D : Nat} (hok : okRD d R D) : ∀ t, t ≤ lK d → inC d (pcs d R D t).2 ∧ (pcs d R D t).1 ≤ t := by
  intro t
  induction t with
  | zero => intro _; exact ⟨fun x hx => absurd (show Nat.testBit 0 x = true from hx) (by rw [Nat.zero_testBit]; decide), Nat.le_refl _⟩
  | succ t ih =>
    intro ht
    obtain ⟨i1, i2⟩ := ih (by omega)
    rw [pcs]
    split
    · exact ⟨i1, by omega⟩
    · refine ⟨fun x hx => ?_, by dsimp only; omega⟩
      dsimp only at hx
      rw [Nat.testBit_or, Bool.or_eq_true] at hx
      rcases hx with hx | hx
      · exact i1 x hx
      · exact rc_inC hd hok (inC_1 (hd.2.2.2.2.2.1 t (by omega))) 20 x hx
theorem c_pieces {O : Nat} (h : isRo O) {g : eS} {d : Lnd} (hL : CL g 1 3 5 d) (hd : okL d) {R D : Nat} (hok : okRD d R D) (e1 : g.1 O 1 = nI R) (e2 : g.1 O 2 = nI D) : fX6_pieces O (eE g) = some (nI (pcs d R D (lK d)).1, eE g) := by
  obtain ⟨o1, o2, -⟩ := ro_O h g
  have hC := okL_C hd
  have hK := hd.2.2.2.1
  have key : ∀ (fu t : Nat), t ≤ lK d → lK d - t < fu → fX6_pieces_6 fu O (nI (pcs d R D t).1) (nI (pcs d R D t).2) (nI t) (eE g) = some (nI (pcs d R D (lK d)).1, eE g) := by
    intro fu
    induction fu with
    | zero => intro t h1 h2; omega
    | succ fu ih =>
      intro t h1 h2
      rw [fX6_pieces_6, o2, bis, c_towns hL, b2s]
      by_cases ht : t = lK d
      · subst ht
        rw [if_pos (nI_le (Nat.le_refl _) (by omega))]
      · have ht2 : t < lK d := by omega
        have hT := hd.2.2.2.2.2.1 t ht2
        obtain ⟨i1, i2⟩ := pcs_inC hd hok t h1
        have i3 := inC_lt hd i1
        rw [if_neg (nI_ge ht2 (by omega)), o2, bis, c_townCell g1 hL hd ht2, b2s, m_bit, b2s, bit_nI _ (by omega)]
        have nx := ih (t + 1) (by omega) (by omega)
        rw [pcs] at nx
        cases hq : (pcs d R D t).2.testBit (lT d t) with
        | true =>
          rw [hq, if_pos rfl] at nx
          rw [if_neg (fun q => by rw [(and_bit (by omega)).mp q] at hq; cases hq), fX6_pieces_51, nI_1]
          exact nx
        | false =>
          rw [hq, if_neg (by decide)] at nx
          have re := c_reach h hL hd hok e1 e2 (m := 20) (inC_1 hT) (Nat.le_refl _)
          rw [show nI 20 = 20 from rfl] at re
          rw [if_pos ((and_bit (by omega)).mpr hq), re, b2s, fX6_pieces_51, nI_1, nI_1, nI_or]
          exact nx
  rw [fX6_pieces, o1, cond_true, fX6_pieces_0]
  exact key eN 0 (by omega) (by rw [eN_eq]; omega)
theorem tb_1 {t e : Nat} (ht : t < 16) (he : e < 4) : (nI t >>> (nI e &&& 31)) &&& (1 : Int32) = if t.testBit e then 1 else 0 := by
  rw [shr1 (by omega) (by omega)]
  cases t.testBit e <;> rfl
/-- the model's pieces, once the roads are built -/
theorem q_pieces_loop {g : eS} {d : Lnd} (hL : ML g d) (hd : okL d) {R D : Nat} (hok : okRD d R D) (hR : MR g d R D) : ∀ (fu t : Nat) (G : Nat → Int32), t ≤ lK d → lK d - t < fu → ∃ G', fX11_piecesOf_12 fu 38 (nI (mN d (pcs d R D t).2 (lK d))) (nI (pcs d R D t).1) (nI t) (eE (eSA g 50 G)) = some (nI (pcs d R D (lK d)).1, eE (eSA g 50 G')) := by
  have hC := okL_C hd
  have hK := hd.2.2.2.1
  have hff : FF = 1000000 := rfl
  have k0 : ∀ G, eLd (eE (eSA g 50 G)) false 40 2 = some (nI (lK d)) := fun G => by rw [(tK (eSA g 50 G)).2.2.1, sA50o g G (by decide), hL.2.2.2.1]
  intro fu
  induction fu with
  | zero => intro t G h1 h2; omega
  | succ fu ih =>
    intro t G h1 h2
    simp only [fX11_piecesOf_12, tR, bis, k0]
    by_cases ht : t = lK d
    · subst ht
      rw [if_pos (nI_le (Nat.le_refl _) (by omega))]
      exact ⟨G, rfl⟩
    · have ht2 : t < lK d := by omega
      have hT := hd.2.2.2.2.2.1 t ht2
      obtain ⟨i1, i2⟩ := pcs_inC hd hok t h1
      have mb := mN_bit d (pcs d R D t).2 t (lK d)
      rw [if_neg (nI_ge ht2 (by omega)), tb_1 (mN_lt d _ hK) (by omega)]
      have nx := fun G => ih (t + 1) G (by omega) (by omega)
      simp only [pcs] at nx
      cases hq : (pcs d R D t).2.testBit (lT d t) with
      | true =>
        simp only [hq, if_true] at nx
        rw [mb.mpr ⟨ht2, hq⟩, if_neg (show ¬ (if true = true then (1 : Int32) else 0) = 0 by decide), fX11_piecesOf_94, nI_1]
        exact nx G
      | false =>
        simp only [hq, show ¬ false = true by decide, if_false] at nx
        have hm : (mN d (pcs d R D t).2 (lK d)).testBit t = false := by
          cases hb : (mN d (pcs d R D t).2 (lK d)).testBit t with
          | false => rfl
          | true => rw [(mb.mp hb).2] at hq; cases hq
        rw [hm, if_pos (show (if false = true then (1 : Int32) else 0) = 0 by decide)]
        have lt := q_t (kp_ML (kp_50 g G) hL) hd ht2
        obtain ⟨G1, s1, s2⟩ := q_spreads (kp_ML (kp_50 g G) hL) hd hok (MR_50 hR G) hT
        rw [eSA_same] at s1
        rw [lt, bis, s1, bis]
        have key : ∀ (fv e : Nat), e ≤ lK d → lK d - e < fv → ∃ G', fX11_piecesOf_49 (fX11_piecesOf_12 fu) fv 38 (nI (mN d (pcs d R D t).2 (lK d) ||| mN d (rc (lW d) R D (2 ^ lT d t) 20) e)) (nI ((pcs d R D t).1 + 1)) (nI t) (nI e) (eE (eSA g 50 G1)) = some (nI (pcs d R D (lK d)).1, eE (eSA g 50 G')) := by
          intro fv
          induction fv with
          | zero => intro e h3 h4; omega
          | succ fv ihv =>
            intro e h3 h4
            simp only [fX11_piecesOf_49, tR, bis, k0]
            by_cases he : e = lK d
            · subst he
              rw [if_pos (nI_le (Nat.le_refl _) (by omega)), fX11_piecesOf_94, nI_1, ← mN_or]
              exact nx G1
            · have he2 : e < lK d := by omega
              have hTe := hd.2.2.2.2.2.1 e he2
              have lt2 := q_t (kp_ML (kp_50 g G1) hL) hd he2
              have hlt := dst_lt (S := 2 ^ lT d t) hd hok hTe
              have hle : dst d R D (2 ^ lT d t) (lT d e) ≤ FF := Nat.le_trans (Bd_mono (Nat.zero_le _) _) (fS_le _ _)
              rw [if_neg (nI_ge he2 (by omega)), lt2, bis, ld (n := 20) _ ar_50 (by decide) (by omega), bis, sA50, s2 _ hTe, nIFF]
              have nk := ihv (e + 1) (by omega) (by omega)
              rw [mN] at nk
              cases hb : (rc (lW d) R D (2 ^ lT d t) 20).testBit (lT d e) with
              | true =>
                rw [hb, if_pos rfl, ← Nat.or_assoc] at nk
                rw [if_neg (nI_ge (hlt.mpr hb) (by omega)), fX11_piecesOf_86, bit_nI e (by omega), nI_or, nI_1]
                exact nk
              | false =>
                rw [hb, if_neg (by decide)] at nk
                rw [hb] at hlt
                rw [if_pos (nI_le (by apply Nat.le_of_not_lt; intro q; exact absurd (hlt.mp q) (by decide)) (by omega)), fX11_piecesOf_86, show (0 : Int32) = nI 0 from rfl, nI_or, Nat.or_zero, nI_1]
                exact nk
        have := key eN 0 (by omega) (by rw [eN_eq]; omega)
        rw [show mN d (rc (lW d) R D (2 ^ lT d t) 20) 0 = 0 from rfl, Nat.or_zero, nI_0] at this
        rw [nI_1]
        exact this
theorem mN_0 (d : Lnd) : ∀ n, mN d 0 n = 0 := by
  intro n
  induction n with
  | zero => rfl
  | succ n ih => rw [mN, Nat.zero_testBit, if_neg (by decide), ih]
theorem q_pieces {a : Nat} (ha : isMa a) {g : eS} {d : Lnd} {z : Nat → Nat} (hS : MS g a d z) : ∃ h, fX11_piecesOf 38 a (eE g) = some (nI (pcs d (rdR d z) (rdD d z) (lK d)).1, eE h) ∧ Kp g h ∧ h.2.1 44 = g.2.1 44 := by
  obtain ⟨F, T, f1, f2, f3, f4⟩ := q_builds ha hS
  obtain ⟨G', p1⟩ := q_pieces_loop (kp_ML (kp_ar g F T) hS.1) hS.2.1 f4 f2 eN 0 ((arS g F T).2.1 50) (by omega) (by rw [eN_eq]; have := hS.2.1.2.2.2.1; omega)
  rw [eSA_self, show (pcs d (rdR d z) (rdD d z) 0).2 = 0 from rfl, show (pcs d (rdR d z) (rdD d z) 0).1 = 0 from rfl, mN_0, nI_0] at p1
  refine ⟨eSA (arS g F T) 50 G', ?_, kp_tr (kp_ar g F T) (kp_50 _ G'), ?_⟩
  · simp only [fX11_piecesOf, fX11_piecesOf_0, tO, cond_true, f1, bis]
    exact p1
  · rw [sA50o _ _ (by decide), arS_o g F T (by decide)]
