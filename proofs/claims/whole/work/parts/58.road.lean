/-! ===== road ===== -/
theorem c_wide {g : eS} {d : Lnd} (hL : CL g 1 3 5 d) : fX1_wide 1 (eE g) = some (nI (lW d), eE g) := by
  simp only [fX1_wide, fX1_wide_0, tO, tI, bis, cond_true, hL.1]
theorem okRD_lt {d : Lnd} (hd : okL d) {R D : Nat} (h : okRD d R D) : R < 2 ^ 20 ∧ D < 2 ^ 20 := by
  have hC := okL_C hd
  constructor
  · apply Nat.lt_pow_two_of_testBit
    intro i hi
    cases hq : R.testBit i with
    | false => rfl
    | true => have := h.1 i hq; omega
  · apply Nat.lt_pow_two_of_testBit
    intro i hi
    cases hq : D.testBit i with
    | false => rfl
    | true => have := h.2 i hq; omega
theorem goB_0 (W R D c : Nat) : goB W R D c 0 = (decide (W ≤ c) && D.testBit (c - W)) := rfl
theorem goB_1 (W R D c : Nat) : goB W R D c 1 = R.testBit c := rfl
theorem goB_2 (W R D c : Nat) : goB W R D c 2 = D.testBit c := rfl
theorem goB_3 (W R D c : Nat) : goB W R D c 3 = (decide (0 < c) && R.testBit (c - 1)) := rfl
theorem b01 (b : Bool) : (if (if b then (1 : Int32) else 0) = 0 then (0 : Int32) else 1) = if b then 1 else 0 := by cases b <;> rfl
theorem c_goes {O : Nat} (h : isRo O) {g : eS} {d : Lnd} (hL : CL g 1 3 5 d) (hd : okL d) {R D : Nat} (hok : okRD d R D) {c k : Nat} (hc : c < lC d) (hk : k < 4) (e1 : g.1 O 1 = nI R) (e2 : g.1 O 2 = nI D) : fX6_goes O (nI c) (nI k) (eE g) = some (if goB (lW d) R D c k then 1 else 0, eE g) := by
  obtain ⟨o1, o2, o3, o4, -⟩ := ro_O h g
  obtain ⟨r20, d20⟩ := okRD_lt hd hok
  have hC := okL_C hd
  have hW := hd.1
  have hw := c_wide hL
  rw [fX6_goes, o1, cond_true, fX6_goes_0]
  rcases (show k = 0 ∨ k = 1 ∨ k = 2 ∨ k = 3 by omega) with rfl | rfl | rfl | rfl
  · rw [if_pos (show nI 0 = 0 from rfl), o2, bis, hw, b2s, goB_0]
    by_cases hcw : c < lW d
    · rw [if_pos (nI_lt hcw (by omega)), fX6_goes_67, eZ_0, bis, decide_eq_false (show ¬ lW d ≤ c by omega)]
      rfl
    · rw [if_neg (nI_nlt (by omega) (by omega)), o4, bis, o2, bis, hw, b2s, pk_sub (by omega), m_bit, b2s, bit_nI _ (by omega), e2, decide_eq_true (show lW d ≤ c by omega), Bool.true_and]
      cases hb : D.testBit (c - lW d) with
      | false => rw [if_pos ((and_bit (by omega)).mpr hb), fX6_goes_67, eZ_0, bis]; rfl
      | true => rw [if_neg (fun q => by rw [(and_bit (by omega)).mp q] at hb; cases hb), eZ_1, bis]; rfl
  · rw [if_neg (show ¬ nI 1 = 0 by decide), if_pos (show nI 1 = 1 from rfl), o3, bis, m_bit, b2s, bit_nI _ (by omega), e1, goB_1]
    cases hb : R.testBit c with
    | false => rw [if_pos ((and_bit (by omega)).mpr hb), eZ_0, bis]; rfl
    | true => rw [if_neg (fun q => by rw [(and_bit (by omega)).mp q] at hb; cases hb), eZ_1, bis]; rfl
  · rw [if_neg (show ¬ nI 2 = 0 by decide), if_neg (show ¬ nI 2 = 1 by decide), if_pos (show nI 2 = 2 from rfl), o4, bis, m_bit, b2s, bit_nI _ (by omega), e2, goB_2]
    cases hb : D.testBit c with
    | false => rw [if_pos ((and_bit (by omega)).mpr hb), eZ_0, bis]; rfl
    | true => rw [if_neg (fun q => by rw [(and_bit (by omega)).mp q] at hb; cases hb), eZ_1, bis]; rfl
  · rw [if_neg (show ¬ nI 3 = 0 by decide), if_neg (show ¬ nI 3 = 1 by decide), if_neg (show ¬ nI 3 = 2 by decide), if_pos (show nI 3 = 3 from rfl), goB_3]
    by_cases hc0 : c = 0
    · subst hc0
      rw [if_pos (by decide), fX6_goes_127, eZ_0, bis]
      rfl
    · rw [if_neg (nI_nle (by omega) (by omega)), o3, bis, show nI c - 1 = nI (c - 1) from by rw [show (1 : Int32) = nI 1 from rfl, pk_sub (by omega)], m_bit, b2s, bit_nI _ (by omega), e1, decide_eq_true (show 0 < c by omega), Bool.true_and]
      cases hb : R.testBit (c - 1) with
      | false => rw [if_pos ((and_bit (by omega)).mpr hb), fX6_goes_127, eZ_0, bis]; rfl
      | true => rw [if_neg (fun q => by rw [(and_bit (by omega)).mp q] at hb; cases hb), eZ_1, bis]; rfl
theorem rd_ok {d : Lnd} (hd : okL d) {z : Nat → Nat} (ho : okB d z) : okRD d (rdR d z) (rdD d z) := by
  have key : ∀ b, b ≤ z 0 → okRD d (layA d z b).1 (layA d z b).2 := by
    intro b
    induction b with
    | zero => intro _; exact okRD_0 d
    | succ b ih =>
      intro hb
      have k2 : ∀ i, i ≤ bl z b → okRD d (layB d z b (layA d z b) i).1 (layB d z b (layA d z b) i).2 := by
        intro i
        induction i with
        | zero => intro _; exact ih (by omega)
        | succ i ihi =>
          intro hi
          exact (lyR_ok hd (ihi (by omega)) (okB_cb hd ho (show b < z 0 by omega) i (by omega)) (okB_nb ho (by omega) (by omega))).1
      exact k2 _ (Nat.le_refl _)
  exact key _ (Nat.le_refl _)
theorem R22 : isRo 22 := Or.inl rfl
theorem R29 : isRo 29 := Or.inr (Or.inl rfl)
theorem R36 : isRo 36 := Or.inr (Or.inr rfl)
/-- behind a class's lay the model still finds its land and bolts -/
theorem kp_MS {g h : eS} (k : Kp g h) {d : Lnd} {z : Nat → Nat} (c : MS g 43 d z) : MS h 43 d z := by
  refine ⟨kp_ML k c.1, c.2.1, ?_, c.2.2.2⟩
  have := c.2.2.1
  unfold BZ at this ⊢
  rw [k.2.2.1.2.2.2.2.1]
  exact this
theorem sim7 : Sim7 Rl := by
  intro g r x u
  obtain ⟨n, tx, d, z, kn, nx, H, kp, Z, r1, r2, r8, r9, r10⟩ := id r
  have hd := r2.2.2.1
  have hC := okL_C hd
  have ho := r2.2.2.2.2.2
  rcases inOr x (show lC d < 2 ^ 31 by omega) with ⟨c, hc, rfl⟩ | hx
  · have e1 := c_hasN g1 r2.1 hd hc
    rcases inOr u (show 4 < 2 ^ 31 by decide) with ⟨k, hk, rfl⟩ | hu
    · have hS := rb_CS r2
      have l1 := c_lay R22 b14 hS
      have k1 := kp_rd R22 g (rdR d z) (rdD d z)
      have go := c_goes R22 (kp_CL k1 r2.1) hd (rd_ok hd ho) hc hk (rdS_1 g 22 _ _) (rdS_2 g 22 _ _)
      have k2 := kp_tr k1 (kp_th _)
      obtain ⟨F, T, f1, f2, f3, f4⟩ := q_builds a43 (kp_MS k2 (rb_MS r2))
      refine ⟨if goB (lW d) (rdR d z) (rdD d z) c k then 1 else 0, rdS g 22 (rdR d z) (rdD d z), arS (eSI (rdS g 22 (rdR d z) (rdD d z)) 38 0 0) F T, ?_, ?_, kp_Rl (kp_tr k2 (kp_ar _ F T)) r⟩
      · simp only [fX10_road, fX10_road_0, tO, tR, bis, b2s, cond_true, e1, c_isCard hk, if_neg one_ne0, l1, go]
        cases goB (lW d) (rdR d z) (rdD d z) c k <;> rfl
      · have e2 := q_isN (kp_ML k2 r2.2.1) hd hc
        have e5 : ∀ w, fX11_in (nI k) 0 3 w = some (1, w) := fun w => m_inL (m := 3) (by omega) (by decide) w
        simp only [fX11_road, fX11_road_0, tO, tR, tP, bis, b2s, cond_true, e2, e5, if_neg one_ne0, f1]
        rw [ld (n := 20) _ ar_48 (by decide) (by omega), bis, f2 c hc, rbG_tb _ hk]
    · have e5 : ∀ w, fX11_in u 0 3 w = some (0, w) := fun w => m_inLO (m := 3) hu (by decide) w
      refine ⟨-1, g, eSI g 38 0 0, ?_, ?_, kp_Rl (kp_th g) r⟩
      · simp only [fX10_road, fX10_road_0, tO, tR, bis, b2s, cond_true, e1, c_isCardO hu, if_neg one_ne0, if_true]
      · simp only [fX11_road, fX11_road_0, tO, tP, bis, b2s, cond_true, q_isN (th_ML r2.2.1) hd hc, e5, if_neg one_ne0, if_true]
  · refine ⟨-1, g, eSI g 38 0 0, ?_, ?_, kp_Rl (kp_th g) r⟩
    · simp only [fX10_road, fX10_road_0, tO, tR, bis, b2s, cond_true, c_hasO g1 r2.1 hx, if_true]
    · simp only [fX11_road, fX11_road_0, tO, tP, bis, b2s, cond_true, q_isO (th_ML r2.2.1) hd hx, if_true]
