/-! ===== the class's fewest ells ===== -/
theorem rd_gb {d : Lnd} (hd : okL d) {z : Nat → Nat} (ho : okB d z) : ∀ c k, k < 4 → goB (lW d) (rdR d z) (rdD d z) c k = true → gb d c k = some (mv (lW d) c k) := by
  intro c k hk h
  have hok := rd_ok hd ho
  obtain ⟨b, i, hb, hi, q⟩ := (go_iff hd ho hk).mp h
  obtain ⟨q1, q2, q3⟩ := ho.2 b hb
  have h1 := (q3 i hi).2
  have h2 := okB_cb hd ho hb i (by omega)
  rcases q with ⟨rfl, rfl⟩ | ⟨rfl, rfl⟩
  · rw [go_mv hd hok hk (gb_nb h1).1 h]; exact h1
  · have h3 := gb_opp hd h2 h1
    rw [go_mv hd hok hk (gb_nb h3).1 h]; exact h3
theorem c_place (s e : Nat) (w : eW) : fX9_placeOf (nI s) (nI e) w = some (nI (s * 20 + e), w) := by
  rw [fX9_placeOf, fX9_placeOf_0, show (20 : Int32) = nI 20 from rfl, pk_mul, nI_add]
def JK (d : Lnd) (R D : Nat) (F : Nat → Int32) (E S : Nat) : Prop := ∀ s e, 0 < s → s < 2 ^ lK d → (e < E ∨ (e = E ∧ s < S)) → F (s * 20 + e) = nI (jS d R D s e)
theorem sb_and {p s : Nat} (hp : p < 16) : (nI p &&& nI s = nI p) ↔ sbS p s = true := by
  have h1 : p &&& s ≤ p := Nat.and_le_left
  unfold sbS
  rw [nI_and, nI_eq (by omega) (by omega), beq_iff_eq]
/-- the class's state while it weighs: roads, what may be road, the table -/
def WS (g : eS) (d : Lnd) (R D : Nat) : Prop := CL g 1 3 5 d ∧ g.1 22 1 = nI R ∧ g.1 22 2 = nI D ∧ g.1 29 1 = nI (pR d) ∧ g.1 29 2 = nI (pD d)
theorem WS_F {g : eS} {d : Lnd} {R D : Nat} (h : WS g d R D) (F : Nat → Int32) : WS (eSA g 28 F) d R D := ⟨kp_CL (kp_A g F (by decide)) h.1, h.2⟩
section ELLS
variable {g : eS} {d : Lnd} {R D : Nat}
theorem c_meet (hd : okL d) {s e : Nat} (hs0 : 0 < s) (hs : s < 2 ^ lK d) (he : e < 20) {F : Nat → Int32} (hJ : JK d R D F e s) : fX9_cellsWherePartsMeet 26 (nI s) (nI e) (eE (eSA g 28 F)) = some (nI (mt1 d R D s e s), eE (eSA g 28 F)) := by
  have hK := hd.2.2.2.1
  have h16 : 2 ^ lK d ≤ 2 ^ 4 := Nat.pow_le_pow_right (by decide) hK
  have gt : ∀ s' e', 0 < s' → s' < s → e' ≤ e → fX7_get 27 (nI (s' * 20 + e')) (eE (eSA g 28 F)) = some (nI (jS d R D s' e'), eE (eSA g 28 F)) := by
    intro s' e' h0 h1 h2
    rw [row_getN r27 _ (show s' * 20 + e' < 320 by omega), sAA, hJ s' e' h0 (by omega) (by omega)]
  have key : ∀ (fu p : Nat), 1 ≤ p → p ≤ s → s - p < fu → fX9_cellsWherePartsMeet_5 fu 26 (nI s) (nI e) (nI (mt1 d R D s e p)) (nI p) (eE (eSA g 28 F)) = some (nI (mt1 d R D s e s), eE (eSA g 28 F)) := by
    intro fu
    induction fu with
    | zero => intro p h0 h1 h2; omega
    | succ fu ih =>
      intro p h0 h1 h2
      rw [fX9_cellsWherePartsMeet_5]
      by_cases hp : p = s
      · rw [hp, if_pos (nI_le (Nat.le_refl _) (by omega))]
      · have hp2 : p < s := by omega
        rw [if_neg (nI_ge hp2 (by omega))]
        have nx := ih (p + 1) (by omega) (by omega) (by omega)
        rw [mt1] at nx
        by_cases hb : sbS p s = true
        · rw [if_pos ⟨by omega, hb⟩] at nx
          rw [if_pos ((sb_and (by omega)).mpr hb)]
          have k23 : ∀ (fv q : Nat), q ≤ e + 1 → e + 1 - q < fv → fX9_cellsWherePartsMeet_23 (fX9_cellsWherePartsMeet_5 fu) fv 26 (nI s) (nI e) (nI (mt1 d R D s e p ||| mt2 d R D s e p q)) (nI p) (nI q) (eE (eSA g 28 F)) = some (nI (mt1 d R D s e s), eE (eSA g 28 F)) := by
            intro fv
            induction fv with
            | zero => intro q q1 q2; omega
            | succ fv ihv =>
              intro q q1 q2
              rw [fX9_cellsWherePartsMeet_23]
              by_cases hq : q = e + 1
              · subst hq
                rw [if_pos (nI_lt (by omega) (by omega)), fX9_cellsWherePartsMeet_71, nI_1]
                exact nx
              · rw [if_neg (nI_nlt (show q ≤ e by omega) (by omega)), pk_sub (show p ≤ s by omega), pk_sub (show q ≤ e by omega)]
                simp only [tR, bis, b2s, c_place, gt p q (by omega) hp2 (by omega), gt (s - p) (e - q) (by omega) (by omega) (by omega)]
                rw [nI_and, nI_or, nI_1, Nat.or_assoc]
                exact ihv (q + 1) (by omega) (by omega)
          have k0 := k23 eN 0 (by omega) (by rw [eN_eq]; omega)
          rw [show mt2 d R D s e p 0 = 0 from rfl, Nat.or_zero, nI_0] at k0
          exact k0
        · rw [if_neg (fun q => hb q.2)] at nx
          rw [if_neg (fun q => hb ((sb_and (by omega)).mp q)), fX9_cellsWherePartsMeet_71, nI_1]
          exact nx
  have k0 := key eN 1 (by omega) (by omega) (by rw [eN_eq]; omega)
  rw [show mt1 d R D s e 1 = 0 from by rw [mt1, if_neg (by omega)]; rfl, nI_0] at k0
  simp only [fX9_cellsWherePartsMeet, fX9_cellsWherePartsMeet_0, tO, cond_true]
  exact k0
theorem c_cellsJ (hd : okL d) (hok : okRD d R D) (hrd : ∀ c k, k < 4 → goB (lW d) R D c k = true → gb d c k = some (mv (lW d) c k)) (hW : WS g d R D) {s e : Nat} (hs0 : 0 < s) (hs : s < 2 ^ lK d) (he : e < 20) {F : Nat → Int32} (hJ : JK d R D F e s) : fX9_cellsJoined 26 (nI s) (nI e) (eE (eSA g 28 F)) = some (nI (jS d R D s e), eE (eSA g 28 F)) := by
  have hK := hd.2.2.2.1
  have h16 : 2 ^ lK d ≤ 2 ^ 4 := Nat.pow_le_pow_right (by decide) hK
  have jf := jfix hd hok hrd hs0 hs (show e < FF from Nat.lt_trans he (by decide))
  obtain ⟨w1, w2, w3, w4, w5⟩ := WS_F hW F
  have k67 : fX9_cellsJoined_67 26 (nI (cX d R D s e)) (eE (eSA g 28 F)) = some (nI (jS d R D s e), eE (eSA g 28 F)) := by
    have cr := c_reach R22 w1 hd hok w2 w3 (m := 20) (cX_in (R := R) (D := D) (s := s) (e := e) hd) (Nat.le_refl _)
    rw [jf, show nI 20 = 20 from rfl] at cr
    simp only [fX9_cellsJoined_67, tR, bis, b2s, cr]
  have k35 : fX9_cellsJoined_35 26 (nI s) (nI e) (nI (if popN s 4 = 1 then tset d s (lK d) else mt1 d R D s e s)) (eE (eSA g 28 F)) = some (nI (jS d R D s e), eE (eSA g 28 F)) := by
    rw [fX9_cellsJoined_35]
    by_cases he0 : e = 0
    · subst he0
      rw [if_pos (by decide)]
      unfold cX at k67
      rw [if_neg (show ¬ 0 < 0 by omega), Nat.or_zero] at k67
      exact k67
    · have gt : fX7_get 27 (nI (s * 20 + (e - 1))) (eE (eSA g 28 F)) = some (nI (jS d R D s (e - 1)), eE (eSA g 28 F)) := by
        rw [row_getN r27 _ (show s * 20 + (e - 1) < 320 by omega), sAA, hJ s (e - 1) hs0 hs (by omega)]
      have sp := c_spread R29 w1 hd (p_ok hd) w4 w5 (inC_lt hd (jS_in (d := d) (R := R) (D := D) s (e - 1)))
      unfold cX at k67
      rw [if_pos (show 0 < e by omega)] at k67
      rw [if_neg (nI_nle (by omega) (by omega)), show nI e - 1 = nI (e - 1) from by rw [show (1 : Int32) = nI 1 from rfl, pk_sub (by omega)]]
      simp only [tR, bis, b2s, c_place, gt, sp]
      rw [nI_or]
      exact k67
  have p1 : popN s 20 = popN s 4 := pop_4 ⟨s, by omega⟩
  have q1 := popN_le s 4
  simp only [fX9_cellsJoined, fX9_cellsJoined_0, tO, cond_true]
  rw [c_bitCount (by omega), b2s, p1]
  by_cases hp : popN s 4 = 1
  · rw [hp, if_pos (show nI 1 = 1 from rfl), fX9_cellsJoined_13, if_neg one_ne0]
    rw [if_pos hp] at k35
    simp only [tR, bis, b2s, c_ofTowns g1 w1 hd (show s < 2 ^ 31 by omega)]
    exact k35
  · rw [if_neg (show ¬ nI (popN s 4) = 1 from fun q => hp ((nI_eq (b := 1) (by omega) (by decide)).mp q)), fX9_cellsJoined_13, if_pos rfl, c_meet hd hs0 hs he hJ, b2s]
    rw [if_neg hp] at k35
    exact k35
theorem jS_z (hd : okL d) (hok : okRD d R D) (hK0 : 0 < lK d) {e : Nat} : jS d R D (2 ^ lK d - 1) e = 0 ↔ e < TR d R D (2 ^ lK d - 1) (lT d 0) := by
  have hK := hd.2.2.2.1
  have h16 : 2 ^ lK d ≤ 2 ^ 4 := Nat.pow_le_pow_right (by decide) hK
  have hT := hd.2.2.2.2.2.1 0 hK0
  constructor
  · intro h
    apply Nat.lt_of_not_le
    intro q
    have := jS_bit.mpr ⟨hT, q⟩
    rw [h, Nat.zero_testBit] at this
    cases this
  · intro h
    apply Nat.eq_of_testBit_eq
    intro v
    rw [Nat.zero_testBit]
    cases hq : (jS d R D (2 ^ lK d - 1) e).testBit v with
    | false => rfl
    | true =>
      obtain ⟨q1, q2⟩ := jS_bit.mp hq
      have := TR_min hd hok (S := 2 ^ lK d - 1) (by omega) hK0 (by rw [Nat.testBit_two_pow_sub_one]; exact decide_eq_true hK0) q1
      omega
theorem c_fe49 (hd : okL d) (hok : okRD d R D) (hrd : ∀ c k, k < 4 → goB (lW d) R D c k = true → gb d c k = some (mv (lW d) c k)) (hW : WS g d R D) (hK0 : 0 < lK d) (hV : TR d R D (2 ^ lK d - 1) (lT d 0) < lC d) : ∃ F', fX9_fewestElls_49 eN 26 (nI (2 ^ lK d - 1)) 0 (eE g) = some (nI (TR d R D (2 ^ lK d - 1) (lT d 0)), eE (eSA g 28 F')) := by
  have hC := okL_C hd
  have hK := hd.2.2.2.1
  have h16 : 2 ^ lK d ≤ 2 ^ 4 := Nat.pow_le_pow_right (by decide) hK
  have p2 : 2 ^ 1 ≤ 2 ^ lK d := Nat.pow_le_pow_right (by decide) hK0
  have k62 : ∀ (K49 : Nat → Int32 → Int32 → eW → Option (Int32 × eW)) (e : Nat), e < 20 → ∀ (fv s : Nat) (F : Nat → Int32), 1 ≤ s → s ≤ 2 ^ lK d → 2 ^ lK d - s < fv → JK d R D F e s → ∃ F', fX9_fewestElls_62 K49 fv 26 (nI (2 ^ lK d - 1)) (nI e) (nI s) (eE (eSA g 28 F)) = (if TR d R D (2 ^ lK d - 1) (lT d 0) ≤ e then some (nI e, eE (eSA g 28 F')) else K49 26 (nI (2 ^ lK d - 1)) (nI (e + 1)) (eE (eSA g 28 F'))) ∧ JK d R D F' (e + 1) 1 := by
    intro K49 e he fv
    induction fv with
    | zero => intro s F h0 h1 h2; omega
    | succ fv ih =>
      intro s F h0 h1 h2 hJ
      rw [fX9_fewestElls_62]
      by_cases hs : s = 2 ^ lK d
      · subst hs
        have hj20 := inC_lt hd (jS_in (d := d) (R := R) (D := D) (2 ^ lK d - 1) e)
        have gt : fX7_get 27 (nI ((2 ^ lK d - 1) * 20 + e)) (eE (eSA g 28 F)) = some (nI (jS d R D (2 ^ lK d - 1) e), eE (eSA g 28 F)) := by
          rw [row_getN r27 _ (show (2 ^ lK d - 1) * 20 + e < 320 by omega), sAA, hJ (2 ^ lK d - 1) e (by omega) (by omega) (Or.inr ⟨rfl, by omega⟩)]
        rw [if_pos (nI_lt (by omega) (by omega))]
        simp only [tR, bis, b2s, c_place, gt]
        have jz := jS_z (R := R) (D := D) (e := e) hd hok hK0
        refine ⟨F, ?_, fun s' e' h3 h4 h5 => hJ s' e' h3 h4 (by omega)⟩
        by_cases hv : TR d R D (2 ^ lK d - 1) (lT d 0) ≤ e
        · rw [if_pos hv, if_neg (fun q => by
            have := jz.mp ((nI_z (by omega)).mp q)
            omega)]
        · rw [if_neg hv, if_pos ((nI_z (by omega)).mpr (jz.mpr (by omega))), nI_1]
      · have hs2 : s < 2 ^ lK d := by omega
        rw [if_neg (nI_nlt (show s ≤ 2 ^ lK d - 1 by omega) (by omega))]
        simp only [tR, bis, b2s, c_place, c_cellsJ hd hok hrd hW h0 hs2 he hJ]
        rw [row_putN r27 _ (show s * 20 + e < 320 by omega), bis, eSA_same, sAA, nI_1]
        refine ih (s + 1) _ (by omega) (by omega) (by omega) (fun s' e' h3 h4 h5 => ?_)
        rw [upd_i]
        by_cases hq : s' * 20 + e' = s * 20 + e
        · have e1 : s' = s := by omega
          have e2 : e' = e := by omega
          rw [if_pos hq, e1, e2]
        · rw [if_neg hq]
          refine hJ s' e' h3 h4 ?_
          omega
  have key : ∀ (fu e : Nat) (F : Nat → Int32), e ≤ TR d R D (2 ^ lK d - 1) (lT d 0) → TR d R D (2 ^ lK d - 1) (lT d 0) - e < fu → JK d R D F e 1 → ∃ F', fX9_fewestElls_49 fu 26 (nI (2 ^ lK d - 1)) (nI e) (eE (eSA g 28 F)) = some (nI (TR d R D (2 ^ lK d - 1) (lT d 0)), eE (eSA g 28 F')) := by
    intro fu
    induction fu with
    | zero => intro e F h1 h2; omega
    | succ fu ih =>
      intro e F h1 h2 hJ
      have w1 := (WS_F hW F).1
      rw [fX9_fewestElls_49]
      simp only [tR, bis]
      rw [c_cells g1 w1, b2s, if_neg (nI_ge (show e < lC d by omega) (by omega))]
      obtain ⟨F', o1, o2⟩ := k62 (fX9_fewestElls_49 fu) e (by omega) eN 1 F (by omega) (by omega) (by rw [eN_eq]; omega) hJ
      rw [show nI 1 = 1 from rfl] at o1
      rw [o1]
      by_cases hv : TR d R D (2 ^ lK d - 1) (lT d 0) ≤ e
      · rw [if_pos hv, show e = TR d R D (2 ^ lK d - 1) (lT d 0) by omega]
        exact ⟨F', rfl⟩
      · rw [if_neg hv]
        exact ih (e + 1) F' (by omega) (by omega) o2
  have k0 := key eN 0 (g.2.1 28) (Nat.zero_le _) (by rw [eN_eq]; omega) (fun s e h1 h2 h3 => by omega)
  rw [eSA_self, nI_0] at k0
  exact k0
theorem rdS_x (g : eS) (R' D' : Nat) : (rdS g 29 R' D').1 22 1 = g.1 22 1 ∧ (rdS g 29 R' D').1 22 2 = g.1 22 2 := by
  constructor <;> rw [rdS_I, if_neg (by decide), if_neg (by decide)]
theorem c_fewestElls (hL : CL g 1 3 5 d) (hd : okL d) (hok : okRD d R D) (hrd : ∀ c k, k < 4 → goB (lW d) R D c k = true → gb d c k = some (mv (lW d) c k)) (e1 : g.1 22 1 = nI R) (e2 : g.1 22 2 = nI D) : ∃ h, fX9_fewestElls 26 (eE g) = some (if lK d = 0 then 0 else if TR d R D (2 ^ lK d - 1) (lT d 0) < FF then nI (TR d R D (2 ^ lK d - 1) (lT d 0)) else -9, eE h) ∧ Kp g h := by
  have hC := okL_C hd
  have hK := hd.2.2.2.1
  have h16 : 2 ^ lK d ≤ 2 ^ 4 := Nat.pow_le_pow_right (by decide) hK
  have h1 : 1 ≤ 2 ^ lK d := Nat.two_pow_pos _
  have hS9 := hd.2.2.1
  have ly := c_layWS R29 hL hd (s := lS d) (by omega)
  have sl : fX1_slope 1 (eE g) = some (nI (lS d), eE g) := by simp only [fX1_slope, fX1_slope_0, tO, tI, bis, cond_true, hL.2.2.1]
  have k1 := kp_rd R29 g (pR d) (pD d)
  have hL1 := kp_CL k1 hL
  have hW : WS (rdS g 29 (pR d) (pD d)) d R D := ⟨hL1, (rdS_x g _ _).1.trans e1, (rdS_x g _ _).2.trans e2, rdS_1 g 29 _ _, rdS_2 g 29 _ _⟩
  have pc := c_pieces R29 hL1 hd (p_ok hd) (rdS_1 g 29 _ _) (rdS_2 g 29 _ _)
  have p4 := (pcs_inC hd (p_ok hd) (lK d) (Nat.le_refl _)).2
  have ly' : fX6_layWhereSlope 29 (nI (lS d)) (eE g) = some (eE (rdS g 29 (pR d) (pD d))) := ly
  have hb : nI (2 ^ lK d) - 1 = nI (2 ^ lK d - 1) := by rw [show (1 : Int32) = nI 1 from rfl, pk_sub h1]
  simp only [fX9_fewestElls, fX9_fewestElls_0, tO, tR, bis, b2s, cond_true, sl, ly', c_towns hL1, m_bit, bit_nI (lK d) (show lK d < 31 by omega), hb]
  by_cases hK0 : lK d = 0
  · rw [if_pos (by rw [hK0]; rfl), if_pos hK0]
    exact ⟨_, rfl, k1⟩
  · have p2 : 2 ^ 1 ≤ 2 ^ lK d := Nat.pow_le_pow_right (by decide) (by omega)
    rw [if_neg (nI_ne0 (by omega) (by omega)), if_neg hK0, pc, b2s]
    by_cases hp : (pcs d (pR d) (pD d) (lK d)).1 ≤ 1
    · have hsp := span (R := R) (D := D) hd (by omega) (pcs_K.mp hp)
      have hff : lC d < FF := Nat.lt_of_le_of_lt hC.1 (by decide)
      obtain ⟨F', o1⟩ := c_fe49 hd hok hrd hW (by omega) (by omega)
      rw [if_pos (show nI _ ≤ (1 : Int32) from nI_le (b := 1) hp (by decide)), o1, if_pos (by omega)]
      exact ⟨_, rfl, kp_tr k1 (kp_A _ F' (by decide))⟩
    · rw [if_neg (show ¬ nI _ ≤ (1 : Int32) from nI_ge (a := 1) (by omega) (by omega)), if_neg (fun hlt => hp (pcs_K.mpr (fun e he => by
        have hTe := hd.2.2.2.2.2.1 e he
        have hT0 := hd.2.2.2.2.2.1 0 (by omega)
        have tb : ∀ t, t < lK d → (2 ^ lK d - 1).testBit t = true := fun t ht => by rw [Nat.testBit_two_pow_sub_one]; exact decide_eq_true ht
        have m1 := TR_min hd hok (S := 2 ^ lK d - 1) (by omega) he (tb e he) hT0
        exact TR_fin (R := R) (D := D) hd (2 ^ lK d - 1) (by omega) 0 (by omega) (tb 0 (by omega)) (lC d) (lT d e) hTe (by rw [← TR_B hd hTe (by omega)]; omega))))]
      exact ⟨_, rfl, k1⟩
end ELLS
