/-! ===== now ===== -/
theorem c_known {g : eS} : fX4_known 17 (eE g) = some (g.1 17 3, eE g) := by
  simp only [fX4_known, fX4_known_0, tO, tI, bis, cond_true]
theorem sim8 : Sim8 Rl := by
  intro g r u
  obtain ⟨n, tx, d, z, kn, nx, H, kp, Z, r1, r2, r8, r9, r10⟩ := id r
  have hd := r2.2.2.1
  have ho := r2.2.2.2.2.2
  have hS := rb_CS r2
  have hok := rd_ok hd ho
  have l1 := c_lay R22 b14 hS
  have hS1 : CS (rdS g 22 (rdR d z) (rdD d z)) 16 d z := rd_CS R22 hS
  have k1 := kp_rd R22 g (rdR d z) (rdD d z)
  have k2 := kp_tr k1 (kp_th _)
  have hM := kp_MS k2 (rb_MS r2)
  rcases inOr u (show 7 < 2 ^ 31 by decide) with ⟨k, hk, rfl⟩ | hu
  · have e5 : ∀ w, fX11_in (nI k) 0 6 w = some (1, w) := fun w => m_inL (m := 6) (by omega) (by decide) w
    rcases (show k = 0 ∨ k = 1 ∨ k = 2 ∨ k = 3 ∨ k = 4 ∨ k = 5 ∨ k = 6 by omega) with rfl | rfl | rfl | rfl | rfl | rfl | rfl
    · simp only [show nI 0 = (0 : Int32) from rfl] at e5 ⊢
      refine ⟨nI (z 0), rdS g 22 (rdR d z) (rdD d z), eSI (rdS g 22 (rdR d z) (rdD d z)) 38 0 0, ?_, ?_, kp_Rl k2 r⟩
      · simp only [fX10_now, fX10_now_0, tO, tR, bis, b2s, cond_true, l1, if_true, if_false, show ¬ (0 : Int32) = 1 by decide, show ¬ (0 : Int32) = 2 by decide, show ¬ (0 : Int32) = 3 by decide, show ¬ (0 : Int32) = 4 by decide, show ¬ (0 : Int32) = 5 by decide, show ¬ (0 : Int32) = 6 by decide, show ¬ (3 : Int32) ≤ 0 by decide, c_size b14 hS1.2.2.1]
      · simp only [fX11_now, fX11_now_0, tO, tR, tP, tI, tK, bis, b2s, cond_true, e5, if_neg one_ne0, if_true, if_false, show ¬ (0 : Int32) = 1 by decide, show ¬ (0 : Int32) = 2 by decide, show ¬ (0 : Int32) = 3 by decide, show ¬ (0 : Int32) = 4 by decide, show ¬ (0 : Int32) = 5 by decide, show ¬ (0 : Int32) = 6 by decide, show ¬ (3 : Int32) ≤ 0 by decide, hM.2.2.1 0 (by decide)]
    · simp only [show nI 1 = (1 : Int32) from rfl] at e5 ⊢
      refine ⟨nI (elS z (z 0)), rdS g 22 (rdR d z) (rdD d z), eSI (rdS g 22 (rdR d z) (rdD d z)) 38 0 0, ?_, ?_, kp_Rl k2 r⟩
      · simp only [fX10_now, fX10_now_0, tO, tR, bis, b2s, cond_true, l1, if_true, if_false, show ¬ (1 : Int32) = 0 by decide, show ¬ (1 : Int32) = 2 by decide, show ¬ (1 : Int32) = 3 by decide, show ¬ (1 : Int32) = 4 by decide, show ¬ (1 : Int32) = 5 by decide, show ¬ (1 : Int32) = 6 by decide, show ¬ (3 : Int32) ≤ 1 by decide, c_ells hS1]
      · simp only [fX11_now, fX11_now_0, tO, tR, tP, tI, tK, bis, b2s, cond_true, e5, if_neg one_ne0, if_true, if_false, show ¬ (1 : Int32) = 0 by decide, show ¬ (1 : Int32) = 2 by decide, show ¬ (1 : Int32) = 3 by decide, show ¬ (1 : Int32) = 4 by decide, show ¬ (1 : Int32) = 5 by decide, show ¬ (1 : Int32) = 6 by decide, show ¬ (3 : Int32) ≤ 1 by decide, q_ells hM]
    · simp only [show nI 2 = (2 : Int32) from rfl] at e5 ⊢
      obtain ⟨h, p1, p2, -⟩ := q_pieces a43 hM
      refine ⟨nI (pcs d (rdR d z) (rdD d z) (lK d)).1, rdS g 22 (rdR d z) (rdD d z), h, ?_, ?_, kp_Rl (kp_tr k2 p2) r⟩
      · simp only [fX10_now, fX10_now_0, tO, tR, bis, b2s, cond_true, l1, if_true, if_false, show ¬ (2 : Int32) = 0 by decide, show ¬ (2 : Int32) = 1 by decide, show ¬ (2 : Int32) = 3 by decide, show ¬ (2 : Int32) = 4 by decide, show ¬ (2 : Int32) = 5 by decide, show ¬ (2 : Int32) = 6 by decide, show ¬ (3 : Int32) ≤ 2 by decide, c_pieces R22 hS1.1 hd hok (rdS_1 g 22 _ _) (rdS_2 g 22 _ _)]
      · simp only [fX11_now, fX11_now_0, tO, tR, tP, tI, tK, bis, b2s, cond_true, e5, if_neg one_ne0, if_true, if_false, show ¬ (2 : Int32) = 0 by decide, show ¬ (2 : Int32) = 1 by decide, show ¬ (2 : Int32) = 3 by decide, show ¬ (2 : Int32) = 4 by decide, show ¬ (2 : Int32) = 5 by decide, show ¬ (2 : Int32) = 6 by decide, show ¬ (3 : Int32) ≤ 2 by decide, p1]
    · simp only [show nI 3 = (3 : Int32) from rfl] at e5 ⊢
      refine ⟨nI (nwS d z (z 0)), rdS g 22 (rdR d z) (rdD d z), eSI (rdS g 22 (rdR d z) (rdD d z)) 38 0 0, ?_, ?_, kp_Rl k2 r⟩
      · simp only [fX10_now, fX10_now_0, tO, tR, bis, b2s, cond_true, l1, if_true, if_false, show ¬ (3 : Int32) = 0 by decide, show ¬ (3 : Int32) = 1 by decide, show ¬ (3 : Int32) = 2 by decide, show ¬ (3 : Int32) = 4 by decide, show ¬ (3 : Int32) = 5 by decide, show ¬ (3 : Int32) = 6 by decide, show (3 : Int32) ≤ 3 by decide, c_nowhere hS1]
      · simp only [fX11_now, fX11_now_0, tO, tR, tP, tI, tK, bis, b2s, cond_true, e5, if_neg one_ne0, if_true, if_false, show ¬ (3 : Int32) = 0 by decide, show ¬ (3 : Int32) = 1 by decide, show ¬ (3 : Int32) = 2 by decide, show ¬ (3 : Int32) = 4 by decide, show ¬ (3 : Int32) = 5 by decide, show ¬ (3 : Int32) = 6 by decide, show (3 : Int32) ≤ 3 by decide, q_nowhere hM]
    · simp only [show nI 4 = (4 : Int32) from rfl] at e5 ⊢
      refine ⟨oM9 (msA d z (z 0)), rdS g 22 (rdR d z) (rdD d z), eSI (rdS g 22 (rdR d z) (rdD d z)) 38 0 0, ?_, ?_, kp_Rl k2 r⟩
      · simp only [fX10_now, fX10_now_0, tO, tR, bis, b2s, cond_true, l1, if_true, if_false, show ¬ (4 : Int32) = 0 by decide, show ¬ (4 : Int32) = 1 by decide, show ¬ (4 : Int32) = 2 by decide, show ¬ (4 : Int32) = 3 by decide, show ¬ (4 : Int32) = 5 by decide, show ¬ (4 : Int32) = 6 by decide, show (3 : Int32) ≤ 4 by decide, c_steep R22 hS1.1 hd hok (rdS_1 g 22 _ _) (rdS_2 g 22 _ _), steep_eq hd ho]
      · simp only [fX11_now, fX11_now_0, tO, tR, tP, tI, tK, bis, b2s, cond_true, e5, if_neg one_ne0, if_true, if_false, show ¬ (4 : Int32) = 0 by decide, show ¬ (4 : Int32) = 1 by decide, show ¬ (4 : Int32) = 2 by decide, show ¬ (4 : Int32) = 3 by decide, show ¬ (4 : Int32) = 5 by decide, show ¬ (4 : Int32) = 6 by decide, show (3 : Int32) ≤ 4 by decide, q_steep hM]
    · simp only [show nI 5 = (5 : Int32) from rfl] at e5 ⊢
      obtain ⟨R, D, p1⟩ := c_least hS1.1 hd
      have k3 := kp_tr (kp_tr k1 (kp_rd R29 _ R D)) (kp_th _)
      obtain ⟨h, p2, p3⟩ := q_least (kp_ML k3 r2.2.1) hd
      refine ⟨nI (lsv d 9), rdS (rdS g 22 (rdR d z) (rdD d z)) 29 R D, h, ?_, ?_, kp_Rl (kp_tr k3 p3) r⟩
      · simp only [fX10_now, fX10_now_0, tO, tR, bis, b2s, cond_true, l1, if_true, if_false, show ¬ (5 : Int32) = 0 by decide, show ¬ (5 : Int32) = 1 by decide, show ¬ (5 : Int32) = 2 by decide, show ¬ (5 : Int32) = 3 by decide, show ¬ (5 : Int32) = 4 by decide, show ¬ (5 : Int32) = 6 by decide, show (3 : Int32) ≤ 5 by decide, p1]
      · simp only [fX11_now, fX11_now_0, tO, tR, tP, tI, tK, bis, b2s, cond_true, e5, if_neg one_ne0, if_true, if_false, show ¬ (5 : Int32) = 0 by decide, show ¬ (5 : Int32) = 1 by decide, show ¬ (5 : Int32) = 2 by decide, show ¬ (5 : Int32) = 3 by decide, show ¬ (5 : Int32) = 4 by decide, show ¬ (5 : Int32) = 6 by decide, show (3 : Int32) ≤ 5 by decide, p2]
    · simp only [show nI 6 = (6 : Int32) from rfl] at e5 ⊢
      have hk1 : (rdS g 22 (rdR d z) (rdD d z)).1 17 3 = nI kn := (k1.1.2.2.2.1).trans r8.2.2.2.1
      have hk2 : (eSI (rdS g 22 (rdR d z) (rdD d z)) 38 0 0).1 38 18 = nI kn := (k2.1.2.2.2.2.1).trans r8.2.2.2.2.1
      refine ⟨nI kn, rdS g 22 (rdR d z) (rdD d z), eSI (rdS g 22 (rdR d z) (rdD d z)) 38 0 0, ?_, ?_, kp_Rl k2 r⟩
      · simp only [fX10_now, fX10_now_0, tO, tR, bis, b2s, cond_true, l1, if_true, if_false, show ¬ (6 : Int32) = 0 by decide, show ¬ (6 : Int32) = 1 by decide, show ¬ (6 : Int32) = 2 by decide, show ¬ (6 : Int32) = 3 by decide, show ¬ (6 : Int32) = 4 by decide, show ¬ (6 : Int32) = 5 by decide, show (3 : Int32) ≤ 6 by decide, c_known, hk1]
      · simp only [fX11_now, fX11_now_0, tO, tR, tP, tI, tK, bis, b2s, cond_true, e5, if_neg one_ne0, if_true, if_false, show ¬ (6 : Int32) = 0 by decide, show ¬ (6 : Int32) = 1 by decide, show ¬ (6 : Int32) = 2 by decide, show ¬ (6 : Int32) = 3 by decide, show ¬ (6 : Int32) = 4 by decide, show ¬ (6 : Int32) = 5 by decide, show (3 : Int32) ≤ 6 by decide, hk2]
  · have n0 : ¬ u = 0 := fun q => by subst q; revert hu; decide
    have n1 : ¬ u = 1 := fun q => by subst q; revert hu; decide
    have n2 : ¬ u = 2 := fun q => by subst q; revert hu; decide
    have n3 : ¬ u = 3 := fun q => by subst q; revert hu; decide
    have n4 : ¬ u = 4 := fun q => by subst q; revert hu; decide
    have n5 : ¬ u = 5 := fun q => by subst q; revert hu; decide
    have n6 : ¬ u = 6 := fun q => by subst q; revert hu; decide
    have e5 : ∀ w, fX11_in u 0 6 w = some (0, w) := fun w => m_inLO (m := 6) hu (by decide) w
    refine ⟨-1, rdS g 22 (rdR d z) (rdD d z), eSI (rdS g 22 (rdR d z) (rdD d z)) 38 0 0, ?_, ?_, kp_Rl k2 r⟩
    · simp only [fX10_now, fX10_now_0, tO, tR, bis, b2s, cond_true, l1, if_neg n0, if_neg n1, if_neg n2, if_neg n3, if_neg n4, if_neg n5, if_neg n6]
    · simp only [fX11_now, fX11_now_0, tO, tP, bis, b2s, cond_true, e5, if_true]
