/-- a place of a row of numbers -/
def upd' (f : Nat → Nat) (k x : Nat) : Nat → Nat := fun j => if j = k then x else f j
/-! ===== type, clear, count ===== -/
theorem sim1 : Sim1 Rl := by
  intro g r
  obtain ⟨n, tx, d, z, kn, nx, H, kp, Z, r1, r2, r8, r9, r10⟩ := id r
  obtain ⟨t1, t2, t3, t4⟩ := r1
  refine ⟨nI n, eSI g 6 1 0, eSI (eSI (eSI g 6 1 0) 38 0 0) 38 3 0, ?_, ?_, ?_⟩
  · simp only [fX10_clear, fX10_clear_0, fX2_size, fX2_size_0, fX2_empty, fX2_empty_0, tO, tR, tI, tP, bis, b2s, cond_true, t1]
  · simp only [fX11_clear, fX11_clear_0, tO, tR, tI, tP, bis, b2s, cond_true]
    simp [eSI_r, t2]
  · refine ⟨0, tx, d, z, kn, nx, H, kp, Z, ⟨by simp [eSI_r, nI_0], by simp [eSI_r, nI_0], by omega, fun i hi => by omega⟩, ?_, ?_, ?_, ?_⟩
    · obtain ⟨a1, a2, a3, a4, a5, a6⟩ := r2
      refine ⟨?_, a2, a3, a4, a5, a6⟩
      unfold CL at a1 ⊢
      simpa [eSI_r, eSI_A] using a1
    · unfold RU at r8 ⊢
      simpa [eSI_r, eSI_A] using r8
    · unfold RM at r9 ⊢
      simpa [eSI_r, eSI_A] using r9
    · exact r10
theorem sim24 : Sim24 Rl := by
  intro g r x
  obtain ⟨n, tx, d, z, kn, nx, H, kp, Z, r1, r2, r8, r9, r10⟩ := id r
  obtain ⟨t1, t2, t3, t4⟩ := r1
  obtain ⟨c1, c2, c3, c4, -⟩ := r2.1
  obtain ⟨q1, q2, q3, q4, -⟩ := r2.2.1
  have e3L : ∀ k, k ≤ 3 → fX11_in (nI k) 0 3 (eE (eSI g 38 0 0)) = some (1, eE (eSI g 38 0 0)) := fun k hk => m_inL (m := 3) hk (by decide) _
  rcases inOr x (show 5 < 2 ^ 31 by decide) with ⟨k, hk, rfl⟩ | hv
  · rcases (show k = 0 ∨ k = 1 ∨ k = 2 ∨ k = 3 ∨ k = 4 by omega) with rfl | rfl | rfl | rfl | rfl
    · have e3 := e3L 0 (by decide)
      rw [nI_0] at e3 ⊢
      refine ⟨nI (lW d), g, eSI g 38 0 0, ?_, ?_, kp_Rl (kp_th g) r⟩
      · simp only [fX10_count, fX10_count_0, fX1_wide, fX1_wide_0, tO, tR, tI, bis, b2s, cond_true, if_true, c1]
      · simp only [fX11_count, fX11_count_0, tO, tR, tI, tP, tK, bis, b2s, cond_true, e3, if_neg one_ne0, eSI_A, q1]
    · have e3 := e3L 1 (by decide)
      rw [show nI 1 = (1 : Int32) from rfl] at e3 ⊢
      refine ⟨nI (lD d), g, eSI g 38 0 0, ?_, ?_, kp_Rl (kp_th g) r⟩
      · simp only [fX10_count, fX10_count_0, fX1_deep, fX1_deep_0, tO, tR, tI, bis, b2s, cond_true, if_true, if_neg one_ne0, c2]
      · simp only [fX11_count, fX11_count_0, tO, tR, tI, tP, tK, bis, b2s, cond_true, e3, if_neg one_ne0, eSI_A, q2]
    · have e3 := e3L 2 (by decide)
      rw [show nI 2 = (2 : Int32) from rfl] at e3 ⊢
      refine ⟨nI (lK d), g, eSI g 38 0 0, ?_, ?_, kp_Rl (kp_th g) r⟩
      · simp only [fX10_count, fX10_count_0, fX1_towns, fX1_towns_0, tO, tR, tI, bis, b2s, cond_true, if_true, show ¬ (2 : Int32) = 0 by decide, show ¬ (2 : Int32) = 1 by decide, if_false, c4]
      · simp only [fX11_count, fX11_count_0, tO, tR, tI, tP, tK, bis, b2s, cond_true, e3, if_neg one_ne0, eSI_A, q4]
    · have e3 := e3L 3 (by decide)
      rw [show nI 3 = (3 : Int32) from rfl] at e3 ⊢
      refine ⟨nI (lS d), g, eSI g 38 0 0, ?_, ?_, kp_Rl (kp_th g) r⟩
      · simp only [fX10_count, fX10_count_0, fX1_slope, fX1_slope_0, tO, tR, tI, bis, b2s, cond_true, if_true, show ¬ (3 : Int32) = 0 by decide, show ¬ (3 : Int32) = 1 by decide, show ¬ (3 : Int32) = 2 by decide, if_false, c3]
      · simp only [fX11_count, fX11_count_0, tO, tR, tI, tP, tK, bis, b2s, cond_true, e3, if_neg one_ne0, eSI_A, q3]
    · have e3 : fX11_in 4 0 3 (eE (eSI g 38 0 0)) = some (0, eE (eSI g 38 0 0)) := m_inLO (m := 3) (Or.inr (by decide)) (by decide) _
      rw [show nI 4 = (4 : Int32) from rfl]
      refine ⟨nI n, g, eSI g 38 0 0, ?_, ?_, kp_Rl (kp_th g) r⟩
      · simp only [fX10_count, fX10_count_0, fX2_size, fX2_size_0, tO, tR, tI, bis, b2s, cond_true, if_true, show ¬ (4 : Int32) = 0 by decide, show ¬ (4 : Int32) = 1 by decide, show ¬ (4 : Int32) = 2 by decide, show ¬ (4 : Int32) = 3 by decide, if_false, t1]
      · simp only [fX11_count, fX11_count_0, tO, tR, tI, tP, tK, bis, b2s, cond_true, e3, if_true]
        simp [eSI_r, t2]
  · have n0 : ¬ x = 0 := fun q => by subst q; revert hv; decide
    have n1 : ¬ x = 1 := fun q => by subst q; revert hv; decide
    have n2 : ¬ x = 2 := fun q => by subst q; revert hv; decide
    have n3 : ¬ x = 3 := fun q => by subst q; revert hv; decide
    have n4 : ¬ x = 4 := fun q => by subst q; revert hv; decide
    have hv2 : x < 0 ∨ nI (3 + 1) ≤ x := by
      rcases hv with h | h
      · exact Or.inl h
      · right
        rw [Int32.le_iff_toInt_le, nI_toInt (by decide)] at h ⊢
        omega
    have e3 : fX11_in x 0 3 (eE (eSI g 38 0 0)) = some (0, eE (eSI g 38 0 0)) := m_inLO (m := 3) hv2 (by decide) _
    refine ⟨-1, g, eSI g 38 0 0, ?_, ?_, kp_Rl (kp_th g) r⟩
    · simp only [fX10_count, fX10_count_0, tO, cond_true, if_neg n0, if_neg n1, if_neg n2, if_neg n3, if_neg n4]
    · simp only [fX11_count, fX11_count_0, tO, tR, tI, tP, tK, bis, b2s, cond_true, e3, if_true, if_neg n4]
theorem q_type_ok {g : eS} {n c : Nat} (h : g.1 38 3 = nI n) (hn : n < 200) (hc : c < 256) : fX11_type 38 (nI c) (eE g) = some (nI (n + 1), eE (eSI (eSA (eSI g 38 0 0) 39 (upd (g.2.1 39) n (nI c))) 38 3 (nI (n + 1)))) := by
  have e3 : ∀ w, fX11_in (nI c) 0 255 w = some (1, w) := fun w => m_inL (m := 255) (by omega) (by decide) w
  have l2 : ¬ nI n = 200 := fun q => Nat.ne_of_lt hn ((nI_eq (by omega) (by decide)).mp q)
  have h1 : (eSI g 38 0 0).1 38 3 = nI n := h
  have s1 := st (n := 200) (i := n) (eSI g 38 0 0) (a := 39) rfl (by decide) hn (nI c)
  have h2 : (eSA (eSI g 38 0 0) 39 (upd ((eSI g 38 0 0).2.1 39) n (nI c))).1 38 3 = nI n := h
  simp only [fX11_type, fX11_type_0, tO, tR, tI, tP, bis, b2s, cond_true, e3, if_neg one_ne0, h1, if_neg l2, s1, h2, nI_1, eSI_r, and_self, if_true]
  rfl
theorem sim0 : Sim0 Rl := by
  intro g r x
  obtain ⟨n, tx, d, z, kn, nx, H, kp, Z, r1, r2, r8, r9, r10⟩ := id r
  obtain ⟨t1, t2, t3, t4⟩ := r1
  rcases inOr x (show 256 < 2 ^ 31 by decide) with ⟨c, hc, rfl⟩ | hv
  · have e1 : ¬ nI c < 0 := nI_pos (by omega)
    have e2 : nI c ≤ 255 := nI_le (show c ≤ 255 by omega) (by decide)
    have e3 : fX11_in (nI c) 0 255 (eE (eSI g 38 0 0)) = some (1, eE (eSI g 38 0 0)) := m_inL (m := 255) (by omega) (by decide) _
    by_cases hn : n = 200
    · subst hn
      refine ⟨-3, g, eSI g 38 0 0, ?_, ?_, kp_Rl (kp_th g) r⟩
      · simp only [fX10_type, fX10_type_0, fX2_add, fX2_add_0, tO, tR, tI, bis, b2s, cond_true, if_neg e1, if_pos e2, t1, show ¬ nI 200 < 200 by decide, if_false, eZ_0, if_true]
      · have e4 := e3
        simp only [fX11_type, fX11_type_0, tO, tR, tI, tP, bis, b2s, cond_true, e3, if_neg one_ne0]
        simp only [eSI_r, show ((38 : Nat) = 38 ∧ (3 : Nat) = 0) = False by simp, if_false, t2]
        rfl
    · have hn2 : n < 200 := by omega
      have l1 : nI n < 200 := nI_lt hn2 (by decide)
      have l2 : ¬ nI n = 200 := fun q => hn ((nI_eq (by omega) (by decide)).mp q)
      refine ⟨nI (n + 1), eSI (eSA g 8 (upd (g.2.1 8) n (nI c))) 6 1 (nI (n + 1)), eSI (eSA (eSI (eSI (eSA g 8 (upd (g.2.1 8) n (nI c))) 6 1 (nI (n + 1))) 38 0 0) 39 (upd (g.2.1 39) n (nI c))) 38 3 (nI (n + 1)), ?_, ?_, ?_⟩
      · simp only [fX10_type, fX10_type_0, fX2_add, fX2_add_0, fX2_size, fX2_size_0, tO, tR, tI, tP, bis, b2s, cond_true, if_neg e1, if_pos e2, t1, if_pos l1, row_putN r7 g hn2, eSA_I, nI_1, eZ_1, if_neg one_ne0, eSI_r, and_self, if_true]
      · exact q_type_ok (by simp [eSI_r, eSA_I, t2]) hn2 hc
      · refine ⟨n + 1, upd' tx n c, d, z, kn, nx, H, kp, Z, ⟨by simp [eSI_r, eSA_I], by simp [eSI_r], by omega, fun i hi => ?_⟩, ?_, ?_, ?_, ?_⟩
        · by_cases hi2 : i = n
          · subst hi2
            refine ⟨by simp [upd']; omega, ?_, ?_⟩
            · simp [eSI_A, eSA_r, upd', pk_us]
            · simp [eSI_A, eSA_r, upd', pk_us]
          · obtain ⟨u1, u2, u3⟩ := t4 i (by omega)
            refine ⟨by simp [upd', hi2]; omega, ?_, ?_⟩
            · simp [eSI_A, eSA_r, upd', hi2, pk_un hi2, u2]
            · simp [eSI_A, eSA_r, upd', hi2, pk_un hi2, u3]
        · obtain ⟨a1, a2, a3, a4, a5, a6⟩ := r2
          refine ⟨?_, ?_, a3, ?_, ?_, a6⟩
          · unfold CL at a1 ⊢; simpa [eSI_r, eSI_A, eSA_r, eSA_I] using a1
          · unfold ML at a2 ⊢; simpa [eSI_r, eSI_A, eSA_r, eSA_I] using a2
          · unfold BZ at a4 ⊢; simpa [eSI_r, eSI_A, eSA_r, eSA_I] using a4
          · unfold BZ at a5 ⊢; simpa [eSI_r, eSI_A, eSA_r, eSA_I] using a5
        · unfold RU at r8 ⊢; simpa [eSI_r, eSI_A, eSA_r, eSA_I] using r8
        · unfold RM at r9 ⊢; simpa [eSI_r, eSI_A, eSA_r, eSA_I] using r9
        · exact r10
  · have e3 : fX11_in x 0 255 (eE (eSI g 38 0 0)) = some (0, eE (eSI g 38 0 0)) := m_inLO (m := 255) hv (by decide) _
    refine ⟨-1, g, eSI g 38 0 0, ?_, ?_, kp_Rl (kp_th g) r⟩
    · by_cases h0 : x < 0
      · simp only [fX10_type, fX10_type_0, tO, cond_true, if_pos h0]
      · have h1 : ¬ x ≤ 255 := by
          have := hv.resolve_left h0
          rw [Int32.le_iff_toInt_le, nI_toInt (by decide)] at this
          rw [Int32.le_iff_toInt_le]
          have h2 : (255 : Int32).toInt = 255 := by decide
          omega
        simp only [fX10_type, fX10_type_0, tO, cond_true, if_neg h0, if_neg h1]
    · simp only [fX11_type, fX11_type_0, tO, tR, tI, tP, bis, b2s, cond_true, e3, if_true]
