theorem c_isCard {k : Nat} (h : k < 4) (w : eW) : fX10_isCard (nI k) w = some (1, w) := by
  rw [fX10_isCard, fX10_isCard_0, if_neg (nI_pos (by omega)), if_neg (show ¬ (4 : Int32) ≤ nI k from nI_ge (a := k) (b := 4) h (by decide)), eZ_1, bis]
theorem c_isCardO {x : Int32} (h : x < 0 ∨ nI 4 ≤ x) (w : eW) : fX10_isCard x w = some (0, w) := by
  rw [fX10_isCard, fX10_isCard_0, fX10_isCard_13, eZ_0]
  by_cases h0 : x < 0
  · rw [if_pos h0, bis]
  · rw [if_neg h0, if_pos (show (4 : Int32) ≤ x from h.resolve_left h0), bis]
theorem c_weave {g : eS} {z : Nat → Nat} (hz : BZ g 16 z) {b k : Nat} (hb : b < 4) (hl : bl z b < 12) : ∃ F, fX0_weave 14 (nI b) (nI k) (eE g) = some (eE (eSA g 16 F)) ∧ ∀ i, i < 57 → F i = nI (zWea z b k i) := by
  have e1 := row_putN r15 g (show 1 + b * 14 + 2 + bl z b < 57 by omega) (nI k)
  have z1 := BZ_upd hz (1 + b * 14 + 2 + bl z b) k
  have e2 := row_putN r15 (eSA g 16 (upd (g.2.1 16) (1 + b * 14 + 2 + bl z b) (nI k))) (show 1 + b * 14 + 1 < 57 by omega) (nI (bl z b + 1))
  have z2 := BZ_upd z1 (1 + b * 14 + 1) (bl z b + 1)
  simp only [eSA_same, eSA_r, if_true] at e2 z2
  refine ⟨upd (upd (g.2.1 16) (1 + b * 14 + 2 + bl z b) (nI k)) (1 + b * 14 + 1) (nI (bl z b + 1)), ?_, fun i hi => ?_⟩
  · simp only [fX0_weave, fX0_weave_0, tO, tR, cond_true, bis, b2s, c_len b14 hz hb, fX0_placeOf, fX0_placeOf_0, pl_c, nI_p2, nI_add, e1, nI_1, e2]
  · have := z2 i hi
    rw [eSA_r, if_pos rfl] at this
    exact this
theorem sim10 : Sim10 Rl := by
  intro g r x v
  obtain ⟨n, tx, d, z, kn, nx, H, kp, Z, r1, r2, r8, r9, r10⟩ := id r
  have hC := okL_C r2.2.2.1
  have h4 := r2.2.2.2.2.2.1
  have hd := r2.2.2.1
  rcases inOr x (show z 0 < 2 ^ 31 by omega) with ⟨b, hb, rfl⟩ | hx
  · have hb4 : b < 4 := by omega
    have e1 := c_has b14 r2.2.2.2.1 h4 hb
    have e2 := q_isB (th_BZ r2.2.2.2.2.1) h4 hb
    rcases inOr v (show 4 < 2 ^ 31 by decide) with ⟨k, hk, rfl⟩ | hv
    · have e3 : ∀ w, fX11_in (nI k) 0 3 w = some (1, w) := fun w => m_inL (m := 3) (by omega) (by decide) w
      have c1 := okB_cb hd r2.2.2.2.2.2 hb (bl z b) (Nat.le_refl _)
      have e4 := c_cellBy g1 r2.1 hd c1 hk
      have e5 := q_goes (th_ML r2.2.1) hd c1 hk
      have e6 := c_last b14 (rb_CS r2) hb
      have e7 := q_end a43 (th_MS (rb_MS r2)) hb
      have hl12 := (r2.2.2.2.2.2.2 b hb).2.1
      cases hg : gb d (cb d z b (bl z b)) k with
      | none =>
        rw [hg] at e4 e5
        refine ⟨-2, g, eSI g 38 0 0, ?_, ?_, kp_Rl (kp_th g) r⟩
        · simp only [fX10_weaves, fX10_weaves_0, tO, tR, bis, b2s, cond_true, e1, if_neg one_ne0, c_isCard hk, e6, e4, oM1, if_true]
        · simp only [fX11_weaves, fX11_weaves_0, tO, tR, tP, bis, b2s, cond_true, e2, e3, if_neg one_ne0, e7, e5, oM9, if_true]
      | some e =>
        have he := (gb_lt hd c1 hg).1
        rw [hg] at e4 e5
        have n1 : ¬ nI e = -1 := nI_neg1 (by omega)
        have n9 : ¬ nI e = -9 := nI_neg9 (by omega)
        have e8 := c_len b14 r2.2.2.2.1 hb4
        have e9 := q_len a43 (th_BZ r2.2.2.2.2.1) hb4
        by_cases hl : bl z b = 12
        · rw [hl] at e8 e9
          refine ⟨-3, g, eSI g 38 0 0, ?_, ?_, kp_Rl (kp_th g) r⟩
          · simp only [fX10_weaves, fX10_weaves_0, tO, tR, bis, b2s, cond_true, e1, if_neg one_ne0, c_isCard hk, e6, e4, oM1, if_neg n1, e8, show ¬ nI 12 < 12 by decide, if_false]
          · simp only [fX11_weaves, fX11_weaves_0, tO, tR, tP, bis, b2s, cond_true, e2, e3, if_neg one_ne0, e7, e5, oM9, if_neg n9, e9, show nI 12 = (12 : Int32) from rfl, if_true]
        · have hl2 : bl z b < 12 := by omega
          obtain ⟨F1, e10, f1⟩ := c_weave (past_BZ (kn := kn) (nx := nx) r2.2.2.2.1) (k := k) hb4 hl2
          have e11 := c_remember r8.1 r8.2.1 r8.2.2.1 r8.2.2.2.1
          have ms : MS (eSI (eSA (pastG g kn nx) 16 F1) 38 0 0) 43 d z := ⟨th_ML (pastA_ML r2.2.1), hd, th_BZ (pastA_BZ r2.2.2.2.2.1), r2.2.2.2.2.2⟩
          have m1 := q_isB ms.2.2.1 h4 hb
          have m2 := q_end a43 ms hb
          have m3 := q_goes ms.1 hd c1 hk
          rw [hg] at m3
          have m4 := q_len a43 ms.2.2.1 hb4
          have l12 : ¬ nI (bl z b) = 12 := fun q => hl ((nI_eq (by omega) (by decide)).mp q)
          have m5 := q_notes (g := eSI (eSA (pastG g kn nx) 16 F1) 38 0 0) r8.1 (pastA_n r8.2.2.2.2.1)
          have b0 := note_BZ (kn := kn) (nx := nx) (F1 := F1) r2.2.2.2.2.1
          generalize hN : noteG (eSI (eSA (pastG g kn nx) 16 F1) 38 0 0) kn = N at m5 b0
          have m6 := q_len a43 b0 hb4
          have s1 := st (n := 57) (i := 1 + b * 14 + 2 + bl z b) (a := 43) N rfl (by decide) (by omega) (nI k)
          have z1 := BZ_upd b0 (1 + b * 14 + 2 + bl z b) k
          have l1 := ld (n := 57) (i := 1 + b * 14 + 1) (a := 43) (eSA N 43 (upd (N.2.1 43) (1 + b * 14 + 2 + bl z b) (nI k))) rfl (by decide) (by omega)
          have l2 : (eSA N 43 (upd (N.2.1 43) (1 + b * 14 + 2 + bl z b) (nI k))).2.1 43 (1 + b * 14 + 1) = nI (bl z b) := by
            rw [z1 _ (by omega), upd'_ne _ _ (by omega)]; rfl
          rw [l2] at l1
          have s2 := st (n := 57) (i := 1 + b * 14 + 1) (a := 43) (eSA N 43 (upd (N.2.1 43) (1 + b * 14 + 2 + bl z b) (nI k))) rfl (by decide) (by omega) (nI (bl z b + 1))
          have z2 := BZ_upd z1 (1 + b * 14 + 1) (bl z b + 1)
          simp only [eSA_same, eSA_r, if_true] at s2 z2
          refine ⟨nI e, eSA (pastG g kn nx) 16 F1, doneG g kn nx F1 (upd (upd (N.2.1 43) (1 + b * 14 + 2 + bl z b) (nI k)) (1 + b * 14 + 1) (nI (bl z b + 1))), ?_, ?_, ?_⟩
          · simp only [fX10_weaves, fX10_weaves_0, tO, tR, bis, b2s, cond_true, e1, if_neg one_ne0, c_isCard hk, e6, e4, oM1, if_neg n1, e8, if_pos (show nI (bl z b) < 12 from nI_lt hl2 (by decide)), e11, e10]
          · simp only [fX11_weaves, fX11_weaves_0, tO, tR, tP, bis, b2s, cond_true, m1, e3, if_neg one_ne0, m2, m3, oM9, if_neg n9, m4, if_neg l12, m5, m6, pl_m, nI_p2, nI_add, s1, nI_1, l1, s2]
            unfold doneG
            rw [hN]
          · refine done_Rl r1 r2 r8 r9 r10 f1 (fun i hi => ?_) (okB_wea r2.2.2.2.2.2 hb hl2 hk hg)
            have := z2 i hi
            rw [eSA_r, if_pos rfl] at this
            exact this
    · have e3 : ∀ w, fX11_in v 0 3 w = some (0, w) := fun w => m_inLO (m := 3) hv (by decide) w
      refine ⟨-1, g, eSI g 38 0 0, ?_, ?_, kp_Rl (kp_th g) r⟩
      · simp only [fX10_weaves, fX10_weaves_0, tO, tR, bis, b2s, cond_true, e1, if_neg one_ne0, c_isCardO hv, if_true]
      · simp only [fX11_weaves, fX11_weaves_0, tO, tR, tP, bis, b2s, cond_true, e2, e3, if_neg one_ne0, if_true]
  · refine ⟨-1, g, eSI g 38 0 0, ?_, ?_, kp_Rl (kp_th g) r⟩
    · simp only [fX10_weaves, fX10_weaves_0, tO, tR, bis, b2s, cond_true, c_hasNo b14 r2.2.2.2.1 hx, if_true]
    · simp only [fX11_weaves, fX11_weaves_0, tO, tR, tP, bis, b2s, cond_true, q_isBNo (th_BZ r2.2.2.2.2.1) h4 hx, if_true]
/-! rain -/
theorem eSA_CL {g : eS} {a : Nat} {F : Nat → Int32} {d : Lnd} (h3 : a ≠ 3) (h5 : a ≠ 5) (h : CL g 1 3 5 d) : CL (eSA g a F) 1 3 5 d := by
  unfold CL at h ⊢
  rw [eSA_I, eSA_r, eSA_r, if_neg (Ne.symm h3), if_neg (Ne.symm h5)]
  exact h
theorem eSA_ML {g : eS} {a : Nat} {F : Nat → Int32} {d : Lnd} (h3 : a ≠ 40) (h5 : a ≠ 41) (h6 : a ≠ 42) (h : ML g d) : ML (eSA g a F) d := by
  unfold ML at h ⊢
  rw [eSA_r, eSA_r, eSA_r, if_neg (Ne.symm h3), if_neg (Ne.symm h5), if_neg (Ne.symm h6)]
  exact h
theorem eSA_BZ {g : eS} {a : Nat} {F : Nat → Int32} {z : Nat → Nat} (h : ∀ i, i < 57 → F i = nI (z i)) : BZ (eSA g a F) a z := by
  intro i hi
  rw [eSA_r, if_pos rfl]
  exact h i hi
theorem isBo_ne {B ro a : Nat} (h : isBo B ro a) : a ≠ 3 ∧ a ≠ 5 := by rcases h with ⟨-, -, rfl⟩ | ⟨-, -, rfl⟩ <;> decide
theorem isMa_ne {a : Nat} (h : isMa a) : a ≠ 40 ∧ a ≠ 41 ∧ a ≠ 42 := by rcases h with rfl | rfl <;> decide
theorem c_fray {g : eS} {B ro a : Nat} {d : Lnd} {z : Nat → Nat} (hB : isBo B ro a) (hS : CS g a d z) : ∃ F, fX0_fray B (eE g) = some (nI (nFr d z (z 0)), eE (eSA g a F)) ∧ ∀ i, i < 57 → F i = nI (zFr d z (z 0) i) := by
  obtain ⟨hL, hd, hz, ho⟩ := hS
  have h4 := ho.1
  have hC := okL_C hd
  have key : ∀ (fu k : Nat) (F : Nat → Int32), k ≤ z 0 → z 0 - k < fu → (∀ i, i < 57 → F i = nI (zFr d z k i)) → ∃ F', fX0_fray_4 fu B (nI (nFr d z k)) (nI k) (eE (eSA g a F)) = some (nI (nFr d z (z 0)), eE (eSA g a F')) ∧ ∀ i, i < 57 → F' i = nI (zFr d z (z 0) i) := by
    intro fu
    induction fu with
    | zero => intro k F h1 h2; omega
    | succ fu ih =>
      intro k F h1 h2 hF
      have hcs : CS (eSA g a F) a d (zFr d z k) := ⟨eSA_CL (isBo_ne hB).1 (isBo_ne hB).2 hL, hd, eSA_BZ hF, okB_fr ho k h1⟩
      have e0 : zFr d z k 0 = z 0 := zFr_same k 0 (fun b' hb' => by omega)
      have f0 := c_size hB hcs.2.2.1
      rw [e0] at f0
      rw [fX0_fray_4, f0, b2s]
      by_cases hk : k = z 0
      · subst hk
        rw [if_pos (nI_le (Nat.le_refl _) (by omega))]
        exact ⟨F, rfl, hF⟩
      · have hk2 : k < z 0 := by omega
        obtain ⟨w1, w2⟩ := frC_own (d := d) ho hk2
        have hl12 := (ho.2 k hk2).2.1
        have f1 := c_len hB hcs.2.2.1 (show k < 4 by omega)
        rw [w1] at f1
        obtain ⟨o1, o2, o3⟩ := isBo_O hB (eSA g a F)
        rw [if_neg (nI_ge hk2 (by omega)), f1, b2s]
        have nx := fun F' h => ih (k + 1) F' (by omega) (by omega) h
        rw [zFr, nFr] at nx
        by_cases hl : bl z k = 0
        · have hc : frC d z k = false := by simp [frC, hl]
          rw [hc] at nx
          rw [hl, if_pos (by decide), fX0_fray_57, nI_1]
          exact nx F hF
        · rw [if_neg (nI_nle (by omega) (by omega)), o2, bis]
          have f2 := c_behind hB hcs (show k < zFr d z k 0 by rw [e0]; exact hk2) (i := bl z k) (by rw [w1]; exact Nat.le_refl _)
          rw [w2] at f2
          have cl := okB_cb hd ho hk2 (bl z k) (Nat.le_refl _)
          rw [f2, b2s, c_isTown g1 hcs.1 hd (by omega), b2s]
          cases ht : isT d (cb d z k (bl z k)) with
          | true =>
            have hc : frC d z k = false := by simp [frC, ht]
            rw [hc] at nx
            rw [if_pos rfl, if_neg one_ne0, fX0_fray_57, nI_1]
            exact nx F hF
          | false =>
            have hc : frC d z k = true := by simp [frC, ht]; omega
            rw [hc] at nx
            rw [if_pos (by decide), o3, bis, fX0_placeOf, fX0_placeOf_0, b2s, pl_c, nI_1, row_putN (isBo_row hB) _ (by omega), bis, fX0_fray_57, nI_1, nI_1, show nI (bl z k) - 1 = nI (bl z k - 1) from by rw [show (1 : Int32) = nI 1 from rfl, pk_sub (by omega)], eSA_same, eSA_r, if_pos rfl]
            refine nx _ (fun i hi => ?_)
            have := BZ_upd hcs.2.2.1 (1 + k * 14 + 1) (bl z k - 1) i hi
            simp only [eSA_r, if_true] at this
            exact this
  obtain ⟨o1, o2, o3⟩ := isBo_O hB g
  rw [fX0_fray, o1, cond_true, fX0_fray_0]
  obtain ⟨F', k1, k2⟩ := key eN 0 (g.2.1 a) (by omega) (by rw [eN_eq]; omega) hz
  rw [eSA_self] at k1
  exact ⟨F', k1, k2⟩
theorem q_frays {g : eS} {a : Nat} {d : Lnd} {z : Nat → Nat} (ha : isMa a) (hS : MS g a d z) : ∃ F, fX11_frays 38 a (eE g) = some (nI (nFr d z (z 0)), eE (eSA g a F)) ∧ ∀ i, i < 57 → F i = nI (zFr d z (z 0) i) := by
  obtain ⟨hL, hd, hz, ho⟩ := hS
  have h4 := ho.1
  have hC := okL_C hd
  have key : ∀ (fu k : Nat) (F : Nat → Int32), k ≤ z 0 → z 0 - k < fu → (∀ i, i < 57 → F i = nI (zFr d z k i)) → ∃ F', fX11_frays_4 fu 38 a (nI (nFr d z k)) (nI k) (eE (eSA g a F)) = some (nI (nFr d z (z 0)), eE (eSA g a F')) ∧ ∀ i, i < 57 → F' i = nI (zFr d z (z 0) i) := by
    intro fu
    induction fu with
    | zero => intro k F h1 h2; omega
    | succ fu ih =>
      intro k F h1 h2 hF
      have hcs : MS (eSA g a F) a d (zFr d z k) := ⟨eSA_ML (isMa_ne ha).1 (isMa_ne ha).2.1 (isMa_ne ha).2.2 hL, hd, eSA_BZ hF, okB_fr ho k h1⟩
      have e0 : zFr d z k 0 = z 0 := zFr_same k 0 (fun b' hb' => by omega)
      have f0 : eLd (eE (eSA g a F)) false a 0 = some (nI (z 0)) := by
        have := ld (n := 57) (i := 0) (eSA g a F) (isMa_ar ha) (by decide) (by decide)
        rw [hcs.2.2.1 0 (by decide), e0] at this
        exact this
      rw [fX11_frays_4, f0, bis]
      by_cases hk : k = z 0
      · subst hk
        rw [if_pos (nI_le (Nat.le_refl _) (by omega))]
        exact ⟨F, rfl, hF⟩
      · have hk2 : k < z 0 := by omega
        obtain ⟨w1, w2⟩ := frC_own (d := d) ho hk2
        have hl12 := (ho.2 k hk2).2.1
        have f1 := q_len ha hcs.2.2.1 (show k < 4 by omega)
        rw [w1] at f1
        rw [if_neg (nI_ge hk2 (by omega)), f1, b2s]
        have nx := fun F' h => ih (k + 1) F' (by omega) (by omega) h
        rw [zFr, nFr] at nx
        by_cases hl : bl z k = 0
        · have hc : frC d z k = false := by simp [frC, hl]
          rw [hc] at nx
          rw [hl, if_pos (by decide), fX11_frays_49, nI_1]
          exact nx F hF
        · rw [if_neg (nI_nle (by omega) (by omega))]
          have f2 := q_end ha hcs (show k < zFr d z k 0 by rw [e0]; exact hk2)
          rw [w1, w2] at f2
          have cl := okB_cb hd ho hk2 (bl z k) (Nat.le_refl _)
          rw [f2, b2s, q_isTown hcs.1 hd (by omega), b2s]
          cases ht : isT d (cb d z k (bl z k)) with
          | true =>
            have hc : frC d z k = false := by simp [frC, ht]
            rw [hc] at nx
            rw [if_pos rfl, if_neg one_ne0, fX11_frays_49, nI_1]
            exact nx F hF
          | false =>
            have hc : frC d z k = true := by simp [frC, ht]; omega
            rw [hc] at nx
            have f3 := ld (n := 57) (i := 1 + k * 14 + 1) (eSA g a F) (isMa_ar ha) (by decide) (by omega)
            rw [hcs.2.2.1 _ (by omega), show zFr d z k (1 + k * 14 + 1) = bl z k from w1] at f3
            rw [if_pos (by decide), pl_m, nI_1, f3, bis, st (n := 57) (i := 1 + k * 14 + 1) (eSA g a F) (isMa_ar ha) (by decide) (by omega), bis, fX11_frays_49, nI_1, nI_1, show nI (bl z k) - 1 = nI (bl z k - 1) from by rw [show (1 : Int32) = nI 1 from rfl, pk_sub (by omega)], eSA_same, eSA_r, if_pos rfl]
            refine nx _ (fun i hi => ?_)
            have := BZ_upd hcs.2.2.1 (1 + k * 14 + 1) (bl z k - 1) i hi
            simp only [eSA_r, if_true] at this
            exact this
  simp only [fX11_frays, tO, cond_true, fX11_frays_0]
  obtain ⟨F', k1, k2⟩ := key eN 0 (g.2.1 a) (by omega) (by rw [eN_eq]; omega) hz
  rw [eSA_self] at k1
  exact ⟨F', k1, k2⟩
theorem sim12 : Sim12 Rl := by
  intro g r
  obtain ⟨n, tx, d, z, kn, nx, H, kp, Z, r1, r2, r8, r9, r10⟩ := id r
  have hd := r2.2.2.1
  have e1 := c_remember r8.1 r8.2.1 r8.2.2.1 r8.2.2.2.1
  have cs : CS (pastG g kn nx) 16 d z := ⟨past_CL r2.1, hd, past_BZ r2.2.2.2.1, r2.2.2.2.2.2⟩
  obtain ⟨F1, e2, f1⟩ := c_fray b14 cs
  have m5 := q_notes (g := eSI (eSA (pastG g kn nx) 16 F1) 38 0 0) r8.1 (pastA_n r8.2.2.2.2.1)
  have ms : MS (noteG (eSI (eSA (pastG g kn nx) 16 F1) 38 0 0) kn) 43 d z := ⟨note_ML r2.2.1, hd, note_BZ r2.2.2.2.2.1, r2.2.2.2.2.2⟩
  obtain ⟨F2, e3, f2⟩ := q_frays a43 ms
  refine ⟨nI (nFr d z (z 0)), eSA (pastG g kn nx) 16 F1, doneG g kn nx F1 F2, ?_, ?_, done_Rl r1 r2 r8 r9 r10 f1 f2 (okB_fr r2.2.2.2.2.2 (z 0) (Nat.le_refl _))⟩
  · simp only [fX10_rain, fX10_rain_0, tO, tR, bis, b2s, cond_true, e1, e2]
  · simp only [fX11_rain, fX11_rain_0, tO, tR, tP, bis, b2s, cond_true, m5, e3, doneG]
