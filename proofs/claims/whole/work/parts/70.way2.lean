/-! ===== way: the model ===== -/
theorem MT_50 {g : eS} {d : Lnd} {z : Nat → Nat} {n : Nat} (h : MT g d z n) (F : Nat → Int32) : MT (eSA g 50 F) d z n := by
  intro x hx
  rw [sA50o g F (by decide)]
  exact h x hx
theorem q_wy_step {g : eS} {d : Lnd} (hL : ML g d) (hd : okL d) {R D : Nat} (hok : okRD d R D) (hR : MR g d R D) {z : Nat → Nat} (h4 : z 0 ≤ 4) (hM : MT g d z (z 0)) {F : Nat → Int32} {t : Nat → Nat} (hF : FA (lC d) F t) (ht : ∀ x, t x ≤ FF) (K62 : Nat → Int32 → Int32 → eW → Option (Int32 × eW)) (K73 : Nat → Int32 → Int32 → Int32 → eW → Option (Int32 × eW)) {c k rd to : Nat} (hc : c < lC d) (hk : k < 4) (fv : Nat) : ∃ F', fX11_way_85 K62 K73 (fv + 1) 38 (nI to) (nI rd) (nI c) (nI k) (eE (eSA g 50 F)) = fX11_way_85 K62 K73 fv 38 (nI to) (nI rd) (nI c) (nI (k + 1)) (eE (eSA g 50 F')) ∧ FA (lC d) F' (relx (edW d R D (smN d z (z 0)).2) t (4 * c + k)) := by
  have hC := okL_C hd
  have hff : FF = 1000000 := rfl
  have htc := ht c
  have hL' := kp_ML (kp_50 g F) hL
  have l1 : ∀ x, x < lC d → eLd (eE (eSA g 50 F)) false 50 (nI x) = some (nI (t x)) := fun x hx => by rw [ld (n := 20) _ ar_50 (by decide) (by omega), sA50, hF x hx]
  have l2 : eLd (eE (eSA g 50 F)) false 48 (nI c) = some (nI (rbG (goB (lW d) R D c))) := by rw [ld (n := 20) _ ar_48 (by decide) (by omega), sA50o g F (by decide), hR c hc]
  have l3 : ∀ x, x < lC d → eLd (eE (eSA g 50 F)) false 49 (nI x) = some (nI (tch d z x (z 0))) := fun x hx => by rw [ld (n := 20) _ ar_49 (by decide) (by omega), sA50o g F (by decide), hM x hx]
  have s1 : ∀ x v, x < lC d → eSt (eE (eSA g 50 F)) false 50 (nI x) v = some (eE (eSA g 50 (upd F x v))) := fun x v hx => by rw [st (n := 20) _ ar_50 (by decide) (by omega), eSA_same, sA50]
  rw [fX11_way_85, if_neg (show ¬ (4 : Int32) ≤ nI k from nI_ge (a := k) (b := 4) hk (by decide))]
  simp only [tR, bis, l1 c hc]
  rw [nIFF]
  by_cases hfar : t c = FF
  · rw [if_pos (nI_le (by omega) (by omega)), fX11_way_232, nI_1]
    refine ⟨F, rfl, fun x hx => ?_⟩
    rw [hF x hx]
    apply congrArg nI
    cases he : edW d R D (smN d z (z 0)).2 c k with
    | none => rw [relx_none hk he]
    | some ew =>
      obtain ⟨e, w⟩ := ew
      rw [relx_some hk he]
      split
      next hx2 =>
        subst hx2
        have := ht x
        rw [Nat.min_eq_left (by omega)]
      next => rfl
  · rw [if_neg (nI_ge (by omega) (by omega)), l2, bis, rbG_tb _ hk]
    cases hg : goB (lW d) R D c k with
    | false =>
      rw [if_neg (show ¬ (if false = true then (1 : Int32) else 0) = 1 by decide), fX11_way_232, nI_1]
      refine ⟨F, rfl, fun x hx => ?_⟩
      rw [relx_none hk (edW_none hg)]
      exact hF x hx
    | true =>
      have hgn := goB_nb hd hok hk hg
      have hnb := hgn.2
      have hed := edW_some (sm := (smN d z (z 0)).2) hg
      have lead := q_leads hL' hd hc hk
      generalize hev : mv (lW d) c k = e at hnb hed
      have he : e < lC d := (nb_lt hd.1.1 hc hnb).1
      have hte := ht e
      have hh1 := hd.2.2.2.2.1 c
      have hh2 := hd.2.2.2.2.1 e
      have so := sm_ok d z e (z 0) h4
      have h16 : 2 ^ z 0 ≤ 2 ^ 4 := Nat.pow_le_pow_right (by decide) h4
      have hpl := popN_le (tch d z e (z 0)) 4
      have hsl := smW_le (smN d z (z 0)).2 e
      rw [hnb] at lead
      rw [if_pos (show (if true = true then (1 : Int32) else 0) = 1 by decide), lead, b2s, show oM9 (some e) = nI e from rfl]
      have qe := q_h hL' (show e < 20 by omega)
      have qc := q_h hL' (show c < 20 by omega)
      have tail2 : ∀ s, s = nI (smW (smN d z (z 0)).2 e) → ∃ F', fX11_way_198 K62 K73 (fX11_way_85 K62 K73 fv) 38 (nI to) (nI rd) (nI c) (nI k) (nI e) (nI (t c + 1 + (lH d e - lH d c))) s (eE (eSA g 50 F)) = fX11_way_85 K62 K73 fv 38 (nI to) (nI rd) (nI c) (nI (k + 1)) (eE (eSA g 50 F')) ∧ FA (lC d) F' (relx (edW d R D (smN d z (z 0)).2) t (4 * c + k)) := by
        intro s hs
        simp only [fX11_way_198, tR, bis, l1 e he]
        rw [hs, nI_add]
        by_cases hm : t e ≤ t c + 1 + (lH d e - lH d c) + smW (smN d z (z 0)).2 e
        · rw [if_pos (nI_le hm (by omega)), fX11_way_231, s1 e _ he, bis, fX11_way_232, nI_1]
          refine ⟨_, rfl, fun x hx => ?_⟩
          rw [upd_i, relx_some hk hed, Nat.min_eq_left (by omega)]
          by_cases hx2 : x = e
          · rw [if_pos hx2, if_pos hx2]
          · rw [if_neg hx2, if_neg hx2]; exact hF x hx
        · rw [if_neg (nI_ge (by omega) (by omega)), fX11_way_231, s1 e _ he, bis, fX11_way_232, nI_1]
          refine ⟨_, rfl, fun x hx => ?_⟩
          rw [upd_i, relx_some hk hed, Nat.min_eq_right (by omega)]
          by_cases hx2 : x = e
          · rw [if_pos hx2, if_pos hx2]
            apply congrArg nI
            omega
          · rw [if_neg hx2, if_neg hx2]; exact hF x hx
      have tail : ∀ u, u = nI (lH d e - lH d c) → ∃ F', fX11_way_165 K62 K73 (fX11_way_85 K62 K73 fv) 38 (nI to) (nI rd) (nI c) (nI k) (nI e) u (eE (eSA g 50 F)) = fX11_way_85 K62 K73 fv 38 (nI to) (nI rd) (nI c) (nI (k + 1)) (eE (eSA g 50 F')) ∧ FA (lC d) F' (relx (edW d R D (smN d z (z 0)).2) t (4 * c + k)) := by
        intro u hu
        simp only [fX11_way_165, tR, bis, l1 c hc, l3 e he]
        rw [q_ones (by omega), b2s, hu, nI_1, nI_add]
        by_cases h1 : popN (tch d z e (z 0)) 4 ≤ 1
        · rw [if_pos (show nI _ ≤ (1 : Int32) from nI_le (b := 1) h1 (by decide))]
          refine tail2 0 ?_
          unfold smW
          rw [if_neg (fun q => by have := so.2.2.mp q; omega)]
          rfl
        · rw [if_neg (show ¬ nI _ ≤ (1 : Int32) from nI_ge (a := 1) (by omega) (by omega))]
          refine tail2 1 ?_
          unfold smW
          rw [if_pos (so.2.2.mpr (by omega))]
          rfl
      simp only [tR, bis, qe, qc]
      by_cases hup : lH d e ≤ lH d c
      · rw [if_pos (nI_le hup (by omega))]
        exact tail 0 (by rw [show lH d e - lH d c = 0 by omega]; rfl)
      · rw [if_neg (nI_ge (by omega) (by omega))]
        exact tail _ (pk_sub (by omega))
theorem q_way33 {g : eS} {d : Lnd} (hL : ML g d) (hd : okL d) {R D : Nat} (hok : okRD d R D) (hR : MR g d R D) {z : Nat → Nat} (h4 : z 0 ≤ 4) (hM : MT g d z (z 0)) {a to : Nat} (ha : a < lC d) (hto : to < lC d) : ∃ F, fX11_way_33 eN 38 (nI a) (nI to) 0 (eE g) = some (if FF ≤ rnds (edW d R D (smN d z (z 0)).2) (lC d) (fS (2 ^ a)) (lC d) to then (-9 : Int32) else nI (rnds (edW d R D (smN d z (z 0)).2) (lC d) (fS (2 ^ a)) (lC d) to), eE (eSA g 50 F)) := by
  have hC := okL_C hd
  have hff : FF = 1000000 := rfl
  have hcl : ∀ F, fX11_cells 38 (eE (eSA g 50 F)) = some (nI (lC d), eE (eSA g 50 F)) := fun F => q_cells (kp_ML (kp_50 g F) hL)
  have k85 : ∀ (T : Nat → Nat), (∀ x, T x ≤ FF) → ∀ (K62 : Nat → Int32 → Int32 → eW → Option (Int32 × eW)) (K73 : Nat → Int32 → Int32 → Int32 → eW → Option (Int32 × eW)) (c rd : Nat), c < lC d → ∀ (fv k : Nat) (F : Nat → Int32), k ≤ 4 → 4 - k < fv → FA (lC d) F (rlx (edW d R D (smN d z (z 0)).2) T (4 * c + k)) → ∃ F', fX11_way_85 K62 K73 fv 38 (nI to) (nI rd) (nI c) (nI k) (eE (eSA g 50 F)) = K73 38 (nI to) (nI rd) (nI (c + 1)) (eE (eSA g 50 F')) ∧ FA (lC d) F' (rlx (edW d R D (smN d z (z 0)).2) T (4 * (c + 1))) := by
    intro T hT K62 K73 c rd hc fv
    induction fv with
    | zero => intro k F h1 h2; omega
    | succ fv ih =>
      intro k F h1 h2 hF
      by_cases hk : k = 4
      · subst hk
        rw [fX11_way_85, if_pos (show (4 : Int32) ≤ nI 4 by decide), nI_1]
        exact ⟨F, rfl, hF⟩
      · obtain ⟨F', e1, e2⟩ := q_wy_step hL hd hok hR h4 hM hF (fun x => Nat.le_trans (rlx_mono _ T x 0 (4 * c + k) (by omega)) (hT x)) K62 K73 (rd := rd) (to := to) hc (show k < 4 by omega) fv
        obtain ⟨F2, f1, f2⟩ := ih (k + 1) F' (by omega) (by omega) e2
        exact ⟨F2, e1.trans f1, f2⟩
  have k73 : ∀ (T : Nat → Nat), (∀ x, T x ≤ FF) → ∀ (K62 : Nat → Int32 → Int32 → eW → Option (Int32 × eW)) (rd : Nat) (fv c : Nat) (F : Nat → Int32), c ≤ lC d → lC d - c < fv → FA (lC d) F (rlx (edW d R D (smN d z (z 0)).2) T (4 * c)) → ∃ F', fX11_way_73 K62 fv 38 (nI to) (nI rd) (nI c) (eE (eSA g 50 F)) = K62 38 (nI to) (nI (rd + 1)) (eE (eSA g 50 F')) ∧ FA (lC d) F' (rlx (edW d R D (smN d z (z 0)).2) T (4 * lC d)) := by
    intro T hT K62 rd fv
    induction fv with
    | zero => intro c F h1 h2; omega
    | succ fv ih =>
      intro c F h1 h2 hF
      rw [fX11_way_73, hcl, b2s]
      by_cases hc : c = lC d
      · subst hc
        rw [if_pos (nI_le (Nat.le_refl _) (by omega)), nI_1]
        exact ⟨F, rfl, hF⟩
      · rw [if_neg (nI_ge (show c < lC d by omega) (by omega))]
        obtain ⟨F', e1, e2⟩ := k85 T hT K62 (fX11_way_73 K62 fv) c rd (by omega) eN 0 F (by omega) (by rw [eN_eq]; omega) hF
        obtain ⟨F2, f1, f2⟩ := ih (c + 1) F' (by omega) (by omega) e2
        exact ⟨F2, e1.trans f1, f2⟩
  have k62 : ∀ (fu rd : Nat) (F : Nat → Int32), rd ≤ lC d → lC d - rd < fu → FA (lC d) F (rnds (edW d R D (smN d z (z 0)).2) (lC d) (fS (2 ^ a)) rd) → ∃ F', fX11_way_62 fu 38 (nI to) (nI rd) (eE (eSA g 50 F)) = some (if FF ≤ rnds (edW d R D (smN d z (z 0)).2) (lC d) (fS (2 ^ a)) (lC d) to then (-9 : Int32) else nI (rnds (edW d R D (smN d z (z 0)).2) (lC d) (fS (2 ^ a)) (lC d) to), eE (eSA g 50 F')) := by
    intro fu
    induction fu with
    | zero => intro rd F h1 h2; omega
    | succ fu ih =>
      intro rd F h1 h2 hF
      rw [fX11_way_62, hcl, b2s]
      by_cases hr : rd = lC d
      · subst hr
        have tl := Nat.le_trans (rnds_le0 (edW d R D (smN d z (z 0)).2) (lC d) (fS (2 ^ a)) to (lC d)) (fS_le _ to)
        have l1 : eLd (eE (eSA g 50 F)) false 50 (nI to) = some (nI (rnds (edW d R D (smN d z (z 0)).2) (lC d) (fS (2 ^ a)) (lC d) to)) := by rw [ld (n := 20) _ ar_50 (by decide) (by omega), sA50, hF to hto]
        rw [if_pos (nI_le (Nat.le_refl _) (by omega))]
        simp only [tR, bis, l1]
        rw [nIFF]
        refine ⟨F, ?_⟩
        by_cases hN : FF ≤ rnds (edW d R D (smN d z (z 0)).2) (lC d) (fS (2 ^ a)) (lC d) to
        · rw [if_pos (nI_le hN (by omega)), if_pos hN]
        · rw [if_neg (nI_ge (by omega) (by omega)), if_neg hN]
      · rw [if_neg (nI_ge (show rd < lC d by omega) (by omega))]
        obtain ⟨F', e1, e2⟩ := k73 (rnds (edW d R D (smN d z (z 0)).2) (lC d) (fS (2 ^ a)) rd) (fun x => Nat.le_trans (rnds_le0 _ _ _ x rd) (fS_le _ x)) (fX11_way_62 fu) rd eN 0 F (by omega) (by rw [eN_eq]; omega) hF
        obtain ⟨F2, f1⟩ := ih (rd + 1) F' (by omega) (by omega) e2
        exact ⟨F2, e1.trans f1⟩
  have k33 : ∀ (fu k : Nat) (F : Nat → Int32), k ≤ 20 → 20 - k < fu → (∀ x, x < k → F x = nI FF) → ∃ F', fX11_way_33 fu 38 (nI a) (nI to) (nI k) (eE (eSA g 50 F)) = fX11_way_62 eN 38 (nI to) 0 (eE (eSA g 50 F')) ∧ FA (lC d) F' (fS (2 ^ a)) := by
    intro fu
    induction fu with
    | zero => intro k F h1 h2; omega
    | succ fu ih =>
      intro k F h1 h2 hF
      rw [fX11_way_33]
      by_cases hk : k = 20
      · subst hk
        rw [if_pos (show (20 : Int32) ≤ nI 20 by decide)]
        simp only [tR, bis]
        rw [st (n := 20) _ ar_50 (by decide) (by omega), eSA_same, sA50, bis]
        refine ⟨_, rfl, fun x hx => ?_⟩
        rw [upd_i]
        unfold fS
        rw [testBit_two]
        by_cases hx2 : x = a
        · rw [if_pos hx2, if_pos (by rw [hx2]; simp)]; rfl
        · rw [if_neg hx2, if_neg (by simp; omega)]; exact hF x (by omega)
      · rw [if_neg (show ¬ (20 : Int32) ≤ nI k from nI_ge (a := k) (b := 20) (by omega) (by decide))]
        simp only [tR, bis]
        rw [st (n := 20) _ ar_50 (by decide) (by omega), eSA_same, sA50, bis, nI_1]
        refine ih (k + 1) _ (by omega) (by omega) (fun x hx => ?_)
        rw [upd_i]
        by_cases hx2 : x = k
        · rw [if_pos hx2]; rfl
        · rw [if_neg hx2]; exact hF x (by omega)
  obtain ⟨F1, e1, e2⟩ := k33 eN 0 (g.2.1 50) (by omega) (by rw [eN_eq]; omega) (fun x hx => absurd hx (Nat.not_lt_zero _))
  obtain ⟨F2, f1⟩ := k62 eN 0 F1 (by omega) (by rw [eN_eq]; omega) e2
  rw [eSA_self, nI_0] at e1
  rw [nI_0] at f1
  exact ⟨F2, e1.trans f1⟩
theorem sim16 : Sim16 Rl := by
  intro g r x u
  obtain ⟨n, tx, d, z, kn, nx, H, kp, Z, r1, r2, r8, r9, r10⟩ := id r
  have hd := r2.2.2.1
  have hC := okL_C hd
  have ho := r2.2.2.2.2.2
  rcases inOr x (show lC d < 2 ^ 31 by omega) with ⟨a, ha, rfl⟩ | hx
  · have e1 := c_hasN g1 r2.1 hd ha
    rcases inOr u (show lC d < 2 ^ 31 by omega) with ⟨b, hb, rfl⟩ | hu
    · have e2 := c_hasN g1 r2.1 hd hb
      have hS := rb_CS r2
      have l1 := c_lay R22 b14 hS
      have hok := rd_ok hd ho
      have k1 := kp_rd R22 g (rdR d z) (rdD d z)
      obtain ⟨Q, cs⟩ := c_soonest (rd_CS R22 hS) hok (rdS_1 g 22 _ _) (rdS_2 g 22 _ _) ha hb
      have k2 := kp_tr (kp_tr k1 (kp_A _ Q (a := 25) (by decide))) (kp_th _)
      obtain ⟨F, T, f1, f2, f3, f4⟩ := q_builds a43 (kp_MS k2 (rb_MS r2))
      have k3 := kp_tr k2 (kp_ar _ F T)
      obtain ⟨G, s1⟩ := q_way33 (kp_ML k3 r2.2.1) hd f4 f2 ho.1 f3 ha hb
      have weq := way_eq (n := lC d) (a := a) (x := b) (okGW hd hok (smN d z (z 0)).2) (edW_w hd) hC.1 hb
      refine ⟨if 1000 ≤ rnds (edW d (rdR d z) (rdD d z) (smN d z (z 0)).2) (lC d) (fC a) 20 b then (-9 : Int32) else nI (rnds (edW d (rdR d z) (rdD d z) (smN d z (z 0)).2) (lC d) (fC a) 20 b), eSA (rdS g 22 (rdR d z) (rdD d z)) 25 Q, eSA (arS (eSI (eSA (rdS g 22 (rdR d z) (rdD d z)) 25 Q) 38 0 0) F T) 50 G, ?_, ?_, kp_Rl (kp_tr k3 (kp_50 _ G)) r⟩
      · simp only [fX10_way, fX10_way_0, tO, tR, bis, b2s, cond_true, e1, e2, if_neg one_ne0, l1, cs]
      · have i1 := q_isN (kp_ML k2 r2.2.1) hd ha
        have i2 := q_isN (kp_ML k2 r2.2.1) hd hb
        simp only [fX11_way, fX11_way_0, tO, tR, tP, bis, b2s, cond_true, i1, i2, if_neg one_ne0, f1, s1]
        rw [weq]
    · refine ⟨-1, g, eSI g 38 0 0, ?_, ?_, kp_Rl (kp_th g) r⟩
      · simp only [fX10_way, fX10_way_0, tO, tR, bis, b2s, cond_true, e1, c_hasO g1 r2.1 hu, if_neg one_ne0, if_true]
      · simp only [fX11_way, fX11_way_0, tO, tP, bis, b2s, cond_true, q_isN (th_ML r2.2.1) hd ha, q_isO (th_ML r2.2.1) hd hu, if_neg one_ne0, if_true]
  · refine ⟨-1, g, eSI g 38 0 0, ?_, ?_, kp_Rl (kp_th g) r⟩
    · simp only [fX10_way, fX10_way_0, tO, tR, bis, b2s, cond_true, c_hasO g1 r2.1 hx, if_true]
    · simp only [fX11_way, fX11_way_0, tO, tP, bis, b2s, cond_true, q_isO (th_ML r2.2.1) hd hx, if_true]
