/-! ===== the model's spreads ===== -/
theorem kp_50 (g : eS) (F : Nat → Int32) : Kp g (eSA g 50 F) := ⟨⟨fun _ => rfl, rfl, rfl, rfl, rfl, rfl, rfl⟩, ⟨rfl, rfl, rfl, rfl, rfl, rfl⟩, ⟨rfl, rfl, rfl, rfl, rfl, rfl, rfl, rfl⟩, rfl⟩
theorem ar_50 : eAr sh0 50 = some (false, 20) := rfl
theorem sA50 (g : eS) (F : Nat → Int32) : (eSA g 50 F).2.1 50 = F := by rw [eSA_r, if_pos rfl]
theorem sA50o (g : eS) (F : Nat → Int32) {i : Nat} (h : i ≠ 50) : (eSA g 50 F).2.1 i = g.2.1 i := by rw [eSA_r, if_neg h]
theorem rnds_le0 (ed : Gr) (n : Nat) (t : Nat → Nat) (x : Nat) : ∀ r, rnds ed n t r x ≤ t x := by
  intro r
  induction r with
  | zero => exact Nat.le_refl _
  | succ r ih => exact Nat.le_trans (rlx_mono ed _ x 0 (4 * n) (by omega)) ih
theorem fS_le (S x : Nat) : fS S x ≤ FF := by
  unfold fS
  split
  · exact Nat.zero_le _
  · exact Nat.le_refl _
theorem nIFF : (1000000 : Int32) = nI FF := rfl
def FA (n : Nat) (F : Nat → Int32) (t : Nat → Nat) : Prop := ∀ x, x < n → F x = nI (t x)
theorem relx_none {ed : Gr} {t : Nat → Nat} {c k : Nat} (hk : k < 4) (h : ed c k = none) (x : Nat) : relx ed t (4 * c + k) x = t x := by
  unfold relx
  rw [show (4 * c + k) / 4 = c by omega, show (4 * c + k) % 4 = k by omega, h]
theorem relx_some {ed : Gr} {t : Nat → Nat} {c k e w : Nat} (hk : k < 4) (h : ed c k = some (e, w)) (x : Nat) : relx ed t (4 * c + k) x = if x = e then min (t e) (t c + w) else t x := by
  unfold relx
  rw [show (4 * c + k) / 4 = c by omega, show (4 * c + k) % 4 = k by omega, h]
theorem MR_50 {g : eS} {d : Lnd} {R D : Nat} (h : MR g d R D) (F : Nat → Int32) : MR (eSA g 50 F) d R D := by
  intro x hx
  rw [sA50o g F (by decide)]
  exact h x hx
theorem q_sp_step {g : eS} {d : Lnd} (hL : ML g d) (hd : okL d) {R D : Nat} (hok : okRD d R D) (hR : MR g d R D) {F : Nat → Int32} {t : Nat → Nat} (hF : FA (lC d) F t) (ht : ∀ x, t x ≤ FF) (K31 : Nat → Int32 → eW → Option eW) (K41 : Nat → Int32 → Int32 → eW → Option eW) {c k rd : Nat} (hc : c < lC d) (hk : k < 4) (fv : Nat) : ∃ F', fX11_spreads_52 K31 K41 (fv + 1) 38 (nI rd) (nI c) (nI k) (eE (eSA g 50 F)) = fX11_spreads_52 K31 K41 fv 38 (nI rd) (nI c) (nI (k + 1)) (eE (eSA g 50 F')) ∧ FA (lC d) F' (relx (ed1 (lW d) R D) t (4 * c + k)) := by
  have hC := okL_C hd
  have hff : FF = 1000000 := rfl
  have htc := ht c
  have l1 : ∀ x, x < lC d → eLd (eE (eSA g 50 F)) false 50 (nI x) = some (nI (t x)) := fun x hx => by rw [ld (n := 20) _ ar_50 (by decide) (by omega), sA50, hF x hx]
  have l2 : eLd (eE (eSA g 50 F)) false 48 (nI c) = some (nI (rbG (goB (lW d) R D c))) := by rw [ld (n := 20) _ ar_48 (by decide) (by omega), sA50o g F (by decide), hR c hc]
  have s1 : ∀ x v, x < lC d → eSt (eE (eSA g 50 F)) false 50 (nI x) v = some (eE (eSA g 50 (upd F x v))) := fun x v hx => by rw [st (n := 20) _ ar_50 (by decide) (by omega), eSA_same, sA50]
  have no : ∃ F', fX11_spreads_88 K31 K41 (fX11_spreads_52 K31 K41 fv) 38 (nI rd) (nI c) (nI k) (eE (eSA g 50 F)) = fX11_spreads_52 K31 K41 fv 38 (nI rd) (nI c) (nI (k + 1)) (eE (eSA g 50 F')) ∧ FA (lC d) F' t := by
    refine ⟨upd F c (nI (t c)), ?_, fun x hx => ?_⟩
    · rw [fX11_spreads_88, fX11_spreads_89, if_pos rfl, fX11_spreads_107]
      simp only [tR, bis, if_true, fX11_spreads_149, fX11_spreads_156, l1 c hc, s1 c _ hc, nI_1]
    · rw [upd_i]
      by_cases hx2 : x = c
      · rw [if_pos hx2, hx2]
      · rw [if_neg hx2]; exact hF x hx
  rw [fX11_spreads_52, if_neg (show ¬ (4 : Int32) ≤ nI k from nI_ge (a := k) (b := 4) hk (by decide))]
  simp only [tR, bis, l1 c hc]
  rw [nIFF]
  by_cases hfar : t c = FF
  · rw [if_pos (nI_le (by omega) (by omega))]
    obtain ⟨F', n1, n2⟩ := no
    refine ⟨F', n1, fun x hx => ?_⟩
    rw [n2 x hx]
    apply congrArg nI
    cases he : ed1 (lW d) R D c k with
    | none => rw [relx_none hk he]
    | some ew =>
      obtain ⟨e, w⟩ := ew
      rw [relx_some hk he]
      split
      next hx2 =>
        subst hx2
        have := ht x
        rw [Nat.min_eq_left (by omega)]
      next => rfl
  · rw [if_neg (nI_ge (by omega) (by omega)), l2, bis, rbG_tb _ hk]
    cases hg : goB (lW d) R D c k with
    | false =>
      rw [if_neg (show ¬ (if false = true then (1 : Int32) else 0) = 1 by decide)]
      obtain ⟨F', n1, n2⟩ := no
      refine ⟨F', n1, fun x hx => ?_⟩
      rw [n2 x hx, relx_none hk (by unfold ed1; rw [hg]; rfl)]
    | true =>
      rw [if_pos (show (if true = true then (1 : Int32) else 0) = 1 by decide)]
      have hgn := goB_nb hd hok hk hg
      have he := (nb_lt hd.1.1 hc hgn.2).1
      have hee : mv (lW d) c k < lC d := he
      have hed : ed1 (lW d) R D c k = some (mv (lW d) c k, 1) := by unfold ed1; rw [hg]; rfl
      have lead := q_leads (kp_ML (kp_50 g F) hL) hd hc hk
      rw [hgn.2] at lead
      rw [fX11_spreads_89, if_neg one_ne0, lead, b2s, show oM9 (some (mv (lW d) c k)) = nI (mv (lW d) c k) from rfl, fX11_spreads_107]
      simp only [tR, bis, if_neg one_ne0, l1 c hc, l1 _ hee, nI_1]
      have hte := ht (mv (lW d) c k)
      by_cases hm : t (mv (lW d) c k) ≤ t c + 1
      · rw [if_pos (nI_le hm (by omega))]
        simp only [fX11_spreads_149, tR, bis, fX11_spreads_156, l1 _ hee, s1 _ _ hee, nI_1]
        refine ⟨_, rfl, fun x hx => ?_⟩
        rw [upd_i, relx_some hk hed, Nat.min_eq_left hm]
        by_cases hx2 : x = mv (lW d) c k
        · rw [if_pos hx2, if_pos hx2]
        · rw [if_neg hx2, if_neg hx2, hF x hx]
      · rw [if_neg (nI_ge (by omega) (by omega))]
        simp only [fX11_spreads_156, s1 _ _ hee, bis, nI_1]
        refine ⟨_, rfl, fun x hx => ?_⟩
        rw [upd_i, relx_some hk hed, Nat.min_eq_right (by omega)]
        by_cases hx2 : x = mv (lW d) c k
        · rw [if_pos hx2, if_pos hx2]
        · rw [if_neg hx2, if_neg hx2, hF x hx]
theorem q_spreads {g : eS} {d : Lnd} (hL : ML g d) (hd : okL d) {R D : Nat} (hok : okRD d R D) (hR : MR g d R D) {a : Nat} (ha : a < lC d) : ∃ F, fX11_spreads 38 (nI a) (eE g) = some (eE (eSA g 50 F)) ∧ FA (lC d) F (dst d R D (2 ^ a)) := by
  have hC := okL_C hd
  have hcl : ∀ F, fX11_cells 38 (eE (eSA g 50 F)) = some (nI (lC d), eE (eSA g 50 F)) := fun F => q_cells (kp_ML (kp_50 g F) hL)
  have k52 : ∀ (T : Nat → Nat), (∀ x, T x ≤ FF) → ∀ (K31 : Nat → Int32 → eW → Option eW) (K41 : Nat → Int32 → Int32 → eW → Option eW) (c rd : Nat), c < lC d → ∀ (fv k : Nat) (F : Nat → Int32), k ≤ 4 → 4 - k < fv → FA (lC d) F (rlx (ed1 (lW d) R D) T (4 * c + k)) → ∃ F', fX11_spreads_52 K31 K41 fv 38 (nI rd) (nI c) (nI k) (eE (eSA g 50 F)) = K41 38 (nI rd) (nI (c + 1)) (eE (eSA g 50 F')) ∧ FA (lC d) F' (rlx (ed1 (lW d) R D) T (4 * (c + 1))) := by
    intro T hT K31 K41 c rd hc fv
    induction fv with
    | zero => intro k F h1 h2; omega
    | succ fv ih =>
      intro k F h1 h2 hF
      by_cases hk : k = 4
      · subst hk
        rw [fX11_spreads_52, if_pos (show (4 : Int32) ≤ nI 4 by decide), nI_1]
        exact ⟨F, rfl, hF⟩
      · obtain ⟨F', e1, e2⟩ := q_sp_step hL hd hok hR hF (fun x => Nat.le_trans (rlx_mono _ T x 0 (4 * c + k) (by omega)) (hT x)) K31 K41 (rd := rd) hc (show k < 4 by omega) fv
        obtain ⟨F2, f1, f2⟩ := ih (k + 1) F' (by omega) (by omega) e2
        exact ⟨F2, e1.trans f1, f2⟩
  have k41 : ∀ (T : Nat → Nat), (∀ x, T x ≤ FF) → ∀ (K31 : Nat → Int32 → eW → Option eW) (rd : Nat) (fv c : Nat) (F : Nat → Int32), c ≤ lC d → lC d - c < fv → FA (lC d) F (rlx (ed1 (lW d) R D) T (4 * c)) → ∃ F', fX11_spreads_41 K31 fv 38 (nI rd) (nI c) (eE (eSA g 50 F)) = K31 38 (nI (rd + 1)) (eE (eSA g 50 F')) ∧ FA (lC d) F' (rlx (ed1 (lW d) R D) T (4 * lC d)) := by
    intro T hT K31 rd fv
    induction fv with
    | zero => intro c F h1 h2; omega
    | succ fv ih =>
      intro c F h1 h2 hF
      rw [fX11_spreads_41, hcl, b2s]
      by_cases hc : c = lC d
      · subst hc
        rw [if_pos (nI_le (Nat.le_refl _) (by omega)), nI_1]
        exact ⟨F, rfl, hF⟩
      · rw [if_neg (nI_ge (show c < lC d by omega) (by omega))]
        obtain ⟨F', e1, e2⟩ := k52 T hT K31 (fX11_spreads_41 K31 fv) c rd (by omega) eN 0 F (by omega) (by rw [eN_eq]; omega) hF
        obtain ⟨F2, f1, f2⟩ := ih (c + 1) F' (by omega) (by omega) e2
        exact ⟨F2, e1.trans f1, f2⟩
  have k31 : ∀ (fu rd : Nat) (F : Nat → Int32), rd ≤ lC d → lC d - rd < fu → FA (lC d) F (rnds (ed1 (lW d) R D) (lC d) (fS (2 ^ a)) rd) → ∃ F', fX11_spreads_31 fu 38 (nI rd) (eE (eSA g 50 F)) = some (eE (eSA g 50 F')) ∧ FA (lC d) F' (rnds (ed1 (lW d) R D) (lC d) (fS (2 ^ a)) (lC d)) := by
    intro fu
    induction fu with
    | zero => intro rd F h1 h2; omega
    | succ fu ih =>
      intro rd F h1 h2 hF
      rw [fX11_spreads_31, hcl, b2s]
      by_cases hr : rd = lC d
      · subst hr
        rw [if_pos (nI_le (Nat.le_refl _) (by omega))]
        exact ⟨F, rfl, hF⟩
      · rw [if_neg (nI_ge (show rd < lC d by omega) (by omega))]
        obtain ⟨F', e1, e2⟩ := k41 (rnds (ed1 (lW d) R D) (lC d) (fS (2 ^ a)) rd) (fun x => Nat.le_trans (rnds_le0 _ _ _ x rd) (fS_le _ x)) (fX11_spreads_31 fu) rd eN 0 F (by omega) (by rw [eN_eq]; omega) hF
        obtain ⟨F2, f1, f2⟩ := ih (rd + 1) F' (by omega) (by omega) e2
        exact ⟨F2, e1.trans f1, f2⟩
  have k2 : ∀ (fu k : Nat) (F : Nat → Int32), k ≤ 20 → 20 - k < fu → (∀ x, x < k → F x = nI FF) → ∃ F', fX11_spreads_2 fu 38 (nI a) (nI k) (eE (eSA g 50 F)) = fX11_spreads_31 eN 38 0 (eE (eSA g 50 F')) ∧ FA (lC d) F' (fS (2 ^ a)) := by
    intro fu
    induction fu with
    | zero => intro k F h1 h2; omega
    | succ fu ih =>
      intro k F h1 h2 hF
      rw [fX11_spreads_2]
      by_cases hk : k = 20
      · subst hk
        rw [if_pos (show (20 : Int32) ≤ nI 20 by decide)]
        simp only [tR, bis]
        rw [st (n := 20) _ ar_50 (by decide) (by omega), eSA_same, sA50, bis]
        refine ⟨_, rfl, fun x hx => ?_⟩
        rw [upd_i]
        unfold fS
        rw [testBit_two]
        by_cases hx2 : x = a
        · rw [if_pos hx2, if_pos (by rw [hx2]; simp)]; rfl
        · rw [if_neg hx2, if_neg (by simp; omega)]; exact hF x (by omega)
      · rw [if_neg (show ¬ (20 : Int32) ≤ nI k from nI_ge (a := k) (b := 20) (by omega) (by decide))]
        simp only [tR, bis]
        rw [st (n := 20) _ ar_50 (by decide) (by omega), eSA_same, sA50, bis, nI_1]
        refine ih (k + 1) _ (by omega) (by omega) (fun x hx => ?_)
        rw [upd_i]
        by_cases hx2 : x = k
        · rw [if_pos hx2]; rfl
        · rw [if_neg hx2]; exact hF x (by omega)
  obtain ⟨F1, e1, e2⟩ := k2 eN 0 (g.2.1 50) (by omega) (by rw [eN_eq]; omega) (fun x hx => absurd hx (Nat.not_lt_zero _))
  obtain ⟨F2, f1, f2⟩ := k31 eN 0 F1 (by omega) (by rw [eN_eq]; omega) e2
  rw [eSA_self, nI_0] at e1
  rw [nI_0] at f1
  refine ⟨F2, ?_, fun x hx => ?_⟩
  · simp only [fX11_spreads, fX11_spreads_0, tO, cond_true]
    rw [e1, f1]
  · rw [f2 x hx]
    apply congrArg nI
    exact rnds_eq (okG1 hd hok) hx (by omega) (by omega)
