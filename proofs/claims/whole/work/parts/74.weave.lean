/-! ===== the model's trees; toWeave ===== -/
theorem ar_51 : eAr sh0 51 = some (false, 320) := rfl
theorem ix20 (s x : Nat) : (20 : Int32) * nI s + nI x = nI (20 * s + x) := by
  rw [show (20 : Int32) = nI 20 from rfl, pk_mul, nI_add]
theorem sb_q : ∀ s p : Fin 16, (nI p.val &&& (nI s.val ^^^ (-1 : Int32)) = 0 ↔ sbS p.val s.val = true) ∧ (sbS p.val s.val = true → nI s.val &&& (nI p.val ^^^ (-1 : Int32)) = nI (s.val - p.val)) := by decide +kernel
def TT (d : Lnd) (R D : Nat) (F : Nat → Int32) (S : Nat) : Prop := ∀ s x, 0 < s → s < S → x < 20 → F (20 * s + x) = nI (TR d R D s x)
theorem TT_u {d : Lnd} {R D : Nat} {F : Nat → Int32} {S x : Nat} (h : TT d R D F S) (v : Int32) : TT d R D (upd F (20 * S + x) v) S := by
  intro s' x' h1 h2 h3
  rw [upd_i, if_neg (by omega)]
  exact h s' x' h1 h2 h3
def isBn (d : Lnd) (s x n : Nat) : Bool := (List.range n).any (fun t => s == 2 ^ t && lT d t == x)
theorem isBn_iff {d : Lnd} {s x n : Nat} : isBn d s x n = true ↔ ∃ t, t < n ∧ s = 2 ^ t ∧ lT d t = x := by
  unfold isBn
  rw [List.any_eq_true]
  constructor
  · rintro ⟨t, h1, h2⟩
    rw [Bool.and_eq_true, beq_iff_eq, beq_iff_eq] at h2
    exact ⟨t, List.mem_range.mp h1, h2.1, h2.2⟩
  · rintro ⟨t, h1, h2, h3⟩
    refine ⟨t, List.mem_range.mpr h1, ?_⟩
    rw [Bool.and_eq_true, beq_iff_eq, beq_iff_eq]
    exact ⟨h2, h3⟩
def iTn (d : Lnd) (R D s n x : Nat) : Nat := if isBn d s x n = true then 0 else inP (TR d R D) s x s
theorem kp_51 (g : eS) (F : Nat → Int32) : Kp g (eSA g 51 F) := kp_A g F (by decide)
section WEAVE
variable {g : eS} {d : Lnd} {R D : Nat}
theorem q_t61 (hd : okL d) (K26 : Nat → Int32 → eW → Option (Int32 × eW)) (K40 : Nat → Int32 → Int32 → eW → Option (Int32 × eW)) {s c : Nat} (hs : s < 16) (hc : c < 20) : ∀ (fv p : Nat) (F : Nat → Int32), 1 ≤ p → p ≤ s → s - p < fv → TT d R D F s → (∀ x, x < c → F (20 * s + x) = nI (inP (TR d R D) s x s)) → F (20 * s + c) = nI (inP (TR d R D) s c p) → ∃ F', fX11_toWeave_61 K26 K40 fv 38 (nI s) (nI c) (nI p) (eE (eSA g 51 F)) = K40 38 (nI s) (nI (c + 1)) (eE (eSA g 51 F')) ∧ TT d R D F' s ∧ ∀ x, x < c + 1 → F' (20 * s + x) = nI (inP (TR d R D) s x s) := by
  have hff : FF = 1000000 := rfl
  intro fv
  induction fv with
  | zero => intro p F h0 h1 h2; omega
  | succ fv ih =>
    intro p F h0 h1 h2 hT hF hFc
    rw [fX11_toWeave_61]
    by_cases hp : p = s
    · subst hp
      rw [if_pos (nI_le (Nat.le_refl _) (by omega)), nI_1]
      refine ⟨F, rfl, hT, fun x hx => ?_⟩
      by_cases hxc : x = c
      · rw [hxc]; exact hFc
      · exact hF x (by omega)
    · have hp2 : p < s := by omega
      have hle := inP_le (TR d R D) s c p
      have l1 : eLd (eE (eSA g 51 F)) false 51 (nI (20 * s + c)) = some (nI (inP (TR d R D) s c p)) := by rw [ld (n := 320) _ ar_51 (by decide) (by omega), sAA, hFc]
      have k106 : ∀ T, T ≤ 2000000 → min (inP (TR d R D) s c p) T = inP (TR d R D) s c (p + 1) → ∃ F', fX11_toWeave_106 K26 K40 (fX11_toWeave_61 K26 K40 fv) 38 (nI s) (nI c) (nI p) (nI T) (eE (eSA g 51 F)) = K40 38 (nI s) (nI (c + 1)) (eE (eSA g 51 F')) ∧ TT d R D F' s ∧ ∀ x, x < c + 1 → F' (20 * s + x) = nI (inP (TR d R D) s x s) := by
        intro T hT2 hmin
        have nx : ∀ v, v = nI (inP (TR d R D) s c (p + 1)) → ∃ F', fX11_toWeave_150 K26 K40 (fX11_toWeave_61 K26 K40 fv) 38 (nI s) (nI c) (nI p) 51 (nI (20 * s + c)) v (eE (eSA g 51 F)) = K40 38 (nI s) (nI (c + 1)) (eE (eSA g 51 F')) ∧ TT d R D F' s ∧ ∀ x, x < c + 1 → F' (20 * s + x) = nI (inP (TR d R D) s x s) := by
          intro v hv
          rw [fX11_toWeave_150, st (n := 320) _ ar_51 (by decide) (by omega), bis, eSA_same, sAA, nI_1]
          exact ih (p + 1) _ (by omega) (by omega) (by omega) (TT_u hT v) (fun x hx => by rw [upd_i, if_neg (by omega)]; exact hF x hx) (by rw [upd_i, if_pos rfl]; exact hv)
        simp only [fX11_toWeave_106, tR, bis, ix20, l1]
        by_cases hm : inP (TR d R D) s c p ≤ T
        · rw [if_pos (nI_le hm (by omega))]
          exact nx _ (by rw [← hmin, Nat.min_eq_left hm])
        · rw [if_neg (nI_ge (by omega) (by omega))]
          exact nx _ (by rw [← hmin, Nat.min_eq_right (by omega)])
      rw [if_neg (nI_ge hp2 (by omega))]
      obtain ⟨b1, b2⟩ := sb_q ⟨s, hs⟩ ⟨p, by omega⟩
      dsimp only at b1 b2
      by_cases hb : sbS p s = true
      · rw [if_pos (b1.mpr hb)]
        have l2 : eLd (eE (eSA g 51 F)) false 51 (nI (20 * p + c)) = some (nI (TR d R D p c)) := by rw [ld (n := 320) _ ar_51 (by decide) (by omega), sAA, hT p c (by omega) hp2 hc]
        have l3 : eLd (eE (eSA g 51 F)) false 51 (nI (20 * (s - p) + c)) = some (nI (TR d R D (s - p) c)) := by rw [ld (n := 320) _ ar_51 (by decide) (by omega), sAA, hT (s - p) c (by omega) (by omega) hc]
        have t1 := TR_le (d := d) (R := R) (D := D) p c
        have t2 := TR_le (d := d) (R := R) (D := D) (s - p) c
        simp only [tR, bis, ix20, b2 hb, l2, l3, nI_add]
        exact k106 _ (by omega) (by rw [inP, if_pos ⟨by omega, hb⟩])
      · rw [if_neg (fun q => hb (b1.mp q)), nIFF]
        exact k106 _ (by omega) (by rw [inP, if_neg (fun q => hb q.2), Nat.min_eq_left hle])
theorem q_gr_step (hL : ML g d) (hd : okL d) (hR : MR g d R D) {s : Nat} (hs : s < 16) {F : Nat → Int32} {t : Nat → Nat} (hT : TT d R D F s) (hF : ∀ x, x < 20 → F (20 * s + x) = nI (t x)) (ht : ∀ x, t x ≤ FF) (K2 : Nat → Int32 → Int32 → eW → Option eW) (K12 : Nat → Int32 → Int32 → Int32 → eW → Option eW) {c k rd : Nat} (hc : c < lC d) (hk : k < 4) (fv : Nat) : ∃ F', fX11_grows_23 K2 K12 (fv + 1) 38 (nI s) (nI rd) (nI c) (nI k) (eE (eSA g 51 F)) = fX11_grows_23 K2 K12 fv 38 (nI s) (nI rd) (nI c) (nI (k + 1)) (eE (eSA g 51 F')) ∧ TT d R D F' s ∧ ∀ x, x < 20 → F' (20 * s + x) = nI (relx (gT d R D) t (4 * c + k) x) := by
  have hC := okL_C hd
  have hff : FF = 1000000 := rfl
  have htc := ht c
  have hL' := kp_ML (kp_51 g F) hL
  have l1 : ∀ x, x < 20 → eLd (eE (eSA g 51 F)) false 51 (nI (20 * s + x)) = some (nI (t x)) := fun x hx => by rw [ld (n := 320) _ ar_51 (by decide) (by omega), sAA, hF x hx]
  have l2 : eLd (eE (eSA g 51 F)) false 48 (nI c) = some (nI (rbG (goB (lW d) R D c))) := by rw [ld (n := 20) _ ar_48 (by decide) (by omega), sAo g F (by decide), hR c hc]
  rw [fX11_grows_23, if_neg (show ¬ (4 : Int32) ≤ nI k from nI_ge (a := k) (b := 4) hk (by decide)), q_goes hL' hd hc hk, b2s]
  simp only [tR, bis, ix20, l1 c (show c < 20 by omega), l2]
  rw [rbG_tb _ hk]
  have tail : ∀ v, v = (if goB (lW d) R D c k = true then 0 else 1) → ∃ F', fX11_grows_69 K2 K12 (fX11_grows_23 K2 K12 fv) 38 (nI s) (nI rd) (nI c) (nI k) (oM9 (gb d c k)) (nI (t c)) (nI v) (eE (eSA g 51 F)) = fX11_grows_23 K2 K12 fv 38 (nI s) (nI rd) (nI c) (nI (k + 1)) (eE (eSA g 51 F')) ∧ TT d R D F' s ∧ ∀ x, x < 20 → F' (20 * s + x) = nI (relx (gT d R D) t (4 * c + k) x) := by
    intro v hv
    have hv1 : v ≤ 1 := by rw [hv]; split <;> omega
    rw [fX11_grows_69]
    cases hg : gb d c k with
    | none =>
      have hgn : gT d R D c k = none := by unfold gT; rw [hg]
      rw [show oM9 none = -9 from rfl, if_pos rfl, fX11_grows_110, nI_1]
      exact ⟨F, rfl, hT, fun x hx => by rw [relx_none hk hgn]; exact hF x hx⟩
    | some e =>
      have he := (gb_lt hd hc hg).1
      have hgs := gT_some (R := R) (D := D) hg
      rw [← hv] at hgs
      have hte := ht e
      rw [show oM9 (some e) = nI e from rfl, if_neg (nI_neg9 (by omega))]
      simp only [tR, bis, ix20, l1 e (show e < 20 by omega), nI_add]
      by_cases hm : t e ≤ t c + v
      · rw [if_pos (nI_le hm (by omega)), fX11_grows_110, nI_1]
        refine ⟨F, rfl, hT, fun x hx => ?_⟩
        rw [relx_some hk hgs, Nat.min_eq_left hm]
        by_cases hx2 : x = e
        · rw [if_pos hx2, ← hx2]; exact hF x hx
        · rw [if_neg hx2]; exact hF x hx
      · rw [if_neg (nI_ge (by omega) (by omega)), st (n := 320) _ ar_51 (by decide) (by omega), bis, eSA_same, sAA, fX11_grows_110, nI_1]
        refine ⟨_, rfl, TT_u hT _, fun x hx => ?_⟩
        rw [upd_i, relx_some hk hgs, Nat.min_eq_right (by omega)]
        by_cases hx2 : x = e
        · rw [if_pos (by omega), if_pos hx2]
        · rw [if_neg (by omega), if_neg hx2]; exact hF x hx
  cases hgo : goB (lW d) R D c k with
  | true =>
    rw [if_pos (show (if true = true then (1 : Int32) else 0) = 1 by decide)]
    exact tail 0 (by rw [hgo]; rfl)
  | false =>
    rw [if_neg (show ¬ (if false = true then (1 : Int32) else 0) = 1 by decide)]
    exact tail 1 (by rw [hgo]; rfl)
theorem q_grows (hL : ML g d) (hd : okL d) (hR : MR g d R D) {s : Nat} (hs : s < 16) {F : Nat → Int32} (hT : TT d R D F s) (hF : ∀ x, x < 20 → F (20 * s + x) = nI (iT d R D s x)) : ∃ F', fX11_grows 38 (nI s) (eE (eSA g 51 F)) = some (eE (eSA g 51 F')) ∧ TT d R D F' s ∧ ∀ x, x < 20 → F' (20 * s + x) = nI (TR d R D s x) := by
  have hC := okL_C hd
  have hcl : ∀ F, fX11_cells 38 (eE (eSA g 51 F)) = some (nI (lC d), eE (eSA g 51 F)) := fun F => q_cells (kp_ML (kp_51 g F) hL)
  have k23 : ∀ (T : Nat → Nat), (∀ x, T x ≤ FF) → ∀ (K2 : Nat → Int32 → Int32 → eW → Option eW) (K12 : Nat → Int32 → Int32 → Int32 → eW → Option eW) (c rd : Nat), c < lC d → ∀ (fv k : Nat) (F : Nat → Int32), k ≤ 4 → 4 - k < fv → TT d R D F s → (∀ x, x < 20 → F (20 * s + x) = nI (rlx (gT d R D) T (4 * c + k) x)) → ∃ F', fX11_grows_23 K2 K12 fv 38 (nI s) (nI rd) (nI c) (nI k) (eE (eSA g 51 F)) = K12 38 (nI s) (nI rd) (nI (c + 1)) (eE (eSA g 51 F')) ∧ TT d R D F' s ∧ (∀ x, x < 20 → F' (20 * s + x) = nI (rlx (gT d R D) T (4 * (c + 1)) x)) := by
    intro T hT1 K2 K12 c rd hc fv
    induction fv with
    | zero => intro k F h1 h2; omega
    | succ fv ih =>
      intro k F h1 h2 hT hF
      by_cases hk : k = 4
      · subst hk
        rw [fX11_grows_23, if_pos (show (4 : Int32) ≤ nI 4 by decide), nI_1]
        exact ⟨F, rfl, hT, hF⟩
      · obtain ⟨F', e1, e2, e3⟩ := q_gr_step hL hd hR hs hT hF (fun x => Nat.le_trans (rlx_mono _ T x 0 (4 * c + k) (by omega)) (hT1 x)) K2 K12 (rd := rd) hc (show k < 4 by omega) fv
        obtain ⟨F2, f1, f2⟩ := ih (k + 1) F' (by omega) (by omega) e2 e3
        exact ⟨F2, e1.trans f1, f2⟩
  have k12 : ∀ (T : Nat → Nat), (∀ x, T x ≤ FF) → ∀ (K2 : Nat → Int32 → Int32 → eW → Option eW) (rd : Nat) (fv c : Nat) (F : Nat → Int32), c ≤ lC d → lC d - c < fv → TT d R D F s → (∀ x, x < 20 → F (20 * s + x) = nI (rlx (gT d R D) T (4 * c) x)) → ∃ F', fX11_grows_12 K2 fv 38 (nI s) (nI rd) (nI c) (eE (eSA g 51 F)) = K2 38 (nI s) (nI (rd + 1)) (eE (eSA g 51 F')) ∧ TT d R D F' s ∧ (∀ x, x < 20 → F' (20 * s + x) = nI (rlx (gT d R D) T (4 * lC d) x)) := by
    intro T hT1 K2 rd fv
    induction fv with
    | zero => intro c F h1 h2; omega
    | succ fv ih =>
      intro c F h1 h2 hT hF
      rw [fX11_grows_12, hcl, b2s]
      by_cases hc : c = lC d
      · subst hc
        rw [if_pos (nI_le (Nat.le_refl _) (by omega)), nI_1]
        exact ⟨F, rfl, hT, hF⟩
      · rw [if_neg (nI_ge (show c < lC d by omega) (by omega))]
        obtain ⟨F', e1, e2, e3⟩ := k23 T hT1 K2 (fX11_grows_12 K2 fv) c rd (by omega) eN 0 F (by omega) (by rw [eN_eq]; omega) hT hF
        obtain ⟨F2, f1, f2⟩ := ih (c + 1) F' (by omega) (by omega) e2 e3
        exact ⟨F2, e1.trans f1, f2⟩
  have k2 : ∀ (fu rd : Nat) (F : Nat → Int32), rd ≤ lC d → lC d - rd < fu → TT d R D F s → (∀ x, x < 20 → F (20 * s + x) = nI (rnds (gT d R D) (lC d) (iT d R D s) rd x)) → ∃ F', fX11_grows_2 fu 38 (nI s) (nI rd) (eE (eSA g 51 F)) = some (eE (eSA g 51 F')) ∧ TT d R D F' s ∧ (∀ x, x < 20 → F' (20 * s + x) = nI (rnds (gT d R D) (lC d) (iT d R D s) (lC d) x)) := by
    intro fu
    induction fu with
    | zero => intro rd F h1 h2; omega
    | succ fu ih =>
      intro rd F h1 h2 hT hF
      rw [fX11_grows_2, hcl, b2s]
      by_cases hr : rd = lC d
      · subst hr
        rw [if_pos (nI_le (Nat.le_refl _) (by omega))]
        exact ⟨F, rfl, hT, hF⟩
      · rw [if_neg (nI_ge (show rd < lC d by omega) (by omega))]
        obtain ⟨F', e1, e2, e3⟩ := k12 (rnds (gT d R D) (lC d) (iT d R D s) rd) (fun x => Nat.le_trans (rnds_le0 _ _ _ x rd) (iT_le _ x)) (fX11_grows_2 fu) rd eN 0 F (by omega) (by rw [eN_eq]; omega) hT hF
        obtain ⟨F2, f1, f2⟩ := ih (rd + 1) F' (by omega) (by omega) e2 e3
        exact ⟨F2, e1.trans f1, f2⟩
  obtain ⟨F', o1, o2, o3⟩ := k2 eN 0 F (by omega) (by rw [eN_eq]; omega) hT hF
  rw [nI_0] at o1
  refine ⟨F', ?_, o2, fun x hx => by rw [o3 x hx, TR_r]⟩
  simp only [fX11_grows, fX11_grows_0, tO, cond_true]
  exact o1
theorem q_t165 (hL : ML g d) (hd : okL d) (hR : MR g d R D) (K26 : Nat → Int32 → eW → Option (Int32 × eW)) {s : Nat} (hs0 : 0 < s) (hs : s < 16) : ∀ (fv t : Nat) (F : Nat → Int32), t ≤ lK d → lK d - t < fv → TT d R D F s → (∀ x, x < 20 → F (20 * s + x) = nI (iTn d R D s t x)) → ∃ F', fX11_toWeave_165 K26 fv 38 (nI s) (nI t) (eE (eSA g 51 F)) = K26 38 (nI (s + 1)) (eE (eSA g 51 F')) ∧ TT d R D F' (s + 1) := by
  have hC := okL_C hd
  have hK := hd.2.2.2.1
  intro fv
  induction fv with
  | zero => intro t F h1 h2; omega
  | succ fv ih =>
    intro t F h1 h2 hT hF
    have hL' := kp_ML (kp_51 g F) hL
    simp only [fX11_toWeave_165, tR, tK, bis, hL'.2.2.2.1]
    by_cases ht : t = lK d
    · subst ht
      obtain ⟨F', o1, o2, o3⟩ := q_grows hL hd hR hs hT hF
      rw [if_pos (nI_le (Nat.le_refl _) (by omega)), o1, bis, nI_1]
      refine ⟨F', rfl, fun s' x h3 h4 h5 => ?_⟩
      by_cases hss : s' = s
      · rw [hss]; exact o3 x h5
      · exact o2 s' x h3 (by omega) h5
    · have ht2 : t < lK d := by omega
      have hTt := hd.2.2.2.2.2.1 t ht2
      have lt := q_t hL' hd ht2
      rw [if_neg (nI_ge ht2 (by omega))]
      simp only [lt, bis, ix20, bit_nI t (show t < 31 by omega)]
      have h8 : 2 ^ t ≤ 2 ^ 4 := Nat.pow_le_pow_right (by decide) (by omega)
      have fin : ∀ v, v = nI (iTn d R D s (t + 1) (lT d t)) → ∃ F', fX11_toWeave_217 K26 (fX11_toWeave_165 K26 fv) 38 (nI s) (nI t) 51 (nI (20 * s + lT d t)) v (eE (eSA g 51 F)) = K26 38 (nI (s + 1)) (eE (eSA g 51 F')) ∧ TT d R D F' (s + 1) := by
        intro v hv
        rw [fX11_toWeave_217, st (n := 320) _ ar_51 (by decide) (by omega), bis, eSA_same, sAA, nI_1]
        refine ih (t + 1) _ (by omega) (by omega) (TT_u hT v) (fun x hx => ?_)
        rw [upd_i]
        by_cases hx2 : x = lT d t
        · rw [if_pos (by omega), hx2]; exact hv
        · rw [if_neg (by omega), hF x hx]
          apply congrArg nI
          unfold iTn
          have : isBn d s x (t + 1) = isBn d s x t := by
            rw [Bool.eq_iff_iff, isBn_iff, isBn_iff]
            constructor
            · rintro ⟨t', q1, q2, q3⟩
              refine ⟨t', ?_, q2, q3⟩
              by_cases q4 : t' = t
              · rw [q4] at q3; exact absurd q3.symm hx2
              · omega
            · rintro ⟨t', q1, q2⟩; exact ⟨t', by omega, q2⟩
          rw [this]
      by_cases hst : s = 2 ^ t
      · rw [if_pos (by rw [hst])]
        refine fin 0 ?_
        unfold iTn
        rw [if_pos (isBn_iff.mpr ⟨t, by omega, hst, rfl⟩)]
        rfl
      · have l1 : eLd (eE (eSA g 51 F)) false 51 (nI (20 * s + lT d t)) = some (nI (iTn d R D s t (lT d t))) := by rw [ld (n := 320) _ ar_51 (by decide) (by omega), sAA, hF _ (by omega)]
        rw [if_neg (fun q => hst ((nI_eq (by omega) (by omega)).mp q)), l1, bis]
        refine fin _ ?_
        apply congrArg nI
        unfold iTn
        have : isBn d s (lT d t) (t + 1) = isBn d s (lT d t) t := by
          rw [Bool.eq_iff_iff, isBn_iff, isBn_iff]
          constructor
          · rintro ⟨t', q1, q2, q3⟩
            refine ⟨t', ?_, q2, q3⟩
            by_cases q4 : t' = t
            · rw [q4] at q2; exact absurd q2 hst
            · omega
          · rintro ⟨t', q1, q2⟩; exact ⟨t', by omega, q2⟩
        rw [this]
theorem q_t40 (hL : ML g d) (hd : okL d) (hR : MR g d R D) (K26 : Nat → Int32 → eW → Option (Int32 × eW)) {s : Nat} (hs0 : 0 < s) (hs : s < 16) : ∀ (fv c : Nat) (F : Nat → Int32), c ≤ 20 → 20 - c < fv → TT d R D F s → (∀ x, x < c → F (20 * s + x) = nI (inP (TR d R D) s x s)) → ∃ F', fX11_toWeave_40 K26 fv 38 (nI s) (nI c) (eE (eSA g 51 F)) = K26 38 (nI (s + 1)) (eE (eSA g 51 F')) ∧ TT d R D F' (s + 1) := by
  intro fv
  induction fv with
  | zero => intro c F h1 h2; omega
  | succ fv ih =>
    intro c F h1 h2 hT hF
    rw [fX11_toWeave_40]
    by_cases hc : c = 20
    · subst hc
      rw [if_pos (show (20 : Int32) ≤ nI 20 by decide)]
      have hK := hd.2.2.2.1
      have k0 := q_t165 hL hd hR K26 hs0 hs eN 0 F (by omega) (by rw [eN_eq]; omega) hT (fun x hx => by
        rw [hF x hx]
        apply congrArg nI
        unfold iTn
        rw [if_neg (fun q => by
          obtain ⟨t', q1, -⟩ := isBn_iff.mp q
          omega)])
      rw [nI_0] at k0
      exact k0
    · rw [if_neg (show ¬ (20 : Int32) ≤ nI c from nI_ge (a := c) (b := 20) (by omega) (by decide))]
      simp only [tR, bis, ix20]
      rw [st (n := 320) _ ar_51 (by decide) (by omega), bis, eSA_same, sAA]
      obtain ⟨F', o1, o2, o3⟩ := q_t61 (g := g) hd K26 (fX11_toWeave_40 K26 fv) hs (show c < 20 by omega) eN 1 (upd F (20 * s + c) 1000000) (by omega) (by omega) (by rw [eN_eq]; omega) (TT_u hT _) (fun x hx => by rw [upd_i, if_neg (by omega)]; exact hF x hx) (by
        rw [upd_i, if_pos rfl, inP, if_neg (by omega)]
        rfl)
      rw [show nI 1 = 1 from rfl] at o1
      obtain ⟨F2, p1, p2⟩ := ih (c + 1) F' (by omega) (by omega) o2 o3
      exact ⟨F2, o1.trans p1, p2⟩
theorem q_t26 (hL : ML g d) (hd : okL d) (hR : MR g d R D) (hK0 : 0 < lK d) : ∃ F', fX11_toWeave_26 eN 38 1 (eE g) = some (if TR d R D (2 ^ lK d - 1) (lT d 0) < FF then nI (TR d R D (2 ^ lK d - 1) (lT d 0)) else -9, eE (eSA g 51 F')) := by
  have hC := okL_C hd
  have hK := hd.2.2.2.1
  have hff : FF = 1000000 := rfl
  have h16 : 2 ^ lK d ≤ 2 ^ 4 := Nat.pow_le_pow_right (by decide) hK
  have p2 : 2 ^ 1 ≤ 2 ^ lK d := Nat.pow_le_pow_right (by decide) hK0
  have hT0 := hd.2.2.2.2.2.1 0 hK0
  have hb : nI (2 ^ lK d) - 1 = nI (2 ^ lK d - 1) := by rw [show (1 : Int32) = nI 1 from rfl, pk_sub (by omega)]
  have key : ∀ (fu s : Nat) (F : Nat → Int32), 1 ≤ s → s ≤ 2 ^ lK d → 2 ^ lK d - s < fu → TT d R D F s → ∃ F', fX11_toWeave_26 fu 38 (nI s) (eE (eSA g 51 F)) = some (if TR d R D (2 ^ lK d - 1) (lT d 0) < FF then nI (TR d R D (2 ^ lK d - 1) (lT d 0)) else -9, eE (eSA g 51 F')) := by
    intro fu
    induction fu with
    | zero => intro s F h0 h1 h2; omega
    | succ fu ih =>
      intro s F h0 h1 h2 hT
      have hL' := kp_ML (kp_51 g F) hL
      simp only [fX11_toWeave_26, tR, tK, bis, hL'.2.2.2.1]
      rw [bit_nI _ (show lK d < 31 by omega)]
      by_cases hs : s = 2 ^ lK d
      · have lt := q_t hL' hd hK0
        rw [nI_0] at lt
        rw [hs] at hT
        have tle := TR_le (d := d) (R := R) (D := D) (2 ^ lK d - 1) (lT d 0)
        have l1 : eLd (eE (eSA g 51 F)) false 51 (nI (20 * (2 ^ lK d - 1) + lT d 0)) = some (nI (TR d R D (2 ^ lK d - 1) (lT d 0))) := by rw [ld (n := 320) _ ar_51 (by decide) (by omega), sAA, hT _ _ (by omega) (by omega) (by omega)]
        rw [hs, if_pos (nI_le (Nat.le_refl _) (by omega)), hb, lt, bis, ix20, l1, bis, nIFF]
        refine ⟨F, ?_⟩
        by_cases hv : TR d R D (2 ^ lK d - 1) (lT d 0) < FF
        · rw [if_pos hv, if_pos (nI_lt hv (by omega))]
        · rw [if_neg hv, if_neg (nI_nlt (by omega) (by omega))]
      · rw [if_neg (nI_ge (show s < 2 ^ lK d by omega) (by omega))]
        obtain ⟨F', o1, o2⟩ := q_t40 hL hd hR (fX11_toWeave_26 fu) (show 0 < s by omega) (by omega) eN 0 F (by omega) (by rw [eN_eq]; omega) hT (fun x hx => absurd hx (Nat.not_lt_zero _))
        rw [nI_0] at o1
        obtain ⟨F2, p1⟩ := ih (s + 1) F' (by omega) (by omega) (by omega) o2
        exact ⟨F2, o1.trans p1⟩
  have k0 := key eN 1 (g.2.1 51) (by omega) (by omega) (by rw [eN_eq]; omega) (fun s x h1 h2 h3 => by omega)
  rw [eSA_self, show nI 1 = 1 from rfl] at k0
  exact k0
end WEAVE
theorem sim15 : Sim15 Rl := by
  intro g r
  obtain ⟨n, tx, d, z, kn, nx, H, kp, Z, r1, r2, r8, r9, r10⟩ := id r
  have hd := r2.2.2.1
  have ho := r2.2.2.2.2.2
  have hK := hd.2.2.2.1
  have hok := rd_ok hd ho
  have l1 := c_lay R22 b14 (rb_CS r2)
  have k1 := kp_rd R22 g (rdR d z) (rdD d z)
  obtain ⟨h, f1, f2⟩ := c_fewestElls (kp_CL k1 r2.1) hd hok (rd_gb hd ho) (rdS_1 g 22 _ _) (rdS_2 g 22 _ _)
  have k2 := kp_tr (kp_tr k1 f2) (kp_th h)
  have hM := kp_ML k2 r2.2.1
  by_cases hK0 : lK d = 0
  · rw [if_pos hK0] at f1
    refine ⟨0, h, eSI h 38 0 0, ?_, ?_, kp_Rl k2 r⟩
    · simp only [fX10_toWeave, fX10_toWeave_0, tO, tR, bis, b2s, cond_true, l1, f1]
    · simp only [fX11_toWeave, fX11_toWeave_0, tO, tR, tP, tK, bis, cond_true, hM.2.2.2.1]
      rw [hK0, if_pos nI_0]
  · rw [if_neg hK0] at f1
    obtain ⟨F, T, q1, q2, q3, q4⟩ := q_builds a43 (kp_MS k2 (rb_MS r2))
    have k3 := kp_tr k2 (kp_ar _ F T)
    obtain ⟨F', w1⟩ := q_t26 (kp_ML k3 r2.2.1) hd q2 (show 0 < lK d by omega)
    refine ⟨if TR d (rdR d z) (rdD d z) (2 ^ lK d - 1) (lT d 0) < FF then nI (TR d (rdR d z) (rdD d z) (2 ^ lK d - 1) (lT d 0)) else -9, h, eSA (arS (eSI h 38 0 0) F T) 51 F', ?_, ?_, kp_Rl (kp_tr k3 (kp_51 _ F')) r⟩
    · simp only [fX10_toWeave, fX10_toWeave_0, tO, tR, bis, b2s, cond_true, l1, f1]
    · simp only [fX11_toWeave, fX11_toWeave_0, tO, tR, tP, tK, bis, cond_true, hM.2.2.2.1]
      rw [if_neg (nI_ne0 (by omega) (by omega)), q1, bis, w1]
