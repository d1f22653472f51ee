/-! ===== turnAbout ===== -/
theorem opp_fin : ∀ c : Fin 4, (nI c.val + 2) - (nI c.val + 2) / 4 * 4 = nI (opp c.val) := by decide +kernel
theorem opp_fin2 : ∀ c : Fin 4, nI c.val ^^^ 2 = nI (opp c.val) := by decide +kernel
theorem c_opp {c : Nat} (h : c < 4) (w : eW) : fX0_opposite (nI c) w = some (nI (opp c), w) := by
  have := opp_fin ⟨c, h⟩
  dsimp only at this
  rw [fX0_opposite, fX0_opposite_0, if_neg (by decide), this]
theorem zTu_step {z : Nat → Nat} {b n e k : Nat} (h : 2 * k < n) : zTu z b n e (k + 1) = upd' (upd' (zTu z b n e k) (1 + b * 14 + 2 + k) (opp (z (1 + b * 14 + 2 + (n - 1 - k))))) (1 + b * 14 + 2 + (n - 1 - k)) (opp (z (1 + b * 14 + 2 + k))) := by
  funext j
  unfold upd'
  by_cases h1 : j = 1 + b * 14 + 2 + (n - 1 - k)
  · rw [if_pos h1, zTu, if_neg (by omega), if_pos ⟨by omega, by omega, Or.inr (by omega)⟩]
    exact congrArg opp (congrArg z (by omega))
  · rw [if_neg h1]
    by_cases h2 : j = 1 + b * 14 + 2 + k
    · rw [if_pos h2, zTu, if_neg (by omega), if_pos ⟨by omega, by omega, Or.inl (by omega)⟩]
      exact congrArg opp (congrArg z (by omega))
    · rw [if_neg h2, zTu, zTu]
      by_cases h3 : j = 1 + b * 14
      · rw [if_pos h3, if_pos h3]
      · rw [if_neg h3, if_neg h3]
        by_cases h4 : 1 + b * 14 + 2 ≤ j ∧ j < 1 + b * 14 + 2 + n ∧ (j < 1 + b * 14 + 2 + k ∨ 1 + b * 14 + 2 + n ≤ j + k)
        · rw [if_pos h4, if_pos (by omega)]
        · rw [if_neg h4, if_neg (by omega)]
theorem zTu_end {z : Nat → Nat} {b n e k : Nat} (h : n ≤ 2 * k) (hk : k ≤ n) : zTu z b n e k = zTu z b n e n := by
  funext j
  rw [zTu, zTu]
  by_cases h3 : j = 1 + b * 14
  · rw [if_pos h3, if_pos h3]
  · rw [if_neg h3, if_neg h3]
    by_cases h4 : 1 + b * 14 + 2 ≤ j ∧ j < 1 + b * 14 + 2 + n
    · rw [if_pos (by omega), if_pos (by omega)]
    · rw [if_neg (by omega), if_neg (by omega)]
theorem zTu_mid {z : Nat → Nat} {b n e k i : Nat} (h1 : k ≤ i) (h2 : i + k < n) : zTu z b n e k (1 + b * 14 + 2 + i) = z (1 + b * 14 + 2 + i) := by
  rw [zTu, if_neg (by omega), if_neg (by omega)]
theorem c_turn {g : eS} {d : Lnd} {z : Nat → Nat} (hS : CS g 16 d z) {b : Nat} (hb : b < z 0) : ∃ F, fX0_turn 14 (nI b) (eE g) = some (eE (eSA g 16 F)) ∧ ∀ i, i < 57 → F i = nI (zTurn d z b i) := by
  have hS' := hS
  obtain ⟨hL, hd, hz, ho⟩ := hS
  have h4 := ho.1
  have hb4 : b < 4 := by omega
  obtain ⟨q1, hl12, q3⟩ := ho.2 b hb
  have key : ∀ (fu k : Nat) (F : Nat → Int32), k ≤ bl z b → bl z b - k < fu → (∀ i, i < 57 → F i = nI (zTu z b (bl z b) (cb d z b (bl z b)) k i)) → ∃ F', fX0_turn_36 fu 14 (nI (1 + b * 14 + 2)) (nI k) (nI (bl z b - k) - 1) (eE (eSA g 16 F)) = some (eE (eSA g 16 F')) ∧ ∀ i, i < 57 → F' i = nI (zTurn d z b i) := by
    intro fu
    induction fu with
    | zero => intro k F h1 h2; omega
    | succ fu ih =>
      intro k F h1 h2 hF
      rw [fX0_turn_36]
      have cond : nI (bl z b - k) - 1 < nI k ↔ bl z b ≤ 2 * k := by
        rw [Int32.lt_iff_toInt_lt, show (1 : Int32) = nI 1 from rfl, pk_sub_toInt (by omega) (by decide), nI_toInt (by omega)]
        omega
      by_cases hk : bl z b ≤ 2 * k
      · rw [if_pos (cond.mpr hk)]
        refine ⟨F, rfl, fun i hi => ?_⟩
        rw [hF i hi, zTu_end hk h1]
        rfl
      · have hk2 : 2 * k < bl z b := by omega
        have e1 : nI (bl z b - k) - 1 = nI (bl z b - 1 - k) := by
          rw [show (1 : Int32) = nI 1 from rfl, pk_sub (by omega)]
          exact congrArg nI (by omega)
        have v1 : F (1 + b * 14 + 2 + k) = nI (bc z b k) := by rw [hF _ (by omega), zTu_mid (by omega) (by omega)]; rfl
        have v2 : F (1 + b * 14 + 2 + (bl z b - 1 - k)) = nI (bc z b (bl z b - 1 - k)) := by rw [hF _ (by omega), zTu_mid (by omega) (by omega)]; rfl
        have c1 := (q3 k (by omega)).1
        have c2 := (q3 (bl z b - 1 - k) (by omega)).1
        have p1 := row_getN r15 (eSA g 16 F) (show 1 + b * 14 + 2 + k < 57 by omega)
        have p2 := row_getN r15 (eSA g 16 F) (show 1 + b * 14 + 2 + (bl z b - 1 - k) < 57 by omega)
        rw [eSA_r, if_pos rfl, v1] at p1
        rw [eSA_r, if_pos rfl, v2] at p2
        have p3 := row_putN r15 (eSA g 16 F) (show 1 + b * 14 + 2 + k < 57 by omega) (nI (opp (bc z b (bl z b - 1 - k))))
        rw [eSA_same, eSA_r, if_pos rfl] at p3
        have p4 := row_putN r15 (eSA g 16 (upd F (1 + b * 14 + 2 + k) (nI (opp (bc z b (bl z b - 1 - k)))))) (show 1 + b * 14 + 2 + (bl z b - 1 - k) < 57 by omega) (nI (opp (bc z b k)))
        rw [eSA_same, eSA_r, if_pos rfl] at p4
        have nx := ih (k + 1) (upd (upd F (1 + b * 14 + 2 + k) (nI (opp (bc z b (bl z b - 1 - k))))) (1 + b * 14 + 2 + (bl z b - 1 - k)) (nI (opp (bc z b k)))) (by omega) (by omega) (fun i hi => by
          have := BZ_upd (BZ_upd (eSA_BZ (g := g) (a := 16) hF) (1 + b * 14 + 2 + k) (opp (bc z b (bl z b - 1 - k)))) (1 + b * 14 + 2 + (bl z b - 1 - k)) (opp (bc z b k)) i hi
          simp only [eSA_same, eSA_r, if_true] at this
          rw [this, zTu_step hk2]
          rfl)
        rw [if_neg (fun q => hk (cond.mp q)), e1]
        have e2 : nI (bl z b - 1 - k) + -1 = nI (bl z b - (k + 1)) - 1 := by
          rw [show bl z b - 1 - k = bl z b - (k + 1) by omega, Int32.sub_eq_add_neg]
        simp only [tR, bis, nI_add, p1, p2, b2s, c_opp c1, c_opp c2, p3, p4, nI_1, e2]
        exact nx
  have e1 := c_last b14 hS' hb
  have e2 := row_putN r15 g (show 1 + b * 14 < 57 by omega) (nI (cb d z b (bl z b)))
  have z1 := BZ_upd hz (1 + b * 14) (cb d z b (bl z b))
  have e3 := c_len b14 z1 hb4
  have e4 : bl (upd' z (1 + b * 14) (cb d z b (bl z b))) b = bl z b := upd'_ne _ _ (by omega)
  rw [e4] at e3
  obtain ⟨F', k1, k2⟩ := key eN 0 (upd (g.2.1 16) (1 + b * 14) (nI (cb d z b (bl z b)))) (by omega) (by rw [eN_eq]; omega) (fun i hi => by
    have := z1 i hi
    rw [eSA_r, if_pos rfl] at this
    rw [this]
    refine congrArg nI ?_
    unfold upd' zTu
    by_cases h3 : i = 1 + b * 14
    · rw [if_pos h3, if_pos h3]
    · rw [if_neg h3, if_neg h3, if_neg (by omega)])
  refine ⟨F', ?_, k2⟩
  rw [Nat.sub_zero, nI_0] at k1
  simp only [fX0_turn, fX0_turn_0, tO, tR, cond_true, bis, b2s, fX0_placeOf, fX0_placeOf_0, pl_c, nI_p0, nI_p2, e1, e2, e3, k1]
theorem q_turn_loop {N : eS} {z : Nat → Nat} {d : Lnd} {b m : Nat} (hb : b < 4) (hl : bl z b ≤ 12) (hc : ∀ i, i < bl z b → bc z b i < 4) (hm : m < 10) (h47 : ∀ i, i < 57 → N.2.1 47 (m * 57 + i) = nI (z i)) : ∀ (fu k : Nat) (F : Nat → Int32), k ≤ bl z b → bl z b - k < fu → (∀ i, i < 57 → F i = nI (if 1 + b * 14 + 2 ≤ i ∧ i < 1 + b * 14 + 2 + k then opp (z (1 + b * 14 + 2 + (1 + b * 14 + 2 + bl z b - 1 - i))) else if i = 1 + b * 14 then cb d z b (bl z b) else z i)) → ∃ F', fX11_turnAbout_68 fu 38 (nI b) (nI (m * 57 + 1 + b * 14)) (nI (bl z b)) (nI k) (eE (eSA N 43 F)) = some (nI (cb d z b (bl z b)), eE (eSA N 43 F')) ∧ ∀ i, i < 57 → F' i = nI (zTurn d z b i) := by
  intro fu
  induction fu with
  | zero => intro k F h1 h2; omega
  | succ fu ih =>
    intro k F h1 h2 hF
    rw [fX11_turnAbout_68]
    by_cases hk : k = bl z b
    · have e1 := ld (n := 57) (i := 1 + b * 14) (a := 43) (eSA N 43 F) rfl (by decide) (by omega)
      rw [eSA_r, if_pos rfl, hF _ (by omega), if_neg (by omega), if_pos rfl] at e1
      refine ⟨F, ?_, fun i hi => ?_⟩
      · rw [if_pos (by rw [hk]; exact nI_le (Nat.le_refl _) (by omega))]
        simp only [tR, bis, pl_m, e1]
      · rw [hF i hi]
        refine congrArg nI ?_
        unfold zTurn zTu
        rw [hk]
        by_cases h3 : 1 + b * 14 + 2 ≤ i ∧ i < 1 + b * 14 + 2 + bl z b
        · rw [if_pos h3, if_neg (by omega), if_pos (by omega)]
        · rw [if_neg h3]
          by_cases h4 : i = 1 + b * 14
          · rw [if_pos h4, if_pos h4]
          · rw [if_neg h4, if_neg h4, if_neg (by omega)]
    · have hk2 : k < bl z b := by omega
      have e1 : nI (m * 57 + 1 + b * 14 + 1 + bl z b) - nI k = nI (m * 57 + (1 + b * 14 + 2 + (bl z b - 1 - k))) := by
        rw [pk_sub (by omega)]
        exact congrArg nI (by omega)
      have e2 := ld (n := 570) (i := m * 57 + (1 + b * 14 + 2 + (bl z b - 1 - k))) (a := 47) (eSA N 43 F) rfl (by decide) (by omega)
      rw [eSA_r, if_neg (by decide), h47 _ (by omega)] at e2
      have e3 := fun x => st (n := 57) (i := 1 + b * 14 + 2 + k) (a := 43) (eSA N 43 F) rfl (by decide) (by omega) x
      have c2 := opp_fin2 ⟨bc z b (bl z b - 1 - k), hc _ (by omega)⟩
      dsimp only at c2
      have nx := ih (k + 1) (upd F (1 + b * 14 + 2 + k) (nI (opp (bc z b (bl z b - 1 - k))))) (by omega) (by omega) (fun i hi => by
        by_cases h3 : i = 1 + b * 14 + 2 + k
        · rw [h3, pk_us, if_pos (by omega)]
          refine congrArg nI (congrArg opp ?_)
          unfold bc
          exact congrArg z (by omega)
        · rw [pk_un h3, hF i hi]
          refine congrArg nI ?_
          by_cases h4 : 1 + b * 14 + 2 ≤ i ∧ i < 1 + b * 14 + 2 + k
          · rw [if_pos h4, if_pos (by omega)]
          · rw [if_neg h4, if_neg (show ¬ (1 + b * 14 + 2 ≤ i ∧ i < 1 + b * 14 + 2 + (k + 1)) by omega)])
      have e4 := e3 (nI (opp (bc z b (bl z b - 1 - k))))
      rw [eSA_same, eSA_r, if_pos rfl] at e4
      rw [show z (1 + b * 14 + 2 + (bl z b - 1 - k)) = bc z b (bl z b - 1 - k) from rfl] at e2
      rw [if_neg (nI_ge hk2 (by omega))]
      simp only [tR, bis, e1, e2, pl_m, nI_p2, nI_add, nI_1, c2, e4]
      obtain ⟨F', n1, n2⟩ := nx
      refine ⟨F', ?_, n2⟩
      rw [n1]
theorem note_47 {h : eS} {kn : Nat} (hk : kn ≤ 10) {i : Nat} (hi : i < 57) : (noteG h kn).2.1 47 ((min (kn + 1) 10 - 1) * 57 + i) = h.2.1 43 i := by
  unfold noteG
  by_cases h1 : kn = 10
  · rw [if_pos h1, h1, eSI_A, eSA_r, if_pos rfl]
    exact cpT_in hi
  · rw [if_neg h1, eSI_A, eSA_r, if_pos rfl, show min (kn + 1) 10 - 1 = kn by omega]
    exact cpT_in hi
theorem sim11 : Sim11 Rl := by
  intro g r x
  obtain ⟨n, tx, d, z, kn, nx, H, kp, Z, r1, r2, r8, r9, r10⟩ := id r
  have hd := r2.2.2.1
  have h4 := r2.2.2.2.2.2.1
  rcases inOr x (show z 0 < 2 ^ 31 by omega) with ⟨b, hb, rfl⟩ | hx
  · have hb4 : b < 4 := by omega
    obtain ⟨q1, hl12, q3⟩ := r2.2.2.2.2.2.2 b hb
    have e1 := c_has b14 r2.2.2.2.1 h4 hb
    have e11 := c_remember r8.1 r8.2.1 r8.2.2.1 r8.2.2.2.1
    have cs : CS (pastG g kn nx) 16 d z := ⟨past_CL r2.1, hd, past_BZ r2.2.2.2.1, r2.2.2.2.2.2⟩
    obtain ⟨F1, e2, f1⟩ := c_turn cs hb
    have zt : bf (zTurn d z b) b = cb d z b (bl z b) := by unfold bf zTurn zTu; rw [if_pos rfl]
    have e3 := c_first b14 (eSA_BZ (g := pastG g kn nx) (a := 16) f1) hb4
    rw [zt] at e3
    have ms1 : MS (eSI (eSA (pastG g kn nx) 16 F1) 38 0 0) 43 d z := ⟨th_ML (pastA_ML r2.2.1), hd, th_BZ (pastA_BZ r2.2.2.2.2.1), r2.2.2.2.2.2⟩
    have m1 := q_isB ms1.2.2.1 h4 hb
    have m5 := q_notes (g := eSI (eSA (pastG g kn nx) 16 F1) 38 0 0) r8.1 (pastA_n r8.2.2.2.2.1)
    have ms : MS (noteG (eSI (eSA (pastG g kn nx) 16 F1) 38 0 0) kn) 43 d z := ⟨note_ML r2.2.1, hd, note_BZ r2.2.2.2.2.1, r2.2.2.2.2.2⟩
    have n18 := noteG_n (eSI (eSA (pastG g kn nx) 16 F1) 38 0 0) r8.1
    have n47 : ∀ i, i < 57 → (noteG (eSI (eSA (pastG g kn nx) 16 F1) 38 0 0) kn).2.1 47 ((min (kn + 1) 10 - 1) * 57 + i) = nI (z i) := fun i hi => by
      rw [note_47 r8.1 hi]
      exact ms1.2.2.1 i hi
    generalize hm : min (kn + 1) 10 - 1 = m at n47
    have hm1 : min (kn + 1) 10 = m + 1 := by omega
    rw [hm1] at n18
    generalize hN : noteG (eSI (eSA (pastG g kn nx) 16 F1) 38 0 0) kn = N at m5 ms n18 n47
    have m6 := q_len a43 ms.2.2.1 hb4
    have m7 := q_end a43 ms hb
    have m8 := st (n := 57) (i := 1 + b * 14) (a := 43) N rfl (by decide) (by omega) (nI (cb d z b (bl z b)))
    have at1 : ((57 : Int32) * (nI (m + 1) - 1) + 1) + 14 * nI b = nI (m * 57 + 1 + b * 14) := by
      rw [nI_pred]
      show nI 57 * nI m + nI 1 + nI 14 * nI b = _
      rw [pk_mul, pk_mul, nI_add, nI_add]
      exact congrArg nI (by omega)
    obtain ⟨F2, e4, f2⟩ := q_turn_loop (N := N) (d := d) hb4 hl12 (fun i hi => (q3 i hi).1) (show m < 10 by omega) n47 eN 0 (upd (N.2.1 43) (1 + b * 14) (nI (cb d z b (bl z b)))) (by omega) (by rw [eN_eq]; omega) (fun i hi => by
      have := BZ_upd ms.2.2.1 (1 + b * 14) (cb d z b (bl z b)) i hi
      rw [eSA_r, if_pos rfl] at this
      rw [this, if_neg (by omega)]
      rfl)
    rw [nI_0] at e4
    refine ⟨nI (cb d z b (bl z b)), eSA (pastG g kn nx) 16 F1, doneG g kn nx F1 F2, ?_, ?_, done_Rl r1 r2 r8 r9 r10 f1 f2 (okB_turn hd r2.2.2.2.2.2 hb)⟩
    · simp only [fX10_turnAbout, fX10_turnAbout_0, tO, tR, bis, b2s, cond_true, e1, if_neg one_ne0, e11, e2, e3]
    · simp only [fX11_turnAbout, fX11_turnAbout_0, tO, tR, tI, tP, bis, b2s, cond_true, m1, if_neg one_ne0, m5, n18, m6, m7, at1, pl_m, m8, e4]
      rw [doneG, hN]
  · refine ⟨-1, g, eSI g 38 0 0, ?_, ?_, kp_Rl (kp_th g) r⟩
    · simp only [fX10_turnAbout, fX10_turnAbout_0, tO, tR, bis, b2s, cond_true, c_hasNo b14 r2.2.2.2.1 hx, if_true]
    · simp only [fX11_turnAbout, fX11_turnAbout_0, tO, tR, tP, bis, b2s, cond_true, q_isBNo (th_BZ r2.2.2.2.2.1) h4 hx, if_true]
