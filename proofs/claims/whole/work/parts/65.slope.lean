/-! ===== least slope ===== -/
def sgo (d : Lnd) (s c k : Nat) : Bool := match nb (lW d) (lD d) c k with
  | none => false
  | some e => decide (ad (lH d c) (lH d e) ≤ s)
def slA (d : Lnd) (s : Nat) : Nat → Nat × Nat
  | 0 => (0, 0)
  | m + 1 => if sgo d s (m / 2) (m % 2 + 1) then lyR (lW d) (slA d s m) (m / 2) (m % 2 + 1) else slA d s m
def slR (d : Lnd) (s : Nat) : Nat := (slA d s (2 * lC d)).1
def slD (d : Lnd) (s : Nat) : Nat := (slA d s (2 * lC d)).2
theorem sgo_nb {d : Lnd} {s c k : Nat} (h : sgo d s c k = true) : ∃ e, nb (lW d) (lD d) c k = some e ∧ ad (lH d c) (lH d e) ≤ s := by
  unfold sgo at h
  split at h
  next => cases h
  next e he => exact ⟨e, he, of_decide_eq_true h⟩
theorem sgo_i {d : Lnd} {s c k e : Nat} (h : nb (lW d) (lD d) c k = some e) : sgo d s c k = decide (ad (lH d c) (lH d e) ≤ s) := by
  unfold sgo; rw [h]
theorem sgo_n {d : Lnd} {s c k : Nat} (h : nb (lW d) (lD d) c k = none) : sgo d s c k = false := by
  unfold sgo; rw [h]
theorem sgo_opp {d : Lnd} (hd : okL d) {s c k e : Nat} (hc : c < lC d) (h : nb (lW d) (lD d) c k = some e) : sgo d s e (opp k) = sgo d s c k := by
  rw [sgo_i h, sgo_i (nb_opp hd hc h), ad_comm]
theorem slA_ok {d : Lnd} (hd : okL d) (s : Nat) : ∀ m, m ≤ 2 * lC d → okRD d (slA d s m).1 (slA d s m).2 ∧ ∀ x j, j < 4 → (goB (lW d) (slA d s m).1 (slA d s m).2 x j = true ↔ ∃ m' e, m' < m ∧ sgo d s (m' / 2) (m' % 2 + 1) = true ∧ nb (lW d) (lD d) (m' / 2) (m' % 2 + 1) = some e ∧ ((x = m' / 2 ∧ j = m' % 2 + 1) ∨ (x = e ∧ j = opp (m' % 2 + 1)))) := by
  intro m
  induction m with
  | zero =>
    intro _
    refine ⟨okRD_0 d, fun x j hj => ?_⟩
    constructor
    · intro h
      exfalso
      have : goB (lW d) 0 0 x j = false := by unfold goB; simp
      rw [show (slA d s 0).1 = 0 from rfl, show (slA d s 0).2 = 0 from rfl, this] at h
      cases h
    · rintro ⟨m', e, h, -⟩
      exact absurd h (Nat.not_lt_zero _)
  | succ m ih =>
    intro hm
    obtain ⟨i1, i2⟩ := ih (by omega)
    rw [slA]
    cases hg : sgo d s (m / 2) (m % 2 + 1) with
    | false =>
      rw [if_neg (by decide)]
      refine ⟨i1, fun x j hj => ?_⟩
      rw [i2 x j hj]
      constructor
      · rintro ⟨m', e, h1, h2⟩; exact ⟨m', e, by omega, h2⟩
      · rintro ⟨m', e, h1, h2, h3⟩
        refine ⟨m', e, ?_, h2, h3⟩
        by_cases q : m' = m
        · rw [q, hg] at h2; cases h2
        · omega
    | true =>
      rw [if_pos rfl]
      obtain ⟨e, e1, e2⟩ := sgo_nb hg
      have ly := lyR_ok hd i1 (show m / 2 < lC d by omega) e1
      refine ⟨ly.1, fun x j hj => ?_⟩
      rw [show goB (lW d) (lyR (lW d) (slA d s m) (m / 2) (m % 2 + 1)).1 (lyR (lW d) (slA d s m) (m / 2) (m % 2 + 1)).2 x j = _ from ly.2 x j hj, Bool.or_eq_true, Bool.or_eq_true, decide_eq_true_eq, decide_eq_true_eq, i2 x j hj]
      constructor
      · rintro (⟨m', e', h1, h2⟩ | h | h)
        · exact ⟨m', e', by omega, h2⟩
        · exact ⟨m, e, by omega, hg, e1, Or.inl h⟩
        · exact ⟨m, e, by omega, hg, e1, Or.inr h⟩
      · rintro ⟨m', e', h1, h2, h3, h4⟩
        by_cases q : m' = m
        · rw [q] at h3 h4
          rw [e1] at h3
          cases h3
          exact Or.inr h4
        · exact Or.inl ⟨m', e', by omega, h2, h3, h4⟩
theorem sl_ok {d : Lnd} (hd : okL d) (s : Nat) : okRD d (slR d s) (slD d s) := (slA_ok hd s (2 * lC d) (Nat.le_refl _)).1
theorem sl_go {d : Lnd} (hd : okL d) (s : Nat) {x j : Nat} (hx : x < lC d) (hj : j < 4) : goB (lW d) (slR d s) (slD d s) x j = sgo d s x j := by
  rw [Bool.eq_iff_iff]
  refine ((slA_ok hd s (2 * lC d) (Nat.le_refl _)).2 x j hj).trans ?_
  constructor
  · rintro ⟨m', e, h1, h2, h3, h4⟩
    rcases h4 with ⟨q1, q2⟩ | ⟨q1, q2⟩
    · rw [q1, q2]; exact h2
    · rw [q1, q2, sgo_opp hd (show m' / 2 < lC d by omega) h3]; exact h2
  · intro h
    obtain ⟨e, e1, e2⟩ := sgo_nb h
    have he : e < lC d := (nb_lt hd.1.1 hx e1).1
    have hb := nb_opp hd hx e1
    have hs := sgo_opp (s := s) hd hx e1
    rw [h] at hs
    rcases (show j = 1 ∨ j = 2 ∨ j = 0 ∨ j = 3 by omega) with rfl | rfl | rfl | rfl
    · refine ⟨2 * x, e, by omega, ?_, ?_, Or.inl ⟨by omega, by omega⟩⟩
      · rw [show 2 * x / 2 = x by omega, show 2 * x % 2 + 1 = 1 by omega]; exact h
      · rw [show 2 * x / 2 = x by omega, show 2 * x % 2 + 1 = 1 by omega]; exact e1
    · refine ⟨2 * x + 1, e, by omega, ?_, ?_, Or.inl ⟨by omega, by omega⟩⟩
      · rw [show (2 * x + 1) / 2 = x by omega, show (2 * x + 1) % 2 + 1 = 2 by omega]; exact h
      · rw [show (2 * x + 1) / 2 = x by omega, show (2 * x + 1) % 2 + 1 = 2 by omega]; exact e1
    · refine ⟨2 * e + 1, x, by omega, ?_, ?_, Or.inr ⟨rfl, ?_⟩⟩
      · rw [show (2 * e + 1) / 2 = e by omega, show (2 * e + 1) % 2 + 1 = 2 by omega]; exact hs
      · rw [show (2 * e + 1) / 2 = e by omega, show (2 * e + 1) % 2 + 1 = 2 by omega]; exact hb
      · rw [show (2 * e + 1) % 2 + 1 = 2 by omega]; rfl
    · refine ⟨2 * e, x, by omega, ?_, ?_, Or.inr ⟨rfl, ?_⟩⟩
      · rw [show 2 * e / 2 = e by omega, show 2 * e % 2 + 1 = 1 by omega]; exact hs
      · rw [show 2 * e / 2 = e by omega, show 2 * e % 2 + 1 = 1 by omega]; exact hb
      · rw [show 2 * e % 2 + 1 = 1 by omega]; rfl
theorem rdS_rdS (g : eS) (O R D R' D' : Nat) : rdS (rdS g O R D) O R' D' = rdS g O R' D' := by
  unfold rdS
  refine Prod.ext ?_ rfl
  funext i j
  dsimp only
  by_cases h1 : i = O ∧ j = 1
  · simp only [if_pos h1]
  · by_cases h2 : i = O ∧ j = 2
    · simp only [if_neg h1, if_pos h2]
    · simp only [if_neg h1, if_neg h2]
theorem nb_k1 {W D c e : Nat} (h : nb W D c 1 = some e) : e = c + 1 := by
  unfold nb at h
  rw [if_neg (by decide), if_pos rfl] at h
  split at h
  · cases h; rfl
  · cases h
theorem nb_k2 {W D c e : Nat} (h : nb W D c 2 = some e) : e = c + W := by
  unfold nb at h
  rw [if_neg (by decide), if_neg (by decide), if_pos rfl] at h
  split at h
  · cases h; rfl
  · cases h
theorem lyR_1 (W : Nat) (p : Nat × Nat) (c : Nat) : lyR W p c 1 = (p.1 ||| 2 ^ c, p.2) := by
  unfold lyR; rw [if_neg (by decide), if_pos rfl]
theorem lyR_2 (W : Nat) (p : Nat × Nat) (c : Nat) : lyR W p c 2 = (p.1, p.2 ||| 2 ^ c) := by
  unfold lyR; rw [if_neg (by decide), if_neg (by decide), if_pos rfl]
theorem c_layWS {O : Nat} (h : isRo O) {g : eS} {d : Lnd} (hL : CL g 1 3 5 d) (hd : okL d) {s : Nat} (hs : s < 2 ^ 31) : fX6_layWhereSlope O (nI s) (eE g) = some (eE (rdS g O (slR d s) (slD d s))) := by
  have hC := okL_C hd
  have hW := hd.1.1
  have key : ∀ (fu c : Nat), c ≤ lC d → lC d - c < fu → fX6_layWhereSlope_12 fu O (nI s) (nI c) (eE (rdS g O (slA d s (2 * c)).1 (slA d s (2 * c)).2)) = some (eE (rdS g O (slR d s) (slD d s))) := by
    intro fu
    induction fu with
    | zero => intro c h1 h2; omega
    | succ fu ih =>
      intro c h1 h2
      obtain ⟨o1, o2, -⟩ := ro_O h (rdS g O (slA d s (2 * c)).1 (slA d s (2 * c)).2)
      rw [fX6_layWhereSlope_12, o2, bis, c_cells g1 (kp_CL (kp_rd h g _ _) hL), b2s]
      by_cases hc : c = lC d
      · subst hc
        rw [if_pos (nI_le (Nat.le_refl _) (by omega))]
        rfl
      · have hc2 : c < lC d := by omega
        rw [if_neg (nI_ge hc2 (by omega))]
        have nx := ih (c + 1) (by omega) (by omega)
        have k2 : ∀ (fv k : Nat), 1 ≤ k → k ≤ 3 → 3 - k < fv → fX6_layWhereSlope_25 (fX6_layWhereSlope_12 fu) fv O (nI s) (nI c) (nI k) (eE (rdS g O (slA d s (2 * c + (k - 1))).1 (slA d s (2 * c + (k - 1))).2)) = some (eE (rdS g O (slR d s) (slD d s))) := by
          intro fv
          induction fv with
          | zero => intro k h3 h4 h5; omega
          | succ fv ihv =>
            intro k h3 h4 h5
            rw [fX6_layWhereSlope_25]
            by_cases hk : k = 3
            · subst hk
              rw [if_pos (show (2 : Int32) < nI 3 by decide), nI_1, show 2 * c + (3 - 1) = 2 * (c + 1) by omega]
              exact nx
            · have hk2 : k = 1 ∨ k = 2 := by omega
              have hk4 : k < 4 := by omega
              obtain ⟨o1, o2, -⟩ := ro_O h (rdS g O (slA d s (2 * c + (k - 1))).1 (slA d s (2 * c + (k - 1))).2)
              have hL' := kp_CL (kp_rd h g (slA d s (2 * c + (k - 1))).1 (slA d s (2 * c + (k - 1))).2) hL
              have nk := ihv (k + 1) (by omega) (by omega) (by omega)
              rw [show 2 * c + (k + 1 - 1) = 2 * c + (k - 1) + 1 by omega, slA, show (2 * c + (k - 1)) / 2 = c by omega, show (2 * c + (k - 1)) % 2 + 1 = k by omega] at nk
              rw [if_neg (show ¬ (2 : Int32) < nI k from nI_nlt (a := 2) (b := k) (by omega) (by decide)), o2, bis, c_neighbour g1 hL' hd hc2 hk4, b2s]
              cases hn : nb (lW d) (lD d) c k with
              | none =>
                rw [sgo_n hn, if_neg (by decide)] at nk
                rw [show oM1 none = -1 from rfl, if_pos rfl, fX6_layWhereSlope_71, nI_1]
                exact nk
              | some e =>
                have he : e < lC d := (nb_lt hd.1.1 hc2 hn).1
                have hh1 := hd.2.2.2.2.1 c
                have hh2 := hd.2.2.2.2.1 e
                have hab := ad_le hh1 hh2
                rw [show oM1 (some e) = nI e from rfl, if_neg (nI_neg1 (by omega)), o2, bis, c_step g1 hL' (by omega) (by omega), b2s, m_abs, b2s, ad_ok hh1 hh2]
                by_cases hle : ad (lH d c) (lH d e) ≤ s
                · rw [sgo_i hn, decide_eq_true hle, if_pos rfl] at nk
                  rw [if_neg (nI_nlt hle hs), c_layB h g _ _ (by omega) (by omega), bis, fX6_layWhereSlope_71, nI_1]
                  rcases hk2 with rfl | rfl
                  · rw [if_pos (nb_k1 hn)]
                    rw [lyR_1] at nk
                    exact nk
                  · rw [if_neg (by have := nb_k2 hn; omega)]
                    rw [lyR_2] at nk
                    exact nk
                · rw [sgo_i hn, decide_eq_false hle, if_neg (by decide)] at nk
                  rw [if_pos (nI_lt (by omega) (by omega)), fX6_layWhereSlope_71, nI_1]
                  exact nk
        have k3 := k2 eN 1 (by omega) (by omega) (by rw [eN_eq]; omega)
        rw [show 2 * c + (1 - 1) = 2 * c by omega, show nI 1 = 1 from rfl] at k3
        exact k3
  have k0 := key eN 0 (by omega) (by rw [eN_eq]; omega)
  obtain ⟨o1, o2, o3, o4, o5, o6⟩ := ro_O h g
  obtain ⟨-, -, -, -, -, p6⟩ := ro_O h (eSI g O 1 0)
  rw [fX6_layWhereSlope, o1, cond_true, fX6_layWhereSlope_0, o5, bis, p6, bis, rdS_0]
  exact k0
theorem pcs_1 {d : Lnd} {R D : Nat} : ∀ t, 1 ≤ t → 1 ≤ (pcs d R D t).1 ∧ ((pcs d R D t).1 ≤ 1 ↔ ∀ e, e < t → (rc (lW d) R D (2 ^ lT d 0) 20).testBit (lT d e) = true) ∧ ((pcs d R D t).1 ≤ 1 → (pcs d R D t).2 = rc (lW d) R D (2 ^ lT d 0) 20) := by
  intro t
  induction t with
  | zero => intro h; omega
  | succ t ih =>
    intro _
    rcases Nat.eq_zero_or_pos t with h0 | h0
    · subst h0
      have e1 : pcs d R D (0 + 1) = (1, 0 ||| rc (lW d) R D (2 ^ lT d 0) 20) := by
        rw [pcs, show (pcs d R D 0).2 = 0 from rfl, Nat.zero_testBit, if_neg (by decide)]
        rfl
      have e2 : (rc (lW d) R D (2 ^ lT d 0) 20).testBit (lT d 0) = true := rc_up _ _ _ _ (n := 0) (by show (2 ^ lT d 0).testBit (lT d 0) = true; rw [testBit_two]; simp) (Nat.zero_le _)
      rw [e1]
      dsimp only
      refine ⟨Nat.le_refl _, ⟨fun _ e he => ?_, fun _ => Nat.le_refl _⟩, fun _ => Nat.zero_or _⟩
      rw [show e = 0 by omega]; exact e2
    · obtain ⟨i1, i2, i3⟩ := ih h0
      rw [pcs]
      by_cases hq : (pcs d R D t).2.testBit (lT d t) = true
      · rw [if_pos hq]
        refine ⟨i1, ?_, i3⟩
        constructor
        · intro hp e he
          by_cases q : e = t
          · rw [q, ← i3 hp]; exact hq
          · exact i2.mp hp e (by omega)
        · intro hp
          exact i2.mpr (fun e he => hp e (by omega))
      · rw [if_neg hq]
        dsimp only
        refine ⟨by omega, ⟨fun hp => absurd hp (by omega), fun hp => ?_⟩, fun hp => absurd hp (by omega)⟩
        exfalso
        have h2 := i2.mpr (fun e he => hp e (by omega))
        have h3 := hp t (by omega)
        rw [← i3 h2] at h3
        exact hq h3
theorem pcs_K {d : Lnd} {R D : Nat} : (pcs d R D (lK d)).1 ≤ 1 ↔ ∀ e, e < lK d → (rc (lW d) R D (2 ^ lT d 0) 20).testBit (lT d e) = true := by
  rcases Nat.eq_zero_or_pos (lK d) with h | h
  · rw [h]
    constructor
    · intro _ e he; omega
    · intro _; exact Nat.zero_le _
  · exact (pcs_1 (lK d) h).2.1
/-! the flattest asked: all that are next are joined -/
def fuA (W D : Nat) : Nat → Nat × Nat
  | 0 => (0, 0)
  | m + 1 => if (nb W D (m / 2) (m % 2 + 1)).isSome then lyR W (fuA W D m) (m / 2) (m % 2 + 1) else fuA W D m
theorem fu_fin : ∀ (W : Fin 6) (D : Fin 5) (a : Fin 20), (2 ≤ W.val ∧ 2 ≤ D.val ∧ a.val < W.val * D.val) → rc W.val (fuA W.val D.val (2 * (W.val * D.val))).1 (fuA W.val D.val (2 * (W.val * D.val))).2 (2 ^ a.val) 20 = 2 ^ (W.val * D.val) - 1 := by decide +kernel
theorem sl_fu {d : Lnd} (hd : okL d) : ∀ m, slA d 9 m = fuA (lW d) (lD d) m := by
  intro m
  induction m with
  | zero => rfl
  | succ m ih =>
    have : sgo d 9 (m / 2) (m % 2 + 1) = (nb (lW d) (lD d) (m / 2) (m % 2 + 1)).isSome := by
      cases hn : nb (lW d) (lD d) (m / 2) (m % 2 + 1) with
      | none => rw [sgo_n hn]; rfl
      | some e => rw [sgo_i hn, decide_eq_true (ad_le (hd.2.2.2.2.1 _) (hd.2.2.2.2.1 _))]; rfl
    rw [slA, fuA, this, ih]
theorem sl9 {d : Lnd} (hd : okL d) : (pcs d (slR d 9) (slD d 9) (lK d)).1 ≤ 1 := by
  have hC := okL_C hd
  refine pcs_K.mpr (fun e he => ?_)
  have h1 := hd.1
  have h2 := hd.2.1
  have hT := hd.2.2.2.2.2.1 e he
  have h0 : lT d 0 < lC d := hd.2.2.2.2.2.1 0 (by omega)
  have hf := fu_fin ⟨lW d, by omega⟩ ⟨lD d, by omega⟩ ⟨lT d 0, by omega⟩ ⟨h1.1, h2.1, h0⟩
  dsimp only at hf
  unfold slR slD
  rw [sl_fu hd, show lC d = lW d * lD d from rfl, hf, Nat.testBit_two_pow_sub_one, decide_eq_true_eq]
  exact hT
def lsv (d : Lnd) : Nat → Nat
  | 0 => 9
  | f + 1 => if (pcs d (slR d (9 - (f + 1))) (slD d (9 - (f + 1))) (lK d)).1 ≤ 1 then 9 - (f + 1) else lsv d f
theorem c_least {g : eS} {d : Lnd} (hL : CL g 1 3 5 d) (hd : okL d) : ∃ R D, fX9_leastSlope 26 (eE g) = some (nI (lsv d 9), eE (rdS g 29 R D)) := by
  have hK := hd.2.2.2.1
  have key : ∀ (f fu : Nat), f ≤ 9 → f < fu → ∃ R D, fX9_leastSlope_10 fu 26 (nI (9 - f)) (eE (rdS g 29 (slR d (9 - f)) (slD d (9 - f)))) = some (nI (lsv d f), eE (rdS g 29 R D)) := by
    intro f
    induction f with
    | zero =>
      intro fu h1 h2
      obtain ⟨fu, rfl⟩ : ∃ k, fu = k + 1 := ⟨fu - 1, by omega⟩
      rw [fX9_leastSlope_10, if_pos (show (9 : Int32) ≤ nI (9 - 0) by decide)]
      exact ⟨_, _, rfl⟩
    | succ f ih =>
      intro fu h1 h2
      obtain ⟨fu, rfl⟩ : ∃ k, fu = k + 1 := ⟨fu - 1, by omega⟩
      have hL' := kp_CL (kp_rd R29 g (slR d (9 - (f + 1))) (slD d (9 - (f + 1)))) hL
      have pc := c_pieces R29 hL' hd (sl_ok hd (9 - (f + 1))) (rdS_1 g 29 _ _) (rdS_2 g 29 _ _)
      have hp4 := (pcs_inC hd (sl_ok hd (9 - (f + 1))) (lK d) (Nat.le_refl _)).2
      rw [fX9_leastSlope_10, if_neg (show ¬ (9 : Int32) ≤ nI (9 - (f + 1)) from nI_ge (a := 9 - (f + 1)) (b := 9) (by omega) (by decide))]
      simp only [tR, bis]
      rw [pc, b2s, lsv]
      by_cases hp : (pcs d (slR d (9 - (f + 1))) (slD d (9 - (f + 1))) (lK d)).1 ≤ 1
      · rw [if_pos hp, if_pos (show nI _ ≤ (1 : Int32) from nI_le (b := 1) hp (by decide))]
        exact ⟨_, _, rfl⟩
      · rw [if_neg hp, if_neg (show ¬ nI _ ≤ (1 : Int32) from nI_ge (a := 1) (by omega) (by omega))]
        simp only [tR, bis]
        rw [nI_1, show 9 - (f + 1) + 1 = 9 - f by omega, c_layWS R29 hL' hd (by omega), bis, rdS_rdS]
        exact ih fu (by omega) (by omega)
  obtain ⟨R, D, k0⟩ := key 9 eN (by omega) (by rw [eN_eq]; omega)
  refine ⟨R, D, ?_⟩
  simp only [fX9_leastSlope, fX9_leastSlope_0, tO, tR, bis, cond_true]
  have l0 := c_layWS R29 hL hd (s := 0) (by omega)
  rw [nI_0] at l0
  rw [l0, bis]
  exact k0
theorem kp_48 (g : eS) (F : Nat → Int32) : Kp g (eSA g 48 F) := ⟨⟨fun _ => rfl, rfl, rfl, rfl, rfl, rfl, rfl⟩, ⟨rfl, rfl, rfl, rfl, rfl, rfl⟩, ⟨rfl, rfl, rfl, rfl, rfl, rfl, rfl, rfl⟩, rfl⟩
theorem sA48 (g : eS) (F : Nat → Int32) : (eSA g 48 F).2.1 48 = F := by rw [eSA_r, if_pos rfl]
theorem q_couldBe {g : eS} {d : Lnd} (hL : ML g d) (hd : okL d) {s : Nat} (hs : s < 2 ^ 31) : ∃ h, fX11_couldBe 38 (nI s) (eE g) = some (if (pcs d (slR d s) (slD d s) (lK d)).1 ≤ 1 then 1 else 0, eE h) ∧ Kp g h := by
  have hC := okL_C hd
  have hK := hd.2.2.2.1
  have hff : FF = 1000000 := rfl
  have hok := sl_ok hd s
  have key : ∀ (fu c : Nat) (F : Nat → Int32), c ≤ lC d → lC d - c < fu → (∀ x, x < c → F x = nI (rbG (sgo d s x))) → ∃ h, fX11_couldBe_2 fu 38 (nI s) (nI c) (eE (eSA g 48 F)) = some (if (pcs d (slR d s) (slD d s) (lK d)).1 ≤ 1 then 1 else 0, eE h) ∧ Kp g h := by
    intro fu
    induction fu with
    | zero => intro c F h1 h2; omega
    | succ fu ih =>
      intro c F h1 h2 hF
      have hL' := kp_ML (kp_48 g F) hL
      rw [fX11_couldBe_2, q_cells hL', b2s]
      by_cases hc : c = lC d
      · rw [hc, if_pos (nI_le (Nat.le_refl _) (by omega))]
        rw [hc] at hF
        simp only [tR, tK, bis, hL'.2.2.2.1]
        have hMR : MR (eSA g 48 F) d (slR d s) (slD d s) := by
          intro x hx
          rw [sA48, hF x hx]
          apply congrArg nI
          exact rbG_e (fun j hj => sl_go hd s hx hj)
        by_cases hK0 : lK d = 0
        · rw [hK0, if_pos (by decide), eZ_1, bis, if_pos (show (pcs d (slR d s) (slD d s) 0).1 ≤ 1 from Nat.zero_le _)]
          exact ⟨_, rfl, kp_48 g F⟩
        · have h0 := hd.2.2.2.2.2.1 0 (by omega)
          have lt := q_t hL' hd (k := 0) (by omega)
          rw [nI_0] at lt
          obtain ⟨G, s1, s2⟩ := q_spreads hL' hd hok hMR h0
          rw [if_neg (nI_nle (by omega) (by omega)), lt, bis, s1, bis]
          have k5 := kp_tr (kp_48 g F) (kp_50 (eSA g 48 F) G)
          have hL5 := kp_ML k5 hL
          have k101 : ∀ (fv t : Nat) (b : Bool), t ≤ lK d → lK d - t < fv → (b = true ↔ ∀ e, e < t → (rc (lW d) (slR d s) (slD d s) (2 ^ lT d 0) 20).testBit (lT d e) = true) → fX11_couldBe_101 fv 38 (if b then 1 else 0) (nI t) (eE (eSA (eSA g 48 F) 50 G)) = some (if (pcs d (slR d s) (slD d s) (lK d)).1 ≤ 1 then 1 else 0, eE (eSA (eSA g 48 F) 50 G)) := by
            intro fv
            induction fv with
            | zero => intro t b h3 h4; omega
            | succ fv ihv =>
              intro t b h3 h4 hb
              simp only [fX11_couldBe_101, tR, tK, bis, hL5.2.2.2.1]
              by_cases ht : t = lK d
              · rw [ht, if_pos (nI_le (Nat.le_refl _) (by omega)), eZ_b, bis]
                rw [ht, ← pcs_K] at hb
                cases b with
                | true => rw [if_pos (hb.mp rfl)]; rfl
                | false => rw [if_neg (fun q => absurd (hb.mpr q) (by decide))]; rfl
              · have ht2 : t < lK d := by omega
                rw [if_neg (nI_ge ht2 (by omega))]
                cases b with
                | false =>
                  rw [if_pos (show (if false = true then (1 : Int32) else 0) = 0 by decide), fX11_couldBe_135, fX11_couldBe_136, nI_1]
                  have := ihv (t + 1) false (by omega) (by omega) ⟨fun q => (by cases q), fun q => hb.mpr (fun e he => q e (by omega))⟩
                  exact this
                | true =>
                  have hTt := hd.2.2.2.2.2.1 t ht2
                  have lt2 := q_t hL5 hd ht2
                  have hlt := dst_lt (S := 2 ^ lT d 0) hd hok hTt
                  have hle : dst d (slR d s) (slD d s) (2 ^ lT d 0) (lT d t) ≤ FF := Nat.le_trans (Bd_mono (Nat.zero_le _) _) (fS_le _ _)
                  rw [if_neg (show ¬ (if true = true then (1 : Int32) else 0) = 0 by decide), lt2, bis, ld (n := 20) _ ar_50 (by decide) (by omega), bis, sA50, s2 _ hTt, nIFF]
                  cases hq : (rc (lW d) (slR d s) (slD d s) (2 ^ lT d 0) 20).testBit (lT d t) with
                  | false =>
                    rw [hq] at hlt
                    rw [if_pos (nI_le (by apply Nat.le_of_not_lt; intro q; exact absurd (hlt.mp q) (by decide)) (by omega)), fX11_couldBe_135, fX11_couldBe_136, nI_1]
                    exact ihv (t + 1) false (by omega) (by omega) ⟨fun q => (by cases q), fun q => by have := q t (by omega); rw [hq] at this; exact this⟩
                  | true =>
                    rw [if_neg (nI_ge (hlt.mpr hq) (by omega)), fX11_couldBe_136, nI_1]
                    refine ihv (t + 1) true (by omega) (by omega) ⟨fun _ e he => ?_, fun _ => rfl⟩
                    by_cases q : e = t
                    · rw [q]; exact hq
                    · exact hb.mp rfl e (by omega)
          have k0 := k101 eN 0 true (by omega) (by rw [eN_eq]; omega) ⟨fun _ e he => absurd he (Nat.not_lt_zero _), fun _ => rfl⟩
          rw [nI_0, if_pos rfl] at k0
          exact ⟨_, k0, k5⟩
      · have hc2 : c < lC d := by omega
        rw [if_neg (nI_ge hc2 (by omega))]
        have k19 : ∀ (fv k : Nat) (F : Nat → Int32), k ≤ 4 → 4 - k < fv → (∀ x, x < c → F x = nI (rbG (sgo d s x))) → F c = nI (rbG (fun j => sgo d s c j && decide (j < k))) → ∃ h, fX11_couldBe_19 (fX11_couldBe_2 fu) fv 38 (nI s) (nI c) (nI k) (eE (eSA g 48 F)) = some (if (pcs d (slR d s) (slD d s) (lK d)).1 ≤ 1 then 1 else 0, eE h) ∧ Kp g h := by
          intro fv
          induction fv with
          | zero => intro k F h1 h2; omega
          | succ fv ihv =>
            intro k F h1 h2 hF hFc
            rw [fX11_couldBe_19]
            by_cases hk : k = 4
            · subst hk
              rw [if_pos (show (4 : Int32) ≤ nI 4 by decide), nI_1]
              refine ih (c + 1) F (by omega) (by omega) (fun x hx => ?_)
              by_cases hxc : x = c
              · rw [hxc, hFc]
                apply congrArg nI
                refine rbG_e (fun j hj => ?_)
                show sgo d s c j = (sgo d s c j && decide (j < 4))
                rw [decide_eq_true hj, Bool.and_true]
              · exact hF x (by omega)
            · have hk4 : k < 4 := by omega
              have hL' := kp_ML (kp_48 g F) hL
              have l1 : eLd (eE (eSA g 48 F)) false 48 (nI c) = some (F c) := by rw [ld (n := 20) _ ar_48 (by decide) (by omega), sA48]
              have s1 : ∀ v, eSt (eE (eSA g 48 F)) false 48 (nI c) v = some (eE (eSA g 48 (upd F c v))) := fun v => by rw [st (n := 20) _ ar_48 (by decide) (by omega), eSA_same, sA48]
              rw [if_neg (show ¬ (4 : Int32) ≤ nI k from nI_ge (a := k) (b := 4) hk4 (by decide)), q_leads hL' hd hc2 hk4, b2s]
              simp only [tR, bis, l1]
              have nx : ∀ v, v = nI (rbG (fun j => sgo d s c j && decide (j < k + 1))) → ∃ h, fX11_couldBe_19 (fX11_couldBe_2 fu) fv 38 (nI s) (nI c) (nI (k + 1)) (eE (eSA g 48 (upd F c v))) = some (if (pcs d (slR d s) (slD d s) (lK d)).1 ≤ 1 then 1 else 0, eE h) ∧ Kp g h := fun v hv => ihv (k + 1) (upd F c v) (by omega) (by omega) (fun x hx => by rw [upd_i, if_neg (by omega)]; exact hF x hx) (by rw [upd_i, if_pos rfl]; exact hv)
              have no : sgo d s c k = false → ∃ h, fX11_couldBe_63 (fX11_couldBe_2 fu) (fX11_couldBe_19 (fX11_couldBe_2 fu) fv) 38 (nI s) (nI c) (nI k) 48 (nI c) (F c) (eE (eSA g 48 F)) = some (if (pcs d (slR d s) (slD d s) (lK d)).1 ≤ 1 then 1 else 0, eE h) ∧ Kp g h := by
                intro hs0
                rw [fX11_couldBe_63, fX11_couldBe_64, s1, bis, nI_1]
                apply nx
                rw [hFc, show (0 : Int32) = nI 0 from rfl, nI_or, Nat.or_zero]
                apply congrArg nI
                refine rbG_e (fun j hj => ?_)
                show (sgo d s c j && decide (j < k + 1)) = (sgo d s c j && decide (j < k))
                by_cases hjk : j = k
                · rw [hjk, hs0, Bool.false_and, Bool.false_and]
                · rw [show decide (j < k + 1) = decide (j < k) from decide_eq_decide.mpr (by omega)]
              cases hn : nb (lW d) (lD d) c k with
              | none =>
                rw [show oM9 none = -9 from rfl, if_pos rfl]
                exact no (sgo_n hn)
              | some e =>
                have he : e < lC d := (nb_lt hd.1.1 hc2 hn).1
                have hab := ad_le (hd.2.2.2.2.1 c) (hd.2.2.2.2.1 e)
                rw [show oM9 (some e) = nI e from rfl, if_neg (nI_neg9 (by omega)), q_step hL' hd (by omega) (by omega), b2s]
                by_cases hle : ad (lH d c) (lH d e) ≤ s
                · rw [if_neg (nI_nlt hle hs), fX11_couldBe_64, s1, bis, nI_1, bit_nI k (by omega)]
                  apply nx
                  rw [hFc, nI_or]
                  apply congrArg nI
                  refine rbG_or _ _ hk4 (fun j hj => ?_)
                  show (sgo d s c j && decide (j < k + 1)) = ((sgo d s c j && decide (j < k)) || decide (j = k))
                  by_cases hjk : j = k
                  · rw [hjk, sgo_i hn, decide_eq_true hle, decide_eq_true (show k < k + 1 by omega), decide_eq_true (show k = k from rfl), Bool.or_true]; rfl
                  · rw [decide_eq_false hjk, Bool.or_false, show decide (j < k + 1) = decide (j < k) from decide_eq_decide.mpr (by omega)]
                · rw [if_pos (nI_lt (by omega) (by omega))]
                  exact no (by rw [sgo_i hn, decide_eq_false hle])
        simp only [tR, bis]
        rw [st (n := 20) _ ar_48 (by decide) (by omega), eSA_same, sA48, bis]
        have k0 := k19 eN 0 (upd F c 0) (by omega) (by rw [eN_eq]; omega) (fun x hx => by rw [upd_i, if_neg (by omega)]; exact hF x hx) (by
          rw [upd_i, if_pos rfl]
          unfold rbG
          simp only [Nat.not_lt_zero, decide_false, Bool.and_false]
          rfl)
        rw [nI_0] at k0
        exact k0
  obtain ⟨h, k1, k2⟩ := key eN 0 (g.2.1 48) (by omega) (by rw [eN_eq]; omega) (fun x hx => absurd hx (Nat.not_lt_zero _))
  rw [eSA_self, nI_0] at k1
  refine ⟨h, ?_, k2⟩
  simp only [fX11_couldBe, fX11_couldBe_0, tO, cond_true]
  exact k1
theorem q_least {g : eS} {d : Lnd} (hL : ML g d) (hd : okL d) : ∃ h, fX11_leastSlope 38 (eE g) = some (nI (lsv d 9), eE h) ∧ Kp g h := by
  have key : ∀ (f fu : Nat) (h : eS), f ≤ 9 → f < fu → Kp g h → ∃ h', fX11_leastSlope_2 fu 38 (nI (9 - f)) (eE h) = some (nI (lsv d f), eE h') ∧ Kp g h' := by
    intro f
    induction f with
    | zero =>
      intro fu h h1 h2 hk
      obtain ⟨fu, rfl⟩ : ∃ k, fu = k + 1 := ⟨fu - 1, by omega⟩
      obtain ⟨h', c1, c2⟩ := q_couldBe (kp_ML hk hL) hd (s := 9 - 0) (by omega)
      rw [fX11_leastSlope_2, c1, b2s, if_pos (sl9 hd), if_neg one_ne0]
      exact ⟨h', rfl, kp_tr hk c2⟩
    | succ f ih =>
      intro fu h h1 h2 hk
      obtain ⟨fu, rfl⟩ : ∃ k, fu = k + 1 := ⟨fu - 1, by omega⟩
      obtain ⟨h', c1, c2⟩ := q_couldBe (kp_ML hk hL) hd (s := 9 - (f + 1)) (by omega)
      rw [fX11_leastSlope_2, c1, b2s, lsv]
      by_cases hp : (pcs d (slR d (9 - (f + 1))) (slD d (9 - (f + 1))) (lK d)).1 ≤ 1
      · rw [if_pos hp, if_neg one_ne0, if_pos hp]
        exact ⟨h', rfl, kp_tr hk c2⟩
      · rw [if_neg hp, if_pos rfl, if_neg hp, nI_1, show 9 - (f + 1) + 1 = 9 - f by omega]
        exact ih fu h' (by omega) (by omega) (kp_tr hk c2)
  obtain ⟨h, k1, k2⟩ := key 9 eN g (by omega) (by rw [eN_eq]; omega) (kp_rf g)
  refine ⟨h, ?_, k2⟩
  simp only [fX11_leastSlope, fX11_leastSlope_0, tO, cond_true]
  exact k1
