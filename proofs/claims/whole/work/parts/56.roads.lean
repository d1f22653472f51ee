/-! ===== roads ===== -/
def isRo (O : Nat) : Prop := O = 22 ∨ O = 29 ∨ O = 36
theorem ro_O {O : Nat} (h : isRo O) (g : eS) : eO (eE g) O 6 = true ∧ eGR (eE g) O 6 0 = some 1 ∧ eGI (eE g) O 6 1 = some (g.1 O 1) ∧ eGI (eE g) O 6 2 = some (g.1 O 2) ∧ (∀ x, eP (eE g) O 6 1 (.int x) = some (eE (eSI g O 1 x))) ∧ (∀ x, eP (eE g) O 6 2 (.int x) = some (eE (eSI g O 2 x))) := by
  rcases h with rfl | rfl | rfl <;>
  exact ⟨by simp only [tO], by simp only [tR], by simp only [tI], by simp only [tI], fun x => by simp only [tP], fun x => by simp only [tP]⟩
def rdS (g : eS) (O R D : Nat) : eS := (fun i j => if i = O ∧ j = 1 then nI R else if i = O ∧ j = 2 then nI D else g.1 i j, g.2.1, g.2.2)
theorem rdS_I (g : eS) (O R D i j : Nat) : (rdS g O R D).1 i j = if i = O ∧ j = 1 then nI R else if i = O ∧ j = 2 then nI D else g.1 i j := by rw [rdS]
theorem rdS_A (g : eS) (O R D : Nat) : (rdS g O R D).2.1 = g.2.1 := by rw [rdS]
theorem rdS_J (g : eS) (O R D : Nat) : (rdS g O R D).2.2 = g.2.2 := by rw [rdS]
theorem rdS_1 (g : eS) (O R D : Nat) : (rdS g O R D).1 O 1 = nI R := by rw [rdS_I, if_pos ⟨rfl, rfl⟩]
theorem rdS_2 (g : eS) (O R D : Nat) : (rdS g O R D).1 O 2 = nI D := by rw [rdS_I, if_neg (by omega), if_pos ⟨rfl, rfl⟩]
theorem rdS_0 (g : eS) (O : Nat) : eSI (eSI g O 1 0) O 2 0 = rdS g O 0 0 := by
  unfold eSI rdS
  refine Prod.ext ?_ rfl
  funext i j
  dsimp only
  by_cases h1 : i = O ∧ j = 1
  · rw [if_neg (by omega), if_pos h1, if_pos h1]; rfl
  · rw [if_neg h1, if_neg h1]; rfl
theorem rdS_s1 (g : eS) (O R D R' : Nat) : eSI (rdS g O R D) O 1 (nI R') = rdS g O R' D := by
  unfold eSI rdS
  refine Prod.ext ?_ rfl
  funext i j
  dsimp only
  by_cases h1 : i = O ∧ j = 1
  · rw [if_pos h1, if_pos h1]
  · rw [if_neg h1, if_neg h1, if_neg h1]
theorem rdS_s2 (g : eS) (O R D D' : Nat) : eSI (rdS g O R D) O 2 (nI D') = rdS g O R D' := by
  unfold eSI rdS
  refine Prod.ext ?_ rfl
  funext i j
  dsimp only
  by_cases h1 : i = O ∧ j = 1
  · rw [if_neg (by omega), if_pos h1, if_pos h1]
  · rw [if_neg h1, if_neg h1]
    by_cases h2 : i = O ∧ j = 2
    · rw [if_pos h2, if_pos h2]
    · rw [if_neg h2, if_neg h2, if_neg h2]
theorem ro_ne {O : Nat} (h : isRo O) {i : Nat} (hi : i ≠ 22 ∧ i ≠ 29 ∧ i ≠ 36) : i ≠ O := by
  rcases h with rfl | rfl | rfl <;> omega
theorem rdS_o {O : Nat} (h : isRo O) (g : eS) (R D : Nat) {i : Nat} (hi : i ≠ 22 ∧ i ≠ 29 ∧ i ≠ 36) (j : Nat) : (rdS g O R D).1 i j = g.1 i j := by
  have := ro_ne h hi
  rw [rdS_I, if_neg (fun q => this q.1), if_neg (fun q => this q.1)]
theorem kp_rd {O : Nat} (h : isRo O) (g : eS) (R D : Nat) : Kp g (rdS g O R D) := by
  refine ⟨⟨fun k => rdS_o h g R D (by decide) k, rdS_o h g R D (by decide) _, rdS_o h g R D (by decide) _, rdS_o h g R D (by decide) _, rdS_o h g R D (by decide) _, rdS_o h g R D (by decide) _, rdS_o h g R D (by decide) _⟩, ?_, ?_, rdS_J g O R D⟩
  · rw [rdS_A]; exact ⟨rfl, rfl, rfl, rfl, rfl, rfl⟩
  · rw [rdS_A]; exact ⟨rfl, rfl, rfl, rfl, rfl, rfl, rfl, rfl⟩
theorem rd_BZ {g : eS} {O R D a : Nat} {z : Nat → Nat} (c : BZ g a z) : BZ (rdS g O R D) a z := by
  unfold BZ at c ⊢
  rw [rdS_A]; exact c
theorem rd_CS {O : Nat} (h : isRo O) {g : eS} {R D a : Nat} {d : Lnd} {z : Nat → Nat} (c : CS g a d z) : CS (rdS g O R D) a d z := ⟨kp_CL (kp_rd h g R D) c.1, c.2.1, rd_BZ c.2.2.1, c.2.2.2⟩
/-- whether a road goes from a cell by a card -/
def goB (W R D c k : Nat) : Bool := if k = 0 then decide (W ≤ c) && D.testBit (c - W) else if k = 1 then R.testBit c else if k = 2 then D.testBit c else if k = 3 then decide (0 < c) && R.testBit (c - 1) else false
def lyR (W : Nat) (p : Nat × Nat) (c k : Nat) : Nat × Nat := if k = 0 then (p.1, p.2 ||| 2 ^ (c - W)) else if k = 1 then (p.1 ||| 2 ^ c, p.2) else if k = 2 then (p.1, p.2 ||| 2 ^ c) else (p.1 ||| 2 ^ (c - 1), p.2)
theorem c_layB {O : Nat} (h : isRo O) (g : eS) (R D : Nat) {lo hi : Nat} (h1 : lo < 20) (h2 : hi < 20) : fX6_layBetween O (nI lo) (nI hi) (eE (rdS g O R D)) = some (eE (if hi = lo + 1 then rdS g O (R ||| 2 ^ lo) D else rdS g O R (D ||| 2 ^ lo))) := by
  obtain ⟨o1, o2, o3, o4, o5, o6⟩ := ro_O h (rdS g O R D)
  rw [fX6_layBetween, o1, cond_true, fX6_layBetween_0, nI_1]
  by_cases hh : hi = lo + 1
  · rw [if_pos (by rw [hh]), if_pos hh, o3, bis, m_bit, b2s, bit_nI lo (by omega), rdS_1, nI_or, o5, bis, rdS_s1]
  · rw [if_neg (fun q => hh ((nI_eq (by omega) (by omega)).mp q)), if_neg hh, o4, bis, m_bit, b2s, bit_nI lo (by omega), rdS_2, nI_or, o6, bis, rdS_s2]
theorem c_layE {O : Nat} (h : isRo O) (g : eS) (p : Nat × Nat) {d : Lnd} (hd : okL d) {c k e : Nat} (hc : c < lC d) (hnb : nb (lW d) (lD d) c k = some e) : fX6_layBetween O (if nI e < nI c then nI e else nI c) (if nI c < nI e then nI e else nI c) (eE (rdS g O p.1 p.2)) = some (eE (rdS g O (lyR (lW d) p c k).1 (lyR (lW d) p c k).2)) := by
  have hC := okL_C hd
  have hW := hd.1.1
  have he := (nb_lt hd.1.1 hc hnb).1
  have hek : e < lC d := he
  have t1 : (if nI e < nI c then nI e else nI c) = nI (min c e) := by
    by_cases q : e < c
    · rw [if_pos (nI_lt q (by omega)), Nat.min_eq_right (by omega)]
    · rw [if_neg (nI_nlt (by omega) (by omega)), Nat.min_eq_left (by omega)]
  have t2 : (if nI c < nI e then nI e else nI c) = nI (max c e) := by
    by_cases q : c < e
    · rw [if_pos (nI_lt q (by omega)), Nat.max_eq_right (by omega)]
    · rw [if_neg (nI_nlt (by omega) (by omega)), Nat.max_eq_left (by omega)]
  rw [t1, t2, c_layB h g _ _ (by omega) (by omega)]
  unfold lyR
  unfold nb at hnb
  split at hnb
  next h0 =>
    rw [if_pos h0]
    split at hnb
    next hw => cases hnb; rw [if_neg (by omega), show min c (c - lW d) = c - lW d by omega]
    next => cases hnb
  next h0 =>
    rw [if_neg h0]
    split at hnb
    next h1 =>
      rw [if_pos h1]
      split at hnb
      next hw => cases hnb; rw [if_pos (by omega), show min c (c + 1) = c by omega]
      next => cases hnb
    next h1 =>
      rw [if_neg h1]
      split at hnb
      next h2 =>
        rw [if_pos h2]
        split at hnb
        next hw => cases hnb; rw [if_neg (by omega), show min c (c + lW d) = c by omega]
        next => cases hnb
      next h2 =>
        rw [if_neg h2]
        split at hnb
        next h3 =>
          split at hnb
          next hw =>
            have : 0 < c := by
              rcases Nat.eq_zero_or_pos c with q | q
              · rw [q, Nat.zero_mod] at hw; omega
              · exact q
            cases hnb
            rw [if_pos (by omega), show min c (c - 1) = c - 1 by omega]
          next => cases hnb
        next => cases hnb
def layB (d : Lnd) (z : Nat → Nat) (b : Nat) (p : Nat × Nat) : Nat → Nat × Nat
  | 0 => p
  | i + 1 => lyR (lW d) (layB d z b p i) (cb d z b i) (bc z b i)
def layA (d : Lnd) (z : Nat → Nat) : Nat → Nat × Nat
  | 0 => (0, 0)
  | b + 1 => layB d z b (layA d z b) (bl z b)
def rdR (d : Lnd) (z : Nat → Nat) : Nat := (layA d z (z 0)).1
def rdD (d : Lnd) (z : Nat → Nat) : Nat := (layA d z (z 0)).2
theorem c_lay {O B ro a : Nat} (h : isRo O) (hB : isBo B ro a) {g : eS} {d : Lnd} {z : Nat → Nat} (hS : CS g a d z) : fX6_lay O B (eE g) = some (eE (rdS g O (rdR d z) (rdD d z))) := by
  obtain ⟨hL, hd, hz, ho⟩ := hS
  have hC := okL_C hd
  have h4 := ho.1
  have key : ∀ (fu b : Nat), b ≤ z 0 → z 0 - b < fu → fX6_lay_12 fu O B (nI b) (eE (rdS g O (layA d z b).1 (layA d z b).2)) = some (eE (rdS g O (rdR d z) (rdD d z))) := by
    intro fu
    induction fu with
    | zero => intro b h1 h2; omega
    | succ fu ih =>
      intro b h1 h2
      rw [fX6_lay_12, c_size hB (rd_BZ hz), b2s]
      by_cases hb : b = z 0
      · subst hb
        rw [if_pos (nI_le (Nat.le_refl _) (by omega))]
        rfl
      · have hb2 : b < z 0 := by omega
        rw [if_neg (nI_ge hb2 (by omega)), c_first hB (rd_BZ hz) (by omega), b2s]
        have nx := ih (b + 1) (by omega) (by omega)
        obtain ⟨q1, q2, q3⟩ := ho.2 b hb2
        have k2 : ∀ (fv i : Nat), i ≤ bl z b → bl z b - i < fv → fX6_lay_29 (fX6_lay_12 fu) fv O B (nI b) (nI (cb d z b i)) (nI i) (eE (rdS g O (layB d z b (layA d z b) i).1 (layB d z b (layA d z b) i).2)) = some (eE (rdS g O (rdR d z) (rdD d z))) := by
          intro fv
          induction fv with
          | zero => intro i i1 i2; omega
          | succ fv ihv =>
            intro i i1 i2
            rw [fX6_lay_29, c_len hB (rd_BZ hz) (by omega), b2s]
            by_cases hi : i = bl z b
            · subst hi
              rw [if_pos (nI_le (Nat.le_refl _) (by omega)), nI_1]
              exact nx
            · have hi2 : i < bl z b := by omega
              have hnb := okB_nb ho hb2 hi2
              have hc := okB_cb hd ho hb2 i (by omega)
              obtain ⟨o1, o2, -⟩ := ro_O h (rdS g O (layB d z b (layA d z b) i).1 (layB d z b (layA d z b) i).2)
              rw [if_neg (nI_ge hi2 (by omega)), o2, bis, c_card hB (rd_BZ hz) (by omega) (by omega), b2s, c_neighbour g1 (kp_CL (kp_rd h g _ _) hL) hd hc (q3 i hi2).1, b2s, hnb]
              rw [show oM1 (some (cb d z b (i + 1))) = nI (cb d z b (i + 1)) from rfl, m_min, b2s, m_max, b2s, c_layE h g _ hd hc hnb, bis, nI_1]
              exact ihv (i + 1) (by omega) (by omega)
        exact k2 eN 0 (by omega) (by rw [eN_eq]; omega)
  have k0 := key eN 0 (by omega) (by rw [eN_eq]; omega)
  obtain ⟨o1, o2, o3, o4, o5, o6⟩ := ro_O h g
  obtain ⟨-, -, -, -, -, p6⟩ := ro_O h (eSI g O 1 0)
  rw [fX6_lay, o1, cond_true, fX6_lay_0, o5, bis, p6, bis, rdS_0]
  exact k0
/-! what a road set is -/
def okRD (d : Lnd) (R D : Nat) : Prop := (∀ c, R.testBit c = true → c % lW d + 1 < lW d ∧ c < lC d) ∧ (∀ c, D.testBit c = true → c + lW d < lC d)
theorem okRD_0 (d : Lnd) : okRD d 0 0 := by
  refine ⟨fun c h => ?_, fun c h => ?_⟩ <;>
  · rw [Nat.zero_testBit] at h
    exact absurd h (by decide)
theorem mod_pred {W c : Nat} (h2 : 2 ≤ W) (h5 : W ≤ 5) (hc : 0 < c % W) : (c - 1) % W + 1 < W := by
  rcases (show W = 2 ∨ W = 3 ∨ W = 4 ∨ W = 5 by omega) with rfl | rfl | rfl | rfl <;> omega
theorem mod_succ {W c : Nat} (h2 : 2 ≤ W) (h5 : W ≤ 5) (hc : 0 < c) (h : (c - 1) % W + 1 < W) : 0 < c % W := by
  rcases (show W = 2 ∨ W = 3 ∨ W = 4 ∨ W = 5 by omega) with rfl | rfl | rfl | rfl <;> omega
theorem tb_or {a c j : Nat} : (a ||| 2 ^ c).testBit j = (a.testBit j || decide (c = j)) := by rw [Nat.testBit_or, testBit_two]
theorem lyR_ok {d : Lnd} (hd : okL d) {R D : Nat} (hp : okRD d R D) {c k e : Nat} (hc : c < lC d) (hnb : nb (lW d) (lD d) c k = some e) : okRD d (lyR (lW d) (R, D) c k).1 (lyR (lW d) (R, D) c k).2 ∧ ∀ x j, j < 4 → goB (lW d) (lyR (lW d) (R, D) c k).1 (lyR (lW d) (R, D) c k).2 x j = (goB (lW d) R D x j || (decide (x = c ∧ j = k) || decide (x = e ∧ j = opp k))) := by
  have hC := okL_C hd
  obtain ⟨hW, hW5⟩ := hd.1
  have hk := (nb_lt hd.1.1 hc hnb).2
  have hlC : lC d = lW d * lD d := rfl
  obtain ⟨p1, p2⟩ := hp
  unfold okRD
  unfold lyR
  unfold nb at hnb
  rcases (show k = 0 ∨ k = 1 ∨ k = 2 ∨ k = 3 by omega) with rfl | rfl | rfl | rfl
  · rw [if_pos rfl] at hnb
    split at hnb
    next hw =>
      cases hnb
      simp only [show ¬ (1 : Nat) = 0 by decide, show ¬ (2 : Nat) = 0 by decide, show ¬ (2 : Nat) = 1 by decide, show ¬ (3 : Nat) = 0 by decide, show ¬ (3 : Nat) = 1 by decide, show ¬ (3 : Nat) = 2 by decide, show ¬ (0 : Nat) = 1 by decide, show ¬ (0 : Nat) = 2 by decide, show ¬ (0 : Nat) = 3 by decide, show ¬ (1 : Nat) = 2 by decide, show ¬ (1 : Nat) = 3 by decide, show ¬ (2 : Nat) = 3 by decide, if_false, if_true]
      refine ⟨⟨p1, fun x hx => ?_⟩, fun x j hj => ?_⟩
      · rw [tb_or, Bool.or_eq_true, decide_eq_true_eq] at hx
        rcases hx with hx | hx
        · exact p2 x hx
        · omega
      · unfold goB
        rcases (show j = 0 ∨ j = 1 ∨ j = 2 ∨ j = 3 by omega) with rfl | rfl | rfl | rfl
        · simp only [show ¬ (1 : Nat) = 0 by decide, show ¬ (2 : Nat) = 0 by decide, show ¬ (2 : Nat) = 1 by decide, show ¬ (3 : Nat) = 0 by decide, show ¬ (3 : Nat) = 1 by decide, show ¬ (3 : Nat) = 2 by decide, show ¬ (0 : Nat) = 1 by decide, show ¬ (0 : Nat) = 2 by decide, show ¬ (0 : Nat) = 3 by decide, show ¬ (1 : Nat) = 2 by decide, show ¬ (1 : Nat) = 3 by decide, show ¬ (2 : Nat) = 3 by decide, if_false, if_true, tb_or, and_false, and_true, decide_false, Bool.or_false, Bool.false_or, show opp 0 = 2 from rfl, show opp 1 = 3 from rfl, show opp 2 = 0 from rfl, show opp 3 = 1 from rfl]
          by_cases h1 : lW d ≤ x
          · rw [decide_eq_true h1, Bool.true_and, Bool.true_and, show decide (c - lW d = x - lW d) = decide (x = c) from decide_eq_decide.mpr (by omega)]
          · rw [decide_eq_false h1, Bool.false_and, Bool.false_and, decide_eq_false (show ¬ x = c by omega)]; rfl
        · simp only [show ¬ (1 : Nat) = 0 by decide, show ¬ (2 : Nat) = 0 by decide, show ¬ (2 : Nat) = 1 by decide, show ¬ (3 : Nat) = 0 by decide, show ¬ (3 : Nat) = 1 by decide, show ¬ (3 : Nat) = 2 by decide, show ¬ (0 : Nat) = 1 by decide, show ¬ (0 : Nat) = 2 by decide, show ¬ (0 : Nat) = 3 by decide, show ¬ (1 : Nat) = 2 by decide, show ¬ (1 : Nat) = 3 by decide, show ¬ (2 : Nat) = 3 by decide, if_false, if_true, tb_or, and_false, and_true, decide_false, Bool.or_false, Bool.false_or, show opp 0 = 2 from rfl, show opp 1 = 3 from rfl, show opp 2 = 0 from rfl, show opp 3 = 1 from rfl]
        · simp only [show ¬ (1 : Nat) = 0 by decide, show ¬ (2 : Nat) = 0 by decide, show ¬ (2 : Nat) = 1 by decide, show ¬ (3 : Nat) = 0 by decide, show ¬ (3 : Nat) = 1 by decide, show ¬ (3 : Nat) = 2 by decide, show ¬ (0 : Nat) = 1 by decide, show ¬ (0 : Nat) = 2 by decide, show ¬ (0 : Nat) = 3 by decide, show ¬ (1 : Nat) = 2 by decide, show ¬ (1 : Nat) = 3 by decide, show ¬ (2 : Nat) = 3 by decide, if_false, if_true, tb_or, and_false, and_true, decide_false, Bool.or_false, Bool.false_or, show opp 0 = 2 from rfl, show opp 1 = 3 from rfl, show opp 2 = 0 from rfl, show opp 3 = 1 from rfl]
          rw [show decide (c - lW d = x) = decide (x = c - lW d) from decide_eq_decide.mpr (by omega)]
        · simp only [show ¬ (1 : Nat) = 0 by decide, show ¬ (2 : Nat) = 0 by decide, show ¬ (2 : Nat) = 1 by decide, show ¬ (3 : Nat) = 0 by decide, show ¬ (3 : Nat) = 1 by decide, show ¬ (3 : Nat) = 2 by decide, show ¬ (0 : Nat) = 1 by decide, show ¬ (0 : Nat) = 2 by decide, show ¬ (0 : Nat) = 3 by decide, show ¬ (1 : Nat) = 2 by decide, show ¬ (1 : Nat) = 3 by decide, show ¬ (2 : Nat) = 3 by decide, if_false, if_true, tb_or, and_false, and_true, decide_false, Bool.or_false, Bool.false_or, show opp 0 = 2 from rfl, show opp 1 = 3 from rfl, show opp 2 = 0 from rfl, show opp 3 = 1 from rfl]
    next => cases hnb
  · rw [if_neg (by decide), if_pos rfl] at hnb
    split at hnb
    next hw =>
      cases hnb
      simp only [show ¬ (1 : Nat) = 0 by decide, show ¬ (2 : Nat) = 0 by decide, show ¬ (2 : Nat) = 1 by decide, show ¬ (3 : Nat) = 0 by decide, show ¬ (3 : Nat) = 1 by decide, show ¬ (3 : Nat) = 2 by decide, show ¬ (0 : Nat) = 1 by decide, show ¬ (0 : Nat) = 2 by decide, show ¬ (0 : Nat) = 3 by decide, show ¬ (1 : Nat) = 2 by decide, show ¬ (1 : Nat) = 3 by decide, show ¬ (2 : Nat) = 3 by decide, if_false, if_true]
      refine ⟨⟨fun x hx => ?_, p2⟩, fun x j hj => ?_⟩
      · rw [tb_or, Bool.or_eq_true, decide_eq_true_eq] at hx
        rcases hx with hx | hx
        · exact p1 x hx
        · subst hx; exact ⟨hw, hc⟩
      · unfold goB
        rcases (show j = 0 ∨ j = 1 ∨ j = 2 ∨ j = 3 by omega) with rfl | rfl | rfl | rfl
        · simp only [show ¬ (1 : Nat) = 0 by decide, show ¬ (2 : Nat) = 0 by decide, show ¬ (2 : Nat) = 1 by decide, show ¬ (3 : Nat) = 0 by decide, show ¬ (3 : Nat) = 1 by decide, show ¬ (3 : Nat) = 2 by decide, show ¬ (0 : Nat) = 1 by decide, show ¬ (0 : Nat) = 2 by decide, show ¬ (0 : Nat) = 3 by decide, show ¬ (1 : Nat) = 2 by decide, show ¬ (1 : Nat) = 3 by decide, show ¬ (2 : Nat) = 3 by decide, if_false, if_true, tb_or, and_false, and_true, decide_false, Bool.or_false, Bool.false_or, show opp 0 = 2 from rfl, show opp 1 = 3 from rfl, show opp 2 = 0 from rfl, show opp 3 = 1 from rfl]
        · simp only [show ¬ (1 : Nat) = 0 by decide, show ¬ (2 : Nat) = 0 by decide, show ¬ (2 : Nat) = 1 by decide, show ¬ (3 : Nat) = 0 by decide, show ¬ (3 : Nat) = 1 by decide, show ¬ (3 : Nat) = 2 by decide, show ¬ (0 : Nat) = 1 by decide, show ¬ (0 : Nat) = 2 by decide, show ¬ (0 : Nat) = 3 by decide, show ¬ (1 : Nat) = 2 by decide, show ¬ (1 : Nat) = 3 by decide, show ¬ (2 : Nat) = 3 by decide, if_false, if_true, tb_or, and_false, and_true, decide_false, Bool.or_false, Bool.false_or, show opp 0 = 2 from rfl, show opp 1 = 3 from rfl, show opp 2 = 0 from rfl, show opp 3 = 1 from rfl]
          rw [show decide (c = x) = decide (x = c) from decide_eq_decide.mpr (by omega)]
        · simp only [show ¬ (1 : Nat) = 0 by decide, show ¬ (2 : Nat) = 0 by decide, show ¬ (2 : Nat) = 1 by decide, show ¬ (3 : Nat) = 0 by decide, show ¬ (3 : Nat) = 1 by decide, show ¬ (3 : Nat) = 2 by decide, show ¬ (0 : Nat) = 1 by decide, show ¬ (0 : Nat) = 2 by decide, show ¬ (0 : Nat) = 3 by decide, show ¬ (1 : Nat) = 2 by decide, show ¬ (1 : Nat) = 3 by decide, show ¬ (2 : Nat) = 3 by decide, if_false, if_true, tb_or, and_false, and_true, decide_false, Bool.or_false, Bool.false_or, show opp 0 = 2 from rfl, show opp 1 = 3 from rfl, show opp 2 = 0 from rfl, show opp 3 = 1 from rfl]
        · simp only [show ¬ (1 : Nat) = 0 by decide, show ¬ (2 : Nat) = 0 by decide, show ¬ (2 : Nat) = 1 by decide, show ¬ (3 : Nat) = 0 by decide, show ¬ (3 : Nat) = 1 by decide, show ¬ (3 : Nat) = 2 by decide, show ¬ (0 : Nat) = 1 by decide, show ¬ (0 : Nat) = 2 by decide, show ¬ (0 : Nat) = 3 by decide, show ¬ (1 : Nat) = 2 by decide, show ¬ (1 : Nat) = 3 by decide, show ¬ (2 : Nat) = 3 by decide, if_false, if_true, tb_or, and_false, and_true, decide_false, Bool.or_false, Bool.false_or, show opp 0 = 2 from rfl, show opp 1 = 3 from rfl, show opp 2 = 0 from rfl, show opp 3 = 1 from rfl]
          by_cases h1 : 0 < x
          · rw [decide_eq_true h1, Bool.true_and, Bool.true_and, show decide (c = x - 1) = decide (x = c + 1) from decide_eq_decide.mpr (by omega)]
          · rw [decide_eq_false h1, Bool.false_and, Bool.false_and, decide_eq_false (show ¬ x = c + 1 by omega)]; rfl
    next => cases hnb
  · rw [if_neg (by decide), if_neg (by decide), if_pos rfl] at hnb
    split at hnb
    next hw =>
      cases hnb
      simp only [show ¬ (1 : Nat) = 0 by decide, show ¬ (2 : Nat) = 0 by decide, show ¬ (2 : Nat) = 1 by decide, show ¬ (3 : Nat) = 0 by decide, show ¬ (3 : Nat) = 1 by decide, show ¬ (3 : Nat) = 2 by decide, show ¬ (0 : Nat) = 1 by decide, show ¬ (0 : Nat) = 2 by decide, show ¬ (0 : Nat) = 3 by decide, show ¬ (1 : Nat) = 2 by decide, show ¬ (1 : Nat) = 3 by decide, show ¬ (2 : Nat) = 3 by decide, if_false, if_true]
      refine ⟨⟨p1, fun x hx => ?_⟩, fun x j hj => ?_⟩
      · rw [tb_or, Bool.or_eq_true, decide_eq_true_eq] at hx
        rcases hx with hx | hx
        · exact p2 x hx
        · omega
      · unfold goB
        rcases (show j = 0 ∨ j = 1 ∨ j = 2 ∨ j = 3 by omega) with rfl | rfl | rfl | rfl
        · simp only [show ¬ (1 : Nat) = 0 by decide, show ¬ (2 : Nat) = 0 by decide, show ¬ (2 : Nat) = 1 by decide, show ¬ (3 : Nat) = 0 by decide, show ¬ (3 : Nat) = 1 by decide, show ¬ (3 : Nat) = 2 by decide, show ¬ (0 : Nat) = 1 by decide, show ¬ (0 : Nat) = 2 by decide, show ¬ (0 : Nat) = 3 by decide, show ¬ (1 : Nat) = 2 by decide, show ¬ (1 : Nat) = 3 by decide, show ¬ (2 : Nat) = 3 by decide, if_false, if_true, tb_or, and_false, and_true, decide_false, Bool.or_false, Bool.false_or, show opp 0 = 2 from rfl, show opp 1 = 3 from rfl, show opp 2 = 0 from rfl, show opp 3 = 1 from rfl]
          by_cases h1 : lW d ≤ x
          · rw [decide_eq_true h1, Bool.true_and, Bool.true_and, show decide (c = x - lW d) = decide (x = c + lW d) from decide_eq_decide.mpr (by omega)]
          · rw [decide_eq_false h1, Bool.false_and, Bool.false_and, decide_eq_false (show ¬ x = c + lW d by omega)]; rfl
        · simp only [show ¬ (1 : Nat) = 0 by decide, show ¬ (2 : Nat) = 0 by decide, show ¬ (2 : Nat) = 1 by decide, show ¬ (3 : Nat) = 0 by decide, show ¬ (3 : Nat) = 1 by decide, show ¬ (3 : Nat) = 2 by decide, show ¬ (0 : Nat) = 1 by decide, show ¬ (0 : Nat) = 2 by decide, show ¬ (0 : Nat) = 3 by decide, show ¬ (1 : Nat) = 2 by decide, show ¬ (1 : Nat) = 3 by decide, show ¬ (2 : Nat) = 3 by decide, if_false, if_true, tb_or, and_false, and_true, decide_false, Bool.or_false, Bool.false_or, show opp 0 = 2 from rfl, show opp 1 = 3 from rfl, show opp 2 = 0 from rfl, show opp 3 = 1 from rfl]
        · simp only [show ¬ (1 : Nat) = 0 by decide, show ¬ (2 : Nat) = 0 by decide, show ¬ (2 : Nat) = 1 by decide, show ¬ (3 : Nat) = 0 by decide, show ¬ (3 : Nat) = 1 by decide, show ¬ (3 : Nat) = 2 by decide, show ¬ (0 : Nat) = 1 by decide, show ¬ (0 : Nat) = 2 by decide, show ¬ (0 : Nat) = 3 by decide, show ¬ (1 : Nat) = 2 by decide, show ¬ (1 : Nat) = 3 by decide, show ¬ (2 : Nat) = 3 by decide, if_false, if_true, tb_or, and_false, and_true, decide_false, Bool.or_false, Bool.false_or, show opp 0 = 2 from rfl, show opp 1 = 3 from rfl, show opp 2 = 0 from rfl, show opp 3 = 1 from rfl]
          rw [show decide (c = x) = decide (x = c) from decide_eq_decide.mpr (by omega)]
        · simp only [show ¬ (1 : Nat) = 0 by decide, show ¬ (2 : Nat) = 0 by decide, show ¬ (2 : Nat) = 1 by decide, show ¬ (3 : Nat) = 0 by decide, show ¬ (3 : Nat) = 1 by decide, show ¬ (3 : Nat) = 2 by decide, show ¬ (0 : Nat) = 1 by decide, show ¬ (0 : Nat) = 2 by decide, show ¬ (0 : Nat) = 3 by decide, show ¬ (1 : Nat) = 2 by decide, show ¬ (1 : Nat) = 3 by decide, show ¬ (2 : Nat) = 3 by decide, if_false, if_true, tb_or, and_false, and_true, decide_false, Bool.or_false, Bool.false_or, show opp 0 = 2 from rfl, show opp 1 = 3 from rfl, show opp 2 = 0 from rfl, show opp 3 = 1 from rfl]
    next => cases hnb
  · rw [if_neg (by decide), if_neg (by decide), if_neg (by decide), if_pos rfl] at hnb
    split at hnb
    next hw =>
      have h0 : 0 < c := by
        rcases Nat.eq_zero_or_pos c with q | q
        · rw [q, Nat.zero_mod] at hw; omega
        · exact q
      cases hnb
      simp only [show ¬ (1 : Nat) = 0 by decide, show ¬ (2 : Nat) = 0 by decide, show ¬ (2 : Nat) = 1 by decide, show ¬ (3 : Nat) = 0 by decide, show ¬ (3 : Nat) = 1 by decide, show ¬ (3 : Nat) = 2 by decide, show ¬ (0 : Nat) = 1 by decide, show ¬ (0 : Nat) = 2 by decide, show ¬ (0 : Nat) = 3 by decide, show ¬ (1 : Nat) = 2 by decide, show ¬ (1 : Nat) = 3 by decide, show ¬ (2 : Nat) = 3 by decide, if_false, if_true]
      refine ⟨⟨fun x hx => ?_, p2⟩, fun x j hj => ?_⟩
      · rw [tb_or, Bool.or_eq_true, decide_eq_true_eq] at hx
        rcases hx with hx | hx
        · exact p1 x hx
        · subst hx; exact ⟨mod_pred hW hW5 hw, by omega⟩
      · unfold goB
        rcases (show j = 0 ∨ j = 1 ∨ j = 2 ∨ j = 3 by omega) with rfl | rfl | rfl | rfl
        · simp only [show ¬ (1 : Nat) = 0 by decide, show ¬ (2 : Nat) = 0 by decide, show ¬ (2 : Nat) = 1 by decide, show ¬ (3 : Nat) = 0 by decide, show ¬ (3 : Nat) = 1 by decide, show ¬ (3 : Nat) = 2 by decide, show ¬ (0 : Nat) = 1 by decide, show ¬ (0 : Nat) = 2 by decide, show ¬ (0 : Nat) = 3 by decide, show ¬ (1 : Nat) = 2 by decide, show ¬ (1 : Nat) = 3 by decide, show ¬ (2 : Nat) = 3 by decide, if_false, if_true, tb_or, and_false, and_true, decide_false, Bool.or_false, Bool.false_or, show opp 0 = 2 from rfl, show opp 1 = 3 from rfl, show opp 2 = 0 from rfl, show opp 3 = 1 from rfl]
        · simp only [show ¬ (1 : Nat) = 0 by decide, show ¬ (2 : Nat) = 0 by decide, show ¬ (2 : Nat) = 1 by decide, show ¬ (3 : Nat) = 0 by decide, show ¬ (3 : Nat) = 1 by decide, show ¬ (3 : Nat) = 2 by decide, show ¬ (0 : Nat) = 1 by decide, show ¬ (0 : Nat) = 2 by decide, show ¬ (0 : Nat) = 3 by decide, show ¬ (1 : Nat) = 2 by decide, show ¬ (1 : Nat) = 3 by decide, show ¬ (2 : Nat) = 3 by decide, if_false, if_true, tb_or, and_false, and_true, decide_false, Bool.or_false, Bool.false_or, show opp 0 = 2 from rfl, show opp 1 = 3 from rfl, show opp 2 = 0 from rfl, show opp 3 = 1 from rfl]
          rw [show decide (c - 1 = x) = decide (x = c - 1) from decide_eq_decide.mpr (by omega)]
        · simp only [show ¬ (1 : Nat) = 0 by decide, show ¬ (2 : Nat) = 0 by decide, show ¬ (2 : Nat) = 1 by decide, show ¬ (3 : Nat) = 0 by decide, show ¬ (3 : Nat) = 1 by decide, show ¬ (3 : Nat) = 2 by decide, show ¬ (0 : Nat) = 1 by decide, show ¬ (0 : Nat) = 2 by decide, show ¬ (0 : Nat) = 3 by decide, show ¬ (1 : Nat) = 2 by decide, show ¬ (1 : Nat) = 3 by decide, show ¬ (2 : Nat) = 3 by decide, if_false, if_true, tb_or, and_false, and_true, decide_false, Bool.or_false, Bool.false_or, show opp 0 = 2 from rfl, show opp 1 = 3 from rfl, show opp 2 = 0 from rfl, show opp 3 = 1 from rfl]
        · simp only [show ¬ (1 : Nat) = 0 by decide, show ¬ (2 : Nat) = 0 by decide, show ¬ (2 : Nat) = 1 by decide, show ¬ (3 : Nat) = 0 by decide, show ¬ (3 : Nat) = 1 by decide, show ¬ (3 : Nat) = 2 by decide, show ¬ (0 : Nat) = 1 by decide, show ¬ (0 : Nat) = 2 by decide, show ¬ (0 : Nat) = 3 by decide, show ¬ (1 : Nat) = 2 by decide, show ¬ (1 : Nat) = 3 by decide, show ¬ (2 : Nat) = 3 by decide, if_false, if_true, tb_or, and_false, and_true, decide_false, Bool.or_false, Bool.false_or, show opp 0 = 2 from rfl, show opp 1 = 3 from rfl, show opp 2 = 0 from rfl, show opp 3 = 1 from rfl]
          by_cases h1 : 0 < x
          · rw [decide_eq_true h1, Bool.true_and, Bool.true_and, show decide (c - 1 = x - 1) = decide (x = c) from decide_eq_decide.mpr (by omega)]
          · rw [decide_eq_false h1, Bool.false_and, Bool.false_and, decide_eq_false (show ¬ x = c by omega)]; rfl
    next => cases hnb
