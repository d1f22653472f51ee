/-! ===== way: the graph, and the class's walk ===== -/
def smW (sm e : Nat) : Nat := if sm.testBit e then 1 else 0
def edW (d : Lnd) (R D sm : Nat) : Gr := fun c k => if goB (lW d) R D c k then some (mv (lW d) c k, 1 + (lH d (mv (lW d) c k) - lH d c) + smW sm (mv (lW d) c k)) else none
theorem edW_some {d : Lnd} {R D sm c k : Nat} (h : goB (lW d) R D c k = true) : edW d R D sm c k = some (mv (lW d) c k, 1 + (lH d (mv (lW d) c k) - lH d c) + smW sm (mv (lW d) c k)) := by
  unfold edW; rw [h]; rfl
theorem edW_none {d : Lnd} {R D sm c k : Nat} (h : goB (lW d) R D c k = false) : edW d R D sm c k = none := by
  unfold edW; rw [h]; rfl
theorem smW_le (sm e : Nat) : smW sm e ≤ 1 := by
  unfold smW; split <;> omega
theorem okGW {d : Lnd} (hd : okL d) {R D : Nat} (hok : okRD d R D) (sm : Nat) : okG (lC d) (edW d R D sm) := by
  intro c k e w hc hk h
  unfold edW at h
  split at h
  next hg =>
    cases h
    exact (nb_lt hd.1.1 hc (goB_nb hd hok hk hg).2).1
  next => cases h
theorem edW_w {d : Lnd} (hd : okL d) {R D sm : Nat} : ∀ c k e w, edW d R D sm c k = some (e, w) → w ≤ 11 := by
  intro c k e w h
  unfold edW at h
  split at h
  next hg =>
    injection h with h
    injection h with h1 h2
    have a1 := hd.2.2.2.2.1 (mv (lW d) c k)
    have a2 := smW_le sm (mv (lW d) c k)
    omega
  next => cases h
def fC (a x : Nat) : Nat := if x = a then 0 else 1000
theorem fC_le (a x : Nat) : fC a x ≤ 1000 := by
  unfold fC; split <;> omega
theorem two_caps {ed : Gr} {n a : Nat} (hw : ∀ c k e w, ed c k = some (e, w) → w ≤ 11) : ∀ r, r ≤ 20 → ∀ x, (Bd ed n (fS (2 ^ a)) r x ≤ 11 * r ∧ Bd ed n (fC a) r x = Bd ed n (fS (2 ^ a)) r x) ∨ (Bd ed n (fS (2 ^ a)) r x = FF ∧ Bd ed n (fC a) r x = 1000) := by
  have hff : 1000 < FF := by decide
  intro r
  induction r with
  | zero =>
    intro _ x
    show (fS (2 ^ a) x ≤ 11 * 0 ∧ fC a x = fS (2 ^ a) x) ∨ (fS (2 ^ a) x = FF ∧ fC a x = 1000)
    unfold fS fC
    rw [testBit_two]
    by_cases h : x = a
    · left
      rw [if_pos h, if_pos (by rw [h]; simp)]
      exact ⟨by omega, rfl⟩
    · right
      rw [if_neg h, if_neg (by simp; omega)]
      exact ⟨rfl, rfl⟩
  | succ r ih0 =>
    intro hr x
    have ih := ih0 (by omega)
    have up : ∀ v, Bd ed n (fS (2 ^ a)) (r + 1) x = v → v < FF → v ≤ 11 * (r + 1) ∧ Bd ed n (fC a) (r + 1) x ≤ v := by
      intro v hv hlt
      rcases Bd_or (ed := ed) (n := n) (t0 := fS (2 ^ a)) r x with h | ⟨c, k, w, h1, h2, h3, h4⟩
      · rcases ih x with ⟨q1, q2⟩ | ⟨q1, q2⟩
        · have := Bd_dn (ed := ed) (n := n) (t0 := fC a) r x
          omega
        · omega
      · rcases ih c with ⟨q1, q2⟩ | ⟨q1, q2⟩
        · have a1 := Bd_ed (t0 := fC a) (r := r) h1 h2 h3
          have a2 := hw _ _ _ _ h3
          omega
        · omega
    have dn : Bd ed n (fC a) (r + 1) x < 1000 → Bd ed n (fS (2 ^ a)) (r + 1) x ≤ Bd ed n (fC a) (r + 1) x := by
      intro hlt
      rcases Bd_or (ed := ed) (n := n) (t0 := fC a) r x with h | ⟨c, k, w, h1, h2, h3, h4⟩
      · rcases ih x with ⟨q1, q2⟩ | ⟨q1, q2⟩
        · have := Bd_dn (ed := ed) (n := n) (t0 := fS (2 ^ a)) r x
          omega
        · omega
      · rcases ih c with ⟨q1, q2⟩ | ⟨q1, q2⟩
        · have a1 := Bd_ed (t0 := fS (2 ^ a)) (r := r) h1 h2 h3
          omega
        · omega
    have b1 : Bd ed n (fS (2 ^ a)) (r + 1) x ≤ FF := Nat.le_trans (Bd_mono (Nat.zero_le _) x) (fS_le _ x)
    have b2 : Bd ed n (fC a) (r + 1) x ≤ 1000 := Nat.le_trans (Bd_mono (Nat.zero_le _) x) (fC_le a x)
    by_cases hlt : Bd ed n (fS (2 ^ a)) (r + 1) x < FF
    · left
      have u := up _ rfl hlt
      have v := dn (by omega)
      exact ⟨u.1, by omega⟩
    · right
      refine ⟨by omega, ?_⟩
      by_cases h : Bd ed n (fC a) (r + 1) x < 1000
      · have := dn h
        omega
      · omega
theorem way_eq {ed : Gr} {n a x : Nat} (hG : okG n ed) (hw : ∀ c k e w, ed c k = some (e, w) → w ≤ 11) (hn : n ≤ 20) (hx : x < n) : (if 1000 ≤ rnds ed n (fC a) 20 x then (-9 : Int32) else nI (rnds ed n (fC a) 20 x)) = if FF ≤ rnds ed n (fS (2 ^ a)) n x then (-9 : Int32) else nI (rnds ed n (fS (2 ^ a)) n x) := by
  have hff : 1000 < FF := by decide
  rw [rnds_eq (s := n) hG hx (by omega) (by omega), rnds_eq (s := n) hG hx (by omega) (by omega)]
  rcases two_caps (n := n) (a := a) hw n hn x with ⟨q1, q2⟩ | ⟨q1, q2⟩
  · rw [q2, if_neg (by omega), if_neg (by omega)]
  · rw [q1, q2, if_pos (Nat.le_refl _), if_pos (Nat.le_refl _)]
theorem rlx_congr {ed : Gr} {n : Nat} {t t' : Nat → Nat} (hG : okG n ed) (h : ∀ x, x < n → t x = t' x) : ∀ m, m ≤ 4 * n → ∀ x, x < n → rlx ed t m x = rlx ed t' m x := by
  intro m
  induction m with
  | zero => intro _; exact h
  | succ m ih =>
    intro hm x hx
    have i1 := ih (by omega)
    show relx ed (rlx ed t m) m x = relx ed (rlx ed t' m) m x
    unfold relx
    cases he : ed (m / 4) (m % 4) with
    | none => exact i1 x hx
    | some ew =>
      obtain ⟨e, w⟩ := ew
      have hee := hG _ _ _ _ (show m / 4 < n by omega) (show m % 4 < 4 by omega) he
      dsimp only
      rw [i1 e hee, i1 (m / 4) (by omega), i1 x hx]
theorem rnds_stay {ed : Gr} {n : Nat} {t : Nat → Nat} (hG : okG n ed) {r : Nat} (h : ∀ x, x < n → rnds ed n t (r + 1) x = rnds ed n t r x) : ∀ s, r ≤ s → ∀ x, x < n → rnds ed n t s x = rnds ed n t r x := by
  intro s
  induction s with
  | zero => intro q x _; rw [show r = 0 by omega]
  | succ s ih =>
    intro q x hx
    by_cases e : r = s + 1
    · rw [e]
    · have i1 := ih (by omega)
      have c1 := rlx_congr hG i1 (4 * n) (Nat.le_refl _) x hx
      exact c1.trans (h x hx)
/-- nothing comes from a cell that is not come to -/
theorem rlx_skip {ed : Gr} {T : Nat → Nat} {N c : Nat} (hT : ∀ x, T x ≤ N) (hc : N ≤ rlx ed T (4 * c) c) : ∀ k, k ≤ 4 → ∀ x, rlx ed T (4 * c + k) x = rlx ed T (4 * c) x := by
  intro k
  induction k with
  | zero => intro _ x; rfl
  | succ k ih =>
    intro hk x
    have i1 := ih (by omega)
    show relx ed (rlx ed T (4 * c + k)) (4 * c + k) x = _
    cases he : ed c k with
    | none => rw [relx_none (by omega) he, i1 x]
    | some ew =>
      obtain ⟨e, w⟩ := ew
      rw [relx_some (by omega) he, i1 x, i1 c, i1 e]
      by_cases hx : x = e
      · have := Nat.le_trans (rlx_mono ed T e 0 (4 * c) (by omega)) (hT e)
        rw [if_pos hx, hx, Nat.min_eq_left (by omega)]
      · rw [if_neg hx]
/-! seams -/
def ends (d : Lnd) (z : Nat → Nat) (b : Nat) : Nat := if 0 < bl z b then 2 ^ bf z b ||| 2 ^ cb d z b (bl z b) else 0
def smN (d : Lnd) (z : Nat → Nat) : Nat → Nat × Nat
  | 0 => (0, 0)
  | b + 1 => ((smN d z b).1 ||| ends d z b, (smN d z b).2 ||| ((smN d z b).1 &&& ends d z b))
theorem ends_bit (d : Lnd) (z : Nat → Nat) (b x : Nat) : (ends d z b).testBit x = decide (0 < bl z b ∧ (bf z b = x ∨ cb d z b (bl z b) = x)) := by
  unfold ends
  by_cases h : 0 < bl z b
  · rw [if_pos h, tb_or, testBit_two, Bool.eq_iff_iff]
    simp [h]
  · rw [if_neg h, Nat.zero_testBit]
    simp [h]
theorem tch_fin : ∀ (t : Fin 16) (b : Fin 4), t.val < 2 ^ b.val → popN (t.val ||| 2 ^ b.val) 4 = popN t.val 4 + 1 ∧ t.val ||| 2 ^ b.val < 2 ^ (b.val + 1) := by decide +kernel
theorem sm_ok (d : Lnd) (z : Nat → Nat) (x : Nat) : ∀ b, b ≤ 4 → tch d z x b < 2 ^ b ∧ ((smN d z b).1.testBit x = true ↔ 1 ≤ popN (tch d z x b) 4) ∧ ((smN d z b).2.testBit x = true ↔ 2 ≤ popN (tch d z x b) 4) := by
  intro b
  induction b with
  | zero =>
    intro _
    rw [show tch d z x 0 = 0 from rfl, show popN 0 4 = 0 from by decide, show (smN d z 0).1 = 0 from rfl, show (smN d z 0).2 = 0 from rfl, Nat.zero_testBit]
    refine ⟨by decide, ?_, ?_⟩ <;> simp
  | succ b ih =>
    intro hb
    obtain ⟨i1, i2, i3⟩ := ih (by omega)
    have h8 : 2 ^ b ≤ 2 ^ 3 := Nat.pow_le_pow_right (by decide) (by omega)
    rw [tch, smN]
    by_cases ht : 0 < bl z b ∧ (bf z b = x ∨ cb d z b (bl z b) = x)
    · have e : (ends d z b).testBit x = true := by rw [ends_bit]; exact decide_eq_true ht
      have f := tch_fin ⟨tch d z x b, by omega⟩ ⟨b, by omega⟩ i1
      dsimp only at f
      rw [if_pos ht, f.1]
      refine ⟨f.2, ?_, ?_⟩
      · rw [Nat.testBit_or, e, Bool.or_true]; simp
      · rw [Nat.testBit_or, Nat.testBit_and, e, Bool.and_true, Bool.or_eq_true, i2, i3]; omega
    · have e : (ends d z b).testBit x = false := by rw [ends_bit]; exact decide_eq_false ht
      rw [if_neg ht]
      refine ⟨by rw [Nat.pow_succ]; omega, ?_, ?_⟩
      · rw [Nat.testBit_or, e, Bool.or_false]; exact i2
      · rw [Nat.testBit_or, Nat.testBit_and, e, Bool.and_false, Bool.or_false]; exact i3
theorem sm_lt {d : Lnd} (hd : okL d) {z : Nat → Nat} (ho : okB d z) : ∀ b, b ≤ z 0 → (smN d z b).1 < 2 ^ 20 ∧ (smN d z b).2 < 2 ^ 20 := by
  have hC := okL_C hd
  intro b
  induction b with
  | zero => intro _; exact ⟨Nat.two_pow_pos 20, Nat.two_pow_pos 20⟩
  | succ b ih =>
    intro hb
    obtain ⟨i1, i2⟩ := ih (by omega)
    have q1 := (ho.2 b (by omega)).1
    have q2 := okB_cb hd ho (show b < z 0 by omega) (bl z b) (Nat.le_refl _)
    have he : ends d z b < 2 ^ 20 := by
      unfold ends
      split
      · exact or_lt (two_lt (by omega)) (two_lt (by omega))
      · decide
    rw [smN]
    exact ⟨or_lt i1 he, or_lt i2 (and_lt20 i1)⟩
theorem c_seams {g : eS} {d : Lnd} {z : Nat → Nat} (hS : CS g 16 d z) : fX0_seams 14 (eE g) = some (nI (smN d z (z 0)).2, eE g) := by
  have hS' := hS
  obtain ⟨hL, hd, hz, ho⟩ := hS
  have hC := okL_C hd
  have h4 := ho.1
  have key : ∀ (fu b : Nat), b ≤ z 0 → z 0 - b < fu → fX0_seams_6 fu 14 (nI (smN d z b).1) (nI (smN d z b).2) (nI b) (eE g) = some (nI (smN d z (z 0)).2, eE g) := by
    intro fu
    induction fu with
    | zero => intro b h1 h2; omega
    | succ fu ih =>
      intro b h1 h2
      rw [fX0_seams_6, c_size b14 hz, b2s]
      by_cases hb : b = z 0
      · rw [hb, if_pos (nI_le (Nat.le_refl _) (by omega))]
      · have hb2 : b < z 0 := by omega
        obtain ⟨q1, q2, q3⟩ := ho.2 b hb2
        have hcb := okB_cb hd ho hb2 (bl z b) (Nat.le_refl _)
        have nx := ih (b + 1) (by omega) (by omega)
        rw [smN] at nx
        dsimp only at nx
        rw [if_neg (nI_ge hb2 (by omega)), c_len b14 hz (by omega), b2s]
        have fin : ∀ t, t = nI (ends d z b) → fX0_seams_43 (fX0_seams_6 fu) 14 (nI (smN d z b).1) (nI (smN d z b).2) (nI b) t (eE g) = some (nI (smN d z (z 0)).2, eE g) := by
          intro t ht
          rw [fX0_seams_43, ht, nI_and, nI_or, nI_or, nI_1]
          exact nx
        by_cases h0 : bl z b = 0
        · rw [h0, if_pos (by decide)]
          exact fin 0 (by unfold ends; rw [if_neg (by omega)]; rfl)
        · rw [if_neg (nI_nle (by omega) (by omega)), c_first b14 hz (by omega), b2s, m_bit, b2s, c_last b14 hS' hb2, b2s, m_bit, b2s, bit_nI _ (by omega), bit_nI _ (by omega)]
          exact fin _ (by unfold ends; rw [if_pos (by omega), nI_or])
  simp only [fX0_seams, fX0_seams_0, tO, cond_true]
  exact key eN 0 (by omega) (by rw [eN_eq]; omega)
theorem sA25_CL {g : eS} {d : Lnd} (hL : CL g 1 3 5 d) (F : Nat → Int32) : CL (eSA g 25 F) 1 3 5 d := kp_CL (kp_A g F (by decide)) hL
theorem c_goOn {g : eS} {d : Lnd} (hL : CL g 1 3 5 d) (hd : okL d) {R D : Nat} (hok : okRD d R D) (e1 : g.1 22 1 = nI R) (e2 : g.1 22 2 = nI D) {S : Nat} (hS : S < 2 ^ 20) {T : Nat → Nat} (hT : ∀ x, T x ≤ 1000) {c : Nat} (hc : c < lC d) : ∀ (fv k : Nat) (b : Bool) (F : Nat → Int32), k ≤ 4 → 4 - k < fv → FA (lC d) F (rlx (edW d R D S) T (4 * c + k)) → (b = false → ∀ x, x < lC d → rlx (edW d R D S) T (4 * c + k) x = rlx (edW d R D S) T (4 * c) x) → ∃ (F' : Nat → Int32) (b' : Bool), fX8_goOn_5 fv 23 (nI c) (nI S) (if b then 1 else 0) (nI k) (eE (eSA g 25 F)) = some (if b' then 1 else 0, eE (eSA g 25 F')) ∧ FA (lC d) F' (rlx (edW d R D S) T (4 * (c + 1))) ∧ (b' = false → ∀ x, x < lC d → rlx (edW d R D S) T (4 * (c + 1)) x = rlx (edW d R D S) T (4 * c) x) := by
  have hC := okL_C hd
  intro fv
  induction fv with
  | zero => intro k b F h1 h2; omega
  | succ fv ih =>
    intro k b F h1 h2 hF hb
    have hL' := sA25_CL hL F
    rw [fX8_goOn_5]
    by_cases hk : k = 4
    · subst hk
      rw [if_pos (show (4 : Int32) ≤ nI 4 by decide), eZ_b, bis]
      exact ⟨F, b, rfl, hF, hb⟩
    · have hk4 : k < 4 := by omega
      have rs : ∀ x, rlx (edW d R D S) T (4 * c + (k + 1)) x = relx (edW d R D S) (rlx (edW d R D S) T (4 * c + k)) (4 * c + k) x := fun x => rfl
      have tl : ∀ x, rlx (edW d R D S) T (4 * c + k) x ≤ 1000 := fun x => Nat.le_trans (rlx_mono _ T x 0 (4 * c + k) (by omega)) (hT x)
      rw [if_neg (show ¬ (4 : Int32) ≤ nI k from nI_ge (a := k) (b := 4) hk4 (by decide))]
      simp only [tR, bis]
      rw [c_goes R22 hL' hd hok hc hk4 e1 e2, b2s]
      cases hg : goB (lW d) R D c k with
      | false =>
        rw [if_pos (show (if false = true then (1 : Int32) else 0) = 0 by decide), fX8_goOn_110, nI_1]
        refine ih (k + 1) b F (by omega) (by omega) (fun x hx => ?_) (fun q x hx => ?_)
        · rw [rs, relx_none hk4 (edW_none hg)]; exact hF x hx
        · rw [rs, relx_none hk4 (edW_none hg)]; exact hb q x hx
      | true =>
        have hgn := goB_nb hd hok hk4 hg
        have hnb := hgn.2
        have hed := edW_some (sm := S) hg
        generalize hev : mv (lW d) c k = e at hnb hed
        have he : e < lC d := (nb_lt hd.1.1 hc hnb).1
        have hh1 := hd.2.2.2.2.1 c
        have hh2 := hd.2.2.2.2.1 e
        have uf : (if nI (lH d e) - nI (lH d c) < 0 then 0 else nI (lH d e) - nI (lH d c)) = nI (lH d e - lH d c) := up_fin ⟨lH d c, by omega⟩ ⟨lH d e, by omega⟩
        rw [if_neg (show ¬ (if true = true then (1 : Int32) else 0) = 0 by decide)]
        simp only [tR, bis]
        rw [c_neighbour g1 hL' hd hc hk4, b2s, hnb, show oM1 (some e) = nI e from rfl, m_bit, b2s, bit_nI e (by omega)]
        have hsl := smW_le S e
        have htc := tl c
        have hte := tl e
        have tail : ∀ s, s = nI (smW S e) → ∃ (F' : Nat → Int32) (b' : Bool), fX8_goOn_51 (fX8_goOn_5 fv) 23 (nI c) (nI S) (if b then 1 else 0) (nI k) (nI e) s (eE (eSA g 25 F)) = some (if b' then 1 else 0, eE (eSA g 25 F')) ∧ FA (lC d) F' (rlx (edW d R D S) T (4 * (c + 1))) ∧ (b' = false → ∀ x, x < lC d → rlx (edW d R D S) T (4 * (c + 1)) x = rlx (edW d R D S) T (4 * c) x) := by
          intro s hs
          have gc : fX7_get 24 (nI c) (eE (eSA g 25 F)) = some (nI (rlx (edW d R D S) T (4 * c + k) c), eE (eSA g 25 F)) := by rw [row_getN r24 _ (show c < 20 by omega), sAA, hF c hc]
          have ge : fX7_get 24 (nI e) (eE (eSA g 25 F)) = some (nI (rlx (edW d R D S) T (4 * c + k) e), eE (eSA g 25 F)) := by rw [row_getN r24 _ (show e < 20 by omega), sAA, hF e he]
          have cs := c_step g1 hL' (show c < 20 by omega) (show e < 20 by omega)
          simp only [fX8_goOn_51, tR, bis, b2s, gc, ge, cs, m_max, uf]
          rw [hs, nI_1, nI_add, nI_add]
          by_cases hm : rlx (edW d R D S) T (4 * c + k) e ≤ rlx (edW d R D S) T (4 * c + k) c + 1 + (lH d e - lH d c) + smW S e
          · rw [if_pos (nI_le hm (by omega)), fX8_goOn_110, nI_1]
            have same : ∀ x, relx (edW d R D S) (rlx (edW d R D S) T (4 * c + k)) (4 * c + k) x = rlx (edW d R D S) T (4 * c + k) x := by
              intro x
              rw [relx_some hk4 hed]
              by_cases hx : x = e
              · rw [if_pos hx, hx, Nat.min_eq_left (by omega)]
              · rw [if_neg hx]
            refine ih (k + 1) b F (by omega) (by omega) (fun x hx => ?_) (fun q x hx => ?_)
            · rw [rs, same]; exact hF x hx
            · rw [rs, same]; exact hb q x hx
          · rw [if_neg (nI_ge (by omega) (by omega)), row_putN r24 _ (show e < 20 by omega), bis, eSA_same, sAA, fX8_goOn_110, nI_1]
            refine ih (k + 1) true _ (by omega) (by omega) (fun x hx => ?_) (fun q => absurd q (by decide))
            rw [rs, upd_i, relx_some hk4 hed]
            by_cases hx2 : x = e
            · rw [if_pos hx2, if_pos hx2, Nat.min_eq_right (by omega)]
              apply congrArg nI
              omega
            · rw [if_neg hx2, if_neg hx2]; exact hF x hx
        cases hq : S.testBit e with
        | false =>
          rw [if_pos ((and_bit (by omega)).mpr hq)]
          exact tail 0 (by unfold smW; rw [hq]; rfl)
        | true =>
          rw [if_neg (fun q => by rw [(and_bit (by omega)).mp q] at hq; cases hq)]
          exact tail 1 (by unfold smW; rw [hq]; rfl)
theorem b_or0 (b : Bool) : (if b then (1 : Int32) else 0) ||| 0 = if b then 1 else 0 := by cases b <;> decide
theorem b_or1 (b : Bool) : (if b then (1 : Int32) else 0) ||| 1 = if true then 1 else 0 := by cases b <;> decide
theorem c_soonest {g : eS} {d : Lnd} {z : Nat → Nat} (hS : CS g 16 d z) {R D : Nat} (hok : okRD d R D) (e1 : g.1 22 1 = nI R) (e2 : g.1 22 2 = nI D) {a to : Nat} (ha : a < lC d) (hto : to < lC d) : ∃ F, fX8_soonest 23 (nI a) (nI to) (eE g) = some (if 1000 ≤ rnds (edW d R D (smN d z (z 0)).2) (lC d) (fC a) 20 to then (-9 : Int32) else nI (rnds (edW d R D (smN d z (z 0)).2) (lC d) (fC a) 20 to), eE (eSA g 25 F)) := by
  have sm20 := (sm_lt hS.2.1 hS.2.2.2 (z 0) (Nat.le_refl _)).2
  have csm := c_seams hS
  obtain ⟨hL, hd, hz, ho⟩ := hS
  have hC := okL_C hd
  generalize (smN d z (z 0)).2 = S at sm20 csm
  have hG := okGW hd hok S
  have k51 : ∀ (T : Nat → Nat), (∀ x, T x ≤ 1000) → ∀ (K33 : Nat → Int32 → Int32 → Int32 → Int32 → eW → Option (Int32 × eW)) (rd fv c : Nat) (b : Bool) (F : Nat → Int32), c ≤ lC d → lC d - c < fv → FA (lC d) F (rlx (edW d R D S) T (4 * c)) → (b = false → ∀ x, x < lC d → rlx (edW d R D S) T (4 * c) x = T x) → ∃ (F' : Nat → Int32) (b' : Bool), fX8_soonest_51 K33 fv 23 (nI to) (nI S) (if b then 1 else 0) (nI rd) (nI c) (eE (eSA g 25 F)) = K33 23 (nI to) (nI S) (if b' then 1 else 0) (nI (rd + 1)) (eE (eSA g 25 F')) ∧ FA (lC d) F' (rlx (edW d R D S) T (4 * lC d)) ∧ (b' = false → ∀ x, x < lC d → rlx (edW d R D S) T (4 * lC d) x = T x) := by
    intro T hT K33 rd fv
    induction fv with
    | zero => intro c b F h1 h2; omega
    | succ fv ih =>
      intro c b F h1 h2 hF hb
      have hL' := sA25_CL hL F
      rw [fX8_soonest_51]
      simp only [tR, bis]
      rw [c_cells g1 hL', b2s]
      by_cases hc : c = lC d
      · subst hc
        rw [if_pos (nI_le (Nat.le_refl _) (by omega)), nI_1]
        exact ⟨F, b, rfl, hF, hb⟩
      · have hc2 : c < lC d := by omega
        have tc : rlx (edW d R D S) T (4 * c) c ≤ 1000 := Nat.le_trans (rlx_mono _ T c 0 (4 * c) (by omega)) (hT c)
        have gc : fX7_get 24 (nI c) (eE (eSA g 25 F)) = some (nI (rlx (edW d R D S) T (4 * c) c), eE (eSA g 25 F)) := by rw [row_getN r24 _ (show c < 20 by omega), sAA, hF c hc2]
        rw [if_neg (nI_ge hc2 (by omega))]
        simp only [tR, bis, gc, b2s]
        by_cases hN : 1000 ≤ rlx (edW d R D S) T (4 * c) c
        · have sk : ∀ x, rlx (edW d R D S) T (4 * (c + 1)) x = rlx (edW d R D S) T (4 * c) x := rlx_skip hT hN 4 (Nat.le_refl _)
          rw [if_pos (show (1000 : Int32) ≤ nI _ from nI_le (a := 1000) hN (by omega)), fX8_soonest_94, fX8_soonest_95, b_or0, nI_1]
          exact ih (c + 1) b F (by omega) (by omega) (fun x hx => by rw [sk x]; exact hF x hx) (fun q x hx => by rw [sk x]; exact hb q x hx)
        · rw [if_neg (show ¬ (1000 : Int32) ≤ nI _ from nI_ge (b := 1000) (by omega) (by decide))]
          obtain ⟨F1, b1, o1, o2, o3⟩ := c_goOn hL hd hok e1 e2 sm20 hT hc2 eN 0 false F (by omega) (by rw [eN_eq]; omega) hF (fun _ _ _ => rfl)
          have og : fX8_goOn 23 (nI c) (nI S) (eE (eSA g 25 F)) = some (if b1 then 1 else 0, eE (eSA g 25 F1)) := by
            simp only [fX8_goOn, fX8_goOn_0, tO, cond_true]
            exact o1
          rw [og, b2s]
          cases b1 with
          | false =>
            rw [if_pos (show (if false = true then (1 : Int32) else 0) = 0 by decide), fX8_soonest_94, fX8_soonest_95, b_or0, nI_1]
            exact ih (c + 1) b F1 (by omega) (by omega) o2 (fun q x hx => by rw [o3 rfl x hx]; exact hb q x hx)
          | true =>
            rw [if_neg (show ¬ (if true = true then (1 : Int32) else 0) = 0 by decide), fX8_soonest_95, b_or1, nI_1]
            exact ih (c + 1) true F1 (by omega) (by omega) o2 (fun q => absurd q (by decide))
  have tl : ∀ r x, rnds (edW d R D S) (lC d) (fC a) r x ≤ 1000 := fun r x => Nat.le_trans (rnds_le0 _ _ _ x r) (fC_le a x)
  have k110 : ∀ (F : Nat → Int32), F to = nI (rnds (edW d R D S) (lC d) (fC a) 20 to) → fX8_soonest_110 23 (nI to) (eE (eSA g 25 F)) = some (if 1000 ≤ rnds (edW d R D S) (lC d) (fC a) 20 to then (-9 : Int32) else nI (rnds (edW d R D S) (lC d) (fC a) 20 to), eE (eSA g 25 F)) := by
    intro F hF
    have t2 := tl 20 to
    have gc : fX7_get 24 (nI to) (eE (eSA g 25 F)) = some (nI (rnds (edW d R D S) (lC d) (fC a) 20 to), eE (eSA g 25 F)) := by rw [row_getN r24 _ (show to < 20 by omega), sAA, hF]
    simp only [fX8_soonest_110, tR, bis, b2s, gc]
    by_cases hN : 1000 ≤ rnds (edW d R D S) (lC d) (fC a) 20 to
    · rw [if_pos (show (1000 : Int32) ≤ nI _ from nI_le (a := 1000) hN (by omega)), if_pos hN]
    · rw [if_neg (show ¬ (1000 : Int32) ≤ nI _ from nI_ge (b := 1000) (by omega) (by decide)), if_neg hN]
  have k33 : ∀ (fu rd : Nat) (b : Bool) (F : Nat → Int32), rd ≤ 20 → 20 - rd < fu → FA (lC d) F (rnds (edW d R D S) (lC d) (fC a) rd) → (b = false → ∀ x, x < lC d → rnds (edW d R D S) (lC d) (fC a) 20 x = rnds (edW d R D S) (lC d) (fC a) rd x) → ∃ F', fX8_soonest_33 fu 23 (nI to) (nI S) (if b then 1 else 0) (nI rd) (eE (eSA g 25 F)) = some (if 1000 ≤ rnds (edW d R D S) (lC d) (fC a) 20 to then (-9 : Int32) else nI (rnds (edW d R D S) (lC d) (fC a) 20 to), eE (eSA g 25 F')) := by
    intro fu
    induction fu with
    | zero => intro rd b F h1 h2; omega
    | succ fu ih =>
      intro rd b F h1 h2 hF hb
      rw [fX8_soonest_33]
      by_cases hr : rd = 20
      · subst hr
        rw [if_pos (show (20 : Int32) ≤ nI 20 by decide), k110 F (hF to hto)]
        exact ⟨F, rfl⟩
      · rw [if_neg (show ¬ (20 : Int32) ≤ nI rd from nI_ge (a := rd) (b := 20) (by omega) (by decide))]
        cases b with
        | false =>
          rw [if_pos (show (if false = true then (1 : Int32) else 0) = 0 by decide), k110 F (by rw [hb rfl to hto]; exact hF to hto)]
          exact ⟨F, rfl⟩
        | true =>
          rw [if_neg (show ¬ (if true = true then (1 : Int32) else 0) = 0 by decide)]
          obtain ⟨F1, b1, o1, o2, o3⟩ := k51 (rnds (edW d R D S) (lC d) (fC a) rd) (tl rd) (fX8_soonest_33 fu) rd eN 0 false F (by omega) (by rw [eN_eq]; omega) hF (fun _ _ _ => rfl)
          rw [show (if false then (1 : Int32) else 0) = 0 from rfl, nI_0] at o1
          obtain ⟨F2, p1⟩ := ih (rd + 1) b1 F1 (by omega) (by omega) o2 (fun q x hx => by
            have st := rnds_stay (r := rd) hG (o3 q)
            rw [st 20 (by omega) x hx]
            exact (o3 q x hx).symm)
          exact ⟨F2, o1.trans p1⟩
  obtain ⟨f, f1, f2, -⟩ := row_fill r24 1000 g
  have pt := row_putN r24 (eSA g 25 f) (show a < 20 by omega) 0
  rw [eSA_same, sAA] at pt
  obtain ⟨F', p1⟩ := k33 eN 0 true (upd f a 0) (by omega) (by rw [eN_eq]; omega) (fun x hx => by
    show upd f a 0 x = nI (fC a x)
    rw [upd_i]
    unfold fC
    by_cases hxa : x = a
    · rw [if_pos hxa, if_pos hxa]; rfl
    · rw [if_neg hxa, if_neg hxa, f2 x (by omega)]; rfl) (fun q => absurd q (by decide))
  rw [show (if true then (1 : Int32) else 0) = 1 from rfl, nI_0] at p1
  refine ⟨F', ?_⟩
  simp only [fX8_soonest, fX8_soonest_0, tO, tR, bis, b2s, cond_true, csm, f1, pt]
  exact p1
