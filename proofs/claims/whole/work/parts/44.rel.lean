/-! ===== the relation between class and model ===== -/
def RT (g : eS) (n : Nat) (tx : Nat → Nat) : Prop := g.1 6 1 = nI n ∧ g.1 38 3 = nI n ∧ n ≤ 200 ∧ ∀ i, i < n → tx i < 256 ∧ g.2.1 8 i = nI (tx i) ∧ g.2.1 39 i = nI (tx i)
def RB (g : eS) (d : Lnd) (z : Nat → Nat) : Prop := CL g 1 3 5 d ∧ ML g d ∧ okL d ∧ BZ g 16 z ∧ BZ g 43 z ∧ okB d z
def RU (g : eS) (d : Lnd) (kn nx : Nat) (H : Nat → Nat → Nat) : Prop := kn ≤ 10 ∧ nx < 10 ∧ g.1 17 2 = nI nx ∧ g.1 17 3 = nI kn ∧ g.1 38 18 = nI kn ∧ ∀ j, j < kn → okB d (H j) ∧ ∀ i, i < 57 → g.2.1 19 ((nx + 10 - kn + j) % 10 * 57 + i) = nI (H j i) ∧ g.2.1 47 (j * 57 + i) = nI (H j i)
def RM (g : eS) (d : Lnd) (kp : Nat) (Z : Nat → Nat → Nat) : Prop := kp < 4 ∧ g.1 0 5 = nI kp ∧ ∀ m, m < 2 → g.2.1 46 m = (if kp.testBit m then 1 else 0) ∧ (kp.testBit m = true → okB d (Z m) ∧ ∀ i, i < 57 → g.2.1 21 (m * 57 + i) = nI (Z m i) ∧ g.2.1 45 (m * 57 + i) = nI (Z m i))
def RJ (g : eS) : Prop := g.2.2 37 2 = g.2.2 38 1
def Rl (g : eS) : Prop := ∃ (n : Nat) (tx : Nat → Nat) (d : Lnd) (z : Nat → Nat) (kn nx : Nat) (H : Nat → Nat → Nat) (kp : Nat) (Z : Nat → Nat → Nat), RT g n tx ∧ RB g d z ∧ RU g d kn nx H ∧ RM g d kp Z ∧ RJ g
/-- nothing that lasts has changed -/
def Kp (g h : eS) : Prop := ((∀ k, h.1 1 k = g.1 1 k) ∧ h.1 6 1 = g.1 6 1 ∧ h.1 17 2 = g.1 17 2 ∧ h.1 17 3 = g.1 17 3 ∧ h.1 38 18 = g.1 38 18 ∧ h.1 38 3 = g.1 38 3 ∧ h.1 0 5 = g.1 0 5) ∧
  (h.2.1 3 = g.2.1 3 ∧ h.2.1 5 = g.2.1 5 ∧ h.2.1 8 = g.2.1 8 ∧ h.2.1 16 = g.2.1 16 ∧ h.2.1 19 = g.2.1 19 ∧ h.2.1 21 = g.2.1 21) ∧
  (h.2.1 39 = g.2.1 39 ∧ h.2.1 40 = g.2.1 40 ∧ h.2.1 41 = g.2.1 41 ∧ h.2.1 42 = g.2.1 42 ∧ h.2.1 43 = g.2.1 43 ∧ h.2.1 45 = g.2.1 45 ∧ h.2.1 46 = g.2.1 46 ∧ h.2.1 47 = g.2.1 47) ∧ h.2.2 = g.2.2
theorem kp_rf (g : eS) : Kp g g := ⟨⟨fun _ => rfl, rfl, rfl, rfl, rfl, rfl, rfl⟩, ⟨rfl, rfl, rfl, rfl, rfl, rfl⟩, ⟨rfl, rfl, rfl, rfl, rfl, rfl, rfl, rfl⟩, rfl⟩
theorem kp_tr {g h k : eS} (a : Kp g h) (b : Kp h k) : Kp g k := by
  obtain ⟨⟨a1, a2, a3, a4, a5, a6, a7⟩, ⟨b1, b2, b3, b4, b5, b6⟩, ⟨c1, c2, c3, c4, c5, c6, c7, c8⟩, e⟩ := a
  obtain ⟨⟨a1', a2', a3', a4', a5', a6', a7'⟩, ⟨b1', b2', b3', b4', b5', b6'⟩, ⟨c1', c2', c3', c4', c5', c6', c7', c8'⟩, e'⟩ := b
  exact ⟨⟨fun k => (a1' k).trans (a1 k), a2'.trans a2, a3'.trans a3, a4'.trans a4, a5'.trans a5, a6'.trans a6, a7'.trans a7⟩, ⟨b1'.trans b1, b2'.trans b2, b3'.trans b3, b4'.trans b4, b5'.trans b5, b6'.trans b6⟩, ⟨c1'.trans c1, c2'.trans c2, c3'.trans c3, c4'.trans c4, c5'.trans c5, c6'.trans c6, c7'.trans c7, c8'.trans c8⟩, e'.trans e⟩
theorem kp_CL {g h : eS} (k : Kp g h) {d : Lnd} (c : CL g 1 3 5 d) : CL h 1 3 5 d := by
  obtain ⟨⟨a1, -⟩, ⟨b1, b2, -⟩, -⟩ := k
  unfold CL at c ⊢
  rw [a1, a1, a1, a1, b1, b2]
  exact c
theorem kp_ML {g h : eS} (k : Kp g h) {d : Lnd} (c : ML g d) : ML h d := by
  obtain ⟨-, -, ⟨-, c2, c3, c4, -⟩, -⟩ := k
  unfold ML at c ⊢
  rw [c2, c3, c4]
  exact c
theorem kp_Rl {g h : eS} (k : Kp g h) (r : Rl g) : Rl h := by
  obtain ⟨n, tx, d, z, kn, nx, H, kp, Z, r1, ⟨r2, r3, r4, r5, r6, r7⟩, r8, r9, r10⟩ := r
  have k1 := kp_CL k r2
  have k2 := kp_ML k r3
  obtain ⟨⟨a1, a2, a3, a4, a5, a6, a7⟩, ⟨b1, b2, b3, b4, b5, b6⟩, ⟨c1, c2, c3, c4, c5, c6, c7, c8⟩, e⟩ := k
  refine ⟨n, tx, d, z, kn, nx, H, kp, Z, ?_, ⟨k1, k2, r4, ?_, ?_, r7⟩, ?_, ?_, ?_⟩
  · unfold RT at r1 ⊢; rw [a2, a6, b3, c1]; exact r1
  · unfold BZ at r5 ⊢; rw [b4]; exact r5
  · unfold BZ at r6 ⊢; rw [c5]; exact r6
  · unfold RU at r8 ⊢; rw [a3, a4, a5, b5, c8]; exact r8
  · unfold RM at r9 ⊢; rw [a7, c7, b6, c6]; exact r9
  · unfold RJ at r10 ⊢; rw [e]; exact r10
theorem kp_th (g : eS) : Kp g (eSI g 38 0 0) := ⟨⟨fun k => by simp [eSI_r], by simp [eSI_r], by simp [eSI_r], by simp [eSI_r], by simp [eSI_r], by simp [eSI_r], by simp [eSI_r]⟩, ⟨rfl, rfl, rfl, rfl, rfl, rfl⟩, ⟨rfl, rfl, rfl, rfl, rfl, rfl, rfl, rfl⟩, rfl⟩
theorem th_CL {g : eS} {d : Lnd} (c : CL g 1 3 5 d) : CL (eSI g 38 0 0) 1 3 5 d := kp_CL (kp_th g) c
theorem th_ML {g : eS} {d : Lnd} (c : ML g d) : ML (eSI g 38 0 0) d := c
theorem th_BZ {g : eS} {a : Nat} {z : Nat → Nat} (c : BZ g a z) : BZ (eSI g 38 0 0) a z := c
theorem th_MS {g : eS} {a : Nat} {d : Lnd} {z : Nat → Nat} (c : MS g a d z) : MS (eSI g 38 0 0) a d z := c
theorem rb_CS {g : eS} {d : Lnd} {z : Nat → Nat} (r : RB g d z) : CS g 16 d z := ⟨r.1, r.2.2.1, r.2.2.2.1, r.2.2.2.2.2⟩
theorem rb_MS {g : eS} {d : Lnd} {z : Nat → Nat} (r : RB g d z) : MS g 43 d z := ⟨r.2.1, r.2.2.1, r.2.2.2.2.1, r.2.2.2.2.2⟩
theorem b14 : isBo 14 15 16 := Or.inl ⟨rfl, rfl, rfl⟩
theorem b33 : isBo 33 34 35 := Or.inr ⟨rfl, rfl, rfl⟩
theorem a43 : isMa 43 := Or.inl rfl
theorem a44 : isMa 44 := Or.inr rfl
/-- an int within 0 .. n - 1, or not -/
theorem inOr (x : Int32) {n : Nat} (hn : n < 2 ^ 31) : (∃ j, j < n ∧ x = nI j) ∨ (x < 0 ∨ nI n ≤ x) := by
  rcases pk_ix x hn with h | h | h
  · exact Or.inr (Or.inl h)
  · exact Or.inr (Or.inr h)
  · exact Or.inl h
/-- a number in a small range of the model's 'in' -/
theorem m_inL {c m : Nat} (h : c ≤ m) (hm : m < 2 ^ 30) (w : eW) : fX11_in (nI c) 0 (nI m) w = some (1, w) := by
  rw [m_in, if_neg]
  intro q
  rcases q with q | q
  · exact nI_pos (by omega) q
  · exact nI_nlt h (by omega) q
theorem m_inLO {x : Int32} {m : Nat} (h : x < 0 ∨ nI (m + 1) ≤ x) (hm : m < 2 ^ 30) (w : eW) : fX11_in x 0 (nI m) w = some (0, w) := by
  rw [m_in, if_pos]
  rcases h with h | h
  · exact Or.inl h
  · right
    rw [Int32.le_iff_toInt_le, nI_toInt (by omega)] at h
    rw [Int32.lt_iff_toInt_lt, nI_toInt (by omega)]
    omega
theorem one_ne0 : ¬ (1 : Int32) = 0 := by decide
/-! ===== the simplest calls ===== -/
theorem sim25 : Sim25 Rl := by
  intro g r
  obtain ⟨n, tx, d, z, kn, nx, H, kp, Z, r1, r2, r8, r9, r10⟩ := id r
  refine ⟨g.2.2 37 2, g, eSI g 38 0 0, ?_, ?_, kp_Rl (kp_th g) r⟩
  · simp only [fX10_trace, fX10_trace_0, fX5_traced, fX5_traced_0, tO, tR, tJ, bis, b2s, cond_true]
  · simp only [fX11_trace, fX11_trace_0, tO, tP, tJ, bis, cond_true, eSI_J]
    rw [r10]
theorem sim3 : Sim3 Rl := by
  intro g r x
  obtain ⟨n, tx, d, z, kn, nx, H, kp, Z, r1, r2, r8, r9, r10⟩ := id r
  have hC := okL_C r2.2.2.1
  rcases inOr x (show lC d < 2 ^ 31 by omega) with ⟨c, hc, rfl⟩ | hx
  · refine ⟨nI (lH d c), g, eSI g 38 0 0, ?_, ?_, kp_Rl (kp_th g) r⟩
    · simp only [fX10_height, fX10_height_0, tO, tR, bis, b2s, cond_true, c_hasN g1 r2.1 r2.2.2.1 hc, if_neg one_ne0, c_height g1 r2.1 (show c < 20 by omega)]
    · simp only [fX11_height, fX11_height_0, tO, tR, tP, bis, b2s, cond_true, q_isN (th_ML r2.2.1) r2.2.2.1 hc, if_neg one_ne0, q_h (th_ML r2.2.1) (show c < 20 by omega)]
  · refine ⟨-1, g, eSI g 38 0 0, ?_, ?_, kp_Rl (kp_th g) r⟩
    · simp only [fX10_height, fX10_height_0, tO, tR, bis, b2s, cond_true, c_hasO g1 r2.1 hx, if_true]
    · simp only [fX11_height, fX11_height_0, tO, tR, tP, bis, b2s, cond_true, q_isO (th_ML r2.2.1) r2.2.2.1 hx, if_true]
theorem c_towns {g : eS} {d : Lnd} (hL : CL g 1 3 5 d) : fX1_towns 1 (eE g) = some (nI (lK d), eE g) := by
  simp only [fX1_towns, fX1_towns_0, tO, tI, bis, cond_true, hL.2.2.2.1]
theorem sim4 : Sim4 Rl := by
  intro g r x
  obtain ⟨n, tx, d, z, kn, nx, H, kp, Z, r1, r2, r8, r9, r10⟩ := id r
  have hK := r2.2.2.1.2.2.2.1
  rcases inOr x (show lK d < 2 ^ 31 by omega) with ⟨c, hc, rfl⟩ | hx
  · refine ⟨nI (lT d c), g, eSI g 38 0 0, ?_, ?_, kp_Rl (kp_th g) r⟩
    · simp only [fX10_town, fX10_town_0, tO, tR, bis, b2s, cond_true, if_neg (nI_pos (show c < 2 ^ 31 by omega)), c_towns r2.1, if_neg (nI_ge hc (show lK d < 2 ^ 31 by omega)), c_townCell g1 r2.1 r2.2.2.1 hc]
    · simp only [fX11_town, fX11_town_0, tO, tR, tP, tK, bis, b2s, cond_true, (th_ML r2.2.1).2.2.2.1, m_inN hc (show lK d < 2 ^ 30 by omega), if_neg one_ne0, q_t (th_ML r2.2.1) r2.2.2.1 hc]
  · refine ⟨-1, g, eSI g 38 0 0, ?_, ?_, kp_Rl (kp_th g) r⟩
    · by_cases h0 : x < 0
      · simp only [fX10_town, fX10_town_0, tO, cond_true, if_pos h0, fX10_town_26]
      · simp only [fX10_town, fX10_town_0, tO, tR, bis, b2s, cond_true, if_neg h0, c_towns r2.1, if_pos (hx.resolve_left h0), fX10_town_26]
    · simp only [fX11_town, fX11_town_0, tO, tR, tP, tK, bis, b2s, cond_true, (th_ML r2.2.1).2.2.2.1, m_inO hx (show lK d < 2 ^ 30 by omega), if_true]
theorem sim5 : Sim5 Rl := by
  intro g r x v
  obtain ⟨n, tx, d, z, kn, nx, H, kp, Z, r1, r2, r8, r9, r10⟩ := id r
  have h4 := r2.2.2.2.2.2.1
  rcases inOr x (show z 0 < 2 ^ 31 by omega) with ⟨b, hb, rfl⟩ | hx
  · have hb4 : b < 4 := by omega
    have e1 := c_has b14 r2.2.2.2.1 h4 hb
    have e2 := q_isB (th_BZ r2.2.2.2.2.1) h4 hb
    rcases inOr v (show 4 < 2 ^ 31 by decide) with ⟨k, hk, rfl⟩ | hv
    · have e3 := m_inL (show k ≤ 3 by omega) (by decide) (eE (eSI g 38 0 0))
      rw [show nI 3 = (3 : Int32) from rfl] at e3
      rcases (show k = 0 ∨ k = 1 ∨ k = 2 ∨ k = 3 by omega) with rfl | rfl | rfl | rfl
      · refine ⟨nI (bf z b), g, eSI g 38 0 0, ?_, ?_, kp_Rl (kp_th g) r⟩
        · simp only [fX10_bolt, fX10_bolt_0, tO, tR, bis, b2s, cond_true, e1, if_neg one_ne0, nI_0, if_true, c_first b14 r2.2.2.2.1 hb4]
        · simp only [nI_0] at e3
          simp only [fX11_bolt, fX11_bolt_0, tO, tR, tP, bis, b2s, cond_true, e2, e3, if_neg one_ne0, nI_0, if_true, q_first a43 (th_BZ r2.2.2.2.2.1) hb4]
      · refine ⟨nI (cb d z b (bl z b)), g, eSI g 38 0 0, ?_, ?_, kp_Rl (kp_th g) r⟩
        · simp only [fX10_bolt, fX10_bolt_0, tO, tR, bis, b2s, cond_true, e1, if_neg one_ne0, show nI 1 = (1 : Int32) from rfl, if_true, c_last b14 (rb_CS r2) hb]
        · simp only [show nI 1 = (1 : Int32) from rfl] at e3
          simp only [fX11_bolt, fX11_bolt_0, tO, tR, tP, bis, b2s, cond_true, e2, e3, if_neg one_ne0, show nI 1 = (1 : Int32) from rfl, if_true, q_end a43 (th_MS (rb_MS r2)) hb]
      · refine ⟨nI (bl z b), g, eSI g 38 0 0, ?_, ?_, kp_Rl (kp_th g) r⟩
        · simp only [fX10_bolt, fX10_bolt_0, tO, tR, bis, b2s, cond_true, e1, if_neg one_ne0, show nI 2 = (2 : Int32) from rfl, if_true, show ¬ (2 : Int32) = 0 by decide, show ¬ (2 : Int32) = 1 by decide, if_false, c_len b14 r2.2.2.2.1 hb4]
        · simp only [show nI 2 = (2 : Int32) from rfl] at e3
          simp only [fX11_bolt, fX11_bolt_0, tO, tR, tP, bis, b2s, cond_true, e2, e3, if_neg one_ne0, show nI 2 = (2 : Int32) from rfl, if_true, show ¬ (2 : Int32) = 0 by decide, show ¬ (2 : Int32) = 1 by decide, if_false, q_len a43 (th_BZ r2.2.2.2.2.1) hb4]
      · refine ⟨nI (upS d z b (bl z b)), g, eSI g 38 0 0, ?_, ?_, kp_Rl (kp_th g) r⟩
        · simp only [fX10_bolt, fX10_bolt_0, tO, tR, bis, b2s, cond_true, e1, if_neg one_ne0, show nI 3 = (3 : Int32) from rfl, if_true, show ¬ (3 : Int32) = 0 by decide, show ¬ (3 : Int32) = 1 by decide, show ¬ (3 : Int32) = 2 by decide, if_false, c_climb b14 (rb_CS r2) hb]
        · simp only [show nI 3 = (3 : Int32) from rfl] at e3
          simp only [fX11_bolt, fX11_bolt_0, tO, tR, tP, bis, b2s, cond_true, e2, e3, if_neg one_ne0, show nI 3 = (3 : Int32) from rfl, if_true, show ¬ (3 : Int32) = 0 by decide, show ¬ (3 : Int32) = 1 by decide, show ¬ (3 : Int32) = 2 by decide, if_false, q_up (th_MS (rb_MS r2)) hb]
    · have n0 : ¬ v = 0 := fun q => by subst q; revert hv; decide
      have n1 : ¬ v = 1 := fun q => by subst q; revert hv; decide
      have n2 : ¬ v = 2 := fun q => by subst q; revert hv; decide
      have n3 : ¬ v = 3 := fun q => by subst q; revert hv; decide
      have e3 := m_inLO (m := 3) hv (by decide) (eE (eSI g 38 0 0))
      rw [show nI 3 = (3 : Int32) from rfl] at e3
      refine ⟨-1, g, eSI g 38 0 0, ?_, ?_, kp_Rl (kp_th g) r⟩
      · simp only [fX10_bolt, fX10_bolt_0, tO, tR, bis, b2s, cond_true, e1, if_neg one_ne0, if_neg n0, if_neg n1, if_neg n2, if_neg n3]
      · simp only [fX11_bolt, fX11_bolt_0, tO, tR, tP, bis, b2s, cond_true, e2, e3, if_neg one_ne0, if_true]
  · refine ⟨-1, g, eSI g 38 0 0, ?_, ?_, kp_Rl (kp_th g) r⟩
    · simp only [fX10_bolt, fX10_bolt_0, tO, tR, bis, b2s, cond_true, c_hasNo b14 r2.2.2.2.1 hx, if_true]
    · simp only [fX11_bolt, fX11_bolt_0, tO, tR, tP, bis, b2s, cond_true, q_isBNo (th_BZ r2.2.2.2.2.1) h4 hx, if_true]
theorem sim6 : Sim6 Rl := by
  intro g r x v
  obtain ⟨n, tx, d, z, kn, nx, H, kp, Z, r1, r2, r8, r9, r10⟩ := id r
  have h4 := r2.2.2.2.2.2.1
  rcases inOr x (show z 0 < 2 ^ 31 by omega) with ⟨b, hb, rfl⟩ | hx
  · have hb4 : b < 4 := by omega
    have hl := (r2.2.2.2.2.2.2 b hb).2.1
    have e1 := c_has b14 r2.2.2.2.1 h4 hb
    have e2 := q_isB (th_BZ r2.2.2.2.2.1) h4 hb
    have e4 := c_len b14 r2.2.2.2.1 hb4
    have e5 := q_len a43 (th_BZ r2.2.2.2.2.1) hb4
    rcases inOr v (show bl z b < 2 ^ 31 by omega) with ⟨k, hk, rfl⟩ | hv
    · refine ⟨nI (bc z b k), g, eSI g 38 0 0, ?_, ?_, kp_Rl (kp_th g) r⟩
      · simp only [fX10_card, fX10_card_0, tO, tR, bis, b2s, cond_true, e1, if_neg one_ne0, if_neg (nI_pos (show k < 2 ^ 31 by omega)), e4, if_neg (nI_ge hk (show bl z b < 2 ^ 31 by omega)), c_card b14 r2.2.2.2.1 hb4 (show k < 12 by omega)]
      · simp only [fX11_card, fX11_card_0, tO, tR, tP, bis, b2s, cond_true, e2, e5, m_inN hk (show bl z b < 2 ^ 30 by omega), if_neg one_ne0, q_card a43 (th_BZ r2.2.2.2.2.1) hb4 (show k < 12 by omega)]
    · refine ⟨-1, g, eSI g 38 0 0, ?_, ?_, kp_Rl (kp_th g) r⟩
      · by_cases h0 : v < 0
        · simp only [fX10_card, fX10_card_0, tO, tR, bis, b2s, cond_true, e1, if_neg one_ne0, if_pos h0, fX10_card_39]
        · simp only [fX10_card, fX10_card_0, tO, tR, bis, b2s, cond_true, e1, if_neg one_ne0, if_neg h0, e4, if_pos (hv.resolve_left h0), fX10_card_39]
      · simp only [fX11_card, fX11_card_0, tO, tR, tP, bis, b2s, cond_true, e2, e5, m_inO hv (show bl z b < 2 ^ 30 by omega), if_neg one_ne0, if_true, fX11_card_43]
  · refine ⟨-1, g, eSI g 38 0 0, ?_, ?_, kp_Rl (kp_th g) r⟩
    · simp only [fX10_card, fX10_card_0, tO, tR, bis, b2s, cond_true, c_hasNo b14 r2.2.2.2.1 hx, if_true, fX10_card_39]
    · simp only [fX11_card, fX11_card_0, tO, tR, tP, bis, b2s, cond_true, q_isBNo (th_BZ r2.2.2.2.2.1) h4 hx, if_true, fX11_card_43]
