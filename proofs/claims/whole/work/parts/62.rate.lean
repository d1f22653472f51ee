/-! ===== rate ===== -/
theorem eSJ_same (g : eS) (o k : Nat) (v v' : Int64) : eSJ (eSJ g o k v) o k v' = eSJ g o k v' := by
  unfold eSJ
  refine Prod.ext rfl (Prod.ext rfl ?_)
  funext i j
  dsimp only
  by_cases h : i = o ∧ j = k
  · rw [if_pos h, if_pos h]
  · rw [if_neg h, if_neg h, if_neg h]
theorem rl_J {h : eS} {J : Nat → Nat → Int64} (r : Rl (h.1, h.2.1, J)) (e : h.2.2 37 2 = h.2.2 38 1) : Rl h := by
  obtain ⟨n, tx, d, z, kn, nx, H, kp, Z, r1, r2, r8, r9, r10⟩ := r
  exact ⟨n, tx, d, z, kn, nx, H, kp, Z, r1, r2, r8, r9, e⟩
/-- as Kp, the traces aside -/
def KJ (g h : eS) : Prop := Kp g (h.1, h.2.1, g.2.2)
theorem kj_Rl {g h : eS} (k : KJ g h) (r : Rl g) (e : h.2.2 37 2 = h.2.2 38 1) : Rl h := rl_J (kp_Rl k r) e
theorem kp_kj {g h : eS} (k : Kp g h) : KJ g h := ⟨k.1, k.2.1, k.2.2.1, rfl⟩
theorem kj_tr {g h k : eS} (a : KJ g h) (b : KJ h k) : KJ g k := by
  have b' : Kp (h.1, h.2.1, g.2.2) (k.1, k.2.1, g.2.2) := ⟨b.1, b.2.1, b.2.2.1, rfl⟩
  exact kp_tr a b'
theorem kj_J (g : eS) (o k : Nat) (v : Int64) : KJ g (eSJ g o k v) := ⟨⟨fun _ => rfl, rfl, rfl, rfl, rfl, rfl, rfl⟩, ⟨rfl, rfl, rfl, rfl, rfl, rfl⟩, ⟨rfl, rfl, rfl, rfl, rfl, rfl, rfl, rfl⟩, rfl⟩
theorem kj_CL {g h : eS} (k : KJ g h) {d : Lnd} (c : CL g 1 3 5 d) : CL h 1 3 5 d := kp_CL k c
theorem kj_ML {g h : eS} (k : KJ g h) {d : Lnd} (c : ML g d) : ML h d := kp_ML k c
theorem kj_MS {g h : eS} (k : KJ g h) {d : Lnd} {z : Nat → Nat} (c : MS g 43 d z) : MS h 43 d z := kp_MS k c
theorem kj_CS {g h : eS} (k : KJ g h) {d : Lnd} {z : Nat → Nat} (c : CS g 16 d z) : CS h 16 d z := by
  refine ⟨kj_CL k c.1, c.2.1, ?_, c.2.2.2⟩
  have := c.2.2.1
  unfold BZ at this ⊢
  have e : h.2.1 16 = g.2.1 16 := k.2.1.2.2.2.1
  rw [e]
  exact this
theorem eSJ_t (g : eS) (v : Int64) : (eSJ g 37 2 v).2.2 37 2 = v := by rw [eSJ_r, if_pos ⟨rfl, rfl⟩]
theorem eSJ_m (g : eS) (v : Int64) : (eSJ g 38 1 v).2.2 38 1 = v := by rw [eSJ_r, if_pos ⟨rfl, rfl⟩]
theorem eSJ_tm (g : eS) (v : Int64) : (eSJ g 38 1 v).2.2 37 2 = g.2.2 37 2 := by rw [eSJ_r, if_neg (by decide)]
theorem eSJ_mt (g : eS) (v : Int64) : (eSJ g 37 2 v).2.2 38 1 = g.2.2 38 1 := by rw [eSJ_r, if_neg (by decide)]
section RATE
variable {g : eS} {d : Lnd} {z : Nat → Nat} {b : Nat}
theorem c_asBolt (hS : CS g 16 d z) (hb : b < z 0) : fX5_asBolt 37 (nI b) (eE g) = some (nI (bl z b), eE (eSJ g 37 2 (g.2.2 37 2 + 1))) := by
  have hb4 : b < 4 := by have := hS.2.2.2.1; omega
  have l := c_len b14 (kj_CS (kj_J g 37 2 (g.2.2 37 2 + 1)) hS).2.2.1 hb4
  simp only [fX5_asBolt, fX5_asBolt_0, tO, tR, tJ, tQ, bis, cond_true, l, b2s]
theorem c_asLane (hS : CS g 16 d z) (hb : b < z 0) : fX5_asLane 37 (nI b) (eE g) = some (nI (bl z b) + nI (cb d z b (bl z b)), eE (eSJ g 37 2 (g.2.2 37 2 + 11))) := by
  have a := c_asBolt (kj_CS (kj_J g 37 2 (g.2.2 37 2 + 10)) hS) hb
  rw [eSJ_same, eSJ_t, Int64.add_assoc, show (10 : Int64) + 1 = 11 by decide] at a
  have l := c_last b14 (kj_CS (kj_J g 37 2 (g.2.2 37 2 + 11)) hS) hb
  simp only [fX5_asLane, fX5_asLane_0, tO, tR, tJ, tQ, bis, cond_true, a, l, b2s]
theorem c_asToll (hS : CS g 16 d z) (hb : b < z 0) : fX5_asToll 37 (nI b) (eE g) = some (nI (bl z b) - nI (upS d z b (bl z b)), eE (eSJ g 37 2 (g.2.2 37 2 + 101))) := by
  have a := c_asBolt (kj_CS (kj_J g 37 2 (g.2.2 37 2 + 100)) hS) hb
  rw [eSJ_same, eSJ_t, Int64.add_assoc, show (100 : Int64) + 1 = 101 by decide] at a
  have l := c_climb b14 (kj_CS (kj_J g 37 2 (g.2.2 37 2 + 101)) hS) hb
  simp only [fX5_asToll, fX5_asToll_0, tO, tR, tJ, tQ, bis, cond_true, a, l, b2s]
theorem c_asTrack (hS : CS g 16 d z) (hb : b < z 0) : fX5_asTrack 37 (nI b) (eE g) = some (2 * (nI (bl z b) + nI (cb d z b (bl z b))), eE (eSJ g 37 2 (g.2.2 37 2 + 1011))) := by
  have a := c_asLane (kj_CS (kj_J g 37 2 (g.2.2 37 2 + 1000)) hS) hb
  rw [eSJ_same, eSJ_t, Int64.add_assoc, show (1000 : Int64) + 11 = 1011 by decide] at a
  simp only [fX5_asTrack, fX5_asTrack_0, tO, tR, tJ, tQ, bis, cond_true, a, b2s]
theorem c_asMoth (hS : CS g 16 d z) (hb : b < z 0) : fX5_asMoth 37 (nI b) (eE g) = some (nI (bl z b) - nI (upS d z b (bl z b)) + nI b, eE (eSJ g 37 2 (g.2.2 37 2 + 10101))) := by
  have a := c_asToll (kj_CS (kj_J g 37 2 (g.2.2 37 2 + 10000)) hS) hb
  rw [eSJ_same, eSJ_t, Int64.add_assoc, show (10000 : Int64) + 101 = 10101 by decide] at a
  simp only [fX5_asMoth, fX5_asMoth_0, tO, tR, tJ, tQ, bis, cond_true, a, b2s]
theorem c_asDream (hS : CS g 16 d z) (hb : b < z 0) : ∃ h, fX5_asDream 37 (nI b) (eE g) = some (nI (bl z b) + nI (pcs d (rdR d z) (rdD d z) (lK d)).1, eE h) ∧ KJ g h ∧ h.2.2 37 2 = g.2.2 37 2 + 100001 ∧ h.2.2 38 1 = g.2.2 38 1 := by
  have hS1 := kj_CS (kj_J g 37 2 (g.2.2 37 2 + 100000)) hS
  have l := c_lay R22 b14 hS1
  have k2 := kp_kj (kp_rd R22 (eSJ g 37 2 (g.2.2 37 2 + 100000)) (rdR d z) (rdD d z))
  have hS2 := kj_CS k2 hS1
  have a := c_asBolt hS2 hb
  have hJ : (rdS (eSJ g 37 2 (g.2.2 37 2 + 100000)) 22 (rdR d z) (rdD d z)).2.2 37 2 = g.2.2 37 2 + 100000 := by rw [rdS_J, eSJ_t]
  rw [hJ, Int64.add_assoc, show (100000 : Int64) + 1 = 100001 by decide] at a
  have k3 := kj_J (rdS (eSJ g 37 2 (g.2.2 37 2 + 100000)) 22 (rdR d z) (rdD d z)) 37 2 (g.2.2 37 2 + 100001)
  have p := c_pieces R22 (kj_CL k3 hS2.1) hS.2.1 (rd_ok hS.2.1 hS.2.2.2) (show (eSJ (rdS (eSJ g 37 2 (g.2.2 37 2 + 100000)) 22 (rdR d z) (rdD d z)) 37 2 (g.2.2 37 2 + 100001)).1 22 1 = nI (rdR d z) from by rw [eSJ_I, rdS_1]) (by rw [eSJ_I, rdS_2])
  refine ⟨_, ?_, kj_tr (kj_J g 37 2 _) (kj_tr k2 k3), eSJ_t _ _, ?_⟩
  · simp only [fX5_asDream, fX5_asDream_0, tO, tR, tJ, tQ, bis, cond_true, l, a, p, b2s]
  · rw [eSJ_mt, rdS_J, eSJ_mt]
end RATE
/-- kind by kind: what the trace grows by -/
theorem rate_fin {g h : eS} (r : Rl g) {d : Lnd} {z : Nat → Nat} {b : Nat} (hM : MS g 43 d z) (hb : b < z 0) (k : KJ g h) (hJ : h.2.2 38 1 = g.2.2 38 1) {k5 : Nat} (hk : k5 < 5) {a : Int64} {v : Int32} (ha : h.2.2 37 2 = g.2.2 37 2 + a) (e : (k5 = 0 ∧ a = 1 ∧ v = nI (bl z b)) ∨ (k5 = 1 ∧ a = 11 ∧ v = nI (bl z b) + nI (cb d z b (bl z b))) ∨ (k5 = 2 ∧ a = 101 ∧ v = nI (bl z b) - nI (upS d z b (bl z b))) ∨ (k5 = 3 ∧ a = 1011 ∧ v = 2 * (nI (bl z b) + nI (cb d z b (bl z b)))) ∨ (k5 = 4 ∧ a = 10101 ∧ v = nI (bl z b) - nI (upS d z b (bl z b)) + nI b)) : ∃ g2, fX11_rate 38 (nI k5) (nI b) (eE h) = some (v, eE g2) ∧ Rl g2 := by
  have hT : MS (eSI h 38 0 0) 43 d z := kj_MS (kj_tr k (kp_kj (kp_th h))) hM
  have h4 := hM.2.2.2.1
  have hb4 : b < 4 := by omega
  have i1 : ∀ w, fX11_in (nI k5) 0 5 w = some (1, w) := fun w => m_inL (m := 5) (by omega) (by decide) w
  have i2 := q_isB hT.2.2.1 h4 hb
  have l1 := q_len a43 hT.2.2.1 hb4
  have l2 := q_end a43 hT hb
  have l3 := q_up hT hb
  have rj : g.2.2 37 2 = g.2.2 38 1 := by
    obtain ⟨_, _, _, _, _, _, _, _, _, -, -, -, -, q⟩ := r
    exact q
  refine ⟨eSJ (eSI h 38 0 0) 38 1 ((eSI h 38 0 0).2.2 38 1 + a), ?_, kj_Rl (kj_tr k (kj_tr (kp_kj (kp_th h)) (kj_J _ 38 1 _))) r ?_⟩
  · rcases e with ⟨rfl, rfl, rfl⟩ | ⟨rfl, rfl, rfl⟩ | ⟨rfl, rfl, rfl⟩ | ⟨rfl, rfl, rfl⟩ | ⟨rfl, rfl, rfl⟩
    · simp only [fX11_rate, fX11_rate_0, fX11_rate_116, tO, tR, tP, tJ, tQ, bis, b2s, cond_true, i1, i2, l1, l2, l3, if_neg one_ne0, if_pos (show nI 0 = 0 from rfl)]
    · simp only [fX11_rate, fX11_rate_0, fX11_rate_116, tO, tR, tP, tJ, tQ, bis, b2s, cond_true, i1, i2, l1, l2, l3, if_neg one_ne0, if_neg (show ¬ nI 1 = 0 by decide), if_pos (show nI 1 = 1 from rfl)]
    · simp only [fX11_rate, fX11_rate_0, fX11_rate_116, tO, tR, tP, tJ, tQ, bis, b2s, cond_true, i1, i2, l1, l2, l3, if_neg one_ne0, if_neg (show ¬ nI 2 = 0 by decide), if_neg (show ¬ nI 2 = 1 by decide), if_pos (show nI 2 = 2 from rfl)]
    · simp only [fX11_rate, fX11_rate_0, fX11_rate_116, tO, tR, tP, tJ, tQ, bis, b2s, cond_true, i1, i2, l1, l2, l3, if_neg one_ne0, if_neg (show ¬ nI 3 = 0 by decide), if_neg (show ¬ nI 3 = 1 by decide), if_neg (show ¬ nI 3 = 2 by decide), if_pos (show nI 3 = 3 from rfl)]
    · simp only [fX11_rate, fX11_rate_0, fX11_rate_116, tO, tR, tP, tJ, tQ, bis, b2s, cond_true, i1, i2, l1, l2, l3, if_neg one_ne0, if_neg (show ¬ nI 4 = 0 by decide), if_neg (show ¬ nI 4 = 1 by decide), if_neg (show ¬ nI 4 = 2 by decide), if_neg (show ¬ nI 4 = 3 by decide), if_pos (show nI 4 = 4 from rfl)]
  · rw [eSJ_tm, eSJ_m, eSI_J, ha, hJ, rj]
theorem sim21 : Sim21 Rl := by
  intro g r x u
  obtain ⟨n, tx, d, z, kn, nx, H, kp, Z, r1, r2, r8, r9, r10⟩ := id r
  have hd := r2.2.2.1
  have h4 := r2.2.2.2.2.2.1
  have hS := rb_CS r2
  have hM := rb_MS r2
  rcases inOr u (show z 0 < 2 ^ 31 by omega) with ⟨b, hb, rfl⟩ | hu
  · have e1 := c_has b14 r2.2.2.2.1 h4 hb
    rcases inOr x (show 6 < 2 ^ 31 by decide) with ⟨k, hk, rfl⟩ | hx
    · have mt := eSJ_mt g
      rcases (show k = 0 ∨ k = 1 ∨ k = 2 ∨ k = 3 ∨ k = 4 ∨ k = 5 by omega) with rfl | rfl | rfl | rfl | rfl | rfl
      · obtain ⟨g2, q1, q2⟩ := rate_fin r hM hb (kj_J g 37 2 (g.2.2 37 2 + 1)) (mt _) (show 0 < 5 by decide) (eSJ_t _ _) (Or.inl ⟨rfl, rfl, rfl⟩)
        refine ⟨_, eSJ g 37 2 (g.2.2 37 2 + 1), g2, ?_, q1, q2⟩
        simp only [fX10_rate, fX10_rate_0, tO, tR, bis, b2s, cond_true, e1, if_neg one_ne0, if_pos (show nI 0 = 0 from rfl), c_asBolt hS hb]
      · obtain ⟨g2, q1, q2⟩ := rate_fin r hM hb (kj_J g 37 2 (g.2.2 37 2 + 11)) (mt _) (show 1 < 5 by decide) (eSJ_t _ _) (Or.inr (Or.inl ⟨rfl, rfl, rfl⟩))
        refine ⟨_, eSJ g 37 2 (g.2.2 37 2 + 11), g2, ?_, q1, q2⟩
        simp only [fX10_rate, fX10_rate_0, tO, tR, bis, b2s, cond_true, e1, if_neg one_ne0, if_neg (show ¬ nI 1 = 0 by decide), if_pos (show nI 1 = 1 from rfl), c_asLane hS hb]
      · obtain ⟨g2, q1, q2⟩ := rate_fin r hM hb (kj_J g 37 2 (g.2.2 37 2 + 101)) (mt _) (show 2 < 5 by decide) (eSJ_t _ _) (Or.inr (Or.inr (Or.inl ⟨rfl, rfl, rfl⟩)))
        refine ⟨_, eSJ g 37 2 (g.2.2 37 2 + 101), g2, ?_, q1, q2⟩
        simp only [fX10_rate, fX10_rate_0, tO, tR, bis, b2s, cond_true, e1, if_neg one_ne0, if_neg (show ¬ nI 2 = 0 by decide), if_neg (show ¬ nI 2 = 1 by decide), if_pos (show nI 2 = 2 from rfl), c_asToll hS hb]
      · obtain ⟨g2, q1, q2⟩ := rate_fin r hM hb (kj_J g 37 2 (g.2.2 37 2 + 1011)) (mt _) (show 3 < 5 by decide) (eSJ_t _ _) (Or.inr (Or.inr (Or.inr (Or.inl ⟨rfl, rfl, rfl⟩))))
        refine ⟨_, eSJ g 37 2 (g.2.2 37 2 + 1011), g2, ?_, q1, q2⟩
        simp only [fX10_rate, fX10_rate_0, tO, tR, bis, b2s, cond_true, e1, if_neg one_ne0, if_neg (show ¬ nI 3 = 0 by decide), if_neg (show ¬ nI 3 = 1 by decide), if_neg (show ¬ nI 3 = 2 by decide), if_pos (show nI 3 = 3 from rfl), c_asTrack hS hb]
      · obtain ⟨g2, q1, q2⟩ := rate_fin r hM hb (kj_J g 37 2 (g.2.2 37 2 + 10101)) (mt _) (show 4 < 5 by decide) (eSJ_t _ _) (Or.inr (Or.inr (Or.inr (Or.inr ⟨rfl, rfl, rfl⟩))))
        refine ⟨_, eSJ g 37 2 (g.2.2 37 2 + 10101), g2, ?_, q1, q2⟩
        simp only [fX10_rate, fX10_rate_0, tO, tR, bis, b2s, cond_true, e1, if_neg one_ne0, if_neg (show ¬ nI 4 = 0 by decide), if_neg (show ¬ nI 4 = 1 by decide), if_neg (show ¬ nI 4 = 2 by decide), if_neg (show ¬ nI 4 = 3 by decide), if_pos (show nI 4 = 4 from rfl), c_asMoth hS hb]
      · obtain ⟨h, q1, q2, q3, q4⟩ := c_asDream hS hb
        have hT : MS (eSI h 38 0 0) 43 d z := kj_MS (kj_tr q2 (kp_kj (kp_th h))) hM
        have hb4 : b < 4 := by omega
        have i1 : ∀ w, fX11_in (nI 5) 0 5 w = some (1, w) := fun w => m_inL (m := 5) (by omega) (by decide) w
        have i2 := q_isB hT.2.2.1 h4 hb
        have l1 := q_len a43 hT.2.2.1 hb4
        have l2 := q_end a43 hT hb
        have l3 := q_up hT hb
        have kk := kj_J (eSI h 38 0 0) 38 1 ((eSI h 38 0 0).2.2 38 1 + 100001)
        obtain ⟨h', p1, p2, p3⟩ := q_pieces a43 (kj_MS kk hT)
        refine ⟨nI (bl z b) + nI (pcs d (rdR d z) (rdD d z) (lK d)).1, h, h', ?_, ?_, kj_Rl (kj_tr q2 (kj_tr (kp_kj (kp_th h)) (kj_tr kk (kp_kj p2)))) r ?_⟩
        · simp only [fX10_rate, fX10_rate_0, tO, tR, bis, b2s, cond_true, e1, if_neg one_ne0, if_neg (show ¬ nI 5 = 0 by decide), if_neg (show ¬ nI 5 = 1 by decide), if_neg (show ¬ nI 5 = 2 by decide), if_neg (show ¬ nI 5 = 3 by decide), if_neg (show ¬ nI 5 = 4 by decide), if_pos (show nI 5 = 5 from rfl), q1]
        · simp only [fX11_rate, fX11_rate_0, fX11_rate_116, tO, tR, tP, tJ, tQ, bis, b2s, cond_true, i1, i2, l1, l2, l3, if_neg one_ne0, if_neg (show ¬ nI 5 = 0 by decide), if_neg (show ¬ nI 5 = 1 by decide), if_neg (show ¬ nI 5 = 2 by decide), if_neg (show ¬ nI 5 = 3 by decide), if_neg (show ¬ nI 5 = 4 by decide), p1]
        · have rj : g.2.2 37 2 = g.2.2 38 1 := r10
          rw [p2.2.2.2, eSJ_tm, eSJ_m, eSI_J, q3, q4, rj]
    · have hn : ¬ (x = 0 ∨ x = 1 ∨ x = 2 ∨ x = 3 ∨ x = 4 ∨ x = 5) := by
        rintro (rfl | rfl | rfl | rfl | rfl | rfl) <;> revert hx <;> decide
      refine ⟨-1000000, g, eSI g 38 0 0, ?_, ?_, kp_Rl (kp_th g) r⟩
      · simp only [fX10_rate, fX10_rate_0, tO, tR, bis, b2s, cond_true, e1, if_neg one_ne0, if_neg (fun q => hn (Or.inl q)), if_neg (fun q => hn (Or.inr (Or.inl q))), if_neg (fun q => hn (Or.inr (Or.inr (Or.inl q)))), if_neg (fun q => hn (Or.inr (Or.inr (Or.inr (Or.inl q))))), if_neg (fun q => hn (Or.inr (Or.inr (Or.inr (Or.inr (Or.inl q)))))), if_neg (fun q => hn (Or.inr (Or.inr (Or.inr (Or.inr (Or.inr q))))))]
      · have i1 : ∀ w, fX11_in x 0 5 w = some (0, w) := fun w => m_inLO (m := 5) hx (by decide) w
        simp only [fX11_rate, fX11_rate_0, tO, tP, bis, b2s, cond_true, i1, if_true]
  · refine ⟨-1000000, g, eSI g 38 0 0, ?_, ?_, kp_Rl (kp_th g) r⟩
    · simp only [fX10_rate, fX10_rate_0, tO, tR, bis, b2s, cond_true, c_hasNo b14 r2.2.2.2.1 hu, if_true]
    · by_cases hx : x < 0 ∨ nI 6 ≤ x
      · have i1 : ∀ w, fX11_in x 0 5 w = some (0, w) := fun w => m_inLO (m := 5) hx (by decide) w
        simp only [fX11_rate, fX11_rate_0, tO, tP, bis, b2s, cond_true, i1, if_true]
      · rcases inOr x (show 6 < 2 ^ 31 by decide) with ⟨k, hk, rfl⟩ | hx2
        · have i1 : ∀ w, fX11_in (nI k) 0 5 w = some (1, w) := fun w => m_inL (m := 5) (by omega) (by decide) w
          simp only [fX11_rate, fX11_rate_0, tO, tP, bis, b2s, cond_true, i1, if_neg one_ne0, q_isBNo (th_BZ r2.2.2.2.2.1) h4 hu, if_true]
        · exact absurd hx2 hx
