/-! ===== rate ===== -/
theorem eSJ_same (g : eS) (o k : Nat) (v v' : Int64) : eSJ (eSJ g o k v) o k v' = eSJ g o k v' := by
  unfold eSJ
  refine Prod.ext rfl (Prod.ext rfl ?_)
  funext i j
  dsimp only
  by_cases h : i = o ∧ j = k
  · rw [if_pos h, if_pos h]
  · rw [if_neg h, if_neg h, if_neg h]
theorem rl_J {h : eS} {J : Nat → Nat → Int64} (r : Rl (h.1, h.2.1, J)) (e : h.2.2 37 2 = h.2.2 38 1) : Rl h := by
  obtain ⟨n, tx, d, z, kn, nx, H, kp, Z, r1, r2, r8, r9, r10⟩ := r
  exact ⟨n, tx, d, z, kn, nx, H, kp, Z, r1, r2, r8, r9, e⟩
/-- as Kp, the traces aside -/
def KJ (g h : eS) : Prop := Kp g (h.1, h.2.1, g.2.2)
theorem kj_Rl {g h : eS} (k : KJ g h) (r : Rl g) (e : h.2.2 37 2 = h.2.2 38 1) : Rl h := rl_J (kp_Rl k r) e
theorem kp_kj {g h : eS} (k : Kp g h) : KJ g h := ⟨k.1, k.2.1, k.2.2.1, rfl⟩
theorem kj_tr {g h k : eS} (a : KJ g h) (b : KJ h k) : KJ g k := by
  have b' : Kp (h.1, h.2.1, g.2.2) (k.1, k.2.1, g.2.2) := ⟨b.1, b.2.1, b.2.2.1, rfl⟩
  exact kp_tr a b'
theorem kj_J (g : eS) (o k : Nat) (v : Int64) : KJ g (eSJ g o k v) := ⟨⟨fun _ => rfl, rfl, rfl, rfl, rfl, rfl, rfl⟩, ⟨rfl, rfl, rfl, rfl, rfl, rfl⟩, ⟨rfl, rfl, rfl, rfl, rfl, rfl, rfl, rfl⟩, rfl⟩
theorem kj_CL {g h : eS} (k : KJ g h) {d : Lnd} (c : CL g 1 3 5 d) : CL h 1 3 5 d := kp_CL k c
theorem kj_ML {g h : eS} (k : KJ g h) {d : Lnd} (c : ML g d) : ML h d := kp_ML k c
theorem kj_MS {g h : eS} (k : KJ g h) {d : Lnd} {z : Nat → Nat} (c : MS g 43 d z) : MS h 43 d z := kp_MS k c
theorem kj_CS {g h : eS} (k : KJ g h) {d : Lnd} {z : Nat → Nat} (c : CS g 16 d z) : CS h 16 d z := by
  refine ⟨kj_CL k c.1, c.2.1, ?_, c.2.2.2⟩
  have := c.2.2.1
  unfold BZ at this ⊢
  have e : h.2.1 16 = g.2.1 16 := k.2.1.2.2.2.1
  rw [e]
  exact this
theorem eSJ_t (g : eS) (v : Int64) : (eSJ g 37 2 v).2.2 37 2 = v := by rw [eSJ_r, if_pos ⟨rfl, rfl⟩]
theorem eSJ_m (g : eS) (v : Int64) : (eSJ g 38 1 v).2.2 38 1 = v := by rw [eSJ_r, if_pos ⟨rfl, rfl⟩]
theorem eSJ_tm (g : eS) (v : Int64) : (eSJ g 38 1 v).2.2 37 2 = g.2.2 37 2 := by rw [eSJ_r, if_neg (by decide)]
theorem eSJ_mt (g : eS) (v : Int64) : (eSJ g 37 2 v).2.2 38 1 = g.2.2 38 1 := by rw [eSJ_r, if_neg (by decide)]
section RATE
variable {g : eS} {d : Lnd} {z : Nat → Nat} {b : Nat}
theorem c_asBolt (hS : CS g 16 d z) (hb : b < z 0) : fX5_asBolt 37 (nI b) (eE g) = some (nI (bl z b), eE (eSJ g 37 2 (g.2.2 37 2 + 1))) := by
  have hb4 : b < 4 := by have := hS.2.2.2.1; omega
  have l := c_len b14 (kj_CS (kj_J g 37 2 (g.2.2 37 2 + 1)) hS).2.2.1 hb4
  simp only [fX5_asBolt, fX5_asBolt_0, tO, tR, tJ, tQ, bis, cond_true, l, b2s]
theorem c_asLane (hS : CS g 16 d z) (hb : b < z 0) : fX5_asLane 37 (nI b) (eE g) = some (nI (bl z b) + nI (cb d z b (bl z b)), eE (eSJ g 37 2 (g.2.2 37 2 + 11))) := by
  have a := c_asBolt (kj_CS (kj_J g 37 2 (g.2.2 37 2 + 10)) hS) hb
  rw [eSJ_same, eSJ_t, Int64.add_assoc, show (10 : Int64) + 1 = 11 by decide] at a
  have l := c_last b14 (kj_CS (kj_J g 37 2 (g.2.2 37 2 + 11)) hS) hb
  simp only [fX5_asLane, fX5_asLane_0, tO, tR, tJ, tQ, bis, cond_true, a, l, b2s]
theorem c_asToll (hS : CS g 16 d z) (hb : b < z 0) : fX5_asToll 37 (nI b) (eE g) = some (nI (bl z b) - nI (upS d z b (bl z b)), eE (eSJ g 37 2 (g.2.2 37 2 + 101))) := by
  have a := c_asBolt (kj_CS (kj_J g 37 2 (g.2.2 37 2 + 100)) hS) hb
  rw [eSJ_same, eSJ_t, Int64.add_assoc, show (100 : Int64) + 1 = 101 by decide] at a
  have l := c_climb b14 (kj_CS (kj_J g 37 2 (g.2.2 37 2 + 101)) hS) hb
  simp only [fX5_asToll, fX5_asToll_0, tO, tR, tJ, tQ, bis, cond_true, a, l, b2s]
theorem c_asTrack (hS : CS g 16 d z) (hb : b < z 0) : fX5_asTrack 37 (nI b) (eE g) = some (2 * (nI (bl z b) + nI (cb d z b (bl z b))), eE (eSJ g 37 2 (g.2.2 37 2 + 1011))) := by
  have a := c_asLane (kj_CS (kj_J g 37 2 (g.2.2 37 2 + 1000)) hS) hb
  rw [eSJ_same, eSJ_t, Int64.add_assoc, show (1000 : Int64) + 11 = 1011 by decide] at a
  simp only [fX5_asTrack, fX5_asTrack_0, tO, tR, tJ, tQ, bis, cond_true, a, b2s]
theorem c_asMoth (hS : CS g 16 d z) (hb : b < z 0) : fX5_asMoth 37 (nI b) (eE g) = some (nI (bl z b) - nI (upS d z b (bl z b)) + nI b, eE (eSJ g 37 2 (g.2.2 37 2 + 10101))) := by
  have a := c_asToll (kj_CS (kj_J g 37 2 (g.2.2 37 2 + 10000)) hS) hb
  rw [eSJ_same, eSJ_t, Int64.add_assoc, show (10000 : Int64) + 101 = 10101 by decide] at a
  simp only [fX5_asMoth, fX5_asMoth_0, tO, tR, tJ, tQ, bis, cond_true, a, b2s]
theorem c_asDream (hS : CS g 16 d z) (hb : b < z 0) : ∃ h, fX5_asDream 37 (nI b) (eE g) = some (nI (bl z b) + nI (pcs d (rdR d z) (rdD d z) (lK d)).1, eE h) ∧ KJ g h ∧ h.2.2 37 2 = g.2.2 37 2 + 100001 ∧ h.2.2 38 1 = g.2.2 38 1 := by
  have hS1 := kj_CS (kj_J g 37 2 (g.2.2 37 2 + 100000)) hS
  have l := c_lay R22 b14 hS1
  have k2 := kp_kj (kp_rd R22 (eSJ g 37 2 (g.2.2 37 2 + 100000)) (rdR d z) (rdD d z))
  have hS2 := kj_CS k2 hS1
  have a := c_asBolt hS2 hb
  have hJ : (rdS (eSJ g 37 2 (g.2.2 37 2 + 100000)) 22 (rdR d z) (rdD d z)).2.2 37 2 = g.2.2 37 2 + 100000 := by rw [rdS_J, eSJ_t]
  rw [hJ, Int64.add_assoc, show (100000 : Int64) + 1 = 100001 by decide] at a
  have k3 := kj_J (rdS (eSJ g 37 2 (g.2.2 37 2 + 100000)) 22 (rdR d z) (rdD d z)) 37 2 (g.2.2 37 2 + 100001)
  have p := c_pieces R22 (kj_CL k3 hS2.1) hS.2.1 (rd_ok hS.2.1 hS.2.2.2) (show (eSJ (rdS (eSJ g 37 2 (g.2.2 37 2 + 100000)) 22 (rdR d z) (rdD d z)) 37 2 (g.2.2 37 2 + 100001)).1 22 1 = nI (rdR d z) from by rw [eSJ_I, rdS_1]) (by rw [eSJ_I, rdS_2])
  refine ⟨_, ?_, kj_tr (kj_J g 37 2 _) (kj_tr k2 k3), eSJ_t _ _, ?_⟩
  · simp only [fX5_asDream, fX5_asDream_0, tO, tR, tJ, tQ, bis, cond_true, l, a, p, b2s]
  · rw [eSJ_mt, rdS_J, eSJ_mt]
end RATE
