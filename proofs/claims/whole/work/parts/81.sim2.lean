/-! ===== land: both settle ===== -/
def stF (x : eS) : eS := eSA (eSA (eSI (eSI (eSA x 43 (upd (x.2.1 43) 0 0)) 38 3 0) 38 18 0) 46 (upd (x.2.1 46) 0 0)) 46 (upd (upd (x.2.1 46) 0 0) 1 0)
theorem q_settles {g : eS} {L : Lnd} (c : MT2 g L) (hd : okL L) : ∃ F G T, fX11_settles 38 (eE g) = some (eE (stF (eSA (eSA (eSA g 40 F) 42 G) 41 T))) ∧ (∀ j, j < 4 → F j = g.2.1 40 (4 + j)) ∧ (∀ j, j < 4 → G j = g.2.1 42 (4 + j)) ∧ (∀ j, j < 20 → T j = g.2.1 41 (20 + j)) := by
  have k43 : ∀ (fu k : Nat) (g : eS) (F : Nat → Int32), k ≤ 20 → 20 - k < fu → (∀ j, j < k → F j = g.2.1 41 (20 + j)) → (∀ j, 20 ≤ j → F j = g.2.1 41 j) → ∃ T, fX11_settles_43 fu 38 (nI k) (eE (eSA g 41 F)) = some (eE (stF (eSA g 41 T))) ∧ (∀ j, j < 20 → T j = g.2.1 41 (20 + j)) := by
    intro fu
    induction fu with
    | zero => intro k g F h1 h2; omega
    | succ fu ih =>
      intro k g F h1 h2 hF hG
      rw [fX11_settles_43]
      by_cases hk : k = 20
      · subst hk
        rw [if_pos (show (20 : Int32) ≤ nI 20 by decide)]
        have z0 := fun x : eS => stZ0 (m := 0) x (by decide)
        have z1 := fun x : eS => stZ0 (m := 1) x (by decide)
        rw [nI_0] at z0
        rw [show nI 1 = (1 : Int32) from rfl] at z1
        simp only [tR, tM, tP, bis, z0, z1]
        refine ⟨F, ?_, hF⟩
        unfold stF
        simp only [eSI_A, sAA, sAo _ _ (show (46 : Nat) ≠ 43 by decide)]
      · rw [if_neg (show ¬ (20 : Int32) ≤ nI k from nI_ge (a := k) (b := 20) (by omega) (by decide))]
        simp only [tR, bis]
        rw [show (20 : Int32) = nI 20 from rfl, nI_add, ld (n := 40) _ ar_41 (by decide) (by omega), bis, st (n := 40) _ ar_41 (by decide) (by omega), bis, eSA_same, sAA, nI_1]
        refine ih (k + 1) g _ (by omega) (by omega) (fun j hj => ?_) (fun j hj => ?_)
        · rw [upd_i]
          by_cases hjk : j = k
          · rw [if_pos hjk, hjk]; exact hG (20 + k) (by omega)
          · rw [if_neg hjk]; exact hF j (by omega)
        · rw [upd_i, if_neg (by omega)]; exact hG j hj
  have k2 : ∀ (fu k : Nat) (F G : Nat → Int32), k ≤ 4 → 4 - k < fu → (∀ j, j < k → F j = g.2.1 40 (4 + j)) → (∀ j, 4 ≤ j → F j = g.2.1 40 j) → (∀ j, j < k → G j = g.2.1 42 (4 + j)) → (∀ j, 4 ≤ j → G j = g.2.1 42 j) → ∃ F' G', fX11_settles_2 fu 38 (nI k) (eE (eSA (eSA g 40 F) 42 G)) = fX11_settles_43 eN 38 0 (eE (eSA (eSA g 40 F') 42 G')) ∧ (∀ j, j < 4 → F' j = g.2.1 40 (4 + j)) ∧ (∀ j, j < 4 → G' j = g.2.1 42 (4 + j)) := by
    intro fu
    induction fu with
    | zero => intro k F G h1 h2; omega
    | succ fu ih =>
      intro k F G h1 h2 f1 f2 g1' g2'
      rw [fX11_settles_2]
      by_cases hk : k = 4
      · subst hk
        rw [if_pos (show (4 : Int32) ≤ nI 4 by decide)]
        exact ⟨F, G, rfl, f1, g1'⟩
      · rw [if_neg (show ¬ (4 : Int32) ≤ nI k from nI_ge (a := k) (b := 4) (by omega) (by decide))]
        simp only [tR, bis]
        rw [show (4 : Int32) = nI 4 from rfl, nI_add, ld (n := 8) _ ar_40 (by decide) (by omega), bis, st (n := 8) _ ar_40 (by decide) (by omega), bis, eSA_comm _ (show (42 : Nat) ≠ 40 by decide), eSA_same, sAo _ _ (show (40 : Nat) ≠ 42 by decide), sAA]
        simp only [tR, bis]
        rw [ld (n := 8) _ ar_42 (by decide) (by omega), bis, st (n := 8) _ ar_42 (by decide) (by omega), bis, eSA_same, sAA, nI_1]
        refine ih (k + 1) _ _ (by omega) (by omega) (fun j hj => ?_) (fun j hj => ?_) (fun j hj => ?_) (fun j hj => ?_)
        · rw [upd_i]
          by_cases hjk : j = k
          · rw [if_pos hjk, hjk]; exact f2 (4 + k) (by omega)
          · rw [if_neg hjk]; exact f1 j (by omega)
        · rw [upd_i, if_neg (by omega)]; exact f2 j hj
        · rw [upd_i]
          by_cases hjk : j = k
          · rw [if_pos hjk, hjk]; exact g2' (4 + k) (by omega)
          · rw [if_neg hjk]; exact g1' j (by omega)
        · rw [upd_i, if_neg (by omega)]; exact g2' j hj
  obtain ⟨F, G, o1, o2, o3⟩ := k2 eN 0 (g.2.1 40) ((eSA g 40 (g.2.1 40)).2.1 42) (by omega) (by rw [eN_eq]; omega) (fun j hj => absurd hj (Nat.not_lt_zero _)) (fun _ _ => rfl) (fun j hj => absurd hj (Nat.not_lt_zero _)) (fun j _ => by rw [sAo _ _ (by decide)])
  rw [eSA_self, eSA_self, nI_0] at o1
  obtain ⟨T, p1, p2⟩ := k43 eN 0 (eSA (eSA g 40 F) 42 G) ((eSA (eSA g 40 F) 42 G).2.1 41) (by omega) (by rw [eN_eq]; omega) (fun j hj => absurd hj (Nat.not_lt_zero _)) (fun _ _ => rfl)
  rw [eSA_self, nI_0] at p1
  refine ⟨F, G, T, ?_, o2, o3, fun j hj => ?_⟩
  · rw [fX11_settles, tO38, cond_true, fX11_settles_0, o1]
    exact p1
  · rw [p2 j hj, sAo _ _ (by decide), sAo _ _ (by decide)]
/-! what stays behind a text with a fault -/
theorem rl_fail {g h k : eS} (r : Rl g) (a : Kc g h) (b : Km (eSI h 38 0 0) k) : Rl k := by
  have I : ∀ i j, i ≠ 6 → i ≠ 9 → ¬ (i = 38 ∧ (j = 0 ∨ 4 ≤ j ∧ j ≤ 8 ∨ j = 12)) → k.1 i j = g.1 i j := fun i j h1 h2 h3 => by
    rw [b.1 i j (by omega), eSI_ne _ _ (by omega), a.1 i j h1 h2]
  have I6 : k.1 6 1 = g.1 6 1 := by rw [b.1 6 1 (by omega), eSI_ne _ _ (by omega), a.2.1]
  have A : ∀ x, x ≠ 11 → x ≠ 13 → x ≠ 40 → x ≠ 41 → x ≠ 42 → k.2.1 x = g.2.1 x := fun x h1 h2 h3 h4 h5 => by
    rw [b.2.1 x h3 h4 h5, eSI_A, a.2.2.1 x h1 h2]
  have A40 : ∀ j, j < 4 → k.2.1 40 j = g.2.1 40 j := fun j hj => by rw [b.2.2.1 j hj, eSI_A, a.2.2.1 40 (by decide) (by decide)]
  have A41 : ∀ j, j < 20 → k.2.1 41 j = g.2.1 41 j := fun j hj => by rw [b.2.2.2.1 j hj, eSI_A, a.2.2.1 41 (by decide) (by decide)]
  have A42 : ∀ j, j < 4 → k.2.1 42 j = g.2.1 42 j := fun j hj => by rw [b.2.2.2.2.1 j hj, eSI_A, a.2.2.1 42 (by decide) (by decide)]
  have J : k.2.2 = g.2.2 := by rw [b.2.2.2.2.2, eSI_J, a.2.2.2]
  obtain ⟨n, tx, d, z, kn, nx, H, kp, Z, r1, ⟨r2, r3, r4, r5, r6, r7⟩, r8, r9, r10⟩ := r
  have hK := r4.2.2.2.1
  refine ⟨n, tx, d, z, kn, nx, H, kp, Z, ?_, ⟨?_, ?_, r4, ?_, ?_, r7⟩, ?_, ?_, ?_⟩
  · unfold RT at r1 ⊢
    rw [I6, I 38 3 (by decide) (by decide) (by omega), A 8 (by decide) (by decide) (by decide) (by decide) (by decide), A 39 (by decide) (by decide) (by decide) (by decide) (by decide)]
    exact r1
  · unfold CL at r2 ⊢
    rw [I 1 0 (by decide) (by decide) (by omega), I 1 1 (by decide) (by decide) (by omega), I 1 2 (by decide) (by decide) (by omega), I 1 3 (by decide) (by decide) (by omega), A 3 (by decide) (by decide) (by decide) (by decide) (by decide), A 5 (by decide) (by decide) (by decide) (by decide) (by decide)]
    exact r2
  · obtain ⟨m1, m2, m3, m4, m5, m6⟩ := r3
    exact ⟨(A40 0 (by decide)).trans m1, (A40 1 (by decide)).trans m2, (A40 3 (by decide)).trans m3, (A40 2 (by decide)).trans m4, fun c hc => (A41 c hc).trans (m5 c hc), fun j hj => (A42 j (by omega)).trans (m6 j hj)⟩
  · unfold BZ at r5 ⊢
    rw [A 16 (by decide) (by decide) (by decide) (by decide) (by decide)]
    exact r5
  · unfold BZ at r6 ⊢
    rw [A 43 (by decide) (by decide) (by decide) (by decide) (by decide)]
    exact r6
  · unfold RU at r8 ⊢
    rw [I 17 2 (by decide) (by decide) (by omega), I 17 3 (by decide) (by decide) (by omega), I 38 18 (by decide) (by decide) (by omega), A 19 (by decide) (by decide) (by decide) (by decide) (by decide), A 47 (by decide) (by decide) (by decide) (by decide) (by decide)]
    exact r8
  · unfold RM at r9 ⊢
    rw [I 0 5 (by decide) (by decide) (by omega), A 46 (by decide) (by decide) (by decide) (by decide) (by decide), A 21 (by decide) (by decide) (by decide) (by decide) (by decide), A 45 (by decide) (by decide) (by decide) (by decide) (by decide)]
    exact r9
  · unfold RJ at r10 ⊢
    rw [J]
    exact r10
theorem neg10 : ∀ x : Fin 201, ¬ (0 : Int32) ≤ -10 - nI x.val := by decide +kernel
/-- the class's state once a land has been told -/
def ldG (h : eS) : eS := eSI (eSI (eSA (eSI h 6 1 0) 16 (upd (h.2.1 16) 0 0)) 17 3 0) 0 5 0
theorem ldG_I (h : eS) {i j : Nat} (q : ¬ (i = 6 ∧ j = 1) ∧ ¬ (i = 17 ∧ j = 3) ∧ ¬ (i = 0 ∧ j = 5)) : (ldG h).1 i j = h.1 i j := by
  unfold ldG
  rw [eSI_ne _ _ q.2.2, eSI_ne _ _ q.2.1, eSA_I, eSI_ne _ _ q.1]
theorem ldG_A (h : eS) {a : Nat} (q : a ≠ 16) : (ldG h).2.1 a = h.2.1 a := by
  unfold ldG
  rw [eSI_A, eSI_A, sAo _ _ q, eSI_A]
theorem rl_done {g h1 h2 k : eS} {L : Lnd} {F G T : Nat → Int32} (r : Rl g) (a : Kc g h1) (b : B1 h1 h2) (hL : CL h2 1 3 5 L) (hd : okL L) (km : Km (eSI (ldG h2) 38 0 0) k) (mt : MT2 k L) (f1 : ∀ j, j < 4 → F j = k.2.1 40 (4 + j)) (f2 : ∀ j, j < 4 → G j = k.2.1 42 (4 + j)) (f3 : ∀ j, j < 20 → T j = k.2.1 41 (20 + j)) : Rl (stF (eSA (eSA (eSA k 40 F) 42 G) 41 T)) := by
  have kI : ∀ i j, i ≠ 6 → i ≠ 9 → i ≠ 1 → ¬ (i = 38 ∧ (j = 0 ∨ 4 ≤ j ∧ j ≤ 8 ∨ j = 12)) → ¬ (i = 17 ∧ j = 3) → ¬ (i = 0 ∧ j = 5) → k.1 i j = g.1 i j := fun i j q1 q2 q3 q4 q5 q6 => by
    rw [km.1 i j (by omega), eSI_ne _ _ (by omega), ldG_I h2 ⟨by omega, q5, q6⟩, b.1 i j q3, a.1 i j q1 q2]
  have kA : ∀ x, x ≠ 11 → x ≠ 13 → x ≠ 40 → x ≠ 41 → x ≠ 42 → x ≠ 3 → x ≠ 5 → x ≠ 16 → k.2.1 x = g.2.1 x := fun x q1 q2 q3 q4 q5 q6 q7 q8 => by
    rw [km.2.1 x q3 q4 q5, eSI_A, ldG_A h2 q8, b.2.1 x q6 q7, a.2.2.1 x q1 q2]
  have kJ : k.2.2 = g.2.2 := by rw [km.2.2.2.2.2, eSI_J]; unfold ldG; rw [eSI_J, eSI_J, eSA_J, eSI_J, b.2.2, a.2.2.2]
  have sI : ∀ i j, ¬ (i = 38 ∧ (j = 3 ∨ j = 18)) → (stF (eSA (eSA (eSA k 40 F) 42 G) 41 T)).1 i j = k.1 i j := fun i j q => by
    unfold stF
    rw [eSA_I, eSA_I, eSI_ne _ _ (by omega), eSI_ne _ _ (by omega), eSA_I, eSA_I, eSA_I, eSA_I]
  have sA : ∀ x, x ≠ 43 → x ≠ 46 → x ≠ 40 → x ≠ 41 → x ≠ 42 → (stF (eSA (eSA (eSA k 40 F) 42 G) 41 T)).2.1 x = k.2.1 x := fun x q1 q2 q3 q4 q5 => by
    unfold stF
    rw [sAo _ _ q2, sAo _ _ q2, eSI_A, eSI_A, sAo _ _ q1, sAo _ _ q4, sAo _ _ q5, sAo _ _ q3]
  have s40 : (stF (eSA (eSA (eSA k 40 F) 42 G) 41 T)).2.1 40 = F := by
    unfold stF
    rw [sAo _ _ (by decide), sAo _ _ (by decide), eSI_A, eSI_A, sAo _ _ (by decide), sAo _ _ (by decide), sAo _ _ (by decide), sAA]
  have s41 : (stF (eSA (eSA (eSA k 40 F) 42 G) 41 T)).2.1 41 = T := by
    unfold stF
    rw [sAo _ _ (by decide), sAo _ _ (by decide), eSI_A, eSI_A, sAo _ _ (by decide), sAA]
  have s42 : (stF (eSA (eSA (eSA k 40 F) 42 G) 41 T)).2.1 42 = G := by
    unfold stF
    rw [sAo _ _ (by decide), sAo _ _ (by decide), eSI_A, eSI_A, sAo _ _ (by decide), sAo _ _ (by decide), sAA]
  have s43 : (stF (eSA (eSA (eSA k 40 F) 42 G) 41 T)).2.1 43 = upd (k.2.1 43) 0 0 := by
    unfold stF
    rw [sAo _ _ (by decide), sAo _ _ (by decide), eSI_A, eSI_A, sAA, sAo _ _ (by decide), sAo _ _ (by decide), sAo _ _ (by decide)]
  have s46 : ∀ m, m < 2 → (stF (eSA (eSA (eSA k 40 F) 42 G) 41 T)).2.1 46 m = 0 := fun m hm => by
    unfold stF
    rw [sAA, upd_i]
    by_cases h1 : m = 1
    · rw [if_pos h1]
    · rw [if_neg h1, upd_i, if_pos (by omega)]
  have s3 : (stF (eSA (eSA (eSA k 40 F) 42 G) 41 T)).1 38 3 = 0 := by
    unfold stF
    rw [eSA_I, eSA_I, eSI_ne _ _ (by omega), eSI_at]
  have s18 : (stF (eSA (eSA (eSA k 40 F) 42 G) 41 T)).1 38 18 = 0 := by
    unfold stF
    rw [eSA_I, eSA_I, eSI_at]
  have sJ : (stF (eSA (eSA (eSA k 40 F) 42 G) 41 T)).2.2 = k.2.2 := rfl
  have k1 : ∀ j, k.1 1 j = h2.1 1 j := fun j => by rw [km.1 1 j (by omega), eSI_ne _ _ (by omega), ldG_I h2 (by omega)]
  have kx : ∀ x, x ≠ 40 → x ≠ 41 → x ≠ 42 → x ≠ 16 → k.2.1 x = h2.2.1 x := fun x q1 q2 q3 q4 => by rw [km.2.1 x q1 q2 q3, eSI_A, ldG_A h2 q4]
  have k16 : k.2.1 16 = upd (g.2.1 16) 0 0 := by
    rw [km.2.1 16 (by decide) (by decide) (by decide), eSI_A]
    unfold ldG
    rw [eSI_A, eSI_A, sAA, b.2.1 16 (by decide) (by decide), a.2.2.1 16 (by decide) (by decide)]
  have k61 : k.1 6 1 = 0 := by
    rw [km.1 6 1 (by omega), eSI_ne _ _ (by omega)]
    unfold ldG
    rw [eSI_ne _ _ (by omega), eSI_ne _ _ (by omega), eSA_I, eSI_at]
  have k173 : k.1 17 3 = 0 := by
    rw [km.1 17 3 (by omega), eSI_ne _ _ (by omega)]
    unfold ldG
    rw [eSI_ne _ _ (by omega), eSI_at]
  have k05 : k.1 0 5 = 0 := by
    rw [km.1 0 5 (by omega), eSI_ne _ _ (by omega)]
    unfold ldG
    rw [eSI_at]
  obtain ⟨n, tx, d, z, kn, nx, H, kp, Z, r1, ⟨r2, r3, r4, r5, r6, r7⟩, r8, r9, r10⟩ := r
  have hK := hd.2.2.2.1
  refine ⟨0, tx, L, fun i => if i = 0 then 0 else z i, 0, nx, H, 0, Z, ?_, ⟨?_, ?_, hd, ?_, ?_, ?_⟩, ?_, ?_, ?_⟩
  · refine ⟨?_, ?_, Nat.zero_le _, fun i hi => absurd hi (Nat.not_lt_zero _)⟩
    · rw [sI 6 1 (by omega), k61]; rfl
    · rw [s3]; rfl
  · unfold CL at hL ⊢
    rw [sI 1 0 (by omega), sI 1 1 (by omega), sI 1 2 (by omega), sI 1 3 (by omega), k1, k1, k1, k1, sA 3 (by decide) (by decide) (by decide) (by decide) (by decide), sA 5 (by decide) (by decide) (by decide) (by decide) (by decide), kx 3 (by decide) (by decide) (by decide) (by decide), kx 5 (by decide) (by decide) (by decide) (by decide)]
    exact hL
  · obtain ⟨m1, m2, m3, m4, m5, m6⟩ := mt
    unfold ML
    rw [s40, s41, s42]
    exact ⟨(f1 0 (by decide)).trans m1, (f1 1 (by decide)).trans m2, (f1 3 (by decide)).trans m3, (f1 2 (by decide)).trans m4, fun c hc => (f3 c hc).trans (m5 c hc), fun j hj => (f2 j (by omega)).trans (m6 j hj)⟩
  · intro i hi
    rw [sA 16 (by decide) (by decide) (by decide) (by decide) (by decide), k16, upd_i]
    dsimp only
    by_cases h0 : i = 0
    · rw [if_pos h0, if_pos h0]; rfl
    · rw [if_neg h0, if_neg h0]; exact r5 i hi
  · intro i hi
    rw [s43, kA 43 (by decide) (by decide) (by decide) (by decide) (by decide) (by decide) (by decide) (by decide), upd_i]
    dsimp only
    by_cases h0 : i = 0
    · rw [if_pos h0, if_pos h0]; rfl
    · rw [if_neg h0, if_neg h0]; exact r6 i hi
  · exact ⟨Nat.zero_le _, fun b hb => absurd hb (Nat.not_lt_zero _)⟩
  · refine ⟨Nat.zero_le _, r8.2.1, ?_, ?_, ?_, fun j hj => absurd hj (Nat.not_lt_zero _)⟩
    · rw [sI 17 2 (by omega), kI 17 2 (by decide) (by decide) (by decide) (by omega) (by omega) (by omega)]; exact r8.2.2.1
    · rw [sI 17 3 (by omega), k173]; rfl
    · rw [s18]; rfl
  · refine ⟨by decide, ?_, fun m hm => ⟨?_, fun q => ?_⟩⟩
    · rw [sI 0 5 (by omega), k05]; rfl
    · rw [s46 m hm, Nat.zero_testBit]; rfl
    · rw [Nat.zero_testBit] at q; cases q
  · unfold RJ at r10 ⊢
    rw [sJ, kJ]
    exact r10
theorem sim2 : Sim2 Rl := by
  intro g r
  obtain ⟨n, tx, d, z, kn, nx, H, kp, Z, r1, r2, r8, r9, r10⟩ := id r
  have tc : TXc g n tx := ⟨r1.1, r1.2.2.1, fun i hi => ⟨(r1.2.2.2 i hi).1, (r1.2.2.2 i hi).2.1⟩⟩
  have tm : TXm g n tx := ⟨r1.2.1, r1.2.2.1, fun i hi => ⟨(r1.2.2.2 i hi).1, (r1.2.2.2 i hi).2.2⟩⟩
  obtain ⟨h1, o1, o2, o3, o4⟩ := c_read tc
  cases hp : pLoop n tx eN 0 0 L0 false with
  | inl x =>
    rw [hp] at o1 o3 o4
    have hx := o4 x rfl
    have tm1 : TXm h1 n tx := by
      unfold TXm at tm ⊢
      rw [o2.1 38 3 (by decide) (by decide), o2.2.2.1 39 (by decide) (by decide)]
      exact tm
    obtain ⟨k, w1, w2, w3⟩ := m_land tm1
    rw [hp] at w1
    refine ⟨-10 - nI x, h1, k, ?_, w1, rl_fail r o2 w2⟩
    have hn := neg10 ⟨x, by omega⟩
    rw [show rV (.inl x) = -10 - nI x from rfl] at o1
    rw [fX10_land, (tO g).1, cond_true, fX10_land_0]
    simp only [tR, bis, o1, b2s]
    rw [if_neg hn]
  | inr rr =>
    obtain ⟨it, L⟩ := rr
    rw [hp] at o1 o3 o4
    obtain ⟨c1, c2, c3⟩ := o3 _ rfl
    dsimp only at c1 c2 c3
    obtain ⟨h2, b1, b2, b3⟩ := c_become c1 c2
    have tm1 : TXm (ldG h2) n tx := by
      unfold TXm at tm ⊢
      rw [ldG_I h2 (by omega), ldG_A h2 (by decide), b2.1 38 3 (by decide), b2.2.1 39 (by decide) (by decide), o2.1 38 3 (by decide) (by decide), o2.2.2.1 39 (by decide) (by decide)]
      exact tm
    obtain ⟨k, w1, w2, w3⟩ := m_land tm1
    rw [hp] at w1
    have mt := w3 _ hp
    dsimp only at mt
    obtain ⟨F, G, T, s1, s2, s3, s4⟩ := q_settles mt c2
    refine ⟨nI it, ldG h2, stF (eSA (eSA (eSA k 40 F) 42 G) 41 T), ?_, ?_, rl_done r o2 b2 b3 c2 w2 mt s2 s3 s4⟩
    · rw [show rV (.inr (it, L)) = nI it from rfl] at o1
      have e1 : fX2_told 6 (eE h1) = some (9, eE h1) := by rw [fX2_told, (tO h1).2.2.2.2.1, cond_true, fX2_told_0]; simp only [tR, bis]
      have e2 : fX2_empty 6 (eE h2) = some (eE (eSI h2 6 1 0)) := by rw [fX2_empty, (tO h2).2.2.2.2.1, cond_true, fX2_empty_0]; simp only [tP, bis]
      have e3 : fX0_removeAll 14 (eE (eSI h2 6 1 0)) = some (eE (eSA (eSI h2 6 1 0) 16 (upd (h2.2.1 16) 0 0))) := by
        simp only [fX0_removeAll, fX0_removeAll_0, tO, tR, bis, cond_true, row_put0 r15 (eSI h2 6 1 0) (show 0 < 57 by decide) 0, eSI_A]
      have e4 : fX4_forget 17 (eE (eSA (eSI h2 6 1 0) 16 (upd (h2.2.1 16) 0 0))) = some (eE (eSI (eSA (eSI h2 6 1 0) 16 (upd (h2.2.1 16) 0 0)) 17 3 0)) := by
        simp only [fX4_forget, fX4_forget_0, tO, tP, bis, cond_true]
      rw [fX10_land, (tO g).1, cond_true, fX10_land_0]
      simp only [tR, bis, o1, b2s]
      rw [if_pos (show (0 : Int32) ≤ nI it from nI_le (a := 0) (by omega) (by omega))]
      simp only [tR, tP, bis, b2s, e1, b1, e2, e3, e4]
      rfl
    · rw [w1]
      show ((fX11_settles 38 (eE k)).bind fun w3 => some (nI it, w3)) = _
      rw [s1, bis]
/-! ===== the start ===== -/
set_option maxRecDepth 100000 in
theorem g0_I : (g_0.1 6 1 = 0 ∧ g_0.1 38 3 = 0 ∧ g_0.1 1 0 = 3 ∧ g_0.1 1 1 = 2 ∧ g_0.1 1 2 = 9 ∧ g_0.1 1 3 = 0) ∧ (g_0.1 17 2 = 0 ∧ g_0.1 17 3 = 0 ∧ g_0.1 38 18 = 0 ∧ g_0.1 0 5 = 0 ∧ g_0.2.2 37 2 = g_0.2.2 38 1) := by decide +kernel
set_option maxRecDepth 100000 in
theorem g0_A : (g_0.2.1 40 0 = 3 ∧ g_0.2.1 40 1 = 2 ∧ g_0.2.1 40 2 = 0 ∧ g_0.2.1 40 3 = 9 ∧ g_0.2.1 46 0 = 0 ∧ g_0.2.1 46 1 = 0) ∧ (∀ c : Fin 20, g_0.2.1 3 c.val = 0 ∧ g_0.2.1 41 c.val = 0) := by decide +kernel
set_option maxRecDepth 100000 in
theorem g0_B : ∀ i : Fin 57, g_0.2.1 16 i.val = 0 ∧ g_0.2.1 43 i.val = 0 := by decide +kernel
theorem Rl_0 : Rl g_0 := by
  obtain ⟨⟨a1, a2, a3, a4, a5, a6⟩, b1, b2, b3, b4, b5⟩ := g0_I
  obtain ⟨⟨c1, c2, c3, c4, c5, c6⟩, c7⟩ := g0_A
  refine ⟨0, fun _ => 0, L0, fun _ => 0, 0, 0, fun _ _ => 0, 0, fun _ _ => 0, ⟨a1, a2, Nat.zero_le _, fun i hi => absurd hi (Nat.not_lt_zero _)⟩, ⟨⟨a3, a4, a5, a6, fun c hc => (c7 ⟨c, hc⟩).1, fun j hj => absurd hj (Nat.not_lt_zero _)⟩, ⟨c1, c2, c4, c3, fun c hc => (c7 ⟨c, hc⟩).2, fun j hj => absurd hj (Nat.not_lt_zero _)⟩, ok_L0, fun i hi => (g0_B ⟨i, hi⟩).1, fun i hi => (g0_B ⟨i, hi⟩).2, Nat.zero_le _, fun b hb => absurd hb (Nat.not_lt_zero _)⟩, ⟨Nat.zero_le _, by decide, b1, b2, b3, fun j hj => absurd hj (Nat.not_lt_zero _)⟩, ⟨by decide, b4, fun m hm => ⟨?_, fun q => ?_⟩⟩, b5⟩
  · rw [Nat.zero_testBit]
    rcases (show m = 0 ∨ m = 1 by omega) with rfl | rfl
    · exact c5
    · exact c6
  · rw [Nat.zero_testBit] at q; cases q
theorem simA : SimA Rl := ⟨sim0, sim1, sim2, sim3, sim4, sim5, sim6, sim7, sim8, sim9, sim10, sim11, sim12, sim13, sim14, sim15, sim16, sim17, sim18, sim19, sim20, sim21, sim22, sim23, sim24, sim25⟩
