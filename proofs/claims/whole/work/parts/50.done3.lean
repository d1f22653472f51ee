/-! ===== undo, keep, back, turnAbout ===== -/
theorem q_undo {g : eS} {kn : Nat} (h0 : 0 < kn) (h1 : kn ≤ 10) (h4 : g.1 38 18 = nI kn) : fX11_undo 38 (eE g) = some (nI (kn - 1), eE (eSA (eSI (eSI g 38 0 0) 38 18 (nI (kn - 1))) 43 (cpF (g.2.1 43) (g.2.1 47) ((kn - 1) * 57) 57))) := by
  have f1 : (eSI g 38 0 0).1 38 18 = nI kn := by rw [eSI_r, if_neg (by decide)]; exact h4
  have f2 : nI kn - 1 = nI (kn - 1) := by rw [show (1 : Int32) = nI 1 from rfl, pk_sub h0]
  generalize hm : kn - 1 = m at f2 ⊢
  have key : ∀ (fu k : Nat), k ≤ 57 → 57 - k < fu → fX11_undo_27 fu 38 (nI k) (eE (eSA (eSI (eSI g 38 0 0) 38 18 (nI m)) 43 (cpF (g.2.1 43) (g.2.1 47) (m * 57) k))) = some (nI m, eE (eSA (eSI (eSI g 38 0 0) 38 18 (nI m)) 43 (cpF (g.2.1 43) (g.2.1 47) (m * 57) 57))) := by
    intro fu
    induction fu with
    | zero => intro k h1 h2; omega
    | succ fu ih =>
      intro k hk1 hk2
      have f3 : (eSA (eSI (eSI g 38 0 0) 38 18 (nI m)) 43 (cpF (g.2.1 43) (g.2.1 47) (m * 57) k)).1 38 18 = nI m := by rw [eSA_I, eSI_r, if_pos ⟨rfl, rfl⟩]
      by_cases hk : k = 57
      · subst hk
        simp only [fX11_undo_27, if_pos (show (57 : Int32) ≤ nI 57 by decide), tI, bis, f3]
      · have e1 := ld (n := 570) (i := m * 57 + k) (a := 47) (eSA (eSI (eSI g 38 0 0) 38 18 (nI m)) 43 (cpF (g.2.1 43) (g.2.1 47) (m * 57) k)) rfl (by decide) (by omega)
        have e2 := fun x => st (n := 57) (i := k) (a := 43) (eSA (eSI (eSI g 38 0 0) 38 18 (nI m)) 43 (cpF (g.2.1 43) (g.2.1 47) (m * 57) k)) rfl (by decide) (by omega) x
        simp only [fX11_undo_27, if_neg (show ¬ (57 : Int32) ≤ nI k from nI_ge (a := k) (b := 57) (by omega) (by decide)), tR, tI, bis, f3, mul57', e1, e2, nI_1]
        simp only [eSA_r, eSI_A, show ((47 : Nat) = 43) = False by simp, if_false, if_true, eSA_same, cpF_s]
        exact ih (k + 1) (by omega) (by omega)
  have := key eN 0 (by omega) (by rw [eN_eq]; omega)
  rw [cpF_0] at this
  have e5 : eSA (eSI (eSI g 38 0 0) 38 18 (nI m)) 43 (g.2.1 43) = eSI (eSI g 38 0 0) 38 18 (nI m) := by
    have := eSA_self (eSI (eSI g 38 0 0) 38 18 (nI m)) 43
    simp only [eSI_A] at this
    exact this
  rw [e5, nI_0] at this
  simp only [fX11_undo, fX11_undo_0, tO, tI, tP, bis, cond_true, f1, if_neg (nI_ne0 h0 (show kn < 2 ^ 31 by omega)), f2, this]
theorem sim13 : Sim13 Rl := by
  intro g r
  obtain ⟨n, tx, d, z, kn, nx, H, kp, Z, r1, r2, r8, r9, r10⟩ := id r
  obtain ⟨u1, u2, u3, u4, u5, u6⟩ := id r8
  by_cases h0 : kn = 0
  · subst h0
    refine ⟨-2, g, eSI g 38 0 0, ?_, ?_, kp_Rl (kp_th g) r⟩
    · simp only [fX10_undo, fX10_undo_0, fX4_takeBack, fX4_takeBack_0, tO, tR, tI, bis, b2s, cond_true, u4, nI_0, if_true, eZ_0]
    · have f1 : (eSI g 38 0 0).1 38 18 = 0 := by rw [eSI_r, if_neg (by decide), u5, nI_0]
      simp only [fX11_undo, fX11_undo_0, tO, tI, tP, bis, cond_true, f1, if_true]
  · have hk : 0 < kn := by omega
    have e1 := c_takeBack hk u1 u2 u3 u4
    have e2 : fX4_known 17 (eE (backG g kn nx)) = some (nI (kn - 1), eE (backG g kn nx)) := by
      simp only [fX4_known, fX4_known_0, tO, tI, bis, cond_true]
      simp only [backG, eSA_I, eSI_r, and_self, if_true]
    have e3 := q_undo (g := backG g kn nx) hk u1 (by simp only [backG, eSA_I, eSI_r]; simpa using u5)
    have eA : ∀ a, a ≠ 16 → (backG g kn nx).2.1 a = g.2.1 a := fun a ha => by simp only [backG, eSA_r, if_neg ha, eSI_A]
    obtain ⟨v1, v2⟩ := u6 (kn - 1) (by omega)
    have hz16 : ∀ i, i < 57 → (backG g kn nx).2.1 16 i = nI (H (kn - 1) i) := fun i hi => by
      have h1 := (v2 i hi).1
      have h2 : (nx + 10 - kn + (kn - 1)) % 10 = (nx + 9) % 10 := by omega
      rw [h2] at h1
      simp only [backG, eSA_r, if_true]
      rw [cpF_in hi]
      exact h1
    have hz43 : ∀ i, i < 57 → cpF ((backG g kn nx).2.1 43) ((backG g kn nx).2.1 47) ((kn - 1) * 57) 57 i = nI (H (kn - 1) i) := fun i hi => by
      rw [cpF_in hi, eA 47 (by decide)]
      exact (v2 i hi).2
    have I1 : ∀ o k, ¬ o = 17 → (backG g kn nx).1 o k = g.1 o k := fun o k ho => by simp only [backG, eSA_I, eSI_r, ho, false_and, if_false]
    refine ⟨nI (kn - 1), backG g kn nx, _, ?_, e3, ?_⟩
    · simp only [fX10_undo, fX10_undo_0, tO, tR, bis, b2s, cond_true, e1, if_neg one_ne0, e2]
    · generalize hQ : eSA (eSI (eSI (backG g kn nx) 38 0 0) 38 18 (nI (kn - 1))) 43 (cpF ((backG g kn nx).2.1 43) ((backG g kn nx).2.1 47) ((kn - 1) * 57) 57) = Q
      have QI : ∀ o k, ¬ o = 17 → ¬ (o = 38 ∧ k = 0) → ¬ (o = 38 ∧ k = 18) → Q.1 o k = g.1 o k := fun o k a1 a2 a3 => by
        rw [← hQ, eSA_I, eSI_r, if_neg a3, eSI_r, if_neg a2, I1 o k a1]
      have QA : ∀ a, a ≠ 16 → a ≠ 43 → Q.2.1 a = g.2.1 a := fun a a1 a2 => by
        rw [← hQ, eSA_r, if_neg a2, eSI_A, eSI_A, eA a a1]
      have Q16 : Q.2.1 16 = (backG g kn nx).2.1 16 := by rw [← hQ, eSA_r, if_neg (by decide), eSI_A, eSI_A]
      have Q43 : Q.2.1 43 = cpF ((backG g kn nx).2.1 43) ((backG g kn nx).2.1 47) ((kn - 1) * 57) 57 := by rw [← hQ, eSA_r, if_pos rfl]
      have QJ : Q.2.2 = g.2.2 := by rw [← hQ, eSA_J, eSI_J, eSI_J]; simp only [backG, eSA_J, eSI_J]
      refine ⟨n, tx, d, H (kn - 1), kn - 1, (nx + 9) % 10, H, kp, Z, ?_, ⟨?_, ?_, r2.2.2.1, ?_, ?_, v1⟩, ?_, ?_, ?_⟩
      · unfold RT at r1 ⊢
        rw [QI 6 1 (by decide) (by decide) (by decide), QI 38 3 (by decide) (by decide) (by decide), QA 8 (by decide) (by decide), QA 39 (by decide) (by decide)]
        exact r1
      · have := r2.1
        unfold CL at this ⊢
        rw [QI 1 0 (by decide) (by decide) (by decide), QI 1 1 (by decide) (by decide) (by decide), QI 1 2 (by decide) (by decide) (by decide), QI 1 3 (by decide) (by decide) (by decide), QA 3 (by decide) (by decide), QA 5 (by decide) (by decide)]
        exact this
      · have := r2.2.1
        unfold ML at this ⊢
        rw [QA 40 (by decide) (by decide), QA 41 (by decide) (by decide), QA 42 (by decide) (by decide)]
        exact this
      · intro i hi; rw [Q16]; exact hz16 i hi
      · intro i hi; rw [Q43]; exact hz43 i hi
      · have w1 : Q.1 17 2 = nI ((nx + 9) % 10) := by rw [← hQ, eSA_I, eSI_r, if_neg (by decide), eSI_r, if_neg (by decide)]; simp only [backG, eSA_I, eSI_r]; simp
        have w2 : Q.1 17 3 = nI (kn - 1) := by rw [← hQ, eSA_I, eSI_r, if_neg (by decide), eSI_r, if_neg (by decide)]; simp only [backG, eSA_I, eSI_r]; simp
        have w3 : Q.1 38 18 = nI (kn - 1) := by rw [← hQ, eSA_I, eSI_r, if_pos ⟨rfl, rfl⟩]
        refine ⟨by omega, by omega, w1, w2, w3, fun j hj => ?_⟩
        obtain ⟨x1, x2⟩ := u6 j (by omega)
        refine ⟨x1, fun i hi => ?_⟩
        rw [QA 19 (by decide) (by decide), QA 47 (by decide) (by decide), show ((nx + 9) % 10 + 10 - (kn - 1) + j) % 10 = (nx + 10 - kn + j) % 10 by omega]
        exact x2 i hi
      · unfold RM at r9 ⊢
        rw [QI 0 5 (by decide) (by decide) (by decide), QA 46 (by decide) (by decide), QA 21 (by decide) (by decide), QA 45 (by decide) (by decide)]
        exact r9
      · unfold RJ at r10 ⊢
        rw [QJ]
        exact r10
/-! images -/
theorem c_isImage {k : Nat} (h : k < 2) (w : eW) : fX10_isImage (nI k) w = some (1, w) := by
  rw [fX10_isImage, fX10_isImage_0, if_neg (nI_pos (by omega)), if_neg (show ¬ (2 : Int32) ≤ nI k from nI_ge (a := k) (b := 2) h (by decide)), eZ_1, bis]
theorem c_isImageO {x : Int32} (h : x < 0 ∨ nI 2 ≤ x) (w : eW) : fX10_isImage x w = some (0, w) := by
  rw [fX10_isImage, fX10_isImage_0, fX10_isImage_13, eZ_0]
  by_cases h0 : x < 0
  · rw [if_pos h0, bis]
  · rw [if_neg h0, if_pos (show (2 : Int32) ≤ x from h.resolve_left h0), bis]
theorem stZ {m : Nat} (g : eS) (hm : m < 2) : eSt (eE g) true 46 (nI m) 1 = some (eE (eSA g 46 (upd (g.2.1 46) m 1))) := by
  unfold eE
  rw [eM_St (b := true) (n := 2) g rfl, if_pos (nI_inR hm (by decide)), nI_cl (by omega)]
  rfl
theorem q_keep {g : eS} {m : Nat} (hm : m < 2) : fX11_keep 38 (nI m) (eE g) = some (g.2.1 43 0, eE (eSA (eSA (eSI g 38 0 0) 45 (cpT (g.2.1 45) (g.2.1 43) (m * 57) 57)) 46 (upd (g.2.1 46) m 1))) := by
  have key : ∀ (fu k : Nat), k ≤ 57 → 57 - k < fu → fX11_keep_18 fu 38 (nI m) (nI k) (eE (eSA (eSI g 38 0 0) 45 (cpT (g.2.1 45) (g.2.1 43) (m * 57) k))) = some (g.2.1 43 0, eE (eSA (eSA (eSI g 38 0 0) 45 (cpT (g.2.1 45) (g.2.1 43) (m * 57) 57)) 46 (upd (g.2.1 46) m 1))) := by
    intro fu
    induction fu with
    | zero => intro k h1 h2; omega
    | succ fu ih =>
      intro k hk1 hk2
      by_cases hk : k = 57
      · subst hk
        have e0 := stZ (eSA (eSI g 38 0 0) 45 (cpT (g.2.1 45) (g.2.1 43) (m * 57) 57)) hm
        simp only [fX11_keep_18, if_pos (show (57 : Int32) ≤ nI 57 by decide), tR, bis, e0, tK]
        simp only [eSA_r, eSI_A, show ((43 : Nat) = 46) = False by simp, show ((43 : Nat) = 45) = False by simp, show ((46 : Nat) = 45) = False by simp, if_false]
      · have e1 := ld (n := 57) (i := k) (a := 43) (eSA (eSI g 38 0 0) 45 (cpT (g.2.1 45) (g.2.1 43) (m * 57) k)) rfl (by decide) (by omega)
        have e2 := fun x => st (n := 114) (i := m * 57 + k) (a := 45) (eSA (eSI g 38 0 0) 45 (cpT (g.2.1 45) (g.2.1 43) (m * 57) k)) rfl (by decide) (by omega) x
        simp only [fX11_keep_18, if_neg (show ¬ (57 : Int32) ≤ nI k from nI_ge (a := k) (b := 57) (by omega) (by decide)), tR, bis, e1, mul57', e2, nI_1]
        simp only [eSA_r, eSI_A, show ((43 : Nat) = 45) = False by simp, if_false, if_true, eSA_same, cpT_s]
        exact ih (k + 1) (by omega) (by omega)
  have := key eN 0 (by omega) (by rw [eN_eq]; omega)
  rw [cpT_0] at this
  have e5 : eSA (eSI g 38 0 0) 45 (g.2.1 45) = eSI g 38 0 0 := by
    have := eSA_self (eSI g 38 0 0) 45
    simp only [eSI_A] at this
    exact this
  rw [e5] at this
  have e3 : ∀ w, fX11_in (nI m) 0 1 w = some (1, w) := fun w => m_inL (m := 1) (by omega) (by decide) w
  simp only [fX11_keep, fX11_keep_0, tO, tP, bis, b2s, cond_true, e3, if_neg one_ne0]
  exact this
theorem kp_fin : ∀ (a : Fin 4) (m j : Fin 2), (a.val ||| 2 ^ m.val).testBit j.val = (decide (m = j) || a.val.testBit j.val) ∧ a.val ||| 2 ^ m.val < 4 := by decide +kernel
theorem sim22 : Sim22 Rl := by
  intro g r x
  obtain ⟨n, tx, d, z, kn, nx, H, kp, Z, r1, r2, r8, r9, r10⟩ := id r
  obtain ⟨k1, k2, k3⟩ := id r9
  rcases inOr x (show 2 < 2 ^ 31 by decide) with ⟨m, hm, rfl⟩ | hx
  · have e1 := c_copyTo (g := g) (s := m) b14 r20 (by decide) (by omega)
    have f1 : (eSA g 21 (cpT (g.2.1 21) (g.2.1 16) (m * 57) 57)).1 0 5 = nI kp := k2
    have z1 : BZ (eSI (eSA g 21 (cpT (g.2.1 21) (g.2.1 16) (m * 57) 57)) 0 5 (nI (kp ||| 2 ^ m))) 16 z := r2.2.2.2.1
    have e2 := c_size b14 z1
    have e3 := q_keep (g := eSI (eSA g 21 (cpT (g.2.1 21) (g.2.1 16) (m * 57) 57)) 0 5 (nI (kp ||| 2 ^ m))) hm
    have kf := fun j (hj : j < 2) => kp_fin ⟨kp, k1⟩ ⟨m, hm⟩ ⟨j, hj⟩
    have e4 : (eSI (eSA g 21 (cpT (g.2.1 21) (g.2.1 16) (m * 57) 57)) 0 5 (nI (kp ||| 2 ^ m))).2.1 43 0 = nI (z 0) := r2.2.2.2.2.1 0 (by decide)
    rw [e4] at e3
    refine ⟨nI (z 0), _, _, ?_, e3, ?_⟩
    · simp only [fX10_keep, fX10_keep_0, tO, tR, tI, tP, bis, b2s, cond_true, c_isImage hm, if_neg one_ne0, e1, f1, m_bit, bit_nI m (by omega), nI_or, e2]
    · generalize hQ : eSA (eSA (eSI (eSI (eSA g 21 (cpT (g.2.1 21) (g.2.1 16) (m * 57) 57)) 0 5 (nI (kp ||| 2 ^ m))) 38 0 0) 45 (cpT ((eSI (eSA g 21 (cpT (g.2.1 21) (g.2.1 16) (m * 57) 57)) 0 5 (nI (kp ||| 2 ^ m))).2.1 45) ((eSI (eSA g 21 (cpT (g.2.1 21) (g.2.1 16) (m * 57) 57)) 0 5 (nI (kp ||| 2 ^ m))).2.1 43) (m * 57) 57)) 46 (upd ((eSI (eSA g 21 (cpT (g.2.1 21) (g.2.1 16) (m * 57) 57)) 0 5 (nI (kp ||| 2 ^ m))).2.1 46) m 1) = Q
      have QI : ∀ o k, ¬ (o = 38 ∧ k = 0) → ¬ (o = 0 ∧ k = 5) → Q.1 o k = g.1 o k := fun o k a1 a2 => by
        rw [← hQ, eSA_I, eSA_I, eSI_r, if_neg a1, eSI_r, if_neg a2, eSA_I]
      have QA : ∀ a, a ≠ 21 → a ≠ 45 → a ≠ 46 → Q.2.1 a = g.2.1 a := fun a a1 a2 a3 => by
        rw [← hQ, eSA_r, if_neg a3, eSA_r, if_neg a2, eSI_A, eSI_A, eSA_r, if_neg a1]
      have Q21 : Q.2.1 21 = cpT (g.2.1 21) (g.2.1 16) (m * 57) 57 := by rw [← hQ, eSA_r, if_neg (by decide), eSA_r, if_neg (by decide), eSI_A, eSI_A, eSA_r, if_pos rfl]
      have Q45 : Q.2.1 45 = cpT (g.2.1 45) (g.2.1 43) (m * 57) 57 := by rw [← hQ, eSA_r, if_neg (by decide), eSA_r, if_pos rfl, eSI_A, eSA_r, if_neg (by decide), eSA_r, if_neg (by decide)]
      have Q46 : Q.2.1 46 = upd (g.2.1 46) m 1 := by rw [← hQ, eSA_r, if_pos rfl, eSI_A, eSA_r, if_neg (by decide)]
      have Q05 : Q.1 0 5 = nI (kp ||| 2 ^ m) := by rw [← hQ, eSA_I, eSA_I, eSI_r, if_neg (by decide), eSI_r, if_pos ⟨rfl, rfl⟩]
      have QJ : Q.2.2 = g.2.2 := by rw [← hQ, eSA_J, eSA_J, eSI_J, eSI_J, eSA_J]
      refine ⟨n, tx, d, z, kn, nx, H, kp ||| 2 ^ m, fun j => if j = m then z else Z j, ?_, ⟨?_, ?_, r2.2.2.1, ?_, ?_, r2.2.2.2.2.2⟩, ?_, ?_, ?_⟩
      · unfold RT at r1 ⊢
        rw [QI 6 1 (by decide) (by decide), QI 38 3 (by decide) (by decide), QA 8 (by decide) (by decide) (by decide), QA 39 (by decide) (by decide) (by decide)]
        exact r1
      · have := r2.1
        unfold CL at this ⊢
        rw [QI 1 0 (by decide) (by decide), QI 1 1 (by decide) (by decide), QI 1 2 (by decide) (by decide), QI 1 3 (by decide) (by decide), QA 3 (by decide) (by decide) (by decide), QA 5 (by decide) (by decide) (by decide)]
        exact this
      · have := r2.2.1
        unfold ML at this ⊢
        rw [QA 40 (by decide) (by decide) (by decide), QA 41 (by decide) (by decide) (by decide), QA 42 (by decide) (by decide) (by decide)]
        exact this
      · intro i hi; rw [QA 16 (by decide) (by decide) (by decide)]; exact r2.2.2.2.1 i hi
      · intro i hi; rw [QA 43 (by decide) (by decide) (by decide)]; exact r2.2.2.2.2.1 i hi
      · exact ru_cong (QI 17 2 (by decide) (by decide)) (QI 17 3 (by decide) (by decide)) (QI 38 18 (by decide) (by decide)) (QA 19 (by decide) (by decide) (by decide)) (QA 47 (by decide) (by decide) (by decide)) r8
      · refine ⟨(kf 0 (by decide)).2, Q05, fun j hj => ?_⟩
        have kj := (kf j hj).1
        dsimp only at kj
        rw [Q46, Q21, Q45, kj]
        by_cases hjm : j = m
        · subst hjm
          rw [pk_us]
          simp only [decide_true, Bool.true_or, if_true]
          refine ⟨trivial, fun _ => ⟨r2.2.2.2.2.2, fun i hi => ?_⟩⟩
          rw [cpT_in hi, cpT_in hi]
          exact ⟨r2.2.2.2.1 i hi, r2.2.2.2.2.1 i hi⟩
        · obtain ⟨y1, y2⟩ := k3 j hj
          have hne : decide ((⟨m, hm⟩ : Fin 2) = ⟨j, hj⟩) = false := by simp; omega
          rw [pk_un hjm, hne, Bool.false_or]
          refine ⟨y1, fun hb => ?_⟩
          obtain ⟨y3, y4⟩ := y2 hb
          simp only [if_neg hjm]
          refine ⟨y3, fun i hi => ?_⟩
          rw [cpT_out (by omega), cpT_out (by omega)]
          exact y4 i hi
      · unfold RJ at r10 ⊢
        rw [QJ]
        exact r10
  · have e3 : ∀ w, fX11_in x 0 1 w = some (0, w) := fun w => m_inLO (m := 1) hx (by decide) w
    refine ⟨-1, g, eSI g 38 0 0, ?_, ?_, kp_Rl (kp_th g) r⟩
    · simp only [fX10_keep, fX10_keep_0, tO, b2s, cond_true, c_isImageO hx, if_true]
    · simp only [fX11_keep, fX11_keep_0, tO, tP, bis, b2s, cond_true, e3, if_true]
theorem q_back {g : eS} {m : Nat} (hm : m < 2) : fX11_back_30 eN 38 (nI m) 0 (eE (eSI g 38 0 0)) = some (g.2.1 45 (m * 57), eE (eSI (eSA (eSI g 38 0 0) 43 (cpF (g.2.1 43) (g.2.1 45) (m * 57) 57)) 38 18 0)) := by
  have key : ∀ (fu k : Nat), k ≤ 57 → 57 - k < fu → fX11_back_30 fu 38 (nI m) (nI k) (eE (eSA (eSI g 38 0 0) 43 (cpF (g.2.1 43) (g.2.1 45) (m * 57) k))) = some (g.2.1 45 (m * 57), eE (eSI (eSA (eSI g 38 0 0) 43 (cpF (g.2.1 43) (g.2.1 45) (m * 57) 57)) 38 18 0)) := by
    intro fu
    induction fu with
    | zero => intro k h1 h2; omega
    | succ fu ih =>
      intro k hk1 hk2
      by_cases hk : k = 57
      · subst hk
        simp only [fX11_back_30, if_pos (show (57 : Int32) ≤ nI 57 by decide), tR, tP, bis, tK]
        simp only [eSI_A, eSA_r, if_true]
        rw [cpF_in (by decide), Nat.add_zero]
      · have e1 := ld (n := 114) (i := m * 57 + k) (a := 45) (eSA (eSI g 38 0 0) 43 (cpF (g.2.1 43) (g.2.1 45) (m * 57) k)) rfl (by decide) (by omega)
        have e2 := fun x => st (n := 57) (i := k) (a := 43) (eSA (eSI g 38 0 0) 43 (cpF (g.2.1 43) (g.2.1 45) (m * 57) k)) rfl (by decide) (by omega) x
        simp only [fX11_back_30, if_neg (show ¬ (57 : Int32) ≤ nI k from nI_ge (a := k) (b := 57) (by omega) (by decide)), tR, bis, e1, mul57', e2, nI_1]
        simp only [eSA_r, eSI_A, show ((45 : Nat) = 43) = False by simp, if_false, if_true, eSA_same, cpF_s]
        exact ih (k + 1) (by omega) (by omega)
  have := key eN 0 (by omega) (by rw [eN_eq]; omega)
  rw [cpF_0] at this
  have e5 : eSA (eSI g 38 0 0) 43 (g.2.1 43) = eSI g 38 0 0 := by
    have := eSA_self (eSI g 38 0 0) 43
    simp only [eSI_A] at this
    exact this
  rw [e5] at this
  exact this
theorem sim23 : Sim23 Rl := by
  intro g r x
  obtain ⟨n, tx, d, z, kn, nx, H, kp, Z, r1, r2, r8, r9, r10⟩ := id r
  obtain ⟨k1, k2, k3⟩ := id r9
  rcases inOr x (show 2 < 2 ^ 31 by decide) with ⟨m, hm, rfl⟩ | hx
  · have e3 : ∀ w, fX11_in (nI m) 0 1 w = some (1, w) := fun w => m_inL (m := 1) (by omega) (by decide) w
    obtain ⟨y1, y2⟩ := k3 m hm
    have e4 : ∀ h : eS, h.2.1 46 m = g.2.1 46 m → eLd (eE h) true 46 (nI m) = some (if kp.testBit m then 1 else 0) := fun h hh => by
      rw [ld (n := 2) h rfl (by decide) hm, hh, y1]
    cases hb : kp.testBit m with
    | false =>
      have e5 := e4 (eSI g 38 0 0) rfl
      rw [hb] at e5
      refine ⟨-2, g, eSI g 38 0 0, ?_, ?_, kp_Rl (kp_th g) r⟩
      · simp only [fX10_back, fX10_back_0, tO, tI, bis, b2s, cond_true, c_isImage hm, if_neg one_ne0, k2, m_bit, bit_nI m (by omega), if_pos ((and_bit (show kp < 2 ^ 31 by omega)).mpr hb)]
      · simp only [fX11_back, fX11_back_0, tO, tR, tP, bis, b2s, cond_true, e3, if_neg one_ne0, e5, show (if false = true then (1 : Int32) else 0) = 0 from rfl, if_true]
    | true =>
      obtain ⟨y3, y4⟩ := y2 hb
      have nb0 : ¬ nI kp &&& nI (2 ^ m) = 0 := fun q => by rw [(and_bit (show kp < 2 ^ 31 by omega)).mp q] at hb; cases hb
      have e1 := c_copyFrom (g := g) (s := m) b14 r20 (by decide) (by omega)
      have z1 : BZ (eSI (eSA g 16 (cpF (g.2.1 16) (g.2.1 21) (m * 57) 57)) 17 3 0) 16 (Z m) := by
        intro i hi
        rw [eSI_A, eSA_r, if_pos rfl, cpF_in hi]
        exact (y4 i hi).1
      have e2 := c_size b14 z1
      have e5 := e4 (eSI (eSI (eSA g 16 (cpF (g.2.1 16) (g.2.1 21) (m * 57) 57)) 17 3 0) 38 0 0) (by rw [eSI_A, eSI_A, eSA_r, if_neg (by decide)])
      rw [hb] at e5
      have e6 := q_back (g := eSI (eSA g 16 (cpF (g.2.1 16) (g.2.1 21) (m * 57) 57)) 17 3 0) hm
      have e7 : (eSI (eSA g 16 (cpF (g.2.1 16) (g.2.1 21) (m * 57) 57)) 17 3 0).2.1 45 (m * 57) = nI (Z m 0) := by
        rw [eSI_A, eSA_r, if_neg (by decide)]
        exact (y4 0 (by decide)).2
      rw [e7] at e6
      refine ⟨nI (Z m 0), eSI (eSA g 16 (cpF (g.2.1 16) (g.2.1 21) (m * 57) 57)) 17 3 0, eSI (eSA (eSI (eSI (eSA g 16 (cpF (g.2.1 16) (g.2.1 21) (m * 57) 57)) 17 3 0) 38 0 0) 43 (cpF ((eSI (eSA g 16 (cpF (g.2.1 16) (g.2.1 21) (m * 57) 57)) 17 3 0).2.1 43) ((eSI (eSA g 16 (cpF (g.2.1 16) (g.2.1 21) (m * 57) 57)) 17 3 0).2.1 45) (m * 57) 57)) 38 18 0, ?_, ?_, ?_⟩
      rotate_left
      · simp only [fX11_back, fX11_back_0, tO, tR, tP, bis, b2s, cond_true, e3, if_neg one_ne0, e5, show (if true = true then (1 : Int32) else 0) = 1 from rfl]
        exact e6
      · generalize hQ : eSI (eSA (eSI (eSI (eSA g 16 (cpF (g.2.1 16) (g.2.1 21) (m * 57) 57)) 17 3 0) 38 0 0) 43 (cpF ((eSI (eSA g 16 (cpF (g.2.1 16) (g.2.1 21) (m * 57) 57)) 17 3 0).2.1 43) ((eSI (eSA g 16 (cpF (g.2.1 16) (g.2.1 21) (m * 57) 57)) 17 3 0).2.1 45) (m * 57) 57)) 38 18 0 = Q
        have QI : ∀ o k, ¬ (o = 38 ∧ k = 0) → ¬ (o = 38 ∧ k = 18) → ¬ (o = 17 ∧ k = 3) → Q.1 o k = g.1 o k := fun o k a1 a2 a3 => by
          rw [← hQ, eSI_r, if_neg a2, eSA_I, eSI_r, if_neg a1, eSI_r, if_neg a3, eSA_I]
        have QA : ∀ a, a ≠ 16 → a ≠ 43 → Q.2.1 a = g.2.1 a := fun a a1 a2 => by
          rw [← hQ, eSI_A, eSA_r, if_neg a2, eSI_A, eSI_A, eSA_r, if_neg a1]
        have Q16 : Q.2.1 16 = cpF (g.2.1 16) (g.2.1 21) (m * 57) 57 := by rw [← hQ, eSI_A, eSA_r, if_neg (by decide), eSI_A, eSI_A, eSA_r, if_pos rfl]
        have Q43 : Q.2.1 43 = cpF (g.2.1 43) (g.2.1 45) (m * 57) 57 := by rw [← hQ, eSI_A, eSA_r, if_pos rfl, eSI_A, eSA_r, if_neg (by decide), eSA_r, if_neg (by decide)]
        have QJ : Q.2.2 = g.2.2 := by rw [← hQ, eSI_J, eSA_J, eSI_J, eSI_J, eSA_J]
        refine ⟨n, tx, d, Z m, 0, nx, H, kp, Z, ?_, ⟨?_, ?_, r2.2.2.1, ?_, ?_, y3⟩, ?_, ?_, ?_⟩
        · unfold RT at r1 ⊢
          rw [QI 6 1 (by decide) (by decide) (by decide), QI 38 3 (by decide) (by decide) (by decide), QA 8 (by decide) (by decide), QA 39 (by decide) (by decide)]
          exact r1
        · have := r2.1
          unfold CL at this ⊢
          rw [QI 1 0 (by decide) (by decide) (by decide), QI 1 1 (by decide) (by decide) (by decide), QI 1 2 (by decide) (by decide) (by decide), QI 1 3 (by decide) (by decide) (by decide), QA 3 (by decide) (by decide), QA 5 (by decide) (by decide)]
          exact this
        · have := r2.2.1
          unfold ML at this ⊢
          rw [QA 40 (by decide) (by decide), QA 41 (by decide) (by decide), QA 42 (by decide) (by decide)]
          exact this
        · intro i hi; rw [Q16, cpF_in hi]; exact (y4 i hi).1
        · intro i hi; rw [Q43, cpF_in hi]; exact (y4 i hi).2
        · refine ⟨by omega, r8.2.1, ?_, ?_, ?_, fun j hj => by omega⟩
          · rw [QI 17 2 (by decide) (by decide) (by decide)]; exact r8.2.2.1
          · rw [← hQ, eSI_r, if_neg (by decide), eSA_I, eSI_r, if_neg (by decide), eSI_r, if_pos ⟨rfl, rfl⟩, nI_0]
          · rw [← hQ, eSI_r, if_pos ⟨rfl, rfl⟩, nI_0]
        · unfold RM at r9 ⊢
          rw [QI 0 5 (by decide) (by decide) (by decide), QA 46 (by decide) (by decide), QA 21 (by decide) (by decide), QA 45 (by decide) (by decide)]
          exact r9
        · unfold RJ at r10 ⊢
          rw [QJ]
          exact r10
      · simp only [fX10_back, fX10_back_0, tO, tR, tI, bis, b2s, cond_true, c_isImage hm, if_neg one_ne0, k2, m_bit, bit_nI m (by omega), if_neg nb0, e1, fX4_forget, fX4_forget_0, tP, e2]
  · have e3 : ∀ w, fX11_in x 0 1 w = some (0, w) := fun w => m_inLO (m := 1) hx (by decide) w
    refine ⟨-1, g, eSI g 38 0 0, ?_, ?_, kp_Rl (kp_th g) r⟩
    · simp only [fX10_back, fX10_back_0, tO, b2s, cond_true, c_isImageO hx, if_true]
    · simp only [fX11_back, fX11_back_0, tO, tP, bis, b2s, cond_true, e3, if_true]
