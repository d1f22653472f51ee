/-! ===== what is done, on both sides ===== -/
theorem noteG_I (h : eS) (kn o k : Nat) (hne : ¬ (o = 38 ∧ k = 18)) : (noteG h kn).1 o k = h.1 o k := by
  unfold noteG
  split <;> simp only [eSI_r, if_neg hne, eSA_I]
theorem noteG_A (h : eS) (kn a : Nat) (hne : ¬ a = 47) : (noteG h kn).2.1 a = h.2.1 a := by
  unfold noteG
  split <;> simp only [eSI_A, eSA_r, if_neg hne]
theorem noteG_J (h : eS) (kn : Nat) : (noteG h kn).2.2 = h.2.2 := by
  unfold noteG
  split <;> rfl
theorem noteG_n (h : eS) {kn : Nat} (hk : kn ≤ 10) : (noteG h kn).1 38 18 = nI (min (kn + 1) 10) := by
  unfold noteG
  by_cases h1 : kn = 10
  · rw [if_pos h1, h1]; simp [eSI_r]
  · rw [if_neg h1, show min (kn + 1) 10 = kn + 1 by omega]; simp [eSI_r]
theorem noteG_47 (h h' : eS) (kn : Nat) (e1 : h.2.1 47 = h'.2.1 47) (e2 : h.2.1 43 = h'.2.1 43) : (noteG h kn).2.1 47 = (noteG h' kn).2.1 47 := by
  unfold noteG
  split <;> simp only [eSI_A, eSA_r, if_true, e1, e2]
theorem pastG_I (h : eS) (kn nx o k : Nat) (hne : ¬ o = 17) : (pastG h kn nx).1 o k = h.1 o k := by
  unfold pastG
  simp only [eSI_r, hne, false_and, if_false, eSA_I]
theorem pastG_A (h : eS) (kn nx a : Nat) (hne : ¬ a = 19) : (pastG h kn nx).2.1 a = h.2.1 a := by
  unfold pastG
  simp only [eSI_A, eSA_r, if_neg hne]
theorem pastG_J (h : eS) (kn nx : Nat) : (pastG h kn nx).2.2 = h.2.2 := rfl
theorem ru_cong {g h : eS} {d : Lnd} {kn nx : Nat} {H : Nat → Nat → Nat} (e1 : h.1 17 2 = g.1 17 2) (e2 : h.1 17 3 = g.1 17 3) (e3 : h.1 38 18 = g.1 38 18) (e4 : h.2.1 19 = g.2.1 19) (e5 : h.2.1 47 = g.2.1 47) (r : RU g d kn nx H) : RU h d kn nx H := by
  unfold RU at r ⊢
  rw [e1, e2, e3, e4, e5]
  exact r
def doneG (g : eS) (kn nx : Nat) (F1 F2 : Nat → Int32) : eS := eSA (noteG (eSI (eSA (pastG g kn nx) 16 F1) 38 0 0) kn) 43 F2
theorem done_Rl {g : eS} {n : Nat} {tx : Nat → Nat} {d : Lnd} {z z' : Nat → Nat} {kn nx : Nat} {H : Nat → Nat → Nat} {kp : Nat} {Z : Nat → Nat → Nat} (r1 : RT g n tx) (r2 : RB g d z) (r3 : RU g d kn nx H) (r4 : RM g d kp Z) (r5 : RJ g) {F1 F2 : Nat → Int32} (h1 : ∀ i, i < 57 → F1 i = nI (z' i)) (h2 : ∀ i, i < 57 → F2 i = nI (z' i)) (ho : okB d z') : Rl (doneG g kn nx F1 F2) := by
  have hk := r3.1
  have I1 : ∀ o k, ¬ (o = 38 ∧ k = 18) → ¬ o = 17 → ¬ (o = 38 ∧ k = 0) → (doneG g kn nx F1 F2).1 o k = g.1 o k := by
    intro o k a1 a2 a3
    unfold doneG
    rw [eSA_I, noteG_I _ _ _ _ a1, eSI_r, if_neg a3, eSA_I, pastG_I _ _ _ _ _ a2]
  have A1 : ∀ a, ¬ a = 43 → ¬ a = 47 → ¬ a = 16 → ¬ a = 19 → (doneG g kn nx F1 F2).2.1 a = g.2.1 a := by
    intro a a1 a2 a3 a4
    unfold doneG
    rw [eSA_r, if_neg a1, noteG_A _ _ _ a2, eSI_A, eSA_r, if_neg a3, pastG_A _ _ _ _ a4]
  have ru := ru_push r3 r2
  refine ⟨n, tx, d, z', min (kn + 1) 10, (nx + 1) % 10, pushH H kn z, kp, Z, ?_, ⟨?_, ?_, r2.2.2.1, ?_, ?_, ho⟩, ?_, ?_, ?_⟩
  · unfold RT at r1 ⊢
    rw [I1 6 1 (by decide) (by decide) (by decide), I1 38 3 (by decide) (by decide) (by decide), A1 8 (by decide) (by decide) (by decide) (by decide), A1 39 (by decide) (by decide) (by decide) (by decide)]
    exact r1
  · have := r2.1
    unfold CL at this ⊢
    rw [I1 1 0 (by decide) (by decide) (by decide), I1 1 1 (by decide) (by decide) (by decide), I1 1 2 (by decide) (by decide) (by decide), I1 1 3 (by decide) (by decide) (by decide), A1 3 (by decide) (by decide) (by decide) (by decide), A1 5 (by decide) (by decide) (by decide) (by decide)]
    exact this
  · have := r2.2.1
    unfold ML at this ⊢
    rw [A1 40 (by decide) (by decide) (by decide) (by decide), A1 41 (by decide) (by decide) (by decide) (by decide), A1 42 (by decide) (by decide) (by decide) (by decide)]
    exact this
  · intro i hi
    have : (doneG g kn nx F1 F2).2.1 16 = F1 := by
      unfold doneG
      rw [eSA_r, if_neg (by decide), noteG_A _ _ _ (by decide), eSI_A, eSA_r, if_pos rfl]
    rw [this]
    exact h1 i hi
  · intro i hi
    have : (doneG g kn nx F1 F2).2.1 43 = F2 := by
      unfold doneG
      rw [eSA_r, if_pos rfl]
    rw [this]
    exact h2 i hi
  · refine ru_cong ?_ ?_ ?_ ?_ ?_ ru
    · unfold doneG
      rw [eSA_I, noteG_I _ _ _ _ (by decide), noteG_I _ _ _ _ (by decide), eSI_r, if_neg (by decide), eSA_I]
    · unfold doneG
      rw [eSA_I, noteG_I _ _ _ _ (by decide), noteG_I _ _ _ _ (by decide), eSI_r, if_neg (by decide), eSA_I]
    · unfold doneG
      rw [eSA_I, noteG_n _ hk, noteG_n _ hk]
    · unfold doneG
      rw [eSA_r, if_neg (by decide), noteG_A _ _ _ (by decide), noteG_A _ _ _ (by decide), eSI_A, eSA_r, if_neg (by decide)]
    · unfold doneG
      rw [eSA_r, if_neg (by decide)]
      refine noteG_47 _ _ _ ?_ ?_
      · rw [eSI_A, eSA_r, if_neg (by decide)]
      · rw [eSI_A, eSA_r, if_neg (by decide)]
  · unfold RM at r4 ⊢
    rw [I1 0 5 (by decide) (by decide) (by decide), A1 46 (by decide) (by decide) (by decide) (by decide), A1 21 (by decide) (by decide) (by decide) (by decide), A1 45 (by decide) (by decide) (by decide) (by decide)]
    exact r4
  · have : (doneG g kn nx F1 F2).2.2 = g.2.2 := by unfold doneG; rw [eSA_J, noteG_J, eSI_J, eSA_J, pastG_J]
    unfold RJ at r5 ⊢
    rw [this]
    exact r5
/-- what the model reads behind the class's part and its own notes -/
theorem note_BZ {g : eS} {kn nx : Nat} {F1 : Nat → Int32} {z : Nat → Nat} (h : BZ g 43 z) : BZ (noteG (eSI (eSA (pastG g kn nx) 16 F1) 38 0 0) kn) 43 z := by
  intro i hi
  rw [noteG_A _ _ _ (by decide), eSI_A, eSA_r, if_neg (by decide), pastG_A _ _ _ _ (by decide)]
  exact h i hi
theorem note_ML {g : eS} {kn nx : Nat} {F1 : Nat → Int32} {d : Lnd} (h : ML g d) : ML (noteG (eSI (eSA (pastG g kn nx) 16 F1) 38 0 0) kn) d := by
  unfold ML at h ⊢
  rw [noteG_A _ _ _ (by decide), noteG_A _ _ _ (by decide), noteG_A _ _ _ (by decide), eSI_A, eSA_r, eSA_r, eSA_r, if_neg (by decide), if_neg (by decide), if_neg (by decide), pastG_A _ _ _ _ (by decide), pastG_A _ _ _ _ (by decide), pastG_A _ _ _ _ (by decide)]
  exact h
theorem past_CL {g : eS} {kn nx : Nat} {d : Lnd} (h : CL g 1 3 5 d) : CL (pastG g kn nx) 1 3 5 d := by
  unfold CL at h ⊢
  rw [pastG_I _ _ _ _ _ (by decide), pastG_I _ _ _ _ _ (by decide), pastG_I _ _ _ _ _ (by decide), pastG_I _ _ _ _ _ (by decide), pastG_A _ _ _ _ (by decide), pastG_A _ _ _ _ (by decide)]
  exact h
theorem past_BZ {g : eS} {kn nx : Nat} {z : Nat → Nat} (h : BZ g 16 z) : BZ (pastG g kn nx) 16 z := by
  intro i hi
  rw [pastG_A _ _ _ _ (by decide)]
  exact h i hi
theorem pastA_ML {g : eS} {kn nx : Nat} {F1 : Nat → Int32} {d : Lnd} (h : ML g d) : ML (eSA (pastG g kn nx) 16 F1) d := by
  unfold ML at h ⊢
  rw [eSA_r, eSA_r, eSA_r, if_neg (by decide), if_neg (by decide), if_neg (by decide), pastG_A _ _ _ _ (by decide), pastG_A _ _ _ _ (by decide), pastG_A _ _ _ _ (by decide)]
  exact h
theorem pastA_BZ {g : eS} {kn nx : Nat} {F1 : Nat → Int32} {z : Nat → Nat} (h : BZ g 43 z) : BZ (eSA (pastG g kn nx) 16 F1) 43 z := by
  intro i hi
  rw [eSA_r, if_neg (by decide), pastG_A _ _ _ _ (by decide)]
  exact h i hi
theorem pastA_n {g : eS} {kn nx : Nat} {F1 : Nat → Int32} (h : g.1 38 18 = nI kn) : (eSI (eSA (pastG g kn nx) 16 F1) 38 0 0).1 38 18 = nI kn := by
  rw [eSI_r, if_neg (by decide), eSA_I, pastG_I _ _ _ _ _ (by decide)]
  exact h
/-! begins -/
theorem c_begin {g : eS} {z : Nat → Nat} (hz : BZ g 16 z) (h4 : z 0 < 4) (c : Nat) : ∃ F, fX0_begin 14 (nI c) (eE g) = some (nI (z 0), eE (eSA g 16 F)) ∧ ∀ i, i < 57 → F i = nI (zBeg z c i) := by
  have e1 := row_putN r15 g (show 1 + z 0 * 14 < 57 by omega) (nI c)
  have z1 := BZ_upd hz (1 + z 0 * 14) c
  have e2 := row_putN r15 (eSA g 16 (upd (g.2.1 16) (1 + z 0 * 14) (nI c))) (show 1 + z 0 * 14 + 1 < 57 by omega) 0
  have z2 := BZ_upd z1 (1 + z 0 * 14 + 1) 0
  rw [nI_0] at z2
  simp only [eSA_same, eSA_r, if_true] at e2 z2
  have e3 := row_put0 r15 (eSA g 16 (upd (upd (g.2.1 16) (1 + z 0 * 14) (nI c)) (1 + z 0 * 14 + 1) 0)) (by decide) (nI (z 0 + 1))
  have z3 := BZ_upd z2 0 (z 0 + 1)
  simp only [eSA_same, eSA_r, if_true] at e3 z3
  refine ⟨upd (upd (upd (g.2.1 16) (1 + z 0 * 14) (nI c)) (1 + z 0 * 14 + 1) 0) 0 (nI (z 0 + 1)), ?_, fun i hi => ?_⟩
  · simp only [fX0_begin, fX0_begin_0, tO, tR, cond_true, bis, b2s, c_size b14 hz, fX0_placeOf, fX0_placeOf_0, pl_c, nI_p0, e1, nI_1, e2, e3]
  · have := z3 i hi
    rw [eSA_r, if_pos rfl] at this
    exact this
theorem sim9 : Sim9 Rl := by
  intro g r x
  obtain ⟨n, tx, d, z, kn, nx, H, kp, Z, r1, r2, r8, r9, r10⟩ := id r
  have hC := okL_C r2.2.2.1
  have h4 := r2.2.2.2.2.2.1
  rcases inOr x (show lC d < 2 ^ 31 by omega) with ⟨c, hc, rfl⟩ | hx
  · have e1 := c_hasN g1 r2.1 r2.2.2.1 hc
    have e2 := c_size b14 r2.2.2.2.1
    by_cases hz4 : z 0 = 4
    · refine ⟨-3, g, eSI g 38 0 0, ?_, ?_, kp_Rl (kp_th g) r⟩
      · simp only [fX10_begins, fX10_begins_0, tO, tR, bis, b2s, cond_true, e1, if_neg one_ne0, e2, hz4, show ¬ nI 4 < 4 by decide, if_false]
      · have e3 := (th_BZ r2.2.2.2.2.1) 0 (by decide)
        rw [hz4] at e3
        simp only [fX11_begins, fX11_begins_0, tO, tR, tP, tK, bis, b2s, cond_true, q_isN (th_ML r2.2.1) r2.2.2.1 hc, if_neg one_ne0, e3, show nI 4 = (4 : Int32) from rfl, if_true]
    · have hz : z 0 < 4 := by omega
      obtain ⟨F1, e3, f1⟩ := c_begin (past_BZ (kn := kn) (nx := nx) r2.2.2.2.1) hz c
      have e4 := c_remember r8.1 r8.2.1 r8.2.2.1 r8.2.2.2.1
      -- the model
      have m1 := q_isN (th_ML (pastA_ML (kn := kn) (nx := nx) (F1 := F1) r2.2.1)) r2.2.2.1 hc
      have m2 := (th_BZ (pastA_BZ (kn := kn) (nx := nx) (F1 := F1) r2.2.2.2.2.1)) 0 (by decide)
      have m3 := q_notes (g := eSI (eSA (pastG g kn nx) 16 F1) 38 0 0) r8.1 (pastA_n r8.2.2.2.2.1)
      have b0 := note_BZ (kn := kn) (nx := nx) (F1 := F1) r2.2.2.2.2.1
      generalize hN : noteG (eSI (eSA (pastG g kn nx) 16 F1) 38 0 0) kn = N at m3 b0
      have l4 : ¬ nI (z 0) = 4 := fun q => hz4 ((nI_eq (by omega) (by decide)).mp q)
      have s1 := st (n := 57) (i := 1 + z 0 * 14) (a := 43) N rfl (by decide) (by omega) (nI c)
      have z1 := BZ_upd b0 (1 + z 0 * 14) c
      have s2 := st (n := 57) (i := 1 + z 0 * 14 + 1) (a := 43) (eSA N 43 (upd (N.2.1 43) (1 + z 0 * 14) (nI c))) rfl (by decide) (by omega) 0
      have z2 := BZ_upd z1 (1 + z 0 * 14 + 1) 0
      rw [nI_0] at z2
      simp only [eSA_same, eSA_r, if_true] at s2 z1 z2
      generalize hF : upd (upd (N.2.1 43) (1 + z 0 * 14) (nI c)) (1 + z 0 * 14 + 1) 0 = F at s2 z2
      have k0 : upd' (upd' z (1 + z 0 * 14) c) (1 + z 0 * 14 + 1) 0 0 = z 0 := by rw [upd'_ne _ _ (by omega), upd'_ne _ _ (by omega)]
      have z3 := BZ_upd z2 0 (z 0 + 1)
      have t0 := z2 0 (by decide)
      rw [k0] at t0
      refine ⟨nI (z 0), eSA (pastG g kn nx) 16 F1, doneG g kn nx F1 (upd F 0 (nI (z 0 + 1))), ?_, ?_, ?_⟩
      · simp only [fX10_begins, fX10_begins_0, tO, tR, bis, b2s, cond_true, e1, if_neg one_ne0, e2, if_pos (show nI (z 0) < 4 from nI_lt hz (by decide)), e4, e3]
      · simp only [fX11_begins, fX11_begins_0, tO, tR, tP, tK, tM, bis, b2s, cond_true, m1, if_neg one_ne0, m2, if_neg l4, m3, b0 0 (by decide), pl_m, s1, nI_1, s2, t0, eSA_r, if_true, eSA_same]
        unfold doneG
        rw [hN]
      · refine done_Rl r1 r2 r8 r9 r10 f1 (fun i hi => ?_) (okB_beg r2.2.2.2.2.2 hz hc)
        have := z3 i hi
        simp only [eSA_same, eSA_r, if_true] at this
        exact this
  · refine ⟨-1, g, eSI g 38 0 0, ?_, ?_, kp_Rl (kp_th g) r⟩
    · simp only [fX10_begins, fX10_begins_0, tO, tR, bis, b2s, cond_true, c_hasO g1 r2.1 hx, if_true]
    · simp only [fX11_begins, fX11_begins_0, tO, tR, tP, tK, bis, b2s, cond_true, q_isO (th_ML r2.2.1) r2.2.2.1 hx, if_true]
