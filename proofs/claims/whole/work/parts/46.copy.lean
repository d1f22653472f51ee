/-! ===== rows copied ===== -/
def cpT (f s : Nat → Int32) (o k : Nat) : Nat → Int32 := fun j => if o ≤ j ∧ j < o + k then s (j - o) else f j
def cpF (f s : Nat → Int32) (o k : Nat) : Nat → Int32 := fun j => if j < k then s (o + j) else f j
theorem cpT_0 (f s : Nat → Int32) (o : Nat) : cpT f s o 0 = f := by
  funext j
  unfold cpT
  rw [if_neg (by omega)]
theorem cpT_s (f s : Nat → Int32) (o k : Nat) : upd (cpT f s o k) (o + k) (s k) = cpT f s o (k + 1) := by
  funext j
  by_cases h : j = o + k
  · subst h
    rw [pk_us]
    unfold cpT
    rw [if_pos (by omega)]
    congr 1
    omega
  · rw [pk_un h]
    unfold cpT
    by_cases h2 : o ≤ j ∧ j < o + k
    · rw [if_pos h2, if_pos (by omega)]
    · rw [if_neg h2, if_neg (by omega)]
theorem cpF_0 (f s : Nat → Int32) (o : Nat) : cpF f s o 0 = f := by
  funext j
  unfold cpF
  rw [if_neg (by omega)]
theorem cpF_s (f s : Nat → Int32) (o k : Nat) : upd (cpF f s o k) k (s (o + k)) = cpF f s o (k + 1) := by
  funext j
  by_cases h : j = k
  · subst h
    rw [pk_us]
    unfold cpF
    rw [if_pos (by omega)]
  · rw [pk_un h]
    unfold cpF
    by_cases h2 : j < k
    · rw [if_pos h2, if_pos (by omega)]
    · rw [if_neg h2, if_neg (by omega)]
theorem cpT_in {f s : Nat → Int32} {o k i : Nat} (h : i < k) : cpT f s o k (o + i) = s i := by
  unfold cpT
  rw [if_pos (by omega)]
  congr 1
  omega
theorem cpT_out {f s : Nat → Int32} {o k j : Nat} (h : j < o ∨ o + k ≤ j) : cpT f s o k j = f j := by
  unfold cpT
  rw [if_neg (by omega)]
theorem cpF_in {f s : Nat → Int32} {o k i : Nat} (h : i < k) : cpF f s o k i = s (o + i) := by
  unfold cpF
  rw [if_pos h]
theorem mul57 (s k : Nat) : nI s * 57 + nI k = nI (s * 57 + k) := by
  show nI s * nI 57 + nI k = _
  rw [pk_mul, nI_add]
theorem mul57' (s k : Nat) : (57 : Int32) * nI s + nI k = nI (s * 57 + k) := by
  show nI 57 * nI s + nI k = _
  rw [pk_mul, nI_add, Nat.mul_comm]
theorem c_copyTo {g : eS} {B ro a ro2 a2 n2 s : Nat} (hB : isBo B ro a) (hR : RowOf ro2 a2 n2) (hne : a ≠ a2) (hs : s * 57 + 57 ≤ n2) : fX0_copyTo B ro2 (nI s) (eE g) = some (eE (eSA g a2 (cpT (g.2.1 a2) (g.2.1 a) (s * 57) 57))) := by
  have hn := hR.2.2.2
  have key : ∀ (fu k : Nat), k ≤ 57 → 57 - k < fu → fX0_copyTo_2 fu B ro2 (nI s) (nI k) (eE (eSA g a2 (cpT (g.2.1 a2) (g.2.1 a) (s * 57) k))) = some (eE (eSA g a2 (cpT (g.2.1 a2) (g.2.1 a) (s * 57) 57))) := by
    intro fu
    induction fu with
    | zero => intro k h1 h2; omega
    | succ fu ih =>
      intro k h1 h2
      rw [fX0_copyTo_2]
      by_cases hk : k = 57
      · subst hk
        rw [if_pos (show (57 : Int32) ≤ nI 57 by decide)]
      · obtain ⟨o1, o2, o3⟩ := isBo_O hB (eSA g a2 (cpT (g.2.1 a2) (g.2.1 a) (s * 57) k))
        rw [if_neg (show ¬ (57 : Int32) ≤ nI k from nI_ge (a := k) (b := 57) (by omega) (by decide)), o3, bis, row_getN (isBo_row hB) _ (by omega), b2s, mul57, row_putN hR _ (by omega), bis, nI_1]
        simp only [eSA_r, if_neg hne, if_true, eSA_same, cpT_s]
        exact ih (k + 1) (by omega) (by omega)
  obtain ⟨o1, o2, o3⟩ := isBo_O hB g
  rw [fX0_copyTo, o1, cond_true, fX0_copyTo_0]
  have := key eN 0 (by omega) (by rw [eN_eq]; omega)
  rw [cpT_0, eSA_self] at this
  exact this
theorem c_copyFrom {g : eS} {B ro a ro2 a2 n2 s : Nat} (hB : isBo B ro a) (hR : RowOf ro2 a2 n2) (hne : a2 ≠ a) (hs : s * 57 + 57 ≤ n2) : fX0_copyFrom B ro2 (nI s) (eE g) = some (eE (eSA g a (cpF (g.2.1 a) (g.2.1 a2) (s * 57) 57))) := by
  have hn := hR.2.2.2
  have key : ∀ (fu k : Nat), k ≤ 57 → 57 - k < fu → fX0_copyFrom_2 fu B ro2 (nI s) (nI k) (eE (eSA g a (cpF (g.2.1 a) (g.2.1 a2) (s * 57) k))) = some (eE (eSA g a (cpF (g.2.1 a) (g.2.1 a2) (s * 57) 57))) := by
    intro fu
    induction fu with
    | zero => intro k h1 h2; omega
    | succ fu ih =>
      intro k h1 h2
      rw [fX0_copyFrom_2]
      by_cases hk : k = 57
      · subst hk
        rw [if_pos (show (57 : Int32) ≤ nI 57 by decide)]
      · obtain ⟨o1, o2, o3⟩ := isBo_O hB (eSA g a (cpF (g.2.1 a) (g.2.1 a2) (s * 57) k))
        rw [if_neg (show ¬ (57 : Int32) ≤ nI k from nI_ge (a := k) (b := 57) (by omega) (by decide)), o3, bis, mul57, row_getN hR _ (by omega), b2s, row_putN (isBo_row hB) _ (by omega), bis, nI_1]
        simp only [eSA_r, if_neg hne, if_true, eSA_same, cpF_s]
        exact ih (k + 1) (by omega) (by omega)
  obtain ⟨o1, o2, o3⟩ := isBo_O hB g
  rw [fX0_copyFrom, o1, cond_true, fX0_copyFrom_0]
  have := key eN 0 (by omega) (by rw [eN_eq]; omega)
  rw [cpF_0, eSA_self] at this
  exact this
/-! the class's past -/
theorem mod_fin : ∀ n : Fin 11, (nI n.val + 1) - (nI n.val + 1) / 10 * 10 = nI ((n.val + 1) % 10) := by decide +kernel
theorem mod_fin2 : ∀ n : Fin 10, (nI n.val + 10 - 1) - (nI n.val + 10 - 1) / 10 * 10 = nI ((n.val + 9) % 10) := by decide +kernel
theorem min_fin : ∀ n : Fin 11, (if (10 : Int32) < nI n.val + 1 then (10 : Int32) else nI n.val + 1) = nI (min (n.val + 1) 10) := by decide +kernel
def pastG (g : eS) (kn nx : Nat) : eS := eSI (eSI (eSA g 19 (cpT (g.2.1 19) (g.2.1 16) (nx * 57) 57)) 17 2 (nI ((nx + 1) % 10))) 17 3 (nI (min (kn + 1) 10))
theorem c_remember {g : eS} {kn nx : Nat} (h1 : kn ≤ 10) (h2 : nx < 10) (h3 : g.1 17 2 = nI nx) (h4 : g.1 17 3 = nI kn) : fX4_remember 17 (eE g) = some (eE (pastG g kn nx)) := by
  have e1 := c_copyTo (g := g) (s := nx) b14 r18 (by decide) (by omega)
  have e2 := mod_fin ⟨nx, by omega⟩
  have e3 := min_fin ⟨kn, by omega⟩
  have f1 : (eSA g 19 (cpT (g.2.1 19) (g.2.1 16) (nx * 57) 57)).1 17 2 = nI nx := h3
  have f2 : (eSI (eSA g 19 (cpT (g.2.1 19) (g.2.1 16) (nx * 57) 57)) 17 2 (nI ((nx + 1) % 10))).1 17 3 = nI kn := h4
  dsimp only at e2 e3
  simp only [fX4_remember, fX4_remember_0, tO, tR, tI, tP, bis, b2s, cond_true, h3, e1, f1, show ¬ (10 : Int32) = 0 by decide, if_false, e2, f2, m_min, e3, pastG]
def backG (g : eS) (kn nx : Nat) : eS := eSA (eSI (eSI g 17 2 (nI ((nx + 9) % 10))) 17 3 (nI (kn - 1))) 16 (cpF (g.2.1 16) (g.2.1 19) ((nx + 9) % 10 * 57) 57)
theorem c_takeBack {g : eS} {kn nx : Nat} (h0 : 0 < kn) (h1 : kn ≤ 10) (h2 : nx < 10) (h3 : g.1 17 2 = nI nx) (h4 : g.1 17 3 = nI kn) : fX4_takeBack 17 (eE g) = some (1, eE (backG g kn nx)) := by
  have e2 := mod_fin2 ⟨nx, by omega⟩
  dsimp only at e2
  have f1 : (eSI g 17 2 (nI ((nx + 9) % 10))).1 17 3 = nI kn := by rw [eSI_r, if_neg (by decide)]; exact h4
  have f2 : nI kn - 1 = nI (kn - 1) := by rw [show (1 : Int32) = nI 1 from rfl, pk_sub h0]
  have f3 : (eSI (eSI g 17 2 (nI ((nx + 9) % 10))) 17 3 (nI (kn - 1))).1 17 2 = nI ((nx + 9) % 10) := by simp [eSI_r]
  have e1 := c_copyFrom (g := eSI (eSI g 17 2 (nI ((nx + 9) % 10))) 17 3 (nI (kn - 1))) (s := (nx + 9) % 10) b14 r18 (by decide) (by omega)
  simp only [eSI_A] at e1
  have e5 : fX4_takeBack_0 17 (eE g) = some (1, eE (backG g kn nx)) := by
    rw [fX4_takeBack_0]
    rw [show eGI (eE g) 17 4 3 = some (nI kn) by simp only [tI, h4], bis, if_neg (nI_ne0 h0 (show kn < 2 ^ 31 by omega))]
    rw [show eGI (eE g) 17 4 2 = some (nI nx) by simp only [tI, h3], bis, if_neg (show ¬ (10 : Int32) = 0 by decide), e2]
    rw [show ∀ x, eP (eE g) 17 4 2 (.int x) = some (eE (eSI g 17 2 x)) from fun x => by simp only [tP], bis]
    generalize hm : (nx + 9) % 10 = q at *
    rw [show eGI (eE (eSI g 17 2 (nI q))) 17 4 3 = some (nI kn) by simp only [tI, f1], bis, f2]
    rw [show ∀ x, eP (eE (eSI g 17 2 (nI q))) 17 4 3 (.int x) = some (eE (eSI (eSI g 17 2 (nI q)) 17 3 x)) from fun x => by simp only [tP], bis]
    rw [show eGR (eE (eSI (eSI g 17 2 (nI q)) 17 3 (nI (kn - 1)))) 17 4 0 = some 14 by simp only [tR], bis]
    rw [show eGR (eE (eSI (eSI g 17 2 (nI q)) 17 3 (nI (kn - 1)))) 17 4 1 = some 18 by simp only [tR], bis]
    rw [show eGI (eE (eSI (eSI g 17 2 (nI q)) 17 3 (nI (kn - 1)))) 17 4 2 = some (nI q) by simp only [tI, f3], bis]
    rw [e1, bis, eZ_1, bis, backG, hm]
  simp only [fX4_takeBack, tO, cond_true, e5]
/-! the model's notes -/
def shG (u : Nat → Int32) (k : Nat) : Nat → Int32 := fun j => if j < k then u (j + 57) else u j
theorem shG_s (u : Nat → Int32) (k : Nat) : upd (shG u k) k (u (k + 57)) = shG u (k + 1) := by
  funext j
  by_cases h : j = k
  · subst h
    rw [pk_us]
    unfold shG
    rw [if_pos (by omega)]
  · rw [pk_un h]
    unfold shG
    by_cases h2 : j < k
    · rw [if_pos h2, if_pos (by omega)]
    · rw [if_neg h2, if_neg (by omega)]
theorem q_notes45 {g : eS} {kn : Nat} (h1 : kn < 10) (h4 : g.1 38 18 = nI kn) : fX11_notes_45 38 (eE g) = some (eE (eSI (eSA g 47 (cpT (g.2.1 47) (g.2.1 43) (kn * 57) 57)) 38 18 (nI (kn + 1)))) := by
  have key : ∀ (fu k : Nat), k ≤ 57 → 57 - k < fu → fX11_notes_47 fu 38 (nI k) (eE (eSA g 47 (cpT (g.2.1 47) (g.2.1 43) (kn * 57) k))) = some (eE (eSI (eSA g 47 (cpT (g.2.1 47) (g.2.1 43) (kn * 57) 57)) 38 18 (nI (kn + 1)))) := by
    intro fu
    induction fu with
    | zero => intro k h1 h2; omega
    | succ fu ih =>
      intro k hk1 hk2
      have f1 : (eSA g 47 (cpT (g.2.1 47) (g.2.1 43) (kn * 57) k)).1 38 18 = nI kn := h4
      by_cases hk : k = 57
      · subst hk
        simp only [fX11_notes_47, if_pos (show (57 : Int32) ≤ nI 57 by decide), tI, tP, bis, f1, nI_1]
      · have e1 := ld (n := 57) (i := k) (a := 43) (eSA g 47 (cpT (g.2.1 47) (g.2.1 43) (kn * 57) k)) rfl (by decide) (by omega)
        have e2 := fun x => st (n := 570) (i := kn * 57 + k) (a := 47) (eSA g 47 (cpT (g.2.1 47) (g.2.1 43) (kn * 57) k)) rfl (by decide) (by omega) x
        simp only [fX11_notes_47, if_neg (show ¬ (57 : Int32) ≤ nI k from nI_ge (a := k) (b := 57) (by omega) (by decide)), tR, tI, bis, f1, mul57', e1, e2, nI_1]
        simp only [eSA_r, show ((43 : Nat) = 47) = False by simp, if_false, if_true, eSA_same, cpT_s]
        exact ih (k + 1) (by omega) (by omega)
  rw [fX11_notes_45]
  have := key eN 0 (by omega) (by rw [eN_eq]; omega)
  rw [cpT_0, eSA_self] at this
  exact this
def noteG (g : eS) (kn : Nat) : eS := if kn = 10 then eSI (eSA g 47 (cpT (shG (g.2.1 47) 513) (g.2.1 43) (9 * 57) 57)) 38 18 (nI 10) else eSI (eSA g 47 (cpT (g.2.1 47) (g.2.1 43) (kn * 57) 57)) 38 18 (nI (kn + 1))
theorem eSI_eSA (g : eS) (o k : Nat) (v : Int32) (a : Nat) (f : Nat → Int32) : eSA (eSI g o k v) a f = eSI (eSA g a f) o k v := rfl
theorem q_notes {g : eS} {kn : Nat} (h1 : kn ≤ 10) (h4 : g.1 38 18 = nI kn) : fX11_notes 38 (eE g) = some (eE (noteG g kn)) := by
  unfold noteG
  by_cases h10 : kn = 10
  · subst h10
    have key : ∀ (fu k : Nat), k ≤ 513 → 513 - k < fu → fX11_notes_11 fu 38 (nI k) (eE (eSA g 47 (shG (g.2.1 47) k))) = some (eE (eSI (eSA g 47 (cpT (shG (g.2.1 47) 513) (g.2.1 43) (9 * 57) 57)) 38 18 (nI 10))) := by
      intro fu
      induction fu with
      | zero => intro k h1 h2; omega
      | succ fu ih =>
        intro k hk1 hk2
        by_cases hk : k = 513
        · subst hk
          simp only [fX11_notes_11, if_pos (show (513 : Int32) ≤ nI 513 by decide), tP, bis]
          have := q_notes45 (g := eSI (eSA g 47 (shG (g.2.1 47) 513)) 38 18 9) (kn := 9) (by decide) rfl
          rw [this]
          simp only [eSI_eSA, eSI_same, eSA_same, eSA_r, eSI_A, show ((43 : Nat) = 47) = False by simp, if_true, if_false]
        · have e1 := ld (n := 570) (i := k + 57) (a := 47) (eSA g 47 (shG (g.2.1 47) k)) rfl (by decide) (by omega)
          have e2 := fun x => st (n := 570) (i := k) (a := 47) (eSA g 47 (shG (g.2.1 47) k)) rfl (by decide) (by omega) x
          have e3 : shG (g.2.1 47) k (k + 57) = g.2.1 47 (k + 57) := by unfold shG; rw [if_neg (by omega)]
          simp only [fX11_notes_11, if_neg (show ¬ (513 : Int32) ≤ nI k from nI_ge (a := k) (b := 513) (by omega) (by decide)), tR, bis, show nI k + 57 = nI (k + 57) from nI_add k 57, e1, e2, nI_1]
          simp only [eSA_r, if_true, eSA_same, e3, shG_s]
          exact ih (k + 1) (by omega) (by omega)
    have := key eN 0 (by omega) (by rw [eN_eq]; omega)
    rw [show shG (g.2.1 47) 0 = g.2.1 47 by funext j; unfold shG; rw [if_neg (by omega)], eSA_self] at this
    simp only [fX11_notes, fX11_notes_0, tO, tI, bis, cond_true, h4, if_pos (show nI 10 = (10 : Int32) from rfl), if_true]
    exact this
  · have l2 : ¬ nI kn = 10 := fun q => h10 ((nI_eq (by omega) (by decide)).mp q)
    simp only [fX11_notes, fX11_notes_0, tO, tI, bis, cond_true, h4, if_neg l2, if_neg h10]
    exact q_notes45 (by omega) h4
/-! both remember: the relation of the pasts -/
def pushH (H : Nat → Nat → Nat) (kn : Nat) (z : Nat → Nat) : Nat → Nat → Nat := fun j => if j + 1 = min (kn + 1) 10 then z else if kn = 10 then H (j + 1) else H j
theorem ru_push {g : eS} {d : Lnd} {kn nx : Nat} {H : Nat → Nat → Nat} {z : Nat → Nat} (hU : RU g d kn nx H) (hb : RB g d z) : RU (noteG (pastG g kn nx) kn) d (min (kn + 1) 10) ((nx + 1) % 10) (pushH H kn z) := by
  obtain ⟨h1, h2, h3, h4, h5, h6⟩ := hU
  obtain ⟨-, -, -, hz1, hz2, hok⟩ := hb
  have nI17 : (noteG (pastG g kn nx) kn).1 17 2 = nI ((nx + 1) % 10) ∧ (noteG (pastG g kn nx) kn).1 17 3 = nI (min (kn + 1) 10) ∧ (noteG (pastG g kn nx) kn).1 38 18 = nI (min (kn + 1) 10) := by
    unfold noteG pastG
    by_cases hk : kn = 10
    · subst hk; exact ⟨rfl, rfl, rfl⟩
    · rw [if_neg hk, show min (kn + 1) 10 = kn + 1 by omega]; exact ⟨rfl, rfl, rfl⟩
  have a19 : (noteG (pastG g kn nx) kn).2.1 19 = cpT (g.2.1 19) (g.2.1 16) (nx * 57) 57 := by
    unfold noteG pastG
    by_cases hk : kn = 10
    · rw [if_pos hk]; rfl
    · rw [if_neg hk]; rfl
  refine ⟨by omega, by omega, nI17.1, nI17.2.1, nI17.2.2, fun j hj => ?_⟩
  rw [a19]
  by_cases hk : kn = 10
  · subst hk
    have a47 : (noteG (pastG g 10 nx) 10).2.1 47 = cpT (shG (g.2.1 47) 513) (g.2.1 43) (9 * 57) 57 := rfl
    rw [a47]
    by_cases hj9 : j = 9
    · subst hj9
      refine ⟨by simpa [pushH] using hok, fun i hi => ?_⟩
      have e1 : pushH H 10 z 9 = z := by simp [pushH]
      rw [e1, show ((nx + 1) % 10 + 10 - min (10 + 1) 10 + 9) % 10 = nx by omega, cpT_in hi, cpT_in hi, hz1 i hi, hz2 i hi]
      exact ⟨rfl, rfl⟩
    · have e1 : pushH H 10 z j = H (j + 1) := by simp [pushH]; omega
      obtain ⟨u1, u2⟩ := h6 (j + 1) (by omega)
      rw [e1]
      refine ⟨u1, fun i hi => ?_⟩
      obtain ⟨u3, u4⟩ := u2 i hi
      have e2 : ((nx + 1) % 10 + 10 - min (10 + 1) 10 + j) % 10 = (nx + 10 - 10 + (j + 1)) % 10 := by omega
      have e3 : ¬ (nx + 10 - 10 + (j + 1)) % 10 = nx := by omega
      rw [e2, cpT_out (by omega), cpT_out (by omega), u3]
      refine ⟨rfl, ?_⟩
      unfold shG
      rw [if_pos (by omega), show j * 57 + i + 57 = (j + 1) * 57 + i by omega, u4]
  · have hm : min (kn + 1) 10 = kn + 1 := by omega
    have a47 : (noteG (pastG g kn nx) kn).2.1 47 = cpT (g.2.1 47) (g.2.1 43) (kn * 57) 57 := by
      unfold noteG; rw [if_neg hk]; rfl
    rw [a47]
    rw [hm] at hj ⊢
    by_cases hj9 : j = kn
    · subst hj9
      have e1 : pushH H j z j = z := by simp [pushH]; omega
      rw [e1]
      refine ⟨hok, fun i hi => ?_⟩
      rw [show ((nx + 1) % 10 + 10 - (j + 1) + j) % 10 = nx by omega, cpT_in hi, cpT_in hi, hz1 i hi, hz2 i hi]
      exact ⟨rfl, rfl⟩
    · have e1 : pushH H kn z j = H j := by
        have h7 : ¬ j + 1 = kn + 1 := by omega
        simp [pushH, hm, hk]
        omega
      obtain ⟨u1, u2⟩ := h6 j (by omega)
      rw [e1]
      refine ⟨u1, fun i hi => ?_⟩
      obtain ⟨u3, u4⟩ := u2 i hi
      have e2 : ((nx + 1) % 10 + 10 - (kn + 1) + j) % 10 = (nx + 10 - kn + j) % 10 := by omega
      have e3 : ¬ (nx + 10 - kn + j) % 10 = nx := by omega
      rw [e2, cpT_out (by omega), cpT_out (by omega), u3, u4]
      exact ⟨rfl, rfl⟩
