/-! ===== trees: the sets of cells that the class keeps, and how great a tree may be ===== -/
theorem gb_of {d : Lnd} {c k e : Nat} (h1 : nb (lW d) (lD d) c k = some e) (h2 : ad (lH d c) (lH d e) ≤ lS d) : gb d c k = some e := by
  unfold gb; rw [h1]; dsimp only; rw [if_pos h2]
def pR (d : Lnd) : Nat := slR d (lS d)
def pD (d : Lnd) : Nat := slD d (lS d)
theorem p_ok {d : Lnd} (hd : okL d) : okRD d (pR d) (pD d) := sl_ok hd (lS d)
theorem P_gb {d : Lnd} (hd : okL d) {x k : Nat} (hk : k < 4) (h : goB (lW d) (pR d) (pD d) x k = true) : x < lC d ∧ gb d x k = some (mv (lW d) x k) := by
  have h1 := goB_nb hd (p_ok hd) hk h
  have h2 : sgo d (lS d) x k = true := by rw [← sl_go hd (lS d) h1.1 hk]; exact h
  obtain ⟨e, e1, e2⟩ := sgo_nb h2
  have e3 := e1
  rw [h1.2] at e3
  injection e3 with e3
  rw [← e3] at e1 e2
  exact ⟨h1.1, gb_of e1 e2⟩
theorem gb_P {d : Lnd} (hd : okL d) {x k e : Nat} (hx : x < lC d) (h : gb d x k = some e) : goB (lW d) (pR d) (pD d) x k = true ∧ mv (lW d) x k = e := by
  have hk := (gb_lt hd hx h).2
  obtain ⟨h1, h2⟩ := gb_nb h
  have h3 : goB (lW d) (pR d) (pD d) x k = true := by
    rw [show goB (lW d) (pR d) (pD d) x k = sgo d (lS d) x k from sl_go hd (lS d) hx hk, sgo_i h1]
    exact decide_eq_true h2
  have h4 := (goB_nb hd (p_ok hd) hk h3).2
  rw [h1] at h4
  injection h4 with h4
  exact ⟨h3, h4.symm⟩
theorem go_mv {d : Lnd} (hd : okL d) {R D : Nat} (hok : okRD d R D) {x k e : Nat} (hk : k < 4) (hn : nb (lW d) (lD d) x k = some e) (h : goB (lW d) R D x k = true) : mv (lW d) x k = e := by
  have h4 := (goB_nb hd hok hk h).2
  rw [hn] at h4
  injection h4 with h4
  exact h4.symm
theorem rc_cl {d : Lnd} (hd : okL d) {R D : Nat} (hok : okRD d R D) {S x k : Nat} (hk : k < 4) (hg : goB (lW d) R D x k = true) (h : (rc (lW d) R D S 20).testBit (mv (lW d) x k) = true) : (rc (lW d) R D S 20).testBit x = true := by
  have hx := (goB_nb hd hok hk hg).1
  have h1 : (rc (lW d) R D S 21).testBit x = true := (sp_bit _ _ _ _ _).mpr (Or.inr ⟨k, hk, hg, h⟩)
  have h2 := (dst_le hd hok hx (v := 21) (by decide)).mpr h1
  exact (dst_lt hd hok hx).mp (Nat.lt_of_le_of_lt h2 (by decide))
def setN (p : Nat → Bool) : Nat → Nat
  | 0 => 0
  | v + 1 => if p v = true then setN p v ||| 2 ^ v else setN p v
theorem setN_bit (p : Nat → Bool) (i : Nat) : ∀ n, (setN p n).testBit i = true ↔ i < n ∧ p i = true := by
  intro n
  induction n with
  | zero => rw [setN, Nat.zero_testBit]; simp
  | succ n ih =>
    rw [setN]
    by_cases hq : p n = true
    · rw [if_pos hq, tb_or, Bool.or_eq_true, ih, decide_eq_true_eq]
      constructor
      · rintro (h | h)
        · exact ⟨by omega, h.2⟩
        · subst h; exact ⟨by omega, hq⟩
      · rintro ⟨h1, h2⟩
        by_cases h3 : n = i
        · exact Or.inr h3
        · exact Or.inl ⟨by omega, h2⟩
    · rw [if_neg hq, ih]
      constructor
      · rintro ⟨h1, h2⟩; exact ⟨by omega, h2⟩
      · rintro ⟨h1, h2⟩
        refine ⟨?_, h2⟩
        by_cases h3 : n = i
        · subst h3; exact absurd h2 hq
        · omega
def jS (d : Lnd) (R D s e : Nat) : Nat := setN (fun v => decide (TR d R D s v ≤ e)) (lC d)
theorem jS_bit {d : Lnd} {R D s e v : Nat} : (jS d R D s e).testBit v = true ↔ v < lC d ∧ TR d R D s v ≤ e := by
  unfold jS
  rw [setN_bit, decide_eq_true_eq]
def mt2 (d : Lnd) (R D s e p : Nat) : Nat → Nat
  | 0 => 0
  | q + 1 => mt2 d R D s e p q ||| (jS d R D p q &&& jS d R D (s - p) (e - q))
def mt1 (d : Lnd) (R D s e : Nat) : Nat → Nat
  | 0 => 0
  | p + 1 => if 0 < p ∧ sbS p s = true then mt1 d R D s e p ||| mt2 d R D s e p (e + 1) else mt1 d R D s e p
theorem mt2_bit {d : Lnd} {R D s e p v : Nat} : ∀ q, (mt2 d R D s e p q).testBit v = true ↔ ∃ i, i < q ∧ (jS d R D p i).testBit v = true ∧ (jS d R D (s - p) (e - i)).testBit v = true := by
  intro q
  induction q with
  | zero => rw [mt2, Nat.zero_testBit]; simp
  | succ q ih =>
    rw [mt2, Nat.testBit_or, Nat.testBit_and, Bool.or_eq_true, Bool.and_eq_true, ih]
    constructor
    · rintro (⟨i, h1, h2⟩ | h)
      · exact ⟨i, by omega, h2⟩
      · exact ⟨q, by omega, h⟩
    · rintro ⟨i, h1, h2⟩
      by_cases hi : i = q
      · rw [hi] at h2; exact Or.inr h2
      · exact Or.inl ⟨i, by omega, h2⟩
theorem mt1_bit {d : Lnd} {R D s e v : Nat} : ∀ q, (mt1 d R D s e q).testBit v = true ↔ ∃ p, p < q ∧ 0 < p ∧ sbS p s = true ∧ (mt2 d R D s e p (e + 1)).testBit v = true := by
  intro q
  induction q with
  | zero => rw [mt1, Nat.zero_testBit]; simp
  | succ q ih =>
    rw [mt1]
    by_cases hc : 0 < q ∧ sbS q s = true
    · rw [if_pos hc, Nat.testBit_or, Bool.or_eq_true, ih]
      constructor
      · rintro (⟨i, h1, h2⟩ | h)
        · exact ⟨i, by omega, h2⟩
        · exact ⟨q, by omega, hc.1, hc.2, h⟩
      · rintro ⟨i, h1, h2, h3, h4⟩
        by_cases hi : i = q
        · rw [hi] at h4; exact Or.inr h4
        · exact Or.inl ⟨i, by omega, h2, h3, h4⟩
    · rw [if_neg hc, ih]
      constructor
      · rintro ⟨i, h1, h2⟩; exact ⟨i, by omega, h2⟩
      · rintro ⟨i, h1, h2, h3, h4⟩
        refine ⟨i, ?_, h2, h3, h4⟩
        by_cases hi : i = q
        · rw [hi] at h2 h3; exact absurd ⟨h2, h3⟩ hc
        · omega
def cX (d : Lnd) (R D s e : Nat) : Nat := (if popN s 4 = 1 then tset d s (lK d) else mt1 d R D s e s) ||| (if 0 < e then spN (lW d) (pR d) (pD d) (jS d R D s (e - 1)) else 0)
section SPAN
variable {d : Lnd} {R D : Nat}
theorem jS_in (s e : Nat) : inC d (jS d R D s e) := fun x hx => (jS_bit.mp hx).1
theorem cX_in (hd : okL d) {s e : Nat} : inC d (cX d R D s e) := by
  intro x hx
  unfold cX at hx
  rw [Nat.testBit_or, Bool.or_eq_true] at hx
  rcases hx with hx | hx
  · split at hx
    · exact tset_inC hd s (Nat.le_refl _) x hx
    · obtain ⟨p, h1, h2, h3, h4⟩ := (mt1_bit _).mp hx
      obtain ⟨i, i1, i2, i3⟩ := (mt2_bit _).mp h4
      exact jS_in _ _ x i2
  · split at hx
    · exact inC_sp hd (p_ok hd) (jS_in _ _) x hx
    · rw [Nat.zero_testBit] at hx; cases hx
theorem TR_leB (hd : okL d) (s : Nat) {x : Nat} (hx : x < lC d) (r : Nat) : TR d R D s x ≤ Bd (gT d R D) (lC d) (iT d R D s) r x := by
  rw [TR_B hd hx (r := lC d + r) (by omega)]
  exact Bd_mono (by omega) x
theorem jfix (hd : okL d) (hok : okRD d R D) (hrd : ∀ c k, k < 4 → goB (lW d) R D c k = true → gb d c k = some (mv (lW d) c k)) {s e : Nat} (hs0 : 0 < s) (hs : s < 2 ^ lK d) (he : e < FF) : rc (lW d) R D (cX d R D s e) 20 = jS d R D s e := by
  have hK := hd.2.2.2.1
  have h16 : 2 ^ lK d ≤ 2 ^ 4 := Nat.pow_le_pow_right (by decide) hK
  have hs16 : s < 16 := by omega
  have fwd : ∀ m v, (rc (lW d) R D (cX d R D s e) m).testBit v = true → v < lC d ∧ TR d R D s v ≤ e := by
    intro m
    induction m with
    | zero =>
      intro v hv
      have hv0 : (cX d R D s e).testBit v = true := hv
      have hvn := cX_in hd v hv0
      refine ⟨hvn, ?_⟩
      unfold cX at hv0
      rw [Nat.testBit_or, Bool.or_eq_true] at hv0
      rcases hv0 with hx | hx
      · split at hx
        next hp =>
          obtain ⟨t, t1, t2, t3⟩ := (tset_bit d s v (lK d)).mp hx
          have h2 : s = 2 ^ t := ss_4 ⟨s, hs16⟩ ⟨t, by omega⟩ hp t2
          have h3 := TR_base (d := d) (R := R) (D := D) t1
          rw [← h2, t3] at h3
          omega
        next hp =>
          obtain ⟨p, h1, h2, h3, h4⟩ := (mt1_bit _).mp hx
          obtain ⟨i, i1, i2, i3⟩ := (mt2_bit _).mp h4
          have j1 := (jS_bit.mp i2).2
          have j2 := (jS_bit.mp i3).2
          have j3 := TR_mg (d := d) (R := R) (D := D) (x := v) h2 h1 h3
          omega
      · split at hx
        next he0 =>
          rcases (sp_bit _ _ _ _ _).mp hx with q | ⟨k, hk, q1, q2⟩
          · have := (jS_bit.mp q).2
            omega
          · obtain ⟨g1, g2⟩ := P_gb hd hk q1
            have hc := jS_bit.mp q2
            have := TR_ed (R := R) (D := D) hd s hc.1 (opp_lt k) (gb_opp hd g1 g2)
            have hc2 := hc.2
            split at this <;> omega
        next => rw [Nat.zero_testBit] at hx; cases hx
    | succ m ih =>
      intro v hv
      rcases (sp_bit _ _ _ _ _).mp hv with q | ⟨k, hk, q1, q2⟩
      · exact ih v q
      · have g1 := (goB_nb hd hok hk q1).1
        have g2 := hrd v k hk q1
        have hc := ih _ q2
        have := TR_ed (R := R) (D := D) hd s hc.1 (opp_lt k) (gb_opp hd g1 g2)
        rw [go_sym hd hok g1 hk g2, q1, if_pos rfl] at this
        exact ⟨g1, by omega⟩
  have bwd : ∀ r v, v < lC d → Bd (gT d R D) (lC d) (iT d R D s) r v ≤ e → (rc (lW d) R D (cX d R D s e) 20).testBit v = true := by
    have start : ∀ v, (cX d R D s e).testBit v = true → (rc (lW d) R D (cX d R D s e) 20).testBit v = true := fun v hv => rc_up _ _ _ _ (n := 0) hv (Nat.zero_le _)
    intro r
    induction r with
    | zero =>
      intro v hv hle
      have hle : iT d R D s v ≤ e := hle
      apply start
      unfold cX
      rw [Nat.testBit_or, Bool.or_eq_true]
      left
      rcases iT_or (d := d) (R := R) (D := D) s v with h | ⟨t, h1, h2, h3, h4⟩ | ⟨p, h1, h2, h3, h4⟩
      · omega
      · have s5 := ss_5 ⟨t, by omega⟩
        dsimp only at s5
        rw [← h2] at s5
        rw [if_pos s5.1]
        exact (tset_bit d s v (lK d)).mpr ⟨t, h1, s5.2, h3⟩
      · have s1 := (ss_1 ⟨s, hs16⟩ ⟨p, by omega⟩ ⟨h1, h2, h3⟩).2.2.2
        dsimp only at s1
        rw [if_neg s1]
        refine (mt1_bit _).mpr ⟨p, h2, h1, h3, (mt2_bit _).mpr ⟨TR d R D p v, by omega, jS_bit.mpr ⟨hv, Nat.le_refl _⟩, jS_bit.mpr ⟨hv, by omega⟩⟩⟩
    | succ r ih =>
      intro v hv hle
      rcases Bd_or (ed := gT d R D) (n := lC d) (t0 := iT d R D s) r v with h | ⟨c, k, w, h1, h2, h3, h4⟩
      · exact ih v hv (by omega)
      · obtain ⟨g1, g2⟩ := gT_of h3
        have gbk := gb_opp hd h1 g1
        have nbk := (gb_nb gbk).1
        cases hg : goB (lW d) R D c k with
        | true =>
          rw [hg, if_pos rfl] at g2
          have go : goB (lW d) R D v (opp k) = true := by rw [go_sym hd hok h1 h2 g1]; exact hg
          refine rc_cl hd hok (opp_lt k) go ?_
          rw [go_mv hd hok (opp_lt k) nbk go]
          exact ih c h1 (by omega)
        | false =>
          rw [hg, if_neg (by decide)] at g2
          have tc := TR_leB (R := R) (D := D) hd s h1 r
          obtain ⟨p1, p2⟩ := gb_P hd hv gbk
          apply start
          unfold cX
          rw [Nat.testBit_or, Bool.or_eq_true]
          right
          rw [if_pos (by omega)]
          refine (sp_bit _ _ _ _ _).mpr (Or.inr ⟨opp k, opp_lt k, p1, ?_⟩)
          rw [p2]
          exact jS_bit.mpr ⟨h1, by omega⟩
  apply Nat.eq_of_testBit_eq
  intro v
  rw [Bool.eq_iff_iff, jS_bit]
  constructor
  · exact fwd 20 v
  · rintro ⟨h1, h2⟩
    rw [TR_B hd h1 (r := lC d) (by omega)] at h2
    exact bwd (lC d) v h1 h2
/-- what a tree joins is joined where all that may be road is -/
theorem TR_fin (hd : okL d) : ∀ s, s < 16 → ∀ t, t < lK d → s.testBit t = true → ∀ r v, v < lC d → Bd (gT d R D) (lC d) (iT d R D s) r v < FF → (rc (lW d) (pR d) (pD d) (2 ^ lT d t) 20).testBit v = true := by
  intro s
  induction s using Nat.strongRecOn with
  | _ s ih =>
    intro hs t ht hst r
    induction r with
    | zero =>
      intro v hv hlt
      have hlt : iT d R D s v < FF := hlt
      rcases iT_or (d := d) (R := R) (D := D) s v with h | ⟨t', h1, h2, h3, h4⟩ | ⟨p, h1, h2, h3, h4⟩
      · omega
      · have htt : t = t' := by
          rw [h2, testBit_two, decide_eq_true_eq] at hst
          exact hst.symm
        subst htt
        refine rc_up _ _ _ _ (n := 0) ?_ (Nat.zero_le _)
        show (2 ^ lT d t).testBit v = true
        rw [testBit_two, decide_eq_true_eq]
        exact h3
      · obtain ⟨⟨q0, q1⟩, q2, q3, q4⟩ := ss_1 ⟨s, hs⟩ ⟨p, by omega⟩ ⟨h1, h2, h3⟩
        dsimp only at q0 q1 q2 q3
        have hst2 := hst
        rw [← q3, Nat.testBit_or, Bool.or_eq_true] at hst2
        rcases hst2 with hh | hh
        · exact ih p h2 (by omega) t ht hh (lC d) v hv (by rw [← TR_B hd hv (by omega)]; omega)
        · exact ih (s - p) q1 (by omega) t ht hh (lC d) v hv (by rw [← TR_B hd hv (by omega)]; omega)
    | succ r ihr =>
      intro v hv hlt
      rcases Bd_or (ed := gT d R D) (n := lC d) (t0 := iT d R D s) r v with h | ⟨c, k, w, h1, h2, h3, h4⟩
      · exact ihr v hv (by omega)
      · obtain ⟨g1, g2⟩ := gT_of h3
        obtain ⟨p1, p2⟩ := gb_P hd hv (gb_opp hd h1 g1)
        refine rc_cl hd (p_ok hd) (opp_lt k) p1 ?_
        rw [p2]
        exact ihr c h1 (by omega)
/-! a row of cells, each next to an earlier one, holds all that is joined -/
theorem order (hd : okL d) {a : Nat} (ha : a < lC d) : ∀ j, ∃ (m : Nat) (f : Nat → Nat), 1 ≤ m ∧ f 0 = a ∧ (∀ i, i < m → f i < lC d) ∧ (∀ i i', i < m → i' < m → f i = f i' → i = i') ∧ (∀ i, 0 < i → i < m → ∃ p k, p < i ∧ k < 4 ∧ gb d (f i) k = some (f p)) ∧ (j ≤ m ∨ ∀ i, i < m → ∀ k e, gb d (f i) k = some e → ∃ i', i' < m ∧ f i' = e) := by
  intro j
  induction j with
  | zero => exact ⟨1, fun _ => a, Nat.le_refl _, rfl, fun _ _ => ha, fun i i' h1 h2 _ => by omega, fun i h1 h2 => by omega, Or.inl (Nat.zero_le _)⟩
  | succ j ih =>
    obtain ⟨m, f, h1, h2, h3, h4, h5, h6⟩ := ih
    by_cases hc : ∀ i, i < m → ∀ k e, gb d (f i) k = some e → ∃ i', i' < m ∧ f i' = e
    · exact ⟨m, f, h1, h2, h3, h4, h5, Or.inr hc⟩
    · have hj : j ≤ m := h6.resolve_right hc
      have hex : ∃ i k e, i < m ∧ gb d (f i) k = some e ∧ ∀ i', i' < m → f i' ≠ e := by
        apply Classical.byContradiction
        intro hn
        apply hc
        intro i hi k e hg
        apply Classical.byContradiction
        intro hn2
        exact hn ⟨i, k, e, hi, hg, fun i' hi' hq => hn2 ⟨i', hi', hq⟩⟩
      obtain ⟨i, k, e, hi, hg, hne⟩ := hex
      have he := gb_lt hd (h3 i hi) hg
      refine ⟨m + 1, fun x => if x = m then e else f x, by omega, ?_, ?_, ?_, ?_, Or.inl (by omega)⟩
      · dsimp only; rw [if_neg (by omega)]; exact h2
      · intro x hx
        dsimp only
        by_cases hxm : x = m
        · rw [if_pos hxm]; exact he.1
        · rw [if_neg hxm]; exact h3 x (by omega)
      · intro x y hx hy hq
        dsimp only at hq
        by_cases hxm : x = m
        · by_cases hym : y = m
          · omega
          · rw [if_pos hxm, if_neg hym] at hq
            exact absurd hq.symm (hne y (by omega))
        · by_cases hym : y = m
          · rw [if_neg hxm, if_pos hym] at hq
            exact absurd hq (hne x (by omega))
          · rw [if_neg hxm, if_neg hym] at hq
            exact h4 x y (by omega) (by omega) hq
      · intro x hx0 hx
        dsimp only
        by_cases hxm : x = m
        · refine ⟨i, opp k, by omega, opp_lt k, ?_⟩
          rw [if_pos hxm, if_neg (by omega)]
          exact gb_opp hd (h3 i hi) hg
        · obtain ⟨p, k', p1, p2, p3⟩ := h5 x hx0 (by omega)
          refine ⟨p, k', p1, p2, ?_⟩
          rw [if_neg hxm, if_neg (by omega)]
          exact p3
def orF (A : Nat → Nat) : Nat → Nat
  | 0 => 0
  | m + 1 => orF A m ||| A m
def smF (a : Nat → Nat) : Nat → Nat
  | 0 => 0
  | m + 1 => smF a m + a m
theorem orF_c {A A' : Nat → Nat} : ∀ m, (∀ i, i < m → A i = A' i) → orF A m = orF A' m := by
  intro m
  induction m with
  | zero => intro _; rfl
  | succ m ih => intro h; rw [orF, orF, ih (fun i hi => h i (by omega)), h m (by omega)]
theorem smF_c {A A' : Nat → Nat} : ∀ m, (∀ i, i < m → A i = A' i) → smF A m = smF A' m := by
  intro m
  induction m with
  | zero => intro _; rfl
  | succ m ih => intro h; rw [smF, smF, ih (fun i hi => h i (by omega)), h m (by omega)]
theorem orF_u (A : Nat → Nat) (x p : Nat) : ∀ m, p < m → orF (fun i => if i = p then A p ||| x else A i) m = orF A m ||| x := by
  intro m
  induction m with
  | zero => intro h; omega
  | succ m ih =>
    intro h
    rw [orF, orF]
    by_cases hp : p = m
    · subst hp
      rw [orF_c (A' := A) p (fun i hi => by rw [if_neg (by omega)]), if_pos rfl, Nat.or_assoc]
    · rw [ih (by omega), if_neg (by omega), Nat.or_assoc, Nat.or_assoc, Nat.or_comm x]
theorem smF_u (a : Nat → Nat) (x p : Nat) : ∀ m, p < m → smF (fun i => if i = p then a p + x else a i) m = smF a m + x := by
  intro m
  induction m with
  | zero => intro h; omega
  | succ m ih =>
    intro h
    rw [smF, smF]
    by_cases hp : p = m
    · subst hp
      rw [smF_c (A' := a) p (fun i hi => by rw [if_neg (by omega)]), if_pos rfl]
      omega
    · rw [ih (by omega), if_neg (by omega)]
      omega
theorem comb (hd : okL d) {M : Nat} {f : Nat → Nat} (hf : ∀ i, i < M → f i < lC d) (hp : ∀ i, 0 < i → i < M → ∃ p k, p < i ∧ k < 4 ∧ gb d (f i) k = some (f p)) : ∀ m, 1 ≤ m → m ≤ M → ∀ (A a : Nat → Nat), (∀ i, i < m → A i < 16) → (∀ i j, i < m → j < m → i ≠ j → A i &&& A j = 0) → (∀ i, i < m → 0 < A i → TR d R D (A i) (f i) ≤ a i) → 0 < orF A m → TR d R D (orF A m) (f 0) ≤ smF a m + (m - 1) := by
  intro m
  induction m with
  | zero => intro h; omega
  | succ m ih =>
    intro _ hM A a h1 h2 h3 h4
    rcases Nat.eq_zero_or_pos m with h0 | h0
    · subst h0
      have e1 : orF A (0 + 1) = A 0 := by rw [orF, orF, Nat.zero_or]
      have e2 : smF a (0 + 1) = a 0 := by rw [smF, smF, Nat.zero_add]
      rw [e1] at h4
      rw [e1, e2]
      have := h3 0 (by omega) h4
      omega
    · by_cases hA : A m = 0
      · rw [orF, hA, Nat.or_zero] at h4
        rw [orF, hA, Nat.or_zero, smF]
        have := ih (by omega) (by omega) A a (fun i hi => h1 i (by omega)) (fun i j hi hj => h2 i j (by omega) (by omega)) (fun i hi => h3 i (by omega)) h4
        omega
      · obtain ⟨p, k, p1, p2, p3⟩ := hp m (by omega) (by omega)
        have t1 := h3 m (by omega) (by omega)
        have t2 := TR_ed (R := R) (D := D) hd (A m) (hf m (by omega)) p2 p3
        have t3 : TR d R D (A m) (f p) ≤ a m + 1 := by split at t2 <;> omega
        have i1 := ih (by omega) (by omega) (fun i => if i = p then A p ||| A m else A i) (fun i => if i = p then a p + (a m + 1) else a i) (fun i hi => by
            split
            · exact or_lt (n := 4) (h1 p (by omega)) (h1 m (by omega))
            · exact h1 i (by omega)) (fun i j hi hj hij => by
            by_cases hip : i = p
            · rw [if_pos hip, if_neg (by omega)]
              have a1 := h2 p j (by omega) (by omega) (by omega)
              have a2 := h2 m j (by omega) (by omega) (by omega)
              rw [Nat.and_or_distrib_right, a1, a2]; rfl
            · rw [if_neg hip]
              by_cases hjp : j = p
              · rw [if_pos hjp]
                have a1 := h2 i p (by omega) (by omega) (by omega)
                have a2 := h2 i m (by omega) (by omega) (by omega)
                rw [Nat.and_or_distrib_left, a1, a2]; rfl
              · rw [if_neg hjp]; exact h2 i j (by omega) (by omega) hij) (fun i hi hpos => by
            by_cases hip : i = p
            · rw [if_pos hip, if_pos hip, hip]
              rcases Nat.eq_zero_or_pos (A p) with q | q
              · rw [q, Nat.zero_or]; omega
              · have u := TR_un (d := d) (R := R) (D := D) (x := f p) (h1 p (by omega)) (h1 m (by omega)) q (by omega) (h2 p m (by omega) (by omega) (by omega))
                have v := h3 p (by omega) q
                omega
            · rw [if_neg hip] at hpos ⊢
              rw [if_neg hip]
              exact h3 i (by omega) hpos) (by
            rw [orF_u A (A m) p m p1]
            exact h4)
        rw [orF_u A (A m) p m p1, smF_u a (a m + 1) p m p1] at i1
        rw [orF, smF]
        omega
theorem orF_bit (A : Nat → Nat) (t : Nat) : ∀ m, (orF A m).testBit t = true ↔ ∃ i, i < m ∧ (A i).testBit t = true := by
  intro m
  induction m with
  | zero => rw [orF, Nat.zero_testBit]; simp
  | succ m ih =>
    rw [orF, Nat.testBit_or, Bool.or_eq_true, ih]
    constructor
    · rintro (⟨i, h1, h2⟩ | h)
      · exact ⟨i, by omega, h2⟩
      · exact ⟨m, by omega, h⟩
    · rintro ⟨i, h1, h2⟩
      by_cases hi : i = m
      · rw [hi] at h2; exact Or.inr h2
      · exact Or.inl ⟨i, by omega, h2⟩
theorem smF_0 : ∀ m, smF (fun _ => 0) m = 0 := by
  intro m
  induction m with
  | zero => rfl
  | succ m ih => rw [smF, ih]
theorem span (hd : okL d) (hK0 : 0 < lK d) (h : ∀ e, e < lK d → (rc (lW d) (pR d) (pD d) (2 ^ lT d 0) 20).testBit (lT d e) = true) : TR d R D (2 ^ lK d - 1) (lT d 0) + 1 ≤ lC d := by
  have hK := hd.2.2.2.1
  have ha := hd.2.2.2.2.2.1 0 hK0
  have inj := hd.2.2.2.2.2.2
  obtain ⟨m, f, h1, h2, h3, h4, h5, h6⟩ := order hd ha (lC d + 1)
  have hm := pigeon (lC d) m f h3 h4
  have cl := h6.resolve_left (by omega)
  have all : ∀ r v, (rc (lW d) (pR d) (pD d) (2 ^ lT d 0) r).testBit v = true → ∃ i, i < m ∧ f i = v := by
    intro r
    induction r with
    | zero =>
      intro v hv
      have hv : (2 ^ lT d 0).testBit v = true := hv
      rw [testBit_two, decide_eq_true_eq] at hv
      exact ⟨0, by omega, by rw [h2, hv]⟩
    | succ r ih =>
      intro v hv
      rcases (sp_bit _ _ _ _ _).mp hv with q | ⟨k, hk, q1, q2⟩
      · exact ih v q
      · obtain ⟨g1, g2⟩ := P_gb hd hk q1
        obtain ⟨i, i1, i2⟩ := ih _ q2
        exact cl i i1 (opp k) v (by rw [i2]; exact gb_opp hd g1 g2)
  have mb : ∀ i t, (setN (fun t => decide (lT d t = f i)) (lK d)).testBit t = true ↔ t < lK d ∧ lT d t = f i := by
    intro i t
    rw [setN_bit, decide_eq_true_eq]
  have m16 : ∀ i, setN (fun t => decide (lT d t = f i)) (lK d) < 16 := by
    intro i
    apply Nat.lt_pow_two_of_testBit (n := 4)
    intro t ht
    cases hq : (setN (fun t => decide (lT d t = f i)) (lK d)).testBit t with
    | false => rfl
    | true => have := ((mb i t).mp hq).1; omega
  have hall : orF (fun i => setN (fun t => decide (lT d t = f i)) (lK d)) m = 2 ^ lK d - 1 := by
    apply Nat.eq_of_testBit_eq
    intro t
    rw [Bool.eq_iff_iff, orF_bit, Nat.testBit_two_pow_sub_one, decide_eq_true_eq]
    constructor
    · rintro ⟨i, i1, i2⟩
      exact ((mb i t).mp i2).1
    · intro ht
      obtain ⟨i, i1, i2⟩ := all 20 _ (h t ht)
      exact ⟨i, i1, (mb i t).mpr ⟨ht, i2.symm⟩⟩
  have p2 : 2 ≤ 2 ^ lK d := Nat.pow_le_pow_right (n := 2) (by decide) hK0
  have cm := comb (R := R) (D := D) hd h3 h5 m h1 (Nat.le_refl _) (fun i => setN (fun t => decide (lT d t = f i)) (lK d)) (fun _ => 0) (fun i _ => m16 i) (fun i j hi hj hij => by
      apply Nat.eq_of_testBit_eq
      intro t
      rw [Nat.testBit_and, Nat.zero_testBit]
      cases hq : (setN (fun t => decide (lT d t = f i)) (lK d)).testBit t with
      | false => rfl
      | true =>
        cases hq2 : (setN (fun t => decide (lT d t = f j)) (lK d)).testBit t with
        | false => rfl
        | true =>
          have a1 := ((mb i t).mp hq).2
          have a2 := ((mb j t).mp hq2).2
          exact absurd (h4 i j hi hj (a1.symm.trans a2)) hij) (fun i hi hpos => by
      have hex : ∃ t, (setN (fun t => decide (lT d t = f i)) (lK d)).testBit t = true := by
        apply Classical.byContradiction
        intro hn
        have : setN (fun t => decide (lT d t = f i)) (lK d) = 0 := by
          apply Nat.eq_of_testBit_eq
          intro t
          rw [Nat.zero_testBit]
          cases hq : (setN (fun t => decide (lT d t = f i)) (lK d)).testBit t with
          | false => rfl
          | true => exact absurd ⟨t, hq⟩ hn
        omega
      obtain ⟨t, ht⟩ := hex
      have t1 := (mb i t).mp ht
      have e : setN (fun t => decide (lT d t = f i)) (lK d) = 2 ^ t := by
        apply Nat.eq_of_testBit_eq
        intro t'
        rw [Bool.eq_iff_iff, mb, testBit_two, decide_eq_true_eq]
        constructor
        · rintro ⟨q1, q2⟩
          exact inj t t' t1.1 q1 (t1.2.trans q2.symm)
        · intro q
          rw [← q]; exact t1
      rw [e, ← t1.2, TR_base t1.1]
      exact Nat.le_refl _) (by rw [hall]; omega)
  rw [hall, smF_0, h2] at cm
  omega
end SPAN
