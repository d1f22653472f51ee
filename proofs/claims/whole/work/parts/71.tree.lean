/-! ===== trees between towns: what both tables hold ===== -/
def sbS (p s : Nat) : Bool := (p &&& s) == p
def gT (d : Lnd) (R D : Nat) : Gr := fun c k => match gb d c k with
  | none => none
  | some e => some (e, if goB (lW d) R D c k = true then 0 else 1)
def inP (tb : Nat → Nat → Nat) (s x : Nat) : Nat → Nat
  | 0 => FF
  | p + 1 => if 0 < p ∧ sbS p s = true then min (inP tb s x p) (tb p x + tb (s - p) x) else inP tb s x p
def isB (d : Lnd) (s x : Nat) : Bool := (List.range (lK d)).any (fun t => s == 2 ^ t && lT d t == x)
def ini (d : Lnd) (tb : Nat → Nat → Nat) (s x : Nat) : Nat := if isB d s x = true then 0 else inP tb s x s
def tbl (d : Lnd) (R D : Nat) : Nat → Nat → Nat → Nat
  | 0 => fun _ _ => FF
  | s + 1 => fun s' x => if s' = s then rnds (gT d R D) (lC d) (ini d (tbl d R D s) s) (lC d) x else tbl d R D s s' x
/-- the fewest ells more by which a set of towns is joined to a cell -/
def TR (d : Lnd) (R D s x : Nat) : Nat := tbl d R D (s + 1) s x
def iT (d : Lnd) (R D s x : Nat) : Nat := ini d (TR d R D) s x
theorem isB_iff {d : Lnd} {s x : Nat} : isB d s x = true ↔ ∃ t, t < lK d ∧ s = 2 ^ t ∧ lT d t = x := by
  unfold isB
  rw [List.any_eq_true]
  constructor
  · rintro ⟨t, h1, h2⟩
    rw [Bool.and_eq_true, beq_iff_eq, beq_iff_eq] at h2
    exact ⟨t, List.mem_range.mp h1, h2.1, h2.2⟩
  · rintro ⟨t, h1, h2, h3⟩
    refine ⟨t, List.mem_range.mpr h1, ?_⟩
    rw [Bool.and_eq_true, beq_iff_eq, beq_iff_eq]
    exact ⟨h2, h3⟩
theorem inP_le (tb : Nat → Nat → Nat) (s x : Nat) : ∀ p, inP tb s x p ≤ FF := by
  intro p
  induction p with
  | zero => exact Nat.le_refl _
  | succ p ih =>
    rw [inP]
    split
    · exact Nat.le_trans (Nat.min_le_left _ _) ih
    · exact ih
theorem inP_at {tb : Nat → Nat → Nat} {s x p : Nat} (h0 : 0 < p) (hs : sbS p s = true) : ∀ q, p < q → inP tb s x q ≤ tb p x + tb (s - p) x := by
  intro q
  induction q with
  | zero => intro h; omega
  | succ q ih =>
    intro h
    rw [inP]
    by_cases hp : p = q
    · subst hp
      rw [if_pos ⟨h0, hs⟩]
      exact Nat.min_le_right _ _
    · have := ih (by omega)
      split
      · exact Nat.le_trans (Nat.min_le_left _ _) this
      · exact this
theorem inP_or (tb : Nat → Nat → Nat) (s x : Nat) : ∀ q, inP tb s x q = FF ∨ ∃ p, 0 < p ∧ p < q ∧ sbS p s = true ∧ inP tb s x q = tb p x + tb (s - p) x := by
  intro q
  induction q with
  | zero => exact Or.inl rfl
  | succ q ih =>
    rw [inP]
    by_cases hc : 0 < q ∧ sbS q s = true
    · rw [if_pos hc]
      by_cases hle : inP tb s x q ≤ tb q x + tb (s - q) x
      · rw [Nat.min_eq_left hle]
        rcases ih with h | ⟨p, h1, h2, h3, h4⟩
        · exact Or.inl h
        · exact Or.inr ⟨p, h1, by omega, h3, h4⟩
      · rw [Nat.min_eq_right (by omega)]
        exact Or.inr ⟨q, hc.1, by omega, hc.2, rfl⟩
    · rw [if_neg hc]
      rcases ih with h | ⟨p, h1, h2, h3, h4⟩
      · exact Or.inl h
      · exact Or.inr ⟨p, h1, by omega, h3, h4⟩
theorem inP_congr {tb tb' : Nat → Nat → Nat} {s x : Nat} (h : ∀ p, p < s → tb p x = tb' p x) : ∀ q, q ≤ s → inP tb s x q = inP tb' s x q := by
  intro q
  induction q with
  | zero => intro _; rfl
  | succ q ih =>
    intro hq
    rw [inP, inP, ih (by omega)]
    by_cases hc : 0 < q ∧ sbS q s = true
    · rw [if_pos hc, if_pos hc, h q (by omega), h (s - q) (by omega)]
    · rw [if_neg hc, if_neg hc]
section TREE
variable {d : Lnd} {R D : Nat}
theorem tbl_lt (x : Nat) : ∀ n s, s < n → tbl d R D n s x = TR d R D s x := by
  intro n
  induction n with
  | zero => intro s h; omega
  | succ n ih =>
    intro s h
    by_cases hs : s = n
    · subst hs; rfl
    · rw [tbl]
      dsimp only
      rw [if_neg hs]
      exact ih s (by omega)
theorem ini_T (s : Nat) : ini d (tbl d R D s) s = iT d R D s := by
  funext x
  unfold iT ini
  rw [inP_congr (fun p hp => tbl_lt x s p hp) s (Nat.le_refl _)]
theorem TR_r (s x : Nat) : TR d R D s x = rnds (gT d R D) (lC d) (iT d R D s) (lC d) x := by
  unfold TR
  rw [tbl]
  dsimp only
  rw [if_pos rfl, ini_T]
theorem okGT (hd : okL d) : okG (lC d) (gT d R D) := by
  intro c k e w hc hk h
  unfold gT at h
  split at h
  next => cases h
  next e' he =>
    cases h
    exact (gb_lt hd hc he).1
theorem TR_B (hd : okL d) {s x : Nat} (hx : x < lC d) {r : Nat} (hr : lC d ≤ r + 1) : TR d R D s x = Bd (gT d R D) (lC d) (iT d R D s) r x := by
  rw [TR_r]
  exact rnds_eq (okGT hd) hx (by omega) hr
theorem iT_le (s x : Nat) : iT d R D s x ≤ FF := by
  unfold iT ini
  split
  · exact Nat.zero_le _
  · exact inP_le _ _ _ _
theorem TR_i (s x : Nat) : TR d R D s x ≤ iT d R D s x := by
  rw [TR_r]
  exact rnds_le0 _ _ _ x _
theorem TR_le (s x : Nat) : TR d R D s x ≤ FF := Nat.le_trans (TR_i s x) (iT_le s x)
theorem iT_or (s x : Nat) : iT d R D s x = FF ∨ (∃ t, t < lK d ∧ s = 2 ^ t ∧ lT d t = x ∧ iT d R D s x = 0) ∨ (∃ p, 0 < p ∧ p < s ∧ sbS p s = true ∧ iT d R D s x = TR d R D p x + TR d R D (s - p) x) := by
  unfold iT ini
  by_cases h : isB d s x = true
  · obtain ⟨t, h1, h2, h3⟩ := isB_iff.mp h
    rw [if_pos h]
    exact Or.inr (Or.inl ⟨t, h1, h2, h3, rfl⟩)
  · rw [if_neg h]
    rcases inP_or (TR d R D) s x s with h | h
    · exact Or.inl h
    · exact Or.inr (Or.inr h)
theorem TR_base {t : Nat} (ht : t < lK d) : TR d R D (2 ^ t) (lT d t) = 0 := by
  have h := TR_i (d := d) (R := R) (D := D) (2 ^ t) (lT d t)
  have h2 : iT d R D (2 ^ t) (lT d t) = 0 := by
    unfold iT ini
    rw [if_pos (isB_iff.mpr ⟨t, ht, rfl, rfl⟩)]
  omega
theorem TR_mg {p s x : Nat} (h0 : 0 < p) (hp : p < s) (hs : sbS p s = true) : TR d R D s x ≤ TR d R D p x + TR d R D (s - p) x := by
  refine Nat.le_trans (TR_i s x) ?_
  unfold iT ini
  split
  · exact Nat.zero_le _
  · exact inP_at h0 hs s hp
theorem gT_some {c k e : Nat} (h : gb d c k = some e) : gT d R D c k = some (e, if goB (lW d) R D c k = true then 0 else 1) := by
  unfold gT; rw [h]
theorem gT_of {c k e w : Nat} (h : gT d R D c k = some (e, w)) : gb d c k = some e ∧ w = if goB (lW d) R D c k = true then 0 else 1 := by
  unfold gT at h
  split at h
  next => cases h
  next e' he =>
    injection h with h
    injection h with h1 h2
    rw [← h1]
    exact ⟨he, h2.symm⟩
theorem TR_ed (hd : okL d) (s : Nat) {c k e : Nat} (hc : c < lC d) (hk : k < 4) (h : gb d c k = some e) : TR d R D s e ≤ TR d R D s c + if goB (lW d) R D c k = true then 0 else 1 := by
  have he := (gb_lt hd hc h).1
  rw [TR_B hd he (r := lC d) (by omega), TR_B hd hc (r := lC d) (by omega)]
  exact Bd_fix he (by omega) hc hk (gT_some h)
theorem opp_opp {k : Nat} (h : k < 4) : opp (opp k) = k := by
  rcases (show k = 0 ∨ k = 1 ∨ k = 2 ∨ k = 3 by omega) with rfl | rfl | rfl | rfl <;> rfl
theorem go_sym (hd : okL d) (hok : okRD d R D) {c k e : Nat} (hc : c < lC d) (hk : k < 4) (h : gb d c k = some e) : goB (lW d) R D e (opp k) = goB (lW d) R D c k := by
  rw [Bool.eq_iff_iff]
  have hn := (gb_nb h).1
  have hn2 := nb_opp hd hc hn
  constructor
  · intro hg
    have a1 := (goB_nb hd hok (opp_lt k) hg).2
    have a2 := goB_bk (opp_lt k) hg
    rw [hn2] at a1
    injection a1 with a1
    rw [← a1, opp_opp hk] at a2
    exact a2.1
  · intro hg
    have a1 := (goB_nb hd hok hk hg).2
    have a2 := goB_bk hk hg
    rw [hn] at a1
    injection a1 with a1
    rw [← a1] at a2
    exact a2.1
/-- an ell taken back costs the same -/
theorem TR_back (hd : okL d) (hok : okRD d R D) (s : Nat) {c k e w : Nat} (hc : c < lC d) (hk : k < 4) (h : gT d R D c k = some (e, w)) : TR d R D s c ≤ TR d R D s e + w := by
  obtain ⟨h1, h2⟩ := gT_of h
  have he := (gb_lt hd hc h1).1
  have := TR_ed (R := R) (D := D) hd s he (opp_lt k) (gb_opp hd hc h1)
  rw [go_sym hd hok hc hk h1, ← h2] at this
  exact this
end TREE
/-! small sets -/
theorem ss_1 : ∀ s p : Fin 16, (0 < p.val ∧ p.val < s.val ∧ sbS p.val s.val = true) → (0 < s.val - p.val ∧ s.val - p.val < s.val) ∧ p.val &&& (s.val - p.val) = 0 ∧ p.val ||| (s.val - p.val) = s.val ∧ popN s.val 4 ≠ 1 := by decide +kernel
theorem ss_2 : ∀ A B : Fin 16, (0 < A.val ∧ 0 < B.val ∧ A.val &&& B.val = 0) → A.val < (A.val ||| B.val) ∧ sbS A.val (A.val ||| B.val) = true ∧ (A.val ||| B.val) - A.val = B.val ∧ (A.val ||| B.val) < 16 := by decide +kernel
theorem ss_3 : ∀ p q B : Fin 16, (p.val &&& q.val = 0 ∧ (p.val ||| q.val) &&& B.val = 0) → q.val &&& B.val = 0 ∧ p.val &&& (q.val ||| B.val) = 0 := by decide +kernel
theorem ss_4 : ∀ (s : Fin 16) (t : Fin 4), popN s.val 4 = 1 → s.val.testBit t.val = true → s.val = 2 ^ t.val := by decide +kernel
theorem ss_5 : ∀ t : Fin 4, popN (2 ^ t.val) 4 = 1 ∧ (2 ^ t.val).testBit t.val = true := by decide +kernel
section TREE2
variable {d : Lnd} {R D : Nat}
theorem TR_un {A B x : Nat} (hA : A < 16) (hB : B < 16) (hA0 : 0 < A) (hB0 : 0 < B) (h : A &&& B = 0) : TR d R D (A ||| B) x ≤ TR d R D A x + TR d R D B x := by
  obtain ⟨a1, a2, a3, a4⟩ := ss_2 ⟨A, hA⟩ ⟨B, hB⟩ ⟨hA0, hB0, h⟩
  dsimp only at a1 a2 a3 a4
  have := TR_mg (d := d) (R := R) (D := D) (x := x) hA0 a1 a2
  rw [a3] at this
  exact this
/-- the root of a tree may be any of its towns -/
theorem TR_rr (hd : okL d) (hok : okRD d R D) : ∀ A, A < 16 → 0 < A → ∀ B, B < 16 → 0 < B → A &&& B = 0 → ∀ t, t < lK d → A.testBit t = true → ∀ r v, v < lC d → TR d R D (A ||| B) (lT d t) ≤ Bd (gT d R D) (lC d) (iT d R D A) r v + TR d R D B v := by
  intro A
  induction A using Nat.strongRecOn with
  | _ A ih =>
    intro hA hA0 B hB hB0 hAB t ht hAt r
    induction r with
    | zero =>
      intro v hv
      show TR d R D (A ||| B) (lT d t) ≤ iT d R D A v + TR d R D B v
      have part : ∀ p q, 0 < p → 0 < q → p < A → q < A → p &&& q = 0 → p ||| q = A → p.testBit t = true → TR d R D (A ||| B) (lT d t) ≤ TR d R D p v + TR d R D q v + TR d R D B v := by
        intro p q hp0 hq0 hp hq hpq hu hpt
        obtain ⟨s1, s2⟩ := ss_3 ⟨p, by omega⟩ ⟨q, by omega⟩ ⟨B, hB⟩ ⟨hpq, by dsimp only; rw [hu]; exact hAB⟩
        dsimp only at s1 s2
        have u1 := TR_un (d := d) (R := R) (D := D) (x := v) (show q < 16 by omega) hB hq0 hB0 s1
        have u4 := (ss_2 ⟨q, by omega⟩ ⟨B, hB⟩ ⟨hq0, hB0, s1⟩).2.2.2
        have u5 := (ss_2 ⟨q, by omega⟩ ⟨B, hB⟩ ⟨hq0, hB0, s1⟩).1
        dsimp only at u4 u5
        have u2 := ih p hp (by omega) hp0 (q ||| B) u4 (by omega) s2 t ht hpt (lC d) v hv
        rw [← Nat.or_assoc, hu, ← TR_B hd hv (by omega)] at u2
        omega
      rcases iT_or (d := d) (R := R) (D := D) A v with h | ⟨t', h1, h2, h3, h4⟩ | ⟨p, h1, h2, h3, h4⟩
      · rw [h]
        exact Nat.le_trans (TR_le _ _) (Nat.le_add_right _ _)
      · have htt : t = t' := by
          rw [h2, testBit_two, decide_eq_true_eq] at hAt
          exact hAt.symm
        subst htt
        have u1 := TR_un (d := d) (R := R) (D := D) (x := v) hA hB hA0 hB0 hAB
        have u2 := TR_base (d := d) (R := R) (D := D) h1
        rw [← h2, h3] at u2
        rw [h3]
        omega
      · obtain ⟨⟨q0, q1⟩, q2, q3, q4⟩ := ss_1 ⟨A, hA⟩ ⟨p, by omega⟩ ⟨h1, h2, h3⟩
        dsimp only at q0 q1 q2 q3
        have hAt2 := hAt
        rw [← q3, Nat.testBit_or, Bool.or_eq_true] at hAt2
        rw [h4]
        rcases hAt2 with hh | hh
        · exact part p (A - p) h1 q0 h2 q1 q2 q3 hh
        · have := part (A - p) p q0 h1 q1 h2 (by rw [Nat.and_comm]; exact q2) (by rw [Nat.or_comm]; exact q3) hh
          omega
    | succ r ihr =>
      intro v hv
      rcases Bd_or (ed := gT d R D) (n := lC d) (t0 := iT d R D A) r v with h | ⟨c, k, w, h1, h2, h3, h4⟩
      · rw [h]; exact ihr v hv
      · rw [h4]
        have i1 := ihr c h1
        have i2 := TR_back hd hok B h1 h2 h3
        omega
theorem TR_root (hd : okL d) (hok : okRD d R D) {S : Nat} (hS : S < 16) {t : Nat} (ht : t < lK d) (hSt : S.testBit t = true) : ∀ r v, v < lC d → TR d R D S (lT d t) ≤ Bd (gT d R D) (lC d) (iT d R D S) r v := by
  intro r
  induction r with
  | zero =>
    intro v hv
    show TR d R D S (lT d t) ≤ iT d R D S v
    have part : ∀ p q, 0 < p → 0 < q → p < 16 → q < 16 → p &&& q = 0 → p ||| q = S → p.testBit t = true → TR d R D S (lT d t) ≤ TR d R D p v + TR d R D q v := by
      intro p q hp0 hq0 hp hq hpq hu hpt
      have u := TR_rr hd hok p hp hp0 q hq hq0 hpq t ht hpt (lC d) v hv
      rw [hu, ← TR_B hd hv (by omega)] at u
      exact u
    rcases iT_or (d := d) (R := R) (D := D) S v with h | ⟨t', h1, h2, h3, h4⟩ | ⟨p, h1, h2, h3, h4⟩
    · rw [h]; exact TR_le _ _
    · have htt : t = t' := by
        rw [h2, testBit_two, decide_eq_true_eq] at hSt
        exact hSt.symm
      subst htt
      have u2 := TR_base (d := d) (R := R) (D := D) h1
      rw [h2, u2]
      exact Nat.zero_le _
    · obtain ⟨⟨q0, q1⟩, q2, q3, q4⟩ := ss_1 ⟨S, hS⟩ ⟨p, by omega⟩ ⟨h1, h2, h3⟩
      dsimp only at q0 q1 q2 q3
      have hAt2 := hSt
      rw [← q3, Nat.testBit_or, Bool.or_eq_true] at hAt2
      rw [h4]
      rcases hAt2 with hh | hh
      · exact part p (S - p) h1 q0 (by omega) (by omega) q2 q3 hh
      · have := part (S - p) p q0 h1 (by omega) (by omega) (by rw [Nat.and_comm]; exact q2) (by rw [Nat.or_comm]; exact q3) hh
        omega
  | succ r ihr =>
    intro v hv
    rcases Bd_or (ed := gT d R D) (n := lC d) (t0 := iT d R D S) r v with h | ⟨c, k, w, h1, h2, h3, h4⟩
    · rw [h]; exact ihr v hv
    · rw [h4]
      have i1 := ihr c h1
      omega
theorem TR_min (hd : okL d) (hok : okRD d R D) {S : Nat} (hS : S < 16) {t : Nat} (ht : t < lK d) (hSt : S.testBit t = true) {v : Nat} (hv : v < lC d) : TR d R D S (lT d t) ≤ TR d R D S v := by
  rw [TR_B hd hv (r := lC d) (by omega)]
  exact TR_root hd hok hS ht hSt (lC d) v hv
end TREE2
