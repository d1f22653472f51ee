/-! ===== darners ===== -/
theorem andn {A B : Nat} (hA : A < 2 ^ 31) : nI A &&& (nI B ^^^ (-1 : Int32)) = 0 ↔ ∀ i, A.testBit i = true → B.testBit i = true := by
  have e : (nI A &&& (nI B ^^^ (-1 : Int32))).toBitVec = BitVec.ofNat 32 A &&& ~~~ BitVec.ofNat 32 B := by
    show BitVec.ofNat 32 A &&& (BitVec.ofNat 32 B ^^^ (-1 : Int32).toBitVec) = _
    rw [show (-1 : Int32).toBitVec = BitVec.allOnes 32 from by decide, BitVec.xor_allOnes]
  rw [← Int32.toBitVec_inj, e, show (0 : Int32).toBitVec = 0#32 from rfl]
  constructor
  · intro h i hi
    have h31 : i < 31 := by
      apply Nat.lt_of_not_le
      intro q
      rw [Nat.testBit_lt_two_pow (Nat.lt_of_lt_of_le hA (Nat.pow_le_pow_right (by decide) q))] at hi
      cases hi
    have := congrArg (fun x => BitVec.getLsbD x i) h
    simp only [BitVec.getLsbD_and, BitVec.getLsbD_not, BitVec.getLsbD_ofNat, BitVec.getLsbD_zero] at this
    rw [hi, decide_eq_true (show i < 32 by omega)] at this
    simpa using this
  · intro h
    apply BitVec.eq_of_getLsbD_eq
    intro i hi
    simp only [BitVec.getLsbD_and, BitVec.getLsbD_not, BitVec.getLsbD_ofNat, BitVec.getLsbD_zero]
    cases ha : A.testBit i with
    | false => simp
    | true => rw [h i ha]; simp
def hrd (W R D x : Nat) : Bool := goB W R D x 0 || goB W R D x 1 || goB W R D x 2 || goB W R D x 3
theorem hrd_iff (W R D x : Nat) : hrd W R D x = true ↔ ∃ k, k < 4 ∧ goB W R D x k = true := by
  unfold hrd
  simp only [Bool.or_eq_true]
  constructor
  · rintro (((h | h) | h) | h)
    · exact ⟨0, by decide, h⟩
    · exact ⟨1, by decide, h⟩
    · exact ⟨2, by decide, h⟩
    · exact ⟨3, by decide, h⟩
  · rintro ⟨k, hk, h⟩
    rcases (show k = 0 ∨ k = 1 ∨ k = 2 ∨ k = 3 by omega) with rfl | rfl | rfl | rfl
    · exact Or.inl (Or.inl (Or.inl h))
    · exact Or.inl (Or.inl (Or.inr h))
    · exact Or.inl (Or.inr h)
    · exact Or.inr h
theorem hrd_lt {d : Lnd} (hd : okL d) {R D : Nat} (hok : okRD d R D) {x : Nat} (h : hrd (lW d) R D x = true) : x < lC d := by
  obtain ⟨k, hk, hg⟩ := (hrd_iff _ _ _ _).mp h
  exact (goB_nb hd hok hk hg).1
def wrN (W R D : Nat) : Nat := ((R ||| R * 2 ^ 1) ||| D) ||| D * 2 ^ W
theorem wr_bit (W R D x : Nat) : (wrN W R D).testBit x = hrd W R D x := by
  unfold wrN hrd
  simp only [Nat.testBit_or, Nat.testBit_mul_two_pow, goB_0, goB_1, goB_2, goB_3]
  rw [show decide (1 ≤ x) = decide (0 < x) from rfl]
  generalize R.testBit x = a
  generalize (decide (0 < x) && R.testBit (x - 1)) = b
  generalize D.testBit x = c
  generalize (decide (W ≤ x) && D.testBit (x - W)) = e
  cases a <;> cases b <;> cases c <;> cases e <;> rfl
theorem wr_lt {d : Lnd} (hd : okL d) {R D : Nat} (hok : okRD d R D) : wrN (lW d) R D < 2 ^ 20 := by
  refine inC_lt hd (fun x hx => ?_)
  rw [wr_bit] at hx
  exact hrd_lt hd hok hx
def nrB (d : Lnd) (R D s m : Nat) : Bool := (List.range (lC d)).all (fun x => !hrd (lW d) R D x || (rc (lW d) R D (tset d s (lK d)) m).testBit x)
theorem nrB_iff {d : Lnd} {R D s m : Nat} : nrB d R D s m = true ↔ ∀ x, x < lC d → hrd (lW d) R D x = true → (rc (lW d) R D (tset d s (lK d)) m).testBit x = true := by
  unfold nrB
  rw [List.all_eq_true]
  constructor
  · intro h x hx hr
    have := h x (List.mem_range.mpr hx)
    rw [hr] at this
    simpa using this
  · intro h x hx
    have hx' := List.mem_range.mp hx
    cases hr : hrd (lW d) R D x with
    | false => rfl
    | true => rw [h x hx' hr]; rfl
def bet (o : Option Nat) (s : Nat) : Bool := match o with
  | none => true
  | some t => decide (popN s 4 < popN t 4)
def dnr (d : Lnd) (R D m : Nat) : Nat → Option Nat
  | 0 => none
  | s + 1 => if (bet (dnr d R D m s) s && nrB d R D s m) = true then some s else dnr d R D m s
theorem dnr_lt {d : Lnd} {R D m : Nat} : ∀ s t, dnr d R D m s = some t → t < s := by
  intro s
  induction s with
  | zero => intro t h; cases h
  | succ s ih =>
    intro t h
    rw [dnr] at h
    split at h
    · cases h; omega
    · have := ih t h; omega
theorem pop_4 : ∀ t : Fin 16, popN t.val 20 = popN t.val 4 := by decide +kernel
theorem tset_inC {d : Lnd} (hd : okL d) (s : Nat) {n : Nat} (hn : n ≤ lK d) : inC d (tset d s n) := by
  intro x hx
  obtain ⟨t, h1, h2, h3⟩ := (tset_bit d s x n).mp hx
  rw [← h3]
  exact hd.2.2.2.2.2.1 t (by omega)
theorem c_fewest {O : Nat} (h : isRo O) {g : eS} {d : Lnd} (hL : CL g 1 3 5 d) (hd : okL d) {R D : Nat} (hok : okRD d R D) (e1 : g.1 O 1 = nI R) (e2 : g.1 O 2 = nI D) {m : Nat} (hm : m ≤ 20) : fX6_fewestDarners O (nI m) (eE g) = some (oM9 (dnr d R D m (2 ^ lK d)), eE g) := by
  obtain ⟨o1, o2, o3, o4, -⟩ := ro_O h g
  have hK := hd.2.2.2.1
  have hW := hd.1
  have hp : 2 ^ lK d ≤ 16 := Nat.pow_le_pow_right (n := 2) (by decide) hK
  have hwr := wr_lt hd hok
  have key : ∀ (fu s : Nat), s ≤ 2 ^ lK d → 2 ^ lK d - s < fu → fX6_fewestDarners_39 fu O (nI m) (nI (wrN (lW d) R D)) (oM9 (dnr d R D m s)) (nI s) (eE g) = some (oM9 (dnr d R D m (2 ^ lK d)), eE g) := by
    intro fu
    induction fu with
    | zero => intro s h1 h2; omega
    | succ fu ih =>
      intro s h1 h2
      rw [fX6_fewestDarners_39, o2, bis, c_towns hL, b2s, m_bit, b2s, bit_nI _ (by omega)]
      by_cases hs : s = 2 ^ lK d
      · rw [hs, if_pos (nI_le (Nat.le_refl _) (by omega))]
      · have hs2 : s < 2 ^ lK d := by omega
        rw [if_neg (nI_ge hs2 (by omega))]
        have nx := ih (s + 1) (by omega) (by omega)
        rw [dnr] at nx
        have ct := c_ofTowns g1 hL hd (s := s) (by omega)
        have cr := c_reach h hL hd hok e1 e2 (tset_inC hd s (Nat.le_refl (lK d))) hm
        have tst : bet (dnr d R D m s) s = true → fX6_fewestDarners_74 (fX6_fewestDarners_39 fu) O (nI m) (nI (wrN (lW d) R D)) (oM9 (dnr d R D m s)) (nI s) (eE g) = some (oM9 (dnr d R D m (2 ^ lK d)), eE g) := by
          intro hb
          rw [hb, Bool.true_and] at nx
          rw [fX6_fewestDarners_74, fX6_fewestDarners_79, if_neg one_ne0, o2, bis, ct, b2s, cr, b2s]
          have an := andn (A := wrN (lW d) R D) (B := rc (lW d) R D (tset d s (lK d)) m) (by omega)
          cases hn : nrB d R D s m with
          | true =>
            rw [hn, if_pos rfl] at nx
            have hz : nI (wrN (lW d) R D) &&& (nI (rc (lW d) R D (tset d s (lK d)) m) ^^^ (-1 : Int32)) = 0 := an.mpr (fun i hi => by
              rw [wr_bit] at hi
              exact nrB_iff.mp hn i (hrd_lt hd hok hi) hi)
            rw [if_pos hz, fX6_fewestDarners_111, nI_1]
            exact nx
          | false =>
            rw [hn, if_neg (by decide)] at nx
            have hz : ¬ nI (wrN (lW d) R D) &&& (nI (rc (lW d) R D (tset d s (lK d)) m) ^^^ (-1 : Int32)) = 0 := fun q => by
              have : nrB d R D s m = true := nrB_iff.mpr (fun x hx hr => an.mp q x (by rw [wr_bit]; exact hr))
              rw [hn] at this
              cases this
            rw [if_neg hz, fX6_fewestDarners_111, nI_1]
            exact nx
        cases ho : dnr d R D m s with
        | none =>
          rw [show oM9 none = -9 from rfl, if_pos rfl]
          have t1 := tst (by rw [ho]; rfl)
          rw [ho] at t1
          exact t1
        | some t =>
          have ht := dnr_lt s t ho
          have p1 : popN s 20 = popN s 4 := pop_4 ⟨s, by omega⟩
          have p2 : popN t 20 = popN t 4 := pop_4 ⟨t, by omega⟩
          have q1 := popN_le s 4
          have q2 := popN_le t 4
          rw [show oM9 (some t) = nI t from rfl, if_neg (nI_neg9 (by omega)), c_bitCount (by omega), b2s, c_bitCount (by omega), b2s, p1, p2]
          by_cases hle : popN t 4 ≤ popN s 4
          · rw [if_pos (nI_le hle (by omega)), fX6_fewestDarners_79, if_pos rfl, fX6_fewestDarners_111, nI_1]
            rw [ho, show bet (some t) s = false from decide_eq_false (by omega), Bool.false_and, if_neg (by decide)] at nx
            exact nx
          · rw [if_neg (nI_ge (by omega) (by omega))]
            have t1 := tst (by rw [ho]; exact decide_eq_true (by omega))
            rw [ho] at t1
            exact t1
  obtain ⟨r20, d20⟩ := okRD_lt hd hok
  have w5 : 2 ^ lW d ≤ 2 ^ 5 := Nat.pow_le_pow_right (by decide) hW.2
  have a3 : D * 2 ^ lW d < 2 ^ 32 := by
    have := Nat.mul_le_mul (Nat.le_of_lt d20) w5
    omega
  have hs := sh_fin ⟨lW d, by omega⟩
  dsimp only at hs
  rw [fX6_fewestDarners, o1, cond_true, fX6_fewestDarners_0, o2, bis, c_wide hL, b2s, o3, bis, bis, o4, bis, bis, e1, e2, pk_shlN _ 1 sh1_s (by omega), pk_shlN _ (lW d) hs a3, nI_or, nI_or, nI_or]
  exact key eN 0 (Nat.zero_le _) (by rw [eN_eq]; omega)
/-! the model's -/
theorem q_ones {s : Nat} (hs : s < 16) (w : eW) : fX11_ones (nI s) w = some (nI (popN s 4), w) := by
  have key : ∀ (fu k : Nat), k ≤ 4 → 4 - k < fu → fX11_ones_4 fu (nI s) (nI (popN s k)) (nI k) w = some (nI (popN s 4), w) := by
    intro fu
    induction fu with
    | zero => intro k h1 h2; omega
    | succ fu ih =>
      intro k h1 h2
      rw [fX11_ones_4]
      by_cases hk : k = 4
      · subst hk
        rw [if_pos (by decide)]
      · rw [if_neg (show ¬ (4 : Int32) ≤ nI k from nI_ge (a := k) (b := 4) (by omega) (by decide)), shr1 (by omega) (by omega), nI_add, nI_1]
        exact ih (k + 1) (by omega) (by omega)
  rw [fX11_ones, fX11_ones_0]
  exact key eN 0 (Nat.zero_le _) (by rw [eN_eq]; omega)
def lowN (S : Nat) : Nat → Nat
  | 0 => 0
  | n + 1 => if S.testBit n = true then lowN S n ||| 2 ^ n else lowN S n
theorem lowN_bit (S i : Nat) : ∀ n, (lowN S n).testBit i = true ↔ i < n ∧ S.testBit i = true := by
  intro n
  induction n with
  | zero => rw [lowN, Nat.zero_testBit]; simp
  | succ n ih =>
    rw [lowN]
    by_cases hq : S.testBit n = true
    · rw [if_pos hq, tb_or, Bool.or_eq_true, ih, decide_eq_true_eq]
      constructor
      · rintro (h | h)
        · exact ⟨by omega, h.2⟩
        · subst h; exact ⟨by omega, hq⟩
      · rintro ⟨h1, h2⟩
        by_cases h3 : n = i
        · exact Or.inr h3
        · exact Or.inl ⟨by omega, h2⟩
    · rw [if_neg hq, ih]
      constructor
      · rintro ⟨h1, h2⟩; exact ⟨by omega, h2⟩
      · rintro ⟨h1, h2⟩
        refine ⟨?_, h2⟩
        by_cases h3 : n = i
        · subst h3; exact absurd h2 hq
        · omega
theorem lowN_all {d : Lnd} {S : Nat} (h : inC d S) : lowN S (lC d) = S := by
  apply Nat.eq_of_testBit_eq
  intro i
  rw [Bool.eq_iff_iff, lowN_bit]
  exact ⟨fun q => q.2, fun q => ⟨h i q, q⟩⟩
theorem sp_or (W R D S Q : Nat) : spN W R D (S ||| Q) = spN W R D S ||| spN W R D Q := by
  apply Nat.eq_of_testBit_eq
  intro x
  rw [Bool.eq_iff_iff, Nat.testBit_or, Bool.or_eq_true, sp_bit, sp_bit, sp_bit, Nat.testBit_or, Bool.or_eq_true]
  constructor
  · rintro ((h | h) | ⟨k, hk, h1, h2⟩)
    · exact Or.inl (Or.inl h)
    · exact Or.inr (Or.inl h)
    · rw [Nat.testBit_or, Bool.or_eq_true] at h2
      rcases h2 with h2 | h2
      · exact Or.inl (Or.inr ⟨k, hk, h1, h2⟩)
      · exact Or.inr (Or.inr ⟨k, hk, h1, h2⟩)
  · rintro ((h | ⟨k, hk, h1, h2⟩) | (h | ⟨k, hk, h1, h2⟩))
    · exact Or.inl (Or.inl h)
    · exact Or.inr ⟨k, hk, h1, by rw [Nat.testBit_or, h2, Bool.true_or]⟩
    · exact Or.inl (Or.inr h)
    · exact Or.inr ⟨k, hk, h1, by rw [Nat.testBit_or, h2, Bool.or_true]⟩
theorem rc_or (W R D S Q : Nat) : ∀ n, rc W R D (S ||| Q) n = rc W R D S n ||| rc W R D Q n := by
  intro n
  induction n with
  | zero => rfl
  | succ n ih => rw [rc, ih, sp_or]; rfl
theorem rc_z (W R D : Nat) : ∀ n, rc W R D 0 n = 0 := by
  intro n
  induction n with
  | zero => rfl
  | succ n ih => rw [rc, ih]; unfold spN; simp
theorem rbN_z : ∀ a b c d : Bool, nI (rbN a b c d) = 0 ↔ (a || b || c || d) = false := by decide
theorem rbG_z (W R D x : Nat) : nI (rbG (goB W R D x)) = 0 ↔ hrd W R D x = false := rbN_z _ _ _ _
theorem q_near {g : eS} {d : Lnd} (hL : ML g d) (hd : okL d) {R D : Nat} (hok : okRD d R D) (hR : MR g d R D) {s m : Nat} (hs : s < 16) (hm : m ≤ 20) (G : Nat → Int32) : ∃ G', fX11_areNear 38 (nI s) (nI m) (eE (eSA g 50 G)) = some (if nrB d R D s m then 1 else 0, eE (eSA g 50 G')) := by
  have hC := okL_C hd
  have hK := hd.2.2.2.1
  have hff : FF = 1000000 := rfl
  have hMi := rc_inC hd hok (tset_inC hd s (Nat.le_refl (lK d))) m
  have hM20 := inC_lt hd hMi
  have k89 : ∀ (G : Nat → Int32) (fv c : Nat) (b : Bool), c ≤ lC d → lC d - c < fv → (b = true ↔ ∀ x, x < c → hrd (lW d) R D x = true → (rc (lW d) R D (tset d s (lK d)) m).testBit x = true) → fX11_areNear_89 fv 38 (nI (rc (lW d) R D (tset d s (lK d)) m)) (if b then 1 else 0) (nI c) (eE (eSA g 50 G)) = some (if nrB d R D s m then 1 else 0, eE (eSA g 50 G)) := by
    intro G fv
    have hL' := kp_ML (kp_50 g G) hL
    induction fv with
    | zero => intro c b h1 h2; omega
    | succ fv ih =>
      intro c b h1 h2 hb
      rw [fX11_areNear_89, q_cells hL', b2s]
      by_cases hc : c = lC d
      · rw [hc, if_pos (nI_le (Nat.le_refl _) (by omega)), eZ_b, bis]
        rw [hc, ← nrB_iff] at hb
        rw [Bool.eq_iff_iff.mpr hb]
      · have hc2 : c < lC d := by omega
        rw [if_neg (nI_ge hc2 (by omega))]
        have l2 : eLd (eE (eSA g 50 G)) false 48 (nI c) = some (nI (rbG (goB (lW d) R D c))) := by rw [ld (n := 20) _ ar_48 (by decide) (by omega), sA50o g G (by decide), hR c hc2]
        cases b with
        | false =>
          rw [if_pos (show (if false = true then (1 : Int32) else 0) = 0 by decide), fX11_areNear_127, fX11_areNear_128, nI_1]
          exact ih (c + 1) false (by omega) (by omega) ⟨fun q => (by cases q), fun q => hb.mpr (fun e he => q e (by omega))⟩
        | true =>
          rw [if_neg (show ¬ (if true = true then (1 : Int32) else 0) = 0 by decide)]
          simp only [tR, bis, l2]
          have yes : (hrd (lW d) R D c = true → (rc (lW d) R D (tset d s (lK d)) m).testBit c = true) → fX11_areNear_123 (fX11_areNear_89 fv) 38 (nI (rc (lW d) R D (tset d s (lK d)) m)) (nI c) (eE (eSA g 50 G)) = some (if nrB d R D s m then 1 else 0, eE (eSA g 50 G)) := by
            intro hy
            rw [fX11_areNear_123, fX11_areNear_128, nI_1]
            refine ih (c + 1) true (by omega) (by omega) ⟨fun _ e he => ?_, fun _ => rfl⟩
            by_cases q : e = c
            · rw [q]; exact hy
            · exact hb.mp rfl e (by omega)
          cases hh : hrd (lW d) R D c with
          | false =>
            rw [if_pos ((rbG_z _ _ _ _).mpr hh)]
            exact yes (fun q => by rw [hh] at q; cases q)
          | true =>
            rw [if_neg (fun q => by rw [(rbG_z _ _ _ _).mp q] at hh; cases hh), shr1 (by omega) (by omega)]
            cases hq : (rc (lW d) R D (tset d s (lK d)) m).testBit c with
            | true =>
              rw [if_pos (show nI (if true = true then 1 else 0) = (1 : Int32) by decide)]
              exact yes (fun _ => hq)
            | false =>
              rw [if_neg (show ¬ nI (if false = true then 1 else 0) = (1 : Int32) by decide), fX11_areNear_127, fX11_areNear_128, nI_1]
              exact ih (c + 1) false (by omega) (by omega) ⟨fun q => (by cases q), fun q => by have := q c (by omega) hh; rw [hq] at this; exact this⟩
  have key : ∀ (fu t : Nat) (G : Nat → Int32), t ≤ lK d → lK d - t < fu → ∃ G', fX11_areNear_5 fu 38 (nI s) (nI m) (nI (rc (lW d) R D (tset d s t) m)) (nI t) (eE (eSA g 50 G)) = some (if nrB d R D s m then 1 else 0, eE (eSA g 50 G')) := by
    intro fu
    induction fu with
    | zero => intro t G h1 h2; omega
    | succ fu ih =>
      intro t G h1 h2
      have hL' := kp_ML (kp_50 g G) hL
      simp only [fX11_areNear_5, tR, tK, bis, hL'.2.2.2.1]
      by_cases ht : t = lK d
      · rw [ht, if_pos (nI_le (Nat.le_refl _) (by omega))]
        have k0 := k89 G eN 0 true (by omega) (by rw [eN_eq]; omega) ⟨fun _ x hx => absurd hx (Nat.not_lt_zero _), fun _ => rfl⟩
        rw [nI_0, if_pos rfl] at k0
        exact ⟨G, k0⟩
      · have ht2 : t < lK d := by omega
        have hT := hd.2.2.2.2.2.1 t ht2
        rw [if_neg (nI_ge ht2 (by omega)), tb_1 hs (by omega)]
        have nx := fun G => ih (t + 1) G (by omega) (by omega)
        simp only [tset] at nx
        cases hq : s.testBit t with
        | false =>
          simp only [hq, show ¬ false = true by decide, if_false] at nx
          rw [if_neg (show ¬ (if false = true then (1 : Int32) else 0) = 1 by decide), fX11_areNear_77, nI_1]
          exact nx G
        | true =>
          simp only [hq, if_true, rc_or] at nx
          rw [if_pos (show (if true = true then (1 : Int32) else 0) = 1 by decide)]
          have lt := q_t hL' hd ht2
          obtain ⟨G1, s1, s2⟩ := q_spreads hL' hd hok (MR_50 hR G) hT
          rw [eSA_same] at s1
          rw [lt, bis, s1, bis]
          have hLq := kp_ML (kp_50 g G1) hL
          have hTi := rc_inC hd hok (inC_1 hT) m
          have k40 : ∀ (fv c : Nat), c ≤ lC d → lC d - c < fv → ∃ G', fX11_areNear_40 (fX11_areNear_5 fu) fv 38 (nI s) (nI m) (nI (rc (lW d) R D (tset d s t) m ||| lowN (rc (lW d) R D (2 ^ lT d t) m) c)) (nI t) (nI c) (eE (eSA g 50 G1)) = some (if nrB d R D s m then 1 else 0, eE (eSA g 50 G')) := by
            intro fv
            induction fv with
            | zero => intro c h3 h4; omega
            | succ fv ihv =>
              intro c h3 h4
              rw [fX11_areNear_40, q_cells hLq, b2s]
              by_cases hc : c = lC d
              · rw [hc, if_pos (nI_le (Nat.le_refl _) (by omega)), fX11_areNear_77, nI_1, lowN_all hTi]
                exact nx G1
              · have hc2 : c < lC d := by omega
                have hdl := dst_le (S := 2 ^ lT d t) (v := m) hd hok hc2 (by omega)
                have hle : dst d R D (2 ^ lT d t) c ≤ FF := Nat.le_trans (Bd_mono (Nat.zero_le _) _) (fS_le _ _)
                rw [if_neg (nI_ge hc2 (by omega))]
                simp only [tR, bis]
                rw [ld (n := 20) _ ar_50 (by decide) (by omega), bis, sA50, s2 c hc2]
                have nk := ihv (c + 1) (by omega) (by omega)
                rw [lowN] at nk
                cases hb : (rc (lW d) R D (2 ^ lT d t) m).testBit c with
                | true =>
                  rw [hb, if_pos rfl, ← Nat.or_assoc] at nk
                  rw [if_neg (nI_nlt (hdl.mpr hb) (by omega)), fX11_areNear_69, bit_nI c (by omega), nI_or, nI_1]
                  exact nk
                | false =>
                  rw [hb, if_neg (by decide)] at nk
                  rw [hb] at hdl
                  rw [if_pos (nI_lt (by apply Nat.lt_of_not_le; intro q; exact absurd (hdl.mp q) (by decide)) (by omega)), fX11_areNear_69, show (0 : Int32) = nI 0 from rfl, nI_or, Nat.or_zero, nI_1]
                  exact nk
          have k0 := k40 eN 0 (by omega) (by rw [eN_eq]; omega)
          rw [show lowN (rc (lW d) R D (2 ^ lT d t) m) 0 = 0 from rfl, Nat.or_zero, nI_0] at k0
          exact k0
  obtain ⟨G', k0⟩ := key eN 0 G (by omega) (by rw [eN_eq]; omega)
  refine ⟨G', ?_⟩
  rw [show tset d s 0 = 0 from rfl, rc_z, nI_0] at k0
  simp only [fX11_areNear, fX11_areNear_0, tO, cond_true]
  exact k0
theorem q_darn {g : eS} {d : Lnd} (hL : ML g d) (hd : okL d) {R D : Nat} (hok : okRD d R D) (hR : MR g d R D) {m : Nat} (hm : m ≤ 20) : ∃ G', fX11_darners_30 eN 38 (nI m) (-9) 0 (eE g) = some (oM9 (dnr d R D m (2 ^ lK d)), eE (eSA g 50 G')) := by
  have hK := hd.2.2.2.1
  have hp : 2 ^ lK d ≤ 16 := Nat.pow_le_pow_right (n := 2) (by decide) hK
  have key : ∀ (fu s : Nat) (G : Nat → Int32), s ≤ 2 ^ lK d → 2 ^ lK d - s < fu → ∃ G', fX11_darners_30 fu 38 (nI m) (oM9 (dnr d R D m s)) (nI s) (eE (eSA g 50 G)) = some (oM9 (dnr d R D m (2 ^ lK d)), eE (eSA g 50 G')) := by
    intro fu
    induction fu with
    | zero => intro s G h1 h2; omega
    | succ fu ih =>
      intro s G h1 h2
      have hL' := kp_ML (kp_50 g G) hL
      simp only [fX11_darners_30, tR, tK, bis, hL'.2.2.2.1]
      rw [bit_nI _ (show lK d < 31 by omega)]
      by_cases hs : s = 2 ^ lK d
      · rw [hs, if_pos (nI_le (Nat.le_refl _) (by omega))]
        exact ⟨G, rfl⟩
      · have hs2 : s < 2 ^ lK d := by omega
        rw [if_neg (nI_ge hs2 (by omega))]
        have nx := fun G => ih (s + 1) G (by omega) (by omega)
        simp only [dnr] at nx
        have tst : bet (dnr d R D m s) s = true → ∃ G', fX11_darners_59 (fX11_darners_30 fu) 38 (nI m) (oM9 (dnr d R D m s)) (nI s) (eE (eSA g 50 G)) = some (oM9 (dnr d R D m (2 ^ lK d)), eE (eSA g 50 G')) := by
          intro hb
          obtain ⟨G1, n1⟩ := q_near hL hd hok hR (s := s) (by omega) hm G
          simp only [hb, Bool.true_and] at nx
          rw [fX11_darners_59, n1, b2s]
          cases hn : nrB d R D s m with
          | true =>
            simp only [hn, if_true] at nx
            rw [if_neg (show ¬ (if true = true then (1 : Int32) else 0) = 0 by decide), fX11_darners_73, nI_1]
            exact nx G1
          | false =>
            simp only [hn, show ¬ false = true by decide, if_false] at nx
            rw [if_pos (show (if false = true then (1 : Int32) else 0) = 0 by decide), fX11_darners_72, fX11_darners_73, nI_1]
            exact nx G1
        cases ho : dnr d R D m s with
        | none =>
          rw [show oM9 none = -9 from rfl, if_pos rfl]
          have t1 := tst (by rw [ho]; rfl)
          rw [ho] at t1
          exact t1
        | some t =>
          have ht := dnr_lt s t ho
          have q1 := popN_le s 4
          have q2 := popN_le t 4
          rw [show oM9 (some t) = nI t from rfl, if_neg (nI_neg9 (by omega)), q_ones (by omega), b2s, q_ones (by omega), b2s]
          by_cases hle : popN t 4 ≤ popN s 4
          · rw [if_pos (nI_le hle (by omega)), fX11_darners_72, fX11_darners_73, nI_1]
            simp only [ho, show bet (some t) s = false from decide_eq_false (by omega), Bool.false_and, show ¬ false = true by decide, if_false] at nx
            exact nx G
          · rw [if_neg (nI_ge (by omega) (by omega))]
            have t1 := tst (by rw [ho]; exact decide_eq_true (by omega))
            rw [ho] at t1
            exact t1
  obtain ⟨G', k0⟩ := key eN 0 (g.2.1 50) (Nat.zero_le _) (by rw [eN_eq]; omega)
  rw [eSA_self] at k0
  exact ⟨G', k0⟩
theorem sim17 : Sim17 Rl := by
  intro g r u
  obtain ⟨n, tx, d, z, kn, nx, H, kp, Z, r1, r2, r8, r9, r10⟩ := id r
  have hd := r2.2.2.1
  have ho := r2.2.2.2.2.2
  have hok := rd_ok hd ho
  rcases inOr u (show 21 < 2 ^ 31 by decide) with ⟨m, hm, rfl⟩ | hu
  · have l1 := c_lay R22 b14 (rb_CS r2)
    have k1 := kp_rd R22 g (rdR d z) (rdD d z)
    have cf := c_fewest R22 (kp_CL k1 r2.1) hd hok (rdS_1 g 22 _ _) (rdS_2 g 22 _ _) (m := m) (by omega)
    have k2 := kp_tr k1 (kp_th _)
    obtain ⟨F, T, f1, f2, f3, f4⟩ := q_builds a43 (kp_MS k2 (rb_MS r2))
    have k3 := kp_tr k2 (kp_ar _ F T)
    obtain ⟨G, s1⟩ := q_darn (kp_ML k3 r2.2.1) hd f4 f2 (m := m) (by omega)
    have e5 : ∀ w, fX11_in (nI m) 0 20 w = some (1, w) := fun w => m_inL (m := 20) (by omega) (by decide) w
    refine ⟨oM9 (dnr d (rdR d z) (rdD d z) m (2 ^ lK d)), rdS g 22 (rdR d z) (rdD d z), eSA (arS (eSI (rdS g 22 (rdR d z) (rdD d z)) 38 0 0) F T) 50 G, ?_, ?_, kp_Rl (kp_tr k3 (kp_50 _ G)) r⟩
    · have h20 : nI m ≤ (20 : Int32) := nI_le (b := 20) (by omega) (by decide)
      simp only [fX10_darners, fX10_darners_0, tO, tR, bis, b2s, cond_true, if_neg (nI_pos (show m < 2 ^ 31 by omega)), if_pos h20, l1, cf]
    · simp only [fX11_darners, fX11_darners_0, tO, tR, tP, bis, b2s, cond_true, e5, if_neg one_ne0, f1, s1]
  · have e5 : ∀ w, fX11_in u 0 20 w = some (0, w) := fun w => m_inLO (m := 20) hu (by decide) w
    refine ⟨-1, g, eSI g 38 0 0, ?_, ?_, kp_Rl (kp_th g) r⟩
    · by_cases h0 : u < 0
      · simp only [fX10_darners, fX10_darners_0, tO, cond_true, if_pos h0]
      · have h1 := hu.resolve_left h0
        have h2 : ¬ u ≤ (20 : Int32) := by
          rw [Int32.le_iff_toInt_le] at h1 ⊢
          rw [nI_toInt (by decide)] at h1
          have : (20 : Int32).toInt = 20 := by decide
          omega
        simp only [fX10_darners, fX10_darners_0, tO, cond_true, if_neg h0, if_neg h2]
    · simp only [fX11_darners, fX11_darners_0, tO, tP, bis, b2s, cond_true, e5, if_true]
