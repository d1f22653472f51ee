/-! ===== what is reached by roads ===== -/
def mv (W x k : Nat) : Nat := if k = 0 then x - W else if k = 1 then x + 1 else if k = 2 then x + W else x - 1
theorem goB_nb {d : Lnd} (hd : okL d) {R D : Nat} (hok : okRD d R D) {x k : Nat} (hk : k < 4) (h : goB (lW d) R D x k = true) : x < lC d ∧ nb (lW d) (lD d) x k = some (mv (lW d) x k) := by
  obtain ⟨hW, hW5⟩ := hd.1
  have hlC : lC d = lW d * lD d := rfl
  rcases (show k = 0 ∨ k = 1 ∨ k = 2 ∨ k = 3 by omega) with rfl | rfl | rfl | rfl
  · rw [goB_0, Bool.and_eq_true, decide_eq_true_eq] at h
    have := hok.2 _ h.2
    refine ⟨by omega, ?_⟩
    unfold nb mv
    rw [if_pos rfl, if_pos h.1, if_pos rfl]
  · rw [goB_1] at h
    have := hok.1 _ h
    refine ⟨this.2, ?_⟩
    unfold nb mv
    rw [if_neg (by decide), if_pos rfl, if_pos this.1, if_neg (by decide), if_pos rfl]
  · rw [goB_2] at h
    have := hok.2 _ h
    refine ⟨by omega, ?_⟩
    unfold nb mv
    rw [if_neg (by decide), if_neg (by decide), if_pos rfl, if_pos (by omega), if_neg (by decide), if_neg (by decide), if_pos rfl]
  · rw [goB_3, Bool.and_eq_true, decide_eq_true_eq] at h
    have := hok.1 _ h.2
    have hn : nb (lW d) (lD d) (x - 1) 1 = some (x - 1 + 1) := by
      unfold nb
      rw [if_neg (by decide), if_pos rfl, if_pos this.1]
    have hl := (nb_lt hd.1.1 this.2 hn).1
    refine ⟨by omega, ?_⟩
    unfold nb mv
    rw [if_neg (by decide), if_neg (by decide), if_neg (by decide), if_pos rfl, if_pos (mod_succ hW hW5 h.1 this.1), if_neg (by decide), if_neg (by decide), if_neg (by decide)]
theorem goB_bk {d : Lnd} {R D : Nat} {x k : Nat} (hk : k < 4) (h : goB (lW d) R D x k = true) : goB (lW d) R D (mv (lW d) x k) (opp k) = true ∧ mv (lW d) (mv (lW d) x k) (opp k) = x := by
  rcases (show k = 0 ∨ k = 1 ∨ k = 2 ∨ k = 3 by omega) with rfl | rfl | rfl | rfl
  · rw [goB_0, Bool.and_eq_true, decide_eq_true_eq] at h
    show goB (lW d) R D (x - lW d) 2 = true ∧ x - lW d + lW d = x
    exact ⟨h.2, by omega⟩
  · rw [goB_1] at h
    show goB (lW d) R D (x + 1) 3 = true ∧ x + 1 - 1 = x
    rw [goB_3, decide_eq_true (Nat.succ_pos x), Bool.true_and, show x + 1 - 1 = x by omega]
    exact ⟨h, rfl⟩
  · rw [goB_2] at h
    show goB (lW d) R D (x + lW d) 0 = true ∧ x + lW d - lW d = x
    rw [goB_0, decide_eq_true (show lW d ≤ x + lW d by omega), Bool.true_and, show x + lW d - lW d = x by omega]
    exact ⟨h, rfl⟩
  · rw [goB_3, Bool.and_eq_true, decide_eq_true_eq] at h
    show goB (lW d) R D (x - 1) 1 = true ∧ x - 1 + 1 = x
    exact ⟨h.2, by omega⟩
def spN (W R D S : Nat) : Nat := S ||| ((S &&& R) * 2 ^ 1 ||| S / 2 ^ 1 &&& R) ||| ((S &&& D) * 2 ^ W ||| S / 2 ^ W &&& D)
theorem sp_bit (W R D S x : Nat) : (spN W R D S).testBit x = true ↔ S.testBit x = true ∨ ∃ k, k < 4 ∧ goB W R D x k = true ∧ S.testBit (mv W x k) = true := by
  unfold spN
  simp only [Nat.testBit_or, Nat.testBit_and, Nat.testBit_mul_two_pow, Nat.testBit_div_two_pow, Bool.or_eq_true, Bool.and_eq_true, decide_eq_true_eq]
  constructor
  · rintro ((h | h | h) | h | h)
    · exact Or.inl h
    · refine Or.inr ⟨3, by decide, ?_, h.2.1⟩
      rw [goB_3, Bool.and_eq_true, decide_eq_true_eq]; exact ⟨h.1, h.2.2⟩
    · refine Or.inr ⟨1, by decide, h.2, ?_⟩
      have := h.1
      rw [show mv W x 1 = x + 1 from rfl]
      first | exact this | (rw [Nat.add_comm]; exact this)
    · refine Or.inr ⟨0, by decide, ?_, h.2.1⟩
      rw [goB_0, Bool.and_eq_true, decide_eq_true_eq]; exact ⟨h.1, h.2.2⟩
    · refine Or.inr ⟨2, by decide, h.2, ?_⟩
      have := h.1
      rw [show mv W x 2 = x + W from rfl]
      first | exact this | (rw [Nat.add_comm]; exact this)
  · rintro (h | ⟨k, hk, h1, h2⟩)
    · exact Or.inl (Or.inl h)
    · rcases (show k = 0 ∨ k = 1 ∨ k = 2 ∨ k = 3 by omega) with rfl | rfl | rfl | rfl
      · rw [goB_0, Bool.and_eq_true, decide_eq_true_eq] at h1
        exact Or.inr (Or.inl ⟨h1.1, h2, h1.2⟩)
      · refine Or.inl (Or.inr (Or.inr ⟨?_, h1⟩))
        rw [show mv W x 1 = x + 1 from rfl] at h2
        first | exact h2 | (rw [Nat.add_comm]; exact h2)
      · refine Or.inr (Or.inr ⟨?_, h1⟩)
        rw [show mv W x 2 = x + W from rfl] at h2
        first | exact h2 | (rw [Nat.add_comm]; exact h2)
      · rw [goB_3, Bool.and_eq_true, decide_eq_true_eq] at h1
        exact Or.inl (Or.inr (Or.inl ⟨h1.1, h2, h1.2⟩))
def inC (d : Lnd) (S : Nat) : Prop := ∀ x, S.testBit x = true → x < lC d
theorem inC_lt {d : Lnd} (hd : okL d) {S : Nat} (h : inC d S) : S < 2 ^ 20 := by
  have hC := okL_C hd
  apply Nat.lt_pow_two_of_testBit
  intro i hi
  cases hq : S.testBit i with
  | false => rfl
  | true => have := h i hq; omega
theorem inC_sp {d : Lnd} (hd : okL d) {R D : Nat} (hok : okRD d R D) {S : Nat} (h : inC d S) : inC d (spN (lW d) R D S) := by
  intro x hx
  rcases (sp_bit _ _ _ _ _).mp hx with q | ⟨k, hk, q, -⟩
  · exact h x q
  · exact (goB_nb hd hok hk q).1
theorem inC_1 {d : Lnd} {c : Nat} (h : c < lC d) : inC d (2 ^ c) := by
  intro x hx
  rw [testBit_two, decide_eq_true_eq] at hx
  omega
theorem sh1_s : ((((1 : Int32) &&& 31).toBitVec.smod 32).toNat = 1) := by decide
theorem c_spread {O : Nat} (h : isRo O) {g : eS} {d : Lnd} (hL : CL g 1 3 5 d) (hd : okL d) {R D : Nat} (hok : okRD d R D) (e1 : g.1 O 1 = nI R) (e2 : g.1 O 2 = nI D) {S : Nat} (hS : S < 2 ^ 20) : fX6_spread O (nI S) (eE g) = some (nI (spN (lW d) R D S), eE g) := by
  obtain ⟨o1, o2, o3, o4, -⟩ := ro_O h g
  have hW := hd.1
  have a1 : (S &&& R) < 2 ^ 20 := and_lt20 hS
  have a2 : (S &&& D) < 2 ^ 20 := and_lt20 hS
  have w5 : 2 ^ lW d ≤ 2 ^ 5 := Nat.pow_le_pow_right (by decide) hW.2
  have a3 : (S &&& D) * 2 ^ lW d < 2 ^ 32 := by
    have := Nat.mul_le_mul (Nat.le_of_lt a2) w5
    omega
  have hs := sh_fin ⟨lW d, by omega⟩
  dsimp only at hs
  rw [fX6_spread, o1, cond_true, fX6_spread_0, o2, bis, c_wide hL, b2s, o3, bis, bis, o4, bis, bis, e1, e2, nI_and, nI_and, pk_shlN _ 1 sh1_s (by omega), pk_shlN _ (lW d) hs a3, pk_shrN (by omega) _ 1 sh1_s, pk_shrN (by omega) _ (lW d) hs, nI_and, nI_and, nI_or, nI_or, nI_or, nI_or]
  rfl
/-- what is within n ells of S -/
def rc (W R D S : Nat) : Nat → Nat
  | 0 => S
  | n + 1 => spN W R D (rc W R D S n)
theorem rc_inC {d : Lnd} (hd : okL d) {R D : Nat} (hok : okRD d R D) {S : Nat} (h : inC d S) : ∀ n, inC d (rc (lW d) R D S n) := by
  intro n
  induction n with
  | zero => exact h
  | succ n ih => exact inC_sp hd hok ih
theorem rc_up (W R D S : Nat) {x n m : Nat} (h : (rc W R D S n).testBit x = true) (hm : n ≤ m) : (rc W R D S m).testBit x = true := by
  induction m with
  | zero => rw [show n = 0 by omega] at h; exact h
  | succ m ih =>
    by_cases q : n = m + 1
    · rw [← q]; exact h
    · exact (sp_bit _ _ _ _ _).mpr (Or.inl (ih (by omega)))
theorem rc_stay (W R D S : Nat) {i : Nat} (h : rc W R D S (i + 1) = rc W R D S i) : ∀ j, i ≤ j → rc W R D S j = rc W R D S i := by
  intro j
  induction j with
  | zero => intro q; rw [show i = 0 by omega]
  | succ j ih =>
    intro q
    by_cases e : i = j + 1
    · rw [e]
    · rw [rc, ih (by omega)]; exact h
theorem c_reach {O : Nat} (h : isRo O) {g : eS} {d : Lnd} (hL : CL g 1 3 5 d) (hd : okL d) {R D : Nat} (hok : okRD d R D) (e1 : g.1 O 1 = nI R) (e2 : g.1 O 2 = nI D) {S m : Nat} (hS : inC d S) (hm : m ≤ 20) : fX6_reach O (nI S) (nI m) (eE g) = some (nI (rc (lW d) R D S m), eE g) := by
  have key : ∀ (fu i p : Nat), i ≤ m → m - i < fu → p < 2 ^ 20 → (rc (lW d) R D S i = p → ∀ j, i ≤ j → rc (lW d) R D S j = rc (lW d) R D S i) → fX6_reach_8 fu O (nI m) (nI (rc (lW d) R D S i)) (nI p) (nI i) (eE g) = some (nI (rc (lW d) R D S m), eE g) := by
    intro fu
    induction fu with
    | zero => intro i p h1 h2; omega
    | succ fu ih =>
      intro i p h1 h2 hp hs
      have hr := inC_lt hd (rc_inC hd hok hS i)
      rw [fX6_reach_8]
      by_cases hi : i = m
      · subst hi
        rw [if_pos (nI_le (Nat.le_refl _) (by omega))]
      · rw [if_neg (nI_ge (show i < m by omega) (by omega))]
        by_cases hq : rc (lW d) R D S i = p
        · rw [if_pos (by rw [hq]), hs hq m h1]
        · rw [if_neg (fun q => hq ((nI_eq (by omega) (by omega)).mp q)), c_spread h hL hd hok e1 e2 hr, b2s, nI_1]
          refine ih (i + 1) (rc (lW d) R D S i) (by omega) (by omega) hr (fun q j hj => ?_)
          rw [rc_stay _ _ _ _ q j (by omega)]
          exact q.symm
  obtain ⟨o1, -⟩ := ro_O h g
  have z0 : ∀ W R D j, rc W R D 0 j = 0 := by
    intro W R D j
    induction j with
    | zero => rfl
    | succ j ih => rw [rc, ih]; unfold spN; simp
  rw [fX6_reach, o1, cond_true, fX6_reach_0]
  exact key eN 0 0 (by omega) (by rw [eN_eq]; omega) (by decide) (fun q j _ => by
    have q' : S = 0 := q
    rw [q', z0, z0])
/-! ells, and what is within them -/
def FF : Nat := 1000000
def ed1 (W R D : Nat) : Gr := fun c k => if goB W R D c k then some (mv W c k, 1) else none
theorem okG1 {d : Lnd} (hd : okL d) {R D : Nat} (hok : okRD d R D) : okG (lC d) (ed1 (lW d) R D) := by
  intro c k e w hc hk h
  unfold ed1 at h
  split at h
  next hg =>
    cases h
    exact (nb_lt hd.1.1 hc (goB_nb hd hok hk hg).2).1
  next => cases h
def fS (S x : Nat) : Nat := if S.testBit x then 0 else FF
section DST
variable {d : Lnd} {R D S : Nat}
theorem rc_B (hd : okL d) (hok : okRD d R D) : ∀ n x, (rc (lW d) R D S n).testBit x = true → Bd (ed1 (lW d) R D) (lC d) (fS S) n x ≤ n := by
  intro n
  induction n with
  | zero =>
    intro x hx
    show fS S x ≤ 0
    have hx' : S.testBit x = true := hx
    unfold fS
    rw [hx', if_pos rfl]
    exact Nat.le_refl _
  | succ n ih =>
    intro x hx
    rcases (sp_bit _ _ _ _ _).mp hx with q | ⟨k, hk, q1, q2⟩
    · exact Nat.le_trans (Bd_dn n x) (Nat.le_succ_of_le (ih x q))
    · obtain ⟨b1, b2⟩ := goB_bk hk q1
      have g1 := goB_nb hd hok hk q1
      have he := (nb_lt hd.1.1 g1.1 g1.2).1
      have := Bd_ed (ed := ed1 (lW d) R D) (n := lC d) (t0 := fS S) (r := n) (c := mv (lW d) x k) (k := opp k) (x := x) (w := 1) he (opp_lt k) (by unfold ed1; rw [b1, if_pos rfl, b2])
      have i2 := ih _ q2
      omega
theorem B_lt : ∀ n x, Bd (ed1 (lW d) R D) (lC d) (fS S) n x < FF → Bd (ed1 (lW d) R D) (lC d) (fS S) n x ≤ n ∧ (rc (lW d) R D S (Bd (ed1 (lW d) R D) (lC d) (fS S) n x)).testBit x = true := by
  intro n
  induction n with
  | zero =>
    intro x hx
    have hx' : fS S x < FF := hx
    show fS S x ≤ 0 ∧ (rc (lW d) R D S (fS S x)).testBit x = true
    unfold fS at hx' ⊢
    cases hb : S.testBit x with
    | true => rw [if_pos rfl]; exact ⟨Nat.le_refl _, hb⟩
    | false => rw [hb, if_neg (by decide)] at hx'; exact absurd hx' (Nat.lt_irrefl _)
  | succ n ih =>
    intro x hx
    rcases Bd_or (ed := ed1 (lW d) R D) (n := lC d) (t0 := fS S) n x with h | ⟨c, k, w, h1, h2, h3, h4⟩
    · rw [h] at hx ⊢
      have := ih x hx
      exact ⟨by omega, this.2⟩
    · rw [h4] at hx ⊢
      unfold ed1 at h3
      split at h3
      next hg =>
        injection h3 with h3
        injection h3 with h5 h6
        subst h6
        have i2 := ih c (by omega)
        obtain ⟨b1, b2⟩ := goB_bk h2 hg
        rw [h5] at b1 b2
        refine ⟨by omega, (sp_bit _ _ _ _ _).mpr (Or.inr ⟨opp k, opp_lt k, b1, ?_⟩)⟩
        rw [b2]
        exact i2.2
      next => cases h3
/-- how many ells a cell is from S; FF if it is not joined to S -/
def dst (d : Lnd) (R D S x : Nat) : Nat := Bd (ed1 (lW d) R D) (lC d) (fS S) (lC d) x
theorem dst_le (hd : okL d) (hok : okRD d R D) {x v : Nat} (hx : x < lC d) (hv : v < FF) : dst d R D S x ≤ v ↔ (rc (lW d) R D S v).testBit x = true := by
  constructor
  · intro h
    have h' : dst d R D S x < FF := by omega
    exact rc_up _ _ _ _ (B_lt (lC d) x h').2 h
  · intro h
    have a := rc_B hd hok v x h
    have b := Bd_mono (ed := ed1 (lW d) R D) (n := lC d) (t0 := fS S) (show v ≤ lC d + v by omega) x
    rw [Bd_stable (s := lC d) hx (by omega) (by omega)] at b
    exact Nat.le_trans b a
theorem dst_lt (hd : okL d) (hok : okRD d R D) {x : Nat} (hx : x < lC d) : dst d R D S x < FF ↔ (rc (lW d) R D S 20).testBit x = true := by
  have hC := okL_C hd
  constructor
  · intro h
    exact (dst_le hd hok hx (by decide)).mp (Nat.le_trans (B_lt (lC d) x h).1 (by omega))
  · intro h
    have := (dst_le hd hok hx (by decide)).mpr h
    exact Nat.lt_of_le_of_lt this (by decide)
end DST
