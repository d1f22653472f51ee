/-! ===== tokens ===== -/
def skN (n : Nat) (tx : Nat → Nat) : Nat → Nat → Nat
  | 0, p => p
  | f + 1, p => if p < n ∧ tx p = 32 then skN n tx f (p + 1) else p
def isD (c : Nat) : Bool := decide (48 ≤ c) && decide (c ≤ 57)
def isL (c : Nat) : Bool := c == 103 || c == 104 || c == 116 || c == 109
def dgN (n : Nat) (tx : Nat → Nat) : Nat → Nat → Nat → Nat × Nat
  | 0, p, v => (v, p)
  | f + 1, p, v => if p < n ∧ isD (tx p) = true then dgN n tx f (p + 1) (min (v * 10 + tx p - 48) 100) else (v, p)
def oS (n : Nat) (tx : Nat → Nat) (p : Nat) : Nat := skN n tx (n - p) p
def oN (n : Nat) (tx : Nat → Nat) (p : Nat) : Nat × Nat := dgN n tx (n - oS n tx p) (oS n tx p) 0
def oV (n : Nat) (tx : Nat → Nat) (p : Nat) : Nat := (oN n tx p).1
def bad (n : Nat) (tx : Nat → Nat) (p : Nat) : Bool := (decide (oS n tx p + 1 < (oN n tx p).2) && tx (oS n tx p) == 48) || decide (99 < oV n tx p)
def oE (n : Nat) (tx : Nat → Nat) (p : Nat) : Nat := if n ≤ oS n tx p then oS n tx p else if isD (tx (oS n tx p)) = true then (oN n tx p).2 else oS n tx p + 1
def kd (n : Nat) (tx : Nat → Nat) (p : Nat) : Nat := if n ≤ oS n tx p then 0 else if isD (tx (oS n tx p)) = true then (if bad n tx p = true then 4 else 2) else if tx (oS n tx p) = 59 then 3 else if isL (tx (oS n tx p)) = true then 1 else 4
def tkC (n : Nat) (tx : Nat → Nat) (p : Nat) : Int32 := if n ≤ oS n tx p then -1 else if isD (tx (oS n tx p)) = true then (if bad n tx p = true then -3 else -2) else nI (tx (oS n tx p))
section TOK
variable {n : Nat} {tx : Nat → Nat}
theorem sk_b : ∀ f p, p ≤ n → n - p = f → p ≤ skN n tx f p ∧ skN n tx f p ≤ n ∧ ¬ (skN n tx f p < n ∧ tx (skN n tx f p) = 32) := by
  intro f
  induction f with
  | zero => intro p h1 h2; rw [skN]; exact ⟨Nat.le_refl _, h1, by omega⟩
  | succ f ih =>
    intro p h1 h2
    rw [skN]
    by_cases hc : p < n ∧ tx p = 32
    · rw [if_pos hc]
      have := ih (p + 1) (by omega) (by omega)
      exact ⟨by omega, this.2⟩
    · rw [if_neg hc]
      exact ⟨Nat.le_refl _, h1, hc⟩
theorem dg_b : ∀ f p v, p ≤ n → v ≤ 100 → p ≤ (dgN n tx f p v).2 ∧ (dgN n tx f p v).2 ≤ n ∧ (dgN n tx f p v).1 ≤ 100 := by
  intro f
  induction f with
  | zero => intro p v h1 h2; rw [dgN]; exact ⟨Nat.le_refl _, h1, h2⟩
  | succ f ih =>
    intro p v h1 h2
    rw [dgN]
    by_cases hc : p < n ∧ isD (tx p) = true
    · rw [if_pos hc]
      have := ih (p + 1) (min (v * 10 + tx p - 48) 100) (by omega) (Nat.min_le_right _ _)
      exact ⟨by omega, this.2⟩
    · rw [if_neg hc]
      exact ⟨Nat.le_refl _, h1, h2⟩
theorem oS_b {p : Nat} (hp : p ≤ n) : p ≤ oS n tx p ∧ oS n tx p ≤ n ∧ ¬ (oS n tx p < n ∧ tx (oS n tx p) = 32) := sk_b (n - p) p hp rfl
theorem oN_b {p : Nat} (hp : p ≤ n) : oS n tx p ≤ (oN n tx p).2 ∧ (oN n tx p).2 ≤ n ∧ oV n tx p ≤ 100 := dg_b _ _ _ (oS_b hp).2.1 (by omega)
theorem oN_d {p : Nat} (hp : p ≤ n) (h1 : oS n tx p < n) (h2 : isD (tx (oS n tx p)) = true) : oS n tx p < (oN n tx p).2 := by
  unfold oN
  obtain ⟨f, hf⟩ : ∃ f, n - oS n tx p = f + 1 := ⟨n - oS n tx p - 1, by omega⟩
  rw [hf, dgN, if_pos ⟨h1, h2⟩]
  have := (dg_b (n := n) (tx := tx) f (oS n tx p + 1) (min (0 * 10 + tx (oS n tx p) - 48) 100) (by omega) (Nat.min_le_right _ _)).1
  omega
theorem oN_n {p : Nat} (h : ¬ (oS n tx p < n ∧ isD (tx (oS n tx p)) = true)) : oN n tx p = (0, oS n tx p) := by
  unfold oN
  cases hf : n - oS n tx p with
  | zero => rw [dgN]
  | succ f => rw [dgN, if_neg h]
theorem oE_b {p : Nat} (hp : p ≤ n) : oS n tx p ≤ oE n tx p ∧ oE n tx p ≤ n ∧ (oS n tx p < n → oS n tx p < oE n tx p) := by
  have h1 := oS_b (tx := tx) hp
  have h2 := oN_b (tx := tx) hp
  unfold oE
  by_cases hc : n ≤ oS n tx p
  · rw [if_pos hc]; exact ⟨Nat.le_refl _, h1.2.1, fun q => by omega⟩
  · rw [if_neg hc]
    by_cases hd : isD (tx (oS n tx p)) = true
    · rw [if_pos hd]; exact ⟨h2.1, h2.2.1, fun q => oN_d hp q hd⟩
    · rw [if_neg hd]; exact ⟨by omega, by omega, fun _ => by omega⟩
theorem kd_0 {p : Nat} : kd n tx p = 0 ↔ n ≤ oS n tx p := by
  unfold kd
  by_cases hc : n ≤ oS n tx p
  · rw [if_pos hc]; simp [hc]
  · rw [if_neg hc]
    constructor
    · intro h
      split at h
      · split at h <;> omega
      · split at h
        · omega
        · split at h <;> omega
    · intro h; exact absurd h hc
end TOK
/-! the class's -/
def TXc (g : eS) (n : Nat) (tx : Nat → Nat) : Prop := g.1 6 1 = nI n ∧ n ≤ 200 ∧ ∀ i, i < n → tx i < 256 ∧ g.2.1 8 i = nI (tx i)
def N6 (g h : eS) : Prop := (∀ i k, ¬ (i = 6 ∧ 5 ≤ k ∧ k ≤ 8) → h.1 i k = g.1 i k) ∧ h.2 = g.2
theorem n6_rf (g : eS) : N6 g g := ⟨fun _ _ _ => rfl, rfl⟩
theorem n6_tr {g h k : eS} (a : N6 g h) (b : N6 h k) : N6 g k := ⟨fun i j q => (b.1 i j q).trans (a.1 i j q), b.2.trans a.2⟩
theorem n6_I (g : eS) {k : Nat} (h1 : 5 ≤ k) (h2 : k ≤ 8) (v : Int32) : N6 g (eSI g 6 k v) := by
  refine ⟨fun i j q => ?_, rfl⟩
  rw [eSI_r, if_neg (by omega)]
theorem n6_TX {g h : eS} (a : N6 g h) {n : Nat} {tx : Nat → Nat} (t : TXc g n tx) : TXc h n tx := by
  unfold TXc at t ⊢
  rw [a.1 6 1 (by omega), a.2]
  exact t
theorem eSI_at (g : eS) (o k : Nat) (v : Int32) : (eSI g o k v).1 o k = v := by rw [eSI_r, if_pos ⟨rfl, rfl⟩]
theorem eSI_ne (g : eS) {o k i j : Nat} (v : Int32) (h : ¬ (i = o ∧ j = k)) : (eSI g o k v).1 i j = g.1 i j := by rw [eSI_r, if_neg h]
theorem c_let {g : eS} {n : Nat} {tx : Nat → Nat} (t : TXc g n tx) {p : Nat} (hp : p < n) : fX7_get 7 (nI p) (eE g) = some (nI (tx p), eE g) := by
  rw [row_getN r7 g (show p < 200 by have := t.2.1; omega), (t.2.2 p hp).2]
theorem c_isD {c : Nat} (hc : c < 256) (w : eW) : fX2_isDigit (nI c) w = some (if isD c then 1 else 0, w) := by
  rw [fX2_isDigit, fX2_isDigit_0, fX2_isDigit_16, eZ_0, eZ_1]
  unfold isD
  by_cases h1 : c < 48
  · rw [if_pos (show nI c < (48 : Int32) from nI_lt (b := 48) h1 (by decide)), decide_eq_false (show ¬ 48 ≤ c by omega)]; rfl
  · rw [if_neg (show ¬ nI c < (48 : Int32) from nI_nlt (b := 48) (by omega) (by omega)), decide_eq_true (show 48 ≤ c by omega)]
    by_cases h2 : 57 < c
    · rw [if_pos (show (57 : Int32) < nI c from nI_lt (a := 57) h2 (by omega)), decide_eq_false (show ¬ c ≤ 57 by omega)]; rfl
    · rw [if_neg (show ¬ (57 : Int32) < nI c from nI_nlt (a := 57) (by omega) (by decide)), decide_eq_true (show c ≤ 57 by omega)]; rfl
theorem isD_r {c : Nat} (h : isD c = true) : 48 ≤ c ∧ c ≤ 57 := by
  unfold isD at h
  rw [Bool.and_eq_true, decide_eq_true_eq, decide_eq_true_eq] at h
  exact h
theorem c_sk {n : Nat} {tx : Nat → Nat} : ∀ (fu f p : Nat) (g : eS), p ≤ n → n - p = f → f < fu → TXc g n tx → g.1 6 5 = nI p → ∃ h, fX2_nextToken_0 fu 6 (eE g) = fX2_nextToken_40 6 (eE h) ∧ N6 g h ∧ h.1 6 5 = nI (skN n tx f p) := by
  intro fu
  induction fu with
  | zero => intro f p g h1 h2 h3; omega
  | succ fu ih =>
    intro f p g h1 h2 h3 t hp
    have h200 := t.2.1
    simp only [fX2_nextToken_0, tI, tR, bis, hp, t.1]
    by_cases hn : n ≤ p
    · have hf : f = 0 := by omega
      subst hf
      rw [if_pos (nI_le hn (by omega))]
      exact ⟨g, rfl, n6_rf g, hp⟩
    · obtain ⟨f, rfl⟩ : ∃ k, f = k + 1 := ⟨f - 1, by omega⟩
      have hc := (t.2.2 p (by omega)).1
      rw [if_neg (nI_ge (by omega) (by omega)), c_let t (by omega), b2s, skN]
      by_cases h32 : tx p = 32
      · rw [if_pos (show nI (tx p) = (32 : Int32) by rw [h32]; rfl), if_pos ⟨by omega, h32⟩]
        simp only [tI, tP, bis, hp, nI_1]
        obtain ⟨h, o1, o2, o3⟩ := ih f (p + 1) (eSI g 6 5 (nI (p + 1))) (by omega) (by omega) (by omega) (n6_TX (n6_I g (by omega) (by omega) _) t) (eSI_at _ _ _ _)
        exact ⟨h, o1, n6_tr (n6_I g (by omega) (by omega) _) o2, o3⟩
      · rw [if_neg (show ¬ nI (tx p) = (32 : Int32) from fun q => h32 ((nI_eq (b := 32) (by omega) (by decide)).mp q)), if_neg (fun q => h32 q.2)]
        exact ⟨g, rfl, n6_rf g, hp⟩
theorem c_dg {n : Nat} {tx : Nat → Nat} : ∀ (fu f p v : Nat) (g : eS), p ≤ n → n - p = f → f < fu → v ≤ 100 → TXc g n tx → g.1 6 5 = nI p → g.1 6 8 = nI v → ∃ h, fX2_nextToken_53 fu 6 (eE g) = fX2_nextToken_125 6 (eE h) ∧ N6 g h ∧ h.1 6 5 = nI (dgN n tx f p v).2 ∧ h.1 6 8 = nI (dgN n tx f p v).1 ∧ h.1 6 7 = g.1 6 7 := by
  intro fu
  induction fu with
  | zero => intro f p v g h1 h2 h3; omega
  | succ fu ih =>
    intro f p v g h1 h2 h3 hv t hp h8
    have h200 := t.2.1
    simp only [fX2_nextToken_53, tI, tR, bis, hp, t.1]
    by_cases hn : n ≤ p
    · have hf : f = 0 := by omega
      subst hf
      rw [if_pos (nI_le hn (by omega))]
      exact ⟨g, rfl, n6_rf g, hp, h8, rfl⟩
    · obtain ⟨f, rfl⟩ : ∃ k, f = k + 1 := ⟨f - 1, by omega⟩
      have hc := (t.2.2 p (by omega)).1
      have lt := c_let t (show p < n by omega)
      rw [if_neg (nI_ge (by omega) (by omega)), lt, b2s, c_isD hc, b2s, dgN]
      cases hd : isD (tx p) with
      | false =>
        rw [if_pos (show (if false = true then (1 : Int32) else 0) = 0 by decide), if_neg (fun q => absurd q.2 (by decide))]
        exact ⟨g, rfl, n6_rf g, hp, h8, rfl⟩
      | true =>
        have hr := isD_r hd
        have hmin : (if (100 : Int32) < nI v * 10 + nI (tx p) - 48 then (100 : Int32) else nI v * 10 + nI (tx p) - 48) = nI (min (v * 10 + tx p - 48) 100) := by
          rw [show (10 : Int32) = nI 10 from rfl, show (48 : Int32) = nI 48 from rfl, pk_mul, nI_add, pk_sub (by omega)]
          by_cases hle : 100 < v * 10 + tx p - 48
          · rw [if_pos (show (100 : Int32) < nI _ from nI_lt (a := 100) hle (by omega)), Nat.min_eq_right (by omega)]; rfl
          · rw [if_neg (show ¬ (100 : Int32) < nI _ from nI_nlt (a := 100) (by omega) (by decide)), Nat.min_eq_left (by omega)]
        rw [if_neg (show ¬ (if true = true then (1 : Int32) else 0) = 0 by decide), if_pos ⟨by omega, rfl⟩]
        simp only [tI, tR, tP, bis, b2s, hp, h8, lt, m_min, hmin, eSI_ne g (o := 6) (k := 8) (i := 6) (j := 5) _ (by omega), nI_1]
        have n1 := n6_tr (n6_I g (k := 8) (by omega) (by omega) (nI (min (v * 10 + tx p - 48) 100))) (n6_I (eSI g 6 8 (nI (min (v * 10 + tx p - 48) 100))) (k := 5) (by omega) (by omega) (nI (p + 1)))
        obtain ⟨h, o1, o2, o3, o4, o5⟩ := ih f (p + 1) (min (v * 10 + tx p - 48) 100) _ (by omega) (by omega) (by omega) (Nat.min_le_right _ _) (n6_TX n1 t) (eSI_at _ _ _ _) (by rw [eSI_ne _ _ (by omega), eSI_at])
        refine ⟨h, o1, n6_tr n1 o2, o3, o4, ?_⟩
        rw [o5, eSI_ne _ _ (by omega), eSI_ne _ _ (by omega)]
theorem c_125d {h : eS} {n : Nat} {tx : Nat → Nat} (th : TXc h n tx) {s e v : Nat} (h1 : s < e) (h2 : e ≤ n) (hv : v ≤ 100) (q3 : h.1 6 5 = nI e) (q7 : h.1 6 7 = nI s) (q4 : h.1 6 8 = nI v) : fX2_nextToken_125 6 (eE h) = some (eE (eSI h 6 6 (if (s + 1 < e ∧ tx s = 48) ∨ 99 < v then -3 else -2))) := by
  have h200 := th.2.1
  have hc := (th.2.2 s (by omega)).1
  have k165 : ∀ b : Bool, (b = true ↔ (s + 1 < e ∧ tx s = 48)) → fX2_nextToken_165 6 (if b then 1 else 0) (eE h) = some (eE (eSI h 6 6 (if (s + 1 < e ∧ tx s = 48) ∨ 99 < v then -3 else -2))) := by
    intro b hb
    cases b with
    | false =>
      have hn : ¬ (s + 1 < e ∧ tx s = 48) := fun q => absurd (hb.mpr q) (by decide)
      rw [fX2_nextToken_165, if_pos (show (if false = true then (1 : Int32) else 0) = 0 by decide)]
      simp only [tI, bis, q4]
      by_cases hv9 : v ≤ 99
      · rw [if_pos (show nI v ≤ (99 : Int32) from nI_le (b := 99) hv9 (by decide)), fX2_nextToken_187, if_neg (fun q => q.elim hn (fun r => by omega))]
        simp only [tP, bis]
      · rw [if_neg (show ¬ nI v ≤ (99 : Int32) from nI_ge (a := 99) (by omega) (by omega)), fX2_nextToken_180, fX2_nextToken_187, if_pos (Or.inr (by omega))]
        simp only [tP, bis]
    | true =>
      rw [fX2_nextToken_165, if_neg (show ¬ (if true = true then (1 : Int32) else 0) = 0 by decide), fX2_nextToken_180, fX2_nextToken_187, if_pos (Or.inl (hb.mp rfl))]
      simp only [tP, bis]
  have k0 : ¬ (s + 1 < e ∧ tx s = 48) → fX2_nextToken_164 6 (eE h) = some (eE (eSI h 6 6 (if (s + 1 < e ∧ tx s = 48) ∨ 99 < v then -3 else -2))) := by
    intro hn
    rw [fX2_nextToken_164]
    exact k165 false ⟨fun q => (by cases q), fun q => absurd q hn⟩
  rw [fX2_nextToken_125]
  simp only [tI, bis, q3, q7]
  rw [pk_sub (show s ≤ e by omega), if_neg (nI_nle (by omega) (by omega))]
  by_cases h3 : e - s ≤ 1
  · rw [if_pos (show nI (e - s) ≤ (1 : Int32) from nI_le (b := 1) h3 (by decide))]
    exact k0 (fun q => by omega)
  · rw [if_neg (show ¬ nI (e - s) ≤ (1 : Int32) from nI_ge (a := 1) (by omega) (by omega))]
    simp only [tR, bis]
    rw [c_let th (by omega), b2s]
    by_cases h48 : tx s = 48
    · rw [if_pos (show nI (tx s) = (48 : Int32) by rw [h48]; rfl)]
      exact k165 true ⟨fun _ => ⟨by omega, h48⟩, fun _ => rfl⟩
    · rw [if_neg (show ¬ nI (tx s) = (48 : Int32) from fun q => h48 ((nI_eq (b := 48) (by omega) (by decide)).mp q))]
      exact k0 (fun q => h48 q.2)
theorem c_125e {h : eS} {n : Nat} {tx : Nat → Nat} (th : TXc h n tx) {s : Nat} (h1 : n ≤ s) (h2 : s ≤ n) (q3 : h.1 6 5 = nI s) (q7 : h.1 6 7 = nI s) : fX2_nextToken_125 6 (eE h) = some (eE (eSI h 6 6 (-1))) := by
  have h200 := th.2.1
  rw [fX2_nextToken_125]
  simp only [tI, bis, q3, q7, th.1]
  rw [pk_sub (Nat.le_refl s), Nat.sub_self, if_pos (show nI 0 ≤ (0 : Int32) by decide), if_pos (nI_le h1 (by omega))]
  simp only [tP, bis]
theorem c_125l {h : eS} {n : Nat} {tx : Nat → Nat} (th : TXc h n tx) {s : Nat} (h1 : s < n) (q3 : h.1 6 5 = nI s) (q7 : h.1 6 7 = nI s) : fX2_nextToken_125 6 (eE h) = some (eE (eSI (eSI h 6 6 (nI (tx s))) 6 5 (nI (s + 1)))) := by
  have h200 := th.2.1
  have e5 : (eSI h 6 6 (nI (tx s))).1 6 5 = nI s := by rw [eSI_ne _ _ (by omega)]; exact q3
  rw [fX2_nextToken_125]
  simp only [tI, bis, q3, q7, th.1]
  rw [pk_sub (Nat.le_refl s), Nat.sub_self, if_pos (show nI 0 ≤ (0 : Int32) by decide), if_neg (nI_ge h1 (by omega))]
  simp only [tR, bis]
  rw [c_let th h1, b2s]
  simp only [tP, tI, bis, e5]
  rw [nI_1]
theorem oE_d {n : Nat} {tx : Nat → Nat} {p : Nat} (h1 : oS n tx p < n) (h2 : isD (tx (oS n tx p)) = true) : oE n tx p = (oN n tx p).2 ∧ tkC n tx p = (if (oS n tx p + 1 < (oN n tx p).2 ∧ tx (oS n tx p) = 48) ∨ 99 < oV n tx p then -3 else -2) := by
  unfold oE tkC bad
  rw [if_neg (by omega), if_pos h2, if_neg (by omega), if_pos h2]
  refine ⟨rfl, ?_⟩
  have e : (((decide (oS n tx p + 1 < (oN n tx p).2) && tx (oS n tx p) == 48) || decide (99 < oV n tx p)) = true) ↔ ((oS n tx p + 1 < (oN n tx p).2 ∧ tx (oS n tx p) = 48) ∨ 99 < oV n tx p) := by
    rw [Bool.or_eq_true, Bool.and_eq_true, decide_eq_true_eq, decide_eq_true_eq, beq_iff_eq]
  by_cases hc : (oS n tx p + 1 < (oN n tx p).2 ∧ tx (oS n tx p) = 48) ∨ 99 < oV n tx p
  · rw [if_pos hc, if_pos (e.mpr hc)]
  · rw [if_neg hc, if_neg (fun q => hc (e.mp q))]
theorem oE_e {n : Nat} {tx : Nat → Nat} {p : Nat} (h1 : n ≤ oS n tx p) : oE n tx p = oS n tx p ∧ tkC n tx p = -1 := by
  unfold oE tkC
  rw [if_pos h1, if_pos h1]
  exact ⟨rfl, rfl⟩
theorem oE_l {n : Nat} {tx : Nat → Nat} {p : Nat} (h1 : oS n tx p < n) (h2 : ¬ isD (tx (oS n tx p)) = true) : oE n tx p = oS n tx p + 1 ∧ tkC n tx p = nI (tx (oS n tx p)) := by
  unfold oE tkC
  rw [if_neg (by omega), if_neg h2, if_neg (by omega), if_neg h2]
  exact ⟨rfl, rfl⟩
theorem c_to125 {g : eS} {n : Nat} {tx : Nat → Nat} (t : TXc g n tx) {p : Nat} (hp : p ≤ n) (h5 : g.1 6 5 = nI p) : ∃ h, fX2_nextToken 6 (eE g) = fX2_nextToken_125 6 (eE h) ∧ N6 g h ∧ h.1 6 5 = nI (oN n tx p).2 ∧ h.1 6 7 = nI (oS n tx p) ∧ h.1 6 8 = nI (oV n tx p) := by
  have h200 := t.2.1
  have sb := oS_b (tx := tx) hp
  obtain ⟨g1', o1, o2, o3⟩ := c_sk eN (n - p) p g hp rfl (by rw [eN_eq]; omega) t h5
  rw [show skN n tx (n - p) p = oS n tx p from rfl] at o3
  have t1 := n6_TX o2 t
  have n2 := n6_tr (n6_I g1' (k := 7) (by omega) (by omega) (nI (oS n tx p))) (n6_I (eSI g1' 6 7 (nI (oS n tx p))) (k := 8) (by omega) (by omega) 0)
  obtain ⟨h, q1, q2, q3, q4, q5⟩ := c_dg eN (n - oS n tx p) (oS n tx p) 0 (eSI (eSI g1' 6 7 (nI (oS n tx p))) 6 8 0) sb.2.1 rfl (by rw [eN_eq]; omega) (by omega) (n6_TX n2 t1) (by rw [eSI_ne _ _ (by omega), eSI_ne _ _ (by omega)]; exact o3) (by rw [eSI_at]; rfl)
  refine ⟨h, ?_, n6_tr o2 (n6_tr n2 q2), q3, ?_, q4⟩
  · rw [fX2_nextToken, (tO g).2.2.2.2.1, cond_true, o1, fX2_nextToken_40]
    simp only [tI, tP, bis, o3]
    exact q1
  · rw [q5, eSI_ne _ _ (by omega), eSI_at]
theorem c_next {g : eS} {n : Nat} {tx : Nat → Nat} (t : TXc g n tx) {p : Nat} (hp : p ≤ n) (h5 : g.1 6 5 = nI p) : ∃ h, fX2_nextToken 6 (eE g) = some (eE h) ∧ N6 g h ∧ h.1 6 5 = nI (oE n tx p) ∧ h.1 6 6 = tkC n tx p ∧ h.1 6 7 = nI (oS n tx p) ∧ h.1 6 8 = nI (oV n tx p) := by
  obtain ⟨h, main, nh, q3, q7, q4⟩ := c_to125 t hp h5
  have th := n6_TX nh t
  have sb := oS_b (tx := tx) hp
  have nb' := oN_b (tx := tx) hp
  rw [main]
  by_cases hn : n ≤ oS n tx p
  · have hN := oN_n (n := n) (tx := tx) (p := p) (fun q => by omega)
    rw [hN] at q3
    obtain ⟨e1, e2⟩ := oE_e hn
    rw [c_125e th hn sb.2.1 q3 q7, e1, e2]
    refine ⟨_, rfl, n6_tr nh (n6_I h (by omega) (by omega) _), ?_, eSI_at _ _ _ _, ?_, ?_⟩
    · rw [eSI_ne _ _ (by omega)]; exact q3
    · rw [eSI_ne _ _ (by omega)]; exact q7
    · rw [eSI_ne _ _ (by omega)]; exact q4
  · by_cases hd : isD (tx (oS n tx p)) = true
    · obtain ⟨e1, e2⟩ := oE_d (by omega) hd
      rw [c_125d th (oN_d hp (by omega) hd) nb'.2.1 nb'.2.2 q3 q7 q4, e1, e2]
      refine ⟨_, rfl, n6_tr nh (n6_I h (by omega) (by omega) _), ?_, eSI_at _ _ _ _, ?_, ?_⟩
      · rw [eSI_ne _ _ (by omega)]; exact q3
      · rw [eSI_ne _ _ (by omega)]; exact q7
      · rw [eSI_ne _ _ (by omega)]; exact q4
    · have hN := oN_n (n := n) (tx := tx) (p := p) (fun q => hd q.2)
      rw [hN] at q3
      obtain ⟨e1, e2⟩ := oE_l (by omega) hd
      rw [c_125l th (by omega) q3 q7, e1, e2]
      refine ⟨_, rfl, n6_tr nh (n6_tr (n6_I h (k := 6) (by omega) (by omega) _) (n6_I _ (k := 5) (by omega) (by omega) _)), eSI_at _ _ _ _, ?_, ?_, ?_⟩
      · rw [eSI_ne _ _ (by omega), eSI_at]
      · rw [eSI_ne _ _ (by omega), eSI_ne _ _ (by omega)]; exact q7
      · rw [eSI_ne _ _ (by omega), eSI_ne _ _ (by omega)]; exact q4
