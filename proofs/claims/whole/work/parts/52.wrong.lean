/-! ===== wrong cards ===== -/
/-- where a bolt is behind i cards, card number ch being ot -/
def pw (d : Lnd) (z : Nat → Nat) (b ch ot : Nat) : Nat → Option Nat
  | 0 => some (bf z b)
  | i + 1 => match pw d z b ch ot i with
    | none => none
    | some c => gb d c (if i = ch then ot else bc z b i)
theorem pw_lt {d : Lnd} (hd : okL d) {z : Nat → Nat} (ho : okB d z) {b ch ot : Nat} (hb : b < z 0) : ∀ i c, pw d z b ch ot i = some c → c < lC d := by
  intro i
  induction i with
  | zero => intro c h; cases h; exact (ho.2 b hb).1
  | succ i ih =>
    intro c h
    unfold pw at h
    split at h
    next => cases h
    next e he => exact (gb_lt hd (ih e he) h).1
theorem pw_none {d : Lnd} {z : Nat → Nat} {b ch ot i j : Nat} (h : pw d z b ch ot i = none) (hij : i ≤ j) : pw d z b ch ot j = none := by
  induction j with
  | zero => rw [show i = 0 by omega] at h; exact h
  | succ j ih =>
    by_cases hj : i = j + 1
    · rw [← hj]; exact h
    · unfold pw
      rw [ih (by omega)]
/-- the class's cellIf -/
def cIf (d : Lnd) (z : Nat → Nat) (b ch ot n : Nat) : Option Nat := if bc z b ch = ot then none else match pw d z b ch ot (bl z b) with
  | none => none
  | some _ => pw d z b ch ot n
theorem oM1_inj {x : Option Nat} {c : Nat} (hx : ∀ e, x = some e → e < 2 ^ 31) (hc : c < 2 ^ 31) : oM1 x = nI c ↔ x = some c := by
  cases x with
  | none => exact ⟨fun h => absurd h.symm (nI_neg1 hc), fun h => by cases h⟩
  | some e =>
    have := hx e rfl
    exact ⟨fun h => by rw [(nI_eq this hc).mp h], fun h => by cases h; rfl⟩
theorem oM9_inj {x : Option Nat} {c : Nat} (hx : ∀ e, x = some e → e < 2 ^ 31) (hc : c < 2 ^ 31) : oM9 x = nI c ↔ x = some c := by
  cases x with
  | none => exact ⟨fun h => absurd h.symm (nI_neg9 hc), fun h => by cases h⟩
  | some e =>
    have := hx e rfl
    exact ⟨fun h => by rw [(nI_eq this hc).mp h], fun h => by cases h; rfl⟩
theorem q_other {g : eS} {d : Lnd} {z : Nat → Nat} (hS : MS g 43 d z) {b ch ot n : Nat} (hb : b < z 0) (hch : ch < 12) (hot : ot < 4) (hn : n ≤ bl z b) : fX11_otherwise 38 (nI b) (nI ch) (nI ot) (nI n) (eE g) = some (oM9 (pw d z b ch ot n), eE g) := by
  obtain ⟨hL, hd, hz, ho⟩ := hS
  have hC := okL_C hd
  have h4 := ho.1
  have hb4 : b < 4 := by omega
  obtain ⟨q1, hl12, q3⟩ := ho.2 b hb
  have key : ∀ (fu k : Nat), k ≤ n → n - k < fu → fX11_otherwise_13 fu 38 (nI b) (nI ch) (nI ot) (nI n) (oM9 (pw d z b ch ot k)) (nI k) (eE g) = some (oM9 (pw d z b ch ot n), eE g) := by
    intro fu
    induction fu with
    | zero => intro k h1 h2; omega
    | succ fu ih =>
      intro k h1 h2
      rw [fX11_otherwise_13]
      by_cases hk : k = n
      · subst hk
        rw [if_pos (nI_le (Nat.le_refl _) (by omega))]
      · rw [if_neg (nI_ge (show k < n by omega) (by omega))]
        have nx := ih (k + 1) (by omega) (by omega)
        cases hp : pw d z b ch ot k with
        | none => rw [pw_none hp (show k ≤ n by omega)]; rfl
        | some c =>
          have hc := pw_lt hd ho hb k c hp
          rw [show oM9 (some c) = nI c from rfl, if_neg (nI_neg9 (show c < 2 ^ 31 by omega))]
          rw [pw, hp] at nx
          dsimp only at nx
          by_cases hkc : k = ch
          · subst hkc
            rw [if_pos rfl] at nx
            rw [if_pos rfl, fX11_otherwise_50, q_goes hL hd hc hot, b2s, nI_1]
            exact nx
          · rw [if_neg hkc] at nx
            have m1 := q_card a43 hz hb4 (show k < 12 by omega)
            rw [if_neg (fun q => hkc ((nI_eq (by omega) (by omega)).mp q))]
            simp only [tR, bis, m1, b2s, fX11_otherwise_50, q_goes hL hd hc (q3 k (by omega)).1, nI_1]
            exact nx
  have := key eN 0 (by omega) (by rw [eN_eq]; omega)
  simp only [fX11_otherwise, fX11_otherwise_0, tO, tR, bis, cond_true, q_first a43 hz hb4, b2s]
  exact this
theorem d4_fin : ∀ k : Fin 48, nI k.val / 4 = nI (k.val / 4) ∧ nI k.val - nI k.val / 4 * 4 = nI (k.val % 4) := by decide +kernel
theorem c_cellIf {g : eS} {d : Lnd} {z : Nat → Nat} (hS : CS g 16 d z) {b k n : Nat} (hb : b < z 0) (hk : k < bl z b * 4) (hn : n ≤ bl z b) : fX0_cellIf 14 (nI b) (nI k) (nI n) (eE g) = some (oM1 (cIf d z b (k / 4) (k % 4) n), eE g) := by
  obtain ⟨hL, hd, hz, ho⟩ := hS
  have hC := okL_C hd
  have h4 := ho.1
  have hb4 : b < 4 := by omega
  obtain ⟨q1, hl12, q3⟩ := ho.2 b hb
  obtain ⟨f1, f2⟩ := d4_fin ⟨k, by omega⟩
  dsimp only at f1 f2
  have hch : k / 4 < bl z b := by omega
  have hot : k % 4 < 4 := by omega
  generalize k / 4 = ch at f1 f2 hch ⊢
  generalize k % 4 = ot at f2 hot ⊢
  have e1 := c_card b14 hz hb4 (show ch < 12 by omega)
  have cc := (q3 ch hch).1
  rw [show nI k / 4 = nI ch from f1] at f2
  unfold cIf
  by_cases hcc : bc z b ch = ot
  · simp only [fX0_cellIf, fX0_cellIf_0, tO, cond_true, show ¬ (4 : Int32) = 0 by decide, if_false, f1, e1, b2s, f2, hcc, if_true]
    rfl
  · have hne : ¬ nI (bc z b ch) = nI ot := fun q => hcc ((nI_eq (by omega) (by omega)).mp q)
    have key : ∀ (fu i c : Nat), i ≤ bl z b → bl z b - i < fu → pw d z b ch ot i = some c → fX0_cellIf_38 fu 14 (nI b) (nI n) (nI ch) (nI ot) (nI c) (oM1 (pw d z b ch ot (min i n))) (nI i) (eE g) = some (oM1 (match pw d z b ch ot (bl z b) with | none => none | some _ => pw d z b ch ot n), eE g) := by
      intro fu
      induction fu with
      | zero => intro i c h1 h2; omega
      | succ fu ih =>
        intro i c h1 h2 hp
        rw [fX0_cellIf_38, c_len b14 hz hb4, b2s]
        by_cases hi : i = bl z b
        · subst hi
          rw [if_pos (nI_le (Nat.le_refl _) (by omega)), hp, show min (bl z b) n = n by omega]
        · have hi2 : i < bl z b := by omega
          have hc := pw_lt hd ho hb i c hp
          rw [if_neg (nI_ge hi2 (by omega))]
          have st : ∀ kk, kk < 4 → kk = (if i = ch then ot else bc z b i) → fX0_cellIf_73 (fX0_cellIf_38 fu) 14 (nI b) (nI n) (nI ch) (nI ot) (oM1 (pw d z b ch ot (min i n))) (nI i) 1 (nI c) (nI kk) (eE g) = some (oM1 (match pw d z b ch ot (bl z b) with | none => none | some _ => pw d z b ch ot n), eE g) := by
            intro kk hkk ekk
            have hpw : pw d z b ch ot (i + 1) = gb d c kk := by rw [pw, hp, ekk]
            rw [fX0_cellIf_73, c_cellBy g1 hL hd hc hkk, b2s]
            cases hg : gb d c kk with
            | none =>
              rw [hg] at hpw
              rw [pw_none hpw (show i + 1 ≤ bl z b by omega)]
              rw [show oM1 none = -1 from rfl, if_pos rfl]
            | some e =>
              rw [hg] at hpw
              have he := (gb_lt hd hc hg).1
              have nx := ih (i + 1) e (by omega) (by omega) hpw
              rw [show oM1 (some e) = nI e from rfl, if_neg (nI_neg1 (show e < 2 ^ 31 by omega)), fX0_cellIf_99, fX0_cellIf_99, nI_1]
              by_cases hin : n ≤ i
              · rw [if_pos (nI_le hin (by omega)), show min i n = min (i + 1) n by omega]
                exact nx
              · rw [if_neg (nI_ge (show i < n by omega) (by omega))]
                rw [show min (i + 1) n = i + 1 by omega, hpw] at nx
                exact nx
          by_cases hic : i = ch
          · subst hic
            simp only [tR, bis, if_true]
            exact st ot hot (by rw [if_pos rfl])
          · have hx : ¬ nI i = nI ch := fun q => hic ((nI_eq (by omega) (by omega)).mp q)
            have m1 := c_card b14 hz hb4 (show i < 12 by omega)
            simp only [tR, bis, if_neg hx, m1, b2s]
            exact st (bc z b i) (q3 i hi2).1 (by rw [if_neg hic])
    have := key eN 0 (bf z b) (by omega) (by rw [eN_eq]; omega) rfl
    rw [show min 0 n = 0 by omega, show oM1 (pw d z b ch ot 0) = nI (bf z b) from rfl, nI_0] at this
    simp only [fX0_cellIf, fX0_cellIf_0, tO, cond_true, show ¬ (4 : Int32) = 0 by decide, if_false, f1, e1, b2s, f2, if_neg hne, if_neg hcc, c_first b14 hz hb4, this]
/-! wrong -/
def wN (hit : Nat → Bool) : Nat → Nat
  | 0 => 0
  | k + 1 => if hit k then wN hit k + 1 else wN hit k
def wF (hit : Nat → Bool) : Nat → Int32
  | 0 => -9
  | k + 1 => if hit k && wN hit k == 0 then nI k else wF hit k
theorem wN_le (hit : Nat → Bool) : ∀ k, wN hit k ≤ k := by
  intro k
  induction k with
  | zero => exact Nat.le_refl _
  | succ k ih => unfold wN; split <;> omega
def hitW (d : Lnd) (z : Nat → Nat) (b c : Nat) (k : Nat) : Bool := decide (cIf d z b (k / 4) (k % 4) (bl z b) = some c)
theorem cIf_lt {d : Lnd} (hd : okL d) {z : Nat → Nat} (ho : okB d z) {b ch ot n e : Nat} (hb : b < z 0) (h : cIf d z b ch ot n = some e) : e < lC d := by
  unfold cIf at h
  split at h
  · cases h
  · split at h
    · cases h
    · exact pw_lt hd ho hb n e h
theorem mul4 (n : Nat) : nI n * 4 = nI (n * 4) := pk_mul n 4
theorem c_wrong_loop {g : eS} {d : Lnd} {z : Nat → Nat} (hS : CS g 16 d z) {b c wh : Nat} (hb : b < z 0) (hc : c < lC d) : ∀ (fu k : Nat), k ≤ bl z b * 4 → bl z b * 4 - k < fu → fX10_wrong_53 fu 0 (nI b) (nI c) (nI wh) (nI (bl z b)) (nI (wN (hitW d z b c) k)) (wF (hitW d z b c) k) (nI k) (eE g) = some (if nI wh = 0 then nI (wN (hitW d z b c) (bl z b * 4)) else wF (hitW d z b c) (bl z b * 4), eE g) := by
  have hS' := hS
  obtain ⟨hL, hd, hz, ho⟩ := hS
  have hC := okL_C hd
  obtain ⟨q1, hl12, q3⟩ := ho.2 b hb
  intro fu
  induction fu with
  | zero => intro k h1 h2; omega
  | succ fu ih =>
    intro k h1 h2
    rw [fX10_wrong_53, mul4]
    by_cases hk : k = bl z b * 4
    · subst hk
      rw [if_pos (nI_le (Nat.le_refl _) (by omega))]
      split <;> rfl
    · have e1 := c_cellIf hS' hb (show k < bl z b * 4 by omega) (Nat.le_refl _)
      have hi := oM1_inj (x := cIf d z b (k / 4) (k % 4) (bl z b)) (c := c) (fun e he => by have := cIf_lt hd ho hb he; omega) (by omega)
      have nx := ih (k + 1) (by omega) (by omega)
      rw [if_neg (nI_ge (show k < bl z b * 4 by omega) (by omega))]
      simp only [tR, bis, e1, b2s]
      have hwl := wN_le (hitW d z b c) k
      by_cases hh : cIf d z b (k / 4) (k % 4) (bl z b) = some c
      · have hht : hitW d z b c k = true := decide_eq_true hh
        rw [if_pos (hi.mpr hh)]
        simp only [fX10_wrong_90, fX10_wrong_95, nI_1]
        rw [wN, wF, hht] at nx
        by_cases h0 : wN (hitW d z b c) k = 0
        · rw [if_pos (by rw [h0]; rfl)]
          rw [h0] at nx ⊢
          exact nx
        · have h0b : (wN (hitW d z b c) k == 0) = false := by simpa using h0
          rw [if_neg (nI_ne0 (by omega) (by omega))]
          rw [h0b] at nx
          exact nx
      · have hht : hitW d z b c k = false := decide_eq_false hh
        rw [if_neg (fun q => hh (hi.mp q)), fX10_wrong_95, nI_1]
        rw [wN, wF, hht] at nx
        exact nx

theorem q_wrong_loop {g : eS} {d : Lnd} {z : Nat → Nat} (hS : MS g 43 d z) {b c wh : Nat} (hb : b < z 0) (hc : c < lC d) : ∀ (fu i : Nat), i ≤ bl z b → bl z b - i < fu → fX11_wrong_42 fu 38 (nI b) (nI c) (nI wh) (nI (wN (hitW d z b c) (i * 4))) (wF (hitW d z b c) (i * 4)) (nI i) (eE g) = some (if nI wh = 0 then nI (wN (hitW d z b c) (bl z b * 4)) else wF (hitW d z b c) (bl z b * 4), eE g) := by
  have hS' := hS
  obtain ⟨hL, hd, hz, ho⟩ := hS
  have hC := okL_C hd
  have h4 := ho.1
  have hb4 : b < 4 := by omega
  obtain ⟨q1, hl12, q3⟩ := ho.2 b hb
  intro fu
  induction fu with
  | zero => intro k h1 h2; omega
  | succ fu ih =>
    intro i h1 h2
    have l1 := q_len a43 hz hb4
    simp only [fX11_wrong_42, tR, bis, l1, b2s]
    by_cases hi : i = bl z b
    · subst hi
      rw [if_pos (nI_le (Nat.le_refl _) (by omega))]
      split <;> rfl
    · have hi2 : i < bl z b := by omega
      rw [if_neg (nI_ge hi2 (by omega))]
      have nx := ih (i + 1) (by omega) (by omega)
      have cl := q_card a43 hz hb4 (show i < 12 by omega)
      have key : ∀ (fv k : Nat), k ≤ 4 → 4 - k < fv → fX11_wrong_58 (fX11_wrong_42 fu) fv 38 (nI b) (nI c) (nI wh) (nI (wN (hitW d z b c) (i * 4 + k))) (wF (hitW d z b c) (i * 4 + k)) (nI i) (nI k) (eE g) = some (if nI wh = 0 then nI (wN (hitW d z b c) (bl z b * 4)) else wF (hitW d z b c) (bl z b * 4), eE g) := by
        intro fv
        induction fv with
        | zero => intro k k1 k2; omega
        | succ fv ihv =>
          intro k k1 k2
          rw [fX11_wrong_58]
          by_cases hk : k = 4
          · subst hk
            rw [if_pos (show (4 : Int32) ≤ nI 4 by decide), nI_1]
            rw [show (i + 1) * 4 = i * 4 + 4 by omega] at nx
            exact nx
          · have hk4 : k < 4 := by omega
            have nk := ihv (k + 1) (by omega) (by omega)
            rw [if_neg (show ¬ (4 : Int32) ≤ nI k from nI_ge (a := k) (b := 4) hk4 (by decide))]
            have ot := q_other hS' (ch := i) (ot := k) hb (by omega) hk4 (Nat.le_refl _)
            have hdiv : (i * 4 + k) / 4 = i := by omega
            have hmod : (i * 4 + k) % 4 = k := by omega
            have hwl := wN_le (hitW d z b c) (i * 4 + k)
            have ocond := oM9_inj (x := pw d z b i k (bl z b)) (c := c) (fun e he => by have := pw_lt hd ho hb _ _ he; omega) (by omega)
            have f4 : (4 : Int32) * nI i + nI k = nI (i * 4 + k) := by
              show nI 4 * nI i + nI k = _
              rw [pk_mul, nI_add, Nat.mul_comm]
            simp only [tR, bis, cl, b2s]
            rw [show i * 4 + (k + 1) = i * 4 + k + 1 by omega] at nk
            by_cases hcard : k = bc z b i
            · have hht : hitW d z b c (i * 4 + k) = false := by
                unfold hitW cIf
                rw [hdiv, hmod, if_pos hcard.symm]
                exact decide_eq_false (fun h => by cases h)
              rw [if_pos (by rw [← hcard]), fX11_wrong_122, nI_1]
              rw [wN, wF, hht] at nk
              exact nk
            · have cb4 := (q3 i hi2).1
              rw [if_neg (fun q => hcard ((nI_eq (by omega) (by omega)).mp q))]
              simp only [l1, b2s, ot]
              have hhit : hitW d z b c (i * 4 + k) = true ↔ pw d z b i k (bl z b) = some c := by
                unfold hitW cIf
                rw [hdiv, hmod, if_neg (fun q => hcard q.symm), decide_eq_true_eq]
                cases hpw : pw d z b i k (bl z b) with
                | none => exact Iff.rfl
                | some e => exact Iff.rfl
              by_cases hh : pw d z b i k (bl z b) = some c
              · have hht := hhit.mpr hh
                rw [if_pos (ocond.mpr hh)]
                simp only [fX11_wrong_117, fX11_wrong_122, nI_1, f4]
                rw [wN, wF, hht] at nk
                by_cases h0 : wN (hitW d z b c) (i * 4 + k) = 0
                · rw [if_pos (by rw [h0]; rfl)]
                  rw [h0] at nk ⊢
                  exact nk
                · have h0b : (wN (hitW d z b c) (i * 4 + k) == 0) = false := by simpa using h0
                  rw [if_neg (nI_ne0 (by omega) (by omega))]
                  rw [h0b] at nk
                  exact nk
              · have hht : hitW d z b c (i * 4 + k) = false := by
                  cases hq : hitW d z b c (i * 4 + k) with
                  | false => rfl
                  | true => exact absurd (hhit.mp hq) hh
                rw [if_neg (fun q => hh (ocond.mp q)), fX11_wrong_122, nI_1]
                rw [wN, wF, hht] at nk
                exact nk
      exact key eN 0 (by omega) (by rw [eN_eq]; omega)
theorem sim19 : Sim19 Rl := by
  intro g r x v u
  obtain ⟨n, tx, d, z, kn, nx, H, kp, Z, r1, r2, r8, r9, r10⟩ := id r
  have hd := r2.2.2.1
  have hC := okL_C hd
  have h4 := r2.2.2.2.2.2.1
  rcases inOr x (show z 0 < 2 ^ 31 by omega) with ⟨b, hb, rfl⟩ | hx
  · have hb4 : b < 4 := by omega
    have e1 := c_has b14 r2.2.2.2.1 h4 hb
    have e2 := q_isB (th_BZ r2.2.2.2.2.1) h4 hb
    rcases inOr v (show lC d < 2 ^ 31 by omega) with ⟨c, hc, rfl⟩ | hv
    · have e3 := c_hasN g1 r2.1 hd hc
      have e4 := q_isN (th_ML r2.2.1) hd hc
      rcases inOr u (show 2 < 2 ^ 31 by decide) with ⟨wh, hw, rfl⟩ | hu
      · have e5 : ∀ w, fX11_in (nI wh) 0 1 w = some (1, w) := fun w => m_inL (m := 1) (by omega) (by decide) w
        have k1 := c_wrong_loop (rb_CS r2) (wh := wh) hb hc eN 0 (by omega) (by rw [eN_eq]; have := (r2.2.2.2.2.2.2 b hb).2.1; omega)
        have k2 := q_wrong_loop (th_MS (rb_MS r2)) (wh := wh) hb hc eN 0 (by omega) (by rw [eN_eq]; have := (r2.2.2.2.2.2.2 b hb).2.1; omega)
        rw [Nat.zero_mul] at k2
        rw [show wN (hitW d z b c) 0 = 0 from rfl, show wF (hitW d z b c) 0 = -9 from rfl, nI_0] at k1 k2
        refine ⟨if nI wh = 0 then nI (wN (hitW d z b c) (bl z b * 4)) else wF (hitW d z b c) (bl z b * 4), g, eSI g 38 0 0, ?_, ?_, kp_Rl (kp_th g) r⟩
        rotate_left
        · simp only [fX11_wrong, fX11_wrong_0, tO, tP, bis, b2s, cond_true, e2, e4, e5, if_neg one_ne0]
          exact k2
        · simp only [fX10_wrong, fX10_wrong_0, tO, tR, bis, b2s, cond_true, e1, e3, if_neg one_ne0, if_neg (nI_pos (show wh < 2 ^ 31 by omega)), if_pos (show nI wh ≤ 1 from nI_le (show wh ≤ 1 by omega) (by decide)), c_len b14 r2.2.2.2.1 hb4]
          exact k1
      · have e5 : ∀ w, fX11_in u 0 1 w = some (0, w) := fun w => m_inLO (m := 1) hu (by decide) w
        refine ⟨-1, g, eSI g 38 0 0, ?_, ?_, kp_Rl (kp_th g) r⟩
        · by_cases h0 : u < 0
          · simp only [fX10_wrong, fX10_wrong_0, tO, tR, bis, b2s, cond_true, e1, e3, if_neg one_ne0, if_pos h0]
          · have h1 : ¬ u ≤ 1 := by
              have := hu.resolve_left h0
              rw [Int32.le_iff_toInt_le, nI_toInt (by decide)] at this
              rw [Int32.le_iff_toInt_le]
              have h2 : (1 : Int32).toInt = 1 := by decide
              omega
            simp only [fX10_wrong, fX10_wrong_0, tO, tR, bis, b2s, cond_true, e1, e3, if_neg one_ne0, if_neg h0, if_neg h1]
        · simp only [fX11_wrong, fX11_wrong_0, tO, tP, bis, b2s, cond_true, e2, e4, e5, if_neg one_ne0, if_true]
    · refine ⟨-1, g, eSI g 38 0 0, ?_, ?_, kp_Rl (kp_th g) r⟩
      · simp only [fX10_wrong, fX10_wrong_0, tO, tR, bis, b2s, cond_true, e1, if_neg one_ne0, c_hasO g1 r2.1 hv, if_true]
      · simp only [fX11_wrong, fX11_wrong_0, tO, tP, bis, b2s, cond_true, e2, if_neg one_ne0, q_isO (th_ML r2.2.1) hd hv, if_true]
  · refine ⟨-1, g, eSI g 38 0 0, ?_, ?_, kp_Rl (kp_th g) r⟩
    · simp only [fX10_wrong, fX10_wrong_0, tO, tR, bis, b2s, cond_true, c_hasNo b14 r2.2.2.2.1 hx, if_true]
    · simp only [fX11_wrong, fX11_wrong_0, tO, tP, bis, b2s, cond_true, q_isBNo (th_BZ r2.2.2.2.2.1) h4 hx, if_true]
