/-! ===== the model's tokens ===== -/
def TXm (g : eS) (n : Nat) (tx : Nat → Nat) : Prop := g.1 38 3 = nI n ∧ n ≤ 200 ∧ ∀ i, i < n → tx i < 256 ∧ g.2.1 39 i = nI (tx i)
def N38 (g h : eS) : Prop := (∀ i k, ¬ (i = 38 ∧ 4 ≤ k ∧ k ≤ 7) → h.1 i k = g.1 i k) ∧ h.2 = g.2
theorem n38_rf (g : eS) : N38 g g := ⟨fun _ _ _ => rfl, rfl⟩
theorem n38_tr {g h k : eS} (a : N38 g h) (b : N38 h k) : N38 g k := ⟨fun i j q => (b.1 i j q).trans (a.1 i j q), b.2.trans a.2⟩
theorem n38_I (g : eS) {k : Nat} (h1 : 4 ≤ k) (h2 : k ≤ 7) (v : Int32) : N38 g (eSI g 38 k v) := by
  refine ⟨fun i j q => ?_, rfl⟩
  rw [eSI_ne _ _ (by omega)]
theorem n38_TX {g h : eS} (a : N38 g h) {n : Nat} {tx : Nat → Nat} (t : TXm g n tx) : TXm h n tx := by
  unfold TXm at t ⊢
  rw [a.1 38 3 (by omega), a.2]
  exact t
theorem ar_39 : eAr sh0 39 = some (false, 200) := rfl
def MH (h : eS) (n : Nat) (tx : Nat → Nat) (p : Nat) : Prop := h.1 38 4 = nI (oE n tx p) ∧ h.1 38 5 = nI (kd n tx p) ∧ h.1 38 6 = nI (oS n tx p) ∧ (kd n tx p = 2 → h.1 38 7 = nI (oV n tx p)) ∧ (kd n tx p = 1 → h.1 38 7 = nI (tx (oS n tx p)))
theorem m_inD {c : Nat} (hc : c < 256) (w : eW) : fX11_in (nI c) 48 57 w = some (if isD c then 1 else 0, w) := by
  rw [m_in]
  unfold isD
  by_cases h1 : c < 48
  · rw [if_pos (Or.inl (show nI c < (48 : Int32) from nI_lt (b := 48) h1 (by decide))), decide_eq_false (show ¬ 48 ≤ c by omega)]; rfl
  · rw [decide_eq_true (show 48 ≤ c by omega)]
    by_cases h2 : 57 < c
    · rw [if_pos (Or.inr (show (57 : Int32) < nI c from nI_lt (a := 57) h2 (by omega))), decide_eq_false (show ¬ c ≤ 57 by omega)]; rfl
    · rw [if_neg, decide_eq_true (show c ≤ 57 by omega)]
      · rfl
      · intro q
        rcases q with q | q
        · exact (show ¬ nI c < (48 : Int32) from nI_nlt (b := 48) (by omega) (by omega)) q
        · exact (show ¬ (57 : Int32) < nI c from nI_nlt (a := 57) (by omega) (by decide)) q
section MTOK
variable {n : Nat} {tx : Nat → Nat}
theorem q_letN {g : eS} (t : TXm g n tx) {p : Nat} (hp : p < n) : fX11_letterAt 38 (nI p) (eE g) = some (nI (tx p), eE g) := by
  have h200 := t.2.1
  rw [fX11_letterAt, (tO g).2.2.2.2.2.2.2.2.2.2.2.2.2.2.2.2.2.2.2.2.2.2.2.2.2.2, cond_true, fX11_letterAt_0]
  simp only [tI, bis, t.1]
  rw [if_neg (nI_ge hp (by omega))]
  simp only [tR, bis]
  rw [ld (n := 200) g ar_39 (by decide) (by omega), bis, (t.2.2 p hp).2]
theorem q_letE {g : eS} (t : TXm g n tx) {p : Nat} (hp : n ≤ p) (h2 : p < 1000) : fX11_letterAt 38 (nI p) (eE g) = some (-1, eE g) := by
  rw [fX11_letterAt, (tO g).2.2.2.2.2.2.2.2.2.2.2.2.2.2.2.2.2.2.2.2.2.2.2.2.2.2, cond_true, fX11_letterAt_0]
  simp only [tI, bis, t.1]
  rw [if_pos (nI_le hp (by omega))]
theorem q_sk : ∀ (fu f p : Nat) (g : eS), p ≤ n → n - p = f → f < fu → TXm g n tx → g.1 38 4 = nI p → ∃ h fu', fX11_advances_0 fu 38 (eE g) = fX11_advances_0 (fu' + 1) 38 (eE h) ∧ N38 g h ∧ h.1 38 4 = nI (skN n tx f p) := by
  intro fu
  induction fu with
  | zero => intro f p g h1 h2 h3; omega
  | succ fu ih =>
    intro f p g h1 h2 h3 t hp
    have h200 := t.2.1
    cases f with
    | zero => exact ⟨g, fu, rfl, n38_rf g, hp⟩
    | succ f =>
      rw [skN]
      by_cases hc : p < n ∧ tx p = 32
      · rw [if_pos hc, fX11_advances_0]
        simp only [tI, bis, hp]
        rw [q_letN t hc.1, b2s, if_pos (show nI (tx p) = (32 : Int32) by rw [hc.2]; rfl)]
        simp only [tI, tP, bis, hp, nI_1]
        obtain ⟨h, fu', o1, o2, o3⟩ := ih f (p + 1) (eSI g 38 4 (nI (p + 1))) (by omega) (by omega) (by omega) (n38_TX (n38_I g (by omega) (by omega) _) t) (eSI_at _ _ _ _)
        exact ⟨h, fu', o1, n38_tr (n38_I g (by omega) (by omega) _) o2, o3⟩
      · rw [if_neg hc]
        exact ⟨g, fu, rfl, n38_rf g, hp⟩
theorem q_dg {s c0 : Nat} (hc0 : c0 < 256) : ∀ (fu f p v m : Nat) (g : eS), p ≤ n → n - p = f → f < fu → s ≤ p → v = min m 100 → m ≤ 999 → TXm g n tx → g.1 38 4 = nI p → g.1 38 7 = nI m → g.1 38 6 = nI s → ∃ h, fX11_advances_71 fu 38 (nI c0) (eE g) = some (eE h) ∧ N38 g h ∧ h.1 38 4 = nI (dgN n tx f p v).2 ∧ h.1 38 6 = nI s ∧ h.1 38 5 = nI (if 99 < (dgN n tx f p v).1 ∨ (c0 = 48 ∧ s + 1 < (dgN n tx f p v).2) then 4 else 2) ∧ ((dgN n tx f p v).1 ≤ 99 → h.1 38 7 = nI (dgN n tx f p v).1) := by
  intro fu
  induction fu with
  | zero => intro f p v m g h1 h2 h3; omega
  | succ fu ih =>
    intro f p v m g h1 h2 h3 hs hv hm t h4 h7 h6
    have h200 := t.2.1
    rw [fX11_advances_71]
    simp only [tI, bis, h4]
    have stop : dgN n tx f p v = (v, p) → ∃ h, ((eGI (eE g) 38 11 7).bind fun v6 => if (99 : Int32) < v6 then (fX11_advances_170 38 (eE g)) else (if nI c0 = (48 : Int32) then ((eGI (eE g) 38 11 4).bind fun v7 => (eGI (eE g) 38 11 6).bind fun v8 => if (v7 - v8) ≤ (1 : Int32) then (fX11_advances_174 38 (eE g)) else (fX11_advances_170 38 (eE g))) else (fX11_advances_174 38 (eE g)))) = some (eE h) ∧ N38 g h ∧ h.1 38 4 = nI (dgN n tx f p v).2 ∧ h.1 38 6 = nI s ∧ h.1 38 5 = nI (if 99 < (dgN n tx f p v).1 ∨ (c0 = 48 ∧ s + 1 < (dgN n tx f p v).2) then 4 else 2) ∧ ((dgN n tx f p v).1 ≤ 99 → h.1 38 7 = nI (dgN n tx f p v).1) := by
      intro hd
      rw [hd]
      dsimp only
      have fin : ∀ x, x = nI (if 99 < v ∨ (c0 = 48 ∧ s + 1 < p) then 4 else 2) → N38 g (eSI g 38 5 x) ∧ (eSI g 38 5 x).1 38 4 = nI p ∧ (eSI g 38 5 x).1 38 6 = nI s ∧ (eSI g 38 5 x).1 38 5 = nI (if 99 < v ∨ (c0 = 48 ∧ s + 1 < p) then 4 else 2) ∧ (v ≤ 99 → (eSI g 38 5 x).1 38 7 = nI v) := by
        intro x hx
        refine ⟨n38_I g (by omega) (by omega) x, ?_, ?_, ?_, fun hv9 => ?_⟩
        · rw [eSI_ne _ _ (by omega)]; exact h4
        · rw [eSI_ne _ _ (by omega)]; exact h6
        · rw [eSI_at]; exact hx
        · rw [eSI_ne _ _ (by omega), h7, show m = v by omega]
      simp only [tI, bis, h7, h4, h6, pk_sub hs, fX11_advances_170, fX11_advances_174, fX11_advances_175, tP]
      by_cases h99 : 99 < m
      · rw [if_pos (show (99 : Int32) < nI m from nI_lt (a := 99) h99 (by omega))]
        exact ⟨_, rfl, fin _ (by rw [if_pos (Or.inl (by omega))]; rfl)⟩
      · rw [if_neg (show ¬ (99 : Int32) < nI m from nI_nlt (a := 99) (by omega) (by decide))]
        by_cases h48 : c0 = 48
        · rw [if_pos (show nI c0 = (48 : Int32) by rw [h48]; rfl)]
          by_cases hps : p - s ≤ 1
          · rw [if_pos (show nI (p - s) ≤ (1 : Int32) from nI_le (b := 1) hps (by decide))]
            exact ⟨_, rfl, fin _ (by rw [if_neg (by omega)]; rfl)⟩
          · rw [if_neg (show ¬ nI (p - s) ≤ (1 : Int32) from nI_ge (a := 1) (by omega) (by omega))]
            exact ⟨_, rfl, fin _ (by rw [if_pos (by omega)]; rfl)⟩
        · rw [if_neg (show ¬ nI c0 = (48 : Int32) from fun q => h48 ((nI_eq (b := 48) (by omega) (by decide)).mp q))]
          exact ⟨_, rfl, fin _ (by rw [if_neg (by omega)]; rfl)⟩
    by_cases hn : n ≤ p
    · rw [q_letE t hn (by omega), b2s, m_in, b2s, if_pos (show (if (-1 : Int32) < 48 ∨ (57 : Int32) < -1 then (0 : Int32) else 1) = 0 by decide)]
      refine stop ?_
      have : f = 0 := by omega
      subst this
      rw [dgN]
    · obtain ⟨f, rfl⟩ : ∃ k, f = k + 1 := ⟨f - 1, by omega⟩
      have hc := (t.2.2 p (by omega)).1
      have lt := q_letN t (show p < n by omega)
      rw [lt, b2s, m_inD hc, b2s]
      cases hd : isD (tx p) with
      | false =>
        rw [if_pos (show (if false = true then (1 : Int32) else 0) = 0 by decide)]
        refine stop ?_
        rw [dgN, if_neg (fun q => by rw [hd] at q; exact absurd q.2 (by decide))]
      | true =>
        have hr := isD_r hd
        rw [if_neg (show ¬ (if true = true then (1 : Int32) else 0) = 0 by decide), dgN, if_pos ⟨by omega, hd⟩]
        have k125 : ∀ m', min m' 100 = min (v * 10 + tx p - 48) 100 → m' ≤ 999 → ∃ h, fX11_advances_125 (fX11_advances_71 fu) 38 (nI c0) 38 (nI m') (eE g) = some (eE h) ∧ N38 g h ∧ h.1 38 4 = nI (dgN n tx f (p + 1) (min (v * 10 + tx p - 48) 100)).2 ∧ h.1 38 6 = nI s ∧ h.1 38 5 = nI (if 99 < (dgN n tx f (p + 1) (min (v * 10 + tx p - 48) 100)).1 ∨ (c0 = 48 ∧ s + 1 < (dgN n tx f (p + 1) (min (v * 10 + tx p - 48) 100)).2) then 4 else 2) ∧ ((dgN n tx f (p + 1) (min (v * 10 + tx p - 48) 100)).1 ≤ 99 → h.1 38 7 = nI (dgN n tx f (p + 1) (min (v * 10 + tx p - 48) 100)).1) := by
          intro m' hm' hm9
          have e4 : (eSI g 38 7 (nI m')).1 38 4 = nI p := by rw [eSI_ne _ _ (by omega)]; exact h4
          have n1 := n38_tr (n38_I g (k := 7) (by omega) (by omega) (nI m')) (n38_I (eSI g 38 7 (nI m')) (k := 4) (by omega) (by omega) (nI (p + 1)))
          rw [fX11_advances_125]
          simp only [tI, tP, bis, e4, nI_1]
          obtain ⟨h, o1, o2, o3⟩ := ih f (p + 1) (min (v * 10 + tx p - 48) 100) m' _ (by omega) (by omega) (by omega) (by omega) hm'.symm hm9 (n38_TX n1 t) (eSI_at _ _ _ _) (by rw [eSI_ne _ _ (by omega), eSI_at]) (by rw [eSI_ne _ _ (by omega), eSI_ne _ _ (by omega)]; exact h6)
          exact ⟨h, o1, n38_tr n1 o2, o3⟩
        simp only [tI, bis, h7, h4]
        by_cases h99 : m ≤ 99
        · rw [if_pos (show nI m ≤ (99 : Int32) from nI_le (b := 99) h99 (by decide)), lt, b2s, show (10 : Int32) = nI 10 from rfl, show (48 : Int32) = nI 48 from rfl, pk_mul, nI_add, pk_sub (by omega)]
          exact k125 _ (by rw [show v = m by omega, Nat.mul_comm]) (by omega)
        · rw [if_neg (show ¬ nI m ≤ (99 : Int32) from nI_ge (a := 99) (by omega) (by omega))]
          exact k125 _ (by omega) hm
theorem q_adv {g : eS} (t : TXm g n tx) {p : Nat} (hp : p ≤ n) (h4 : g.1 38 4 = nI p) : ∃ h, fX11_advances 38 (eE g) = some (eE h) ∧ N38 g h ∧ MH h n tx p := by
  have h200 := t.2.1
  have sb := oS_b (tx := tx) hp
  obtain ⟨g1', fu', o1, o2, o3⟩ := q_sk eN (n - p) p g hp rfl (by rw [eN_eq]; omega) t h4
  rw [show skN n tx (n - p) p = oS n tx p from rfl] at o3
  have t1 := n38_TX o2 t
  have n6' := n38_I g1' (k := 6) (by omega) (by omega) (nI (oS n tx p))
  have t2 := n38_TX n6' t1
  have e4 : (eSI g1' 38 6 (nI (oS n tx p))).1 38 4 = nI (oS n tx p) := by rw [eSI_ne _ _ (by omega)]; exact o3
  have main : fX11_advances 38 (eE g) = fX11_advances_0 (fu' + 1) 38 (eE g1') := by
    rw [fX11_advances, (tO g).2.2.2.2.2.2.2.2.2.2.2.2.2.2.2.2.2.2.2.2.2.2.2.2.2.2, cond_true]
    exact o1
  rw [main, fX11_advances_0]
  simp only [tI, bis, o3]
  by_cases hn : n ≤ oS n tx p
  · obtain ⟨e1, e2⟩ := oE_e hn
    have ek := kd_0.mpr hn
    rw [q_letE t1 hn (by omega), b2s, if_neg (show ¬ (-1 : Int32) = 32 by decide)]
    simp only [tI, tP, bis, o3, e4]
    rw [q_letE t2 hn (by omega), b2s, if_neg (show ¬ (0 : Int32) ≤ -1 by decide)]
    simp only [tP, bis]
    refine ⟨_, rfl, n38_tr o2 (n38_tr n6' (n38_I _ (k := 5) (by omega) (by omega) 0)), ?_, ?_, ?_, fun q => by omega, fun q => by omega⟩
    · rw [eSI_ne _ _ (by omega), e1]; exact e4
    · rw [eSI_at, ek]; rfl
    · rw [eSI_ne _ _ (by omega), eSI_at]
  · have hlt : oS n tx p < n := by omega
    have hc := (t.2.2 _ hlt).1
    have h32 : ¬ tx (oS n tx p) = 32 := fun q => sb.2.2 ⟨hlt, q⟩
    rw [q_letN t1 hlt, b2s, if_neg (show ¬ nI (tx (oS n tx p)) = (32 : Int32) from fun q => h32 ((nI_eq (b := 32) (by omega) (by decide)).mp q))]
    simp only [tI, tP, bis, o3, e4]
    rw [q_letN t2 hlt, b2s, if_pos (show (0 : Int32) ≤ nI (tx (oS n tx p)) from nI_le (a := 0) (by omega) (by omega)), m_inD hc, b2s]
    by_cases hd : isD (tx (oS n tx p)) = true
    · obtain ⟨e1, e2⟩ := oE_d hlt hd
      rw [hd, if_neg (show ¬ (if true = true then (1 : Int32) else 0) = 0 by decide)]
      simp only [tP, bis]
      have n7 := n38_I (eSI g1' 38 6 (nI (oS n tx p))) (k := 7) (by omega) (by omega) 0
      obtain ⟨h, q1, q2, q3, q4, q5, q6⟩ := q_dg hc eN (n - oS n tx p) (oS n tx p) 0 0 (eSI (eSI g1' 38 6 (nI (oS n tx p))) 38 7 0) sb.2.1 rfl (by rw [eN_eq]; omega) (Nat.le_refl _) (by omega) (by omega) (n38_TX n7 t2) (by rw [eSI_ne _ _ (by omega)]; exact e4) (by rw [eSI_at]; rfl) (by rw [eSI_ne _ _ (by omega), eSI_at])
      rw [q1]
      refine ⟨h, rfl, n38_tr o2 (n38_tr n6' (n38_tr n7 q2)), ?_, ?_, q4, fun q => ?_, fun q => ?_⟩
      · rw [q3, e1]; rfl
      · rw [q5]
        apply congrArg nI
        unfold kd bad
        rw [if_neg hn, if_pos hd]
        have e : (((decide (oS n tx p + 1 < (oN n tx p).2) && tx (oS n tx p) == 48) || decide (99 < oV n tx p)) = true) ↔ (99 < oV n tx p ∨ (tx (oS n tx p) = 48 ∧ oS n tx p + 1 < (oN n tx p).2)) := by
          rw [Bool.or_eq_true, Bool.and_eq_true, decide_eq_true_eq, decide_eq_true_eq, beq_iff_eq]
          constructor
          · rintro (⟨a, b⟩ | c)
            · exact Or.inr ⟨b, a⟩
            · exact Or.inl c
          · rintro (c | ⟨a, b⟩)
            · exact Or.inr c
            · exact Or.inl ⟨b, a⟩
        by_cases hb : 99 < oV n tx p ∨ (tx (oS n tx p) = 48 ∧ oS n tx p + 1 < (oN n tx p).2)
        · rw [if_pos (e.mpr hb)]; exact if_pos hb
        · rw [if_neg (fun q => hb (e.mp q))]; exact if_neg hb
      · refine q6 ?_
        show oV n tx p ≤ 99
        unfold kd at q
        rw [if_neg hn, if_pos hd] at q
        split at q
        · omega
        next hb =>
          apply Nat.le_of_not_lt
          intro hv
          apply hb
          unfold bad
          rw [decide_eq_true hv, Bool.or_true]
      · unfold kd at q
        rw [if_neg hn, if_pos hd] at q
        split at q <;> omega
    · obtain ⟨e1, e2⟩ := oE_l hlt hd
      rw [if_neg hd, if_pos rfl]
      have e4' : (eSI (eSI g1' 38 6 (nI (oS n tx p))) 38 4 (nI (oS n tx p + 1))).1 38 4 = nI (oS n tx p + 1) := eSI_at _ _ _ _
      simp only [tI, tP, bis, e4, nI_1]
      have hx : ∀ k, kd n tx p = k → N38 g (eSI (eSI (eSI (eSI g1' 38 6 (nI (oS n tx p))) 38 4 (nI (oS n tx p + 1))) 38 7 (nI (tx (oS n tx p)))) 38 5 (nI k)) ∧ (k ≠ 2 → MH (eSI (eSI (eSI (eSI g1' 38 6 (nI (oS n tx p))) 38 4 (nI (oS n tx p + 1))) 38 7 (nI (tx (oS n tx p)))) 38 5 (nI k)) n tx p) := by
        intro k hk
        refine ⟨n38_tr o2 (n38_tr n6' (n38_tr (n38_I _ (k := 4) (by omega) (by omega) _) (n38_tr (n38_I _ (k := 7) (by omega) (by omega) _) (n38_I _ (k := 5) (by omega) (by omega) _)))), fun k2 => ⟨?_, ?_, ?_, fun q => by omega, fun q => ?_⟩⟩
        · rw [eSI_ne _ _ (by omega), eSI_ne _ _ (by omega), eSI_at, e1]
        · rw [eSI_at, hk]
        · rw [eSI_ne _ _ (by omega), eSI_ne _ _ (by omega), eSI_ne _ _ (by omega), eSI_at]
        · rw [eSI_ne _ _ (by omega), eSI_at]
      have hkd : kd n tx p = if tx (oS n tx p) = 59 then 3 else if isL (tx (oS n tx p)) = true then 1 else 4 := by
        unfold kd
        rw [if_neg hn, if_neg hd]
      have ne : ∀ c : Nat, c < 256 → tx (oS n tx p) ≠ c → ¬ nI (tx (oS n tx p)) = nI c := fun c h256 hne q => hne ((nI_eq (by omega) (by omega)).mp q)
      simp only [fX11_advances_231, fX11_advances_236, tP, bis]
      by_cases h59 : tx (oS n tx p) = 59
      · rw [if_pos (show nI (tx (oS n tx p)) = (59 : Int32) by rw [h59]; rfl)]
        rw [if_pos h59] at hkd
        exact ⟨_, rfl, (hx 3 hkd).1, (hx 3 hkd).2 (by omega)⟩
      · rw [if_neg (show ¬ nI (tx (oS n tx p)) = (59 : Int32) from ne 59 (by decide) h59)]
        rw [if_neg h59] at hkd
        by_cases hl : isL (tx (oS n tx p)) = true
        · rw [if_pos hl] at hkd
          have r := hx 1 hkd
          rcases isL_r hl with q | q | q | q
          · rw [if_pos (show nI (tx (oS n tx p)) = (103 : Int32) by rw [q]; rfl)]
            exact ⟨_, rfl, r.1, r.2 (by omega)⟩
          · rw [if_neg (show ¬ nI (tx (oS n tx p)) = (103 : Int32) from ne 103 (by decide) (by omega)), if_pos (show nI (tx (oS n tx p)) = (104 : Int32) by rw [q]; rfl)]
            exact ⟨_, rfl, r.1, r.2 (by omega)⟩
          · rw [if_neg (show ¬ nI (tx (oS n tx p)) = (103 : Int32) from ne 103 (by decide) (by omega)), if_neg (show ¬ nI (tx (oS n tx p)) = (104 : Int32) from ne 104 (by decide) (by omega)), if_neg (show ¬ nI (tx (oS n tx p)) = (116 : Int32) from ne 116 (by decide) (by omega)), if_pos (show nI (tx (oS n tx p)) = (109 : Int32) by rw [q]; rfl)]
            exact ⟨_, rfl, r.1, r.2 (by omega)⟩
          · rw [if_neg (show ¬ nI (tx (oS n tx p)) = (103 : Int32) from ne 103 (by decide) (by omega)), if_neg (show ¬ nI (tx (oS n tx p)) = (104 : Int32) from ne 104 (by decide) (by omega)), if_pos (show nI (tx (oS n tx p)) = (116 : Int32) by rw [q]; rfl)]
            exact ⟨_, rfl, r.1, r.2 (by omega)⟩
        · rw [if_neg hl] at hkd
          have r := hx 4 hkd
          have nl : tx (oS n tx p) ≠ 103 ∧ tx (oS n tx p) ≠ 104 ∧ tx (oS n tx p) ≠ 116 ∧ tx (oS n tx p) ≠ 109 := by
            unfold isL at hl
            simp only [Bool.or_eq_true, beq_iff_eq] at hl
            omega
          rw [if_neg (show ¬ nI (tx (oS n tx p)) = (103 : Int32) from ne 103 (by decide) nl.1), if_neg (show ¬ nI (tx (oS n tx p)) = (104 : Int32) from ne 104 (by decide) nl.2.1), if_neg (show ¬ nI (tx (oS n tx p)) = (116 : Int32) from ne 116 (by decide) nl.2.2.1), if_neg (show ¬ nI (tx (oS n tx p)) = (109 : Int32) from ne 109 (by decide) nl.2.2.2)]
          exact ⟨_, rfl, r.1, r.2 (by omega)⟩
end MTOK
