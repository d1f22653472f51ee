/-! ===== now: the steepest ===== -/
theorem go_lay {d : Lnd} (hd : okL d) {z : Nat → Nat} (ho : okB d z) : ∀ b, b ≤ z 0 → okRD d (layA d z b).1 (layA d z b).2 ∧ ∀ x j, j < 4 → (goB (lW d) (layA d z b).1 (layA d z b).2 x j = true ↔ ∃ b' i, b' < b ∧ i < bl z b' ∧ ((x = cb d z b' i ∧ j = bc z b' i) ∨ (x = cb d z b' (i + 1) ∧ j = opp (bc z b' i)))) := by
  intro b
  induction b with
  | zero =>
    intro _
    refine ⟨okRD_0 d, fun x j hj => ⟨fun h => ?_, fun ⟨b', i, h, _⟩ => absurd h (Nat.not_lt_zero _)⟩⟩
    exfalso
    have : goB (lW d) 0 0 x j = false := by unfold goB; simp
    rw [show (layA d z 0).1 = 0 from rfl, show (layA d z 0).2 = 0 from rfl, this] at h
    cases h
  | succ b ih =>
    intro hb
    obtain ⟨k1, k2⟩ := ih (by omega)
    have key : ∀ n, n ≤ bl z b → okRD d (layB d z b (layA d z b) n).1 (layB d z b (layA d z b) n).2 ∧ ∀ x j, j < 4 → (goB (lW d) (layB d z b (layA d z b) n).1 (layB d z b (layA d z b) n).2 x j = true ↔ (∃ b' i, b' < b ∧ i < bl z b' ∧ ((x = cb d z b' i ∧ j = bc z b' i) ∨ (x = cb d z b' (i + 1) ∧ j = opp (bc z b' i)))) ∨ ∃ i, i < n ∧ ((x = cb d z b i ∧ j = bc z b i) ∨ (x = cb d z b (i + 1) ∧ j = opp (bc z b i)))) := by
      intro n
      induction n with
      | zero =>
        intro _
        refine ⟨k1, fun x j hj => ?_⟩
        rw [show layB d z b (layA d z b) 0 = layA d z b from rfl, k2 x j hj]
        exact ⟨Or.inl, fun h => h.elim id (fun ⟨i, h, _⟩ => absurd h (Nat.not_lt_zero _))⟩
      | succ n ihn =>
        intro hn
        obtain ⟨j1, j2⟩ := ihn (by omega)
        have ly := lyR_ok hd j1 (okB_cb hd ho (show b < z 0 by omega) n (by omega)) (okB_nb ho (show b < z 0 by omega) (show n < bl z b by omega))
        refine ⟨ly.1, fun x j hj => ?_⟩
        have l2 := ly.2 x j hj
        rw [show layB d z b (layA d z b) (n + 1) = lyR (lW d) ((layB d z b (layA d z b) n).1, (layB d z b (layA d z b) n).2) (cb d z b n) (bc z b n) from rfl, l2, Bool.or_eq_true, Bool.or_eq_true, j2 x j hj, decide_eq_true_eq, decide_eq_true_eq]
        constructor
        · rintro ((h | ⟨i, h1, h2⟩) | h)
          · exact Or.inl h
          · exact Or.inr ⟨i, by omega, h2⟩
          · exact Or.inr ⟨n, by omega, h⟩
        · rintro (h | ⟨i, h1, h2⟩)
          · exact Or.inl (Or.inl h)
          · by_cases q : i = n
            · subst q; exact Or.inr h2
            · exact Or.inl (Or.inr ⟨i, by omega, h2⟩)
    obtain ⟨m1, m2⟩ := key (bl z b) (Nat.le_refl _)
    refine ⟨m1, fun x j hj => ?_⟩
    rw [show layA d z (b + 1) = layB d z b (layA d z b) (bl z b) from rfl, m2 x j hj]
    constructor
    · rintro (⟨b', i, h1, h2, h3⟩ | ⟨i, h2, h3⟩)
      · exact ⟨b', i, by omega, h2, h3⟩
      · exact ⟨b, i, by omega, h2, h3⟩
    · rintro ⟨b', i, h1, h2, h3⟩
      by_cases q : b' = b
      · subst q; exact Or.inr ⟨i, h2, h3⟩
      · exact Or.inl ⟨b', i, by omega, h2, h3⟩
theorem go_iff {d : Lnd} (hd : okL d) {z : Nat → Nat} (ho : okB d z) {x j : Nat} (hj : j < 4) : goB (lW d) (rdR d z) (rdD d z) x j = true ↔ ∃ b i, b < z 0 ∧ i < bl z b ∧ ((x = cb d z b i ∧ j = bc z b i) ∨ (x = cb d z b (i + 1) ∧ j = opp (bc z b i))) := (go_lay hd ho (z 0) (Nat.le_refl _)).2 x j hj
def omx (o : Option Nat) (a : Nat) : Option Nat := match o with
  | none => some a
  | some m => some (max m a)
def isMx (P : Nat → Prop) (o : Option Nat) : Prop := match o with
  | none => ∀ v, ¬ P v
  | some m => P m ∧ ∀ v, P v → v ≤ m
theorem isMx_u {P : Nat → Prop} {o o' : Option Nat} (h : isMx P o) (h' : isMx P o') : o = o' := by
  cases o with
  | none => cases o' with
    | none => rfl
    | some m => exact absurd h'.1 (h m)
  | some m => cases o' with
    | none => exact absurd h.1 (h' m)
    | some m' => rw [Nat.le_antisymm (h'.2 m h.1) (h.2 m' h'.1)]
theorem isMx_c {P Q : Nat → Prop} {o : Option Nat} (h : isMx P o) (e : ∀ v, P v ↔ Q v) : isMx Q o := by
  cases o with
  | none => exact fun v q => h v ((e v).mpr q)
  | some m => exact ⟨(e m).mp h.1, fun v q => h.2 v ((e v).mpr q)⟩
theorem isMx_s {P : Nat → Prop} {o : Option Nat} (h : isMx P o) (a : Nat) : isMx (fun v => P v ∨ v = a) (omx o a) := by
  cases o with
  | none => exact ⟨Or.inr rfl, fun v q => q.elim (fun p => absurd p (h v)) (fun p => Nat.le_of_eq p)⟩
  | some m =>
    refine ⟨?_, fun v q => ?_⟩
    · by_cases hm : m ≤ a
      · rw [Nat.max_eq_right hm]; exact Or.inr rfl
      · rw [Nat.max_eq_left (by omega)]; exact Or.inl h.1
    · rcases q with q | q
      · exact Nat.le_trans (h.2 v q) (Nat.le_max_left _ _)
      · rw [q]; exact Nat.le_max_right _ _
theorem n9_lt {a : Nat} (ha : a < 2 ^ 30) : (-9 : Int32) < nI a := by
  rw [Int32.lt_iff_toInt_lt, nI_toInt (by omega)]
  have : (-9 : Int32).toInt = -9 := by decide
  omega
theorem omx_c {o : Option Nat} (ho : ∀ m, o = some m → m ≤ 9) {a : Nat} (ha : a ≤ 9) : (if oM9 o < nI a then nI a else oM9 o) = oM9 (omx o a) := by
  cases o with
  | none => rw [show oM9 none = -9 from rfl, if_pos (n9_lt (by omega))]; rfl
  | some m =>
    have := ho m rfl
    show (if nI m < nI a then nI a else nI m) = nI (max m a)
    by_cases q : m < a
    · rw [if_pos (nI_lt q (by omega)), Nat.max_eq_right (by omega)]
    · rw [if_neg (nI_nlt (by omega) (by omega)), Nat.max_eq_left (by omega)]
theorem omx_q {o : Option Nat} (ho : ∀ m, o = some m → m ≤ 9) {a : Nat} (ha : a ≤ 9) : (nI a ≤ oM9 o → oM9 (omx o a) = oM9 o) ∧ (¬ nI a ≤ oM9 o → oM9 (omx o a) = nI a) := by
  cases o with
  | none =>
    refine ⟨fun q => ?_, fun _ => rfl⟩
    exfalso
    have h1 := n9_lt (show a < 2 ^ 30 by omega)
    rw [Int32.lt_iff_toInt_lt] at h1
    have h2 : nI a ≤ -9 := q
    rw [Int32.le_iff_toInt_le] at h2
    omega
  | some m =>
    have := ho m rfl
    show (nI a ≤ nI m → nI (max m a) = nI m) ∧ (¬ nI a ≤ nI m → nI (max m a) = nI a)
    by_cases q : a ≤ m
    · exact ⟨fun _ => by rw [Nat.max_eq_left q], fun h => absurd (nI_le q (by omega)) h⟩
    · exact ⟨fun h => absurd h (nI_ge (by omega) (by omega)), fun _ => by rw [Nat.max_eq_right (by omega)]⟩
theorem omx_9 {o : Option Nat} (ho : ∀ m, o = some m → m ≤ 9) {a : Nat} (ha : a ≤ 9) : ∀ m, omx o a = some m → m ≤ 9 := by
  intro m h
  cases o with
  | none => cases h; exact ha
  | some x =>
    have := ho x rfl
    cases h
    exact Nat.max_le.mpr ⟨this, ha⟩
def csM (d : Lnd) (R D : Nat) : Nat → Option Nat
  | 0 => none
  | m + 1 => if goB (lW d) R D (m / 2) (m % 2 + 1) then omx (csM d R D m) (ad (lH d (m / 2)) (lH d (mv (lW d) (m / 2) (m % 2 + 1)))) else csM d R D m
theorem csM_9 {d : Lnd} (hd : okL d) (R D : Nat) : ∀ n m, csM d R D n = some m → m ≤ 9 := by
  intro n
  induction n with
  | zero => intro m h; cases h
  | succ n ih =>
    intro m h
    rw [csM] at h
    split at h
    · exact omx_9 ih (ad_le (hd.2.2.2.2.1 _) (hd.2.2.2.2.1 _)) m h
    · exact ih m h
theorem csM_mx (d : Lnd) (R D : Nat) : ∀ n, isMx (fun v => ∃ m, m < n ∧ goB (lW d) R D (m / 2) (m % 2 + 1) = true ∧ v = ad (lH d (m / 2)) (lH d (mv (lW d) (m / 2) (m % 2 + 1)))) (csM d R D n) := by
  intro n
  induction n with
  | zero => intro v ⟨m, h, _⟩; exact absurd h (Nat.not_lt_zero _)
  | succ n ih =>
    rw [csM]
    split
    next hg =>
      refine isMx_c (isMx_s ih _) (fun v => ⟨?_, ?_⟩)
      · rintro (⟨m, h1, h2, h3⟩ | h)
        · exact ⟨m, by omega, h2, h3⟩
        · exact ⟨n, by omega, hg, h⟩
      · rintro ⟨m, h1, h2, h3⟩
        by_cases q : m = n
        · subst q; exact Or.inr h3
        · exact Or.inl ⟨m, by omega, h2, h3⟩
    next hg =>
      refine isMx_c ih (fun v => ⟨?_, ?_⟩)
      · rintro ⟨m, h1, h2, h3⟩; exact ⟨m, by omega, h2, h3⟩
      · rintro ⟨m, h1, h2, h3⟩
        by_cases q : m = n
        · subst q; exact absurd h2 hg
        · exact ⟨m, by omega, h2, h3⟩
def msB (d : Lnd) (z : Nat → Nat) (b : Nat) (o : Option Nat) : Nat → Option Nat
  | 0 => o
  | i + 1 => omx (msB d z b o i) (ad (lH d (cb d z b i)) (lH d (cb d z b (i + 1))))
def msA (d : Lnd) (z : Nat → Nat) : Nat → Option Nat
  | 0 => none
  | b + 1 => msB d z b (msA d z b) (bl z b)
theorem msB_9 {d : Lnd} (hd : okL d) (z : Nat → Nat) (b : Nat) {o : Option Nat} (ho : ∀ m, o = some m → m ≤ 9) : ∀ i m, msB d z b o i = some m → m ≤ 9 := by
  intro i
  induction i with
  | zero => exact ho
  | succ i ih => exact omx_9 ih (ad_le (hd.2.2.2.2.1 _) (hd.2.2.2.2.1 _))
theorem msA_9 {d : Lnd} (hd : okL d) (z : Nat → Nat) : ∀ b m, msA d z b = some m → m ≤ 9 := by
  intro b
  induction b with
  | zero => intro m h; cases h
  | succ b ih => exact msB_9 hd z b ih _
theorem msA_mx (d : Lnd) (z : Nat → Nat) : ∀ b, isMx (fun v => ∃ b' i, b' < b ∧ i < bl z b' ∧ v = ad (lH d (cb d z b' i)) (lH d (cb d z b' (i + 1)))) (msA d z b) := by
  intro b
  induction b with
  | zero => intro v ⟨b', i, h, _⟩; exact absurd h (Nat.not_lt_zero _)
  | succ b ih =>
    have key : ∀ n, isMx (fun v => (∃ b' i, b' < b ∧ i < bl z b' ∧ v = ad (lH d (cb d z b' i)) (lH d (cb d z b' (i + 1)))) ∨ ∃ i, i < n ∧ v = ad (lH d (cb d z b i)) (lH d (cb d z b (i + 1)))) (msB d z b (msA d z b) n) := by
      intro n
      induction n with
      | zero => exact isMx_c ih (fun v => ⟨Or.inl, fun h => h.elim id (fun ⟨i, h, _⟩ => absurd h (Nat.not_lt_zero _))⟩)
      | succ n ihn =>
        refine isMx_c (isMx_s ihn _) (fun v => ⟨?_, ?_⟩)
        · rintro ((h | ⟨i, h1, h2⟩) | h)
          · exact Or.inl h
          · exact Or.inr ⟨i, by omega, h2⟩
          · exact Or.inr ⟨n, by omega, h⟩
        · rintro (h | ⟨i, h1, h2⟩)
          · exact Or.inl (Or.inl h)
          · by_cases q : i = n
            · subst q; exact Or.inr h2
            · exact Or.inl (Or.inr ⟨i, by omega, h2⟩)
    refine isMx_c (key (bl z b)) (fun v => ⟨?_, ?_⟩)
    · rintro (⟨b', i, h1, h2, h3⟩ | ⟨i, h2, h3⟩)
      · exact ⟨b', i, by omega, h2, h3⟩
      · exact ⟨b, i, by omega, h2, h3⟩
    · rintro ⟨b', i, h1, h2, h3⟩
      by_cases q : b' = b
      · subst q; exact Or.inr ⟨i, h2, h3⟩
      · exact Or.inl ⟨b', i, by omega, h2, h3⟩
theorem some_inj' {a b : Nat} (h : some a = some b) : a = b := by cases h; rfl
theorem steep_eq {d : Lnd} (hd : okL d) {z : Nat → Nat} (ho : okB d z) : csM d (rdR d z) (rdD d z) (2 * lC d) = msA d z (z 0) := by
  have hok := rd_ok hd ho
  refine isMx_u (csM_mx d _ _ _) (isMx_c (msA_mx d z (z 0)) (fun v => ⟨?_, ?_⟩))
  · rintro ⟨b, i, h1, h2, rfl⟩
    have hc := okB_cb hd ho h1 i (by omega)
    have hc' := okB_cb hd ho h1 (i + 1) (by omega)
    have hk := ((ho.2 b h1).2.2 i h2).1
    have hnb := okB_nb ho h1 h2
    by_cases q : bc z b i = 1 ∨ bc z b i = 2
    · have hg : goB (lW d) (rdR d z) (rdD d z) (cb d z b i) (bc z b i) = true := (go_iff hd ho hk).mpr ⟨b, i, h1, h2, Or.inl ⟨rfl, rfl⟩⟩
      have hm := some_inj' ((goB_nb hd hok hk hg).2.symm.trans hnb)
      refine ⟨2 * cb d z b i + (bc z b i - 1), by omega, ?_, ?_⟩
      · rw [show (2 * cb d z b i + (bc z b i - 1)) / 2 = cb d z b i by omega, show (2 * cb d z b i + (bc z b i - 1)) % 2 + 1 = bc z b i by omega]
        exact hg
      · rw [show (2 * cb d z b i + (bc z b i - 1)) / 2 = cb d z b i by omega, show (2 * cb d z b i + (bc z b i - 1)) % 2 + 1 = bc z b i by omega, hm]
    · have hop : opp (bc z b i) = 1 ∨ opp (bc z b i) = 2 := by unfold opp; omega
      have hg : goB (lW d) (rdR d z) (rdD d z) (cb d z b (i + 1)) (opp (bc z b i)) = true := (go_iff hd ho (opp_lt _)).mpr ⟨b, i, h1, h2, Or.inr ⟨rfl, rfl⟩⟩
      have hm := some_inj' ((goB_nb hd hok (opp_lt _) hg).2.symm.trans (nb_opp hd hc hnb))
      generalize opp (bc z b i) = k at hop hg hm
      refine ⟨2 * cb d z b (i + 1) + (k - 1), by omega, ?_, ?_⟩
      · rw [show (2 * cb d z b (i + 1) + (k - 1)) / 2 = cb d z b (i + 1) by omega, show (2 * cb d z b (i + 1) + (k - 1)) % 2 + 1 = k by omega]
        exact hg
      · rw [show (2 * cb d z b (i + 1) + (k - 1)) / 2 = cb d z b (i + 1) by omega, show (2 * cb d z b (i + 1) + (k - 1)) % 2 + 1 = k by omega, hm, ad_comm]
  · rintro ⟨m, h1, h2, rfl⟩
    have hk : m % 2 + 1 < 4 := by omega
    have hgn := goB_nb hd hok hk h2
    obtain ⟨b, i, j1, j2, j3⟩ := (go_iff hd ho hk).mp h2
    refine ⟨b, i, j1, j2, ?_⟩
    have hc := okB_cb hd ho j1 i (by omega)
    have hnb := okB_nb ho j1 j2
    rcases j3 with ⟨a1, a2⟩ | ⟨a1, a2⟩
    · rw [a1, a2] at hgn
      have := some_inj' (hgn.2.symm.trans hnb)
      rw [a1, a2, this]
    · rw [a1, a2] at hgn
      have := some_inj' (hgn.2.symm.trans (nb_opp hd hc hnb))
      rw [a1, a2, this, ad_comm]
theorem c_steep {O : Nat} (h : isRo O) {g : eS} {d : Lnd} (hL : CL g 1 3 5 d) (hd : okL d) {R D : Nat} (hok : okRD d R D) (e1 : g.1 O 1 = nI R) (e2 : g.1 O 2 = nI D) : fX6_steepest O (eE g) = some (oM9 (csM d R D (2 * lC d)), eE g) := by
  obtain ⟨o1, o2, -⟩ := ro_O h g
  have hC := okL_C hd
  have key : ∀ (fu c : Nat), c ≤ lC d → lC d - c < fu → fX6_steepest_5 fu O (oM9 (csM d R D (2 * c))) (nI c) (eE g) = some (oM9 (csM d R D (2 * lC d)), eE g) := by
    intro fu
    induction fu with
    | zero => intro c h1 h2; omega
    | succ fu ih =>
      intro c h1 h2
      rw [fX6_steepest_5, o2, bis, c_cells g1 hL, b2s]
      by_cases hc : c = lC d
      · subst hc
        rw [if_pos (nI_le (Nat.le_refl _) (by omega))]
      · have hc2 : c < lC d := by omega
        rw [if_neg (nI_ge hc2 (by omega))]
        have nx := ih (c + 1) (by omega) (by omega)
        have k2 : ∀ (fv k : Nat), 1 ≤ k → k ≤ 3 → 3 - k < fv → fX6_steepest_18 (fX6_steepest_5 fu) fv O (oM9 (csM d R D (2 * c + (k - 1)))) (nI c) (nI k) (eE g) = some (oM9 (csM d R D (2 * lC d)), eE g) := by
          intro fv
          induction fv with
          | zero => intro k i0 i1 i2; omega
          | succ fv ihv =>
            intro k i0 i1 i2
            rw [fX6_steepest_18]
            by_cases hk : k = 3
            · subst hk
              rw [if_pos (by decide), nI_1]
              exact nx
            · rw [if_neg (show ¬ (2 : Int32) < nI k from nI_nlt (a := 2) (b := k) (by omega) (by omega)), c_goes h hL hd hok hc2 (show k < 4 by omega) e1 e2, b2s]
              have nk := ihv (k + 1) (by omega) (by omega) (by omega)
              rw [show 2 * c + (k + 1 - 1) = 2 * c + (k - 1) + 1 by omega, csM, show (2 * c + (k - 1)) / 2 = c by omega, show (2 * c + (k - 1)) % 2 + 1 = k by omega] at nk
              cases hg : goB (lW d) R D c k with
              | false =>
                rw [hg, if_neg (by decide)] at nk
                rw [if_pos (show (if false = true then (1 : Int32) else 0) = 0 by decide), fX6_steepest_61, nI_1]
                exact nk
              | true =>
                rw [hg, if_pos rfl] at nk
                have hgn := goB_nb hd hok (show k < 4 by omega) hg
                have he := (nb_lt hd.1.1 hc2 hgn.2).1
                have hee : mv (lW d) c k < lC d := he
                rw [if_neg (show ¬ (if true = true then (1 : Int32) else 0) = 0 by decide), o2, bis, bis, c_neighbour g1 hL hd hc2 (by omega), b2s, hgn.2, show oM1 (some (mv (lW d) c k)) = nI (mv (lW d) c k) from rfl, c_step g1 hL (by omega) (by omega), b2s, m_abs, b2s, ad_ok (hd.2.2.2.2.1 _) (hd.2.2.2.2.1 _), m_max, b2s, omx_c (csM_9 hd R D _) (ad_le (hd.2.2.2.2.1 _) (hd.2.2.2.2.1 _)), fX6_steepest_61, nI_1]
                exact nk
        exact k2 eN 1 (by omega) (by omega) (by rw [eN_eq]; omega)
  rw [fX6_steepest, o1, cond_true, fX6_steepest_0]
  exact key eN 0 (by omega) (by rw [eN_eq]; omega)
theorem q_steep {g : eS} {d : Lnd} {z : Nat → Nat} (hS : MS g 43 d z) : fX11_steep 38 (eE g) = some (oM9 (msA d z (z 0)), eE g) := by
  have hS' := hS
  obtain ⟨hL, hd, hz, ho⟩ := hS
  have hC := okL_C hd
  have h4 := ho.1
  have e0 : g.2.1 43 0 = nI (z 0) := hz 0 (by decide)
  have key : ∀ (fu b : Nat), b ≤ z 0 → z 0 - b < fu → fX11_steep_5 fu 38 (oM9 (msA d z b)) (nI b) (eE g) = some (oM9 (msA d z (z 0)), eE g) := by
    intro fu
    induction fu with
    | zero => intro b h1 h2; omega
    | succ fu ih =>
      intro b h1 h2
      simp only [fX11_steep_5, tR, bis, tK, e0]
      by_cases hb : b = z 0
      · subst hb
        rw [if_pos (nI_le (Nat.le_refl _) (by omega))]
      · have hb2 : b < z 0 := by omega
        have q2 := (ho.2 b hb2).2.1
        rw [if_neg (nI_ge hb2 (by omega))]
        have nx := ih (b + 1) (by omega) (by omega)
        have l1 := q_len a43 hz (show b < 4 by omega)
        have k2 : ∀ (fv i : Nat), i ≤ bl z b → bl z b - i < fv → fX11_steep_17 (fX11_steep_5 fu) fv 38 (oM9 (msB d z b (msA d z b) i)) (nI b) (nI i) (eE g) = some (oM9 (msA d z (z 0)), eE g) := by
          intro fv
          induction fv with
          | zero => intro i i1 i2; omega
          | succ fv ihv =>
            intro i i1 i2
            simp only [fX11_steep_17, tR, bis, l1, b2s]
            by_cases hi : i = bl z b
            · subst hi
              rw [if_pos (nI_le (Nat.le_refl _) (by omega)), nI_1]
              exact nx
            · have hi2 : i < bl z b := by omega
              have hc := okB_cb hd ho hb2 i (by omega)
              have hc' := okB_cb hd ho hb2 (i + 1) (by omega)
              rw [if_neg (nI_ge hi2 (by omega)), q_behind a43 hS' hb2 (by omega), b2s, nI_1]
              simp only [tR, bis]
              rw [q_behind a43 hS' hb2 (by omega), b2s, q_step hL hd (by omega) (by omega), b2s]
              have nk := ihv (i + 1) (by omega) (by omega)
              rw [msB] at nk
              obtain ⟨m1, m2⟩ := omx_q (msB_9 hd z b (msA_9 hd z b) i) (ad_le (hd.2.2.2.2.1 (cb d z b i)) (hd.2.2.2.2.1 (cb d z b (i + 1))))
              by_cases q : nI (ad (lH d (cb d z b i)) (lH d (cb d z b (i + 1)))) ≤ oM9 (msB d z b (msA d z b) i)
              · rw [m1 q] at nk
                rw [if_pos q, fX11_steep_69, nI_1]
                exact nk
              · rw [m2 q] at nk
                rw [if_neg q, fX11_steep_69, nI_1]
                exact nk
        exact k2 eN 0 (by omega) (by rw [eN_eq]; omega)
  simp only [fX11_steep, fX11_steep_0, tO, cond_true]
  exact key eN 0 (by omega) (by rw [eN_eq]; omega)
