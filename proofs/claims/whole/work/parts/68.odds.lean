/-! ===== odds ===== -/
theorem kp_A (g : eS) (F : Nat → Int32) {a : Nat} (h : a = 25 ∨ a = 28 ∨ a = 32 ∨ a = 35 ∨ a = 44 ∨ a = 51) : Kp g (eSA g a F) := by
  rcases h with rfl | rfl | rfl | rfl | rfl | rfl <;> exact ⟨⟨fun _ => rfl, rfl, rfl, rfl, rfl, rfl, rfl⟩, ⟨rfl, rfl, rfl, rfl, rfl, rfl⟩, ⟨rfl, rfl, rfl, rfl, rfl, rfl, rfl, rfl⟩, rfl⟩
theorem sAA (g : eS) (a : Nat) (F : Nat → Int32) : (eSA g a F).2.1 a = F := by rw [eSA_r, if_pos rfl]
theorem sAo (g : eS) (F : Nat → Int32) {a i : Nat} (h : i ≠ a) : (eSA g a F).2.1 i = g.2.1 i := by rw [eSA_r, if_neg h]
/-- by how many nights of rain, times 10 a night -/
def chN (p : Nat) : Nat → Nat → Nat
  | 0, r => if r = 0 then 1 else 0
  | i + 1, r => chN p i r * (10 - p) + (if r = 0 then 0 else chN p i (r - 1) * p)
theorem chN_z (p : Nat) : ∀ i r, i < r → chN p i r = 0 := by
  intro i
  induction i with
  | zero => intro r h; rw [chN, if_neg (by omega)]
  | succ i ih =>
    intro r h
    rw [chN, ih r (by omega), ih (r - 1) (by omega), if_neg (by omega), Nat.zero_mul, Nat.zero_mul]
theorem nI_m1 (q : Nat) : nI (q + 1) - 1 = nI q := by
  rw [show (1 : Int32) = nI 1 from rfl, pk_sub (by omega)]
  rfl
theorem c_fore27 {g : eS} {p n : Nat} (hp : p ≤ 10) (K19 : Nat → Int32 → Int32 → Int32 → eW → Option eW) {i : Nat} (hi : i + 1 ≤ 6) : ∀ (fv r : Nat) (F : Nat → Int32), r ≤ i + 2 → r < fv → (∀ j, j < 7 → F j = nI (if j < r then chN p i j else chN p (i + 1) j)) → ∃ F', fX3_foretell_27 K19 fv 30 (nI p) (nI n) (nI (i + 1)) (nI r - 1) (eE (eSA g 32 F)) = K19 30 (nI p) (nI n) (nI (i + 1 + 1)) (eE (eSA g 32 F')) ∧ ∀ j, j < 7 → F' j = nI (chN p (i + 1) j) := by
  intro fv
  induction fv with
  | zero => intro r F h1 h2; omega
  | succ fv ih =>
    intro r F h1 h2 hF
    rw [fX3_foretell_27]
    rcases Nat.eq_zero_or_pos r with h0 | h0
    · subst h0
      rw [if_pos (show nI 0 - 1 < (0 : Int32) by decide), nI_1]
      refine ⟨F, rfl, fun j hj => ?_⟩
      rw [hF j hj, if_neg (Nat.not_lt_zero _)]
    · obtain ⟨q, rfl⟩ : ∃ q, r = q + 1 := ⟨r - 1, by omega⟩
      have hq7 : q < 7 := by omega
      have gt : fX7_get 31 (nI q) (eE (eSA g 32 F)) = some (nI (chN p i q), eE (eSA g 32 F)) := by
        rw [row_getN r31 _ hq7, sAA, hF q hq7, if_pos (by omega)]
      have fin : ∀ t, t = nI (if q = 0 then 0 else chN p i (q - 1) * p) → ∃ F', fX3_foretell_70 K19 (fX3_foretell_27 K19 fv) 30 (nI p) (nI n) (nI (i + 1)) (nI q) (nI (chN p i q) * ((10 : Int32) - nI p)) t (eE (eSA g 32 F)) = K19 30 (nI p) (nI n) (nI (i + 1 + 1)) (eE (eSA g 32 F')) ∧ ∀ j, j < 7 → F' j = nI (chN p (i + 1) j) := by
        intro t ht
        rw [fX3_foretell_70]
        simp only [tR, bis]
        rw [row_putN r31 _ hq7, bis, eSA_same, sAA, ← Int32.sub_eq_add_neg, ht, show (10 : Int32) = nI 10 from rfl, pk_sub hp, pk_mul, nI_add]
        refine ih q _ (by omega) (by omega) (fun j hj => ?_)
        rw [upd_i]
        by_cases hjq : j = q
        · rw [if_pos hjq, hjq, if_neg (Nat.lt_irrefl _), chN]
        · rw [if_neg hjq, hF j hj]
          by_cases hlt : j < q
          · rw [if_pos (by omega), if_pos hlt]
          · rw [if_neg (by omega), if_neg hlt]
      rw [nI_m1, if_neg (nI_pos (by omega))]
      simp only [tR, bis, gt, b2s]
      by_cases hq0 : q = 0
      · subst hq0
        rw [if_pos (show nI 0 ≤ (0 : Int32) by decide)]
        exact fin 0 (by rw [if_pos rfl]; rfl)
      · rw [if_neg (nI_nle (by omega) (by omega)), show nI q - 1 = nI (q - 1) from by rw [show (1 : Int32) = nI 1 from rfl, pk_sub (by omega)], row_getN r31 _ (show q - 1 < 7 by omega), b2s, sAA, hF (q - 1) (by omega), if_pos (by omega)]
        exact fin _ (by rw [if_neg hq0, pk_mul])
theorem c_foretell {g : eS} {p n : Nat} (hp : p ≤ 10) (hn : n ≤ 6) : ∃ F, fX3_foretell 30 (nI p) (nI n) (eE g) = some (eE (eSA g 32 F)) ∧ ∀ r, r < 7 → F r = nI (chN p n r) := by
  have k19 : ∀ (fu i : Nat) (F : Nat → Int32), i ≤ n → n - i < fu → (∀ j, j < 7 → F j = nI (chN p i j)) → ∃ F', fX3_foretell_19 fu 30 (nI p) (nI n) (nI (i + 1)) (eE (eSA g 32 F)) = some (eE (eSA g 32 F')) ∧ ∀ j, j < 7 → F' j = nI (chN p n j) := by
    intro fu
    induction fu with
    | zero => intro i F h1 h2; omega
    | succ fu ih =>
      intro i F h1 h2 hF
      rw [fX3_foretell_19]
      by_cases hi : i = n
      · subst hi
        rw [if_pos (nI_lt (by omega) (by omega))]
        exact ⟨F, rfl, hF⟩
      · rw [if_neg (nI_nlt (by omega) (by omega))]
        obtain ⟨F', e1, e2⟩ := c_fore27 (g := g) (n := n) hp (fX3_foretell_19 fu) (show i + 1 ≤ 6 by omega) eN (i + 2) F (Nat.le_refl _) (by rw [eN_eq]; omega) (fun j hj => by
          rw [hF j hj]
          by_cases hlt : j < i + 2
          · rw [if_pos hlt]
          · rw [if_neg hlt, chN_z p i j (by omega), chN_z p (i + 1) j (by omega)])
        rw [show nI (i + 2) - 1 = nI (i + 1) from nI_m1 (i + 1)] at e1
        obtain ⟨F2, f1, f2⟩ := ih (i + 1) F' (by omega) (by omega) e2
        exact ⟨F2, e1.trans f1, f2⟩
  obtain ⟨f, f1, f2, -⟩ := row_fill r31 0 g
  have pt := row_put0 r31 (eSA g 32 f) (by decide) 1
  rw [eSA_same, sAA] at pt
  obtain ⟨F', e1, e2⟩ := k19 eN 0 (upd f 0 1) (by omega) (by rw [eN_eq]; omega) (fun j hj => by
    rw [upd_i, chN]
    by_cases hj0 : j = 0
    · rw [if_pos hj0, if_pos hj0]; rfl
    · rw [if_neg hj0, if_neg hj0, f2 j hj]; rfl)
  refine ⟨F', ?_, e2⟩
  simp only [fX3_foretell, fX3_foretell_0, tO, tR, bis, cond_true, f1, pt]
  exact e1
def pwI (b : Int32) : Nat → Int32
  | 0 => 1
  | k + 1 => pwI b k * b
theorem c_lower {g : eS} {n : Nat} (hn : n ≤ 6) : fX3_lowerNumber 30 (nI n) (eE g) = some (pwI 10 n, eE g) := by
  have key : ∀ (fu k : Nat), k ≤ n → n - k < fu → fX3_lowerNumber_4 fu (nI n) (pwI 10 k) (nI k) (eE g) = some (pwI 10 n, eE g) := by
    intro fu
    induction fu with
    | zero => intro k h1 h2; omega
    | succ fu ih =>
      intro k h1 h2
      rw [fX3_lowerNumber_4]
      by_cases hk : k = n
      · rw [hk, if_pos (nI_le (Nat.le_refl _) (by omega))]
      · rw [if_neg (nI_ge (show k < n by omega) (by omega)), nI_1]
        exact ih (k + 1) (by omega) (by omega)
  simp only [fX3_lowerNumber, fX3_lowerNumber_0, tO, cond_true]
  exact key eN 0 (by omega) (by rw [eN_eq]; omega)
theorem q_pow (b : Int32) {n : Nat} (hn : n ≤ 6) (w : eW) : fX11_power b (nI n) w = some (pwI b n, w) := by
  have key : ∀ (fu k : Nat), k ≤ n → n - k < fu → fX11_power_4 fu b (nI n) (pwI b k) (nI k) w = some (pwI b n, w) := by
    intro fu
    induction fu with
    | zero => intro k h1 h2; omega
    | succ fu ih =>
      intro k h1 h2
      rw [fX11_power_4]
      by_cases hk : k = n
      · rw [hk, if_pos (nI_le (Nat.le_refl _) (by omega))]
      · rw [if_neg (nI_ge (show k < n by omega) (by omega)), nI_1]
        exact ih (k + 1) (by omega) (by omega)
  rw [fX11_power, fX11_power_0]
  exact key eN 0 (by omega) (by rw [eN_eq]; omega)
def chI (n : Nat) : Nat → Int32
  | 0 => 1
  | e + 1 => (chI n e * (nI n - nI e)) / nI (e + 1)
theorem q_choose {n k : Nat} (hn : n ≤ 6) (hk : k ≤ n) (w : eW) : fX11_choose (nI n) (nI k) w = some (chI n k, w) := by
  have key : ∀ (fu e : Nat), e ≤ k → k - e < fu → fX11_choose_4 fu (nI n) (nI k) (chI n e) (nI e) w = some (chI n k, w) := by
    intro fu
    induction fu with
    | zero => intro e h1 h2; omega
    | succ fu ih =>
      intro e h1 h2
      rw [fX11_choose_4]
      by_cases he : e = k
      · rw [he, if_pos (nI_le (Nat.le_refl _) (by omega))]
      · rw [if_neg (nI_ge (show e < k by omega) (by omega)), nI_1, if_neg (nI_ne0 (by omega) (by omega))]
        exact ih (e + 1) (by omega) (by omega)
  rw [fX11_choose, fX11_choose_0]
  exact key eN 0 (by omega) (by rw [eN_eq]; omega)
theorem ch_fin : ∀ (p : Fin 11) (n r : Fin 7), r.val ≤ n.val → (chI n.val r.val * pwI (nI p.val) r.val) * pwI (nI (10 - p.val)) (n.val - r.val) = nI (chN p.val n.val r.val) := by decide +kernel
theorem ch_le : ∀ (p : Fin 11) (n r : Fin 7), chN p.val n.val r.val ≤ 1000000 := by decide +kernel
theorem pw_fin : ∀ n : Fin 7, pwI 10 n.val = nI (10 ^ n.val) ∧ 0 < 10 ^ n.val ∧ 10 ^ n.val < 2 ^ 20 := by decide +kernel
/-- the bolts behind some rains -/
def fz (d : Lnd) (z : Nat → Nat) : Nat → Nat → Nat
  | 0 => z
  | r + 1 => zFr d (fz d z r) (fz d z r 0)
theorem fz_ok {d : Lnd} {z : Nat → Nat} (h : okB d z) : ∀ r, okB d (fz d z r) := by
  intro r
  induction r with
  | zero => exact h
  | succ r ih => exact okB_fr ih _ (Nat.le_refl _)
def upN (d : Lnd) (z : Nat → Nat) (p n : Nat) : Nat → Nat
  | 0 => 0
  | r + 1 => upN d z p n r + (if (pcs d (rdR d (fz d z r)) (rdD d (fz d z r)) (lK d)).1 ≤ 1 then chN p n r else 0)
theorem upN_le (d : Lnd) (z : Nat → Nat) {p n : Nat} (hp : p ≤ 10) (hn : n ≤ 6) : ∀ r, r ≤ n + 1 → upN d z p n r ≤ r * 1000000 := by
  intro r
  induction r with
  | zero => intro _; exact Nat.le_refl _
  | succ r ih =>
    intro hr
    have i1 := ih (by omega)
    have c1 : chN p n r ≤ 1000000 := ch_le ⟨p, by omega⟩ ⟨n, by omega⟩ ⟨r, by omega⟩
    rw [upN, Nat.succ_mul]
    refine Nat.add_le_add i1 ?_
    split
    · exact c1
    · exact Nat.zero_le _
theorem c_upper {g : eS} {d : Lnd} {z : Nat → Nat} (hS : CS g 16 d z) {p n : Nat} (hp : p ≤ 10) (hn : n ≤ 6) : ∃ h, fX3_upperNumber 30 14 (nI p) (nI n) (eE g) = some (nI (upN d z p n (n + 1)), eE h) ∧ Kp g h := by
  obtain ⟨hL, hd, hz, ho⟩ := hS
  have hK := hd.2.2.2.1
  have key : ∀ (fu r : Nat) (h : eS), r ≤ n + 1 → n + 1 - r < fu → Kp g h → (∀ j, j < 7 → h.2.1 32 j = nI (chN p n j)) → BZ h 35 (fz d z r) → ∃ h', fX3_upperNumber_20 fu 30 (nI n) (nI (upN d z p n r)) (nI r) (eE h) = some (nI (upN d z p n (n + 1)), eE h') ∧ Kp g h' := by
    intro fu
    induction fu with
    | zero => intro r h h1 h2; omega
    | succ fu ih =>
      intro r h h1 h2 hk hc hb
      rw [fX3_upperNumber_20]
      by_cases hr : r = n + 1
      · rw [hr, if_pos (nI_lt (by omega) (by omega))]
        exact ⟨h, rfl, hk⟩
      · have hr2 : r ≤ n := by omega
        have hO := fz_ok ho r
        have hS1 : CS h 35 d (fz d z r) := ⟨kp_CL hk hL, hd, hb, hO⟩
        have ly := c_lay R36 b33 hS1
        have hS2 : CS (rdS h 36 (rdR d (fz d z r)) (rdD d (fz d z r))) 35 d (fz d z r) := rd_CS R36 hS1
        have pc := c_pieces R36 hS2.1 hd (rd_ok hd hO) (rdS_1 h 36 _ _) (rdS_2 h 36 _ _)
        have p4 := (pcs_inC hd (rd_ok hd hO) (lK d) (Nat.le_refl _)).2
        obtain ⟨F, f1, f2⟩ := c_fray b33 hS2
        have fin : ∀ X, X = nI (upN d z p n (r + 1)) → ∃ h', fX3_upperNumber_62 (fX3_upperNumber_20 fu) 30 (nI n) X (nI r) (eE (rdS h 36 (rdR d (fz d z r)) (rdD d (fz d z r)))) = some (nI (upN d z p n (n + 1)), eE h') ∧ Kp g h' := by
          intro X hX
          rw [fX3_upperNumber_62]
          simp only [tR, bis, f1, b2s]
          rw [hX, nI_1]
          refine ih (r + 1) _ (by omega) (by omega) (kp_tr hk (kp_tr (kp_rd R36 h _ _) (kp_A _ F (by decide)))) (fun j hj => ?_) (fun i hi => ?_)
          · rw [sAo _ F (by decide), rdS_A]; exact hc j hj
          · rw [sAA, f2 i hi]; rfl
        rw [if_neg (nI_nlt hr2 (by omega))]
        simp only [tR, bis, ly, pc, b2s]
        by_cases hp1 : (pcs d (rdR d (fz d z r)) (rdD d (fz d z r)) (lK d)).1 ≤ 1
        · rw [if_neg (show ¬ (1 : Int32) < nI _ from nI_nlt (a := 1) hp1 (by decide)), row_getN r31 _ (show r < 7 by omega), b2s, rdS_A, hc r (by omega)]
          exact fin _ (by rw [upN, if_pos hp1, nI_add])
        · rw [if_pos (show (1 : Int32) < nI _ from nI_lt (a := 1) (by omega) (by omega))]
          exact fin _ (by rw [upN, if_neg hp1]; rfl)
  obtain ⟨F, f1, f2⟩ := c_foretell (g := g) hp hn
  have cp := c_copyTo (g := eSA g 32 F) (s := 0) b14 r34 (by decide) (by decide)
  rw [nI_0] at cp
  have k1 := kp_A g F (a := 32) (by decide)
  obtain ⟨h', e1, e2⟩ := key eN 0 _ (by omega) (by rw [eN_eq]; omega) (kp_tr k1 (kp_A (eSA g 32 F) (cpT ((eSA g 32 F).2.1 35) ((eSA g 32 F).2.1 16) (0 * 57) 57) (a := 35) (by decide))) (fun j hj => by
    rw [sAo _ _ (by decide), sAA]; exact f2 j hj) (fun i hi => by
    have c1 := cpT_in (f := (eSA g 32 F).2.1 35) (s := (eSA g 32 F).2.1 16) (o := 0 * 57) hi
    rw [show 0 * 57 + i = i by omega] at c1
    rw [sAA, c1, sAo _ _ (by decide)]
    exact hz i hi)
  refine ⟨h', ?_, e2⟩
  simp only [fX3_upperNumber, fX3_upperNumber_0, fX0_become, fX0_become_0, tO, tR, bis, cond_true, f1, cp]
  exact e1
/-! common divisors -/
theorem md {a b : Nat} (ha : a < 2 ^ 31) (h0 : 0 < b) (hb : b < 2 ^ 31) : nI a - nI a / nI b * nI b = nI (a % b) := by
  rw [pk_div ha h0 hb, pk_mul, pk_sub (Nat.div_mul_le_self a b)]
  apply congrArg nI
  have := Nat.mod_add_div a b
  rw [Nat.mul_comm b] at this
  omega
theorem half {b r : Nat} (h : 0 < r) (hrb : r < b) : 2 * (b % r) < b := by
  have h1 := Nat.mod_lt b h
  have h2 := Nat.mod_add_div b r
  have h3 : 1 ≤ b / r := Nat.div_pos (Nat.le_of_lt hrb) h
  have h4 := Nat.mul_le_mul_left r h3
  omega
theorem gcd_1 {a b : Nat} : Nat.gcd a b = Nat.gcd b (a % b) := by
  rw [Nat.gcd_comm a b, Nat.gcd_rec b a, Nat.gcd_comm]
theorem c_gcd (w : eW) : ∀ (k a b t fu : Nat), a < 2 ^ 31 → b < 2 ^ 31 → b < 2 ^ k → t + 2 * k ≤ 62 → 2 * k < fu → fX10_commonDivisor_7 fu (nI a) (nI b) (nI t) w = some (nI (Nat.gcd a b), w) := by
  have z0 : ∀ (a t fu : Nat), t ≤ 62 → 0 < fu → fX10_commonDivisor_7 fu (nI a) (nI 0) (nI t) w = some (nI (Nat.gcd a 0), w) := by
    intro a t fu ht hf
    obtain ⟨fu, rfl⟩ : ∃ k, fu = k + 1 := ⟨fu - 1, by omega⟩
    rw [fX10_commonDivisor_7, if_neg (show ¬ (64 : Int32) ≤ nI t from nI_ge (a := t) (b := 64) (by omega) (by decide)), if_pos nI_0, Nat.gcd_zero_right]
  intro k
  induction k with
  | zero =>
    intro a b t fu ha hb hk ht hf
    rw [show b = 0 by omega]
    exact z0 a t fu (by omega) (by omega)
  | succ k ih =>
    intro a b t fu ha hb hk ht hf
    by_cases hb0 : b = 0
    · rw [hb0]
      exact z0 a t fu (by omega) (by omega)
    · obtain ⟨fu, rfl⟩ : ∃ k, fu = k + 1 := ⟨fu - 1, by omega⟩
      have hr := Nat.mod_lt a (show b > 0 by omega)
      rw [fX10_commonDivisor_7, if_neg (show ¬ (64 : Int32) ≤ nI t from nI_ge (a := t) (b := 64) (by omega) (by decide)), if_neg (nI_ne0 (by omega) hb), if_neg (nI_ne0 (by omega) hb), md ha (by omega) hb, nI_1, gcd_1]
      by_cases hr0 : a % b = 0
      · rw [hr0]
        exact z0 b (t + 1) fu (by omega) (by omega)
      · obtain ⟨fu, rfl⟩ : ∃ k, fu = k + 1 := ⟨fu - 1, by omega⟩
        rw [fX10_commonDivisor_7, if_neg (show ¬ (64 : Int32) ≤ nI (t + 1) from nI_ge (a := t + 1) (b := 64) (by omega) (by decide)), if_neg (nI_ne0 (by omega) (by omega)), if_neg (nI_ne0 (by omega) (by omega)), md hb (by omega) (by omega), nI_1, gcd_1]
        have h2 := half (show 0 < a % b by omega) hr
        rw [Nat.pow_succ] at hk
        have h3 := Nat.mod_lt b (show a % b > 0 by omega)
        exact ih (a % b) (b % (a % b)) (t + 1 + 1) fu (by omega) (by omega) (by omega) (by omega) (by omega)
theorem q_gcd (w : eW) : ∀ (k a b fu : Nat), a < 2 ^ 31 → b < 2 ^ 31 → b < 2 ^ k → 2 * k < fu → fX11_gcd_4 fu (nI a) (nI b) w = some (nI (Nat.gcd a b), w) := by
  have z0 : ∀ (a fu : Nat), 0 < fu → fX11_gcd_4 fu (nI a) (nI 0) w = some (nI (Nat.gcd a 0), w) := by
    intro a fu hf
    obtain ⟨fu, rfl⟩ : ∃ k, fu = k + 1 := ⟨fu - 1, by omega⟩
    rw [fX11_gcd_4, if_pos nI_0, Nat.gcd_zero_right]
  intro k
  induction k with
  | zero =>
    intro a b fu ha hb hk hf
    rw [show b = 0 by omega]
    exact z0 a fu (by omega)
  | succ k ih =>
    intro a b fu ha hb hk hf
    by_cases hb0 : b = 0
    · rw [hb0]
      exact z0 a fu (by omega)
    · obtain ⟨fu, rfl⟩ : ∃ k, fu = k + 1 := ⟨fu - 1, by omega⟩
      have hr := Nat.mod_lt a (show b > 0 by omega)
      rw [fX11_gcd_4, if_neg (nI_ne0 (by omega) hb), if_neg (nI_ne0 (by omega) hb), md ha (by omega) hb, gcd_1]
      by_cases hr0 : a % b = 0
      · rw [hr0]
        exact z0 b fu (by omega)
      · obtain ⟨fu, rfl⟩ : ∃ k, fu = k + 1 := ⟨fu - 1, by omega⟩
        rw [fX11_gcd_4, if_neg (nI_ne0 (by omega) (by omega)), if_neg (nI_ne0 (by omega) (by omega)), md hb (by omega) (by omega), gcd_1]
        have h2 := half (show 0 < a % b by omega) hr
        rw [Nat.pow_succ] at hk
        have h3 := Nat.mod_lt b (show a % b > 0 by omega)
        exact ih (a % b) (b % (a % b)) fu (by omega) (by omega) (by omega) (by omega)
/-! the model's -/
theorem q_odds72 {g : eS} {d : Lnd} {z : Nat → Nat} (hL : ML g d) (hd : okL d) (ho : okB d z) {p n v : Nat} (hp : p ≤ 10) (hn : n ≤ 6) (hv : v < 2) : ∀ (fu r : Nat) (h : eS), r ≤ n + 1 → n + 1 - r < fu → Kp g h → BZ h 44 (fz d z r) → ∃ h', fX11_odds_72 fu 38 (nI p) (nI n) (nI v) (nI (upN d z p n r)) (nI r) (eE h) = some (nI (if v = 0 then upN d z p n (n + 1) else 10 ^ n) / nI (Nat.gcd (upN d z p n (n + 1)) (10 ^ n)), eE h') ∧ Kp g h' := by
  obtain ⟨t1, t2, t3⟩ := pw_fin ⟨n, by omega⟩
  dsimp only at t1 t2 t3
  have hK := hd.2.2.2.1
  intro fu
  induction fu with
  | zero => intro r h h1 h2; omega
  | succ fu ih =>
    intro r h h1 h2 hk hb
    rw [fX11_odds_72]
    by_cases hr : r = n + 1
    · have hu := upN_le d z hp hn (n + 1) (Nat.le_refl _)
      have gc := q_gcd (eE h) 20 (upN d z p n (n + 1)) (10 ^ n) eN (by omega) (by omega) (by omega) (by rw [eN_eq]; omega)
      have g0 : 0 < Nat.gcd (upN d z p n (n + 1)) (10 ^ n) := Nat.gcd_pos_of_pos_right _ t2
      have g1 : Nat.gcd (upN d z p n (n + 1)) (10 ^ n) ≤ 10 ^ n := Nat.gcd_le_right _ t2
      rw [hr, if_pos (nI_lt (by omega) (by omega)), q_pow _ hn, b2s, t1, fX11_gcd, fX11_gcd_0, gc, b2s, if_neg (nI_ne0 g0 (by omega)), if_neg (nI_ne0 g0 (by omega))]
      refine ⟨h, ?_, hk⟩
      by_cases hv0 : v = 0
      · rw [hv0, if_pos nI_0, if_pos rfl]
      · rw [if_neg (nI_ne0 (by omega) (by omega)), if_neg hv0]
    · have hr2 : r ≤ n := by omega
      have hO := fz_ok ho r
      rw [if_neg (nI_nlt hr2 (by omega))]
      obtain ⟨h1', p1, p2, p3⟩ := q_pieces a44 (show MS h 44 d (fz d z r) from ⟨kp_ML hk hL, hd, hb, hO⟩)
      have p4 := (pcs_inC hd (rd_ok hd hO) (lK d) (Nat.le_refl _)).2
      have hb1 : BZ h1' 44 (fz d z r) := fun i hi => by rw [p3]; exact hb i hi
      obtain ⟨F, f1, f2⟩ := q_frays a44 (show MS h1' 44 d (fz d z r) from ⟨kp_ML (kp_tr hk p2) hL, hd, hb1, hO⟩)
      have fin : ∀ X, nI (upN d z p n r) + X = nI (upN d z p n (r + 1)) → ∃ h', fX11_odds_121 (fX11_odds_72 fu) 38 (nI p) (nI n) (nI v) (nI r) (nI (upN d z p n r)) X (eE h1') = some (nI (if v = 0 then upN d z p n (n + 1) else 10 ^ n) / nI (Nat.gcd (upN d z p n (n + 1)) (10 ^ n)), eE h') ∧ Kp g h' := by
        intro X hX
        rw [fX11_odds_121]
        simp only [tR, bis, f1, b2s]
        rw [hX, nI_1]
        refine ih (r + 1) _ (by omega) (by omega) (kp_tr hk (kp_tr p2 (kp_A _ F (by decide)))) (fun i hi => ?_)
        rw [sAA, f2 i hi]; rfl
      simp only [tR, bis, p1, b2s]
      by_cases hp1 : (pcs d (rdR d (fz d z r)) (rdD d (fz d z r)) (lK d)).1 ≤ 1
      · have cf : (chI n r * pwI (nI p) r) * pwI (nI (10 - p)) (n - r) = nI (chN p n r) := ch_fin ⟨p, by omega⟩ ⟨n, by omega⟩ ⟨r, by omega⟩ hr2
        rw [if_neg (show ¬ (2 : Int32) ≤ nI _ from nI_ge (b := 2) (by omega) (by decide)), q_choose hn hr2, b2s, q_pow _ (by omega), b2s, show (10 : Int32) = nI 10 from rfl, pk_sub hp, pk_sub hr2, q_pow _ (by omega), b2s, cf]
        exact fin _ (by rw [upN, if_pos hp1, nI_add])
      · rw [if_pos (show (2 : Int32) ≤ nI _ from nI_le (a := 2) (by omega) (by omega))]
        exact fin 0 (by rw [upN, if_neg hp1, show (0 : Int32) = nI 0 from rfl, nI_add])
theorem q_odds39 {g : eS} {d : Lnd} {z : Nat → Nat} (hS : MS g 43 d z) {p n v : Nat} (hp : p ≤ 10) (hn : n ≤ 6) (hv : v < 2) : ∃ h', fX11_odds_39 eN 38 (nI p) (nI n) (nI v) 0 (eE g) = some (nI (if v = 0 then upN d z p n (n + 1) else 10 ^ n) / nI (Nat.gcd (upN d z p n (n + 1)) (10 ^ n)), eE h') ∧ Kp g h' := by
  obtain ⟨hL, hd, hz, ho⟩ := hS
  have key : ∀ (fu k : Nat) (F : Nat → Int32), k ≤ 57 → 57 - k < fu → (∀ j, j < k → F j = nI (z j)) → ∃ h', fX11_odds_39 fu 38 (nI p) (nI n) (nI v) (nI k) (eE (eSA g 44 F)) = some (nI (if v = 0 then upN d z p n (n + 1) else 10 ^ n) / nI (Nat.gcd (upN d z p n (n + 1)) (10 ^ n)), eE h') ∧ Kp g h' := by
    intro fu
    induction fu with
    | zero => intro k F h1 h2; omega
    | succ fu ih =>
      intro k F h1 h2 hF
      rw [fX11_odds_39]
      by_cases hk : k = 57
      · subst hk
        rw [if_pos (show (57 : Int32) ≤ nI 57 by decide)]
        have := q_odds72 hL hd ho hp hn hv eN 0 (eSA g 44 F) (by omega) (by rw [eN_eq]; omega) (kp_A g F (by decide)) (fun i hi => by rw [sAA, hF i hi]; rfl)
        rw [show upN d z p n 0 = 0 from rfl, nI_0] at this
        exact this
      · rw [if_neg (show ¬ (57 : Int32) ≤ nI k from nI_ge (a := k) (b := 57) (by omega) (by decide))]
        simp only [tR, bis]
        rw [ld (n := 57) _ (isMa_ar a43) (by decide) (by omega), bis, st (n := 57) _ (isMa_ar a44) (by decide) (by omega), bis, eSA_same, sAA, sAo _ _ (by decide), nI_1]
        refine ih (k + 1) _ (by omega) (by omega) (fun j hj => ?_)
        rw [upd_i]
        by_cases hjk : j = k
        · rw [if_pos hjk, hjk]; exact hz k (by omega)
        · rw [if_neg hjk]; exact hF j (by omega)
  have k0 := key eN 0 (g.2.1 44) (by omega) (by rw [eN_eq]; omega) (fun j hj => absurd hj (Nat.not_lt_zero _))
  rw [eSA_self, nI_0] at k0
  exact k0
theorem gtL {x : Int32} {m : Nat} (h : nI (m + 1) ≤ x) (hm : m < 2 ^ 30) : nI m < x := by
  rw [Int32.le_iff_toInt_le, nI_toInt (by omega)] at h
  rw [Int32.lt_iff_toInt_lt, nI_toInt (by omega)]
  omega
theorem sim18 : Sim18 Rl := by
  intro g r a b c
  obtain ⟨nn, tx, d, z, kn, nx, H, kp, Z, r1, r2, r8, r9, r10⟩ := id r
  have hd := r2.2.2.1
  have ho := r2.2.2.2.2.2
  rcases inOr a (show 11 < 2 ^ 31 by decide) with ⟨p, hp, rfl⟩ | ha
  · have a1 := nI_pos (show p < 2 ^ 31 by omega)
    have a2 : ¬ (10 : Int32) < nI p := nI_nlt (a := 10) (by omega) (by decide)
    have m1 : ∀ w, fX11_in (nI p) 0 10 w = some (1, w) := fun w => m_inL (m := 10) (by omega) (by decide) w
    rcases inOr b (show 7 < 2 ^ 31 by decide) with ⟨n, hn, rfl⟩ | hb
    · have b1 := nI_pos (show n < 2 ^ 31 by omega)
      have b2 : ¬ (6 : Int32) < nI n := nI_nlt (a := 6) (by omega) (by decide)
      have m2 : ∀ w, fX11_in (nI n) 0 6 w = some (1, w) := fun w => m_inL (m := 6) (by omega) (by decide) w
      rcases inOr c (show 2 < 2 ^ 31 by decide) with ⟨v, hv, rfl⟩ | hc
      · have c1 := nI_pos (show v < 2 ^ 31 by omega)
        have c2 : nI v ≤ (1 : Int32) := nI_le (b := 1) (by omega) (by decide)
        have m3 : ∀ w, fX11_in (nI v) 0 1 w = some (1, w) := fun w => m_inL (m := 1) (by omega) (by decide) w
        obtain ⟨h, u1, u2⟩ := c_upper (rb_CS r2) (show p ≤ 10 by omega) (show n ≤ 6 by omega)
        have k2 := kp_tr u2 (kp_th h)
        obtain ⟨h', s1, s2⟩ := q_odds39 (kp_MS k2 (rb_MS r2)) (show p ≤ 10 by omega) (show n ≤ 6 by omega) hv
        obtain ⟨t1, t2, t3⟩ := pw_fin ⟨n, hn⟩
        dsimp only at t1 t2 t3
        have hu := upN_le d z (show p ≤ 10 by omega) (show n ≤ 6 by omega) (n + 1) (Nat.le_refl _)
        have gc := c_gcd (eE h) 20 (upN d z p n (n + 1)) (10 ^ n) 0 eN (by omega) (by omega) (by omega) (by omega) (by rw [eN_eq]; omega)
        rw [nI_0] at gc
        have g0 : 0 < Nat.gcd (upN d z p n (n + 1)) (10 ^ n) := Nat.gcd_pos_of_pos_right _ t2
        have g1 : Nat.gcd (upN d z p n (n + 1)) (10 ^ n) ≤ 10 ^ n := Nat.gcd_le_right _ t2
        refine ⟨nI (if v = 0 then upN d z p n (n + 1) else 10 ^ n) / nI (Nat.gcd (upN d z p n (n + 1)) (10 ^ n)), h, h', ?_, ?_, kp_Rl (kp_tr k2 s2) r⟩
        · simp only [fX10_odds, fX10_odds_0, fX10_odds_76, tO, tR, bis, b2s, cond_true, if_neg a1, if_neg a2, if_neg b1, if_neg b2, if_neg c1, if_pos c2, u1, c_lower (show n ≤ 6 by omega), t1, fX10_commonDivisor, fX10_commonDivisor_0, gc, if_neg (nI_nle g0 (by omega)), if_neg (nI_ne0 g0 (by omega))]
          by_cases hv0 : v = 0
          · rw [hv0, if_pos nI_0, if_pos rfl]
          · rw [if_neg (nI_ne0 (by omega) (by omega)), if_neg hv0]
        · simp only [fX11_odds, fX11_odds_0, tO, tP, bis, b2s, cond_true, m1, m2, m3, if_neg one_ne0, s1]
      · have m3 : ∀ w, fX11_in c 0 1 w = some (0, w) := fun w => m_inLO (m := 1) hc (by decide) w
        refine ⟨-1, g, eSI g 38 0 0, ?_, ?_, kp_Rl (kp_th g) r⟩
        · by_cases h0 : c < 0
          · simp only [fX10_odds, fX10_odds_0, tO, cond_true, if_neg a1, if_neg a2, if_neg b1, if_neg b2, if_pos h0]
          · have h1 : ¬ c ≤ (1 : Int32) := by
              have := gtL (m := 1) (hc.resolve_left h0) (by decide)
              rw [show nI 1 = (1 : Int32) from rfl] at this
              rw [Int32.lt_iff_toInt_lt] at this
              rw [Int32.le_iff_toInt_le]
              omega
            simp only [fX10_odds, fX10_odds_0, tO, cond_true, if_neg a1, if_neg a2, if_neg b1, if_neg b2, if_neg h0, if_neg h1]
        · simp only [fX11_odds, fX11_odds_0, tO, tP, bis, b2s, cond_true, m1, m2, m3, if_neg one_ne0, if_true]
    · have m2 : ∀ w, fX11_in b 0 6 w = some (0, w) := fun w => m_inLO (m := 6) hb (by decide) w
      refine ⟨-1, g, eSI g 38 0 0, ?_, ?_, kp_Rl (kp_th g) r⟩
      · by_cases h0 : b < 0
        · simp only [fX10_odds, fX10_odds_0, tO, cond_true, if_neg a1, if_neg a2, if_pos h0]
        · have h1 : (6 : Int32) < b := gtL (m := 6) (hb.resolve_left h0) (by decide)
          simp only [fX10_odds, fX10_odds_0, tO, cond_true, if_neg a1, if_neg a2, if_neg h0, if_pos h1]
      · simp only [fX11_odds, fX11_odds_0, tO, tP, bis, b2s, cond_true, m1, m2, if_neg one_ne0, if_true]
  · have m1 : ∀ w, fX11_in a 0 10 w = some (0, w) := fun w => m_inLO (m := 10) ha (by decide) w
    refine ⟨-1, g, eSI g 38 0 0, ?_, ?_, kp_Rl (kp_th g) r⟩
    · by_cases h0 : a < 0
      · simp only [fX10_odds, fX10_odds_0, tO, cond_true, if_pos h0]
      · have h1 : (10 : Int32) < a := gtL (m := 10) (ha.resolve_left h0) (by decide)
        simp only [fX10_odds, fX10_odds_0, tO, cond_true, if_neg h0, if_pos h1]
    · simp only [fX11_odds, fX11_odds_0, tO, tP, bis, b2s, cond_true, m1, if_true]
