/-! ===== the model reads a land ===== -/
def Km (g h : eS) : Prop := (∀ i k, ¬ (i = 38 ∧ (4 ≤ k ∧ k ≤ 8 ∨ k = 12)) → h.1 i k = g.1 i k) ∧ (∀ a, a ≠ 40 → a ≠ 41 → a ≠ 42 → h.2.1 a = g.2.1 a) ∧ (∀ j, j < 4 → h.2.1 40 j = g.2.1 40 j) ∧ (∀ j, j < 20 → h.2.1 41 j = g.2.1 41 j) ∧ (∀ j, j < 4 → h.2.1 42 j = g.2.1 42 j) ∧ h.2.2 = g.2.2
theorem km_rf (g : eS) : Km g g := ⟨fun _ _ _ => rfl, fun _ _ _ _ => rfl, fun _ _ => rfl, fun _ _ => rfl, fun _ _ => rfl, rfl⟩
theorem km_tr {g h k : eS} (a : Km g h) (b : Km h k) : Km g k := ⟨fun i j q => (b.1 i j q).trans (a.1 i j q), fun x p q r => (b.2.1 x p q r).trans (a.2.1 x p q r), fun j q => (b.2.2.1 j q).trans (a.2.2.1 j q), fun j q => (b.2.2.2.1 j q).trans (a.2.2.2.1 j q), fun j q => (b.2.2.2.2.1 j q).trans (a.2.2.2.2.1 j q), b.2.2.2.2.2.trans a.2.2.2.2.2⟩
theorem n38_km {g h : eS} (a : N38 g h) : Km g h := ⟨fun i k q => a.1 i k (by omega), fun x _ _ _ => by rw [a.2], fun j _ => by rw [a.2], fun j _ => by rw [a.2], fun j _ => by rw [a.2], by rw [a.2]⟩
theorem km_I (g : eS) {k : Nat} (h : 4 ≤ k ∧ k ≤ 8 ∨ k = 12) (v : Int32) : Km g (eSI g 38 k v) := by
  refine ⟨fun i j q => ?_, fun _ _ _ _ => rfl, fun _ _ => rfl, fun _ _ => rfl, fun _ _ => rfl, rfl⟩
  rw [eSI_ne _ _ (by omega)]
theorem km_40 (g : eS) {k : Nat} (h : 4 ≤ k) (v : Int32) : Km g (eSA g 40 (upd (g.2.1 40) k v)) := by
  refine ⟨fun _ _ _ => rfl, fun x p q r => by rw [sAo _ _ p], fun j hj => ?_, fun j _ => by rw [sAo _ _ (by decide)], fun j _ => by rw [sAo _ _ (by decide)], rfl⟩
  rw [sAA, upd_i, if_neg (by omega)]
theorem km_41 (g : eS) {k : Nat} (h : 20 ≤ k) (v : Int32) : Km g (eSA g 41 (upd (g.2.1 41) k v)) := by
  refine ⟨fun _ _ _ => rfl, fun x p q r => by rw [sAo _ _ q], fun j _ => by rw [sAo _ _ (by decide)], fun j hj => ?_, fun j _ => by rw [sAo _ _ (by decide)], rfl⟩
  rw [sAA, upd_i, if_neg (by omega)]
theorem km_42 (g : eS) {k : Nat} (h : 4 ≤ k) (v : Int32) : Km g (eSA g 42 (upd (g.2.1 42) k v)) := by
  refine ⟨fun _ _ _ => rfl, fun x p q r => by rw [sAo _ _ r], fun j _ => by rw [sAo _ _ (by decide)], fun j _ => by rw [sAo _ _ (by decide)], fun j hj => ?_, rfl⟩
  rw [sAA, upd_i, if_neg (by omega)]
theorem km_TX {g h : eS} (a : Km g h) {n : Nat} {tx : Nat → Nat} (t : TXm g n tx) : TXm h n tx := by
  unfold TXm at t ⊢
  rw [a.1 38 3 (by omega), a.2.1 39 (by decide) (by decide) (by decide)]
  exact t
/-- the land that the model has been told so far -/
def MT2 (g : eS) (L : Lnd) : Prop := g.2.1 40 4 = nI (lW L) ∧ g.2.1 40 5 = nI (lD L) ∧ g.2.1 40 7 = nI (lS L) ∧ g.2.1 40 6 = nI (lK L) ∧ (∀ c, c < 20 → g.2.1 41 (20 + c) = nI (lH L c)) ∧ (∀ k, k < lK L → g.2.1 42 (4 + k) = nI (lT L k))
theorem n38_MT {g h : eS} (a : N38 g h) {L : Lnd} (c : MT2 g L) : MT2 h L := by
  unfold MT2 at c ⊢
  rw [a.2]
  exact c
theorem tO38 (g : eS) : eO (eE g) 38 11 = true := (tO g).2.2.2.2.2.2.2.2.2.2.2.2.2.2.2.2.2.2.2.2.2.2.2.2.2.2
theorem ar_41 : eAr sh0 41 = some (false, 40) := rfl
theorem ar_42 : eAr sh0 42 = some (false, 8) := rfl
section MREAD
variable {n : Nat} {tx : Nat → Nat}
theorem q_well {g : eS} (h : g.1 38 8 = -1) : fX11_isWell 38 (eE g) = some (1, eE g) := by
  rw [fX11_isWell, tO38, cond_true, fX11_isWell_0]
  simp only [tI, bis, h]
  rw [if_neg (show ¬ (0 : Int32) ≤ -1 by decide), eZ_1, bis]
theorem q_sick {g : eS} {x : Nat} (h : g.1 38 8 = nI x) (hx : x ≤ 200) : fX11_isWell 38 (eE g) = some (0, eE g) := by
  rw [fX11_isWell, tO38, cond_true, fX11_isWell_0]
  simp only [tI, bis, h]
  rw [if_pos (show (0 : Int32) ≤ nI x from nI_le (a := 0) (by omega) (by omega)), eZ_0, bis]
theorem q_tk1 {g : eS} (t : TXm g n tx) {q : Nat} (hq : q ≤ n) (m : MH g n tx q) (hw : g.1 38 8 = -1) : ∃ h, fX11_takes 38 1 (eE g) = some (g.1 38 7, eE h) ∧ N38 g h ∧ MH h n tx (oE n tx q) := by
  obtain ⟨h, o1, o2, o3⟩ := q_adv t (oE_b (tx := tx) hq).2.1 m.1
  refine ⟨h, ?_, o2, o3⟩
  rw [fX11_takes, tO38, cond_true, fX11_takes_0, q_well hw, b2s, if_neg one_ne0, if_neg one_ne0]
  simp only [tI, bis, o1]
theorem q_tk0 {g : eS} {q : Nat} (m : MH g n tx q) (hw : g.1 38 8 = -1) : fX11_takes 38 0 (eE g) = some (0, eE (eSI g 38 8 (nI (oS n tx q)))) := by
  rw [fX11_takes, tO38, cond_true, fX11_takes_0, q_well hw, b2s, if_neg one_ne0, if_pos rfl]
  simp only [tI, tP, bis, m.2.2.1]
theorem q_tkF {g : eS} {x : Nat} (h : g.1 38 8 = nI x) (hx : x ≤ 200) (b : Int32) : fX11_takes 38 b (eE g) = some (0, eE g) := by
  rw [fX11_takes, tO38, cond_true, fX11_takes_0, q_sick h hx, b2s, if_pos rfl]
theorem kd_le (q : Nat) : kd n tx q ≤ 4 := by
  unfold kd
  split
  · omega
  · split
    · split <;> omega
    · split
      · omega
      · split <;> omega
theorem q_numF {g : eS} {x : Nat} (h : g.1 38 8 = nI x) (hx : x ≤ 200) (lo hi : Int32) : fX11_number 38 lo hi (eE g) = some (0, eE g) := by
  rw [fX11_number, tO38, cond_true, fX11_number_0]
  simp only [tI, bis, m_in, b2s, fX11_number_25, fX11_number_26, q_tkF h hx]
  split
  · split <;> rfl
  · rfl
theorem in_n {v lo hi : Nat} (h1 : v < 1000) (h2 : lo < 1000) (h3 : hi < 1000) (w : eW) : fX11_in (nI v) (nI lo) (nI hi) w = some (if decide (lo ≤ v ∧ v ≤ hi) then 1 else 0, w) := by
  rw [m_in]
  by_cases hc : lo ≤ v ∧ v ≤ hi
  · rw [decide_eq_true hc, if_neg, if_pos rfl]
    intro q
    rcases q with q | q
    · exact nI_nlt hc.1 (by omega) q
    · exact nI_nlt hc.2 (by omega) q
  · rw [decide_eq_false hc, if_pos, if_neg (by decide)]
    by_cases hl : v < lo
    · exact Or.inl (nI_lt hl (by omega))
    · exact Or.inr (nI_lt (by omega) (by omega))
theorem q_numY {g : eS} (t : TXm g n tx) {q : Nat} (hq : q ≤ n) (m : MH g n tx q) (hw : g.1 38 8 = -1) {lo hi : Nat} (h2 : lo < 1000) (h3 : hi < 1000) (hp : pNum n tx q lo hi = true) : ∃ h, fX11_number 38 (nI lo) (nI hi) (eE g) = some (nI (oV n tx q), eE h) ∧ N38 g h ∧ MH h n tx (oE n tx q) := by
  obtain ⟨h, o1, o2, o3⟩ := q_tk1 t hq m hw
  obtain ⟨k1, k2⟩ := of_decide_eq_true hp
  have hv := (oN_b (tx := tx) hq).2.2
  have v7 := m.2.2.2.1 k1
  refine ⟨h, ?_, o2, o3⟩
  rw [fX11_number, tO38, cond_true, fX11_number_0]
  simp only [tI, bis, m.2.1, v7]
  rw [k1, if_pos (show nI 2 = (2 : Int32) from rfl), in_n (by omega) h2 h3, b2s, decide_eq_true k2, if_neg (show ¬ (if true = true then (1 : Int32) else 0) = 0 by decide), fX11_number_26, o1, b2s, v7]
theorem q_numN {g : eS} {q : Nat} (hq : q ≤ n) (m : MH g n tx q) (hw : g.1 38 8 = -1) {lo hi : Nat} (h2 : lo < 1000) (h3 : hi < 1000) (hp : pNum n tx q lo hi = false) : fX11_number 38 (nI lo) (nI hi) (eE g) = some (0, eE (eSI g 38 8 (nI (oS n tx q)))) := by
  have hv := (oN_b (tx := tx) hq).2.2
  have hn := of_decide_eq_false hp
  have k4 := kd_le (n := n) (tx := tx) q
  rw [fX11_number, tO38, cond_true, fX11_number_0]
  simp only [tI, bis, m.2.1]
  by_cases k1 : kd n tx q = 2
  · have v7 := m.2.2.2.1 k1
    rw [k1, if_pos (show nI 2 = (2 : Int32) from rfl), v7, in_n (by omega) h2 h3, b2s, decide_eq_false (show ¬ (lo ≤ oV n tx q ∧ oV n tx q ≤ hi) from fun r => hn ⟨k1, r⟩), if_pos (show (if false = true then (1 : Int32) else 0) = 0 by decide), fX11_number_25, fX11_number_26, q_tk0 m hw, b2s]
  · rw [if_neg (show ¬ nI (kd n tx q) = (2 : Int32) from fun r => k1 ((nI_eq (b := 2) (by omega) (by decide)).mp r)), fX11_number_25, fX11_number_26, q_tk0 m hw, b2s]
/-- the model, well, with a token at hand -/
def mW (g : eS) (n : Nat) (tx : Nat → Nat) (q : Nat) (L : Lnd) (sl : Bool) : Prop := TXm g n tx ∧ MH g n tx q ∧ g.1 38 8 = -1 ∧ g.1 38 12 = (if sl then 1 else 0) ∧ MT2 g L ∧ okL L ∧ q ≤ n
def mPost (n : Nat) (tx : Nat → Nat) (h : eS) : PR → Prop
  | .inl x => h.1 38 8 = nI x ∧ x ≤ 200
  | .inr r => mW h n tx r.1 r.2.1 r.2.2
theorem mW_n {g h : eS} {q q' : Nat} {L : Lnd} {sl : Bool} (a : N38 g h) (c : mW g n tx q L sl) (m : MH h n tx q') (hq' : q' ≤ n) : mW h n tx q' L sl := by
  obtain ⟨c1, c2, c3, c4, c5, c6, c7⟩ := c
  exact ⟨n38_TX a c1, m, (a.1 38 8 (by omega)).trans c3, (a.1 38 12 (by omega)).trans c4, n38_MT a c5, c6, hq'⟩
theorem m_end {g : eS} {q it : Nat} {L : Lnd} {sl : Bool} (c : mW g n tx q L sl) (K79 : Nat → Int32 → eW → Option (Int32 × eW)) : ∃ h, fX11_land_131 K79 38 (nI it) (eE g) = K79 38 (nI (it + 1)) (eE h) ∧ Km g h ∧ mPost n tx h (pEnd n tx q L sl) := by
  have c0 := c
  obtain ⟨t, m, hw, c4, c5, c6, hq⟩ := c
  have k4 := kd_le (n := n) (tx := tx) q
  have h200 := t.2.1
  rw [fX11_land_131]
  simp only [tI, bis, m.2.1, fX11_land_145]
  unfold pEnd
  by_cases hk : kd n tx q = 3
  · obtain ⟨h, o1, o2, o3⟩ := q_tk1 t hq m hw
    rw [hk, if_pos (show nI 3 = (3 : Int32) from rfl), if_pos rfl, o1, b2s, nI_1]
    exact ⟨h, rfl, n38_km o2, mW_n o2 c0 o3 (oE_b (tx := tx) hq).2.1⟩
  · rw [if_neg (show ¬ nI (kd n tx q) = (3 : Int32) from fun r => hk ((nI_eq (b := 3) (by omega) (by decide)).mp r)), if_neg hk, q_tk0 m hw, b2s, nI_1]
    exact ⟨_, rfl, km_I g (by omega) _, eSI_at _ _ _ _, by have := (oS_b (tx := tx) hq).2.1; omega⟩
theorem m_endF {g : eS} {x it : Nat} (h : g.1 38 8 = nI x) (hx : x ≤ 200) (K79 : Nat → Int32 → eW → Option (Int32 × eW)) : fX11_land_131 K79 38 (nI it) (eE g) = K79 38 (nI (it + 1)) (eE g) := by
  rw [fX11_land_131]
  simp only [tI, bis, fX11_land_145, q_tkF h hx, b2s, nI_1]
  split <;> rfl
theorem m_G {g : eS} {q it : Nat} {L : Lnd} {sl : Bool} (c : mW g n tx q L sl) (hK : lK L = 0) (K79 : Nat → Int32 → eW → Option (Int32 × eW)) : ∃ h, ((fX11_readsItem 38 103 (eE g)).bind fun w5 => fX11_land_131 K79 38 (nI it) w5) = K79 38 (nI (it + 1)) (eE h) ∧ Km g h ∧ mPost n tx h (pG n tx q L sl) := by
  have c0 := c
  obtain ⟨t, m, hw, c4, c5, c6, hq⟩ := c
  have h200 := t.2.1
  have qb := oE_b (tx := tx) hq
  have sb := oS_b (tx := tx) hq
  rw [fX11_readsItem, tO38, cond_true, fX11_readsItem_0]
  simp only [tR, tK, bis]
  rw [if_pos trivial]
  unfold pG
  cases hn1 : pNum n tx q 2 5 with
  | false =>
    have nn := q_numN hq m hw (lo := 2) (hi := 5) (by omega) (by omega) hn1
    rw [show nI 2 = (2 : Int32) from rfl, show nI 5 = (5 : Int32) from rfl] at nn
    have e8 : (eSI g 38 8 (nI (oS n tx q))).1 38 8 = nI (oS n tx q) := eSI_at _ _ _ _
    rw [if_neg (show ¬ false = true by decide)]
    simp only [tR, tM, bis, b2s, nn, q_numF (g := eSA (eSI g 38 8 (nI (oS n tx q))) 40 (upd ((eSI g 38 8 (nI (oS n tx q))).2.1 40) 4 0)) (x := oS n tx q) e8 (by omega)]
    exact ⟨_, m_endF (x := oS n tx q) (by exact e8) (by omega) K79, km_tr (km_I g (k := 8) (by omega) _) (km_tr (km_40 _ (by omega) _) (km_40 _ (by omega) _)), by exact e8, by omega⟩
  | true =>
    obtain ⟨h1, o1, o2, o3⟩ := q_numY t hq m hw (lo := 2) (hi := 5) (by omega) (by omega) hn1
    rw [show nI 2 = (2 : Int32) from rfl, show nI 5 = (5 : Int32) from rfl] at o1
    have b1 := (of_decide_eq_true hn1).2
    have qb2 := oE_b (tx := tx) qb.2.1
    have sb2 := oS_b (tx := tx) qb.2.1
    have w1 := mW_n o2 c0 o3 qb.2.1
    have k2 := km_40 h1 (k := 4) (by omega) (nI (oV n tx q))
    rw [if_pos rfl]
    simp only [tR, tM, bis, b2s, o1]
    cases hn2 : pNum n tx (oE n tx q) 2 4 with
    | false =>
      have nn := q_numN (g := eSA h1 40 (upd (h1.2.1 40) 4 (nI (oV n tx q)))) qb.2.1 o3 w1.2.2.1 (lo := 2) (hi := 4) (by omega) (by omega) hn2
      rw [show nI 2 = (2 : Int32) from rfl, show nI 4 = (4 : Int32) from rfl] at nn
      have e8 : (eSI (eSA h1 40 (upd (h1.2.1 40) 4 (nI (oV n tx q)))) 38 8 (nI (oS n tx (oE n tx q)))).1 38 8 = nI (oS n tx (oE n tx q)) := eSI_at _ _ _ _
      rw [if_neg (show ¬ false = true by decide)]
      simp only [tM, bis, b2s, nn]
      exact ⟨_, m_endF (x := oS n tx (oE n tx q)) (by exact e8) (by omega) K79, km_tr (n38_km o2) (km_tr k2 (km_tr (km_I _ (k := 8) (by omega) _) (km_40 _ (by omega) _))), by exact e8, by omega⟩
    | true =>
      obtain ⟨h3, u1, u2, u3⟩ := q_numY (km_TX k2 w1.1) qb.2.1 (show MH (eSA h1 40 (upd (h1.2.1 40) 4 (nI (oV n tx q)))) n tx (oE n tx q) from o3) w1.2.2.1 (lo := 2) (hi := 4) (by omega) (by omega) hn2
      rw [show nI 2 = (2 : Int32) from rfl, show nI 4 = (4 : Int32) from rfl] at u1
      have b2 := (of_decide_eq_true hn2).2
      rw [if_pos rfl]
      simp only [tM, bis, b2s, u1]
      have k4 := km_40 h3 (k := 5) (by omega) (nI (oV n tx (oE n tx q)))
      have kk := km_tr (n38_km o2) (km_tr k2 (km_tr (n38_km u2) k4))
      have mw : mW (eSA h3 40 (upd (h3.2.1 40) 5 (nI (oV n tx (oE n tx q))))) n tx (oE n tx (oE n tx q)) (sSz L (oV n tx q) (oV n tx (oE n tx q))) sl := by
        obtain ⟨l1, l2, l3, l4, l5, l6⟩ := w1.2.2.2.2.1
        refine ⟨km_TX kk t, u3, (u2.1 38 8 (by omega)).trans w1.2.2.1, (u2.1 38 12 (by omega)).trans w1.2.2.2.1, ⟨?_, ?_, ?_, ?_, fun x hx => ?_, fun x hx => ?_⟩, ok_sSz c6 hK b1 b2, qb2.2.1⟩
        · rw [sAA, upd_i, if_neg (by decide), u2.2, sAA, upd_i, if_pos rfl]; rfl
        · rw [sAA, upd_i, if_pos rfl]; rfl
        · rw [sAA, upd_i, if_neg (by decide), u2.2, sAA, upd_i, if_neg (by decide)]; exact l3
        · rw [sAA, upd_i, if_neg (by decide), u2.2, sAA, upd_i, if_neg (by decide)]; exact l4
        · rw [sAo _ _ (by decide), u2.2, sAo _ _ (by decide)]; exact l5 x hx
        · rw [sAo _ _ (by decide), u2.2, sAo _ _ (by decide)]; exact l6 x hx
      obtain ⟨h', e1, e2, e3⟩ := m_end (it := it) mw K79
      exact ⟨h', e1, km_tr kk e2, e3⟩
theorem m_H {g : eS} {q it : Nat} {L : Lnd} {sl : Bool} (c : mW g n tx q L sl) (K79 : Nat → Int32 → eW → Option (Int32 × eW)) : ∃ h, ((fX11_readsItem 38 104 (eE g)).bind fun w5 => fX11_land_131 K79 38 (nI it) w5) = K79 38 (nI (it + 1)) (eE h) ∧ Km g h ∧ mPost n tx h (pH n tx q L sl) := by
  have c0 := c
  obtain ⟨t, m, hw, c4, c5, c6, hq⟩ := c
  have hC := okL_C c6
  have h200 := t.2.1
  have qb := oE_b (tx := tx) hq
  have sb := oS_b (tx := tx) hq
  have hcl : nI (lW L) * nI (lD L) - 1 = nI (lC L - 1) := by
    rw [pk_mul, show (1 : Int32) = nI 1 from rfl, show lW L * lD L = lC L from rfl, pk_sub (by omega)]
  rw [fX11_readsItem, tO38, cond_true, fX11_readsItem_0]
  simp only [tR, tK, bis, c5.1, c5.2.1, hcl]
  rw [if_neg (show ¬ (104 : Int32) = 103 by decide), if_pos trivial]
  unfold pH
  cases hn1 : pNum n tx q 0 (lC L - 1) with
  | false =>
    have nn := q_numN hq m hw (lo := 0) (hi := lC L - 1) (by omega) (by omega) hn1
    rw [nI_0] at nn
    have e8 : (eSI g 38 8 (nI (oS n tx q))).1 38 8 = nI (oS n tx q) := eSI_at _ _ _ _
    rw [if_neg (show ¬ false = true by decide), nn, b2s]
    simp only [tR, bis, b2s, q_numF (x := oS n tx q) e8 (by omega)]
    rw [show (20 : Int32) + 0 = nI 20 from rfl, st (n := 40) _ ar_41 (by decide) (by omega), bis, bis]
    exact ⟨_, m_endF (x := oS n tx q) (by exact e8) (by omega) K79, km_tr (km_I g (k := 8) (by omega) _) (km_41 _ (by omega) _), by exact e8, by omega⟩
  | true =>
    obtain ⟨h1, o1, o2, o3⟩ := q_numY t hq m hw (lo := 0) (hi := lC L - 1) (by omega) (by omega) hn1
    rw [nI_0] at o1
    have b1 := (of_decide_eq_true hn1).2
    have qb2 := oE_b (tx := tx) qb.2.1
    have sb2 := oS_b (tx := tx) qb.2.1
    have w1 := mW_n o2 c0 o3 qb.2.1
    rw [if_pos rfl, o1, b2s]
    simp only [tR, bis]
    cases hn2 : pNum n tx (oE n tx q) 0 9 with
    | false =>
      have nn := q_numN qb.2.1 o3 w1.2.2.1 (lo := 0) (hi := 9) (by omega) (by omega) hn2
      rw [nI_0, show nI 9 = (9 : Int32) from rfl] at nn
      have e8 : (eSI h1 38 8 (nI (oS n tx (oE n tx q)))).1 38 8 = nI (oS n tx (oE n tx q)) := eSI_at _ _ _ _
      rw [if_neg (show ¬ false = true by decide), nn, b2s, show (20 : Int32) = nI 20 from rfl, nI_add, st (n := 40) _ ar_41 (by decide) (by omega), bis, bis]
      exact ⟨_, m_endF (x := oS n tx (oE n tx q)) (by exact e8) (by omega) K79, km_tr (n38_km o2) (km_tr (km_I _ (k := 8) (by omega) _) (km_41 _ (by omega) _)), by exact e8, by omega⟩
    | true =>
      obtain ⟨h3, u1, u2, u3⟩ := q_numY w1.1 qb.2.1 o3 w1.2.2.1 (lo := 0) (hi := 9) (by omega) (by omega) hn2
      rw [nI_0, show nI 9 = (9 : Int32) from rfl] at u1
      have b2 := (of_decide_eq_true hn2).2
      rw [if_pos rfl, u1, b2s, show (20 : Int32) = nI 20 from rfl, nI_add, st (n := 40) _ ar_41 (by decide) (by omega), bis, bis]
      have k4 := km_41 h3 (k := 20 + oV n tx q) (by omega) (nI (oV n tx (oE n tx q)))
      have kk := km_tr (n38_km o2) (km_tr (n38_km u2) k4)
      have w3 := mW_n u2 w1 u3 qb2.2.1
      have mw : mW (eSA h3 41 (upd (h3.2.1 41) (20 + oV n tx q) (nI (oV n tx (oE n tx q))))) n tx (oE n tx (oE n tx q)) (sHt L (oV n tx q) (oV n tx (oE n tx q))) sl := by
        obtain ⟨l1, l2, l3, l4, l5, l6⟩ := w3.2.2.2.2.1
        refine ⟨km_TX kk t, u3, w3.2.2.1, w3.2.2.2.1, ⟨?_, ?_, ?_, ?_, fun x hx => ?_, fun x hx => ?_⟩, ok_sHt c6 b2.2, qb2.2.1⟩
        · rw [sAo _ _ (by decide)]; exact l1
        · rw [sAo _ _ (by decide)]; exact l2
        · rw [sAo _ _ (by decide)]; exact l3
        · rw [sAo _ _ (by decide)]; exact l4
        · rw [sAA, upd_i]
          show _ = nI (if x = oV n tx q then oV n tx (oE n tx q) else lH L x)
          by_cases hxc : x = oV n tx q
          · rw [if_pos (by omega), if_pos hxc]
          · rw [if_neg (by omega), if_neg hxc]; exact l5 x hx
        · rw [sAo _ _ (by decide)]; exact l6 x hx
      obtain ⟨h', e1, e2, e3⟩ := m_end (it := it) mw K79
      exact ⟨h', e1, km_tr kk e2, e3⟩
theorem q_isTaken {g : eS} {L : Lnd} (c5 : MT2 g L) (hd : okL L) {c : Nat} (hc : c < 20) : fX11_isTaken 38 (nI c) (eE g) = some (if isT L c then 1 else 0, eE g) := by
  have hK := hd.2.2.2.1
  have hC := okL_C hd
  have key : ∀ (fu k : Nat) (b : Bool), k ≤ lK L → lK L - k < fu → (b = true ↔ ∃ t, t < k ∧ lT L t = c) → fX11_isTaken_4 fu 38 (nI c) (if b then 1 else 0) (nI k) (eE g) = some (if isT L c then 1 else 0, eE g) := by
    intro fu
    induction fu with
    | zero => intro k b h1 h2; omega
    | succ fu ih =>
      intro k b h1 h2 hb
      simp only [fX11_isTaken_4, tR, tK, bis, c5.2.2.2.1]
      by_cases hk : k = lK L
      · rw [hk, if_pos (nI_le (Nat.le_refl _) (by omega)), eZ_b, bis]
        rw [hk, ← isT_iff] at hb
        rw [Bool.eq_iff_iff.mpr hb]
      · have hk2 : k < lK L := by omega
        have hT := hd.2.2.2.2.2.1 k hk2
        rw [if_neg (nI_ge hk2 (by omega))]
        cases b with
        | true =>
          rw [if_neg (show ¬ (if true = true then (1 : Int32) else 0) = 0 by decide), fX11_isTaken_31, fX11_isTaken_36, nI_1]
          obtain ⟨t, t1, t2⟩ := hb.mp rfl
          exact ih (k + 1) true (by omega) (by omega) ⟨fun _ => ⟨t, by omega, t2⟩, fun _ => rfl⟩
        | false =>
          rw [if_pos (show (if false = true then (1 : Int32) else 0) = 0 by decide), show (4 : Int32) = nI 4 from rfl, nI_add, ld (n := 8) g ar_42 (by decide) (by omega), bis, c5.2.2.2.2.2 k hk2]
          by_cases he : lT L k = c
          · rw [if_pos (by rw [he]), fX11_isTaken_31, fX11_isTaken_36, nI_1]
            exact ih (k + 1) true (by omega) (by omega) ⟨fun _ => ⟨k, by omega, he⟩, fun _ => rfl⟩
          · rw [if_neg (fun q => he ((nI_eq (by omega) (by omega)).mp q)), fX11_isTaken_36, nI_1]
            refine ih (k + 1) false (by clear hb; omega) (by clear hb; omega) ⟨fun q => (by cases q), fun ex => ?_⟩
            obtain ⟨t, t1, t2⟩ := ex
            by_cases htk : t = k
            · rw [htk] at t2; exact absurd t2 he
            · exact hb.mpr ⟨t, by omega, t2⟩
  have k0 := key eN 0 false (by omega) (by rw [eN_eq]; omega) ⟨fun q => (by cases q), fun ex => by obtain ⟨t, t1, t2⟩ := ex; omega⟩
  rw [nI_0] at k0
  rw [fX11_isTaken, tO38, cond_true, fX11_isTaken_0]
  exact k0
theorem m_T {g : eS} {q it : Nat} {L : Lnd} {sl : Bool} (c : mW g n tx q L sl) (hK4 : lK L < 4) (K79 : Nat → Int32 → eW → Option (Int32 × eW)) : ∃ h, ((fX11_readsItem 38 116 (eE g)).bind fun w5 => fX11_land_131 K79 38 (nI it) w5) = K79 38 (nI (it + 1)) (eE h) ∧ Km g h ∧ mPost n tx h (pT n tx q L sl) := by
  have c0 := c
  obtain ⟨t, m, hw, c4, c5, c6, hq⟩ := c
  have hC := okL_C c6
  have h200 := t.2.1
  have qb := oE_b (tx := tx) hq
  have sb := oS_b (tx := tx) hq
  have hv := (oN_b (tx := tx) hq).2.2
  have k4 := kd_le (n := n) (tx := tx) q
  have hcl : nI (lW L) * nI (lD L) - 1 = nI (lC L - 1) := by
    rw [pk_mul, show (1 : Int32) = nI 1 from rfl, show lW L * lD L = lC L from rfl, pk_sub (by omega)]
  have no : ∃ h, ((fX11_readsItem_138 38 42 (nI (4 + lK L)) 38 (eE g)).bind fun w5 => fX11_land_131 K79 38 (nI it) w5) = K79 38 (nI (it + 1)) (eE h) ∧ Km g h ∧ mPost n tx h (.inl (oS n tx q)) := by
    have e8 : (eSI g 38 8 (nI (oS n tx q))).1 38 8 = nI (oS n tx q) := eSI_at _ _ _ _
    rw [fX11_readsItem_138, fX11_readsItem_139, q_tk0 m hw, b2s, st (n := 8) _ ar_42 (by decide) (by omega), bis]
    simp only [tR, tK, tM, bis]
    exact ⟨_, m_endF (x := oS n tx q) (by exact e8) (by omega) K79, km_tr (km_I g (k := 8) (by omega) _) (km_tr (km_42 _ (by omega) _) (km_40 _ (by omega) _)), by exact e8, by omega⟩
  rw [fX11_readsItem, tO38, cond_true, fX11_readsItem_0]
  simp only [tR, tK, tI, bis, c5.1, c5.2.1, c5.2.2.2.1, hcl, m.2.1]
  rw [if_neg (show ¬ (116 : Int32) = 103 by decide), if_neg (show ¬ (116 : Int32) = 104 by decide), if_pos trivial, show (4 : Int32) = nI 4 from rfl, nI_add]
  unfold pT
  by_cases k1 : kd n tx q = 2
  · have v7 := m.2.2.2.1 k1
    rw [k1, if_pos (show nI 2 = (2 : Int32) from rfl), v7, show (0 : Int32) = nI 0 from rfl, in_n (by omega) (by omega) (by omega), b2s]
    by_cases hr : 0 ≤ oV n tx q ∧ oV n tx q ≤ lC L - 1
    · have hp : pNum n tx q 0 (lC L - 1) = true := decide_eq_true ⟨k1, hr⟩
      rw [decide_eq_true hr, if_neg (show ¬ (if true = true then (1 : Int32) else 0) = nI 0 by decide)]
      simp only [tI, bis, v7]
      rw [q_isTaken c5 c6 (by omega), b2s]
      cases hT : isT L (oV n tx q) with
      | true =>
        rw [if_neg (show ¬ (if true = true then (1 : Int32) else 0) = nI 0 by decide), if_neg (fun r => absurd r.2 (by decide))]
        exact no
      | false =>
        obtain ⟨h1, o1, o2, o3⟩ := q_tk1 t hq m hw
        have w1 := mW_n o2 c0 o3 qb.2.1
        obtain ⟨l1, l2, l3, l4, l5, l6⟩ := w1.2.2.2.2.1
        have e6 : (eSA h1 42 (upd (h1.2.1 42) (4 + lK L) (nI (oV n tx q)))).2.1 40 6 = nI (lK L) := by rw [sAo _ _ (by decide)]; exact l4
        rw [if_pos (show (if false = true then (1 : Int32) else 0) = nI 0 by decide), if_pos ⟨hp, rfl⟩, fX11_readsItem_139, o1, v7, b2s, st (n := 8) _ ar_42 (by decide) (by omega), bis]
        simp only [tR, tK, tM, bis, e6, nI_1]
        have kk := km_tr (n38_km o2) (km_tr (km_42 h1 (k := 4 + lK L) (by omega) (nI (oV n tx q))) (km_40 _ (k := 6) (by omega) (nI (lK L + 1))))
        obtain ⟨h', f1, f2, f3⟩ := m_end (it := it) (q := oE n tx q) (L := sTn L (oV n tx q)) (sl := sl) (g := eSA (eSA h1 42 (upd (h1.2.1 42) (4 + lK L) (nI (oV n tx q)))) 40 (upd ((eSA h1 42 (upd (h1.2.1 42) (4 + lK L) (nI (oV n tx q)))).2.1 40) 6 (nI (lK L + 1)))) ⟨km_TX kk t, o3, w1.2.2.1, w1.2.2.2.1, by
          refine ⟨?_, ?_, ?_, ?_, fun x hx => ?_, fun x hx => ?_⟩
          · rw [sAA, upd_i, if_neg (by decide), sAo _ _ (by decide)]; exact l1
          · rw [sAA, upd_i, if_neg (by decide), sAo _ _ (by decide)]; exact l2
          · rw [sAA, upd_i, if_neg (by decide), sAo _ _ (by decide)]; exact l3
          · rw [sAA, upd_i, if_pos rfl]; rfl
          · rw [sAo _ _ (by decide), sAo _ _ (by decide)]; exact l5 x hx
          · have hx : x < lK L + 1 := hx
            rw [sAo _ _ (by decide), sAA, upd_i]
            show _ = nI (if x = lK L then oV n tx q else lT L x)
            by_cases hxc : x = lK L
            · rw [if_pos (by omega), if_pos hxc]
            · rw [if_neg (by omega), if_neg hxc]; exact l6 x (by omega), ok_sTn c6 hK4 (by omega) hT, qb.2.1⟩ K79
        exact ⟨h', f1, km_tr kk f2, f3⟩
    · rw [decide_eq_false hr, if_pos (show (if false = true then (1 : Int32) else 0) = nI 0 by decide), if_neg (fun r => hr (of_decide_eq_true r.1).2)]
      exact no
  · rw [if_neg (show ¬ nI (kd n tx q) = (2 : Int32) from fun r => k1 ((nI_eq (b := 2) (by omega) (by decide)).mp r)), if_neg (fun r => k1 (of_decide_eq_true r.1).1)]
    exact no
theorem m_M {g : eS} {q it : Nat} {L : Lnd} {sl : Bool} (c : mW g n tx q L sl) (K79 : Nat → Int32 → eW → Option (Int32 × eW)) : ∃ h, ((fX11_readsItem 38 109 (eE g)).bind fun w5 => fX11_land_131 K79 38 (nI it) w5) = K79 38 (nI (it + 1)) (eE h) ∧ Km g h ∧ mPost n tx h (pM n tx q L) := by
  have c0 := c
  obtain ⟨t, m, hw, c4, c5, c6, hq⟩ := c
  have h200 := t.2.1
  have qb := oE_b (tx := tx) hq
  have sb := oS_b (tx := tx) hq
  rw [fX11_readsItem, tO38, cond_true, fX11_readsItem_0]
  simp only [tR, tK, bis]
  rw [if_neg (show ¬ (109 : Int32) = 103 by decide), if_neg (show ¬ (109 : Int32) = 104 by decide), if_neg (show ¬ (109 : Int32) = 116 by decide)]
  unfold pM
  cases hn1 : pNum n tx q 0 9 with
  | false =>
    have nn := q_numN hq m hw (lo := 0) (hi := 9) (by omega) (by omega) hn1
    rw [nI_0, show nI 9 = (9 : Int32) from rfl] at nn
    have e8 : (eSI g 38 8 (nI (oS n tx q))).1 38 8 = nI (oS n tx q) := eSI_at _ _ _ _
    rw [if_neg (show ¬ false = true by decide)]
    simp only [tR, tM, tP, bis, b2s, nn, eZ_1]
    have e9 : (eSI (eSA (eSI g 38 8 (nI (oS n tx q))) 40 (upd ((eSI g 38 8 (nI (oS n tx q))).2.1 40) 7 0)) 38 12 1).1 38 8 = nI (oS n tx q) := by rw [eSI_ne _ _ (by omega), eSA_I]; exact e8
    exact ⟨_, m_endF (x := oS n tx q) (by exact e9) (by omega) K79, km_tr (km_I g (k := 8) (by omega) _) (km_tr (km_40 _ (by omega) _) (km_I _ (k := 12) (by omega) _)), by exact e9, by omega⟩
  | true =>
    obtain ⟨h1, o1, o2, o3⟩ := q_numY t hq m hw (lo := 0) (hi := 9) (by omega) (by omega) hn1
    rw [nI_0, show nI 9 = (9 : Int32) from rfl] at o1
    have b1 := (of_decide_eq_true hn1).2
    have w1 := mW_n o2 c0 o3 qb.2.1
    have kk := km_tr (n38_km o2) (km_tr (km_40 h1 (k := 7) (by omega) (nI (oV n tx q))) (km_I _ (k := 12) (by omega) 1))
    rw [if_pos rfl]
    simp only [tR, tM, tP, bis, b2s, o1, eZ_1]
    obtain ⟨l1, l2, l3, l4, l5, l6⟩ := w1.2.2.2.2.1
    have ne : ∀ k, k ≠ 12 → (eSI (eSA h1 40 (upd (h1.2.1 40) 7 (nI (oV n tx q)))) 38 12 1).1 38 k = h1.1 38 k := fun k hk => by rw [eSI_ne _ _ (by omega), eSA_I]
    obtain ⟨h', f1, f2, f3⟩ := m_end (it := it) (q := oE n tx q) (L := sSl L (oV n tx q)) (sl := true) (g := eSI (eSA h1 40 (upd (h1.2.1 40) 7 (nI (oV n tx q)))) 38 12 1) ⟨km_TX kk t, by
        unfold MH at o3 ⊢
        rw [ne 4 (by decide), ne 5 (by decide), ne 6 (by decide), ne 7 (by decide)]
        exact o3, by rw [ne 8 (by decide)]; exact w1.2.2.1, by rw [eSI_at]; rfl, by
        refine ⟨?_, ?_, ?_, ?_, fun x hx => ?_, fun x hx => ?_⟩
        · rw [eSI_A, sAA, upd_i, if_neg (by decide)]; exact l1
        · rw [eSI_A, sAA, upd_i, if_neg (by decide)]; exact l2
        · rw [eSI_A, sAA, upd_i, if_pos rfl]; rfl
        · rw [eSI_A, sAA, upd_i, if_neg (by decide)]; exact l4
        · rw [eSI_A, sAo _ _ (by decide)]; exact l5 x hx
        · rw [eSI_A, sAo _ _ (by decide)]; exact l6 x hx, ok_sSl c6 b1.2, qb.2.1⟩ K79
    exact ⟨h', f1, km_tr kk f2, f3⟩
end MREAD
