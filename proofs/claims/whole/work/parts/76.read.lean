/-! ===== how a land is told: what both read, and the class's reading ===== -/
def pNum (n : Nat) (tx : Nat → Nat) (q lo hi : Nat) : Bool := decide (kd n tx q = 2 ∧ lo ≤ oV n tx q ∧ oV n tx q ≤ hi)
def sSz (L : Lnd) (w e : Nat) : Lnd := (w, e, lS L, lK L, lH L, lT L)
def sHt (L : Lnd) (c v : Nat) : Lnd := (lW L, lD L, lS L, lK L, (fun x => if x = c then v else lH L x), lT L)
def sSl (L : Lnd) (v : Nat) : Lnd := (lW L, lD L, v, lK L, lH L, lT L)
def sTn (L : Lnd) (c : Nat) : Lnd := (lW L, lD L, lS L, lK L + 1, lH L, fun k => if k = lK L then c else lT L k)
def L0 : Lnd := (3, 2, 9, 0, (fun _ => 0), fun _ => 0)
abbrev PR : Type := Nat ⊕ (Nat × Lnd × Bool)
def pEnd (n : Nat) (tx : Nat → Nat) (q : Nat) (L : Lnd) (sl : Bool) : PR := if kd n tx q = 3 then .inr (oE n tx q, L, sl) else .inl (oS n tx q)
def pG (n : Nat) (tx : Nat → Nat) (q : Nat) (L : Lnd) (sl : Bool) : PR := if pNum n tx q 2 5 = true then (if pNum n tx (oE n tx q) 2 4 = true then pEnd n tx (oE n tx (oE n tx q)) (sSz L (oV n tx q) (oV n tx (oE n tx q))) sl else .inl (oS n tx (oE n tx q))) else .inl (oS n tx q)
def pH (n : Nat) (tx : Nat → Nat) (q : Nat) (L : Lnd) (sl : Bool) : PR := if pNum n tx q 0 (lC L - 1) = true then (if pNum n tx (oE n tx q) 0 9 = true then pEnd n tx (oE n tx (oE n tx q)) (sHt L (oV n tx q) (oV n tx (oE n tx q))) sl else .inl (oS n tx (oE n tx q))) else .inl (oS n tx q)
def pT (n : Nat) (tx : Nat → Nat) (q : Nat) (L : Lnd) (sl : Bool) : PR := if pNum n tx q 0 (lC L - 1) = true ∧ isT L (oV n tx q) = false then pEnd n tx (oE n tx q) (sTn L (oV n tx q)) sl else .inl (oS n tx q)
def pM (n : Nat) (tx : Nat → Nat) (q : Nat) (L : Lnd) : PR := if pNum n tx q 0 9 = true then pEnd n tx (oE n tx q) (sSl L (oV n tx q)) true else .inl (oS n tx q)
def pItem (n : Nat) (tx : Nat → Nat) (p it : Nat) (L : Lnd) (sl : Bool) : PR :=
  if kd n tx p = 1 then
    (if tx (oS n tx p) = 103 then (if it = 0 then pG n tx (oE n tx p) L sl else .inl (oS n tx p))
    else if tx (oS n tx p) = 104 then pH n tx (oE n tx p) L sl
    else if tx (oS n tx p) = 109 then (if sl = true then .inl (oS n tx p) else pM n tx (oE n tx p) L)
    else (if 4 ≤ lK L then .inl (oS n tx p) else pT n tx (oE n tx p) L sl))
  else .inl (oS n tx p)
def pLoop (n : Nat) (tx : Nat → Nat) : Nat → Nat → Nat → Lnd → Bool → Nat ⊕ (Nat × Lnd)
  | 0, _, _, _, _ => .inl 0
  | f + 1, p, it, L, sl => if kd n tx p = 0 then .inr (it, L) else match pItem n tx p it L sl with
    | .inl x => .inl x
    | .inr (q, L', sl') => pLoop n tx f q (it + 1) L' sl'
def rV : Nat ⊕ (Nat × Lnd) → Int32
  | .inl x => -10 - nI x
  | .inr r => nI r.1
theorem ok_sSz {L : Lnd} (h : okL L) (h0 : lK L = 0) {w e : Nat} (h1 : 2 ≤ w ∧ w ≤ 5) (h2 : 2 ≤ e ∧ e ≤ 4) : okL (sSz L w e) := by
  obtain ⟨a1, a2, a3, a4, a5, a6, a7⟩ := h
  refine ⟨h1, h2, a3, a4, a5, fun k hk => ?_, a7⟩
  have : k < lK L := hk
  omega
theorem ok_sHt {L : Lnd} (h : okL L) {c v : Nat} (hv : v ≤ 9) : okL (sHt L c v) := by
  obtain ⟨a1, a2, a3, a4, a5, a6, a7⟩ := h
  refine ⟨a1, a2, a3, a4, fun x => ?_, a6, a7⟩
  show (if x = c then v else lH L x) ≤ 9
  split
  · exact hv
  · exact a5 x
theorem ok_sSl {L : Lnd} (h : okL L) {v : Nat} (hv : v ≤ 9) : okL (sSl L v) := by
  obtain ⟨a1, a2, a3, a4, a5, a6, a7⟩ := h
  exact ⟨a1, a2, hv, a4, a5, a6, a7⟩
theorem ok_sTn {L : Lnd} (h : okL L) (hK : lK L < 4) {c : Nat} (hc : c < lC L) (ht : isT L c = false) : okL (sTn L c) := by
  obtain ⟨a1, a2, a3, a4, a5, a6, a7⟩ := h
  have hn : ∀ k, k < lK L → lT L k ≠ c := fun k hk q => by
    rw [(isT_iff L c).mpr ⟨k, hk, q⟩] at ht
    cases ht
  refine ⟨a1, a2, a3, (show lK L + 1 ≤ 4 by omega), a5, fun k hk => ?_, fun j k hj hk q => ?_⟩
  · have hk : k < lK L + 1 := hk
    show (if k = lK L then c else lT L k) < lC L
    by_cases e : k = lK L
    · rw [if_pos e]; exact hc
    · rw [if_neg e]; exact a6 k (by omega)
  · have hj : j < lK L + 1 := hj
    have hk : k < lK L + 1 := hk
    have q : (if j = lK L then c else lT L j) = (if k = lK L then c else lT L k) := q
    by_cases e1 : j = lK L
    · by_cases e2 : k = lK L
      · omega
      · rw [if_pos e1, if_neg e2] at q
        exact absurd q.symm (hn k (by omega))
    · by_cases e2 : k = lK L
      · rw [if_neg e1, if_pos e2] at q
        exact absurd q (hn j (by omega))
      · rw [if_neg e1, if_neg e2] at q
        exact a7 j k (by omega) (by omega) q
theorem ok_L0 : okL L0 := ⟨⟨by decide, by decide⟩, ⟨by decide, by decide⟩, by decide, by decide, fun _ => Nat.zero_le _, fun k hk => absurd hk (Nat.not_lt_zero _), fun j k hj => absurd hj (Nat.not_lt_zero _)⟩
/-! frames of the class's reading -/
def Kc (g h : eS) : Prop := (∀ i k, i ≠ 6 → i ≠ 9 → h.1 i k = g.1 i k) ∧ h.1 6 1 = g.1 6 1 ∧ (∀ a, a ≠ 11 → a ≠ 13 → h.2.1 a = g.2.1 a) ∧ h.2.2 = g.2.2
theorem kc_rf (g : eS) : Kc g g := ⟨fun _ _ _ _ => rfl, rfl, fun _ _ _ => rfl, rfl⟩
theorem kc_tr {g h k : eS} (a : Kc g h) (b : Kc h k) : Kc g k := ⟨fun i j q r => (b.1 i j q r).trans (a.1 i j q r), b.2.1.trans a.2.1, fun x q r => (b.2.2.1 x q r).trans (a.2.2.1 x q r), b.2.2.2.trans a.2.2.2⟩
theorem n6_kc {g h : eS} (a : N6 g h) : Kc g h := ⟨fun i k q _ => a.1 i k (by omega), a.1 6 1 (by omega), fun x _ _ => by rw [a.2], by rw [a.2]⟩
theorem kc_I (g : eS) {i k : Nat} (h : i = 9 ∨ (i = 6 ∧ k ≠ 1)) (v : Int32) : Kc g (eSI g i k v) := by
  refine ⟨fun a b q r => ?_, ?_, fun _ _ _ => rfl, rfl⟩
  · rw [eSI_ne _ _ (by omega)]
  · rw [eSI_ne _ _ (by omega)]
theorem kc_A (g : eS) {a : Nat} (h : a = 11 ∨ a = 13) (F : Nat → Int32) : Kc g (eSA g a F) := by
  refine ⟨fun _ _ _ _ => rfl, rfl, fun x q r => ?_, rfl⟩
  rw [sAo _ _ (by omega)]
theorem kc_TX {g h : eS} (a : Kc g h) {n : Nat} {tx : Nat → Nat} (t : TXc g n tx) : TXc h n tx := by
  unfold TXc at t ⊢
  rw [a.2.1, a.2.2.1 8 (by decide) (by decide)]
  exact t
theorem n6_CL {g h : eS} (a : N6 g h) {L : Lnd} (c : CL g 9 11 13 L) : CL h 9 11 13 L := by
  unfold CL at c ⊢
  rw [a.1 9 0 (by omega), a.1 9 1 (by omega), a.1 9 2 (by omega), a.1 9 3 (by omega), a.2]
  exact c
theorem g9 : isG 9 11 13 := Or.inr ⟨rfl, rfl, rfl⟩
section READ
variable {n : Nat} {tx : Nat → Nat}
theorem tk_2 {g : eS} (t : TXc g n tx) {q : Nat} : tkC n tx q = -2 ↔ kd n tx q = 2 := by
  unfold tkC kd
  by_cases h1 : n ≤ oS n tx q
  · rw [if_pos h1, if_pos h1]; decide
  · have hc := (t.2.2 _ (show oS n tx q < n by omega)).1
    rw [if_neg h1, if_neg h1]
    by_cases h2 : isD (tx (oS n tx q)) = true
    · rw [if_pos h2, if_pos h2]
      by_cases h3 : bad n tx q = true
      · rw [if_pos h3, if_pos h3]; decide
      · rw [if_neg h3, if_neg h3]; decide
    · rw [if_neg h2, if_neg h2]
      constructor
      · intro q1
        have q2 := congrArg Int32.toInt q1
        rw [nI_toInt (by omega)] at q2
        have q3 : (-2 : Int32).toInt = -2 := by decide
        omega
      · intro q1
        split at q1
        · omega
        · split at q1 <;> omega
theorem tk_1 {g : eS} (t : TXc g n tx) {q : Nat} : tkC n tx q = -1 ↔ kd n tx q = 0 := by
  rw [kd_0]
  unfold tkC
  by_cases h1 : n ≤ oS n tx q
  · rw [if_pos h1]; simp [h1]
  · have hc := (t.2.2 _ (show oS n tx q < n by omega)).1
    rw [if_neg h1]
    constructor
    · intro q1
      exfalso
      split at q1
      · split at q1
        · revert q1; decide
        · revert q1; decide
      · have q2 := congrArg Int32.toInt q1
        rw [nI_toInt (by omega)] at q2
        have q3 : (-1 : Int32).toInt = -1 := by decide
        omega
    · intro q1; exact absurd q1 h1
theorem tk_c {g : eS} (t : TXc g n tx) {q c : Nat} (hc : c < 256) (hd : isD c = false) : tkC n tx q = nI c ↔ oS n tx q < n ∧ tx (oS n tx q) = c := by
  have neg : ∀ k : Nat, k < 256 → ∀ x : Int32, x.toInt < 0 → ¬ x = nI k := by
    intro k hk x hx q
    rw [q, nI_toInt (by omega)] at hx
    omega
  unfold tkC
  by_cases h1 : n ≤ oS n tx q
  · rw [if_pos h1]
    exact ⟨fun q => absurd q (neg c hc _ (by decide)), fun q => by omega⟩
  · have hcx := (t.2.2 _ (show oS n tx q < n by omega)).1
    rw [if_neg h1]
    by_cases h2 : isD (tx (oS n tx q)) = true
    · rw [if_pos h2]
      constructor
      · intro q1
        split at q1
        · exact absurd q1 (neg c hc _ (by decide))
        · exact absurd q1 (neg c hc _ (by decide))
      · intro q1
        rw [q1.2, hd] at h2
        cases h2
    · rw [if_neg h2, nI_eq (by omega) (by omega)]
      exact ⟨fun q1 => ⟨by omega, q1⟩, fun q1 => q1.2⟩
theorem kd_c {q c : Nat} (hd : isD c = false) (h : oS n tx q < n ∧ tx (oS n tx q) = c) : kd n tx q = if c = 59 then 3 else if isL c = true then 1 else 4 := by
  unfold kd
  rw [if_neg (by omega), h.2, hd, if_neg (by decide)]
theorem kd_3 {q : Nat} : kd n tx q = 3 ↔ oS n tx q < n ∧ tx (oS n tx q) = 59 := by
  constructor
  · intro h
    unfold kd at h
    split at h
    · omega
    · split at h
      · split at h <;> omega
      · split at h
        · exact ⟨by omega, by assumption⟩
        · split at h <;> omega
  · intro h
    rw [kd_c (c := 59) (by decide) h]
    rfl
theorem kd_1 {q : Nat} : kd n tx q = 1 ↔ oS n tx q < n ∧ isL (tx (oS n tx q)) = true := by
  constructor
  · intro h
    unfold kd at h
    split at h
    · omega
    · split at h
      · split at h <;> omega
      · split at h
        · omega
        · split at h
          · exact ⟨by omega, by assumption⟩
          · omega
  · rintro ⟨h1, h2⟩
    have hx : ∀ c, isL c = true → isD c = false ∧ c ≠ 59 := by
      intro c hc
      unfold isL at hc
      simp only [Bool.or_eq_true, beq_iff_eq] at hc
      rcases hc with ((h | h) | h) | h <;> subst h <;> decide
    obtain ⟨e1, e2⟩ := hx _ h2
    rw [kd_c e1 ⟨h1, rfl⟩, if_neg e2, if_pos h2]
theorem isL_r {c : Nat} (h : isL c = true) : c = 103 ∨ c = 104 ∨ c = 109 ∨ c = 116 := by
  unfold isL at h
  simp only [Bool.or_eq_true, beq_iff_eq] at h
  omega
theorem c_rdNum {g : eS} (t : TXc g n tx) {q : Nat} (hq : q ≤ n) (h5 : g.1 6 5 = nI q) {lo hi : Nat} (h1 : lo < 1000) (h2 : hi < 1000) : ∃ h, fX2_readNumber 6 (nI lo) (nI hi) (eE g) = some (if pNum n tx q lo hi then 1 else 0, eE h) ∧ N6 g h ∧ h.1 6 5 = nI (oE n tx q) ∧ h.1 6 7 = nI (oS n tx q) ∧ h.1 6 8 = nI (oV n tx q) := by
  obtain ⟨h, o1, o2, o3, o4, o5, o6⟩ := c_next t hq h5
  have hv := (oN_b (tx := tx) hq).2.2
  refine ⟨h, ?_, o2, o3, o5, o6⟩
  rw [fX2_readNumber, (tO g).2.2.2.2.1, cond_true, fX2_readNumber_0, o1, bis]
  simp only [tI, bis, o4, o6]
  unfold pNum
  by_cases hk : kd n tx q = 2
  · rw [if_pos ((tk_2 t).mpr hk)]
    by_cases hl : oV n tx q < lo
    · rw [if_pos (nI_lt hl (by omega)), fX2_readNumber_33, eZ_0, bis, decide_eq_false (show ¬ (kd n tx q = 2 ∧ lo ≤ oV n tx q ∧ oV n tx q ≤ hi) by omega)]; rfl
    · rw [if_neg (nI_nlt (by omega) (by omega))]
      by_cases hh : hi < oV n tx q
      · rw [if_pos (nI_lt hh (by omega)), fX2_readNumber_33, eZ_0, bis, decide_eq_false (show ¬ (kd n tx q = 2 ∧ lo ≤ oV n tx q ∧ oV n tx q ≤ hi) by omega)]; rfl
      · rw [if_neg (nI_nlt (by omega) (by omega)), eZ_1, bis, decide_eq_true (show kd n tx q = 2 ∧ lo ≤ oV n tx q ∧ oV n tx q ≤ hi by omega)]; rfl
  · rw [if_neg (fun e => hk ((tk_2 t).mp e)), fX2_readNumber_33, eZ_0, bis, decide_eq_false (show ¬ (kd n tx q = 2 ∧ lo ≤ oV n tx q ∧ oV n tx q ≤ hi) by omega)]; rfl
/-- what the class holds behind an item -/
def cPost (n p it : Nat) (h : eS) (v : Int32) : PR → Prop
  | .inl x => v = 0 ∧ h.1 6 7 = nI x
  | .inr r => v = 1 ∧ h.1 6 5 = nI r.1 ∧ h.1 6 3 = nI it ∧ h.1 6 4 = (if r.2.2 then 1 else 0) ∧ CL h 9 11 13 r.2.1 ∧ okL r.2.1 ∧ p < r.1 ∧ r.1 ≤ n
theorem c_end {g : eS} (t : TXc g n tx) {p q it : Nat} {L : Lnd} {sl : Bool} (hp : p < q) (hq : q ≤ n) (h5 : g.1 6 5 = nI q) (h3 : g.1 6 3 = nI it) (h4 : g.1 6 4 = if sl then 1 else 0) (hL : CL g 9 11 13 L) (hd : okL L) : ∃ h v, fX2_readItemEnd 6 (eE g) = some (v, eE h) ∧ Kc g h ∧ cPost n p it h v (pEnd n tx q L sl) ∧ eZ v = some v := by
  obtain ⟨h, o1, o2, o3, o4, o5, o6⟩ := c_next t hq h5
  have ob := oE_b (tx := tx) hq
  have sb := oS_b (tx := tx) hq
  have tk := tk_c (c := 59) t (q := q) (by decide) (by decide)
  rw [fX2_readItemEnd, (tO g).2.2.2.2.1, cond_true, fX2_readItemEnd_0, o1, bis]
  simp only [tI, bis, o4]
  unfold pEnd
  by_cases hk : kd n tx q = 3
  · rw [if_pos hk, if_pos (show tkC n tx q = (59 : Int32) from tk.mpr (kd_3.mp hk)), eZ_1, bis]
    refine ⟨h, 1, rfl, n6_kc o2, ⟨rfl, o3, ?_, ?_, n6_CL o2 hL, hd, ?_, ob.2.1⟩, eZ_1⟩
    · rw [o2.1 6 3 (by omega)]; exact h3
    · rw [o2.1 6 4 (by omega)]; exact h4
    · show p < oE n tx q
      omega
  · rw [if_neg hk, if_neg (show ¬ tkC n tx q = (59 : Int32) from fun e => hk (kd_3.mpr (tk.mp e))), eZ_0, bis]
    exact ⟨h, 0, rfl, n6_kc o2, ⟨rfl, o5⟩, eZ_0⟩
theorem b10 (b : Bool) : ((if b then (1 : Int32) else 0) = 0) = (b = false) := by cases b <;> decide
/-- what the class needs to read on -/
def cPre (g : eS) (n : Nat) (tx : Nat → Nat) (q it : Nat) (L : Lnd) (sl : Bool) : Prop := TXc g n tx ∧ g.1 6 5 = nI q ∧ g.1 6 3 = nI it ∧ g.1 6 4 = (if sl then 1 else 0) ∧ CL g 9 11 13 L ∧ okL L ∧ q ≤ n
theorem cPre_n6 {g h : eS} {q q' it : Nat} {L : Lnd} {sl : Bool} (a : N6 g h) (c : cPre g n tx q it L sl) (h5 : h.1 6 5 = nI q') (hq' : q' ≤ n) : cPre h n tx q' it L sl := by
  obtain ⟨c1, c2, c3, c4, c5, c6, c7⟩ := c
  exact ⟨n6_TX a c1, h5, (a.1 6 3 (by omega)).trans c3, (a.1 6 4 (by omega)).trans c4, n6_CL a c5, c6, hq'⟩
theorem c_rdSize {g : eS} {p q it : Nat} {L : Lnd} {sl : Bool} (c : cPre g n tx q it L sl) (hp : p < q) (hK : lK L = 0) : ∃ h v, fX2_readSize 6 (eE g) = some (v, eE h) ∧ Kc g h ∧ cPost n p it h v (pG n tx q L sl) := by
  have c0 := c
  obtain ⟨t, h5, h3, h4, hL, hd, hq⟩ := c
  have qb := oE_b (tx := tx) hq
  have sb := oS_b (tx := tx) hq
  obtain ⟨h, o1, o2, o3, o4, o5⟩ := c_rdNum t hq h5 (lo := 2) (hi := 5) (by omega) (by omega)
  rw [show nI 2 = 2 from rfl, show nI 5 = 5 from rfl] at o1
  rw [fX2_readSize, (tO g).2.2.2.2.1, cond_true, fX2_readSize_0, o1, b2s]
  unfold pG
  cases hn1 : pNum n tx q 2 5 with
  | false =>
    rw [if_pos (show (if false = true then (1 : Int32) else 0) = 0 by decide), if_neg (by decide), eZ_0, bis]
    exact ⟨h, 0, rfl, n6_kc o2, rfl, o4⟩
  | true =>
    have c1 := cPre_n6 o2 c0 o3 qb.2.1
    have b1 := (of_decide_eq_true hn1).2
    have qb2 := oE_b (tx := tx) qb.2.1
    have sb2 := oS_b (tx := tx) qb.2.1
    obtain ⟨k, u1, u2, u3, u4, u5⟩ := c_rdNum c1.1 qb.2.1 o3 (lo := 2) (hi := 4) (by omega) (by omega)
    rw [show nI 2 = 2 from rfl, show nI 4 = 4 from rfl] at u1
    rw [if_neg (show ¬ (if true = true then (1 : Int32) else 0) = 0 by decide), if_pos rfl]
    simp only [tI, bis, o5]
    rw [u1, b2s]
    cases hn2 : pNum n tx (oE n tx q) 2 4 with
    | false =>
      rw [if_pos (show (if false = true then (1 : Int32) else 0) = 0 by decide), if_neg (by decide), eZ_0, bis]
      exact ⟨k, 0, rfl, n6_kc (n6_tr o2 u2), rfl, u4⟩
    | true =>
      have c2 := cPre_n6 u2 c1 u3 qb2.2.1
      have b2 := (of_decide_eq_true hn2).2
      have kf : fX1_setSize 9 (nI (oV n tx q)) (nI (oV n tx (oE n tx q))) (eE k) = some (eE (eSI (eSI k 9 0 (nI (oV n tx q))) 9 1 (nI (oV n tx (oE n tx q))))) := by
        simp only [fX1_setSize, fX1_setSize_0, tO, tP, bis, cond_true]
      have kk := kc_tr (kc_I k (i := 9) (k := 0) (Or.inl rfl) (nI (oV n tx q))) (kc_I (eSI k 9 0 (nI (oV n tx q))) (i := 9) (k := 1) (Or.inl rfl) (nI (oV n tx (oE n tx q))))
      rw [if_neg (show ¬ (if true = true then (1 : Int32) else 0) = 0 by decide), if_pos rfl]
      simp only [tI, tR, bis, u5, kf]
      obtain ⟨m, v, e1, e2, e3, e4⟩ := c_end (kc_TX kk c2.1) (p := p) (it := it) (L := sSz L (oV n tx q) (oV n tx (oE n tx q))) (sl := sl) (show p < oE n tx (oE n tx q) by omega) qb2.2.1 (by rw [eSI_ne _ _ (by omega), eSI_ne _ _ (by omega)]; exact u3) (by rw [eSI_ne _ _ (by omega), eSI_ne _ _ (by omega)]; exact c2.2.2.1) (by rw [eSI_ne _ _ (by omega), eSI_ne _ _ (by omega)]; exact c2.2.2.2.1) (by
        obtain ⟨l1, l2, l3, l4, l5, l6⟩ := c2.2.2.2.2.1
        refine ⟨?_, ?_, ?_, ?_, l5, l6⟩
        · rw [eSI_ne _ _ (by omega), eSI_at]; rfl
        · rw [eSI_at]; rfl
        · rw [eSI_ne _ _ (by omega), eSI_ne _ _ (by omega)]; exact l3
        · rw [eSI_ne _ _ (by omega), eSI_ne _ _ (by omega)]; exact l4) (ok_sSz hd hK b1 b2)
      rw [e1, b2s, e4, bis]
      exact ⟨m, v, rfl, kc_tr (n6_kc (n6_tr o2 u2)) (kc_tr kk e2), e3⟩
theorem c_rdHeight {g : eS} {p q it : Nat} {L : Lnd} {sl : Bool} (c : cPre g n tx q it L sl) (hp : p < q) : ∃ h v, fX2_readHeight 6 (eE g) = some (v, eE h) ∧ Kc g h ∧ cPost n p it h v (pH n tx q L sl) := by
  have c0 := c
  obtain ⟨t, h5, h3, h4, hL, hd, hq⟩ := c
  have hC := okL_C hd
  have qb := oE_b (tx := tx) hq
  have sb := oS_b (tx := tx) hq
  obtain ⟨h, o1, o2, o3, o4, o5⟩ := c_rdNum t hq h5 (lo := 0) (hi := lC L - 1) (by omega) (by omega)
  rw [nI_0] at o1
  rw [fX2_readHeight, (tO g).2.2.2.2.1, cond_true, fX2_readHeight_0]
  simp only [tR, bis]
  rw [c_cells g9 hL, b2s, show nI (lC L) - 1 = nI (lC L - 1) from by rw [show (1 : Int32) = nI 1 from rfl, pk_sub (by omega)], o1, b2s]
  unfold pH
  cases hn1 : pNum n tx q 0 (lC L - 1) with
  | false =>
    rw [if_pos (show (if false = true then (1 : Int32) else 0) = 0 by decide), if_neg (by decide), eZ_0, bis]
    exact ⟨h, 0, rfl, n6_kc o2, rfl, o4⟩
  | true =>
    have c1 := cPre_n6 o2 c0 o3 qb.2.1
    have b1 := (of_decide_eq_true hn1).2
    have qb2 := oE_b (tx := tx) qb.2.1
    have sb2 := oS_b (tx := tx) qb.2.1
    obtain ⟨k, u1, u2, u3, u4, u5⟩ := c_rdNum c1.1 qb.2.1 o3 (lo := 0) (hi := 9) (by omega) (by omega)
    rw [nI_0, show nI 9 = 9 from rfl] at u1
    rw [if_neg (show ¬ (if true = true then (1 : Int32) else 0) = 0 by decide), if_pos rfl]
    simp only [tI, bis, o5]
    rw [u1, b2s]
    cases hn2 : pNum n tx (oE n tx q) 0 9 with
    | false =>
      rw [if_pos (show (if false = true then (1 : Int32) else 0) = 0 by decide), if_neg (by decide), eZ_0, bis]
      exact ⟨k, 0, rfl, n6_kc (n6_tr o2 u2), rfl, u4⟩
    | true =>
      have c2 := cPre_n6 u2 c1 u3 qb2.2.1
      have b2 := (of_decide_eq_true hn2).2
      have kf : fX1_setHeight 9 (nI (oV n tx q)) (nI (oV n tx (oE n tx q))) (eE k) = some (eE (eSA k 11 (upd (k.2.1 11) (oV n tx q) (nI (oV n tx (oE n tx q)))))) := by
        simp only [fX1_setHeight, fX1_setHeight_0, tO, tR, bis, cond_true, row_putN r10 k (show oV n tx q < 20 by omega)]
      have kk := kc_A k (a := 11) (Or.inl rfl) (upd (k.2.1 11) (oV n tx q) (nI (oV n tx (oE n tx q))))
      rw [if_neg (show ¬ (if true = true then (1 : Int32) else 0) = 0 by decide), if_pos rfl]
      simp only [tI, tR, bis, u5, kf]
      obtain ⟨m, v, e1, e2, e3, e4⟩ := c_end (kc_TX kk c2.1) (p := p) (it := it) (L := sHt L (oV n tx q) (oV n tx (oE n tx q))) (sl := sl) (show p < oE n tx (oE n tx q) by omega) qb2.2.1 u3 c2.2.2.1 c2.2.2.2.1 (by
        obtain ⟨l1, l2, l3, l4, l5, l6⟩ := c2.2.2.2.2.1
        refine ⟨l1, l2, l3, l4, fun x hx => ?_, fun x hx => ?_⟩
        · rw [sAA, upd_i]
          show _ = nI (if x = oV n tx q then oV n tx (oE n tx q) else lH L x)
          by_cases hxc : x = oV n tx q
          · rw [if_pos hxc, if_pos hxc]
          · rw [if_neg hxc, if_neg hxc]; exact l5 x hx
        · rw [sAo _ _ (by decide)]; exact l6 x hx) (ok_sHt hd b2.2)
      rw [e1, b2s, e4, bis]
      exact ⟨m, v, rfl, kc_tr (n6_kc (n6_tr o2 u2)) (kc_tr kk e2), e3⟩
theorem c_rdTown {g : eS} {p q it : Nat} {L : Lnd} {sl : Bool} (c : cPre g n tx q it L sl) (hp : p < q) (hK4 : lK L < 4) : ∃ h v, fX2_readTown 6 (eE g) = some (v, eE h) ∧ Kc g h ∧ cPost n p it h v (pT n tx q L sl) := by
  have c0 := c
  obtain ⟨t, h5, h3, h4, hL, hd, hq⟩ := c
  have hC := okL_C hd
  have qb := oE_b (tx := tx) hq
  have sb := oS_b (tx := tx) hq
  obtain ⟨h, o1, o2, o3, o4, o5⟩ := c_rdNum t hq h5 (lo := 0) (hi := lC L - 1) (by omega) (by omega)
  rw [nI_0] at o1
  rw [fX2_readTown, (tO g).2.2.2.2.1, cond_true, fX2_readTown_0]
  simp only [tR, bis]
  rw [c_cells g9 hL, b2s, show nI (lC L) - 1 = nI (lC L - 1) from by rw [show (1 : Int32) = nI 1 from rfl, pk_sub (by omega)], o1, b2s]
  unfold pT
  cases hn1 : pNum n tx q 0 (lC L - 1) with
  | false =>
    rw [if_pos (show (if false = true then (1 : Int32) else 0) = 0 by decide), if_neg (fun r => absurd r.1 (by decide)), eZ_0, bis]
    exact ⟨h, 0, rfl, n6_kc o2, rfl, o4⟩
  | true =>
    have c1 := cPre_n6 o2 c0 o3 qb.2.1
    have b1 := (of_decide_eq_true hn1).2
    have tw := c_isTown g9 c1.2.2.2.2.1 hd (show oV n tx q < 20 by omega)
    rw [if_neg (show ¬ (if true = true then (1 : Int32) else 0) = 0 by decide)]
    simp only [tI, tR, bis, o5]
    rw [tw, b2s]
    cases hT : isT L (oV n tx q) with
    | true =>
      rw [if_neg (show ¬ (if true = true then (1 : Int32) else 0) = 0 by decide), if_neg (fun r => absurd r.2 (by decide)), eZ_0, bis]
      exact ⟨h, 0, rfl, n6_kc o2, rfl, o4⟩
    | false =>
      obtain ⟨l1, l2, l3, l4, l5, l6⟩ := c1.2.2.2.2.1
      have kf : fX1_addTown 9 (nI (oV n tx q)) (eE h) = some (eE (eSI (eSA h 13 (upd (h.2.1 13) (lK L) (nI (oV n tx q)))) 9 3 (nI (lK L + 1)))) := by
        simp only [fX1_addTown, fX1_addTown_0, tO, tR, tI, tP, bis, cond_true, l4, row_putN r12 h hK4, eSA_I, nI_1]
      have kk := kc_tr (kc_A h (a := 13) (Or.inr rfl) (upd (h.2.1 13) (lK L) (nI (oV n tx q)))) (kc_I (eSA h 13 (upd (h.2.1 13) (lK L) (nI (oV n tx q)))) (i := 9) (k := 3) (Or.inl rfl) (nI (lK L + 1)))
      rw [if_pos (show (if false = true then (1 : Int32) else 0) = 0 by decide), if_pos ⟨trivial, rfl⟩]
      simp only [tI, tR, bis, o5, kf]
      obtain ⟨m, v, e1, e2, e3, e4⟩ := c_end (kc_TX kk c1.1) (p := p) (it := it) (L := sTn L (oV n tx q)) (sl := sl) (show p < oE n tx q by omega) qb.2.1 (by rw [eSI_ne _ _ (by omega)]; exact o3) (by rw [eSI_ne _ _ (by omega)]; exact c1.2.2.1) (by rw [eSI_ne _ _ (by omega)]; exact c1.2.2.2.1) (by
        refine ⟨?_, ?_, ?_, ?_, fun x hx => ?_, fun x hx => ?_⟩
        · rw [eSI_ne _ _ (by omega)]; exact l1
        · rw [eSI_ne _ _ (by omega)]; exact l2
        · rw [eSI_ne _ _ (by omega)]; exact l3
        · rw [eSI_at]; rfl
        · rw [eSI_A, sAo _ _ (by decide)]; exact l5 x hx
        · have hx : x < lK L + 1 := hx
          rw [eSI_A, sAA, upd_i]
          show _ = nI (if x = lK L then oV n tx q else lT L x)
          by_cases hxc : x = lK L
          · rw [if_pos hxc, if_pos hxc]
          · rw [if_neg hxc, if_neg hxc]; exact l6 x (by omega)) (ok_sTn hd hK4 (by omega) hT)
      rw [e1, b2s, e4, bis]
      exact ⟨m, v, rfl, kc_tr (n6_kc o2) (kc_tr kk e2), e3⟩
theorem c_rdSlope {g : eS} {p q it : Nat} {L : Lnd} {sl : Bool} (c : cPre g n tx q it L sl) (hp : p < q) : ∃ h v, fX2_readSlope 6 (eE g) = some (v, eE h) ∧ Kc g h ∧ cPost n p it h v (pM n tx q L) := by
  have c0 := c
  obtain ⟨t, h5, h3, h4, hL, hd, hq⟩ := c
  have qb := oE_b (tx := tx) hq
  have sb := oS_b (tx := tx) hq
  obtain ⟨h, o1, o2, o3, o4, o5⟩ := c_rdNum t hq h5 (lo := 0) (hi := 9) (by omega) (by omega)
  rw [nI_0, show nI 9 = 9 from rfl] at o1
  rw [fX2_readSlope, (tO g).2.2.2.2.1, cond_true, fX2_readSlope_0, o1, b2s]
  unfold pM
  cases hn1 : pNum n tx q 0 9 with
  | false =>
    rw [if_pos (show (if false = true then (1 : Int32) else 0) = 0 by decide), if_neg (by decide), eZ_0, bis]
    exact ⟨h, 0, rfl, n6_kc o2, rfl, o4⟩
  | true =>
    have c1 := cPre_n6 o2 c0 o3 qb.2.1
    have b1 := (of_decide_eq_true hn1).2
    have kf : fX1_setSlope 9 (nI (oV n tx q)) (eE h) = some (eE (eSI h 9 2 (nI (oV n tx q)))) := by
      simp only [fX1_setSlope, fX1_setSlope_0, tO, tP, bis, cond_true]
    have kk := kc_tr (kc_I h (i := 9) (k := 2) (Or.inl rfl) (nI (oV n tx q))) (kc_I (eSI h 9 2 (nI (oV n tx q))) (i := 6) (k := 4) (Or.inr ⟨rfl, by decide⟩) 1)
    rw [if_neg (show ¬ (if true = true then (1 : Int32) else 0) = 0 by decide), if_pos rfl]
    simp only [tI, tR, tP, bis, o5, kf, eZ_1]
    obtain ⟨m, v, e1, e2, e3, e4⟩ := c_end (kc_TX kk c1.1) (p := p) (it := it) (L := sSl L (oV n tx q)) (sl := true) (show p < oE n tx q by omega) qb.2.1 (by rw [eSI_ne _ _ (by omega), eSI_ne _ _ (by omega)]; exact o3) (by rw [eSI_ne _ _ (by omega), eSI_ne _ _ (by omega)]; exact c1.2.2.1) (by rw [eSI_at]; rfl) (by
      obtain ⟨l1, l2, l3, l4, l5, l6⟩ := c1.2.2.2.2.1
      refine ⟨?_, ?_, ?_, ?_, l5, l6⟩
      · rw [eSI_ne _ _ (by omega), eSI_ne _ _ (by omega)]; exact l1
      · rw [eSI_ne _ _ (by omega), eSI_ne _ _ (by omega)]; exact l2
      · rw [eSI_ne _ _ (by omega), eSI_at]; rfl
      · rw [eSI_ne _ _ (by omega), eSI_ne _ _ (by omega)]; exact l4) (ok_sSl hd b1.2)
    rw [e1, b2s, e4, bis]
    exact ⟨m, v, rfl, kc_tr (n6_kc o2) (kc_tr kk e2), e3⟩
end READ
