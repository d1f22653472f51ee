/-! ===== land ===== -/
theorem eSA_comm (g : eS) {a b : Nat} (h : a ≠ b) (F G : Nat → Int32) : eSA (eSA g a F) b G = eSA (eSA g b G) a F := by
  unfold eSA
  refine Prod.ext rfl (Prod.ext ?_ rfl)
  funext i
  dsimp only
  by_cases h1 : i = b
  · rw [if_pos h1, if_neg (by omega), if_pos h1]
  · rw [if_neg h1]
    by_cases h2 : i = a
    · rw [if_pos h2, if_pos h2]
    · rw [if_neg h2, if_neg h2, if_neg h1]
theorem stZ0 {m : Nat} (g : eS) (hm : m < 2) : eSt (eE g) true 46 (nI m) 0 = some (eE (eSA g 46 (upd (g.2.1 46) m 0))) := by
  unfold eE
  rw [eM_St (b := true) (n := 2) g rfl, if_pos (nI_inR hm (by decide)), nI_cl (by omega)]
  rfl
theorem ar_40 : eAr sh0 40 = some (false, 8) := rfl
theorem ar_43 : eAr sh0 43 = some (false, 57) := rfl
section MLAND
variable {n : Nat} {tx : Nat → Nat}
theorem pEnd_gt {q : Nat} (hq : q ≤ n) {L : Lnd} {sl : Bool} {r : Nat × Lnd × Bool} (h : pEnd n tx q L sl = .inr r) : q ≤ r.1 := by
  have a := oS_b (tx := tx) hq
  have b := oE_b (tx := tx) hq
  unfold pEnd at h
  split at h
  · cases h; show q ≤ oE n tx q; omega
  · cases h
theorem pItem_gt {p it : Nat} (hp : p ≤ n) {L : Lnd} {sl : Bool} {r : Nat × Lnd × Bool} (h : pItem n tx p it L sl = .inr r) : p < r.1 := by
  have s1 := oS_b (tx := tx) hp
  have e1 := oE_b (tx := tx) hp
  have s2 := oS_b (tx := tx) e1.2.1
  have e2 := oE_b (tx := tx) e1.2.1
  have s3 := oS_b (tx := tx) e2.2.1
  have e3 := oE_b (tx := tx) e2.2.1
  unfold pItem at h
  split at h
  next hk =>
    have k1 := (kd_1.mp hk).1
    have e4 := e1.2.2 k1
    split at h
    · split at h
      · unfold pG at h
        split at h
        · split at h
          · have := pEnd_gt e3.2.1 h; omega
          · cases h
        · cases h
      · cases h
    · split at h
      · unfold pH at h
        split at h
        · split at h
          · have := pEnd_gt e3.2.1 h; omega
          · cases h
        · cases h
      · split at h
        · split at h
          · cases h
          · unfold pM at h
            split at h
            · have := pEnd_gt e2.2.1 h; omega
            · cases h
        · split at h
          · cases h
          · unfold pT at h
            split at h
            · have := pEnd_gt e2.2.1 h; omega
            · cases h
  next => cases h
def pNext (n : Nat) (tx : Nat → Nat) (f it : Nat) : PR → Nat ⊕ (Nat × Lnd)
  | .inl x => .inl x
  | .inr r => pLoop n tx f r.1 (it + 1) r.2.1 r.2.2
theorem pLoop_s (f p it : Nat) (L : Lnd) (sl : Bool) : pLoop n tx (f + 1) p it L sl = if kd n tx p = 0 then .inr (it, L) else pNext n tx f it (pItem n tx p it L sl) := by
  rw [pLoop]
  by_cases hk : kd n tx p = 0
  · rw [if_pos hk, if_pos hk]
  · rw [if_neg hk, if_neg hk]
    cases pItem n tx p it L sl <;> rfl
def mRes (h : eS) : Nat ⊕ (Nat × Lnd) → Option (Int32 × eW)
  | .inl x => some (-10 - nI x, eE h)
  | .inr r => (fX11_settles 38 (eE h)).bind fun w3 => some (nI r.1, w3)
theorem m_fault {g : eS} {x it : Nat} (h : g.1 38 8 = nI x) (hx : x ≤ 200) (fu : Nat) : fX11_land_79 (fu + 1) 38 (nI it) (eE g) = some (-10 - nI x, eE g) := by
  rw [fX11_land_79, q_sick h hx, b2s, if_pos rfl, fX11_land_155, q_sick h hx, b2s, if_pos rfl]
  simp only [tI, bis, h]
theorem q_mb {g : eS} {p it : Nat} {L : Lnd} {sl : Bool} (c : mW g n tx p L sl) (hk : kd n tx p = 1) (hit : it < 1000) : fX11_mayBegin 38 (nI it) (eE g) = some (if (if tx (oS n tx p) = 103 then decide (it = 0) else if tx (oS n tx p) = 109 then !sl else if tx (oS n tx p) = 116 then decide (lK L < 4) else true) then 1 else 0, eE g) := by
  obtain ⟨t, m, hw, c4, c5, c6, hq⟩ := c
  have v7 := m.2.2.2.2 hk
  obtain ⟨k1, k2⟩ := kd_1.mp hk
  have hK := c6.2.2.2.1
  rw [fX11_mayBegin, tO38, cond_true, fX11_mayBegin_0]
  simp only [tI, bis, v7, c4, tR, tK, c5.2.2.2.1, fX11_mayBegin_65, eZ_0, eZ_1]
  rcases isL_r k2 with q | q | q | q
  · rw [q, if_pos (show nI 103 = (103 : Int32) from rfl), if_pos (show (103 : Nat) = 103 from rfl)]
    by_cases h0 : it = 0
    · rw [if_pos (by rw [h0]; rfl), decide_eq_true h0]; rfl
    · rw [if_neg (nI_ne0 (by omega) (by omega)), decide_eq_false h0]; rfl
  · rw [q, if_neg (show ¬ nI 104 = (103 : Int32) by decide), if_neg (show ¬ nI 104 = (109 : Int32) by decide), if_neg (show ¬ nI 104 = (116 : Int32) by decide), if_neg (show ¬ (104 : Nat) = 103 by decide), if_neg (show ¬ (104 : Nat) = 109 by decide), if_neg (show ¬ (104 : Nat) = 116 by decide)]
    rfl
  · rw [q, if_neg (show ¬ nI 109 = (103 : Int32) by decide), if_pos (show nI 109 = (109 : Int32) from rfl), if_neg (show ¬ (109 : Nat) = 103 by decide), if_pos (show (109 : Nat) = 109 from rfl)]
    cases sl <;> rfl
  · rw [q, if_neg (show ¬ nI 116 = (103 : Int32) by decide), if_neg (show ¬ nI 116 = (109 : Int32) by decide), if_pos (show nI 116 = (116 : Int32) from rfl), if_neg (show ¬ (116 : Nat) = 103 by decide), if_neg (show ¬ (116 : Nat) = 109 by decide), if_pos (show (116 : Nat) = 116 from rfl)]
    by_cases h4 : lK L < 4
    · rw [if_neg (show ¬ (4 : Int32) ≤ nI (lK L) from nI_ge (b := 4) h4 (by decide)), decide_eq_true h4]; rfl
    · rw [if_pos (show (4 : Int32) ≤ nI (lK L) from nI_le (a := 4) (by omega) (by omega)), decide_eq_false h4]; rfl
theorem m_loop : ∀ (fu p it : Nat) (L : Lnd) (sl : Bool) (g : eS), p ≤ n → n - p < fu → it ≤ p → (it = 0 → lK L = 0) → mW g n tx p L sl → ∃ h, fX11_land_79 fu 38 (nI it) (eE g) = mRes h (pLoop n tx fu p it L sl) ∧ Km g h ∧ (∀ r, pLoop n tx fu p it L sl = .inr r → MT2 h r.2) := by
  intro fu
  induction fu with
  | zero => intro p it L sl g h1 h2; omega
  | succ fu ih =>
    intro p it L sl g h1 h2 h3 h4 c
    have c0 := c
    obtain ⟨t, m, hw, c4, c5, c6, hq⟩ := c
    have h200 := t.2.1
    have k4 := kd_le (n := n) (tx := tx) p
    have sb := oS_b (tx := tx) h1
    rw [fX11_land_79, q_well hw, b2s, if_neg one_ne0, pLoop_s]
    simp only [tI, bis, m.2.1]
    by_cases hk : kd n tx p = 0
    · rw [hk, if_pos nI_0, if_pos rfl, fX11_land_155, q_well hw, b2s, if_neg one_ne0]
      exact ⟨g, rfl, km_rf g, fun r hr => by cases hr; exact c5⟩
    · have hlt : oS n tx p < n := Nat.lt_of_not_le (fun q => hk (kd_0.mpr q))
      obtain ⟨fu, rfl⟩ : ∃ k, fu = k + 1 := ⟨fu - 1, by omega⟩
      rw [if_neg (nI_ne0 (by omega) (by omega)), if_neg hk]
      have fin : ∀ h2, Km g h2 → mPost n tx h2 (pItem n tx p it L sl) → ∃ h, fX11_land_79 (fu + 1) 38 (nI (it + 1)) (eE h2) = mRes h (pNext n tx (fu + 1) it (pItem n tx p it L sl)) ∧ Km g h ∧ (∀ r, (pNext n tx (fu + 1) it (pItem n tx p it L sl)) = .inr r → MT2 h r.2) := by
        intro h2' kk post
        have gt := fun r => pItem_gt (tx := tx) (it := it) (L := L) (sl := sl) (r := r) h1
        cases hr : pItem n tx p it L sl with
        | inl x =>
          rw [hr] at post
          rw [m_fault post.1 post.2]
          exact ⟨h2', rfl, kk, fun r q => by cases q⟩
        | inr r =>
          obtain ⟨q, L', sl'⟩ := r
          rw [hr] at post
          have g1' : p < q := gt _ hr
          have post : mW h2' n tx q L' sl' := post
          obtain ⟨h, o1, o2, o3⟩ := ih q (it + 1) L' sl' h2' post.2.2.2.2.2.2 (by omega) (by omega) (fun e => by omega) post
          exact ⟨h, o1, km_tr kk o2, o3⟩
      have no : pItem n tx p it L sl = .inl (oS n tx p) → ∃ h, fX11_land_114 (fX11_land_79 (fu + 1)) 38 (nI it) 38 (eE g) = mRes h (pNext n tx (fu + 1) it (pItem n tx p it L sl)) ∧ Km g h ∧ (∀ r, (pNext n tx (fu + 1) it (pItem n tx p it L sl)) = .inr r → MT2 h r.2) := by
        intro hi
        have e8 : (eSI g 38 8 (nI (oS n tx p))).1 38 8 = nI (oS n tx p) := eSI_at _ _ _ _
        rw [fX11_land_114, fX11_land_115, q_tk0 m hw, b2s, q_sick e8 (by omega), b2s, if_pos rfl, m_endF e8 (by omega)]
        exact fin _ (km_I g (by omega) _) (by rw [hi]; exact ⟨e8, by omega⟩)
      by_cases hk1 : kd n tx p = 1
      · obtain ⟨k1, k2⟩ := kd_1.mp hk1
        have v7 := m.2.2.2.2 hk1
        rw [hk1, if_pos (show nI 1 = (1 : Int32) from rfl), q_mb c0 hk1 (by omega), b2s]
        obtain ⟨h1', o1, o2, o3⟩ := q_tk1 t h1 m hw
        have w1 := mW_n o2 c0 o3 (oE_b (tx := tx) h1).2.1
        have yes : ∀ v : Int32, nI (tx (oS n tx p)) = v → (∃ h, ((fX11_readsItem 38 v (eE h1')).bind fun w5 => fX11_land_131 (fX11_land_79 (fu + 1)) 38 (nI it) w5) = fX11_land_79 (fu + 1) 38 (nI (it + 1)) (eE h) ∧ Km h1' h ∧ mPost n tx h (pItem n tx p it L sl)) → ∃ h, fX11_land_115 (fX11_land_79 (fu + 1)) 38 (nI it) 38 1 (eE g) = mRes h (pNext n tx (fu + 1) it (pItem n tx p it L sl)) ∧ Km g h ∧ (∀ r, (pNext n tx (fu + 1) it (pItem n tx p it L sl)) = .inr r → MT2 h r.2) := by
          intro v hv ex
          obtain ⟨h, e1, e2, e3⟩ := ex
          rw [fX11_land_115, o1, b2s, q_well w1.2.2.1, b2s, if_neg one_ne0, v7, hv, e1]
          exact fin h (km_tr (n38_km o2) e2) e3
        have pi : pItem n tx p it L sl = (if tx (oS n tx p) = 103 then (if it = 0 then pG n tx (oE n tx p) L sl else .inl (oS n tx p)) else if tx (oS n tx p) = 104 then pH n tx (oE n tx p) L sl else if tx (oS n tx p) = 109 then (if sl = true then .inl (oS n tx p) else pM n tx (oE n tx p) L) else (if 4 ≤ lK L then .inl (oS n tx p) else pT n tx (oE n tx p) L sl)) := by
          unfold pItem
          rw [if_pos hk1]
        have hK := c6.2.2.2.1
        rcases isL_r k2 with q | q | q | q
        · rw [q, if_pos (show (103 : Nat) = 103 from rfl)] at pi
          rw [q, if_pos (show (103 : Nat) = 103 from rfl)]
          by_cases h0 : it = 0
          · rw [if_pos h0] at pi
            rw [decide_eq_true h0, if_neg (show ¬ (if true = true then (1 : Int32) else 0) = 0 by decide)]
            refine yes 103 (by rw [q]; rfl) ?_
            rw [pi]
            exact m_G w1 (h4 h0) _
          · rw [if_neg h0] at pi
            rw [decide_eq_false h0, if_pos (show (if false = true then (1 : Int32) else 0) = 0 by decide)]
            exact no pi
        · rw [q, if_neg (show ¬ (104 : Nat) = 103 by decide), if_pos (show (104 : Nat) = 104 from rfl)] at pi
          rw [q, if_neg (show ¬ (104 : Nat) = 103 by decide), if_neg (show ¬ (104 : Nat) = 109 by decide), if_neg (show ¬ (104 : Nat) = 116 by decide), if_neg (show ¬ (if true = true then (1 : Int32) else 0) = 0 by decide)]
          refine yes 104 (by rw [q]; rfl) ?_
          rw [pi]
          exact m_H w1 _
        · rw [q, if_neg (show ¬ (109 : Nat) = 103 by decide), if_neg (show ¬ (109 : Nat) = 104 by decide), if_pos (show (109 : Nat) = 109 from rfl)] at pi
          rw [q, if_neg (show ¬ (109 : Nat) = 103 by decide), if_pos (show (109 : Nat) = 109 from rfl)]
          cases sl with
          | true =>
            rw [if_pos rfl] at pi
            rw [if_pos (show (if (!true) = true then (1 : Int32) else 0) = 0 by decide)]
            exact no pi
          | false =>
            rw [if_neg (by decide)] at pi
            rw [if_neg (show ¬ (if (!false) = true then (1 : Int32) else 0) = 0 by decide)]
            refine yes 109 (by rw [q]; rfl) ?_
            rw [pi]
            exact m_M w1 _
        · rw [q, if_neg (show ¬ (116 : Nat) = 103 by decide), if_neg (show ¬ (116 : Nat) = 104 by decide), if_neg (show ¬ (116 : Nat) = 109 by decide)] at pi
          rw [q, if_neg (show ¬ (116 : Nat) = 103 by decide), if_neg (show ¬ (116 : Nat) = 109 by decide), if_pos (show (116 : Nat) = 116 from rfl)]
          by_cases hK4 : lK L < 4
          · rw [if_neg (by omega)] at pi
            rw [decide_eq_true hK4, if_neg (show ¬ (if true = true then (1 : Int32) else 0) = 0 by decide)]
            refine yes 116 (by rw [q]; rfl) ?_
            rw [pi]
            exact m_T w1 hK4 _
          · rw [if_pos (by omega)] at pi
            rw [decide_eq_false hK4, if_pos (show (if false = true then (1 : Int32) else 0) = 0 by decide)]
            exact no pi
      · rw [if_neg (show ¬ nI (kd n tx p) = (1 : Int32) from fun r => hk1 ((nI_eq (b := 1) (by omega) (by decide)).mp r))]
        exact no (by unfold pItem; rw [if_neg hk1])
theorem m_land {g : eS} (t : TXm g n tx) : ∃ h, fX11_land 38 (eE g) = mRes h (pLoop n tx eN 0 0 L0 false) ∧ Km (eSI g 38 0 0) h ∧ (∀ r, pLoop n tx eN 0 0 L0 false = .inr r → MT2 h r.2) := by
  have h200 := t.2.1
  have k56 : ∀ (fu k : Nat) (g : eS), k ≤ 20 → 20 - k < fu → (∀ x, x < k → g.2.1 41 (20 + x) = 0) → ∃ h, fX11_land_56 fu 38 0 (nI (20 + k)) (eE g) = ((fX11_advances 38 (eE h)).bind fun w1 => fX11_land_79 eN 38 0 w1) ∧ Km g h ∧ h.1 = g.1 ∧ h.2.1 40 = g.2.1 40 ∧ ∀ x, x < 20 → h.2.1 41 (20 + x) = 0 := by
    intro fu
    induction fu with
    | zero => intro k g h1 h2; omega
    | succ fu ih =>
      intro k g h1 h2 hF
      rw [fX11_land_56]
      by_cases hk : k = 20
      · subst hk
        rw [if_pos (show (40 : Int32) ≤ nI (20 + 20) by decide)]
        exact ⟨g, rfl, km_rf g, rfl, rfl, hF⟩
      · rw [if_neg (show ¬ (40 : Int32) ≤ nI (20 + k) from nI_ge (a := 20 + k) (b := 40) (by omega) (by decide))]
        simp only [tR, bis]
        rw [st (n := 40) _ ar_41 (by decide) (by omega), bis, nI_1]
        have k1 := km_41 g (k := 20 + k) (by omega) 0
        obtain ⟨h, o1, o2, o3, o4, o5⟩ := ih (k + 1) (eSA g 41 (upd (g.2.1 41) (20 + k) 0)) (by omega) (by omega) (fun x hx => by
          rw [sAA, upd_i]
          by_cases hxk : 20 + x = 20 + k
          · rw [if_pos hxk]
          · rw [if_neg hxk]; exact hF x (by omega))
        exact ⟨h, o1, km_tr k1 o2, o3, by rw [o4, sAo _ _ (by decide)], o5⟩
  have g2 := km_tr (km_tr (km_I (eSI g 38 0 0) (k := 8) (by omega) (-1)) (km_I _ (k := 4) (by omega) 0)) (km_tr (km_tr (km_40 (eSI (eSI (eSI g 38 0 0) 38 8 (-1)) 38 4 0) (k := 4) (by omega) 3) (km_40 _ (k := 5) (by omega) 2)) (km_tr (km_40 _ (k := 6) (by omega) 0) (km_40 _ (k := 7) (by omega) 9)))
  generalize hG : eSA (eSA (eSA (eSA (eSI (eSI (eSI g 38 0 0) 38 8 (-1)) 38 4 0) 40 (upd ((eSI (eSI (eSI g 38 0 0) 38 8 (-1)) 38 4 0).2.1 40) 4 3)) 40 (upd ((eSA (eSI (eSI (eSI g 38 0 0) 38 8 (-1)) 38 4 0) 40 (upd ((eSI (eSI (eSI g 38 0 0) 38 8 (-1)) 38 4 0).2.1 40) 4 3)).2.1 40) 5 2)) 40 (upd ((eSA (eSA (eSI (eSI (eSI g 38 0 0) 38 8 (-1)) 38 4 0) 40 (upd ((eSI (eSI (eSI g 38 0 0) 38 8 (-1)) 38 4 0).2.1 40) 4 3)) 40 (upd ((eSA (eSI (eSI (eSI g 38 0 0) 38 8 (-1)) 38 4 0) 40 (upd ((eSI (eSI (eSI g 38 0 0) 38 8 (-1)) 38 4 0).2.1 40) 4 3)).2.1 40) 5 2)).2.1 40) 6 0)) 40 (upd ((eSA (eSA (eSA (eSI (eSI (eSI g 38 0 0) 38 8 (-1)) 38 4 0) 40 (upd ((eSI (eSI (eSI g 38 0 0) 38 8 (-1)) 38 4 0).2.1 40) 4 3)) 40 (upd ((eSA (eSI (eSI (eSI g 38 0 0) 38 8 (-1)) 38 4 0) 40 (upd ((eSI (eSI (eSI g 38 0 0) 38 8 (-1)) 38 4 0).2.1 40) 4 3)).2.1 40) 5 2)) 40 (upd ((eSA (eSA (eSI (eSI (eSI g 38 0 0) 38 8 (-1)) 38 4 0) 40 (upd ((eSI (eSI (eSI g 38 0 0) 38 8 (-1)) 38 4 0).2.1 40) 4 3)) 40 (upd ((eSA (eSI (eSI (eSI g 38 0 0) 38 8 (-1)) 38 4 0) 40 (upd ((eSI (eSI (eSI g 38 0 0) 38 8 (-1)) 38 4 0).2.1 40) 4 3)).2.1 40) 5 2)).2.1 40) 6 0)).2.1 40) 7 9) = G at g2
  have f8 : G.1 38 8 = -1 := by rw [← hG, eSA_I, eSA_I, eSA_I, eSA_I, eSI_ne _ _ (by omega), eSI_at]
  have f4 : G.1 38 4 = 0 := by rw [← hG, eSA_I, eSA_I, eSA_I, eSA_I, eSI_at]
  have m4 : G.2.1 40 4 = 3 ∧ G.2.1 40 5 = 2 ∧ G.2.1 40 6 = 0 ∧ G.2.1 40 7 = 9 := by
    rw [← hG, sAA]
    refine ⟨?_, ?_, ?_, ?_⟩
    · rw [upd_i, if_neg (by decide), sAA, upd_i, if_neg (by decide), sAA, upd_i, if_neg (by decide), sAA, upd_i, if_pos rfl]
    · rw [upd_i, if_neg (by decide), sAA, upd_i, if_neg (by decide), sAA, upd_i, if_pos rfl]
    · rw [upd_i, if_neg (by decide), sAA, upd_i, if_pos rfl]
    · rw [upd_i, if_pos rfl]
  have k12 := km_I G (k := 12) (by omega) 0
  obtain ⟨h, o1, o2, o3, o4, o5⟩ := k56 eN 0 (eSI G 38 12 0) (by omega) (by rw [eN_eq]; omega) (fun x hx => absurd hx (Nat.not_lt_zero _))
  have kk := km_tr g2 (km_tr k12 o2)
  have th := km_TX kk (show TXm (eSI g 38 0 0) n tx from by
    unfold TXm at t ⊢
    rw [eSI_ne _ _ (by omega), eSI_A]
    exact t)
  obtain ⟨k, a1, a2, a3⟩ := q_adv th (p := 0) (Nat.zero_le _) (by rw [o3, eSI_ne _ _ (by omega)]; exact f4)
  have mw : mW k n tx 0 L0 false := by
    refine ⟨n38_TX a2 th, a3, ?_, ?_, n38_MT a2 ⟨?_, ?_, ?_, ?_, fun x hx => ?_, fun x hx => absurd hx (Nat.not_lt_zero _)⟩, ok_L0, Nat.zero_le _⟩
    · rw [a2.1 38 8 (by omega), o3, eSI_ne _ _ (by omega)]; exact f8
    · rw [a2.1 38 12 (by omega), o3, eSI_at]; rfl
    · rw [o4, eSI_A]; exact m4.1
    · rw [o4, eSI_A]; exact m4.2.1
    · rw [o4, eSI_A]; exact m4.2.2.2
    · rw [o4, eSI_A]; exact m4.2.2.1
    · rw [o5 x hx]; rfl
  obtain ⟨h', w1, w2, w3⟩ := m_loop eN 0 0 L0 false k (Nat.zero_le _) (by rw [eN_eq]; omega) (Nat.le_refl _) (fun _ => rfl) mw
  refine ⟨h', ?_, km_tr kk (km_tr (n38_km a2) w2), w3⟩
  rw [nI_0] at w1
  rw [show nI (20 + 0) = (20 : Int32) from rfl] at o1
  rw [fX11_land, tO38, cond_true, fX11_land_0]
  simp only [tR, tP, tM, bis, eZ_0, hG]
  rw [o1, a1, bis]
  exact w1
end MLAND
