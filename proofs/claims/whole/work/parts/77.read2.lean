/-! ===== the class reads a land ===== -/
section READ2
variable {n : Nat} {tx : Nat → Nat}
def cHead (h : eS) (n : Nat) (tx : Nat → Nat) (p it : Nat) (L : Lnd) (sl : Bool) : Prop := cPre h n tx (oE n tx p) it L sl ∧ h.1 6 6 = tkC n tx p ∧ h.1 6 7 = nI (oS n tx p)
theorem post_v {p it : Nat} {h : eS} {v : Int32} {r : PR} (c : cPost n p it h v r) : v = 0 ∨ v = 1 := by
  cases r with
  | inl x => exact Or.inl c.1
  | inr r => exact Or.inr c.1
theorem c_readItem {h : eS} {p it : Nat} {L : Lnd} {sl : Bool} (c : cHead h n tx p it L sl) (hp : p ≤ n) (h0 : it = 0 → lK L = 0) (hit : it < 1000) : ∃ h' v, fX2_readItem 6 (eE h) = some (v, eE h') ∧ Kc h h' ∧ cPost n p it h' v (pItem n tx p it L sl) := by
  obtain ⟨cp, ht, hs⟩ := c
  have t := cp.1
  have sb := oS_b (tx := tx) hp
  have eb := oE_b (tx := tx) hp
  rw [fX2_readItem, (tO h).2.2.2.2.1, cond_true, fX2_readItem_0]
  simp only [tI, bis, ht]
  unfold pItem
  by_cases hk : kd n tx p = 1
  · obtain ⟨k1, k2⟩ := kd_1.mp hk
    have hpe : p < oE n tx p := by have := eb.2.2 k1; omega
    have c1 := (t.2.2 _ k1).1
    have hnd : ∀ c, isL c = true → isD c = false := by
      intro c hc
      rcases isL_r hc with h | h | h | h <;> subst h <;> decide
    have tk : tkC n tx p = nI (tx (oS n tx p)) := (tk_c t c1 (hnd _ k2)).mpr ⟨k1, rfl⟩
    rw [if_pos hk, tk]
    rcases isL_r k2 with q | q | q | q
    · rw [q, if_pos (show nI 103 = (103 : Int32) from rfl), if_pos (show (103 : Nat) = 103 from rfl)]
      rw [cp.2.2.1]
      by_cases hi : it = 0
      · rw [if_pos hi, if_pos (by rw [hi]; rfl)]
        obtain ⟨h', v, o1, o2, o3⟩ := c_rdSize cp hpe (h0 hi)
        rw [o1, b2s]
        refine ⟨h', v, ?_, o2, o3⟩
        rcases post_v o3 with hv | hv
        · rw [hv, if_pos rfl, fX2_readItem_66, eZ_0, bis]
        · rw [hv, if_neg one_ne0, eZ_1, bis]
      · rw [if_neg hi, if_neg (nI_ne0 (by omega) (by omega)), fX2_readItem_66, eZ_0, bis]
        exact ⟨h, 0, rfl, kc_rf h, rfl, hs⟩
    · rw [q, if_neg (show ¬ nI 104 = (103 : Int32) by decide), if_pos (show nI 104 = (104 : Int32) from rfl), if_neg (show ¬ (104 : Nat) = 103 by decide), if_pos (show (104 : Nat) = 104 from rfl)]
      obtain ⟨h', v, o1, o2, o3⟩ := c_rdHeight cp hpe
      rw [o1, b2s]
      refine ⟨h', v, ?_, o2, o3⟩
      rcases post_v o3 with hv | hv
      · rw [hv, eZ_0, bis]
      · rw [hv, eZ_1, bis]
    · rw [q, if_neg (show ¬ nI 109 = (103 : Int32) by decide), if_neg (show ¬ nI 109 = (104 : Int32) by decide), if_pos (show nI 109 = (109 : Int32) from rfl), if_neg (show ¬ (109 : Nat) = 103 by decide), if_neg (show ¬ (109 : Nat) = 104 by decide), if_pos (show (109 : Nat) = 109 from rfl)]
      rw [cp.2.2.2.1]
      cases sl with
      | true =>
        rw [if_neg (show ¬ (if true = true then (1 : Int32) else 0) = 0 by decide), if_pos rfl, fX2_readItem_115, eZ_0, bis]
        exact ⟨h, 0, rfl, kc_rf h, rfl, hs⟩
      | false =>
        rw [if_pos (show (if false = true then (1 : Int32) else 0) = 0 by decide), if_neg (by decide)]
        obtain ⟨h', v, o1, o2, o3⟩ := c_rdSlope cp hpe
        rw [o1, b2s]
        refine ⟨h', v, ?_, o2, o3⟩
        rcases post_v o3 with hv | hv
        · rw [hv, if_pos rfl, fX2_readItem_115, eZ_0, bis]
        · rw [hv, if_neg one_ne0, eZ_1, bis]
    · rw [q, if_neg (show ¬ nI 116 = (103 : Int32) by decide), if_neg (show ¬ nI 116 = (104 : Int32) by decide), if_neg (show ¬ nI 116 = (109 : Int32) by decide), if_pos (show nI 116 = (116 : Int32) from rfl), if_neg (show ¬ (116 : Nat) = 103 by decide), if_neg (show ¬ (116 : Nat) = 104 by decide), if_neg (show ¬ (116 : Nat) = 109 by decide)]
      have tw : fX1_towns 9 (eE h) = some (nI (lK L), eE h) := by
        simp only [fX1_towns, fX1_towns_0, tO, tI, bis, cond_true, cp.2.2.2.2.1.2.2.2.1]
      have hK := cp.2.2.2.2.2.1.2.2.2.1
      simp only [tR, bis]
      rw [tw, b2s]
      by_cases hK4 : 4 ≤ lK L
      · rw [if_pos hK4, if_pos (show (4 : Int32) ≤ nI (lK L) from nI_le (a := 4) hK4 (by omega)), fX2_readItem_95, eZ_0, bis]
        exact ⟨h, 0, rfl, kc_rf h, rfl, hs⟩
      · rw [if_neg hK4, if_neg (show ¬ (4 : Int32) ≤ nI (lK L) from nI_ge (b := 4) (by omega) (by decide))]
        obtain ⟨h', v, o1, o2, o3⟩ := c_rdTown cp hpe (by omega)
        rw [o1, b2s]
        refine ⟨h', v, ?_, o2, o3⟩
        rcases post_v o3 with hv | hv
        · rw [hv, if_pos rfl, fX2_readItem_95, eZ_0, bis]
        · rw [hv, if_neg one_ne0, eZ_1, bis]
  · have nk : ∀ c, isL c = true → c < 256 → isD c = false → ¬ tkC n tx p = nI c := by
      intro c hc h256 hd q
      obtain ⟨q1, q2⟩ := (tk_c t h256 hd).mp q
      exact hk (kd_1.mpr ⟨q1, by rw [q2]; exact hc⟩)
    rw [if_neg hk, if_neg (show ¬ tkC n tx p = (103 : Int32) from nk 103 (by decide) (by decide) (by decide)), if_neg (show ¬ tkC n tx p = (104 : Int32) from nk 104 (by decide) (by decide) (by decide)), if_neg (show ¬ tkC n tx p = (109 : Int32) from nk 109 (by decide) (by decide) (by decide)), if_neg (show ¬ tkC n tx p = (116 : Int32) from nk 116 (by decide) (by decide) (by decide)), eZ_0, bis]
    exact ⟨h, 0, rfl, kc_rf h, rfl, hs⟩
theorem pEnd_le {q : Nat} (hq : q ≤ n) {L : Lnd} {sl : Bool} {x : Nat} (h : pEnd n tx q L sl = .inl x) : x ≤ n := by
  unfold pEnd at h
  split at h
  · cases h
  · cases h; exact (oS_b hq).2.1
theorem pItem_le {p it : Nat} (hp : p ≤ n) {L : Lnd} {sl : Bool} {x : Nat} (h : pItem n tx p it L sl = .inl x) : x ≤ n := by
  have s1 := (oS_b (tx := tx) hp).2.1
  have e1 := (oE_b (tx := tx) hp).2.1
  have s2 := (oS_b (tx := tx) e1).2.1
  have e2 := (oE_b (tx := tx) e1).2.1
  have s3 := (oS_b (tx := tx) e2).2.1
  have e3 := (oE_b (tx := tx) e2).2.1
  unfold pItem at h
  split at h
  · split at h
    · split at h
      · unfold pG at h
        split at h
        · split at h
          · exact pEnd_le e3 h
          · cases h; exact s3
        · cases h; exact s2
      · cases h; exact s1
    · split at h
      · unfold pH at h
        split at h
        · split at h
          · exact pEnd_le e3 h
          · cases h; exact s3
        · cases h; exact s2
      · split at h
        · split at h
          · cases h; exact s1
          · unfold pM at h
            split at h
            · exact pEnd_le e2 h
            · cases h; exact s2
        · split at h
          · cases h; exact s1
          · unfold pT at h
            split at h
            · exact pEnd_le e2 h
            · cases h; exact s2
  · cases h; exact s1
theorem c_loop : ∀ (fu p it : Nat) (L : Lnd) (sl : Bool) (h : eS), p ≤ n → n - p < fu → it ≤ p → (it = 0 → lK L = 0) → cHead h n tx p it L sl → ∃ h', fX2_read_26 fu 6 (eE h) = some (rV (pLoop n tx fu p it L sl), eE h') ∧ Kc h h' ∧ (∀ r, pLoop n tx fu p it L sl = .inr r → CL h' 9 11 13 r.2 ∧ okL r.2 ∧ r.1 ≤ 200) ∧ (∀ x, pLoop n tx fu p it L sl = .inl x → x ≤ 200) := by
  intro fu
  induction fu with
  | zero => intro p it L sl h h1 h2; omega
  | succ fu ih =>
    intro p it L sl h h1 h2 h3 h4 c
    have t := c.1.1
    have h200 := t.2.1
    have sb := oS_b (tx := tx) h1
    rw [fX2_read_26, pLoop]
    simp only [tI, bis, c.2.1]
    by_cases hk : kd n tx p = 0
    · rw [if_pos ((tk_1 t).mpr hk), if_pos hk, fX2_read_76]
      simp only [tI, bis, c.1.2.2.1]
      refine ⟨h, rfl, kc_rf h, fun r hr => ?_, fun x hx => by cases hx⟩
      cases hr
      exact ⟨c.1.2.2.2.2.1, c.1.2.2.2.2.2.1, by show it ≤ 200; omega⟩
    · have hlt : oS n tx p < n := Nat.lt_of_not_le (fun q => hk (kd_0.mpr q))
      rw [if_neg (fun q => hk ((tk_1 t).mp q)), if_neg hk, c.1.2.2.1, if_neg (show ¬ (200 : Int32) ≤ nI it from nI_ge (b := 200) (by omega) (by decide))]
      obtain ⟨h1', v, o1, o2, o3⟩ := c_readItem c h1 h4 (by omega)
      have ple := fun x => pItem_le (tx := tx) (it := it) (L := L) (sl := sl) (x := x) h1
      rw [o1, b2s]
      cases hr : pItem n tx p it L sl with
      | inl x =>
        rw [hr] at o3
        rw [o3.1, if_pos rfl]
        simp only [tI, bis, o3.2]
        refine ⟨h1', rfl, o2, fun r q => (by cases q), fun y q => ?_⟩
        cases q
        have := ple x hr
        omega
      | inr r =>
        obtain ⟨q, L', sl'⟩ := r
        rw [hr] at o3
        obtain ⟨p1, p2, p3, p4, p5, p6, p7, p8⟩ := o3
        dsimp only at p2 p3 p4 p5 p6 p7 p8
        rw [p1, if_neg one_ne0]
        simp only [tI, tP, bis, p3, nI_1]
        have kk := kc_I h1' (i := 6) (k := 3) (Or.inr ⟨rfl, by decide⟩) (nI (it + 1))
        obtain ⟨h2', u1, u2, u3, u4, u5, u6⟩ := c_next (kc_TX (kc_tr o2 kk) t) p8 (by rw [eSI_ne _ _ (by omega)]; exact p2)
        rw [u1, bis]
        have hc2 : cHead h2' n tx q (it + 1) L' sl' := by
          refine ⟨⟨n6_TX u2 (kc_TX (kc_tr o2 kk) t), u3, ?_, ?_, n6_CL u2 ?_, p6, (oE_b p8).2.1⟩, u4, u5⟩
          · rw [u2.1 6 3 (by omega), eSI_at]
          · rw [u2.1 6 4 (by omega), eSI_ne _ _ (by omega)]; exact p4
          · unfold CL at p5 ⊢
            rw [eSI_ne _ _ (by omega), eSI_ne _ _ (by omega), eSI_ne _ _ (by omega), eSI_ne _ _ (by omega), eSI_A]
            exact p5
        obtain ⟨h3', w1, w2, w3⟩ := ih q (it + 1) L' sl' h2' p8 (by omega) (by omega) (fun e => by omega) hc2
        exact ⟨h3', w1, kc_tr o2 (kc_tr kk (kc_tr (n6_kc u2) w2)), w3⟩
theorem c_read {g : eS} (t : TXc g n tx) : ∃ h, fX2_read 6 (eE g) = some (rV (pLoop n tx eN 0 0 L0 false), eE h) ∧ Kc g h ∧ (∀ r, pLoop n tx eN 0 0 L0 false = .inr r → CL h 9 11 13 r.2 ∧ okL r.2 ∧ r.1 ≤ 200) ∧ (∀ x, pLoop n tx eN 0 0 L0 false = .inl x → x ≤ 200) := by
  have h200 := t.2.1
  have k1 := kc_tr (kc_tr (kc_I g (i := 9) (k := 0) (Or.inl rfl) 3) (kc_I _ (i := 9) (k := 1) (Or.inl rfl) 2)) (kc_tr (kc_I (eSI (eSI g 9 0 3) 9 1 2) (i := 9) (k := 2) (Or.inl rfl) 9) (kc_I _ (i := 9) (k := 3) (Or.inl rfl) 0))
  obtain ⟨f, f1, f2, -⟩ := row_fill r10 0 (eSI (eSI (eSI (eSI g 9 0 3) 9 1 2) 9 2 9) 9 3 0)
  have k2 := kc_A (eSI (eSI (eSI (eSI g 9 0 3) 9 1 2) 9 2 9) 9 3 0) (a := 11) (Or.inl rfl) f
  have k3 := kc_tr (kc_tr (kc_I (eSA (eSI (eSI (eSI (eSI g 9 0 3) 9 1 2) 9 2 9) 9 3 0) 11 f) (i := 6) (k := 3) (Or.inr ⟨rfl, by decide⟩) 0) (kc_I _ (i := 6) (k := 4) (Or.inr ⟨rfl, by decide⟩) 0)) (kc_I (eSI (eSI (eSA (eSI (eSI (eSI (eSI g 9 0 3) 9 1 2) 9 2 9) 9 3 0) 11 f) 6 3 0) 6 4 0) (i := 6) (k := 5) (Or.inr ⟨rfl, by decide⟩) 0)
  have kk := kc_tr k1 (kc_tr k2 k3)
  obtain ⟨h, u1, u2, u3, u4, u5, u6⟩ := c_next (kc_TX kk t) (p := 0) (Nat.zero_le _) (by rw [eSI_at]; rfl)
  have hc : cHead h n tx 0 0 L0 false := by
    refine ⟨⟨n6_TX u2 (kc_TX kk t), u3, ?_, ?_, n6_CL u2 ?_, ok_L0, (oE_b (Nat.zero_le _)).2.1⟩, u4, u5⟩
    · rw [u2.1 6 3 (by omega), eSI_ne _ _ (by omega), eSI_ne _ _ (by omega), eSI_at]; rfl
    · rw [u2.1 6 4 (by omega), eSI_ne _ _ (by omega), eSI_at]; rfl
    · refine ⟨?_, ?_, ?_, ?_, fun x hx => ?_, fun x hx => absurd hx (Nat.not_lt_zero _)⟩
      · rw [eSI_ne _ _ (by omega), eSI_ne _ _ (by omega), eSI_ne _ _ (by omega), eSA_I, eSI_ne _ _ (by omega), eSI_ne _ _ (by omega), eSI_ne _ _ (by omega), eSI_at]; rfl
      · rw [eSI_ne _ _ (by omega), eSI_ne _ _ (by omega), eSI_ne _ _ (by omega), eSA_I, eSI_ne _ _ (by omega), eSI_ne _ _ (by omega), eSI_at]; rfl
      · rw [eSI_ne _ _ (by omega), eSI_ne _ _ (by omega), eSI_ne _ _ (by omega), eSA_I, eSI_ne _ _ (by omega), eSI_at]; rfl
      · rw [eSI_ne _ _ (by omega), eSI_ne _ _ (by omega), eSI_ne _ _ (by omega), eSA_I, eSI_at]; rfl
      · rw [eSI_A, eSI_A, eSI_A, sAA, f2 x hx]; rfl
  obtain ⟨h3', w1, w2, w3⟩ := c_loop eN 0 0 L0 false h (Nat.zero_le _) (by rw [eN_eq]; omega) (Nat.le_refl _) (fun _ => rfl) hc
  refine ⟨h3', ?_, kc_tr kk (kc_tr (n6_kc u2) w2), w3⟩
  rw [fX2_read, (tO g).2.2.2.2.1, cond_true, fX2_read_0]
  simp only [tR, tO, tP, bis, fX1_becomeFirst, fX1_becomeFirst_0, cond_true, f1, eZ_0, u1]
  exact w1
end READ2
/-! the ground becomes what is told -/
def B1 (g h : eS) : Prop := (∀ i k, i ≠ 1 → h.1 i k = g.1 i k) ∧ (∀ a, a ≠ 3 → a ≠ 5 → h.2.1 a = g.2.1 a) ∧ h.2.2 = g.2.2
theorem c_become {g : eS} {L : Lnd} (hL : CL g 9 11 13 L) (hd : okL L) : ∃ h, fX1_become 1 9 (eE g) = some (eE h) ∧ B1 g h ∧ CL h 1 3 5 L := by
  obtain ⟨l1, l2, l3, l4, l5, l6⟩ := hL
  have hK := hd.2.2.2.1
  have k64 : ∀ (fu k : Nat) (g : eS) (F : Nat → Int32), k ≤ 4 → 4 - k < fu → (∀ x, x < k → F x = g.2.1 13 x) → ∃ F', fX1_become_64 fu 1 9 (nI k) (eE (eSA g 5 F)) = some (eE (eSA g 5 F')) ∧ ∀ x, x < 4 → F' x = g.2.1 13 x := by
    intro fu
    induction fu with
    | zero => intro k g F h1 h2; omega
    | succ fu ih =>
      intro k g F h1 h2 hF
      rw [fX1_become_64]
      by_cases hk : k = 4
      · subst hk
        rw [if_pos (show (4 : Int32) ≤ nI 4 by decide)]
        exact ⟨F, rfl, hF⟩
      · rw [if_neg (show ¬ (4 : Int32) ≤ nI k from nI_ge (a := k) (b := 4) (by omega) (by decide))]
        simp only [tR, bis]
        rw [row_getN r12 _ (show k < 4 by omega), b2s, row_putN r4 _ (show k < 4 by omega), bis, eSA_same, sAA, sAo _ _ (by decide), nI_1]
        refine ih (k + 1) g _ (by omega) (by omega) (fun x hx => ?_)
        rw [upd_i]
        by_cases hxk : x = k
        · rw [if_pos hxk, hxk]
        · rw [if_neg hxk]; exact hF x (by omega)
  have k34 : ∀ (fu k : Nat) (g : eS) (F : Nat → Int32), k ≤ 20 → 20 - k < fu → (∀ x, x < k → F x = g.2.1 11 x) → ∃ F' G', fX1_become_34 fu 1 9 (nI k) (eE (eSA g 3 F)) = some (eE (eSA (eSA g 3 F') 5 G')) ∧ (∀ x, x < 20 → F' x = g.2.1 11 x) ∧ ∀ x, x < 4 → G' x = g.2.1 13 x := by
    intro fu
    induction fu with
    | zero => intro k g F h1 h2; omega
    | succ fu ih =>
      intro k g F h1 h2 hF
      rw [fX1_become_34]
      by_cases hk : k = 20
      · subst hk
        rw [if_pos (show (20 : Int32) ≤ nI 20 by decide)]
        obtain ⟨G', o1, o2⟩ := k64 eN 0 (eSA g 3 F) ((eSA g 3 F).2.1 5) (by omega) (by rw [eN_eq]; omega) (fun x hx => absurd hx (Nat.not_lt_zero _))
        rw [eSA_self, nI_0] at o1
        refine ⟨F, G', o1, hF, fun x hx => ?_⟩
        rw [o2 x hx, sAo _ _ (by decide)]
      · rw [if_neg (show ¬ (20 : Int32) ≤ nI k from nI_ge (a := k) (b := 20) (by omega) (by decide))]
        simp only [tR, bis]
        rw [row_getN r10 _ (show k < 20 by omega), b2s, row_putN r2 _ (show k < 20 by omega), bis, eSA_same, sAA, sAo _ _ (by decide), nI_1]
        refine ih (k + 1) g _ (by omega) (by omega) (fun x hx => ?_)
        rw [upd_i]
        by_cases hxk : x = k
        · rw [if_pos hxk, hxk]
        · rw [if_neg hxk]; exact hF x (by omega)
  obtain ⟨F', G', o1, o2, o3⟩ := k34 eN 0 (eSI (eSI (eSI (eSI g 1 0 (nI (lW L))) 1 1 (nI (lD L))) 1 2 (nI (lS L))) 1 3 (nI (lK L))) ((eSI (eSI (eSI (eSI g 1 0 (nI (lW L))) 1 1 (nI (lD L))) 1 2 (nI (lS L))) 1 3 (nI (lK L))).2.1 3) (by omega) (by rw [eN_eq]; omega) (fun x hx => absurd hx (Nat.not_lt_zero _))
  rw [eSA_self, nI_0] at o1
  refine ⟨eSA (eSA (eSI (eSI (eSI (eSI g 1 0 (nI (lW L))) 1 1 (nI (lD L))) 1 2 (nI (lS L))) 1 3 (nI (lK L))) 3 F') 5 G', ?_, ?_, ?_⟩
  · simp only [fX1_become, fX1_become_0, tO, tI, tP, bis, cond_true, l1, l2, l3, l4, eSI_ne g (o := 1) (k := 0) (i := 9) (j := 1) _ (by omega), eSI_ne _ (o := 1) (k := 1) (i := 9) (j := 2) _ (by omega), eSI_ne _ (o := 1) (k := 0) (i := 9) (j := 2) _ (by omega), eSI_ne _ (o := 1) (k := 0) (i := 9) (j := 3) _ (by omega), eSI_ne _ (o := 1) (k := 1) (i := 9) (j := 3) _ (by omega), eSI_ne _ (o := 1) (k := 2) (i := 9) (j := 3) _ (by omega)]
    exact o1
  · refine ⟨fun i k hi => ?_, fun a h1 h2 => ?_, rfl⟩
    · rw [eSA_I, eSA_I, eSI_ne _ _ (by omega), eSI_ne _ _ (by omega), eSI_ne _ _ (by omega), eSI_ne _ _ (by omega)]
    · rw [sAo _ _ h2, sAo _ _ h1, eSI_A, eSI_A, eSI_A, eSI_A]
  · refine ⟨?_, ?_, ?_, ?_, fun x hx => ?_, fun x hx => ?_⟩
    · rw [eSA_I, eSA_I, eSI_ne _ _ (by omega), eSI_ne _ _ (by omega), eSI_ne _ _ (by omega), eSI_at]
    · rw [eSA_I, eSA_I, eSI_ne _ _ (by omega), eSI_ne _ _ (by omega), eSI_at]
    · rw [eSA_I, eSA_I, eSI_ne _ _ (by omega), eSI_at]
    · rw [eSA_I, eSA_I, eSI_at]
    · rw [sAo _ _ (by decide), sAA, o2 x hx, eSI_A, eSI_A, eSI_A, eSI_A]; exact l5 x hx
    · rw [sAA, o3 x (by omega), eSI_A, eSI_A, eSI_A, eSI_A]; exact l6 x hx
