/-! ===== the model's roads ===== -/
theorem upd_i (f : Nat → Int32) (k j : Nat) (x : Int32) : upd f k x j = if j = k then x else f j := rfl
def arS (g : eS) (F T : Nat → Int32) : eS := (g.1, fun i => if i = 48 then F else if i = 49 then T else g.2.1 i, g.2.2)
theorem arS_A (g : eS) (F T : Nat → Int32) (i : Nat) : (arS g F T).2.1 i = if i = 48 then F else if i = 49 then T else g.2.1 i := by rw [arS]
theorem arS_48 (g : eS) (F T : Nat → Int32) : (arS g F T).2.1 48 = F := by rw [arS_A, if_pos rfl]
theorem arS_49 (g : eS) (F T : Nat → Int32) : (arS g F T).2.1 49 = T := by rw [arS_A, if_neg (by decide), if_pos rfl]
theorem arS_o (g : eS) (F T : Nat → Int32) {i : Nat} (h : i ≠ 48 ∧ i ≠ 49) : (arS g F T).2.1 i = g.2.1 i := by rw [arS_A, if_neg h.1, if_neg h.2]
theorem arS_s (g : eS) (F T F' : Nat → Int32) : eSA (arS g F T) 48 F' = arS g F' T := by
  unfold eSA arS
  refine Prod.ext rfl (Prod.ext ?_ rfl)
  funext i
  dsimp only
  by_cases h : i = 48
  · rw [if_pos h, if_pos h]
  · rw [if_neg h, if_neg h, if_neg h]
theorem arS_t (g : eS) (F T T' : Nat → Int32) : eSA (arS g F T) 49 T' = arS g F T' := by
  unfold eSA arS
  refine Prod.ext rfl (Prod.ext ?_ rfl)
  funext i
  dsimp only
  by_cases h : i = 49
  · rw [if_pos h, if_neg (by omega), if_pos h]
  · rw [if_neg h]
    by_cases h2 : i = 48
    · rw [if_pos h2, if_pos h2]
    · rw [if_neg h2, if_neg h, if_neg h2, if_neg h]
theorem arS_self (g : eS) : arS g (g.2.1 48) (g.2.1 49) = g := by
  unfold arS
  refine Prod.ext rfl (Prod.ext ?_ rfl)
  funext i
  dsimp only
  by_cases h : i = 48
  · rw [if_pos h, h]
  · rw [if_neg h]
    by_cases h2 : i = 49
    · rw [if_pos h2, h2]
    · rw [if_neg h2]
theorem kp_ar (g : eS) (F T : Nat → Int32) : Kp g (arS g F T) := ⟨⟨fun _ => rfl, rfl, rfl, rfl, rfl, rfl, rfl⟩, ⟨rfl, rfl, rfl, rfl, rfl, rfl⟩, ⟨rfl, rfl, rfl, rfl, rfl, rfl, rfl, rfl⟩, rfl⟩
theorem ar_MS {g : eS} {F T : Nat → Int32} {a : Nat} (ha : isMa a) {d : Lnd} {z : Nat → Nat} (c : MS g a d z) : MS (arS g F T) a d z := by
  refine ⟨kp_ML (kp_ar g F T) c.1, c.2.1, ?_, c.2.2.2⟩
  have := c.2.2.1
  unfold BZ at this ⊢
  rw [arS_o g F T (by rcases ha with rfl | rfl <;> decide)]
  exact this
def rbN (a b c d : Bool) : Nat := (if a then 1 else 0) + (if b then 2 else 0) + (if c then 4 else 0) + (if d then 8 else 0)
def rbG (E : Nat → Bool) : Nat := rbN (E 0) (E 1) (E 2) (E 3)
theorem rbN_or : ∀ (a b c d : Bool) (k : Fin 4), rbN a b c d ||| 2 ^ k.val = rbN (a || decide (k.val = 0)) (b || decide (k.val = 1)) (c || decide (k.val = 2)) (d || decide (k.val = 3)) := by decide +kernel
theorem rbG_or (E E' : Nat → Bool) {k : Nat} (hk : k < 4) (h : ∀ j, j < 4 → E' j = (E j || decide (j = k))) : rbG E ||| 2 ^ k = rbG E' := by
  unfold rbG
  rw [rbN_or _ _ _ _ ⟨k, hk⟩, h 0 (by omega), h 1 (by omega), h 2 (by omega), h 3 (by omega)]
  dsimp only
  rw [show decide (0 = k) = decide (k = 0) from decide_eq_decide.mpr eq_comm, show decide (1 = k) = decide (k = 1) from decide_eq_decide.mpr eq_comm, show decide (2 = k) = decide (k = 2) from decide_eq_decide.mpr eq_comm, show decide (3 = k) = decide (k = 3) from decide_eq_decide.mpr eq_comm]
theorem rbG_e {E E' : Nat → Bool} (h : ∀ j, j < 4 → E' j = E j) : rbG E = rbG E' := by
  unfold rbG
  rw [h 0 (by omega), h 1 (by omega), h 2 (by omega), h 3 (by omega)]
theorem rbN_lt : ∀ a b c d : Bool, rbN a b c d < 16 := by decide
theorem rbN_tb : ∀ (a b c d : Bool) (k : Fin 4), (nI (rbN a b c d) >>> (nI k.val &&& 31)) &&& (1 : Int32) = if (if k.val = 0 then a else if k.val = 1 then b else if k.val = 2 then c else d) then 1 else 0 := by decide +kernel
theorem rbG_tb (E : Nat → Bool) {k : Nat} (hk : k < 4) : (nI (rbG E) >>> (nI k &&& 31)) &&& (1 : Int32) = if E k then 1 else 0 := by
  unfold rbG
  rw [rbN_tb _ _ _ _ ⟨k, hk⟩]
  dsimp only
  rcases (show k = 0 ∨ k = 1 ∨ k = 2 ∨ k = 3 by omega) with rfl | rfl | rfl | rfl <;> rfl
theorem xor2 : ∀ k : Fin 4, nI k.val ^^^ (2 : Int32) = nI (opp k.val) := by decide +kernel
theorem xor2n {k : Nat} (hk : k < 4) : nI k ^^^ (2 : Int32) = nI (opp k) := xor2 ⟨k, hk⟩
theorem t_upd (T : Nat → Int32) (p q x : Nat) (v : Int32) : upd (upd T p (T p ||| v)) q ((upd T p (T p ||| v)) q ||| v) x = if p = x ∨ q = x then T x ||| v else T x := by
  rw [upd_i, upd_i, upd_i]
  by_cases h1 : x = q
  · rw [if_pos h1, if_pos (Or.inr h1.symm)]
    by_cases h2 : q = p
    · rw [if_pos h2, h1, h2, Int32.or_assoc, Int32.or_self]
    · rw [if_neg h2, h1]
  · rw [if_neg h1]
    by_cases h2 : x = p
    · rw [if_pos h2, if_pos (Or.inl h2.symm), h2]
    · rw [if_neg h2, if_neg (by omega)]
/-- the model's roads are those of R and D -/
def MR (g : eS) (d : Lnd) (R D : Nat) : Prop := ∀ x, x < lC d → g.2.1 48 x = nI (rbG (goB (lW d) R D x))
def tch (d : Lnd) (z : Nat → Nat) (x : Nat) : Nat → Nat
  | 0 => 0
  | b + 1 => if 0 < bl z b ∧ (bf z b = x ∨ cb d z b (bl z b) = x) then tch d z x b ||| 2 ^ b else tch d z x b
def MT (g : eS) (d : Lnd) (z : Nat → Nat) (n : Nat) : Prop := ∀ x, x < lC d → g.2.1 49 x = nI (tch d z x n)
theorem ar_48 : eAr sh0 48 = some (false, 20) := rfl
theorem ar_49 : eAr sh0 49 = some (false, 20) := rfl
theorem nb_ne {d : Lnd} (hd : okL d) {c k e : Nat} (hc : c < lC d) (hnb : nb (lW d) (lD d) c k = some e) : e ≠ c := by
  have hW := hd.1.1
  unfold nb at hnb
  split at hnb
  next => split at hnb <;> first | (cases hnb; omega) | cases hnb
  next =>
    split at hnb
    next => split at hnb <;> first | (cases hnb; omega) | cases hnb
    next =>
      split at hnb
      next => split at hnb <;> first | (cases hnb; omega) | cases hnb
      next =>
        split at hnb
        next =>
          split at hnb
          next hw =>
            cases hnb
            intro q
            rw [show c = 0 by omega, Nat.zero_mod] at hw
            omega
          next => cases hnb
        next => cases hnb
theorem q_builds {a : Nat} (ha : isMa a) {g : eS} {d : Lnd} {z : Nat → Nat} (hS : MS g a d z) : ∃ F T, fX11_builds 38 a (eE g) = some (eE (arS g F T)) ∧ MR (arS g F T) d (rdR d z) (rdD d z) ∧ MT (arS g F T) d z (z 0) ∧ okRD d (rdR d z) (rdD d z) := by
  have hS' := hS
  obtain ⟨hL, hd, hz, ho⟩ := hS
  have hC := okL_C hd
  have h4 := ho.1
  have key : ∀ (fu b : Nat) (F T : Nat → Int32), b ≤ z 0 → z 0 - b < fu → okRD d (layA d z b).1 (layA d z b).2 → MR (arS g F T) d (layA d z b).1 (layA d z b).2 → MT (arS g F T) d z b → ∃ F' T', fX11_builds_30 fu 38 a (nI b) (eE (arS g F T)) = some (eE (arS g F' T')) ∧ MR (arS g F' T') d (rdR d z) (rdD d z) ∧ MT (arS g F' T') d z (z 0) ∧ okRD d (rdR d z) (rdD d z) := by
    intro fu
    induction fu with
    | zero => intro b F T h1 h2; omega
    | succ fu ih =>
      intro b F T h1 h2 hok hR hT
      have hz' := (ar_MS (F := F) (T := T) ha hS').2.2.1
      have e0 : eLd (eE (arS g F T)) false a 0 = some (nI (z 0)) := by
        rw [show (0 : Int32) = nI 0 from rfl, ld (n := 57) (i := 0) (arS g F T) (isMa_ar ha) (by decide) (by decide), hz' 0 (by decide)]
      rw [fX11_builds_30, e0, bis]
      by_cases hb : b = z 0
      · subst hb
        rw [if_pos (nI_le (Nat.le_refl _) (by omega))]
        exact ⟨F, T, rfl, hR, hT, hok⟩
      · have hb2 : b < z 0 := by omega
        obtain ⟨q1, q2, q3⟩ := ho.2 b hb2
        rw [if_neg (nI_ge hb2 (by omega)), q_first ha hz' (by omega), b2s]
        have k2 : ∀ (fv i : Nat) (F T : Nat → Int32), i ≤ bl z b → bl z b - i < fv → okRD d (layB d z b (layA d z b) i).1 (layB d z b (layA d z b) i).2 → MR (arS g F T) d (layB d z b (layA d z b) i).1 (layB d z b (layA d z b) i).2 → MT (arS g F T) d z b → ∃ F' T', fX11_builds_46 (fX11_builds_30 fu) fv 38 a (nI b) (nI (cb d z b i)) (nI i) (eE (arS g F T)) = some (eE (arS g F' T')) ∧ MR (arS g F' T') d (rdR d z) (rdD d z) ∧ MT (arS g F' T') d z (z 0) ∧ okRD d (rdR d z) (rdD d z) := by
          intro fv
          induction fv with
          | zero => intro i F T i1 i2; omega
          | succ fv ihv =>
            intro i F T i1 i2 hok hR hT
            have hS2 := ar_MS (F := F) (T := T) ha hS'
            have hz2 := hS2.2.2.1
            have l1 := q_len ha hz2 (show b < 4 by omega)
            rw [fX11_builds_46, l1, b2s]
            by_cases hi : i = bl z b
            · subst hi
              rw [if_pos (nI_le (Nat.le_refl _) (by omega)), l1, b2s]
              by_cases h0 : bl z b = 0
              · rw [if_pos (by rw [h0]; decide), fX11_builds_148, nI_1]
                refine ih (b + 1) F T (by omega) (by omega) hok hR (fun x hx => ?_)
                rw [tch, if_neg (by omega)]
                exact hT x hx
              · have hcb := okB_cb hd ho hb2 (bl z b) (Nat.le_refl _)
                rw [if_neg (nI_nle (by omega) (by omega))]
                simp only [tR, bis]
                rw [q_first ha hz2 (by omega), b2s, ld (n := 20) (arS g F T) ar_49 (by decide) (by omega), bis, st (n := 20) (arS g F T) ar_49 (by decide) (by omega), bis, arS_t]
                simp only [tR, bis]
                rw [ld (n := 20) (arS g F _) ar_49 (by decide) (by omega), bis, st (n := 20) (arS g F _) ar_49 (by decide) (by omega), bis, arS_t, fX11_builds_148, nI_1, bit_nI b (by omega)]
                refine ih (b + 1) F _ (by omega) (by omega) hok ?_ (fun x hx => ?_)
                · intro x hx
                  have := hR x hx
                  rw [arS_48] at this ⊢
                  exact this
                · have t1 := hT x hx
                  rw [arS_49] at t1
                  rw [arS_49, arS_49, arS_49, t_upd, tch, t1]
                  by_cases c1 : bf z b = x ∨ cb d z b (bl z b) = x
                  · rw [if_pos c1, if_pos ⟨by omega, c1⟩, nI_or]
                  · rw [if_neg c1, if_neg (fun q => c1 q.2)]
            · have hi2 : i < bl z b := by omega
              have hnb := okB_nb ho hb2 hi2
              have hc := okB_cb hd ho hb2 i (by omega)
              have hc' := okB_cb hd ho hb2 (i + 1) (by omega)
              have hk := (q3 i hi2).1
              have hne := nb_ne hd hc hnb
              rw [if_neg (nI_ge hi2 (by omega)), q_card ha hz2 (by omega) (by omega), b2s, q_leads hS2.1 hd hc hk, b2s, hnb, show oM9 (some (cb d z b (i + 1))) = nI (cb d z b (i + 1)) from rfl]
              simp only [tR, bis]
              rw [ld (n := 20) (arS g F T) ar_48 (by decide) (by omega), bis, st (n := 20) (arS g F T) ar_48 (by decide) (by omega), bis, arS_s]
              simp only [tR, bis]
              rw [ld (n := 20) (arS g _ T) ar_48 (by decide) (by omega), bis, st (n := 20) (arS g _ T) ar_48 (by decide) (by omega), bis, arS_s, xor2n hk, bit_nI _ (show bc z b i < 31 by omega), bit_nI _ (show opp (bc z b i) < 31 by have := opp_lt (bc z b i); omega), nI_1]
              have ly := lyR_ok hd hok hc hnb
              refine ihv (i + 1) _ T (by omega) (by omega) ly.1 ?_ ?_
              · intro x hx
                have a1 := hR x hx
                have a2 := hR _ hc
                have a3 := hR _ hc'
                have l2 := ly.2 x
                rw [arS_48] at a1 a2 a3
                rw [arS_48, arS_48, upd_i, upd_i, upd_i, arS_48]
                show _ = nI (rbG (goB (lW d) (lyR (lW d) ((layB d z b (layA d z b) i).1, (layB d z b (layA d z b) i).2) (cb d z b i) (bc z b i)).1 (lyR (lW d) ((layB d z b (layA d z b) i).1, (layB d z b (layA d z b) i).2) (cb d z b i) (bc z b i)).2 x))
                by_cases c1 : x = cb d z b (i + 1)
                · rw [if_pos c1, if_neg hne, a3, nI_or]
                  apply congrArg nI
                  rw [← c1]
                  refine rbG_or _ _ (opp_lt _) (fun j hj => ?_)
                  rw [l2 j hj, decide_eq_false (show ¬ (x = cb d z b i ∧ j = bc z b i) by omega), Bool.false_or]
                  rw [show decide (x = cb d z b (i + 1) ∧ j = opp (bc z b i)) = decide (j = opp (bc z b i)) from decide_eq_decide.mpr (by simp [c1])]
                · rw [if_neg c1]
                  by_cases c2 : x = cb d z b i
                  · rw [if_pos c2, show F (cb d z b i) = F x by rw [c2], a1, nI_or]
                    apply congrArg nI
                    refine rbG_or _ _ hk (fun j hj => ?_)
                    rw [l2 j hj, decide_eq_false (show ¬ (x = cb d z b (i + 1) ∧ j = opp (bc z b i)) by simp [c1]), Bool.or_false]
                    rw [show decide (x = cb d z b i ∧ j = bc z b i) = decide (j = bc z b i) from decide_eq_decide.mpr (by simp [c2])]
                  · rw [if_neg c2, a1]
                    apply congrArg nI
                    refine rbG_e (fun j hj => ?_)
                    rw [l2 j hj, decide_eq_false (show ¬ (x = cb d z b (i + 1) ∧ j = opp (bc z b i)) by simp [c1]), decide_eq_false (show ¬ (x = cb d z b i ∧ j = bc z b i) by simp [c2]), Bool.or_false, Bool.or_false]
              · intro x hx
                have := hT x hx
                rw [arS_49] at this ⊢
                exact this
        exact k2 eN 0 F T (by omega) (by rw [eN_eq]; omega) hok hR hT
  have z0 : ∀ (fu k : Nat) (F T : Nat → Int32), k ≤ 20 → 20 - k < fu → (∀ x, x < k → F x = 0 ∧ T x = 0) → ∃ F' T', fX11_builds_2 fu 38 a (nI k) (eE (arS g F T)) = fX11_builds_30 eN 38 a 0 (eE (arS g F' T')) ∧ ∀ x, x < 20 → F' x = 0 ∧ T' x = 0 := by
    intro fu
    induction fu with
    | zero => intro k F T h1 h2; omega
    | succ fu ih =>
      intro k F T h1 h2 hF
      rw [fX11_builds_2]
      by_cases hk : k = 20
      · subst hk
        rw [if_pos (by decide)]
        exact ⟨F, T, rfl, hF⟩
      · rw [if_neg (show ¬ (20 : Int32) ≤ nI k from nI_ge (a := k) (b := 20) (by omega) (by decide))]
        simp only [tR, bis]
        rw [st (n := 20) (arS g F T) ar_48 (by decide) (by omega), bis, arS_s]
        simp only [tR, bis]
        rw [st (n := 20) (arS g _ T) ar_49 (by decide) (by omega), bis, arS_t, nI_1, arS_48, arS_49]
        refine ih (k + 1) _ _ (by omega) (by omega) (fun x hx => ?_)
        rw [upd_i, upd_i]
        by_cases hxk : x = k
        · rw [if_pos hxk, if_pos hxk]; exact ⟨rfl, rfl⟩
        · rw [if_neg hxk, if_neg hxk]; exact hF x (by omega)
  obtain ⟨F, T, e1, e2⟩ := z0 eN 0 (g.2.1 48) (g.2.1 49) (by omega) (by rw [eN_eq]; omega) (fun x hx => absurd hx (Nat.not_lt_zero _))
  rw [arS_self, nI_0] at e1
  obtain ⟨F', T', f1, f2, f3, f4⟩ := key eN 0 F T (by omega) (by rw [eN_eq]; omega) (okRD_0 d) (fun x hx => by
    rw [arS_48, (e2 x (by omega)).1]
    have : ∀ j, goB (lW d) 0 0 x j = false := by
      intro j; unfold goB; simp
    unfold rbG
    show _ = nI (rbN (goB (lW d) 0 0 x 0) (goB (lW d) 0 0 x 1) (goB (lW d) 0 0 x 2) (goB (lW d) 0 0 x 3))
    rw [this, this, this, this]
    rfl) (fun x hx => by rw [arS_49, (e2 x (by omega)).2]; rfl)
  refine ⟨F', T', ?_, f2, f3, f4⟩
  rw [nI_0] at f1
  simp only [fX11_builds, fX11_builds_0, tO, cond_true]
  rw [e1, f1]
