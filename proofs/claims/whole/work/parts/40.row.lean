/-! ===== over states: small rows, Row, Land ===== -/
theorem b2s {α β : Type} (a : α) (w : eW) (f : α → eW → Option β) : eBind2 (some (a, w)) f = f a w := by rw [eBind2, Option.bind_some]
theorem bis {α β : Type} (a : α) (f : α → Option β) : (some a).bind f = f a := by rw [Option.bind_some]
theorem eSI_r (g : eS) (o k : Nat) (v : Int32) (i j : Nat) : (eSI g o k v).1 i j = if i = o ∧ j = k then v else g.1 i j := by rw [eSI]
theorem eSI_A (g : eS) (o k : Nat) (v : Int32) : (eSI g o k v).2.1 = g.2.1 := by rw [eSI]
theorem eSI_J (g : eS) (o k : Nat) (v : Int32) : (eSI g o k v).2.2 = g.2.2 := by rw [eSI]
theorem eSA_r (g : eS) (a : Nat) (f : Nat → Int32) (i : Nat) : (eSA g a f).2.1 i = if i = a then f else g.2.1 i := by rw [eSA]
theorem eSA_I (g : eS) (a : Nat) (f : Nat → Int32) : (eSA g a f).1 = g.1 := by rw [eSA]
theorem eSA_J (g : eS) (a : Nat) (f : Nat → Int32) : (eSA g a f).2.2 = g.2.2 := by rw [eSA]
theorem eSJ_r (g : eS) (o k : Nat) (v : Int64) (i j : Nat) : (eSJ g o k v).2.2 i j = if i = o ∧ j = k then v else g.2.2 i j := by rw [eSJ]
theorem eSJ_I (g : eS) (o k : Nat) (v : Int64) : (eSJ g o k v).1 = g.1 := by rw [eSJ]
theorem eSJ_A (g : eS) (o k : Nat) (v : Int64) : (eSJ g o k v).2.1 = g.2.1 := by rw [eSJ]
theorem eSA_same (g : eS) (a : Nat) (f f' : Nat → Int32) : eSA (eSA g a f) a f' = eSA g a f' := by
  unfold eSA
  congr 2
  funext i
  by_cases h : i = a <;> simp [h]
theorem eSA_self (g : eS) (a : Nat) : eSA g a (g.2.1 a) = g := by
  unfold eSA
  obtain ⟨g1, g2, g3⟩ := g
  congr 2
  funext i
  by_cases h : i = a <;> simp [h]
theorem eSI_same (g : eS) (o k : Nat) (v v' : Int32) : eSI (eSI g o k v) o k v' = eSI g o k v' := by
  unfold eSI
  congr 1
  funext i j
  by_cases h : i = o ∧ j = k <;> simp [h]
theorem nI_inR {i n : Nat} (h : i < n) (hn : n < 2 ^ 31) : ¬ (nI i < 0 ∨ n ≤ (nI i).toNatClampNeg) := nI_in h hn
theorem nI_cl {n : Nat} (h : n < 2 ^ 31) : (nI n).toNatClampNeg = n := nI_clamp h
theorem eN_eq : eN = 1024 := rfl
def RowOf (o a n : Nat) : Prop := eO sh0 o 7 = true ∧ eGR sh0 o 7 0 = some a ∧ eAr sh0 a = some (false, n) ∧ n < 1000
theorem row_len {o a n : Nat} (h : RowOf o a n) (g : eS) : eLen (eE g) a = some (nI n) := by
  unfold eE
  rw [eM_Len]
  obtain ⟨f, hf⟩ := eAr_at h.2.2.1
  unfold eLen
  rw [hf]
  rfl
theorem row_getN {o a n : Nat} (h : RowOf o a n) (g : eS) {i : Nat} (hi : i < n) : fX7_get o (nI i) (eE g) = some (g.2.1 a i, eE g) := by
  have hn := h.2.2.2
  have e1 : eO (eE g) o 7 = true := (eM_O _ _ _ _).trans h.1
  have e2 : eGR (eE g) o 7 0 = some a := (eM_GR _ _ _ _ _).trans h.2.1
  have e3 : eLd (eE g) false a (nI i) = some (g.2.1 a i) := by
    unfold eE
    rw [eM_Ld g h.2.2.1, if_pos (nI_inR hi (by omega)), nI_cl (by omega)]
  rw [fX7_get, e1, cond_true, fX7_get_0, if_neg (nI_pos (by omega)), e2, bis, row_len h, bis, if_neg (nI_ge hi (by omega)), bis, e3, bis]
theorem row_putN {o a n : Nat} (h : RowOf o a n) (g : eS) {i : Nat} (hi : i < n) (x : Int32) : fX7_put o (nI i) x (eE g) = some (eE (eSA g a (upd (g.2.1 a) i x))) := by
  have hn := h.2.2.2
  have e1 : eO (eE g) o 7 = true := (eM_O _ _ _ _).trans h.1
  have e2 : eGR (eE g) o 7 0 = some a := (eM_GR _ _ _ _ _).trans h.2.1
  have e3 : eSt (eE g) false a (nI i) x = some (eE (eSA g a (upd (g.2.1 a) i x))) := by
    unfold eE
    rw [eM_St g h.2.2.1, if_pos (nI_inR hi (by omega)), nI_cl (by omega)]
    rfl
  rw [fX7_put, e1, cond_true, fX7_put_0, if_neg (nI_pos (by omega)), e2, bis, row_len h, bis, if_neg (nI_ge hi (by omega)), bis, e3, bis]
theorem row_fill_loop {o a n : Nat} (h : RowOf o a n) (x : Int32) : ∀ (k fu : Nat) (g : eS), k ≤ n → n - k < fu → (∀ j, j < k → g.2.1 a j = x) → ∃ f, fX7_fill_2 fu o x (nI k) (eE g) = some (eE (eSA g a f)) ∧ (∀ j, j < n → f j = x) ∧ (∀ j, n ≤ j → f j = g.2.1 a j) := by
  intro k fu
  have hn := h.2.2.2
  induction fu generalizing k with
  | zero => intro g h1 h2; omega
  | succ fu ih =>
    intro g h1 h2 h3
    have e2 : eGR (eE g) o 7 0 = some a := (eM_GR _ _ _ _ _).trans h.2.1
    rw [fX7_fill_2, e2, bis, row_len h, bis]
    by_cases hk : k = n
    · subst hk
      rw [if_pos (nI_le (Nat.le_refl _) (by omega))]
      exact ⟨g.2.1 a, by rw [eSA_self], h3, fun _ _ => rfl⟩
    · have hlt : k < n := by omega
      have e3 : eSt (eE g) false a (nI k) x = some (eE (eSA g a (upd (g.2.1 a) k x))) := by
        unfold eE
        rw [eM_St g h.2.2.1, if_pos (nI_inR hlt (by omega)), nI_cl (by omega)]
        rfl
      rw [if_neg (nI_ge hlt (by omega)), bis, e3, bis, nI_1]
      obtain ⟨f, f1, f2, f3⟩ := ih (k + 1) (eSA g a (upd (g.2.1 a) k x)) (by omega) (by omega) (fun j hj => by
        simp only [eSA_r, if_true]
        by_cases hjk : j = k
        · subst hjk; exact pk_us
        · rw [pk_un hjk]; exact h3 j (by omega))
      refine ⟨f, by rw [f1, eSA_same], f2, fun j hj => ?_⟩
      rw [f3 j hj]
      simp only [eSA_r, if_true]
      exact pk_un (by omega)
theorem row_fill {o a n : Nat} (h : RowOf o a n) (x : Int32) (g : eS) : ∃ f, fX7_fill o x (eE g) = some (eE (eSA g a f)) ∧ (∀ j, j < n → f j = x) ∧ (∀ j, n ≤ j → f j = g.2.1 a j) := by
  have e1 : eO (eE g) o 7 = true := (eM_O _ _ _ _).trans h.1
  have hn := h.2.2.2
  rw [fX7_fill, e1, cond_true, fX7_fill_0]
  exact row_fill_loop h x 0 eN g (by omega) (by rw [eN_eq]; omega) (fun j hj => by omega)
theorem r2 : RowOf 2 3 20 := ⟨rfl, rfl, rfl, by decide⟩
theorem r4 : RowOf 4 5 4 := ⟨rfl, rfl, rfl, by decide⟩
theorem r7 : RowOf 7 8 200 := ⟨rfl, rfl, rfl, by decide⟩
theorem r10 : RowOf 10 11 20 := ⟨rfl, rfl, rfl, by decide⟩
theorem r12 : RowOf 12 13 4 := ⟨rfl, rfl, rfl, by decide⟩
theorem r15 : RowOf 15 16 57 := ⟨rfl, rfl, rfl, by decide⟩
theorem r18 : RowOf 18 19 570 := ⟨rfl, rfl, rfl, by decide⟩
theorem r20 : RowOf 20 21 114 := ⟨rfl, rfl, rfl, by decide⟩
theorem r24 : RowOf 24 25 20 := ⟨rfl, rfl, rfl, by decide⟩
theorem r27 : RowOf 27 28 320 := ⟨rfl, rfl, rfl, by decide⟩
theorem r31 : RowOf 31 32 7 := ⟨rfl, rfl, rfl, by decide⟩
theorem r34 : RowOf 34 35 57 := ⟨rfl, rfl, rfl, by decide⟩
/-! Math -/
theorem m_max (x v : Int32) (w : eW) : fJ9_max_7cf53 x v w = some (if x < v then v else x, w) := by
  rw [fJ9_max_7cf53, fJ9_max_7cf53_0]; split <;> rfl
theorem m_min (x v : Int32) (w : eW) : fJ9_min_7cf53 x v w = some (if v < x then v else x, w) := by
  rw [fJ9_min_7cf53, fJ9_min_7cf53_0]; split <;> rfl
theorem m_abs (x : Int32) (w : eW) : fJ9_abs_0f7a4 x w = some (if 0 ≤ x then x else -x, w) := by
  rw [fJ9_abs_0f7a4, fJ9_abs_0f7a4_0]; split <;> rfl
theorem m_bit (x : Int32) (w : eW) : fX10_bit x w = some ((1 : Int32) <<< (x &&& 31), w) := by rw [fX10_bit, fX10_bit_0]
