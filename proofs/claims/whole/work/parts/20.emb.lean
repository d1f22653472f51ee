/-! ===== the state of the system: ints of objects, arrays, longs, laid into a world of fixed shape ===== -/
abbrev eS : Type := (Nat → Nat → Int32) × (Nat → Nat → Int32) × (Nat → Nat → Int64)
def eV (g : eS) (i k : Nat) : Value → Value
  | .int _ => .int (g.1 i k)
  | .long _ => .long (g.2.2 i k)
  | v => v
def eCe (g : eS) (i : Nat) : eC → eC
  | .inl a => .inl (a.1, a.2.1, g.2.1 i)
  | .inr o => .inr (o.1, o.2.mapIdx (fun k v => eV g i k v))
def eM (sh : eW) (g : eS) : eW := sh.mapIdx (fun i c => eCe g i c)
def eSI (g : eS) (o k : Nat) (v : Int32) : eS := (fun i j => if i = o ∧ j = k then v else g.1 i j, g.2.1, g.2.2)
def eSA (g : eS) (a : Nat) (f : Nat → Int32) : eS := (g.1, fun i => if i = a then f else g.2.1 i, g.2.2)
def eSJ (g : eS) (o k : Nat) (v : Int64) : eS := (g.1, g.2.1, fun i j => if i = o ∧ j = k then v else g.2.2 i j)
theorem eM_get (sh : eW) (g : eS) (i : Nat) : (eM sh g)[i]? = (sh[i]?).map (eCe g i) := by simp [eM, List.getElem?_mapIdx]
theorem eM_O (sh : eW) (g : eS) (o ci : Nat) : eO (eM sh g) o ci = eO sh o ci := by
  unfold eO
  rw [eM_get]
  cases h : sh[o]? with
  | none => rfl
  | some c => cases c <;> rfl
theorem eM_F (sh : eW) (g : eS) (o ci k : Nat) : eF (eM sh g) o ci k = (eF sh o ci k).map (eV g o k) := by
  unfold eF
  rw [eM_get]
  cases h : sh[o]? with
  | none => rfl
  | some c =>
    cases c with
    | inl a => rfl
    | inr q =>
      simp only [Option.map_some, eCe]
      by_cases hc : q.1 = ci
      · rw [if_pos hc, if_pos hc, List.getElem?_mapIdx]
      · rw [if_neg hc, if_neg hc]; rfl
theorem eM_GR (sh : eW) (g : eS) (o ci k : Nat) : eGR (eM sh g) o ci k = eGR sh o ci k := by
  unfold eGR
  rw [eM_F]
  cases h : eF sh o ci k with
  | none => rfl
  | some v => cases v <;> rfl
theorem eM_GI {sh : eW} (g : eS) {o ci k : Nat} (h : (eGI sh o ci k).isSome = true) : eGI (eM sh g) o ci k = some (g.1 o k) := by
  unfold eGI at h ⊢
  rw [eM_F]
  cases h2 : eF sh o ci k with
  | none => rw [h2] at h; cases h
  | some v => rw [h2] at h; cases v <;> first | rfl | cases h
theorem eM_GL {sh : eW} (g : eS) {o ci k : Nat} (h : (eGL sh o ci k).isSome = true) : eGL (eM sh g) o ci k = some (g.2.2 o k) := by
  unfold eGL at h ⊢
  rw [eM_F]
  cases h2 : eF sh o ci k with
  | none => rw [h2] at h; cases h
  | some v => rw [h2] at h; cases v <;> first | rfl | cases h
theorem eM_Len (sh : eW) (g : eS) (a : Nat) : eLen (eM sh g) a = eLen sh a := by
  unfold eLen
  rw [eM_get]
  cases h : sh[a]? with
  | none => rfl
  | some c => cases c <;> rfl
/-- an array of the shape: its kind and length -/
def eAr (sh : eW) (a : Nat) : Option (Bool × Nat) := match sh[a]? with
  | some (.inl q) => some (q.1, q.2.1)
  | _ => none
theorem eAr_at {sh : eW} {a n : Nat} {b : Bool} (h : eAr sh a = some (b, n)) : ∃ f, sh[a]? = some (.inl (b, n, f)) := by
  unfold eAr at h
  split at h
  next q hq => cases h; exact ⟨q.2.2, hq⟩
  next => cases h
theorem eM_Ld {sh : eW} (g : eS) {b : Bool} {a n : Nat} (h : eAr sh a = some (b, n)) (i : Int32) : eLd (eM sh g) b a i = if ¬ (i < 0 ∨ n ≤ i.toNatClampNeg) then some (g.2.1 a i.toNatClampNeg) else none := by
  obtain ⟨f, hf⟩ := eAr_at h
  unfold eLd
  rw [eM_get, hf]
  simp [eCe]
theorem eM_setA {sh : eW} (g : eS) {b : Bool} {a n : Nat} {f0 : Nat → Int32} (hf : sh[a]? = some (.inl (b, n, f0))) (f : Nat → Int32) : (eM sh g).set a (.inl (b, n, f)) = eM sh (eSA g a f) := by
  apply List.ext_getElem?
  intro j
  have hlt := (List.getElem?_eq_some_iff.mp hf).1
  have hl : (eM sh g).length = sh.length := by simp [eM]
  rw [List.getElem?_set, eM_get, eM_get, hl]
  by_cases hj : a = j
  · subst hj
    rw [if_pos rfl, if_pos hlt, hf]
    simp [eCe, eSA]
  · rw [if_neg hj]
    cases h2 : sh[j]? with
    | none => rfl
    | some c =>
      cases c with
      | inl q => simp [eCe, eSA, Ne.symm hj]
      | inr q => simp [eCe, eSA, eV]
theorem eM_St {sh : eW} (g : eS) {b : Bool} {a n : Nat} (h : eAr sh a = some (b, n)) (i x : Int32) : eSt (eM sh g) b a i x = if ¬ (i < 0 ∨ n ≤ i.toNatClampNeg) then some (eM sh (eSA g a (upd (g.2.1 a) i.toNatClampNeg (bif b then vp_nar .boolean x else x)))) else none := by
  obtain ⟨f, hf⟩ := eAr_at h
  unfold eSt
  rw [eM_get, hf]
  simp only [Option.map_some, eCe, true_and]
  rw [eM_setA g hf]
theorem eM_P {sh : eW} (g : eS) {o ci k : Nat} (h : (eGI sh o ci k).isSome = true) (x : Int32) : eP (eM sh g) o ci k (.int x) = some (eM sh (eSI g o k x)) := by
  obtain ⟨y, hy⟩ := Option.isSome_iff_exists.mp h
  obtain ⟨fs, h1, h2⟩ := eF_at (eGI_at hy)
  have hk := (List.getElem?_eq_some_iff.mp h2).1
  have hlt := (List.getElem?_eq_some_iff.mp h1).1
  unfold eP
  rw [eM_get, h1]
  simp only [Option.map_some, eCe, List.length_mapIdx, true_and, if_pos hk]
  congr 1
  apply List.ext_getElem?
  intro j
  have hl : (eM sh g).length = sh.length := by simp [eM]
  rw [List.getElem?_set, eM_get, eM_get, hl]
  by_cases hj : o = j
  · subst hj
    rw [if_pos rfl, if_pos hlt, h1]
    simp only [Option.map_some, eCe]
    congr 3
    apply List.ext_getElem?
    intro i
    rw [List.getElem?_set, List.getElem?_mapIdx, List.getElem?_mapIdx, List.length_mapIdx]
    by_cases hi : k = i
    · subst hi
      rw [if_pos rfl, if_pos hk, h2]
      simp [eV, eSI]
    · rw [if_neg hi]
      cases h3 : fs[i]? with
      | none => rfl
      | some v => cases v <;> simp [eV, eSI, Ne.symm hi]
  · rw [if_neg hj]
    cases h3 : sh[j]? with
    | none => rfl
    | some c =>
      cases c with
      | inl q => rfl
      | inr q =>
        simp only [Option.map_some, eCe]
        congr 3
        apply List.ext_getElem?
        intro i
        rw [List.getElem?_mapIdx, List.getElem?_mapIdx]
        cases h4 : q.2[i]? with
        | none => rfl
        | some v => cases v <;> simp [eV, eSI, Ne.symm hj]
theorem eM_PL {sh : eW} (g : eS) {o ci k : Nat} (h : (eGL sh o ci k).isSome = true) (x : Int64) : eP (eM sh g) o ci k (.long x) = some (eM sh (eSJ g o k x)) := by
  obtain ⟨y, hy⟩ := Option.isSome_iff_exists.mp h
  obtain ⟨fs, h1, h2⟩ := eF_at (eGL_at hy)
  have hk := (List.getElem?_eq_some_iff.mp h2).1
  have hlt := (List.getElem?_eq_some_iff.mp h1).1
  unfold eP
  rw [eM_get, h1]
  simp only [Option.map_some, eCe, List.length_mapIdx, true_and, if_pos hk]
  congr 1
  apply List.ext_getElem?
  intro j
  have hl : (eM sh g).length = sh.length := by simp [eM]
  rw [List.getElem?_set, eM_get, eM_get, hl]
  by_cases hj : o = j
  · subst hj
    rw [if_pos rfl, if_pos hlt, h1]
    simp only [Option.map_some, eCe]
    congr 3
    apply List.ext_getElem?
    intro i
    rw [List.getElem?_set, List.getElem?_mapIdx, List.getElem?_mapIdx, List.length_mapIdx]
    by_cases hi : k = i
    · subst hi
      rw [if_pos rfl, if_pos hk, h2]
      simp [eV, eSJ]
    · rw [if_neg hi]
      cases h3 : fs[i]? with
      | none => rfl
      | some v => cases v <;> simp [eV, eSJ, Ne.symm hi]
  · rw [if_neg hj]
    cases h3 : sh[j]? with
    | none => rfl
    | some c =>
      cases c with
      | inl q => rfl
      | inr q =>
        simp only [Option.map_some, eCe]
        congr 3
        apply List.ext_getElem?
        intro i
        rw [List.getElem?_mapIdx, List.getElem?_mapIdx]
        cases h4 : q.2[i]? with
        | none => rfl
        | some v => cases v <;> simp [eV, eSJ, Ne.symm hj]
/-! reading a state off a world -/
def ePI (w : eW) (o k : Nat) : Int32 := match w[o]? with
  | some (.inr q) => match q.2[k]? with
    | some (.int x) => x
    | _ => 0
  | _ => 0
def ePJ (w : eW) (o k : Nat) : Int64 := match w[o]? with
  | some (.inr q) => match q.2[k]? with
    | some (.long x) => x
    | _ => 0
  | _ => 0
def ePA (w : eW) (a : Nat) : Nat → Int32 := match w[a]? with
  | some (.inl q) => q.2.2
  | _ => fun _ => 0
def ePr (w : eW) : eS := (ePI w, ePA w, ePJ w)
def eLikeV : Value → Value → Bool
  | .int _, .int _ => true
  | .long _, .long _ => true
  | .ref a, .ref b => a == b
  | .null, .null => true
  | _, _ => false
def eLikeL : List Value → List Value → Bool
  | [], [] => true
  | a :: l, b :: m => eLikeV a b && eLikeL l m
  | _, _ => false
def eLikeC : eC → eC → Bool
  | .inl a, .inl b => a.1 == b.1 && a.2.1 == b.2.1
  | .inr a, .inr b => a.1 == b.1 && eLikeL a.2 b.2
  | _, _ => false
def eLike : eW → eW → Bool
  | [], [] => true
  | a :: l, b :: m => eLikeC a b && eLike l m
  | _, _ => false
theorem eLikeL_get {l m : List Value} (h : eLikeL l m = true) (k : Nat) : (l[k]? = none ∧ m[k]? = none) ∨ ∃ a b, l[k]? = some a ∧ m[k]? = some b ∧ eLikeV a b = true := by
  induction l generalizing m k with
  | nil => cases m with
    | nil => exact Or.inl ⟨rfl, rfl⟩
    | cons b m => cases h
  | cons a l ih => cases m with
    | nil => cases h
    | cons b m =>
      simp only [eLikeL, Bool.and_eq_true] at h
      cases k with
      | zero => exact Or.inr ⟨a, b, rfl, rfl, h.1⟩
      | succ k => simpa using ih h.2 k
theorem eLike_get {l m : eW} (h : eLike l m = true) (k : Nat) : (l[k]? = none ∧ m[k]? = none) ∨ ∃ a b, l[k]? = some a ∧ m[k]? = some b ∧ eLikeC a b = true := by
  induction l generalizing m k with
  | nil => cases m with
    | nil => exact Or.inl ⟨rfl, rfl⟩
    | cons b m => cases h
  | cons a l ih => cases m with
    | nil => cases h
    | cons b m =>
      simp only [eLike, Bool.and_eq_true] at h
      cases k with
      | zero => exact Or.inr ⟨a, b, rfl, rfl, h.1⟩
      | succ k => simpa using ih h.2 k
theorem eLike_M {w sh : eW} (h : eLike w sh = true) : w = eM sh (ePr w) := by
  apply List.ext_getElem?
  intro i
  rw [eM_get]
  rcases eLike_get h i with ⟨h1, h2⟩ | ⟨a, b, h1, h2, h3⟩
  · rw [h1, h2]; rfl
  · rw [h1, h2]
    cases a with
    | inl a => cases b with
      | inl b =>
        simp only [eLikeC, Bool.and_eq_true, beq_iff_eq] at h3
        obtain ⟨a1, a2, a3⟩ := a
        obtain ⟨b1, b2, b3⟩ := b
        obtain ⟨rfl, rfl⟩ := h3
        simp [eCe, ePr, ePA, h1]
      | inr b => cases h3
    | inr a => cases b with
      | inl b => cases h3
      | inr b =>
        simp only [eLikeC, Bool.and_eq_true, beq_iff_eq] at h3
        obtain ⟨a1, a2⟩ := a
        obtain ⟨b1, b2⟩ := b
        obtain ⟨rfl, h4⟩ := h3
        simp only [Option.map_some, eCe]
        congr 3
        apply List.ext_getElem?
        intro k
        rw [List.getElem?_mapIdx]
        rcases eLikeL_get h4 k with ⟨g1, g2⟩ | ⟨x, y, g1, g2, g3⟩
        · dsimp only at g1 g2; rw [g1, g2]; rfl
        · dsimp only at g1 g2
          rw [g1, g2]
          cases x <;> cases y <;> simp_all [eLikeV, eV, ePr, ePI, ePJ]
