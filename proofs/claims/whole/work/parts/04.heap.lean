/-! ===== what a world holds, as partial functions ===== -/
def eO (w : eW) (o ci : Nat) : Bool := match w[o]? with
  | some (.inr q) => q.1 == ci
  | _ => false
def eF (w : eW) (o ci k : Nat) : Option Value := match w[o]? with
  | some (.inr q) => if q.1 = ci then q.2[k]? else none
  | _ => none
def eGI (w : eW) (o ci k : Nat) : Option Int32 := match eF w o ci k with
  | some (.int x) => some x
  | _ => none
def eGR (w : eW) (o ci k : Nat) : Option Nat := match eF w o ci k with
  | some (.ref x) => some x
  | _ => none
def eGL (w : eW) (o ci k : Nat) : Option Int64 := match eF w o ci k with
  | some (.long x) => some x
  | _ => none
def eP (w : eW) (o ci k : Nat) (v : Value) : Option eW := match w[o]? with
  | some (.inr q) => if q.1 = ci ∧ k < q.2.length then some (w.set o (.inr (ci, q.2.set k v))) else none
  | _ => none
def eZ (x : Int32) : Option Int32 := if x = 0 ∨ x = 1 then some x else none
def eLen (w : eW) (a : Nat) : Option Int32 := match w[a]? with
  | some (.inl q) => some (Int32.ofNat q.2.1)
  | _ => none
def eLd (w : eW) (b : Bool) (a : Nat) (i : Int32) : Option Int32 := match w[a]? with
  | some (.inl q) => if q.1 = b ∧ ¬ (i < 0 ∨ q.2.1 ≤ i.toNatClampNeg) then some (q.2.2 i.toNatClampNeg) else none
  | _ => none
def eSt (w : eW) (b : Bool) (a : Nat) (i x : Int32) : Option eW := match w[a]? with
  | some (.inl q) => if q.1 = b ∧ ¬ (i < 0 ∨ q.2.1 ≤ i.toNatClampNeg) then some (w.set a (.inl (b, q.2.1, upd q.2.2 i.toNatClampNeg (bif b then vp_nar .boolean x else x)))) else none
  | _ => none
def eFr (n : Nat) : Value → Bool
  | .ref i => decide (i < n)
  | _ => true
def eFw (n : Nat) (w : eW) : Bool := w.all (fun c => match c with
  | .inl _ => true
  | .inr o => o.2.all (eFr n))
def eFl (n : Nat) (L : List (Nat × Value)) : Bool := L.all (fun q => eFr n q.2)
def e_sz : eC → Nat
  | .inl a => a.2.1
  | .inr o => o.2.length
def e_wsz (w : eW) : Nat := (w.map e_sz).sum
theorem eF_at {w : eW} {o ci k : Nat} {v : Value} (h : eF w o ci k = some v) : ∃ fs, w[o]? = some (.inr (ci, fs)) ∧ fs[k]? = some v := by
  unfold eF at h
  split at h
  next q hq =>
    split at h
    next hc => subst hc; exact ⟨q.2, hq, h⟩
    next => cases h
  next => cases h
theorem eGI_at {w : eW} {o ci k : Nat} {x : Int32} (h : eGI w o ci k = some x) : eF w o ci k = some (.int x) := by
  unfold eGI at h
  split at h
  next hq => cases h; exact hq
  next => cases h
theorem eGR_at {w : eW} {o ci k : Nat} {x : Nat} (h : eGR w o ci k = some x) : eF w o ci k = some (.ref x) := by
  unfold eGR at h
  split at h
  next hq => cases h; exact hq
  next => cases h
theorem eGL_at {w : eW} {o ci k : Nat} {x : Int64} (h : eGL w o ci k = some x) : eF w o ci k = some (.long x) := by
  unfold eGL at h
  split at h
  next hq => cases h; exact hq
  next => cases h
theorem eP_at {w w' : eW} {o ci k : Nat} {v : Value} (h : eP w o ci k v = some w') : ∃ fs, w[o]? = some (.inr (ci, fs)) ∧ k < fs.length ∧ w' = w.set o (.inr (ci, fs.set k v)) := by
  unfold eP at h
  split at h
  next q hq =>
    split at h
    next hc => obtain ⟨hc, hk⟩ := hc; subst hc; cases h; exact ⟨q.2, hq, hk, rfl⟩
    next => cases h
  next => cases h
theorem eO_at {w : eW} {o ci : Nat} (h : eO w o ci = true) : ∃ fs, w[o]? = some (.inr (ci, fs)) := by
  unfold eO at h
  split at h
  next q hq => have := eq_of_beq h; subst this; exact ⟨q.2, hq⟩
  next => cases h
theorem eLen_at {w : eW} {a : Nat} {x : Int32} (h : eLen w a = some x) : ∃ b n f, w[a]? = some (.inl (b, n, f)) ∧ Int32.ofNat n = x := by
  unfold eLen at h
  split at h
  next q hq => cases h; exact ⟨q.1, q.2.1, q.2.2, hq, rfl⟩
  next => cases h
theorem eLd_at {w : eW} {b : Bool} {a : Nat} {i x : Int32} (h : eLd w b a i = some x) : ∃ n f, w[a]? = some (.inl (b, n, f)) ∧ vp_in i n ∧ f i.toNatClampNeg = x := by
  unfold eLd at h
  split at h
  next q hq =>
    split at h
    next hc => obtain ⟨hc, hi⟩ := hc; subst hc; cases h; exact ⟨q.2.1, q.2.2, hq, hi, rfl⟩
    next => cases h
  next => cases h
theorem eSt_at {w w' : eW} {b : Bool} {a : Nat} {i x : Int32} (h : eSt w b a i x = some w') : ∃ n f, w[a]? = some (.inl (b, n, f)) ∧ vp_in i n ∧ w' = w.set a (.inl (b, n, upd f i.toNatClampNeg (bif b then vp_nar .boolean x else x))) := by
  unfold eSt at h
  split at h
  next q hq =>
    split at h
    next hc => obtain ⟨hc, hi⟩ := hc; subst hc; cases h; exact ⟨q.2.1, q.2.2, hq, hi, rfl⟩
    next => cases h
  next => cases h
theorem eZ_at {x v : Int32} (h : eZ x = some v) : (x = 0 ∨ x = 1) ∧ v = x := by
  unfold eZ at h
  split at h
  next hc => cases h; exact ⟨hc, rfl⟩
  next => cases h
theorem eZ_nar {x : Int32} (h : x = 0 ∨ x = 1) : narrow .boolean (.int x) = .int x ∧ fits .boolean (.int x) = true := by
  rcases h with rfl | rfl <;> exact ⟨by decide, by decide⟩
/-! ===== the class facts ===== -/
def eCl (ci : Nat) (C : String) (T : u_T) (N : Nat) (ty : Nat → FieldType) : Prop :=
  vwCl[ci]? = some (C, T, N) ∧ (∀ w ∈ u_ws C T N, w ∈ eT) ∧ (∀ k, k < N → parseFieldDescriptor (T k).2.2.1 = some (ty k)) ∧ (∀ a, a < N → ∀ b, b < N → a ≠ b → (T a).2.1 ≠ (T b).2.1)
theorem eT_in {i : Nat} {w : Cond} (h : lw_tbl[i]? = some w) (hg : goodWord w = true) : w ∈ eT := List.mem_filter.mpr ⟨List.mem_of_getElem? h, hg⟩
theorem eT_all {Ts : List Cond} {Ps : List Nat} (h : (Ts.zip Ps).all (fun q => decide (lw_tbl[q.2]? = some q.1) && goodWord q.1) = true) (hl : Ts.length ≤ Ps.length) : ∀ w ∈ Ts, w ∈ eT := by
  intro w hw
  obtain ⟨i, hi⟩ := List.getElem?_of_mem hw
  have hlt := (List.getElem?_eq_some_iff.mp hi).1
  have hz : (w, Ps[i]'(by omega)) ∈ Ts.zip Ps := by
    apply List.mem_of_getElem? (i := i)
    rw [List.getElem?_zip_eq_some]
    exact ⟨hi, List.getElem?_eq_getElem (by omega)⟩
  have := List.all_eq_true.mp h _ hz
  simp only [Bool.and_eq_true, decide_eq_true_eq] at this
  exact eT_in this.1 this.2
section EVH
variable {p : Program} {l : Launch} {e : Env} {R : Room} {s : State} {m : MethodId} {args : Array Value} {below : List Frame} {meth : Method} {c : Code} {D : va_G} {cI cZ : ClassId} {A : Nat → Prop} {H0 : Heap} {nL : Nat} {Q : State → Prop} {cells slots : Nat} {r : Nat → Nat} {pc : Nat} {L L' : List (Nat × Value)} {S : List Value} {w w' : eW}
variable {y : MethodName} {cc : ByteArray} {ret : Option FieldType} {ci : Nat} {C : String} {T : u_T} {N : Nat} {ty : Nat → FieldType}
theorem ev_get (X : eX p s m args meth c D cI cZ A H0 y cc nL ret) (hC : eCl ci C T N ty) {idx : Nat} {k : Nat} (hk : k < N) (hl : Cond.fieldLink y.cls idx (T k).1 (T k).2.1 (T k).2.2.1 ∈ eT) {o : Nat} {v : Value} (hv : eF w o ci k = some v) (hd : decode cc pc = .ok (.getfield idx, 3))
    (kk : EV p l e R s m args below meth c D cI cZ A H0 nL Q cells slots r (pc + 3) L (v :: S) w) : EV p l e R s m args below meth c D cI cZ A H0 nL Q cells slots r pc L (.ref o :: S) w := by
  intro H locs ls hP hD hS hls
  obtain ⟨fs, h1, h2⟩ := eF_at hv
  exact va_get X.1 X.2.1 X.2.2.2.2.1 hC.2.1 X.2.2.2.1 X.2.2.2.2.2.2.2.1 hP o (e_cw_at h1) hC.1 k hk (X.2.2.2.2.1 _ hl) (fun _ h => h) (by rw [List.getElem?_map, h2]; rfl) hd (kk H locs ls hP hD hS hls)
theorem ev_getI (X : eX p s m args meth c D cI cZ A H0 y cc nL ret) (hC : eCl ci C T N ty) {idx : Nat} {k : Nat} (hk : k < N) (hl : Cond.fieldLink y.cls idx (T k).1 (T k).2.1 (T k).2.2.1 ∈ eT) {o : Nat} {x : Int32} (hd : decode cc pc = .ok (.getfield idx, 3)) (hv : eGI w o ci k = some x)
    (kk : EV p l e R s m args below meth c D cI cZ A H0 nL Q cells slots r (pc + 3) L (.int x :: S) w) : EV p l e R s m args below meth c D cI cZ A H0 nL Q cells slots r pc L (.ref o :: S) w := ev_get X hC hk hl (eGI_at hv) hd kk
theorem ev_getR (X : eX p s m args meth c D cI cZ A H0 y cc nL ret) (hC : eCl ci C T N ty) {idx : Nat} {k : Nat} (hk : k < N) (hl : Cond.fieldLink y.cls idx (T k).1 (T k).2.1 (T k).2.2.1 ∈ eT) {o : Nat} {x : Nat} (hd : decode cc pc = .ok (.getfield idx, 3)) (hv : eGR w o ci k = some x)
    (kk : EV p l e R s m args below meth c D cI cZ A H0 nL Q cells slots r (pc + 3) L (.ref x :: S) w) : EV p l e R s m args below meth c D cI cZ A H0 nL Q cells slots r pc L (.ref o :: S) w := ev_get X hC hk hl (eGR_at hv) hd kk
theorem ev_getL (X : eX p s m args meth c D cI cZ A H0 y cc nL ret) (hC : eCl ci C T N ty) {idx : Nat} {k : Nat} (hk : k < N) (hl : Cond.fieldLink y.cls idx (T k).1 (T k).2.1 (T k).2.2.1 ∈ eT) {o : Nat} {x : Int64} (hd : decode cc pc = .ok (.getfield idx, 3)) (hv : eGL w o ci k = some x)
    (kk : EV p l e R s m args below meth c D cI cZ A H0 nL Q cells slots r (pc + 3) L (.long x :: S) w) : EV p l e R s m args below meth c D cI cZ A H0 nL Q cells slots r pc L (.ref o :: S) w := ev_get X hC hk hl (eGL_at hv) hd kk
theorem ev_put (X : eX p s m args meth c D cI cZ A H0 y cc nL ret) (hC : eCl ci C T N ty) {idx : Nat} {k : Nat} (hk : k < N) (hl : Cond.fieldLink y.cls idx (T k).1 (T k).2.1 (T k).2.2.1 ∈ eT) (hfin : (T k).2.2.2 = false) {o : Nat} {v : Value} (hn : narrow (ty k) (e_cv r v) = e_cv r v) (hfit : fits (ty k) (e_cv r v) = true) (hv : eP w o ci k v = some w') (hd : decode cc pc = .ok (.putfield idx, 3))
    (kk : EV p l e R s m args below meth c D cI cZ A H0 nL Q cells slots r (pc + 3) L S w') : EV p l e R s m args below meth c D cI cZ A H0 nL Q cells slots r pc L (v :: .ref o :: S) w := by
  intro H locs ls hP hD hS hls
  obtain ⟨fs, h1, h2, h3⟩ := eP_at hv
  subst h3
  have e1 : (e_cw cI cZ r w).set o (r o, .inr (ci, (fs.map (e_cv r)).set k (e_cv r v))) = e_cw cI cZ r (w.set o (.inr (ci, fs.set k v))) := by
    rw [e_cw_set]
    simp [e_cc, List.map_set]
  refine va_put X.1 X.2.1 X.2.2.2.2.1 hC.2.1 ty hC.2.2.1 hC.2.2.2 X.2.2.2.1 X.2.2.2.2.2.2.2.1 hP hD hS o (e_cw_at h1) hC.1 k hk (X.2.2.2.2.1 _ hl) (fun _ h => h) hfin (hC.2.2.1 k hk) hn hfit (by simpa using h2) hd (fun H1 locs1 hP1 hD1 hS1 => ?_)
  rw [e1] at hP1 hD1
  exact kk H1 locs1 ls hP1 hD1 hS1 hls
theorem ev_putI (X : eX p s m args meth c D cI cZ A H0 y cc nL ret) (hC : eCl ci C T N ty) {idx : Nat} {k : Nat} (hk : k < N) (hl : Cond.fieldLink y.cls idx (T k).1 (T k).2.1 (T k).2.2.1 ∈ eT) (hfin : (T k).2.2.2 = false) (ht : ty k = .int) {o : Nat} {x : Int32} (hd : decode cc pc = .ok (.putfield idx, 3)) (hv : eP w o ci k (.int x) = some w')
    (kk : EV p l e R s m args below meth c D cI cZ A H0 nL Q cells slots r (pc + 3) L S w') : EV p l e R s m args below meth c D cI cZ A H0 nL Q cells slots r pc L (.int x :: .ref o :: S) w := ev_put X hC hk hl hfin (by rw [ht]; rfl) (by rw [ht]; rfl) hv hd kk
theorem ev_putZ (X : eX p s m args meth c D cI cZ A H0 y cc nL ret) (hC : eCl ci C T N ty) {idx : Nat} {k : Nat} (hk : k < N) (hl : Cond.fieldLink y.cls idx (T k).1 (T k).2.1 (T k).2.2.1 ∈ eT) (hfin : (T k).2.2.2 = false) (ht : ty k = .boolean) {o : Nat} {x x' : Int32} (hd : decode cc pc = .ok (.putfield idx, 3)) (hz : eZ x = some x') (hv : eP w o ci k (.int x') = some w')
    (kk : EV p l e R s m args below meth c D cI cZ A H0 nL Q cells slots r (pc + 3) L S w') : EV p l e R s m args below meth c D cI cZ A H0 nL Q cells slots r pc L (.int x :: .ref o :: S) w := by
  obtain ⟨h1, rfl⟩ := eZ_at hz
  exact ev_put X hC hk hl hfin (by rw [ht]; exact (eZ_nar h1).1) (by rw [ht]; exact (eZ_nar h1).2) hv hd kk
theorem ev_putL (X : eX p s m args meth c D cI cZ A H0 y cc nL ret) (hC : eCl ci C T N ty) {idx : Nat} {k : Nat} (hk : k < N) (hl : Cond.fieldLink y.cls idx (T k).1 (T k).2.1 (T k).2.2.1 ∈ eT) (hfin : (T k).2.2.2 = false) (ht : ty k = .long) {o : Nat} {x : Int64} (hd : decode cc pc = .ok (.putfield idx, 3)) (hv : eP w o ci k (.long x) = some w')
    (kk : EV p l e R s m args below meth c D cI cZ A H0 nL Q cells slots r (pc + 3) L S w') : EV p l e R s m args below meth c D cI cZ A H0 nL Q cells slots r pc L (.long x :: .ref o :: S) w := ev_put X hC hk hl hfin (by rw [ht]; rfl) (by rw [ht]; rfl) hv hd kk
/-- a final field, in a constructor -/
theorem ev_putF (X : eX p s m args meth c D cI cZ A H0 y cc nL ret) (hC : eCl ci C T N ty) {idx : Nat} {k : Nat} (hk : k < N) (hl : Cond.fieldLink y.cls idx (T k).1 (T k).2.1 (T k).2.2.1 ∈ eT) (hfin : (T k).2.2.2 = true) (hy : y.name = "<init>") (hdecl : (T k).1 = y.cls) {o x : Nat} (hn : ∀ a : Nat, narrow (ty k) (.ref a) = .ref a ∧ fits (ty k) (.ref a) = true) (hd : decode cc pc = .ok (.putfield idx, 3)) (hv : eP w o ci k (.ref x) = some w')
    (kk : EV p l e R s m args below meth c D cI cZ A H0 nL Q cells slots r (pc + 3) L S w') : EV p l e R s m args below meth c D cI cZ A H0 nL Q cells slots r pc L (.ref x :: .ref o :: S) w := by
  intro H locs ls hP hD hS hls
  obtain ⟨fs, h1, h2, h3⟩ := eP_at hv
  subst h3
  have e1 : (e_cw cI cZ r w).set o (r o, .inr (ci, (fs.map (e_cv r)).set k (e_cv r (.ref x)))) = e_cw cI cZ r (w.set o (.inr (ci, fs.set k (.ref x)))) := by
    rw [e_cw_set]
    simp [e_cc, List.map_set]
  refine va_putF X.1 X.2.1 X.2.2.2.2.1 hC.2.1 ty hC.2.2.1 hC.2.2.2 X.2.2.2.1 X.2.2.2.2.2.2.2.1 hP hD hS o (e_cw_at h1) hC.1 k hk (X.2.2.2.2.1 _ hl) (fun _ h => h) hfin (X.2.2.2.2.2.2.2.2.2.2.trans hy) hdecl (hC.2.2.1 k hk) (hn _).1 (hn _).2 (by simpa using h2) hd (fun H1 locs1 hP1 hD1 hS1 => ?_)
  rw [e1] at hP1 hD1
  exact kk H1 locs1 ls hP1 hD1 hS1 hls
theorem ev_alen (X : eX p s m args meth c D cI cZ A H0 y cc nL ret) {a : Nat} {x : Int32} (hd : decode cc pc = .ok (.arraylength, 1)) (hv : eLen w a = some x)
    (kk : EV p l e R s m args below meth c D cI cZ A H0 nL Q cells slots r (pc + 1) L (.int x :: S) w) : EV p l e R s m args below meth c D cI cZ A H0 nL Q cells slots r pc L (.ref a :: S) w := by
  intro H locs ls hP hD hS hls
  obtain ⟨b, n, f, h1, h2⟩ := eLen_at hv
  cases b with
  | true => exact va_alen X.1 X.2.1 X.2.2.2.2.2.2.2.1 hP a 1 (e_cw_at h1) rfl h2 hd (kk H locs ls hP hD hS hls)
  | false => exact va_alen X.1 X.2.1 X.2.2.2.2.2.2.2.1 hP a 0 (e_cw_at h1) rfl h2 hd (kk H locs ls hP hD hS hls)
theorem ev_iald (X : eX p s m args meth c D cI cZ A H0 y cc nL ret) {a : Nat} {i x : Int32} (hd : decode cc pc = .ok (.iaload, 1)) (hv : eLd w false a i = some x)
    (kk : EV p l e R s m args below meth c D cI cZ A H0 nL Q cells slots r (pc + 1) L (.int x :: S) w) : EV p l e R s m args below meth c D cI cZ A H0 nL Q cells slots r pc L (.int i :: .ref a :: S) w := by
  intro H locs ls hP hD hS hls
  obtain ⟨n, f, h1, h2, h3⟩ := eLd_at hv
  subst h3
  exact va_iald X.1 X.2.1 X.2.2.2.2.2.2.2.1 hP a 0 (e_cw_at h1) rfl h2 hd (kk H locs ls hP hD hS hls)
theorem ev_zald (X : eX p s m args meth c D cI cZ A H0 y cc nL ret) {a : Nat} {i x : Int32} (hd : decode cc pc = .ok (.baload, 1)) (hv : eLd w true a i = some x)
    (kk : EV p l e R s m args below meth c D cI cZ A H0 nL Q cells slots r (pc + 1) L (.int x :: S) w) : EV p l e R s m args below meth c D cI cZ A H0 nL Q cells slots r pc L (.int i :: .ref a :: S) w := by
  intro H locs ls hP hD hS hls
  obtain ⟨n, f, h1, h2, h3⟩ := eLd_at hv
  subst h3
  exact va_zald X.1 X.2.1 X.2.2.2.2.2.2.2.1 hP a 1 (e_cw_at h1) rfl h2 hd (kk H locs ls hP hD hS hls)
theorem ev_iast (X : eX p s m args meth c D cI cZ A H0 y cc nL ret) {a : Nat} {i x : Int32} (hd : decode cc pc = .ok (.iastore, 1)) (hv : eSt w false a i x = some w')
    (kk : EV p l e R s m args below meth c D cI cZ A H0 nL Q cells slots r (pc + 1) L S w') : EV p l e R s m args below meth c D cI cZ A H0 nL Q cells slots r pc L (.int x :: .int i :: .ref a :: S) w := by
  intro H locs ls hP hD hS hls
  obtain ⟨n, f, h1, h2, h3⟩ := eSt_at hv
  subst h3
  refine va_iast X.1 X.2.1 X.2.2.2.2.2.2.2.1 hP hD hS a 0 (e_cw_at h1) rfl h2 hd (fun H1 locs1 hP1 hD1 hS1 => ?_)
  refine kk H1 locs1 ls ?_ ?_ hS1 hls
  · rw [e_cw_set]; exact hP1
  · rw [e_cw_set]; exact hD1
theorem ev_zast (X : eX p s m args meth c D cI cZ A H0 y cc nL ret) {a : Nat} {i x : Int32} (hd : decode cc pc = .ok (.bastore, 1)) (hv : eSt w true a i x = some w')
    (kk : EV p l e R s m args below meth c D cI cZ A H0 nL Q cells slots r (pc + 1) L S w') : EV p l e R s m args below meth c D cI cZ A H0 nL Q cells slots r pc L (.int x :: .int i :: .ref a :: S) w := by
  intro H locs ls hP hD hS hls
  obtain ⟨n, f, h1, h2, h3⟩ := eSt_at hv
  subst h3
  refine va_zast X.1 X.2.1 X.2.2.2.2.2.2.2.1 hP hD hS a 1 (e_cw_at h1) rfl h2 hd (fun H1 locs1 hP1 hD1 hS1 => ?_)
  refine kk H1 locs1 ls ?_ ?_ hS1 hls
  · rw [e_cw_set]; exact hP1
  · rw [e_cw_set]; exact hD1
end EVH
/-- a method's words, apart from what its call links -/
def eMw (y : MethodName) (cc : ByteArray) (nL : Nat) (ret : Option FieldType) (n : Nat) : Prop :=
  Cond.code y cc nL ret ∈ eT ∧ Cond.initialized y.cls ∈ eT ∧ y.cls ≠ "java/lang/invoke/MethodHandle" ∧ y.cls ≠ "java/lang/invoke/VarHandle" ∧ (parseMethodDescriptor y.desc).map (fun d => d.parameters.length) = some n
