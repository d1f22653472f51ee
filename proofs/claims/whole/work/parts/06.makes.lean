/-! ===== methods that make cells: constructors ===== -/
theorem e_cv_ag {r r1 : Nat → Nat} {n : Nat} (h : ∀ i, i < n → r1 i = r i) {v : Value} (hv : eFr n v = true) : e_cv r1 v = e_cv r v := by
  cases v with
  | ref i => simp [eFr] at hv; simp [e_cv, h i hv]
  | _ => rfl
theorem e_S_ag {r r1 : Nat → Nat} {n : Nat} (h : ∀ i, i < n → r1 i = r i) {S : List Value} (hv : S.all (eFr n) = true) : S.map (e_cv r1) = S.map (e_cv r) := by
  apply List.map_congr_left
  intro v hm
  exact e_cv_ag h (List.all_eq_true.mp hv v hm)
theorem e_L_ag {r r1 : Nat → Nat} {n : Nat} (h : ∀ i, i < n → r1 i = r i) {L : List (Nat × Value)} (hv : eFl n L = true) : e_L r1 L = e_L r L := by
  unfold e_L
  apply List.map_congr_left
  intro q hm
  rw [e_cv_ag h (List.all_eq_true.mp hv q hm)]
theorem e_w_ag {cI cZ : ClassId} {r r1 : Nat → Nat} {w : eW} (h : ∀ i, i < w.length → r1 i = r i) (hv : eFw w.length w = true) : e_cw cI cZ r1 w = e_cw cI cZ r w := by
  apply List.ext_getElem?
  intro j
  rw [e_cw_get, e_cw_get]
  cases hj : w[j]? with
  | none => rfl
  | some c =>
    have hlt := (List.getElem?_eq_some_iff.mp hj).1
    have hc := List.all_eq_true.mp hv c (List.mem_of_getElem? hj)
    simp only [Option.map_some, h j hlt]
    cases c with
    | inl a => rfl
    | inr o =>
      simp only [e_cc]
      rw [e_S_ag h hc]
theorem e_cw_app (cI cZ : ClassId) (r : Nat → Nat) (w : eW) (c : eC) : e_cw cI cZ r (w ++ [c]) = e_cw cI cZ r w ++ [(r w.length, e_cc cI cZ r c)] := by
  simp [e_cw, List.mapIdx_append]
section EVN
variable {p : Program} {l : Launch} {e : Env} {R : Room} {s : State} {m : MethodId} {args : Array Value} {below : List Frame} {meth : Method} {c : Code} {D : va_G} {cI cZ : ClassId} {A : Nat → Prop} {H0 : Heap} {nL : Nat} {Q : State → Prop} {cells slots : Nat} {r : Nat → Nat} {pc : Nat} {L L' : List (Nat × Value)} {S : List Value} {w w' : eW}
variable {y : MethodName} {cc : ByteArray} {ret : Option FieldType} {ci : Nat} {C : String} {T : u_T} {N : Nat} {ty : Nat → FieldType}
theorem e_upag (q : Nat) : ∀ i, i < w.length → va_up r w.length q i = r i := fun i hi => by simp [va_up, Nat.ne_of_lt hi]
theorem e_grow {H : Heap} {q : Nat} {ce : eC} {ls : Array Slot} (hf : eFw w.length w = true) (hL : eFl w.length L = true)
    (hP : va_P D vwCl (e_cw cI cZ r w ++ [(q, e_cc cI cZ (va_up r w.length q) ce)]) H) (hD : va_D A (e_cw cI cZ r w ++ [(q, e_cc cI cZ (va_up r w.length q) ce)])) (hls : lv_has ls nL (e_L r L)) :
    va_P D vwCl (e_cw cI cZ (va_up r w.length q) (w ++ [ce])) H ∧ va_D A (e_cw cI cZ (va_up r w.length q) (w ++ [ce])) ∧ lv_has ls nL (e_L (va_up r w.length q) L) := by
  have e1 : e_cw cI cZ (va_up r w.length q) (w ++ [ce]) = e_cw cI cZ r w ++ [(q, e_cc cI cZ (va_up r w.length q) ce)] := by
    rw [e_cw_app, e_w_ag (e_upag q) hf]
    simp [va_up]
  rw [e1, e_L_ag (e_upag q) hL]
  exact ⟨hP, hD, hls⟩
theorem ev_new (X : eX p s m args meth c D cI cZ A H0 y cc nL ret) (hC : eCl ci C T N ty) {idx : Nat} (hcl : Cond.classLink y.cls idx C ∈ eT) (hin : Cond.instantiable C N ∈ eT) (hini : Cond.initialized C ∈ eT) {fs : List Value} (hfs : ∀ r : Nat → Nat, fs.map (e_cv r) = fs) (hdef : ∀ j, j < N → defaultValue (ty j) = vp_V fs j)
    (hf : eFw w.length w = true) (hL : eFl w.length L = true) (hS : S.all (eFr w.length) = true) (hc : cells + 1 ≤ R.cells) (hs : slots + N ≤ R.slots) (hd : decode cc pc = .ok (.new idx, 3))
    (kk : ∀ r' : Nat → Nat, (∀ i, i < w.length → r' i = r i) → EV p l e R s m args below meth c D cI cZ A H0 nL Q (cells + 1) (slots + N) r' (pc + 3) L (.ref w.length :: S) (w ++ [.inr (ci, fs)])) : EV p l e R s m args below meth c D cI cZ A H0 nL Q cells slots r pc L S w := by
  intro H locs ls hP hD hSv hls
  refine va_new X.1 X.2.1 X.2.2.2.2.1 hC.2.1 ty hC.2.2.1 X.2.2.2.1 (X.2.2.2.2.1 _ hcl) (X.2.2.2.2.1 _ hin) (X.2.2.2.2.1 _ hini) X.2.2.2.2.2.2.2.1 hP hD hSv X.2.2.2.2.2.2.2.2.2.1 hC.1 hdef hc hs hd (fun q H1 hP1 hD1 hS1 => ?_)
  have e2 : e_cc cI cZ (va_up r w.length q) (.inr (ci, fs)) = .inr (ci, fs) := by simp only [e_cc, hfs]
  obtain ⟨g1, g2, g3⟩ := e_grow (ce := .inr (ci, fs)) hf hL (by rw [e2]; exact hP1) (by rw [e2]; exact hD1) hls
  have := kk (va_up r w.length q) (e_upag q) H1 locs ls g1 g2 hS1 g3
  rw [List.map_cons, e_S_ag (e_upag q) hS] at this
  simpa [e_cv, va_up] using this
theorem ev_newa (X : eX p s m args meth c D cI cZ A H0 y cc nL ret) (har : Cond.arrayClass .int ∈ eT) {n : Int32} {N' : Nat} (hn : ¬ n < 0) (hN : n.toNatClampNeg = N') (hb : N' ≤ 100000)
    (hf : eFw w.length w = true) (hL : eFl w.length L = true) (hS : S.all (eFr w.length) = true) (hc : cells + 1 ≤ R.cells) (hs : slots + N' ≤ R.slots) (hd : decode cc pc = .ok (.newarray .int, 2))
    (kk : ∀ r' : Nat → Nat, (∀ i, i < w.length → r' i = r i) → EV p l e R s m args below meth c D cI cZ A H0 nL Q (cells + 1) (slots + N') r' (pc + 2) L (.ref w.length :: S) (w ++ [.inl (false, N', fun _ => 0)])) : EV p l e R s m args below meth c D cI cZ A H0 nL Q cells slots r pc L (.int n :: S) w := by
  intro H locs ls hP hD hSv hls
  refine va_newa (atype := .int) (ty := .int) (a0 := (N', .inl (fun _ => 0))) X.1 X.2.1 (X.2.2.2.2.1 _ har) rfl X.2.2.2.2.2.2.2.1 hP hD hSv X.2.2.2.2.2.2.2.2.2.1 (fun cA => rfl) hn hN (by show N' * 4 ≤ _; omega) hc hs hd (fun q cA H1 hK1 hP1 hD1 hS1 => ?_)
  have hcA : cA = cI := by
    have h1 := (hK1.2 2 (cA, .int) rfl).2
    have h2 := (hK1.2 0 (cI, .int) rfl).2
    exact Option.some.inj (h1.symm.trans h2)
  subst hcA
  obtain ⟨g1, g2, g3⟩ := e_grow (ce := .inl (false, N', fun _ => 0)) hf hL hP1 hD1 hls
  have := kk (va_up r w.length q) (e_upag q) H1 locs ls g1 g2 hS1 g3
  rw [List.map_cons, e_S_ag (e_upag q) hS] at this
  simpa [e_cv, va_up] using this
theorem ev_newz (X : eX p s m args meth c D cI cZ A H0 y cc nL ret) (har : Cond.arrayClass .boolean ∈ eT) {n : Int32} {N' : Nat} (hn : ¬ n < 0) (hN : n.toNatClampNeg = N') (hb : N' ≤ 100000)
    (hf : eFw w.length w = true) (hL : eFl w.length L = true) (hS : S.all (eFr w.length) = true) (hc : cells + 1 ≤ R.cells) (hs : slots + N' ≤ R.slots) (hd : decode cc pc = .ok (.newarray .boolean, 2))
    (kk : ∀ r' : Nat → Nat, (∀ i, i < w.length → r' i = r i) → EV p l e R s m args below meth c D cI cZ A H0 nL Q (cells + 1) (slots + N') r' (pc + 2) L (.ref w.length :: S) (w ++ [.inl (true, N', fun _ => 0)])) : EV p l e R s m args below meth c D cI cZ A H0 nL Q cells slots r pc L (.int n :: S) w := by
  intro H locs ls hP hD hSv hls
  refine va_newa (atype := .boolean) (ty := .boolean) (a0 := (N', .inl (fun _ => 0))) X.1 X.2.1 (X.2.2.2.2.1 _ har) rfl X.2.2.2.2.2.2.2.1 hP hD hSv X.2.2.2.2.2.2.2.2.2.1 (fun cA => rfl) hn hN (by show N' * 1 ≤ _; omega) hc hs hd (fun q cA H1 hK1 hP1 hD1 hS1 => ?_)
  have hcA : cA = cZ := by
    have h1 := (hK1.2 2 (cA, .boolean) rfl).2
    have h2 := (hK1.2 1 (cZ, .boolean) rfl).2
    exact Option.some.inj (h1.symm.trans h2)
  subst hcA
  obtain ⟨g1, g2, g3⟩ := e_grow (ce := .inl (true, N', fun _ => 0)) hf hL hP1 hD1 hls
  have := kk (va_up r w.length q) (e_upag q) H1 locs ls g1 g2 hS1 g3
  rw [List.map_cons, e_S_ag (e_upag q) hS] at this
  simpa [e_cv, va_up] using this
end EVN
def eQA (D : va_G) (cI cZ : ClassId) (r0 : Nat → Nat) (n0 : Nat) (A : Nat → Prop) (w' : eW) : Array Value → State → Outcome → State → Prop :=
  fun _ st oc t => oc = .returned none ∧ ∃ r' : Nat → Nat, (∀ i, i < n0 → r' i = r0 i) ∧ va_P D vwCl (e_cw cI cZ r' w') t.heap ∧ va_D A (e_cw cI cZ r' w') ∧ va_F A st t
/-- a constructor that makes cells -/
def eMA (l : Launch) (D : va_G) (cI cZ : ClassId) (d : Nat) (y : MethodName) (cc : ByteArray) (nL : Nat) (As : List Value) (w w' : eW) : Prop :=
  (w.length ≤ w'.length ∧ e_wsz w ≤ e_wsz w') ∧ ∀ (r : Nat → Nat) (sz : Nat), Met l y (eWs y cc nL none) (eRm d (w'.length - w.length) (e_wsz w' - e_wsz w)) (va_Pc (As.map (e_cv r)) (eB D cI cZ r w sz)) (eQA D cI cZ r w.length (va_A (e_cw cI cZ r w) sz) w') (w'.length - w.length) (e_wsz w' - e_wsz w) (va_A (e_cw cI cZ r w) sz)
section EVM
variable {p : Program} {l : Launch} {e : Env} {R : Room} {s : State} {m : MethodId} {args : Array Value} {below : List Frame} {meth : Method} {c : Code} {D : va_G} {cI cZ : ClassId} {A : Nat → Prop} {H0 : Heap} {nL : Nat} {Q : State → Prop} {cells slots : Nat} {r : Nat → Nat} {pc : Nat} {L L' : List (Nat × Value)} {S : List Value} {w w' : eW}
variable {y : MethodName} {cc : ByteArray} {ret : Option FieldType}
theorem ev_runA (X : eX p s m args meth c D cI cZ A H0 y cc nL ret) {As : List Value} {mc ms : Nat} (hL : eFl w.length L = true) (hSf : S.all (eFr w.length) = true)
    (hr : ∀ (H : Heap) (locs : List Loc) (ls : Array Slot), va_P D vwCl (e_cw cI cZ r w) H → va_D A (e_cw cI cZ r w) → lv_has ls nL (e_L r L) → va_Run p l e R s m args below meth c H locs cells slots mc ms (F0 m pc ls ((As.reverse ++ S).map (e_cv r))) (S.map (e_cv r)) (eQA D cI cZ r w.length (va_A (e_cw cI cZ r w) H.size) w' (As.map (e_cv r)).toArray) (va_A (e_cw cI cZ r w) H.size))
    (k : ∀ r' : Nat → Nat, (∀ i, i < w.length → r' i = r i) → EV p l e R s m args below meth c D cI cZ A H0 nL Q (cells + mc) (slots + ms) r' (pc + 3) L S w') : EV p l e R s m args below meth c D cI cZ A H0 nL Q cells slots r pc L (As.reverse ++ S) w := by
  intro H locs ls hP hD hS hl T hT X0
  obtain ⟨v1, st0, t, T', L2, h0, X', hL2, e1, e2, ⟨hv, r', hag, hP', hD', hz, hk⟩, st⟩ := hr H locs ls hP hD hl T hT X0
  have hF := e_free hD hS X.2.2.2.2.2.2.2.2.2.1
  cases hv
  rw [h0] at hz hk
  obtain ⟨t2, a1, b1⟩ := k r' hag T'.heap (locs ++ L2) ls (by rw [e1]; exact hP') (hD'.weaken (fun k q _ h => hF q.1 h))
    ⟨Nat.le_trans hS.1 (by rw [e1]; exact hz), fun q h1 h2 => by rw [e1, hk q (Nat.lt_of_lt_of_le h1 hS.1) (fun z => h2 (hF q z))]; exact hS.2.1 q h1 h2, fun q hq => by
      rcases List.mem_append.mp hq with h | h
      · exact hS.2.2 q h
      · exact hF _ (hL2 q h)⟩ (by rw [e_L_ag hag hL]; exact hl) T' rfl X'
  refine ⟨t2, st t2 ?_, b1⟩
  rw [e_S_ag hag hSf] at a1
  exact a1
theorem ev_callA (X : eX p s m args meth c D cI cZ A H0 y cc nL ret) {y1 : MethodName} {cc1 : ByteArray} {nL1 n1 d1 idx o : Nat} (hw : eMw y1 cc1 nL1 none n1) (hl : Cond.methodLink y.cls idx y1 ∈ eT) (hin : Cond.instanceMethod y1 ∈ eT) (hy : y1.name = "<init>") (hR : d1 + 1 ≤ R.frames ∧ 8 + (nL1 + 11) + 34 * d1 ≤ R.locals)
    {As : List Value} (hn : As.length = n1) (hS8 : (S.map fun v => v.category).sum ≤ 8) (hd : decode cc pc = .ok (.invokespecial idx, 3)) (hM : eMA l D cI cZ d1 y1 cc1 nL1 (.ref o :: As) w w') (hf : cells + (w'.length - w.length) ≤ R.cells ∧ slots + (e_wsz w' - e_wsz w) ≤ R.slots) (hL : eFl w.length L = true) (hSf : S.all (eFr w.length) = true)
    (k : ∀ r' : Nat → Nat, (∀ i, i < w.length → r' i = r i) → EV p l e R s m args below meth c D cI cZ A H0 nL Q (cells + (w'.length - w.length)) (slots + (e_wsz w' - e_wsz w)) r' (pc + 3) L S w') : EV p l e R s m args below meth c D cI cZ A H0 nL Q cells slots r pc L (As.reverse ++ .ref o :: S) w := by
  have e0 : As.reverse ++ .ref o :: S = (Value.ref o :: As).reverse ++ S := by simp
  rw [e0]
  refine ev_runA X hL hSf (fun H locs ls hP hD hl2 => ?_) k
  exact va_runI (As := As.map (e_cv r)) (b := r o) (rest := S.map (e_cv r)) ⟨X.1, X.2.1, X.2.2.1, X.2.2.2.1, X.2.2.2.2.1⟩ (hM.2 r H.size) ⟨e_callB X hw hl hR, hy, X.2.2.2.2.1 _ hin⟩ (e_pre X hP hD _) rfl (by simpa using hn) hl2.1 (by simp [e_cv]) (lv_room (by rw [e_sum]; exact hS8)) hd hf
theorem ev_callAN (X : eX p s m args meth c D cI cZ A H0 y cc nL ret) {y1 : MethodName} {cc1 : ByteArray} {nL1 n1 d1 idx o : Nat} {host : String} (hw : eMw y1 cc1 nL1 none n1) (hl : Cond.methodLinkNest y.cls idx y1 host ∈ eNw) (hin : Cond.instanceMethod y1 ∈ eT) (hy : y1.name = "<init>") (hR : d1 + 1 ≤ R.frames ∧ 8 + (nL1 + 11) + 34 * d1 ≤ R.locals)
    {As : List Value} (hn : As.length = n1) (hS8 : (S.map fun v => v.category).sum ≤ 8) (hd : decode cc pc = .ok (.invokespecial idx, 3)) (hM : eMA l D cI cZ d1 y1 cc1 nL1 (.ref o :: As) w w') (hf : cells + (w'.length - w.length) ≤ R.cells ∧ slots + (e_wsz w' - e_wsz w) ≤ R.slots) (hL : eFl w.length L = true) (hSf : S.all (eFr w.length) = true)
    (k : ∀ r' : Nat → Nat, (∀ i, i < w.length → r' i = r i) → EV p l e R s m args below meth c D cI cZ A H0 nL Q (cells + (w'.length - w.length)) (slots + (e_wsz w' - e_wsz w)) r' (pc + 3) L S w') : EV p l e R s m args below meth c D cI cZ A H0 nL Q cells slots r pc L (As.reverse ++ .ref o :: S) w := by
  have e0 : As.reverse ++ .ref o :: S = (Value.ref o :: As).reverse ++ S := by simp
  rw [e0]
  refine ev_runA X hL hSf (fun H locs ls hP hD hl2 => ?_) k
  exact va_runIN (As := As.map (e_cv r)) (b := r o) (rest := S.map (e_cv r)) ⟨X.1, X.2.1, X.2.2.1, X.2.2.2.1, X.2.2.2.2.1⟩ (hM.2 r H.size) ⟨e_callN X hw hl hR, hy, X.2.2.2.2.1 _ hin⟩ (e_pre X hP hD _) rfl (by simpa using hn) hl2.1 (by simp [e_cv]) (lv_room (by rw [e_sum]; exact hS8)) hd hf
end EVM
/-- a stretch of a constructor -/
def eBA (l : Launch) (D : va_G) (cI cZ : ClassId) (d : Nat) (y : MethodName) (cc : ByteArray) (nL : Nat) (pc : Nat) (L : List (Nat × Value)) (S : List Value) (w w' : eW) : Prop :=
  (w.length ≤ w'.length ∧ e_wsz w ≤ e_wsz w') ∧ ∀ (p : Program) (e : Env) (s : State) (m : MethodId) (args : Array Value) (below : List Frame) (meth : Method) (c : Code) (r0 r : Nat → Nat) (A : Nat → Prop) (n0 z0 : Nat), eX p s m args meth c D cI cZ A s.heap y cc nL none → n0 ≤ w.length → z0 ≤ e_wsz w → (∀ i, i < n0 → r i = r0 i) →
    EV p l e (eRm d (w'.length - n0) (e_wsz w' - z0)) s m args below meth c D cI cZ A s.heap nL (MQ below (eQA D cI cZ r0 n0 A w') args s (w'.length - n0) (e_wsz w' - z0) A) (w.length - n0) (e_wsz w - z0) r pc L S w
section EVB
variable {l : Launch} {D : va_G} {cI cZ : ClassId} {d : Nat} {y : MethodName} {cc : ByteArray} {nL : Nat} {pc pc1 : Nat} {L L1 : List (Nat × Value)} {S S1 : List Value} {w w1 w' : eW}
theorem eBA_lift (hw : w1.length = w.length ∧ e_wsz w1 = e_wsz w) (step : ∀ (p : Program) (e : Env) (mc ms : Nat) (s : State) (m : MethodId) (args : Array Value) (below : List Frame) (meth : Method) (c : Code) (A : Nat → Prop) (Q : State → Prop) (cells slots : Nat) (r : Nat → Nat), cells ≤ mc ∧ slots ≤ ms → eX p s m args meth c D cI cZ A s.heap y cc nL none → EV p l e (eRm d mc ms) s m args below meth c D cI cZ A s.heap nL Q cells slots r pc1 L1 S1 w1 → EV p l e (eRm d mc ms) s m args below meth c D cI cZ A s.heap nL Q cells slots r pc L S w)
    (k : eBA l D cI cZ d y cc nL pc1 L1 S1 w1 w') : eBA l D cI cZ d y cc nL pc L S w w' := by
  obtain ⟨⟨k1, k2⟩, k3⟩ := k
  rw [hw.1] at k1
  rw [hw.2] at k2
  refine ⟨⟨k1, k2⟩, fun p e s m args below meth c r0 r A n0 z0 X h1 h2 h3 => ?_⟩
  have := k3 p e s m args below meth c r0 r A n0 z0 X (by rw [hw.1]; exact h1) (by rw [hw.2]; exact h2) h3
  rw [hw.1, hw.2] at this
  exact step p e _ _ s m args below meth c A _ _ _ r ⟨by omega, by omega⟩ X this
theorem e_wsz_app (w : eW) (c : eC) : e_wsz (w ++ [c]) = e_wsz w + e_sz c := by simp [e_wsz]
theorem eBA_new {ci : Nat} {C : String} {T : u_T} {N : Nat} {ty : Nat → FieldType} (hC : eCl ci C T N ty) {idx : Nat} (hcl : Cond.classLink y.cls idx C ∈ eT) (hin : Cond.instantiable C N ∈ eT) (hini : Cond.initialized C ∈ eT) {fs : List Value} (hN : fs.length = N) (hfs : ∀ r : Nat → Nat, fs.map (e_cv r) = fs) (hdef : ∀ j, j < N → defaultValue (ty j) = vp_V fs j)
    (hd : decode cc pc = .ok (.new idx, 3)) (hf : eFw w.length w = true) (hL : eFl w.length L = true) (hS : S.all (eFr w.length) = true)
    (k : eBA l D cI cZ d y cc nL (pc + 3) L (.ref w.length :: S) (w ++ [.inr (ci, fs)]) w') : eBA l D cI cZ d y cc nL pc L S w w' := by
  obtain ⟨⟨k1, k2⟩, k3⟩ := k
  rw [List.length_append, List.length_singleton] at k1
  rw [e_wsz_app] at k2
  have e1 : e_sz (.inr (ci, fs)) = N := hN
  rw [e1] at k2
  refine ⟨⟨by omega, by omega⟩, fun p e s m args below meth c r0 r A n0 z0 X h1 h2 h3 => ?_⟩
  refine ev_new X hC hcl hin hini hfs hdef hf hL hS (by show _ ≤ w'.length - n0; omega) (by show _ ≤ e_wsz w' - z0; omega) hd (fun r' hr => ?_)
  have := k3 p e s m args below meth c r0 r' A n0 z0 X (by rw [List.length_append]; omega) (by rw [e_wsz_app]; omega) (fun i hi => (hr i (by omega)).trans (h3 i hi))
  rw [List.length_append, List.length_singleton, e_wsz_app, e1, show w.length + 1 - n0 = w.length - n0 + 1 by omega, show e_wsz w + N - z0 = e_wsz w - z0 + N by omega] at this
  exact this
theorem eBA_newa (har : Cond.arrayClass .int ∈ eT) {n : Int32} {N' : Nat} (hd : decode cc pc = .ok (.newarray .int, 2)) (hn : ¬ n < 0) (hN : n.toNatClampNeg = N') (hb : N' ≤ 100000) (hf : eFw w.length w = true) (hL : eFl w.length L = true) (hS : S.all (eFr w.length) = true)
    (k : eBA l D cI cZ d y cc nL (pc + 2) L (.ref w.length :: S) (w ++ [.inl (false, N', fun _ => 0)]) w') : eBA l D cI cZ d y cc nL pc L (.int n :: S) w w' := by
  obtain ⟨⟨k1, k2⟩, k3⟩ := k
  rw [List.length_append, List.length_singleton] at k1
  rw [e_wsz_app] at k2
  have e1 : e_sz (.inl (false, N', fun _ => 0)) = N' := rfl
  rw [e1] at k2
  refine ⟨⟨by omega, by omega⟩, fun p e s m args below meth c r0 r A n0 z0 X h1 h2 h3 => ?_⟩
  refine ev_newa X har hn hN hb hf hL hS (by show _ ≤ w'.length - n0; omega) (by show _ ≤ e_wsz w' - z0; omega) hd (fun r' hr => ?_)
  have := k3 p e s m args below meth c r0 r' A n0 z0 X (by rw [List.length_append]; omega) (by rw [e_wsz_app]; omega) (fun i hi => (hr i (by omega)).trans (h3 i hi))
  rw [List.length_append, List.length_singleton, e_wsz_app, e1, show w.length + 1 - n0 = w.length - n0 + 1 by omega, show e_wsz w + N' - z0 = e_wsz w - z0 + N' by omega] at this
  exact this
theorem eBA_newz (har : Cond.arrayClass .boolean ∈ eT) {n : Int32} {N' : Nat} (hd : decode cc pc = .ok (.newarray .boolean, 2)) (hn : ¬ n < 0) (hN : n.toNatClampNeg = N') (hb : N' ≤ 100000) (hf : eFw w.length w = true) (hL : eFl w.length L = true) (hS : S.all (eFr w.length) = true)
    (k : eBA l D cI cZ d y cc nL (pc + 2) L (.ref w.length :: S) (w ++ [.inl (true, N', fun _ => 0)]) w') : eBA l D cI cZ d y cc nL pc L (.int n :: S) w w' := by
  obtain ⟨⟨k1, k2⟩, k3⟩ := k
  rw [List.length_append, List.length_singleton] at k1
  rw [e_wsz_app] at k2
  have e1 : e_sz (.inl (true, N', fun _ => 0)) = N' := rfl
  rw [e1] at k2
  refine ⟨⟨by omega, by omega⟩, fun p e s m args below meth c r0 r A n0 z0 X h1 h2 h3 => ?_⟩
  refine ev_newz X har hn hN hb hf hL hS (by show _ ≤ w'.length - n0; omega) (by show _ ≤ e_wsz w' - z0; omega) hd (fun r' hr => ?_)
  have := k3 p e s m args below meth c r0 r' A n0 z0 X (by rw [List.length_append]; omega) (by rw [e_wsz_app]; omega) (fun i hi => (hr i (by omega)).trans (h3 i hi))
  rw [List.length_append, List.length_singleton, e_wsz_app, e1, show w.length + 1 - n0 = w.length - n0 + 1 by omega, show e_wsz w + N' - z0 = e_wsz w - z0 + N' by omega] at this
  exact this
theorem eBA_call {y1 : MethodName} {cc1 : ByteArray} {nL1 n1 d1 idx o : Nat} (hw : eMw y1 cc1 nL1 none n1) (hl : Cond.methodLink y.cls idx y1 ∈ eT) (hin : Cond.instanceMethod y1 ∈ eT) (hy : y1.name = "<init>") (hR : d1 + 1 ≤ d ∧ 8 + (nL1 + 11) + 34 * d1 ≤ 34 * d)
    {As : List Value} (hn : As.length = n1) (hS8 : (S.map fun v => v.category).sum ≤ 8) (hd : decode cc pc = .ok (.invokespecial idx, 3)) (hM : eMA l D cI cZ d1 y1 cc1 nL1 (.ref o :: As) w w1) (hL : eFl w.length L = true) (hSf : S.all (eFr w.length) = true)
    (k : eBA l D cI cZ d y cc nL (pc + 3) L S w1 w') : eBA l D cI cZ d y cc nL pc L (As.reverse ++ .ref o :: S) w w' := by
  obtain ⟨⟨k1, k2⟩, k3⟩ := k
  have hM1 := hM.1.1
  have hM2 := hM.1.2
  refine ⟨⟨by omega, by omega⟩, fun p e s m args below meth c r0 r A n0 z0 X h1 h2 h3 => ?_⟩
  refine ev_callA X hw hl hin hy hR hn hS8 hd hM ⟨by show _ ≤ w'.length - n0; omega, by show _ ≤ e_wsz w' - z0; omega⟩ hL hSf (fun r' hr => ?_)
  have := k3 p e s m args below meth c r0 r' A n0 z0 X (by omega) (by omega) (fun i hi => (hr i (by omega)).trans (h3 i hi))
  rw [show w1.length - n0 = w.length - n0 + (w1.length - w.length) by omega, show e_wsz w1 - z0 = e_wsz w - z0 + (e_wsz w1 - e_wsz w) by omega] at this
  exact this
theorem eBA_callN {y1 : MethodName} {cc1 : ByteArray} {nL1 n1 d1 idx o : Nat} {host : String} (hw : eMw y1 cc1 nL1 none n1) (hl : Cond.methodLinkNest y.cls idx y1 host ∈ eNw) (hin : Cond.instanceMethod y1 ∈ eT) (hy : y1.name = "<init>") (hR : d1 + 1 ≤ d ∧ 8 + (nL1 + 11) + 34 * d1 ≤ 34 * d)
    {As : List Value} (hn : As.length = n1) (hS8 : (S.map fun v => v.category).sum ≤ 8) (hd : decode cc pc = .ok (.invokespecial idx, 3)) (hM : eMA l D cI cZ d1 y1 cc1 nL1 (.ref o :: As) w w1) (hL : eFl w.length L = true) (hSf : S.all (eFr w.length) = true)
    (k : eBA l D cI cZ d y cc nL (pc + 3) L S w1 w') : eBA l D cI cZ d y cc nL pc L (As.reverse ++ .ref o :: S) w w' := by
  obtain ⟨⟨k1, k2⟩, k3⟩ := k
  have hM1 := hM.1.1
  have hM2 := hM.1.2
  refine ⟨⟨by omega, by omega⟩, fun p e s m args below meth c r0 r A n0 z0 X h1 h2 h3 => ?_⟩
  refine ev_callAN X hw hl hin hy hR hn hS8 hd hM ⟨by show _ ≤ w'.length - n0; omega, by show _ ≤ e_wsz w' - z0; omega⟩ hL hSf (fun r' hr => ?_)
  have := k3 p e s m args below meth c r0 r' A n0 z0 X (by omega) (by omega) (fun i hi => (hr i (by omega)).trans (h3 i hi))
  rw [show w1.length - n0 = w.length - n0 + (w1.length - w.length) by omega, show e_wsz w1 - z0 = e_wsz w - z0 + (e_wsz w1 - e_wsz w) by omega] at this
  exact this
theorem eBA_ret (hd : decode cc pc = .ok (.return_, 1)) : eBA l D cI cZ d y cc nL pc L [] w w := by
  refine ⟨⟨Nat.le_refl _, Nat.le_refl _⟩, fun p e s m args below meth c r0 r A n0 z0 X h1 h2 h3 => ?_⟩
  intro H locs ls hP hD hS hl
  exact W.vret X.1 X.2.1 X.2.2.2.2.2.1 (fun t ht hW => ⟨rfl, r, h3, by rw [ht]; exact hP, hD, hS.F ht⟩) hS.2.2 hd X.2.2.2.2.2.2.1
theorem eMA_of {As : List Value} (L : List (Nat × Value)) (hy : plainName y.cls = true) (hL : ∀ r, lv_args 0 (As.map (e_cv r)) = e_L r L) (hn : ∀ r, (lg_sl (As.map (e_cv r))).length ≤ nL)
    (h : eBA l D cI cZ d y cc nL 0 L [] w w') : eMA l D cI cZ d y cc nL As w w' := by
  refine ⟨h.1, fun r sz => ?_⟩
  refine Met.ofW (cc := cc) (maxL := nL) (ret := none) hy rfl ?_
  intro p e s m args below meth c s₁ B hml hv
  obtain ⟨rfl, hsz, hP, hK, hD0, hN⟩ := hv
  have hts := atoms_spec (ws := eWs y cc nL none) B.pre
  subst hsz
  have X : eX p s m (As.map (e_cv r)).toArray meth c D cI cZ (va_A (e_cw cI cZ r w) s.heap.size) s.heap y cc nL none :=
    ⟨B.exec, B.bytes, hml, findClass_of_methodNamed B.named, fun w h => hts w (List.mem_cons_of_mem _ h), B.returns, B.notSynchronized, hK, hN, fun q h => Or.inr h, (name_of_methodNamed B.named B.method).1⟩
  have hl := lv_entry (As.map (e_cv r)) (hn r)
  rw [hL] at hl
  rw [lg_entry_eq]
  have := h.2 p e s m _ below meth c r r _ w.length (e_wsz w) X (Nat.le_refl _) (Nat.le_refl _) (fun _ _ => rfl) s.heap [] _ hP (hD0.self (sz := s.heap.size)) va_S.rf hl
  rw [Nat.sub_self, Nat.sub_self] at this
  exact this
theorem eP_len {o ci k : Nat} {v : Value} (h : eP w o ci k v = some w1) : w1.length = w.length ∧ e_wsz w1 = e_wsz w := by
  obtain ⟨fs, h1, h2, rfl⟩ := eP_at h
  refine ⟨by simp, ?_⟩
  have hlt := (List.getElem?_eq_some_iff.mp h1).1
  unfold e_wsz
  congr 1
  apply List.ext_getElem?
  intro j
  rw [List.getElem?_map, List.getElem?_map, List.getElem?_set]
  by_cases hj : o = j
  · subst hj
    rw [h1]
    simp [hlt, e_sz]
  · simp [hj]
end EVB
