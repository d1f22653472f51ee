/-! ===== worlds with numbered cells: cells are numbered, a map gives each number its address ===== -/
abbrev eC : Type := (Bool × Nat × (Nat → Int32)) ⊕ (Nat × List Value)
abbrev eW : Type := List eC
def e_cv (r : Nat → Nat) : Value → Value
  | .ref i => .ref (r i)
  | v => v
def e_cc (cI cZ : ClassId) (r : Nat → Nat) : eC → va_E
  | .inl a => .inl (bif a.1 then cZ else cI, a.2.1, .inl a.2.2)
  | .inr o => .inr (o.1, o.2.map (e_cv r))
def e_cw (cI cZ : ClassId) (r : Nat → Nat) (w : eW) : va_W := w.mapIdx (fun i c => (r i, e_cc cI cZ r c))
abbrev e_ty (cI cZ : ClassId) : List (ClassId × FieldType) := [(cI, .int), (cZ, .boolean)]
def e_L (r : Nat → Nat) (L : List (Nat × Value)) : List (Nat × Value) := L.map (fun q => (q.1, e_cv r q.2))
theorem e_cv_cat (r : Nat → Nat) (v : Value) : (e_cv r v).category = v.category := by cases v <;> rfl
theorem e_cw_get (cI cZ : ClassId) (r : Nat → Nat) (w : eW) (i : Nat) : (e_cw cI cZ r w)[i]? = (w[i]?).map (fun c => (r i, e_cc cI cZ r c)) := by
  simp [e_cw, List.getElem?_mapIdx]
theorem e_cw_at {cI cZ : ClassId} {r : Nat → Nat} {w : eW} {i : Nat} {c : eC} (h : w[i]? = some c) : (e_cw cI cZ r w)[i]? = some (r i, e_cc cI cZ r c) := by
  rw [e_cw_get, h]; rfl
theorem e_cw_set (cI cZ : ClassId) (r : Nat → Nat) (w : eW) (i : Nat) (c : eC) : e_cw cI cZ r (w.set i c) = (e_cw cI cZ r w).set i (r i, e_cc cI cZ r c) := by
  apply List.ext_getElem?
  intro j
  rw [e_cw_get, List.getElem?_set, List.getElem?_set, e_cw_get]
  have hl : (e_cw cI cZ r w).length = w.length := by simp [e_cw]
  rw [hl]
  by_cases h : i = j
  · subst h
    by_cases h2 : i < w.length <;> simp [h2]
  · simp [h]
theorem e_L_filter (r : Nat → Nat) (L : List (Nat × Value)) (i : Nat) : (e_L r L).filter (fun q => !(q.1 == i) && !(q.1 + 1 == i && q.2.category == 2)) = e_L r (L.filter (fun q => !(q.1 == i) && !(q.1 + 1 == i && q.2.category == 2))) := by
  unfold e_L
  rw [List.filter_map]
  congr 1
  apply List.filter_congr
  intro x _
  simp [Function.comp, e_cv_cat]
theorem e_L_get (r : Nat → Nat) (L : List (Nat × Value)) (k : Nat) : (e_L r L)[k]? = (L[k]?).map (fun q => (q.1, e_cv r q.2)) := by simp [e_L]
theorem e_L_pick (r : Nat → Nat) (L : List (Nat × Value)) (ks : List Nat) : lv_pick (e_L r L) ks = e_L r (lv_pick L ks) := by
  unfold lv_pick
  induction ks with
  | nil => rfl
  | cons k ks ih =>
    rw [List.filterMap_cons, List.filterMap_cons, e_L_get]
    cases h : L[k]? with
    | none => simpa using ih
    | some q => simp [e_L] at ih ⊢; exact ih
/-! ===== the judgement: the machine from a frame on, over a world of numbered cells ===== -/
def EV (p : Program) (l : Launch) (e : Env) (R : Room) (s : State) (m : MethodId) (args : Array Value) (below : List Frame) (meth : Method) (c : Code) (D : va_G) (cI cZ : ClassId) (A : Nat → Prop) (H0 : Heap) (nL : Nat) (Q : State → Prop) (cells slots : Nat) (r : Nat → Nat) (pc : Nat) (L : List (Nat × Value)) (S : List Value) (w : eW) : Prop :=
  ∀ (H : Heap) (locs : List Loc) (ls : Array Slot), va_P D vwCl (e_cw cI cZ r w) H → va_D A (e_cw cI cZ r w) → va_S A H0 H locs → lv_has ls nL (e_L r L) →
    W p l e R s m args below meth c H locs cells slots Q (F0 m pc ls (S.map (e_cv r)))
/-- the words that move with every call -/
def eT : List Cond := lw_tbl.filter goodWord
/-- the words on nest mates' members -/
def eNw : List Cond := tables_1.filter (fun w => match w with | .methodLinkNest _ _ _ _ => true | _ => false)
def eNest (U : State) : Prop := ∀ w ∈ eNw, va_Nw w U
theorem eNest_warm {s U : State} (hW : s.WarmedH U.vm) (h : eNest s) : eNest U := by
  intro w hw
  have h1 := h w hw
  have h2 := (List.mem_filter.mp hw).2
  cases w <;> first | exact va_Nw.warmM hW h1 | cases h2
theorem eNest_same {s U : State} (hv : s.vm = U.vm) (h : eNest s) : eNest U := by
  intro w hw
  have h1 := h w hw
  have h2 := (List.mem_filter.mp hw).2
  cases w <;> first | exact va_Nw.same rfl hv h1 | cases h2
/-- what stands fast in a method's body -/
def eX (p : Program) (s : State) (m : MethodId) (args : Array Value) (meth : Method) (c : Code) (D : va_G) (cI cZ : ClassId) (A : Nat → Prop) (H0 : Heap) (y : MethodName) (cc : ByteArray) (nL : Nat) (ret : Option FieldType) : Prop :=
  p.tables.exec = Jvm.exec ∧ c.code = cc ∧ c.maxLocals = nL ∧ s.vm.findClass y.cls = some m.cls ∧ (∀ w ∈ eT, w.before args s = true) ∧ meth.sig.returnType = ret ∧ meth.locks = false ∧ va_K D vwCl (e_ty cI cZ) s ∧ eNest s ∧ (∀ q : Nat, H0.size ≤ q → A q) ∧ meth.name = y.name
section EVR
variable {p : Program} {l : Launch} {e : Env} {R : Room} {s : State} {m : MethodId} {args : Array Value} {below : List Frame} {meth : Method} {c : Code} {D : va_G} {cI cZ : ClassId} {A : Nat → Prop} {H0 : Heap} {nL : Nat} {Q : State → Prop} {cells slots : Nat} {r : Nat → Nat} {pc : Nat} {L L' : List (Nat × Value)} {S : List Value} {w : eW}
variable {y : MethodName} {cc : ByteArray} {ret : Option FieldType}
theorem ev_weak (ks : List Nat) (hL : lv_pick L ks = L') (k : EV p l e R s m args below meth c D cI cZ A H0 nL Q cells slots r pc L' S w) : EV p l e R s m args below meth c D cI cZ A H0 nL Q cells slots r pc L S w := by
  intro H locs ls hP hD hS hl
  exact k H locs ls hP hD hS (lv_sub hl ks (by rw [e_L_pick, hL]))
theorem ev_iconst (X : eX p s m args meth c D cI cZ A H0 y cc nL ret) {n : Int} {v : Int32} (hd : decode cc pc = .ok (.iconst n, 1)) (hv : Int32.ofInt n = v) (k : EV p l e R s m args below meth c D cI cZ A H0 nL Q cells slots r (pc + 1) L (.int v :: S) w) : EV p l e R s m args below meth c D cI cZ A H0 nL Q cells slots r pc L S w :=
  fun H locs ls hP hD hS hl => lv_iconst X.1 X.2.1 hd hv (k H locs ls hP hD hS hl)
theorem ev_bipush (X : eX p s m args meth c D cI cZ A H0 y cc nL ret) {n : Int} {v : Int32} (hd : decode cc pc = .ok (.bipush n, 2)) (hv : (Int8.ofInt n).toInt32 = v) (k : EV p l e R s m args below meth c D cI cZ A H0 nL Q cells slots r (pc + 2) L (.int v :: S) w) : EV p l e R s m args below meth c D cI cZ A H0 nL Q cells slots r pc L S w :=
  fun H locs ls hP hD hS hl => lv_bipush X.1 X.2.1 hd hv (k H locs ls hP hD hS hl)
theorem ev_sipush (X : eX p s m args meth c D cI cZ A H0 y cc nL ret) {n : Int} {v : Int32} (hd : decode cc pc = .ok (.sipush n, 3)) (hv : (Int16.ofInt n).toInt32 = v) (k : EV p l e R s m args below meth c D cI cZ A H0 nL Q cells slots r (pc + 3) L (.int v :: S) w) : EV p l e R s m args below meth c D cI cZ A H0 nL Q cells slots r pc L S w :=
  fun H locs ls hP hD hS hl => lv_sipush X.1 X.2.1 hd hv (k H locs ls hP hD hS hl)
theorem ev_lconst (X : eX p s m args meth c D cI cZ A H0 y cc nL ret) {n : Fin 2} {v : Int64} (hd : decode cc pc = .ok (.lconst n, 1)) (hv : Int64.ofNat (n : Nat) = v) (k : EV p l e R s m args below meth c D cI cZ A H0 nL Q cells slots r (pc + 1) L (.long v :: S) w) : EV p l e R s m args below meth c D cI cZ A H0 nL Q cells slots r pc L S w :=
  fun H locs ls hP hD hS hl => lv_lconst X.1 X.2.1 hd hv (k H locs ls hP hD hS hl)
theorem ev_ldc (X : eX p s m args meth c D cI cZ A H0 y cc nL ret) {n : Nat} {v : Int32} (hm : Cond.constant y.cls n v ∈ eT) (hd : decode cc pc = .ok (.ldc n, 2)) (k : EV p l e R s m args below meth c D cI cZ A H0 nL Q cells slots r (pc + 2) L (.int v :: S) w) : EV p l e R s m args below meth c D cI cZ A H0 nL Q cells slots r pc L S w :=
  fun H locs ls hP hD hS hl => lv_ldc X.1 X.2.1 X.2.2.2.1 (X.2.2.2.2.1 _ hm) hd (k H locs ls hP hD hS hl)
theorem ev_ldcw (X : eX p s m args meth c D cI cZ A H0 y cc nL ret) {n : Nat} {v : Int32} (hm : Cond.constant y.cls n v ∈ eT) (hd : decode cc pc = .ok (.ldc_w n, 3)) (k : EV p l e R s m args below meth c D cI cZ A H0 nL Q cells slots r (pc + 3) L (.int v :: S) w) : EV p l e R s m args below meth c D cI cZ A H0 nL Q cells slots r pc L S w :=
  fun H locs ls hP hD hS hl => lv_ldcw X.1 X.2.1 X.2.2.2.1 (X.2.2.2.2.1 _ hm) hd (k H locs ls hP hD hS hl)
theorem ev_ldc2 (X : eX p s m args meth c D cI cZ A H0 y cc nL ret) {n : Nat} {v : Int64} (hm : Cond.constantLong y.cls n v ∈ eT) (hd : decode cc pc = .ok (.ldc2_w n, 3)) (k : EV p l e R s m args below meth c D cI cZ A H0 nL Q cells slots r (pc + 3) L (.long v :: S) w) : EV p l e R s m args below meth c D cI cZ A H0 nL Q cells slots r pc L S w :=
  fun H locs ls hP hD hS hl => lv_ldc2 X.1 X.2.1 X.2.2.2.1 (X.2.2.2.2.1 _ hm) hd (k H locs ls hP hD hS hl)
theorem e_at {ls : Array Slot} {j i : Nat} {v : Value} (hl : lv_has ls nL (e_L r L)) (hk : L[j]? = some (i, v)) : ls[i]? = some (.val (e_cv r v)) := lv_at hl j (by rw [e_L_get, hk]; rfl)
theorem ev_iload_n (X : eX p s m args meth c D cI cZ A H0 y cc nL ret) {n : Fin 4} {i : Nat} (j : Nat) {x : Int32} (hd : decode cc pc = .ok (.iload_n n, 1)) (hi : (n : Nat) = i) (hk : L[j]? = some (i, .int x)) (k : EV p l e R s m args below meth c D cI cZ A H0 nL Q cells slots r (pc + 1) L (.int x :: S) w) : EV p l e R s m args below meth c D cI cZ A H0 nL Q cells slots r pc L S w :=
  fun H locs ls hP hD hS hl => lv_iload_n X.1 X.2.1 hd hi (e_at hl hk) (k H locs ls hP hD hS hl)
theorem ev_iload (X : eX p s m args meth c D cI cZ A H0 y cc nL ret) {i : Nat} (j : Nat) {x : Int32} (hd : decode cc pc = .ok (.iload i, 2)) (hk : L[j]? = some (i, .int x)) (k : EV p l e R s m args below meth c D cI cZ A H0 nL Q cells slots r (pc + 2) L (.int x :: S) w) : EV p l e R s m args below meth c D cI cZ A H0 nL Q cells slots r pc L S w :=
  fun H locs ls hP hD hS hl => lv_iload X.1 X.2.1 hd (e_at hl hk) (k H locs ls hP hD hS hl)
theorem ev_aload_n (X : eX p s m args meth c D cI cZ A H0 y cc nL ret) {n : Fin 4} {i : Nat} (j : Nat) {x : Nat} (hd : decode cc pc = .ok (.aload_n n, 1)) (hi : (n : Nat) = i) (hk : L[j]? = some (i, .ref x)) (k : EV p l e R s m args below meth c D cI cZ A H0 nL Q cells slots r (pc + 1) L (.ref x :: S) w) : EV p l e R s m args below meth c D cI cZ A H0 nL Q cells slots r pc L S w :=
  fun H locs ls hP hD hS hl => lv_aload_n X.1 X.2.1 hd hi (e_at hl hk) (k H locs ls hP hD hS hl)
theorem ev_istore_n (X : eX p s m args meth c D cI cZ A H0 y cc nL ret) {n : Fin 4} {i : Nat} {x : Int32} (hd : decode cc pc = .ok (.istore_n n, 1)) (hi : (n : Nat) = i) (hn : i < nL) (hl' : (i, Value.int x) :: L.filter (fun q => !(q.1 == i) && !(q.1 + 1 == i && q.2.category == 2)) = L') (k : EV p l e R s m args below meth c D cI cZ A H0 nL Q cells slots r (pc + 1) L' S w) : EV p l e R s m args below meth c D cI cZ A H0 nL Q cells slots r pc L (.int x :: S) w :=
  fun H locs ls hP hD hS hl => lv_istore_n X.1 X.2.1 hd hi hl hn (by rw [e_L_filter]; exact congrArg (e_L r) hl') (fun ls' hl2 => k H locs ls' hP hD hS hl2)
theorem ev_istore (X : eX p s m args meth c D cI cZ A H0 y cc nL ret) {i : Nat} {x : Int32} (hd : decode cc pc = .ok (.istore i, 2)) (hn : i < nL) (hl' : (i, Value.int x) :: L.filter (fun q => !(q.1 == i) && !(q.1 + 1 == i && q.2.category == 2)) = L') (k : EV p l e R s m args below meth c D cI cZ A H0 nL Q cells slots r (pc + 2) L' S w) : EV p l e R s m args below meth c D cI cZ A H0 nL Q cells slots r pc L (.int x :: S) w :=
  fun H locs ls hP hD hS hl => lv_istore X.1 X.2.1 hd hl hn (by rw [e_L_filter]; exact congrArg (e_L r) hl') (fun ls' hl2 => k H locs ls' hP hD hS hl2)
theorem ev_astore_n (X : eX p s m args meth c D cI cZ A H0 y cc nL ret) {n : Fin 4} {i : Nat} {x : Nat} (hd : decode cc pc = .ok (.astore_n n, 1)) (hi : (n : Nat) = i) (hn : i < nL) (hl' : (i, Value.ref x) :: L.filter (fun q => !(q.1 == i) && !(q.1 + 1 == i && q.2.category == 2)) = L') (k : EV p l e R s m args below meth c D cI cZ A H0 nL Q cells slots r (pc + 1) L' S w) : EV p l e R s m args below meth c D cI cZ A H0 nL Q cells slots r pc L (.ref x :: S) w :=
  fun H locs ls hP hD hS hl => lv_astore_n X.1 X.2.1 hd hi hl hn (by rw [e_L_filter]; exact congrArg (e_L r) hl') (fun ls' hl2 => k H locs ls' hP hD hS hl2)
theorem ev_iinc (X : eX p s m args meth c D cI cZ A H0 y cc nL ret) {i : Nat} (j : Nat) {n : Int} {x v : Int32} (hd : decode cc pc = .ok (.iinc i n, 3)) (hk : L[j]? = some (i, .int x)) (hv : x + Int32.ofInt n = v) (hn : i < nL) (hl' : (i, Value.int v) :: L.filter (fun q => !(q.1 == i) && !(q.1 + 1 == i && q.2.category == 2)) = L') (k : EV p l e R s m args below meth c D cI cZ A H0 nL Q cells slots r (pc + 3) L' S w) : EV p l e R s m args below meth c D cI cZ A H0 nL Q cells slots r pc L S w :=
  fun H locs ls hP hD hS hl => lv_iinc X.1 X.2.1 hd hl (k := j) (by rw [e_L_get, hk]; rfl) hv hn (by rw [e_L_filter]; exact congrArg (e_L r) hl') (fun ls' hl2 => k H locs ls' hP hD hS hl2)
end EVR
section EVA
variable {p : Program} {l : Launch} {e : Env} {R : Room} {s : State} {m : MethodId} {args : Array Value} {below : List Frame} {meth : Method} {c : Code} {D : va_G} {cI cZ : ClassId} {A : Nat → Prop} {H0 : Heap} {nL : Nat} {Q : State → Prop} {cells slots : Nat} {r : Nat → Nat} {pc : Nat} {L L' : List (Nat × Value)} {S : List Value} {w : eW}
variable {y : MethodName} {cc : ByteArray} {ret : Option FieldType}
theorem ev_iadd (X : eX p s m args meth c D cI cZ A H0 y cc nL ret) {x v : Int32} (hd : decode cc pc = .ok (.iadd, 1)) (k : EV p l e R s m args below meth c D cI cZ A H0 nL Q cells slots r (pc + 1) L (.int (x + v) :: S) w) : EV p l e R s m args below meth c D cI cZ A H0 nL Q cells slots r pc L (.int v :: .int x :: S) w :=
  fun H locs ls hP hD hS hl => lv_iadd X.1 X.2.1 hd (k H locs ls hP hD hS hl)
theorem ev_isub (X : eX p s m args meth c D cI cZ A H0 y cc nL ret) {x v : Int32} (hd : decode cc pc = .ok (.isub, 1)) (k : EV p l e R s m args below meth c D cI cZ A H0 nL Q cells slots r (pc + 1) L (.int (x - v) :: S) w) : EV p l e R s m args below meth c D cI cZ A H0 nL Q cells slots r pc L (.int v :: .int x :: S) w :=
  fun H locs ls hP hD hS hl => lv_isub X.1 X.2.1 hd (k H locs ls hP hD hS hl)
theorem ev_imul (X : eX p s m args meth c D cI cZ A H0 y cc nL ret) {x v : Int32} (hd : decode cc pc = .ok (.imul, 1)) (k : EV p l e R s m args below meth c D cI cZ A H0 nL Q cells slots r (pc + 1) L (.int (x * v) :: S) w) : EV p l e R s m args below meth c D cI cZ A H0 nL Q cells slots r pc L (.int v :: .int x :: S) w :=
  fun H locs ls hP hD hS hl => lv_imul X.1 X.2.1 hd (k H locs ls hP hD hS hl)
theorem ev_iand (X : eX p s m args meth c D cI cZ A H0 y cc nL ret) {x v : Int32} (hd : decode cc pc = .ok (.iand, 1)) (k : EV p l e R s m args below meth c D cI cZ A H0 nL Q cells slots r (pc + 1) L (.int (x &&& v) :: S) w) : EV p l e R s m args below meth c D cI cZ A H0 nL Q cells slots r pc L (.int v :: .int x :: S) w :=
  fun H locs ls hP hD hS hl => lv_iand X.1 X.2.1 hd (k H locs ls hP hD hS hl)
theorem ev_ior (X : eX p s m args meth c D cI cZ A H0 y cc nL ret) {x v : Int32} (hd : decode cc pc = .ok (.ior, 1)) (k : EV p l e R s m args below meth c D cI cZ A H0 nL Q cells slots r (pc + 1) L (.int (x ||| v) :: S) w) : EV p l e R s m args below meth c D cI cZ A H0 nL Q cells slots r pc L (.int v :: .int x :: S) w :=
  fun H locs ls hP hD hS hl => lv_ior X.1 X.2.1 hd (k H locs ls hP hD hS hl)
theorem ev_ixor (X : eX p s m args meth c D cI cZ A H0 y cc nL ret) {x v : Int32} (hd : decode cc pc = .ok (.ixor, 1)) (k : EV p l e R s m args below meth c D cI cZ A H0 nL Q cells slots r (pc + 1) L (.int (x ^^^ v) :: S) w) : EV p l e R s m args below meth c D cI cZ A H0 nL Q cells slots r pc L (.int v :: .int x :: S) w :=
  fun H locs ls hP hD hS hl => lv_ixor X.1 X.2.1 hd (k H locs ls hP hD hS hl)
theorem ev_ishl (X : eX p s m args meth c D cI cZ A H0 y cc nL ret) {x v : Int32} (hd : decode cc pc = .ok (.ishl, 1)) (k : EV p l e R s m args below meth c D cI cZ A H0 nL Q cells slots r (pc + 1) L (.int (x <<< (v &&& 31)) :: S) w) : EV p l e R s m args below meth c D cI cZ A H0 nL Q cells slots r pc L (.int v :: .int x :: S) w :=
  fun H locs ls hP hD hS hl => lv_ishl X.1 X.2.1 hd (k H locs ls hP hD hS hl)
theorem ev_ishr (X : eX p s m args meth c D cI cZ A H0 y cc nL ret) {x v : Int32} (hd : decode cc pc = .ok (.ishr, 1)) (k : EV p l e R s m args below meth c D cI cZ A H0 nL Q cells slots r (pc + 1) L (.int (x >>> (v &&& 31)) :: S) w) : EV p l e R s m args below meth c D cI cZ A H0 nL Q cells slots r pc L (.int v :: .int x :: S) w :=
  fun H locs ls hP hD hS hl => lv_ishr X.1 X.2.1 hd (k H locs ls hP hD hS hl)
theorem ev_iushr (X : eX p s m args meth c D cI cZ A H0 y cc nL ret) {x v : Int32} (hd : decode cc pc = .ok (.iushr, 1)) (k : EV p l e R s m args below meth c D cI cZ A H0 nL Q cells slots r (pc + 1) L (.int ((x.toUInt32 >>> (v.toUInt32 &&& Int32.toUInt32 31)).toInt32) :: S) w) : EV p l e R s m args below meth c D cI cZ A H0 nL Q cells slots r pc L (.int v :: .int x :: S) w :=
  fun H locs ls hP hD hS hl => lv_iushr X.1 X.2.1 hd rfl (k H locs ls hP hD hS hl)
theorem ev_ineg (X : eX p s m args meth c D cI cZ A H0 y cc nL ret) {x : Int32} (hd : decode cc pc = .ok (.ineg, 1)) (k : EV p l e R s m args below meth c D cI cZ A H0 nL Q cells slots r (pc + 1) L (.int (-x) :: S) w) : EV p l e R s m args below meth c D cI cZ A H0 nL Q cells slots r pc L (.int x :: S) w :=
  fun H locs ls hP hD hS hl => lv_ineg X.1 X.2.1 hd (k H locs ls hP hD hS hl)
theorem ev_idiv (X : eX p s m args meth c D cI cZ A H0 y cc nL ret) {x v : Int32} (hd : decode cc pc = .ok (.idiv, 1)) (hne : ¬ v = 0) (k : EV p l e R s m args below meth c D cI cZ A H0 nL Q cells slots r (pc + 1) L (.int (x / v) :: S) w) : EV p l e R s m args below meth c D cI cZ A H0 nL Q cells slots r pc L (.int v :: .int x :: S) w :=
  fun H locs ls hP hD hS hl => lv_idiv X.1 X.2.1 hd hne (k H locs ls hP hD hS hl)
theorem ev_irem (X : eX p s m args meth c D cI cZ A H0 y cc nL ret) {x v : Int32} (hd : decode cc pc = .ok (.irem, 1)) (hne : ¬ v = 0) (k : EV p l e R s m args below meth c D cI cZ A H0 nL Q cells slots r (pc + 1) L (.int (x - x / v * v) :: S) w) : EV p l e R s m args below meth c D cI cZ A H0 nL Q cells slots r pc L (.int v :: .int x :: S) w :=
  fun H locs ls hP hD hS hl => lv_irem X.1 X.2.1 hd hne (k H locs ls hP hD hS hl)
theorem ev_ladd (X : eX p s m args meth c D cI cZ A H0 y cc nL ret) {x v : Int64} (hd : decode cc pc = .ok (.ladd, 1)) (k : EV p l e R s m args below meth c D cI cZ A H0 nL Q cells slots r (pc + 1) L (.long (x + v) :: S) w) : EV p l e R s m args below meth c D cI cZ A H0 nL Q cells slots r pc L (.long v :: .long x :: S) w :=
  fun H locs ls hP hD hS hl => lv_ladd X.1 X.2.1 hd (k H locs ls hP hD hS hl)
theorem ev_dup (X : eX p s m args meth c D cI cZ A H0 y cc nL ret) {v : Value} (hd : decode cc pc = .ok (.dup, 1)) (hc : v.category = 1) (k : EV p l e R s m args below meth c D cI cZ A H0 nL Q cells slots r (pc + 1) L (v :: v :: S) w) : EV p l e R s m args below meth c D cI cZ A H0 nL Q cells slots r pc L (v :: S) w :=
  fun H locs ls hP hD hS hl => lv_dup X.1 X.2.1 hd (by rw [e_cv_cat]; exact hc) (k H locs ls hP hD hS hl)
theorem ev_pop (X : eX p s m args meth c D cI cZ A H0 y cc nL ret) {v : Value} (hd : decode cc pc = .ok (.pop, 1)) (hc : v.category = 1) (k : EV p l e R s m args below meth c D cI cZ A H0 nL Q cells slots r (pc + 1) L S w) : EV p l e R s m args below meth c D cI cZ A H0 nL Q cells slots r pc L (v :: S) w :=
  fun H locs ls hP hD hS hl => lv_pop X.1 X.2.1 hd (by rw [e_cv_cat]; exact hc) (k H locs ls hP hD hS hl)
theorem ev_dup2 (X : eX p s m args meth c D cI cZ A H0 y cc nL ret) {v v2 : Value} (hd : decode cc pc = .ok (.dup2, 1)) (hc : v.category = 1) (hc2 : v2.category = 1) (k : EV p l e R s m args below meth c D cI cZ A H0 nL Q cells slots r (pc + 1) L (v :: v2 :: v :: v2 :: S) w) : EV p l e R s m args below meth c D cI cZ A H0 nL Q cells slots r pc L (v :: v2 :: S) w :=
  fun H locs ls hP hD hS hl => lv_dup2_11 X.1 X.2.1 hd (by rw [e_cv_cat]; exact hc) (by rw [e_cv_cat]; exact hc2) (k H locs ls hP hD hS hl)
theorem ev_goto (X : eX p s m args meth c D cI cZ A H0 y cc nL ret) {off : Int} (tgt : Nat) (hd : decode cc pc = .ok (.goto off, 3)) (ht : (pc : Int) + off = (tgt : Int)) (k : EV p l e R s m args below meth c D cI cZ A H0 nL Q cells slots r tgt L S w) : EV p l e R s m args below meth c D cI cZ A H0 nL Q cells slots r pc L S w :=
  fun H locs ls hP hD hS hl => lv_goto X.1 X.2.1 hd ht (k H locs ls hP hD hS hl)
theorem ev_if_eq (X : eX p s m args meth c D cI cZ A H0 y cc nL ret) {x : Int32} {off : Int} (tgt : Nat) (hd : decode cc pc = .ok (.ifCond .eq off, 3)) (ht : (pc : Int) + off = (tgt : Int)) (kt : x = 0 → EV p l e R s m args below meth c D cI cZ A H0 nL Q cells slots r tgt L S w) (kf : ¬ x = 0 → EV p l e R s m args below meth c D cI cZ A H0 nL Q cells slots r (pc + 3) L S w) : EV p l e R s m args below meth c D cI cZ A H0 nL Q cells slots r pc L (.int x :: S) w :=
  fun H locs ls hP hD hS hl => lv_if_eq X.1 X.2.1 hd ht (fun h => kt h H locs ls hP hD hS hl) (fun h => kf h H locs ls hP hD hS hl)
theorem ev_icmp_eq (X : eX p s m args meth c D cI cZ A H0 y cc nL ret) {x v : Int32} {off : Int} (tgt : Nat) (hd : decode cc pc = .ok (.if_icmp .eq off, 3)) (ht : (pc : Int) + off = (tgt : Int)) (kt : x = v → EV p l e R s m args below meth c D cI cZ A H0 nL Q cells slots r tgt L S w) (kf : ¬ x = v → EV p l e R s m args below meth c D cI cZ A H0 nL Q cells slots r (pc + 3) L S w) : EV p l e R s m args below meth c D cI cZ A H0 nL Q cells slots r pc L (.int v :: .int x :: S) w :=
  fun H locs ls hP hD hS hl => lv_icmp_eq X.1 X.2.1 hd ht (fun h => kt h H locs ls hP hD hS hl) (fun h => kf h H locs ls hP hD hS hl)
theorem ev_if_ne (X : eX p s m args meth c D cI cZ A H0 y cc nL ret) {x : Int32} {off : Int} (tgt : Nat) (hd : decode cc pc = .ok (.ifCond .ne off, 3)) (ht : (pc : Int) + off = (tgt : Int)) (kt : ¬ x = 0 → EV p l e R s m args below meth c D cI cZ A H0 nL Q cells slots r tgt L S w) (kf : x = 0 → EV p l e R s m args below meth c D cI cZ A H0 nL Q cells slots r (pc + 3) L S w) : EV p l e R s m args below meth c D cI cZ A H0 nL Q cells slots r pc L (.int x :: S) w :=
  fun H locs ls hP hD hS hl => lv_if_ne X.1 X.2.1 hd ht (fun h => kt h H locs ls hP hD hS hl) (fun h => kf h H locs ls hP hD hS hl)
theorem ev_icmp_ne (X : eX p s m args meth c D cI cZ A H0 y cc nL ret) {x v : Int32} {off : Int} (tgt : Nat) (hd : decode cc pc = .ok (.if_icmp .ne off, 3)) (ht : (pc : Int) + off = (tgt : Int)) (kt : ¬ x = v → EV p l e R s m args below meth c D cI cZ A H0 nL Q cells slots r tgt L S w) (kf : x = v → EV p l e R s m args below meth c D cI cZ A H0 nL Q cells slots r (pc + 3) L S w) : EV p l e R s m args below meth c D cI cZ A H0 nL Q cells slots r pc L (.int v :: .int x :: S) w :=
  fun H locs ls hP hD hS hl => lv_icmp_ne X.1 X.2.1 hd ht (fun h => kt h H locs ls hP hD hS hl) (fun h => kf h H locs ls hP hD hS hl)
theorem ev_if_lt (X : eX p s m args meth c D cI cZ A H0 y cc nL ret) {x : Int32} {off : Int} (tgt : Nat) (hd : decode cc pc = .ok (.ifCond .lt off, 3)) (ht : (pc : Int) + off = (tgt : Int)) (kt : x < 0 → EV p l e R s m args below meth c D cI cZ A H0 nL Q cells slots r tgt L S w) (kf : ¬ x < 0 → EV p l e R s m args below meth c D cI cZ A H0 nL Q cells slots r (pc + 3) L S w) : EV p l e R s m args below meth c D cI cZ A H0 nL Q cells slots r pc L (.int x :: S) w :=
  fun H locs ls hP hD hS hl => lv_if_lt X.1 X.2.1 hd ht (fun h => kt h H locs ls hP hD hS hl) (fun h => kf h H locs ls hP hD hS hl)
theorem ev_icmp_lt (X : eX p s m args meth c D cI cZ A H0 y cc nL ret) {x v : Int32} {off : Int} (tgt : Nat) (hd : decode cc pc = .ok (.if_icmp .lt off, 3)) (ht : (pc : Int) + off = (tgt : Int)) (kt : x < v → EV p l e R s m args below meth c D cI cZ A H0 nL Q cells slots r tgt L S w) (kf : ¬ x < v → EV p l e R s m args below meth c D cI cZ A H0 nL Q cells slots r (pc + 3) L S w) : EV p l e R s m args below meth c D cI cZ A H0 nL Q cells slots r pc L (.int v :: .int x :: S) w :=
  fun H locs ls hP hD hS hl => lv_icmp_lt X.1 X.2.1 hd ht (fun h => kt h H locs ls hP hD hS hl) (fun h => kf h H locs ls hP hD hS hl)
theorem ev_if_ge (X : eX p s m args meth c D cI cZ A H0 y cc nL ret) {x : Int32} {off : Int} (tgt : Nat) (hd : decode cc pc = .ok (.ifCond .ge off, 3)) (ht : (pc : Int) + off = (tgt : Int)) (kt : 0 ≤ x → EV p l e R s m args below meth c D cI cZ A H0 nL Q cells slots r tgt L S w) (kf : ¬ 0 ≤ x → EV p l e R s m args below meth c D cI cZ A H0 nL Q cells slots r (pc + 3) L S w) : EV p l e R s m args below meth c D cI cZ A H0 nL Q cells slots r pc L (.int x :: S) w :=
  fun H locs ls hP hD hS hl => lv_if_ge X.1 X.2.1 hd ht (fun h => kt h H locs ls hP hD hS hl) (fun h => kf h H locs ls hP hD hS hl)
theorem ev_icmp_ge (X : eX p s m args meth c D cI cZ A H0 y cc nL ret) {x v : Int32} {off : Int} (tgt : Nat) (hd : decode cc pc = .ok (.if_icmp .ge off, 3)) (ht : (pc : Int) + off = (tgt : Int)) (kt : v ≤ x → EV p l e R s m args below meth c D cI cZ A H0 nL Q cells slots r tgt L S w) (kf : ¬ v ≤ x → EV p l e R s m args below meth c D cI cZ A H0 nL Q cells slots r (pc + 3) L S w) : EV p l e R s m args below meth c D cI cZ A H0 nL Q cells slots r pc L (.int v :: .int x :: S) w :=
  fun H locs ls hP hD hS hl => lv_icmp_ge X.1 X.2.1 hd ht (fun h => kt h H locs ls hP hD hS hl) (fun h => kf h H locs ls hP hD hS hl)
theorem ev_if_gt (X : eX p s m args meth c D cI cZ A H0 y cc nL ret) {x : Int32} {off : Int} (tgt : Nat) (hd : decode cc pc = .ok (.ifCond .gt off, 3)) (ht : (pc : Int) + off = (tgt : Int)) (kt : 0 < x → EV p l e R s m args below meth c D cI cZ A H0 nL Q cells slots r tgt L S w) (kf : ¬ 0 < x → EV p l e R s m args below meth c D cI cZ A H0 nL Q cells slots r (pc + 3) L S w) : EV p l e R s m args below meth c D cI cZ A H0 nL Q cells slots r pc L (.int x :: S) w :=
  fun H locs ls hP hD hS hl => lv_if_gt X.1 X.2.1 hd ht (fun h => kt h H locs ls hP hD hS hl) (fun h => kf h H locs ls hP hD hS hl)
theorem ev_icmp_gt (X : eX p s m args meth c D cI cZ A H0 y cc nL ret) {x v : Int32} {off : Int} (tgt : Nat) (hd : decode cc pc = .ok (.if_icmp .gt off, 3)) (ht : (pc : Int) + off = (tgt : Int)) (kt : v < x → EV p l e R s m args below meth c D cI cZ A H0 nL Q cells slots r tgt L S w) (kf : ¬ v < x → EV p l e R s m args below meth c D cI cZ A H0 nL Q cells slots r (pc + 3) L S w) : EV p l e R s m args below meth c D cI cZ A H0 nL Q cells slots r pc L (.int v :: .int x :: S) w :=
  fun H locs ls hP hD hS hl => lv_icmp_gt X.1 X.2.1 hd ht (fun h => kt h H locs ls hP hD hS hl) (fun h => kf h H locs ls hP hD hS hl)
theorem ev_if_le (X : eX p s m args meth c D cI cZ A H0 y cc nL ret) {x : Int32} {off : Int} (tgt : Nat) (hd : decode cc pc = .ok (.ifCond .le off, 3)) (ht : (pc : Int) + off = (tgt : Int)) (kt : x ≤ 0 → EV p l e R s m args below meth c D cI cZ A H0 nL Q cells slots r tgt L S w) (kf : ¬ x ≤ 0 → EV p l e R s m args below meth c D cI cZ A H0 nL Q cells slots r (pc + 3) L S w) : EV p l e R s m args below meth c D cI cZ A H0 nL Q cells slots r pc L (.int x :: S) w :=
  fun H locs ls hP hD hS hl => lv_if_le X.1 X.2.1 hd ht (fun h => kt h H locs ls hP hD hS hl) (fun h => kf h H locs ls hP hD hS hl)
theorem ev_icmp_le (X : eX p s m args meth c D cI cZ A H0 y cc nL ret) {x v : Int32} {off : Int} (tgt : Nat) (hd : decode cc pc = .ok (.if_icmp .le off, 3)) (ht : (pc : Int) + off = (tgt : Int)) (kt : x ≤ v → EV p l e R s m args below meth c D cI cZ A H0 nL Q cells slots r tgt L S w) (kf : ¬ x ≤ v → EV p l e R s m args below meth c D cI cZ A H0 nL Q cells slots r (pc + 3) L S w) : EV p l e R s m args below meth c D cI cZ A H0 nL Q cells slots r pc L (.int v :: .int x :: S) w :=
  fun H locs ls hP hD hS hl => lv_icmp_le X.1 X.2.1 hd ht (fun h => kt h H locs ls hP hD hS hl) (fun h => kf h H locs ls hP hD hS hl)
theorem ev_lookup (X : eX p s m args meth c D cI cZ A H0 y cc nL ret) {dflt : Int} {ps : Array (Int × Int)} {len : Nat} {x : Int32} {off : Int} (tgt : Nat) (hd : decode cc pc = .ok (.lookupswitch dflt ps, len)) (hp : (ps.toList.zip (ps.toList.drop 1)).all (fun (a, next) => a.1 < next.1) = true) (ho : Op.lookupswitch.offset ps.toList dflt x.toInt = off) (ht : (pc : Int) + off = (tgt : Int)) (k : EV p l e R s m args below meth c D cI cZ A H0 nL Q cells slots r tgt L S w) : EV p l e R s m args below meth c D cI cZ A H0 nL Q cells slots r pc L (.int x :: S) w :=
  fun H locs ls hP hD hS hl => lv_lookup X.1 X.2.1 hd hp ho ht (k H locs ls hP hD hS hl)
theorem ev_tableOut (X : eX p s m args meth c D cI cZ A H0 y cc nL ret) {dflt lo hi : Int} {offs : Array Int} {len : Nat} {x : Int32} (tgt : Nat) (hd : decode cc pc = .ok (.tableswitch dflt lo hi offs, len)) (h : x.toInt < lo ∨ hi < x.toInt) (ht : (pc : Int) + dflt = (tgt : Int)) (k : EV p l e R s m args below meth c D cI cZ A H0 nL Q cells slots r tgt L S w) : EV p l e R s m args below meth c D cI cZ A H0 nL Q cells slots r pc L (.int x :: S) w :=
  fun H locs ls hP hD hS hl => lv_tableOut X.1 X.2.1 hd h ht (k H locs ls hP hD hS hl)
theorem ev_tableIn (X : eX p s m args meth c D cI cZ A H0 y cc nL ret) {dflt lo hi : Int} {offs : Array Int} {len : Nat} {x : Int32} {off : Int} (tgt : Nat) (hd : decode cc pc = .ok (.tableswitch dflt lo hi offs, len)) (h1 : ¬ x.toInt < lo) (h2 : ¬ hi < x.toInt) (ho : offs[(x.toInt - lo).toNat]? = some off) (ht : (pc : Int) + off = (tgt : Int)) (k : EV p l e R s m args below meth c D cI cZ A H0 nL Q cells slots r tgt L S w) : EV p l e R s m args below meth c D cI cZ A H0 nL Q cells slots r pc L (.int x :: S) w :=
  fun H locs ls hP hD hS hl => lv_tableIn X.1 X.2.1 hd h1 h2 ho ht (k H locs ls hP hD hS hl)
end EVA
