/-! ===== contracts over worlds of numbered cells, calls, ends ===== -/
abbrev eRm (d mc ms : Nat) : Room := { frames := d, cells := mc, slots := ms, locals := 34 * d }
def eWs (y : MethodName) (cc : ByteArray) (nL : Nat) (ret : Option FieldType) : List Cond := .code y cc nL ret :: eT
def eB (D : va_G) (cI cZ : ClassId) (r : Nat → Nat) (w : eW) (sz : Nat) (U : State) : Prop :=
  U.heap.size = sz ∧ va_P D vwCl (e_cw cI cZ r w) U.heap ∧ va_K D vwCl (e_ty cI cZ) U ∧ va_D (fun _ => True) (e_cw cI cZ r w) ∧ eNest U
def eQN (D : va_G) (cI cZ : ClassId) (r : Nat → Nat) (A : Nat → Prop) (v : Option Value) (w' : eW) : Array Value → State → Outcome → State → Prop :=
  fun _ st oc t => oc = .returned (v.map (e_cv r)) ∧ va_P D vwCl (e_cw cI cZ r w') t.heap ∧ va_D A (e_cw cI cZ r w') ∧ va_F A st t
/-- a method that makes nothing: from world w with these arguments it comes to world w' and answers v -/
def eMN (l : Launch) (D : va_G) (cI cZ : ClassId) (d : Nat) (y : MethodName) (cc : ByteArray) (nL : Nat) (ret : Option FieldType) (As : List Value) (w : eW) (v : Option Value) (w' : eW) : Prop :=
  ∀ (r : Nat → Nat) (sz : Nat), Met l y (eWs y cc nL ret) (eRm d 0 0) (va_Pc (As.map (e_cv r)) (eB D cI cZ r w sz)) (eQN D cI cZ r (va_A (e_cw cI cZ r w) sz) v w') 0 0 (va_A (e_cw cI cZ r w) sz)
theorem eT_good {w : Cond} (h : w ∈ eT) : goodWord w = true := (List.mem_filter.mp h).2
theorem eWs_good {y : MethodName} {cc : ByteArray} {nL : Nat} {ret : Option FieldType} (hc : Cond.code y cc nL ret ∈ eT) : GoodIn eT (eWs y cc nL ret) := by
  intro w hw
  rcases List.mem_cons.mp hw with rfl | h
  · exact ⟨hc, good_of_word (eT_good hc)⟩
  · exact ⟨h, good_of_word (eT_good h)⟩
theorem eB_blind (D : va_G) (cI cZ : ClassId) (r : Nat → Nat) (w : eW) (sz : Nat) (As : List Value) : FrameBlind (va_Pc As (eB D cI cZ r w sz)) := by
  intro a U g mk q
  obtain ⟨q0, q1, qP, qK, qD, qN⟩ := q
  exact ⟨q0, q1, qP, va_K.moved (u := U) (U := U.calling g mk a) (Vm.Alike.refl U.vm) qK, qD, eNest_same (s := U) rfl qN⟩
section EVC
variable {p : Program} {l : Launch} {e : Env} {R : Room} {s : State} {m : MethodId} {args : Array Value} {below : List Frame} {meth : Method} {c : Code} {D : va_G} {cI cZ : ClassId} {A : Nat → Prop} {H0 : Heap} {nL : Nat} {Q : State → Prop} {cells slots : Nat} {r : Nat → Nat} {pc : Nat} {L L' : List (Nat × Value)} {S : List Value} {w w' : eW}
variable {y : MethodName} {cc : ByteArray} {ret : Option FieldType}
theorem e_free (hD : va_D A (e_cw cI cZ r w)) {H : Heap} {locs : List Loc} (hS : va_S A H0 H locs) (hA : ∀ q : Nat, H0.size ≤ q → A q) : ∀ q, va_A (e_cw cI cZ r w) H.size q → A q := by
  intro q h
  rcases h with ⟨k, e, h⟩ | h
  · exact hD.2 k (q, e) h
  · exact hA q (Nat.le_trans hS.1 h)
theorem ev_run (X : eX p s m args meth c D cI cZ A H0 y cc nL ret) {As : List Value} {v : Option Value}
    (hr : ∀ (H : Heap) (locs : List Loc) (ls : Array Slot), va_P D vwCl (e_cw cI cZ r w) H → va_D A (e_cw cI cZ r w) → lv_has ls nL (e_L r L) → va_Run p l e R s m args below meth c H locs cells slots 0 0 (F0 m pc ls ((As.reverse ++ S).map (e_cv r))) (S.map (e_cv r)) (eQN D cI cZ r (va_A (e_cw cI cZ r w) H.size) v w' (As.map (e_cv r)).toArray) (va_A (e_cw cI cZ r w) H.size))
    (k : EV p l e R s m args below meth c D cI cZ A H0 nL Q cells slots r (pc + 3) L (v.toList ++ S) w') : EV p l e R s m args below meth c D cI cZ A H0 nL Q cells slots r pc L (As.reverse ++ S) w := by
  intro H locs ls hP hD hS hl T hT X0
  obtain ⟨v1, st0, t, T', L2, h0, X', hL, e1, e2, ⟨hv, hP', hD', hz, hk⟩, st⟩ := hr H locs ls hP hD hl T hT X0
  have hF := e_free hD hS X.2.2.2.2.2.2.2.2.2.1
  cases hv
  rw [h0] at hz hk
  obtain ⟨t2, a1, b1⟩ := k T'.heap (locs ++ L2) ls (by rw [e1]; exact hP') (hD'.weaken (fun k q _ h => hF q.1 h))
    ⟨Nat.le_trans hS.1 (by rw [e1]; exact hz), fun q h1 h2 => by rw [e1, hk q (Nat.lt_of_lt_of_le h1 hS.1) (fun z => h2 (hF q z))]; exact hS.2.1 q h1 h2, fun q hq => by
      rcases List.mem_append.mp hq with h | h
      · exact hS.2.2 q h
      · exact hF _ (hL q h)⟩ hl T' rfl X'
  refine ⟨t2, st t2 ?_, b1⟩
  have e3 : (v.map (e_cv r)).toList ++ S.map (e_cv r) = (v.toList ++ S).map (e_cv r) := by cases v <;> simp
  rw [e3]
  exact a1
theorem e_sum (S : List Value) (r : Nat → Nat) : ((S.map (e_cv r)).map fun v => v.category).sum = (S.map fun v => v.category).sum := by
  rw [List.map_map]
  congr 1
  apply List.map_congr_left
  intro v _
  exact e_cv_cat r v
theorem e_callB (X : eX p s m args meth c D cI cZ A H0 y cc nL ret) {y1 : MethodName} {cc1 : ByteArray} {nL1 n1 d1 idx mc ms : Nat} {ret1 : Option FieldType} (hw : eMw y1 cc1 nL1 ret1 n1) (hl : Cond.methodLink y.cls idx y1 ∈ eT) (hR : d1 + 1 ≤ R.frames ∧ 8 + (nL1 + 11) + 34 * d1 ≤ R.locals) :
    CallB R s args y.cls idx y1 cc1 nL1 ret1 (eWs y1 cc1 nL1 ret1) (eRm d1 mc ms) mc ms n1 :=
  callB_of n1 X.2.2.2.2.1 (eWs_good hw.1) rfl rfl rfl (X.2.2.2.2.1 _ hw.2.1) (X.2.2.2.2.1 _ hl) hw.2.2 hR
theorem e_callN (X : eX p s m args meth c D cI cZ A H0 y cc nL ret) {y1 : MethodName} {cc1 : ByteArray} {nL1 n1 d1 idx mc ms : Nat} {ret1 : Option FieldType} {host : String} (hw : eMw y1 cc1 nL1 ret1 n1) (hl : Cond.methodLinkNest y.cls idx y1 host ∈ eNw) (hR : d1 + 1 ≤ R.frames ∧ 8 + (nL1 + 11) + 34 * d1 ≤ R.locals) :
    va_CN R s args y.cls idx y1 host cc1 nL1 ret1 (eWs y1 cc1 nL1 ret1) (eRm d1 mc ms) mc ms n1 :=
  va_cnB n1 X.2.2.2.2.1 (eWs_good hw.1) rfl rfl rfl (X.2.2.2.2.2.2.2.2.1 _ hl) (X.2.2.2.2.1 _ hw.2.1) hw.2.2 hR
theorem e_pre (X : eX p s m args meth c D cI cZ A H0 y cc nL ret) {H : Heap} (hP : va_P D vwCl (e_cw cI cZ r w) H) (hD : va_D A (e_cw cI cZ r w)) (As : List Value) : PreS s H (va_Pc As (eB D cI cZ r w H.size)) As :=
  ⟨eB_blind _ _ _ _ _ _ _, fun U hU hW => ⟨rfl, by rw [hU], by rw [hU]; exact hP, va_K.moved hW.alike X.2.2.2.2.2.2.2.1, hD.weaken (fun _ _ _ _ => trivial), eNest_warm hW X.2.2.2.2.2.2.2.2.1⟩⟩
theorem e_map_rev (r : Nat → Nat) (As S : List Value) : (As.reverse ++ S).map (e_cv r) = (As.map (e_cv r)).reverse ++ S.map (e_cv r) := by simp
/-- a static method -/
theorem ev_callS (X : eX p s m args meth c D cI cZ A H0 y cc nL ret) {y1 : MethodName} {cc1 : ByteArray} {nL1 n1 d1 idx : Nat} {ret1 : Option FieldType} (hw : eMw y1 cc1 nL1 ret1 n1) (hl : Cond.methodLink y.cls idx y1 ∈ eT) (hst : Cond.static y1 ∈ eT) (hR : d1 + 1 ≤ R.frames ∧ 8 + (nL1 + 11) + 34 * d1 ≤ R.locals) (hf : cells ≤ R.cells ∧ slots ≤ R.slots)
    {As : List Value} {v : Option Value} (hn : As.length = n1) (hS8 : (S.map fun v => v.category).sum ≤ 8) (hd : decode cc pc = .ok (.invokestatic idx, 3)) (hM : eMN l D cI cZ d1 y1 cc1 nL1 ret1 As w v w')
    (k : EV p l e R s m args below meth c D cI cZ A H0 nL Q cells slots r (pc + 3) L (v.toList ++ S) w') : EV p l e R s m args below meth c D cI cZ A H0 nL Q cells slots r pc L (As.reverse ++ S) w := by
  refine ev_run X (fun H locs ls hP hD hl2 => ?_) k
  exact va_runS (As := As.map (e_cv r)) ⟨X.1, X.2.1, X.2.2.1, X.2.2.2.1, X.2.2.2.2.1⟩ (hM r H.size) ⟨e_callB X hw hl hR, X.2.2.2.2.1 _ hst⟩ (e_pre X hP hD _) rfl (by simpa using hn) hl2.1 (e_map_rev r As S) (lv_room (by rw [e_sum]; exact hS8)) hd hf
/-- a nest mate's private static method -/
theorem ev_callSN (X : eX p s m args meth c D cI cZ A H0 y cc nL ret) {y1 : MethodName} {cc1 : ByteArray} {nL1 n1 d1 idx : Nat} {ret1 : Option FieldType} {host : String} (hw : eMw y1 cc1 nL1 ret1 n1) (hl : Cond.methodLinkNest y.cls idx y1 host ∈ eNw) (hst : Cond.static y1 ∈ eT) (hR : d1 + 1 ≤ R.frames ∧ 8 + (nL1 + 11) + 34 * d1 ≤ R.locals) (hf : cells ≤ R.cells ∧ slots ≤ R.slots)
    {As : List Value} {v : Option Value} (hn : As.length = n1) (hS8 : (S.map fun v => v.category).sum ≤ 8) (hd : decode cc pc = .ok (.invokestatic idx, 3)) (hM : eMN l D cI cZ d1 y1 cc1 nL1 ret1 As w v w')
    (k : EV p l e R s m args below meth c D cI cZ A H0 nL Q cells slots r (pc + 3) L (v.toList ++ S) w') : EV p l e R s m args below meth c D cI cZ A H0 nL Q cells slots r pc L (As.reverse ++ S) w := by
  refine ev_run X (fun H locs ls hP hD hl2 => ?_) k
  exact va_runSN (As := As.map (e_cv r)) ⟨X.1, X.2.1, X.2.2.1, X.2.2.2.1, X.2.2.2.2.1⟩ (hM r H.size) ⟨e_callN X hw hl hR, X.2.2.2.2.1 _ hst, trivial⟩ (e_pre X hP hD _) rfl (by simpa using hn) hl2.1 (e_map_rev r As S) (lv_room (by rw [e_sum]; exact hS8)) hd hf
/-- a method of an object -/
theorem ev_callV (X : eX p s m args meth c D cI cZ A H0 y cc nL ret) {y1 : MethodName} {cc1 : ByteArray} {nL1 n1 d1 idx ci o : Nat} {ret1 : Option FieldType} {q : vw_C} (hw : eMw y1 cc1 nL1 ret1 n1) (hl : Cond.methodLink y.cls idx y1 ∈ eT) (hin : Cond.instanceMethod y1 ∈ eT) (hse : Cond.selects y1.cls y1 y1 ∈ eT) (hq : vwCl[ci]? = some q ∧ q.1 = y1.cls) (hR : d1 + 1 ≤ R.frames ∧ 8 + (nL1 + 11) + 34 * d1 ≤ R.locals) (hf : cells ≤ R.cells ∧ slots ≤ R.slots)
    {As : List Value} {v : Option Value} (hn : As.length = n1) (hS8 : (S.map fun v => v.category).sum ≤ 8) (hd : decode cc pc = .ok (.invokevirtual idx, 3)) (ho : eO w o ci = true) (hM : eMN l D cI cZ d1 y1 cc1 nL1 ret1 (.ref o :: As) w v w')
    (k : EV p l e R s m args below meth c D cI cZ A H0 nL Q cells slots r (pc + 3) L (v.toList ++ S) w') : EV p l e R s m args below meth c D cI cZ A H0 nL Q cells slots r pc L (As.reverse ++ .ref o :: S) w := by
  have e0 : As.reverse ++ .ref o :: S = (Value.ref o :: As).reverse ++ S := by simp
  rw [e0]
  refine ev_run X (fun H locs ls hP hD hl2 => ?_) k
  obtain ⟨fs, hfs⟩ := eO_at ho
  have hp := e_pre X hP hD ((Value.ref o :: As).map (e_cv r))
  have hrc := va_recv X.2.2.2.2.2.2.2.1 hP hq.1 (e_cw_at hfs)
  rw [hq.2] at hrc
  exact va_runV (As := As.map (e_cv r)) (b := r o) (rest := S.map (e_cv r)) ⟨X.1, X.2.1, X.2.2.1, X.2.2.2.1, X.2.2.2.2.1⟩ (hM r H.size) ⟨e_callB X hw hl hR, X.2.2.2.2.1 _ hin, X.2.2.2.2.1 _ hse⟩ ⟨hp.1, hrc, hp.2⟩ rfl (by simpa using hn) hl2.1 (by simp [e_cv]) (lv_room (by rw [e_sum]; exact hS8)) hd hf
/-- a constructor that makes nothing -/
theorem ev_callI (X : eX p s m args meth c D cI cZ A H0 y cc nL ret) {y1 : MethodName} {cc1 : ByteArray} {nL1 n1 d1 idx o : Nat} (hw : eMw y1 cc1 nL1 none n1) (hl : Cond.methodLink y.cls idx y1 ∈ eT) (hin : Cond.instanceMethod y1 ∈ eT) (hy : y1.name = "<init>") (hR : d1 + 1 ≤ R.frames ∧ 8 + (nL1 + 11) + 34 * d1 ≤ R.locals) (hf : cells ≤ R.cells ∧ slots ≤ R.slots)
    {As : List Value} (hn : As.length = n1) (hS8 : (S.map fun v => v.category).sum ≤ 8) (hd : decode cc pc = .ok (.invokespecial idx, 3)) (hM : eMN l D cI cZ d1 y1 cc1 nL1 none (.ref o :: As) w none w')
    (k : EV p l e R s m args below meth c D cI cZ A H0 nL Q cells slots r (pc + 3) L S w') : EV p l e R s m args below meth c D cI cZ A H0 nL Q cells slots r pc L (As.reverse ++ .ref o :: S) w := by
  have e0 : As.reverse ++ .ref o :: S = (Value.ref o :: As).reverse ++ S := by simp
  rw [e0]
  refine ev_run X (v := none) (fun H locs ls hP hD hl2 => ?_) k
  exact va_runI (As := As.map (e_cv r)) (b := r o) (rest := S.map (e_cv r)) ⟨X.1, X.2.1, X.2.2.1, X.2.2.2.1, X.2.2.2.2.1⟩ (hM r H.size) ⟨e_callB X hw hl hR, hy, X.2.2.2.2.1 _ hin⟩ (e_pre X hP hD _) rfl (by simpa using hn) hl2.1 (by simp [e_cv]) (lv_room (by rw [e_sum]; exact hS8)) hd hf
theorem ev_objInit (X : eX p s m args meth c D cI cZ A H0 y cc nL ret) {idx o : Nat} (hl : Cond.methodLink y.cls idx objectInit ∈ eT) (h1 : Cond.instanceMethod objectInit ∈ eT) (h2 : Cond.code objectInit ⟨#[0xb1]⟩ 1 none ∈ eT) (hd : decode cc pc = .ok (.invokespecial idx, 3)) (hf : 1 ≤ R.frames) (hlo : (S.map fun v => v.category).sum + 12 ≤ R.locals)
    (k : EV p l e R s m args below meth c D cI cZ A H0 nL Q cells slots r (pc + 3) L S w) : EV p l e R s m args below meth c D cI cZ A H0 nL Q cells slots r pc L (.ref o :: S) w := by
  intro H locs ls hP hD hS hls
  refine W.objInit X.1 X.2.1 X.2.2.2.1 (X.2.2.2.2.1 _ hl) (X.2.2.2.2.1 _ h1) (X.2.2.2.2.1 _ h2) rfl (by rw [X.2.2.1]; exact hls.1) (a := r o) (rest := S.map (e_cv r)) rfl hd hf ?_ (k H locs ls hP hD hS hls)
  have := e_sum S r
  show 2 * 0 + _ + 12 ≤ _
  omega
/-! ends -/
abbrev eQ (below : List Frame) (D : va_G) (cI cZ : ClassId) (r : Nat → Nat) (A : Nat → Prop) (args : Array Value) (s : State) (v : Option Value) (w' : eW) : State → Prop := MQ below (eQN D cI cZ r A v w') args s 0 0 A
theorem e_end {H : Heap} {locs : List Loc} (hP : va_P D vwCl (e_cw cI cZ r w) H) (hD : va_D A (e_cw cI cZ r w)) (hS : va_S A s.heap H locs) {v : Option Value} : ∀ t : State, t.heap = H → s.WarmedH t.vm → eQN D cI cZ r A v w args s (.returned (v.map (e_cv r))) t :=
  fun t ht _ => ⟨rfl, by rw [ht]; exact hP, hD, hS.F ht⟩
theorem ev_vret (X : eX p s m args meth c D cI cZ A s.heap y cc nL none) (hd : decode cc pc = .ok (.return_, 1)) : EV p l e R s m args below meth c D cI cZ A s.heap nL (eQ below D cI cZ r A args s none w) 0 0 r pc L [] w :=
  fun H locs ls hP hD hS hl => W.vret X.1 X.2.1 X.2.2.2.2.2.1 (e_end (v := none) hP hD hS) hS.2.2 hd X.2.2.2.2.2.2.1
theorem ev_iret (X : eX p s m args meth c D cI cZ A s.heap y cc nL (some .int)) {x : Int32} (hd : decode cc pc = .ok (.ireturn, 1)) : EV p l e R s m args below meth c D cI cZ A s.heap nL (eQ below D cI cZ r A args s (some (.int x)) w) 0 0 r pc L [.int x] w :=
  fun H locs ls hP hD hS hl => W.iret X.1 X.2.1 X.2.2.2.2.2.1 (e_end (v := some (.int x)) hP hD hS) hS.2.2 hd X.2.2.2.2.2.2.1
theorem ev_zret (X : eX p s m args meth c D cI cZ A s.heap y cc nL (some .boolean)) {x x' : Int32} (hd : decode cc pc = .ok (.ireturn, 1)) (hz : eZ x = some x') : EV p l e R s m args below meth c D cI cZ A s.heap nL (eQ below D cI cZ r A args s (some (.int x')) w) 0 0 r pc L [.int x] w := by
  obtain ⟨h1, rfl⟩ := eZ_at hz
  exact fun H locs ls hP hD hS hl => W.zret X.1 X.2.1 X.2.2.2.2.2.1 (eZ_nar h1).1 (e_end (v := some (.int x')) hP hD hS) hS.2.2 hd X.2.2.2.2.2.2.1
theorem ev_lret (X : eX p s m args meth c D cI cZ A s.heap y cc nL (some .long)) {x : Int64} (hd : decode cc pc = .ok (.lreturn, 1)) : EV p l e R s m args below meth c D cI cZ A s.heap nL (eQ below D cI cZ r A args s (some (.long x)) w) 0 0 r pc L [.long x] w :=
  fun H locs ls hP hD hS hl => W.lret X.1 X.2.1 X.2.2.2.2.2.1 (e_end (v := some (.long x)) hP hD hS) hS.2.2 hd X.2.2.2.2.2.2.1
theorem ev_aret {rt : String} (X : eX p s m args meth c D cI cZ A s.heap y cc nL (some (.object rt))) {x : Nat} (hd : decode cc pc = .ok (.areturn, 1)) : EV p l e R s m args below meth c D cI cZ A s.heap nL (eQ below D cI cZ r A args s (some (.ref x)) w) 0 0 r pc L [.ref x] w :=
  fun H locs ls hP hD hS hl => W.aret X.1 X.2.1 X.2.2.2.2.2.1 (Or.inl ⟨_, rfl⟩) (Or.inr ⟨_, rfl⟩) (e_end (v := some (.ref x)) hP hD hS) hS.2.2 hd X.2.2.2.2.2.2.1
end EVC
/-- a block of a method that makes nothing: from pc on with these locals and this stack it ends with v in world w' -/
def eBN (l : Launch) (D : va_G) (cI cZ : ClassId) (d : Nat) (y : MethodName) (cc : ByteArray) (nL : Nat) (ret : Option FieldType) (pc : Nat) (L : List (Nat × Value)) (S : List Value) (w : eW) (v : Option Value) (w' : eW) : Prop :=
  ∀ (p : Program) (e : Env) (s : State) (m : MethodId) (args : Array Value) (below : List Frame) (meth : Method) (c : Code) (r : Nat → Nat) (A : Nat → Prop), eX p s m args meth c D cI cZ A s.heap y cc nL ret →
    EV p l e (eRm d 0 0) s m args below meth c D cI cZ A s.heap nL (eQ below D cI cZ r A args s v w') 0 0 r pc L S w
theorem eMN_of {l : Launch} {D : va_G} {cI cZ : ClassId} {d : Nat} {y : MethodName} {cc : ByteArray} {nL : Nat} {ret : Option FieldType} {As : List Value} {w w' : eW} {v : Option Value} (L : List (Nat × Value)) (hy : plainFor y = true) (hL : ∀ r, lv_args 0 (As.map (e_cv r)) = e_L r L) (hn : ∀ r, (lg_sl (As.map (e_cv r))).length ≤ nL)
    (h : eBN l D cI cZ d y cc nL ret 0 L [] w v w') : eMN l D cI cZ d y cc nL ret As w v w' := by
  intro r sz
  refine va_MetF (cc := cc) (maxL := nL) (ret := ret) hy rfl ?_
  intro p e s m args below meth c s₁ B hml hv
  obtain ⟨rfl, hsz, hP, hK, hD0, hN⟩ := hv
  have hts := atoms_spec (ws := eWs y cc nL ret) B.pre
  subst hsz
  have X : eX p s m (As.map (e_cv r)).toArray meth c D cI cZ (va_A (e_cw cI cZ r w) s.heap.size) s.heap y cc nL ret :=
    ⟨B.exec, B.bytes, hml, findClass_of_methodNamed B.named, fun w h => hts w (List.mem_cons_of_mem _ h), B.returns, B.notSynchronized, hK, hN, fun q h => Or.inr h, (name_of_methodNamed B.named B.method).1⟩
  have hl := lv_entry (As.map (e_cv r)) (hn r)
  rw [hL] at hl
  rw [lg_entry_eq]
  exact h p e s m _ below meth c r _ X s.heap [] _ hP (hD0.self (sz := s.heap.size)) va_S.rf hl
