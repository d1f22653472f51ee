/-! ===== helpers of the printed walks ===== -/
def eN : Nat := 1024
def eBind2 {α β : Type} (o : Option (α × eW)) (f : α → eW → Option β) : Option β := o.bind (fun q => f q.1 q.2)
theorem eBi {α β : Type} {o : Option α} {f : α → Option β} {r : β} (h : o.bind f = some r) : ∃ x, o = some x ∧ f x = some r := Option.bind_eq_some_iff.mp h
theorem eB2 {α β : Type} {o : Option (α × eW)} {f : α → eW → Option β} {r : β} (h : eBind2 o f = some r) : ∃ x w, o = some (x, w) ∧ f x w = some r := by
  obtain ⟨⟨x, w⟩, h1, h2⟩ := eBi h
  exact ⟨x, w, h1, h2⟩
theorem eNz {β : Type} {v : Int32} {f : Option β} {r : β} (h : (if v = 0 then none else f) = some r) : ¬ v = 0 ∧ f = some r := by
  by_cases hv : v = 0
  · rw [if_pos hv] at h; cases h
  · rw [if_neg hv] at h; exact ⟨hv, h⟩
theorem eBif {β : Type} {b : Bool} {f : Option β} {r : β} (h : (bif b then f else none) = some r) : b = true ∧ f = some r := by
  cases b with
  | true => exact ⟨rfl, h⟩
  | false => cases h
section EVD
variable {p : Program} {l : Launch} {e : Env} {R : Room} {s : State} {m : MethodId} {args : Array Value} {below : List Frame} {meth : Method} {c : Code} {D : va_G} {cI cZ : ClassId} {A : Nat → Prop} {H0 : Heap} {nL : Nat} {Q : State → Prop} {cells slots : Nat} {r : Nat → Nat} {pc : Nat} {L : List (Nat × Value)} {S S' : List Value} {w w' : eW}
variable {y : MethodName} {cc : ByteArray} {ret : Option FieldType}
theorem ev_callV_i (X : eX p s m args meth c D cI cZ A H0 y cc nL ret) {y1 : MethodName} {cc1 : ByteArray} {nL1 n1 d1 idx ci o : Nat} {ret1 : Option FieldType} {q : vw_C} {x : Int32} (hw : eMw y1 cc1 nL1 ret1 n1) (hl : Cond.methodLink y.cls idx y1 ∈ eT) (hin : Cond.instanceMethod y1 ∈ eT) (hse : Cond.selects y1.cls y1 y1 ∈ eT) (hq : vwCl[ci]? = some q ∧ q.1 = y1.cls) (hR : d1 + 1 ≤ R.frames ∧ 8 + (nL1 + 11) + 34 * d1 ≤ R.locals) (hf : cells ≤ R.cells ∧ slots ≤ R.slots)
    {As : List Value} (hn : As.length = n1) (hS8 : (S.map fun v => v.category).sum ≤ 8) (hd : decode cc pc = .ok (.invokevirtual idx, 3)) (hs : As.reverse ++ .ref o :: S = S') (ho : eO w o ci = true) (hM : eMN l D cI cZ d1 y1 cc1 nL1 ret1 (.ref o :: As) w (some (.int x)) w')
    (k : EV p l e R s m args below meth c D cI cZ A H0 nL Q cells slots r (pc + 3) L (.int x :: S) w') : EV p l e R s m args below meth c D cI cZ A H0 nL Q cells slots r pc L S' w := by
  subst hs
  exact ev_callV X hw hl hin hse hq hR hf hn hS8 hd ho hM k
theorem ev_callS_i (X : eX p s m args meth c D cI cZ A H0 y cc nL ret) {y1 : MethodName} {cc1 : ByteArray} {nL1 n1 d1 idx : Nat} {ret1 : Option FieldType} {x : Int32} (hw : eMw y1 cc1 nL1 ret1 n1) (hl : Cond.methodLink y.cls idx y1 ∈ eT) (hst : Cond.static y1 ∈ eT) (hR : d1 + 1 ≤ R.frames ∧ 8 + (nL1 + 11) + 34 * d1 ≤ R.locals) (hf : cells ≤ R.cells ∧ slots ≤ R.slots)
    {As : List Value} (hn : As.length = n1) (hS8 : (S.map fun v => v.category).sum ≤ 8) (hd : decode cc pc = .ok (.invokestatic idx, 3)) (hs : As.reverse ++ S = S') (hM : eMN l D cI cZ d1 y1 cc1 nL1 ret1 As w (some (.int x)) w')
    (k : EV p l e R s m args below meth c D cI cZ A H0 nL Q cells slots r (pc + 3) L (.int x :: S) w') : EV p l e R s m args below meth c D cI cZ A H0 nL Q cells slots r pc L S' w := by
  subst hs
  exact ev_callS X hw hl hst hR hf hn hS8 hd hM k
theorem ev_callSN_i (X : eX p s m args meth c D cI cZ A H0 y cc nL ret) {y1 : MethodName} {cc1 : ByteArray} {nL1 n1 d1 idx : Nat} {ret1 : Option FieldType} {host : String} {x : Int32} (hw : eMw y1 cc1 nL1 ret1 n1) (hl : Cond.methodLinkNest y.cls idx y1 host ∈ eNw) (hst : Cond.static y1 ∈ eT) (hR : d1 + 1 ≤ R.frames ∧ 8 + (nL1 + 11) + 34 * d1 ≤ R.locals) (hf : cells ≤ R.cells ∧ slots ≤ R.slots)
    {As : List Value} (hn : As.length = n1) (hS8 : (S.map fun v => v.category).sum ≤ 8) (hd : decode cc pc = .ok (.invokestatic idx, 3)) (hs : As.reverse ++ S = S') (hM : eMN l D cI cZ d1 y1 cc1 nL1 ret1 As w (some (.int x)) w')
    (k : EV p l e R s m args below meth c D cI cZ A H0 nL Q cells slots r (pc + 3) L (.int x :: S) w') : EV p l e R s m args below meth c D cI cZ A H0 nL Q cells slots r pc L S' w := by
  subst hs
  exact ev_callSN X hw hl hst hR hf hn hS8 hd hM k
theorem ev_callV_l (X : eX p s m args meth c D cI cZ A H0 y cc nL ret) {y1 : MethodName} {cc1 : ByteArray} {nL1 n1 d1 idx ci o : Nat} {ret1 : Option FieldType} {q : vw_C} {x : Int64} (hw : eMw y1 cc1 nL1 ret1 n1) (hl : Cond.methodLink y.cls idx y1 ∈ eT) (hin : Cond.instanceMethod y1 ∈ eT) (hse : Cond.selects y1.cls y1 y1 ∈ eT) (hq : vwCl[ci]? = some q ∧ q.1 = y1.cls) (hR : d1 + 1 ≤ R.frames ∧ 8 + (nL1 + 11) + 34 * d1 ≤ R.locals) (hf : cells ≤ R.cells ∧ slots ≤ R.slots)
    {As : List Value} (hn : As.length = n1) (hS8 : (S.map fun v => v.category).sum ≤ 8) (hd : decode cc pc = .ok (.invokevirtual idx, 3)) (hs : As.reverse ++ .ref o :: S = S') (ho : eO w o ci = true) (hM : eMN l D cI cZ d1 y1 cc1 nL1 ret1 (.ref o :: As) w (some (.long x)) w')
    (k : EV p l e R s m args below meth c D cI cZ A H0 nL Q cells slots r (pc + 3) L (.long x :: S) w') : EV p l e R s m args below meth c D cI cZ A H0 nL Q cells slots r pc L S' w := by
  subst hs
  exact ev_callV X hw hl hin hse hq hR hf hn hS8 hd ho hM k
theorem ev_callS_l (X : eX p s m args meth c D cI cZ A H0 y cc nL ret) {y1 : MethodName} {cc1 : ByteArray} {nL1 n1 d1 idx : Nat} {ret1 : Option FieldType} {x : Int64} (hw : eMw y1 cc1 nL1 ret1 n1) (hl : Cond.methodLink y.cls idx y1 ∈ eT) (hst : Cond.static y1 ∈ eT) (hR : d1 + 1 ≤ R.frames ∧ 8 + (nL1 + 11) + 34 * d1 ≤ R.locals) (hf : cells ≤ R.cells ∧ slots ≤ R.slots)
    {As : List Value} (hn : As.length = n1) (hS8 : (S.map fun v => v.category).sum ≤ 8) (hd : decode cc pc = .ok (.invokestatic idx, 3)) (hs : As.reverse ++ S = S') (hM : eMN l D cI cZ d1 y1 cc1 nL1 ret1 As w (some (.long x)) w')
    (k : EV p l e R s m args below meth c D cI cZ A H0 nL Q cells slots r (pc + 3) L (.long x :: S) w') : EV p l e R s m args below meth c D cI cZ A H0 nL Q cells slots r pc L S' w := by
  subst hs
  exact ev_callS X hw hl hst hR hf hn hS8 hd hM k
theorem ev_callSN_l (X : eX p s m args meth c D cI cZ A H0 y cc nL ret) {y1 : MethodName} {cc1 : ByteArray} {nL1 n1 d1 idx : Nat} {ret1 : Option FieldType} {host : String} {x : Int64} (hw : eMw y1 cc1 nL1 ret1 n1) (hl : Cond.methodLinkNest y.cls idx y1 host ∈ eNw) (hst : Cond.static y1 ∈ eT) (hR : d1 + 1 ≤ R.frames ∧ 8 + (nL1 + 11) + 34 * d1 ≤ R.locals) (hf : cells ≤ R.cells ∧ slots ≤ R.slots)
    {As : List Value} (hn : As.length = n1) (hS8 : (S.map fun v => v.category).sum ≤ 8) (hd : decode cc pc = .ok (.invokestatic idx, 3)) (hs : As.reverse ++ S = S') (hM : eMN l D cI cZ d1 y1 cc1 nL1 ret1 As w (some (.long x)) w')
    (k : EV p l e R s m args below meth c D cI cZ A H0 nL Q cells slots r (pc + 3) L (.long x :: S) w') : EV p l e R s m args below meth c D cI cZ A H0 nL Q cells slots r pc L S' w := by
  subst hs
  exact ev_callSN X hw hl hst hR hf hn hS8 hd hM k
theorem ev_callV_r (X : eX p s m args meth c D cI cZ A H0 y cc nL ret) {y1 : MethodName} {cc1 : ByteArray} {nL1 n1 d1 idx ci o : Nat} {ret1 : Option FieldType} {q : vw_C} {x : Nat} (hw : eMw y1 cc1 nL1 ret1 n1) (hl : Cond.methodLink y.cls idx y1 ∈ eT) (hin : Cond.instanceMethod y1 ∈ eT) (hse : Cond.selects y1.cls y1 y1 ∈ eT) (hq : vwCl[ci]? = some q ∧ q.1 = y1.cls) (hR : d1 + 1 ≤ R.frames ∧ 8 + (nL1 + 11) + 34 * d1 ≤ R.locals) (hf : cells ≤ R.cells ∧ slots ≤ R.slots)
    {As : List Value} (hn : As.length = n1) (hS8 : (S.map fun v => v.category).sum ≤ 8) (hd : decode cc pc = .ok (.invokevirtual idx, 3)) (hs : As.reverse ++ .ref o :: S = S') (ho : eO w o ci = true) (hM : eMN l D cI cZ d1 y1 cc1 nL1 ret1 (.ref o :: As) w (some (.ref x)) w')
    (k : EV p l e R s m args below meth c D cI cZ A H0 nL Q cells slots r (pc + 3) L (.ref x :: S) w') : EV p l e R s m args below meth c D cI cZ A H0 nL Q cells slots r pc L S' w := by
  subst hs
  exact ev_callV X hw hl hin hse hq hR hf hn hS8 hd ho hM k
theorem ev_callS_r (X : eX p s m args meth c D cI cZ A H0 y cc nL ret) {y1 : MethodName} {cc1 : ByteArray} {nL1 n1 d1 idx : Nat} {ret1 : Option FieldType} {x : Nat} (hw : eMw y1 cc1 nL1 ret1 n1) (hl : Cond.methodLink y.cls idx y1 ∈ eT) (hst : Cond.static y1 ∈ eT) (hR : d1 + 1 ≤ R.frames ∧ 8 + (nL1 + 11) + 34 * d1 ≤ R.locals) (hf : cells ≤ R.cells ∧ slots ≤ R.slots)
    {As : List Value} (hn : As.length = n1) (hS8 : (S.map fun v => v.category).sum ≤ 8) (hd : decode cc pc = .ok (.invokestatic idx, 3)) (hs : As.reverse ++ S = S') (hM : eMN l D cI cZ d1 y1 cc1 nL1 ret1 As w (some (.ref x)) w')
    (k : EV p l e R s m args below meth c D cI cZ A H0 nL Q cells slots r (pc + 3) L (.ref x :: S) w') : EV p l e R s m args below meth c D cI cZ A H0 nL Q cells slots r pc L S' w := by
  subst hs
  exact ev_callS X hw hl hst hR hf hn hS8 hd hM k
theorem ev_callSN_r (X : eX p s m args meth c D cI cZ A H0 y cc nL ret) {y1 : MethodName} {cc1 : ByteArray} {nL1 n1 d1 idx : Nat} {ret1 : Option FieldType} {host : String} {x : Nat} (hw : eMw y1 cc1 nL1 ret1 n1) (hl : Cond.methodLinkNest y.cls idx y1 host ∈ eNw) (hst : Cond.static y1 ∈ eT) (hR : d1 + 1 ≤ R.frames ∧ 8 + (nL1 + 11) + 34 * d1 ≤ R.locals) (hf : cells ≤ R.cells ∧ slots ≤ R.slots)
    {As : List Value} (hn : As.length = n1) (hS8 : (S.map fun v => v.category).sum ≤ 8) (hd : decode cc pc = .ok (.invokestatic idx, 3)) (hs : As.reverse ++ S = S') (hM : eMN l D cI cZ d1 y1 cc1 nL1 ret1 As w (some (.ref x)) w')
    (k : EV p l e R s m args below meth c D cI cZ A H0 nL Q cells slots r (pc + 3) L (.ref x :: S) w') : EV p l e R s m args below meth c D cI cZ A H0 nL Q cells slots r pc L S' w := by
  subst hs
  exact ev_callSN X hw hl hst hR hf hn hS8 hd hM k
theorem ev_callV_v (X : eX p s m args meth c D cI cZ A H0 y cc nL ret) {y1 : MethodName} {cc1 : ByteArray} {nL1 n1 d1 idx ci o : Nat} {ret1 : Option FieldType} {q : vw_C}  (hw : eMw y1 cc1 nL1 ret1 n1) (hl : Cond.methodLink y.cls idx y1 ∈ eT) (hin : Cond.instanceMethod y1 ∈ eT) (hse : Cond.selects y1.cls y1 y1 ∈ eT) (hq : vwCl[ci]? = some q ∧ q.1 = y1.cls) (hR : d1 + 1 ≤ R.frames ∧ 8 + (nL1 + 11) + 34 * d1 ≤ R.locals) (hf : cells ≤ R.cells ∧ slots ≤ R.slots)
    {As : List Value} (hn : As.length = n1) (hS8 : (S.map fun v => v.category).sum ≤ 8) (hd : decode cc pc = .ok (.invokevirtual idx, 3)) (hs : As.reverse ++ .ref o :: S = S') (ho : eO w o ci = true) (hM : eMN l D cI cZ d1 y1 cc1 nL1 ret1 (.ref o :: As) w none w')
    (k : EV p l e R s m args below meth c D cI cZ A H0 nL Q cells slots r (pc + 3) L S w') : EV p l e R s m args below meth c D cI cZ A H0 nL Q cells slots r pc L S' w := by
  subst hs
  exact ev_callV X hw hl hin hse hq hR hf hn hS8 hd ho hM k
theorem ev_callS_v (X : eX p s m args meth c D cI cZ A H0 y cc nL ret) {y1 : MethodName} {cc1 : ByteArray} {nL1 n1 d1 idx : Nat} {ret1 : Option FieldType}  (hw : eMw y1 cc1 nL1 ret1 n1) (hl : Cond.methodLink y.cls idx y1 ∈ eT) (hst : Cond.static y1 ∈ eT) (hR : d1 + 1 ≤ R.frames ∧ 8 + (nL1 + 11) + 34 * d1 ≤ R.locals) (hf : cells ≤ R.cells ∧ slots ≤ R.slots)
    {As : List Value} (hn : As.length = n1) (hS8 : (S.map fun v => v.category).sum ≤ 8) (hd : decode cc pc = .ok (.invokestatic idx, 3)) (hs : As.reverse ++ S = S') (hM : eMN l D cI cZ d1 y1 cc1 nL1 ret1 As w none w')
    (k : EV p l e R s m args below meth c D cI cZ A H0 nL Q cells slots r (pc + 3) L S w') : EV p l e R s m args below meth c D cI cZ A H0 nL Q cells slots r pc L S' w := by
  subst hs
  exact ev_callS X hw hl hst hR hf hn hS8 hd hM k
theorem ev_callSN_v (X : eX p s m args meth c D cI cZ A H0 y cc nL ret) {y1 : MethodName} {cc1 : ByteArray} {nL1 n1 d1 idx : Nat} {ret1 : Option FieldType} {host : String}  (hw : eMw y1 cc1 nL1 ret1 n1) (hl : Cond.methodLinkNest y.cls idx y1 host ∈ eNw) (hst : Cond.static y1 ∈ eT) (hR : d1 + 1 ≤ R.frames ∧ 8 + (nL1 + 11) + 34 * d1 ≤ R.locals) (hf : cells ≤ R.cells ∧ slots ≤ R.slots)
    {As : List Value} (hn : As.length = n1) (hS8 : (S.map fun v => v.category).sum ≤ 8) (hd : decode cc pc = .ok (.invokestatic idx, 3)) (hs : As.reverse ++ S = S') (hM : eMN l D cI cZ d1 y1 cc1 nL1 ret1 As w none w')
    (k : EV p l e R s m args below meth c D cI cZ A H0 nL Q cells slots r (pc + 3) L S w') : EV p l e R s m args below meth c D cI cZ A H0 nL Q cells slots r pc L S' w := by
  subst hs
  exact ev_callSN X hw hl hst hR hf hn hS8 hd hM k
end EVD
