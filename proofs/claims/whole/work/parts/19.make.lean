/-! ===== helpers of the constructors' walks ===== -/
def eFsh (n : Nat) (L : List (Nat × Value)) (S : List Value) : Bool := eFl n L && S.all (eFr n)
def eNewO (w : eW) (L : List (Nat × Value)) (S : List Value) (ci : Nat) (fs : List Value) : Option (Nat × eW) := bif eFw w.length w && eFsh w.length L S then some (w.length, w ++ [.inr (ci, fs)]) else none
def eNewA (b : Bool) (w : eW) (L : List (Nat × Value)) (S : List Value) (n : Int32) : Option (Nat × eW) := bif eFw w.length w && eFsh w.length L S && decide (¬ n < 0 ∧ n.toNatClampNeg ≤ 100000) then some (w.length, w ++ [.inl (b, n.toNatClampNeg, fun _ => 0)]) else none
theorem eIfb {β : Type} {b : Bool} {f : Option β} {r : β} (h : (if b = true then f else none) = some r) : b = true ∧ f = some r := by
  by_cases hb : b = true
  · rw [if_pos hb] at h; exact ⟨hb, h⟩
  · rw [if_neg hb] at h; cases h
theorem eIfp {β : Type} {P Q : Prop} [Decidable P] [Decidable Q] {f : Option β} {r : β} (h : (if P ∧ Q then f else none) = some r) : (P ∧ Q) ∧ f = some r := by
  by_cases hb : P ∧ Q
  · rw [if_pos hb] at h; exact ⟨hb, h⟩
  · rw [if_neg hb] at h; cases h
theorem eSt_len {w w1 : eW} {b : Bool} {a : Nat} {i x : Int32} (h : eSt w b a i x = some w1) : w1.length = w.length ∧ e_wsz w1 = e_wsz w := by
  obtain ⟨n, f, h1, h2, rfl⟩ := eSt_at h
  refine ⟨by simp, ?_⟩
  have hlt := (List.getElem?_eq_some_iff.mp h1).1
  unfold e_wsz
  congr 1
  apply List.ext_getElem?
  intro j
  rw [List.getElem?_map, List.getElem?_map, List.getElem?_set]
  by_cases hj : a = j
  · subst hj
    rw [h1]
    simp [hlt, e_sz]
  · simp [hj]
section EVE
variable {l : Launch} {D : va_G} {cI cZ : ClassId} {d : Nat} {y : MethodName} {cc : ByteArray} {nL : Nat} {pc : Nat} {L : List (Nat × Value)} {S S' : List Value} {w w1 w' : eW}
theorem eBA_newO {ci : Nat} {C : String} {T : u_T} {N : Nat} {ty : Nat → FieldType} (hC : eCl ci C T N ty) {idx : Nat} (hcl : Cond.classLink y.cls idx C ∈ eT) (hin : Cond.instantiable C N ∈ eT) (hini : Cond.initialized C ∈ eT) {fs : List Value} (hN : fs.length = N) (hfs : ∀ r : Nat → Nat, fs.map (e_cv r) = fs) (hdef : ∀ j, j < N → defaultValue (ty j) = vp_V fs j)
    (hd : decode cc pc = .ok (.new idx, 3)) {o : Nat} (hn : eNewO w L S ci fs = some (o, w1))
    (k : eBA l D cI cZ d y cc nL (pc + 3) L (.ref o :: S) w1 w') : eBA l D cI cZ d y cc nL pc L S w w' := by
  unfold eNewO at hn
  obtain ⟨h0, h⟩ := eBif hn
  simp only [Bool.and_eq_true, eFsh] at h0
  cases h
  exact eBA_new hC hcl hin hini hN hfs hdef hd h0.1 h0.2.1 h0.2.2 k
theorem eBA_newAi (har : Cond.arrayClass .int ∈ eT) {n : Int32} (hd : decode cc pc = .ok (.newarray .int, 2)) {o : Nat} (hn : eNewA false w L S n = some (o, w1))
    (k : eBA l D cI cZ d y cc nL (pc + 2) L (.ref o :: S) w1 w') : eBA l D cI cZ d y cc nL pc L (.int n :: S) w w' := by
  unfold eNewA at hn
  obtain ⟨h0, h⟩ := eBif hn
  simp only [Bool.and_eq_true, eFsh, decide_eq_true_eq] at h0
  cases h
  exact eBA_newa har hd h0.2.1 rfl h0.2.2 h0.1.1 h0.1.2.1 h0.1.2.2 k
theorem eBA_newAz (har : Cond.arrayClass .boolean ∈ eT) {n : Int32} (hd : decode cc pc = .ok (.newarray .boolean, 2)) {o : Nat} (hn : eNewA true w L S n = some (o, w1))
    (k : eBA l D cI cZ d y cc nL (pc + 2) L (.ref o :: S) w1 w') : eBA l D cI cZ d y cc nL pc L (.int n :: S) w w' := by
  unfold eNewA at hn
  obtain ⟨h0, h⟩ := eBif hn
  simp only [Bool.and_eq_true, eFsh, decide_eq_true_eq] at h0
  cases h
  exact eBA_newz har hd h0.2.1 rfl h0.2.2 h0.1.1 h0.1.2.1 h0.1.2.2 k
theorem eBA_callf {y1 : MethodName} {cc1 : ByteArray} {nL1 n1 d1 idx o : Nat} (hw : eMw y1 cc1 nL1 none n1) (hl : Cond.methodLink y.cls idx y1 ∈ eT) (hin : Cond.instanceMethod y1 ∈ eT) (hy : y1.name = "<init>") (hR : d1 + 1 ≤ d ∧ 8 + (nL1 + 11) + 34 * d1 ≤ 34 * d)
    {As : List Value} (hn : As.length = n1) (hS8 : (S.map fun v => v.category).sum ≤ 8) (hd : decode cc pc = .ok (.invokespecial idx, 3)) (hs : As.reverse ++ .ref o :: S = S') (hM : eMA l D cI cZ d1 y1 cc1 nL1 (.ref o :: As) w w1) (hfs : eFsh w.length L S = true)
    (k : eBA l D cI cZ d y cc nL (pc + 3) L S w1 w') : eBA l D cI cZ d y cc nL pc L S' w w' := by
  subst hs
  simp only [eFsh, Bool.and_eq_true] at hfs
  exact eBA_call hw hl hin hy hR hn hS8 hd hM hfs.1 hfs.2 k
theorem eBA_callfN {y1 : MethodName} {cc1 : ByteArray} {nL1 n1 d1 idx o : Nat} {host : String} (hw : eMw y1 cc1 nL1 none n1) (hl : Cond.methodLinkNest y.cls idx y1 host ∈ eNw) (hin : Cond.instanceMethod y1 ∈ eT) (hy : y1.name = "<init>") (hR : d1 + 1 ≤ d ∧ 8 + (nL1 + 11) + 34 * d1 ≤ 34 * d)
    {As : List Value} (hn : As.length = n1) (hS8 : (S.map fun v => v.category).sum ≤ 8) (hd : decode cc pc = .ok (.invokespecial idx, 3)) (hs : As.reverse ++ .ref o :: S = S') (hM : eMA l D cI cZ d1 y1 cc1 nL1 (.ref o :: As) w w1) (hfs : eFsh w.length L S = true)
    (k : eBA l D cI cZ d y cc nL (pc + 3) L S w1 w') : eBA l D cI cZ d y cc nL pc L S' w w' := by
  subst hs
  simp only [eFsh, Bool.and_eq_true] at hfs
  exact eBA_callN hw hl hin hy hR hn hS8 hd hM hfs.1 hfs.2 k
end EVE
section GEN
variable {l : Launch} {D : va_G} {cI cZ : ClassId}
theorem dX7_init_0 : decode cX7_init 0 = .ok (.aload_n 0, 1) := by decide +kernel
theorem dX7_init_1 : decode cX7_init 1 = .ok (.invokespecial 1, 3) := by decide +kernel
theorem dX7_init_4 : decode cX7_init 4 = .ok (.aload_n 0, 1) := by decide +kernel
theorem dX7_init_5 : decode cX7_init 5 = .ok (.iload_n 1, 1) := by decide +kernel
theorem dX7_init_6 : decode cX7_init 6 = .ok (.iconst 0, 1) := by decide +kernel
theorem dX7_init_7 : decode cX7_init 7 = .ok (.invokestatic 7, 3) := by decide +kernel
theorem dX7_init_10 : decode cX7_init 10 = .ok (.newarray .int, 2) := by decide +kernel
theorem dX7_init_12 : decode cX7_init 12 = .ok (.putfield 13, 3) := by decide +kernel
theorem dX7_init_15 : decode cX7_init 15 = .ok (.return_, 1) := by decide +kernel
def fX7_init (a0 : Nat) (a1 : Int32) (w : eW) : Option eW := eBind2 (fJ9_max_7cf53 a1 (0 : Int32) w) fun v2 w1 => if w1.length = w.length ∧ e_wsz w1 = e_wsz w then eBind2 (eNewA false w1 [(0, .ref a0), (1, .int a1)] [.ref a0] v2) fun o3 w4 => (eP w4 a0 7 0 (.ref o3)).bind fun w5 => some w5 else none
set_option maxRecDepth 20000 in
theorem mX7_init {a0 : Nat} {a1 : Int32} {w w' : eW} (h : fX7_init a0 a1 w = some w') : eMA l D cI cZ 1 yX7_init cX7_init 2 [.ref a0, .int a1] w w' := by
  refine eMA_of [(0, .ref a0), (1, .int a1)] (by decide) (fun _ => rfl) (fun _ => Nat.le_of_ble_eq_true rfl) ?_
  rw [fX7_init] at h
  refine eBA_lift (pc1 := 1) (L1 := [(0, .ref a0), (1, .int a1)]) (S1 := [.ref a0]) (w1 := w) ⟨rfl, rfl⟩ (fun p e mc ms s m args below meth c A Q cells slots r hms X k => ev_aload_n (pc := 0) X 0 dX7_init_0 rfl rfl k) ?_
  refine eBA_lift (pc1 := 4) (L1 := [(0, .ref a0), (1, .int a1)]) (S1 := []) (w1 := w) ⟨rfl, rfl⟩ (fun p e mc ms s m args below meth c A Q cells slots r hms X k => ev_objInit (pc := 1) X klX7_1 hoA hoB dX7_init_1 (Nat.le_of_ble_eq_true rfl) (Nat.le_of_ble_eq_true rfl) k) ?_
  refine eBA_lift (pc1 := 5) (L1 := [(0, .ref a0), (1, .int a1)]) (S1 := [.ref a0]) (w1 := w) ⟨rfl, rfl⟩ (fun p e mc ms s m args below meth c A Q cells slots r hms X k => ev_aload_n (pc := 4) X 0 dX7_init_4 rfl rfl k) ?_
  refine eBA_lift (pc1 := 6) (L1 := [(0, .ref a0), (1, .int a1)]) (S1 := [.int a1, .ref a0]) (w1 := w) ⟨rfl, rfl⟩ (fun p e mc ms s m args below meth c A Q cells slots r hms X k => ev_iload_n (pc := 5) X 1 dX7_init_5 rfl rfl k) ?_
  refine eBA_lift (pc1 := 7) (L1 := [(0, .ref a0), (1, .int a1)]) (S1 := [.int (0 : Int32), .int a1, .ref a0]) (w1 := w) ⟨rfl, rfl⟩ (fun p e mc ms s m args below meth c A Q cells slots r hms X k => ev_iconst (pc := 6) X dX7_init_6 rfl k) ?_
  obtain ⟨v2, w1, hc, h⟩ := eB2 h
  obtain ⟨hw, h⟩ := eIfp h
  refine eBA_lift (pc1 := 10) (L1 := [(0, .ref a0), (1, .int a1)]) (S1 := [.int v2, .ref a0]) (w1 := w1) hw (fun p e mc ms s m args below meth c A Q cells slots r hms X k => ev_callS_i (pc := 7) (As := [.int a1, .int (0 : Int32)]) (S := [.ref a0]) X hwJ9_max_7cf53 klX7_7 htJ9_max_7cf53 ⟨Nat.le_of_ble_eq_true rfl, Nat.le_of_ble_eq_true rfl⟩ hms rfl (Nat.le_of_ble_eq_true rfl) dX7_init_7 rfl (mJ9_max_7cf53 (l := l) (D := D) (cI := cI) (cZ := cZ) hc) k) ?_
  obtain ⟨o3, w4, hn, h⟩ := eB2 h
  refine eBA_newAi (pc := 10) haI dX7_init_10 hn ?_
  obtain ⟨w5, hw5, h⟩ := eBi h
  refine eBA_lift (pc1 := 15) (L1 := [(0, .ref a0), (1, .int a1)]) (S1 := []) (w1 := w5) (eP_len hw5) (fun p e mc ms s m args below meth c A Q cells slots r hms X k => ev_putF (pc := 12) X hcX7 (k := 0) (by decide) kfX7_13 rfl rfl rfl (fun _ => ⟨rfl, rfl⟩) dX7_init_12 hw5 k) ?_
  obtain rfl := Option.some.inj h
  exact eBA_ret (pc := 15) dX7_init_15
theorem dX0_init_0 : decode cX0_init 0 = .ok (.aload_n 0, 1) := by decide +kernel
theorem dX0_init_1 : decode cX0_init 1 = .ok (.invokespecial 5, 3) := by decide +kernel
theorem dX0_init_4 : decode cX0_init 4 = .ok (.aload_n 0, 1) := by decide +kernel
theorem dX0_init_5 : decode cX0_init 5 = .ok (.new 11, 3) := by decide +kernel
theorem dX0_init_8 : decode cX0_init 8 = .ok (.dup, 1) := by decide +kernel
theorem dX0_init_9 : decode cX0_init 9 = .ok (.bipush 57, 2) := by decide +kernel
theorem dX0_init_11 : decode cX0_init 11 = .ok (.invokespecial 13, 3) := by decide +kernel
theorem dX0_init_14 : decode cX0_init 14 = .ok (.putfield 16, 3) := by decide +kernel
theorem dX0_init_17 : decode cX0_init 17 = .ok (.aload_n 0, 1) := by decide +kernel
theorem dX0_init_18 : decode cX0_init 18 = .ok (.aload_n 1, 1) := by decide +kernel
theorem dX0_init_19 : decode cX0_init 19 = .ok (.putfield 20, 3) := by decide +kernel
theorem dX0_init_22 : decode cX0_init 22 = .ok (.return_, 1) := by decide +kernel
def fX0_init (a0 : Nat) (a1 : Nat) (w : eW) : Option eW := eBind2 (eNewO w [(0, .ref a0), (1, .ref a1)] [.ref a0] 7 [.null]) fun o1 w2 => if eFsh w2.length [(0, .ref a0), (1, .ref a1)] [.ref o1, .ref a0] then (fX7_init o1 (57 : Int32) w2).bind fun w3 => (eP w3 a0 0 1 (.ref o1)).bind fun w4 => (eP w4 a0 0 0 (.ref a1)).bind fun w5 => some w5 else none
set_option maxRecDepth 20000 in
theorem mX0_init {a0 : Nat} {a1 : Nat} {w w' : eW} (h : fX0_init a0 a1 w = some w') : eMA l D cI cZ 2 yX0_init cX0_init 2 [.ref a0, .ref a1] w w' := by
  refine eMA_of [(0, .ref a0), (1, .ref a1)] (by decide) (fun _ => rfl) (fun _ => Nat.le_of_ble_eq_true rfl) ?_
  rw [fX0_init] at h
  refine eBA_lift (pc1 := 1) (L1 := [(0, .ref a0), (1, .ref a1)]) (S1 := [.ref a0]) (w1 := w) ⟨rfl, rfl⟩ (fun p e mc ms s m args below meth c A Q cells slots r hms X k => ev_aload_n (pc := 0) X 0 dX0_init_0 rfl rfl k) ?_
  refine eBA_lift (pc1 := 4) (L1 := [(0, .ref a0), (1, .ref a1)]) (S1 := []) (w1 := w) ⟨rfl, rfl⟩ (fun p e mc ms s m args below meth c A Q cells slots r hms X k => ev_objInit (pc := 1) X klX0_5 hoA hoB dX0_init_1 (Nat.le_of_ble_eq_true rfl) (Nat.le_of_ble_eq_true rfl) k) ?_
  refine eBA_lift (pc1 := 5) (L1 := [(0, .ref a0), (1, .ref a1)]) (S1 := [.ref a0]) (w1 := w) ⟨rfl, rfl⟩ (fun p e mc ms s m args below meth c A Q cells slots r hms X k => ev_aload_n (pc := 4) X 0 dX0_init_4 rfl rfl k) ?_
  obtain ⟨o1, w2, hn, h⟩ := eB2 h
  refine eBA_newO (pc := 5) hcX7 kcX0_11 hnX7 hzX7 rfl (fun _ => rfl) (by decide +kernel) dX0_init_5 hn ?_
  refine eBA_lift (pc1 := 9) (L1 := [(0, .ref a0), (1, .ref a1)]) (S1 := [.ref o1, .ref o1, .ref a0]) (w1 := w2) ⟨rfl, rfl⟩ (fun p e mc ms s m args below meth c A Q cells slots r hms X k => ev_dup (pc := 8) X dX0_init_8 rfl k) ?_
  refine eBA_lift (pc1 := 11) (L1 := [(0, .ref a0), (1, .ref a1)]) (S1 := [.int (57 : Int32), .ref o1, .ref o1, .ref a0]) (w1 := w2) ⟨rfl, rfl⟩ (fun p e mc ms s m args below meth c A Q cells slots r hms X k => ev_bipush (pc := 9) X dX0_init_9 rfl k) ?_
  obtain ⟨hfs, h⟩ := eIfb h
  obtain ⟨w3, hc, h⟩ := eBi h
  refine eBA_callf (pc := 11) (As := [.int (57 : Int32)]) (S := [.ref o1, .ref a0]) hwX7_init klX0_13 hiX7_init rfl ⟨Nat.le_of_ble_eq_true rfl, Nat.le_of_ble_eq_true rfl⟩ rfl (Nat.le_of_ble_eq_true rfl) dX0_init_11 rfl (mX7_init hc) hfs ?_
  obtain ⟨w4, hw4, h⟩ := eBi h
  refine eBA_lift (pc1 := 17) (L1 := [(0, .ref a0), (1, .ref a1)]) (S1 := []) (w1 := w4) (eP_len hw4) (fun p e mc ms s m args below meth c A Q cells slots r hms X k => ev_putF (pc := 14) X hcX0 (k := 1) (by decide) kfX0_16 rfl rfl rfl (fun _ => ⟨rfl, rfl⟩) dX0_init_14 hw4 k) ?_
  refine eBA_lift (pc1 := 18) (L1 := [(0, .ref a0), (1, .ref a1)]) (S1 := [.ref a0]) (w1 := w4) ⟨rfl, rfl⟩ (fun p e mc ms s m args below meth c A Q cells slots r hms X k => ev_aload_n (pc := 17) X 0 dX0_init_17 rfl rfl k) ?_
  refine eBA_lift (pc1 := 19) (L1 := [(0, .ref a0), (1, .ref a1)]) (S1 := [.ref a1, .ref a0]) (w1 := w4) ⟨rfl, rfl⟩ (fun p e mc ms s m args below meth c A Q cells slots r hms X k => ev_aload_n (pc := 18) X 1 dX0_init_18 rfl rfl k) ?_
  obtain ⟨w5, hw5, h⟩ := eBi h
  refine eBA_lift (pc1 := 22) (L1 := [(0, .ref a0), (1, .ref a1)]) (S1 := []) (w1 := w5) (eP_len hw5) (fun p e mc ms s m args below meth c A Q cells slots r hms X k => ev_putF (pc := 19) X hcX0 (k := 0) (by decide) kfX0_20 rfl rfl rfl (fun _ => ⟨rfl, rfl⟩) dX0_init_19 hw5 k) ?_
  obtain rfl := Option.some.inj h
  exact eBA_ret (pc := 22) dX0_init_22
theorem dX1_init_0 : decode cX1_init 0 = .ok (.aload_n 0, 1) := by decide +kernel
theorem dX1_init_1 : decode cX1_init 1 = .ok (.invokespecial 3, 3) := by decide +kernel
theorem dX1_init_4 : decode cX1_init 4 = .ok (.aload_n 0, 1) := by decide +kernel
theorem dX1_init_5 : decode cX1_init 5 = .ok (.new 9, 3) := by decide +kernel
theorem dX1_init_8 : decode cX1_init 8 = .ok (.dup, 1) := by decide +kernel
theorem dX1_init_9 : decode cX1_init 9 = .ok (.bipush 20, 2) := by decide +kernel
theorem dX1_init_11 : decode cX1_init 11 = .ok (.invokespecial 11, 3) := by decide +kernel
theorem dX1_init_14 : decode cX1_init 14 = .ok (.putfield 14, 3) := by decide +kernel
theorem dX1_init_17 : decode cX1_init 17 = .ok (.aload_n 0, 1) := by decide +kernel
theorem dX1_init_18 : decode cX1_init 18 = .ok (.new 9, 3) := by decide +kernel
theorem dX1_init_21 : decode cX1_init 21 = .ok (.dup, 1) := by decide +kernel
theorem dX1_init_22 : decode cX1_init 22 = .ok (.iconst 4, 1) := by decide +kernel
theorem dX1_init_23 : decode cX1_init 23 = .ok (.invokespecial 11, 3) := by decide +kernel
theorem dX1_init_26 : decode cX1_init 26 = .ok (.putfield 20, 3) := by decide +kernel
theorem dX1_init_29 : decode cX1_init 29 = .ok (.aload_n 0, 1) := by decide +kernel
theorem dX1_init_30 : decode cX1_init 30 = .ok (.invokevirtual 23, 3) := by decide +kernel
theorem dX1_init_33 : decode cX1_init 33 = .ok (.return_, 1) := by decide +kernel
def fX1_init (a0 : Nat) (w : eW) : Option eW := eBind2 (eNewO w [(0, .ref a0)] [.ref a0] 7 [.null]) fun o1 w2 => if eFsh w2.length [(0, .ref a0)] [.ref o1, .ref a0] then (fX7_init o1 (20 : Int32) w2).bind fun w3 => (eP w3 a0 1 4 (.ref o1)).bind fun w4 => eBind2 (eNewO w4 [(0, .ref a0)] [.ref a0] 7 [.null]) fun o5 w6 => if eFsh w6.length [(0, .ref a0)] [.ref o5, .ref a0] then (fX7_init o5 (4 : Int32) w6).bind fun w7 => (eP w7 a0 1 5 (.ref o5)).bind fun w8 => (fX1_becomeFirst a0 w8).bind fun w9 => if w9.length = w8.length ∧ e_wsz w9 = e_wsz w8 then some w9 else none else none else none
set_option maxRecDepth 20000 in
theorem mX1_init {a0 : Nat} {w w' : eW} (h : fX1_init a0 w = some w') : eMA l D cI cZ 2 yX1_init cX1_init 1 [.ref a0] w w' := by
  refine eMA_of [(0, .ref a0)] (by decide) (fun _ => rfl) (fun _ => Nat.le_of_ble_eq_true rfl) ?_
  rw [fX1_init] at h
  refine eBA_lift (pc1 := 1) (L1 := [(0, .ref a0)]) (S1 := [.ref a0]) (w1 := w) ⟨rfl, rfl⟩ (fun p e mc ms s m args below meth c A Q cells slots r hms X k => ev_aload_n (pc := 0) X 0 dX1_init_0 rfl rfl k) ?_
  refine eBA_lift (pc1 := 4) (L1 := [(0, .ref a0)]) (S1 := []) (w1 := w) ⟨rfl, rfl⟩ (fun p e mc ms s m args below meth c A Q cells slots r hms X k => ev_objInit (pc := 1) X klX1_3 hoA hoB dX1_init_1 (Nat.le_of_ble_eq_true rfl) (Nat.le_of_ble_eq_true rfl) k) ?_
  refine eBA_lift (pc1 := 5) (L1 := [(0, .ref a0)]) (S1 := [.ref a0]) (w1 := w) ⟨rfl, rfl⟩ (fun p e mc ms s m args below meth c A Q cells slots r hms X k => ev_aload_n (pc := 4) X 0 dX1_init_4 rfl rfl k) ?_
  obtain ⟨o1, w2, hn, h⟩ := eB2 h
  refine eBA_newO (pc := 5) hcX7 kcX1_9 hnX7 hzX7 rfl (fun _ => rfl) (by decide +kernel) dX1_init_5 hn ?_
  refine eBA_lift (pc1 := 9) (L1 := [(0, .ref a0)]) (S1 := [.ref o1, .ref o1, .ref a0]) (w1 := w2) ⟨rfl, rfl⟩ (fun p e mc ms s m args below meth c A Q cells slots r hms X k => ev_dup (pc := 8) X dX1_init_8 rfl k) ?_
  refine eBA_lift (pc1 := 11) (L1 := [(0, .ref a0)]) (S1 := [.int (20 : Int32), .ref o1, .ref o1, .ref a0]) (w1 := w2) ⟨rfl, rfl⟩ (fun p e mc ms s m args below meth c A Q cells slots r hms X k => ev_bipush (pc := 9) X dX1_init_9 rfl k) ?_
  obtain ⟨hfs, h⟩ := eIfb h
  obtain ⟨w3, hc, h⟩ := eBi h
  refine eBA_callf (pc := 11) (As := [.int (20 : Int32)]) (S := [.ref o1, .ref a0]) hwX7_init klX1_11 hiX7_init rfl ⟨Nat.le_of_ble_eq_true rfl, Nat.le_of_ble_eq_true rfl⟩ rfl (Nat.le_of_ble_eq_true rfl) dX1_init_11 rfl (mX7_init hc) hfs ?_
  obtain ⟨w4, hw4, h⟩ := eBi h
  refine eBA_lift (pc1 := 17) (L1 := [(0, .ref a0)]) (S1 := []) (w1 := w4) (eP_len hw4) (fun p e mc ms s m args below meth c A Q cells slots r hms X k => ev_putF (pc := 14) X hcX1 (k := 4) (by decide) kfX1_14 rfl rfl rfl (fun _ => ⟨rfl, rfl⟩) dX1_init_14 hw4 k) ?_
  refine eBA_lift (pc1 := 18) (L1 := [(0, .ref a0)]) (S1 := [.ref a0]) (w1 := w4) ⟨rfl, rfl⟩ (fun p e mc ms s m args below meth c A Q cells slots r hms X k => ev_aload_n (pc := 17) X 0 dX1_init_17 rfl rfl k) ?_
  obtain ⟨o5, w6, hn, h⟩ := eB2 h
  refine eBA_newO (pc := 18) hcX7 kcX1_9 hnX7 hzX7 rfl (fun _ => rfl) (by decide +kernel) dX1_init_18 hn ?_
  refine eBA_lift (pc1 := 22) (L1 := [(0, .ref a0)]) (S1 := [.ref o5, .ref o5, .ref a0]) (w1 := w6) ⟨rfl, rfl⟩ (fun p e mc ms s m args below meth c A Q cells slots r hms X k => ev_dup (pc := 21) X dX1_init_21 rfl k) ?_
  refine eBA_lift (pc1 := 23) (L1 := [(0, .ref a0)]) (S1 := [.int (4 : Int32), .ref o5, .ref o5, .ref a0]) (w1 := w6) ⟨rfl, rfl⟩ (fun p e mc ms s m args below meth c A Q cells slots r hms X k => ev_iconst (pc := 22) X dX1_init_22 rfl k) ?_
  obtain ⟨hfs, h⟩ := eIfb h
  obtain ⟨w7, hc, h⟩ := eBi h
  refine eBA_callf (pc := 23) (As := [.int (4 : Int32)]) (S := [.ref o5, .ref a0]) hwX7_init klX1_11 hiX7_init rfl ⟨Nat.le_of_ble_eq_true rfl, Nat.le_of_ble_eq_true rfl⟩ rfl (Nat.le_of_ble_eq_true rfl) dX1_init_23 rfl (mX7_init hc) hfs ?_
  obtain ⟨w8, hw8, h⟩ := eBi h
  refine eBA_lift (pc1 := 29) (L1 := [(0, .ref a0)]) (S1 := []) (w1 := w8) (eP_len hw8) (fun p e mc ms s m args below meth c A Q cells slots r hms X k => ev_putF (pc := 26) X hcX1 (k := 5) (by decide) kfX1_20 rfl rfl rfl (fun _ => ⟨rfl, rfl⟩) dX1_init_26 hw8 k) ?_
  refine eBA_lift (pc1 := 30) (L1 := [(0, .ref a0)]) (S1 := [.ref a0]) (w1 := w8) ⟨rfl, rfl⟩ (fun p e mc ms s m args below meth c A Q cells slots r hms X k => ev_aload_n (pc := 29) X 0 dX1_init_29 rfl rfl k) ?_
  obtain ⟨w9, hc, h⟩ := eBi h
  obtain ⟨hw, h⟩ := eIfp h
  refine eBA_lift (pc1 := 33) (L1 := [(0, .ref a0)]) (S1 := []) (w1 := w9) hw (fun p e mc ms s m args below meth c A Q cells slots r hms X k => ev_callV_v (pc := 30) (As := []) (S := []) X hwX1_becomeFirst klX1_23 hiX1_becomeFirst hsX1_becomeFirst (ci := 1) ⟨rfl, rfl⟩ ⟨Nat.le_of_ble_eq_true rfl, Nat.le_of_ble_eq_true rfl⟩ hms rfl (Nat.le_of_ble_eq_true rfl) dX1_init_30 rfl (mX1_becomeFirst (l := l) (D := D) (cI := cI) (cZ := cZ) hc).1 (mX1_becomeFirst (l := l) (D := D) (cI := cI) (cZ := cZ) hc).2 k) ?_
  obtain rfl := Option.some.inj h
  exact eBA_ret (pc := 33) dX1_init_33
theorem dX2_init_0 : decode cX2_init 0 = .ok (.aload_n 0, 1) := by decide +kernel
theorem dX2_init_1 : decode cX2_init 1 = .ok (.invokespecial 3, 3) := by decide +kernel
theorem dX2_init_4 : decode cX2_init 4 = .ok (.aload_n 0, 1) := by decide +kernel
theorem dX2_init_5 : decode cX2_init 5 = .ok (.new 9, 3) := by decide +kernel
theorem dX2_init_8 : decode cX2_init 8 = .ok (.dup, 1) := by decide +kernel
theorem dX2_init_9 : decode cX2_init 9 = .ok (.sipush 200, 3) := by decide +kernel
theorem dX2_init_12 : decode cX2_init 12 = .ok (.invokespecial 11, 3) := by decide +kernel
theorem dX2_init_15 : decode cX2_init 15 = .ok (.putfield 14, 3) := by decide +kernel
theorem dX2_init_18 : decode cX2_init 18 = .ok (.aload_n 0, 1) := by decide +kernel
theorem dX2_init_19 : decode cX2_init 19 = .ok (.iconst 0, 1) := by decide +kernel
theorem dX2_init_20 : decode cX2_init 20 = .ok (.putfield 20, 3) := by decide +kernel
theorem dX2_init_23 : decode cX2_init 23 = .ok (.aload_n 0, 1) := by decide +kernel
theorem dX2_init_24 : decode cX2_init 24 = .ok (.new 24, 3) := by decide +kernel
theorem dX2_init_27 : decode cX2_init 27 = .ok (.dup, 1) := by decide +kernel
theorem dX2_init_28 : decode cX2_init 28 = .ok (.invokespecial 26, 3) := by decide +kernel
theorem dX2_init_31 : decode cX2_init 31 = .ok (.putfield 27, 3) := by decide +kernel
theorem dX2_init_34 : decode cX2_init 34 = .ok (.return_, 1) := by decide +kernel
def fX2_init (a0 : Nat) (w : eW) : Option eW := eBind2 (eNewO w [(0, .ref a0)] [.ref a0] 7 [.null]) fun o1 w2 => if eFsh w2.length [(0, .ref a0)] [.ref o1, .ref a0] then (fX7_init o1 (200 : Int32) w2).bind fun w3 => (eP w3 a0 2 0 (.ref o1)).bind fun w4 => (eP w4 a0 2 1 (.int (0 : Int32))).bind fun w5 => eBind2 (eNewO w5 [(0, .ref a0)] [.ref a0] 1 [.int 0, .int 0, .int 0, .int 0, .null, .null]) fun o6 w7 => if eFsh w7.length [(0, .ref a0)] [.ref o6, .ref a0] then (fX1_init o6 w7).bind fun w8 => (eP w8 a0 2 2 (.ref o6)).bind fun w9 => some w9 else none else none
set_option maxRecDepth 20000 in
theorem mX2_init {a0 : Nat} {w w' : eW} (h : fX2_init a0 w = some w') : eMA l D cI cZ 3 yX2_init cX2_init 1 [.ref a0] w w' := by
  refine eMA_of [(0, .ref a0)] (by decide) (fun _ => rfl) (fun _ => Nat.le_of_ble_eq_true rfl) ?_
  rw [fX2_init] at h
  refine eBA_lift (pc1 := 1) (L1 := [(0, .ref a0)]) (S1 := [.ref a0]) (w1 := w) ⟨rfl, rfl⟩ (fun p e mc ms s m args below meth c A Q cells slots r hms X k => ev_aload_n (pc := 0) X 0 dX2_init_0 rfl rfl k) ?_
  refine eBA_lift (pc1 := 4) (L1 := [(0, .ref a0)]) (S1 := []) (w1 := w) ⟨rfl, rfl⟩ (fun p e mc ms s m args below meth c A Q cells slots r hms X k => ev_objInit (pc := 1) X klX2_3 hoA hoB dX2_init_1 (Nat.le_of_ble_eq_true rfl) (Nat.le_of_ble_eq_true rfl) k) ?_
  refine eBA_lift (pc1 := 5) (L1 := [(0, .ref a0)]) (S1 := [.ref a0]) (w1 := w) ⟨rfl, rfl⟩ (fun p e mc ms s m args below meth c A Q cells slots r hms X k => ev_aload_n (pc := 4) X 0 dX2_init_4 rfl rfl k) ?_
  obtain ⟨o1, w2, hn, h⟩ := eB2 h
  refine eBA_newO (pc := 5) hcX7 kcX2_9 hnX7 hzX7 rfl (fun _ => rfl) (by decide +kernel) dX2_init_5 hn ?_
  refine eBA_lift (pc1 := 9) (L1 := [(0, .ref a0)]) (S1 := [.ref o1, .ref o1, .ref a0]) (w1 := w2) ⟨rfl, rfl⟩ (fun p e mc ms s m args below meth c A Q cells slots r hms X k => ev_dup (pc := 8) X dX2_init_8 rfl k) ?_
  refine eBA_lift (pc1 := 12) (L1 := [(0, .ref a0)]) (S1 := [.int (200 : Int32), .ref o1, .ref o1, .ref a0]) (w1 := w2) ⟨rfl, rfl⟩ (fun p e mc ms s m args below meth c A Q cells slots r hms X k => ev_sipush (pc := 9) X dX2_init_9 rfl k) ?_
  obtain ⟨hfs, h⟩ := eIfb h
  obtain ⟨w3, hc, h⟩ := eBi h
  refine eBA_callf (pc := 12) (As := [.int (200 : Int32)]) (S := [.ref o1, .ref a0]) hwX7_init klX2_11 hiX7_init rfl ⟨Nat.le_of_ble_eq_true rfl, Nat.le_of_ble_eq_true rfl⟩ rfl (Nat.le_of_ble_eq_true rfl) dX2_init_12 rfl (mX7_init hc) hfs ?_
  obtain ⟨w4, hw4, h⟩ := eBi h
  refine eBA_lift (pc1 := 18) (L1 := [(0, .ref a0)]) (S1 := []) (w1 := w4) (eP_len hw4) (fun p e mc ms s m args below meth c A Q cells slots r hms X k => ev_putF (pc := 15) X hcX2 (k := 0) (by decide) kfX2_14 rfl rfl rfl (fun _ => ⟨rfl, rfl⟩) dX2_init_15 hw4 k) ?_
  refine eBA_lift (pc1 := 19) (L1 := [(0, .ref a0)]) (S1 := [.ref a0]) (w1 := w4) ⟨rfl, rfl⟩ (fun p e mc ms s m args below meth c A Q cells slots r hms X k => ev_aload_n (pc := 18) X 0 dX2_init_18 rfl rfl k) ?_
  refine eBA_lift (pc1 := 20) (L1 := [(0, .ref a0)]) (S1 := [.int (0 : Int32), .ref a0]) (w1 := w4) ⟨rfl, rfl⟩ (fun p e mc ms s m args below meth c A Q cells slots r hms X k => ev_iconst (pc := 19) X dX2_init_19 rfl k) ?_
  obtain ⟨w5, hw5, h⟩ := eBi h
  refine eBA_lift (pc1 := 23) (L1 := [(0, .ref a0)]) (S1 := []) (w1 := w5) (eP_len hw5) (fun p e mc ms s m args below meth c A Q cells slots r hms X k => ev_putI (pc := 20) X hcX2 (k := 1) (by decide) kfX2_20 rfl rfl dX2_init_20 hw5 k) ?_
  refine eBA_lift (pc1 := 24) (L1 := [(0, .ref a0)]) (S1 := [.ref a0]) (w1 := w5) ⟨rfl, rfl⟩ (fun p e mc ms s m args below meth c A Q cells slots r hms X k => ev_aload_n (pc := 23) X 0 dX2_init_23 rfl rfl k) ?_
  obtain ⟨o6, w7, hn, h⟩ := eB2 h
  refine eBA_newO (pc := 24) hcX1 kcX2_24 hnX1 hzX1 rfl (fun _ => rfl) (by decide +kernel) dX2_init_24 hn ?_
  refine eBA_lift (pc1 := 28) (L1 := [(0, .ref a0)]) (S1 := [.ref o6, .ref o6, .ref a0]) (w1 := w7) ⟨rfl, rfl⟩ (fun p e mc ms s m args below meth c A Q cells slots r hms X k => ev_dup (pc := 27) X dX2_init_27 rfl k) ?_
  obtain ⟨hfs, h⟩ := eIfb h
  obtain ⟨w8, hc, h⟩ := eBi h
  refine eBA_callf (pc := 28) (As := []) (S := [.ref o6, .ref a0]) hwX1_init klX2_26 hiX1_init rfl ⟨Nat.le_of_ble_eq_true rfl, Nat.le_of_ble_eq_true rfl⟩ rfl (Nat.le_of_ble_eq_true rfl) dX2_init_28 rfl (mX1_init hc) hfs ?_
  obtain ⟨w9, hw9, h⟩ := eBi h
  refine eBA_lift (pc1 := 34) (L1 := [(0, .ref a0)]) (S1 := []) (w1 := w9) (eP_len hw9) (fun p e mc ms s m args below meth c A Q cells slots r hms X k => ev_putF (pc := 31) X hcX2 (k := 2) (by decide) kfX2_27 rfl rfl rfl (fun _ => ⟨rfl, rfl⟩) dX2_init_31 hw9 k) ?_
  obtain rfl := Option.some.inj h
  exact eBA_ret (pc := 34) dX2_init_34
theorem dX6_init_0 : decode cX6_init 0 = .ok (.aload_n 0, 1) := by decide +kernel
theorem dX6_init_1 : decode cX6_init 1 = .ok (.invokespecial 3, 3) := by decide +kernel
theorem dX6_init_4 : decode cX6_init 4 = .ok (.aload_n 0, 1) := by decide +kernel
theorem dX6_init_5 : decode cX6_init 5 = .ok (.iconst 0, 1) := by decide +kernel
theorem dX6_init_6 : decode cX6_init 6 = .ok (.putfield 9, 3) := by decide +kernel
theorem dX6_init_9 : decode cX6_init 9 = .ok (.aload_n 0, 1) := by decide +kernel
theorem dX6_init_10 : decode cX6_init 10 = .ok (.iconst 0, 1) := by decide +kernel
theorem dX6_init_11 : decode cX6_init 11 = .ok (.putfield 15, 3) := by decide +kernel
theorem dX6_init_14 : decode cX6_init 14 = .ok (.aload_n 0, 1) := by decide +kernel
theorem dX6_init_15 : decode cX6_init 15 = .ok (.aload_n 1, 1) := by decide +kernel
theorem dX6_init_16 : decode cX6_init 16 = .ok (.putfield 18, 3) := by decide +kernel
theorem dX6_init_19 : decode cX6_init 19 = .ok (.return_, 1) := by decide +kernel
def fX6_init (a0 : Nat) (a1 : Nat) (w : eW) : Option eW := (eP w a0 6 1 (.int (0 : Int32))).bind fun w1 => (eP w1 a0 6 2 (.int (0 : Int32))).bind fun w2 => (eP w2 a0 6 0 (.ref a1)).bind fun w3 => some w3
set_option maxRecDepth 20000 in
theorem mX6_init {a0 : Nat} {a1 : Nat} {w w' : eW} (h : fX6_init a0 a1 w = some w') : eMA l D cI cZ 1 yX6_init cX6_init 2 [.ref a0, .ref a1] w w' := by
  refine eMA_of [(0, .ref a0), (1, .ref a1)] (by decide) (fun _ => rfl) (fun _ => Nat.le_of_ble_eq_true rfl) ?_
  rw [fX6_init] at h
  refine eBA_lift (pc1 := 1) (L1 := [(0, .ref a0), (1, .ref a1)]) (S1 := [.ref a0]) (w1 := w) ⟨rfl, rfl⟩ (fun p e mc ms s m args below meth c A Q cells slots r hms X k => ev_aload_n (pc := 0) X 0 dX6_init_0 rfl rfl k) ?_
  refine eBA_lift (pc1 := 4) (L1 := [(0, .ref a0), (1, .ref a1)]) (S1 := []) (w1 := w) ⟨rfl, rfl⟩ (fun p e mc ms s m args below meth c A Q cells slots r hms X k => ev_objInit (pc := 1) X klX6_3 hoA hoB dX6_init_1 (Nat.le_of_ble_eq_true rfl) (Nat.le_of_ble_eq_true rfl) k) ?_
  refine eBA_lift (pc1 := 5) (L1 := [(0, .ref a0), (1, .ref a1)]) (S1 := [.ref a0]) (w1 := w) ⟨rfl, rfl⟩ (fun p e mc ms s m args below meth c A Q cells slots r hms X k => ev_aload_n (pc := 4) X 0 dX6_init_4 rfl rfl k) ?_
  refine eBA_lift (pc1 := 6) (L1 := [(0, .ref a0), (1, .ref a1)]) (S1 := [.int (0 : Int32), .ref a0]) (w1 := w) ⟨rfl, rfl⟩ (fun p e mc ms s m args below meth c A Q cells slots r hms X k => ev_iconst (pc := 5) X dX6_init_5 rfl k) ?_
  obtain ⟨w1, hw1, h⟩ := eBi h
  refine eBA_lift (pc1 := 9) (L1 := [(0, .ref a0), (1, .ref a1)]) (S1 := []) (w1 := w1) (eP_len hw1) (fun p e mc ms s m args below meth c A Q cells slots r hms X k => ev_putI (pc := 6) X hcX6 (k := 1) (by decide) kfX6_9 rfl rfl dX6_init_6 hw1 k) ?_
  refine eBA_lift (pc1 := 10) (L1 := [(0, .ref a0), (1, .ref a1)]) (S1 := [.ref a0]) (w1 := w1) ⟨rfl, rfl⟩ (fun p e mc ms s m args below meth c A Q cells slots r hms X k => ev_aload_n (pc := 9) X 0 dX6_init_9 rfl rfl k) ?_
  refine eBA_lift (pc1 := 11) (L1 := [(0, .ref a0), (1, .ref a1)]) (S1 := [.int (0 : Int32), .ref a0]) (w1 := w1) ⟨rfl, rfl⟩ (fun p e mc ms s m args below meth c A Q cells slots r hms X k => ev_iconst (pc := 10) X dX6_init_10 rfl k) ?_
  obtain ⟨w2, hw2, h⟩ := eBi h
  refine eBA_lift (pc1 := 14) (L1 := [(0, .ref a0), (1, .ref a1)]) (S1 := []) (w1 := w2) (eP_len hw2) (fun p e mc ms s m args below meth c A Q cells slots r hms X k => ev_putI (pc := 11) X hcX6 (k := 2) (by decide) kfX6_15 rfl rfl dX6_init_11 hw2 k) ?_
  refine eBA_lift (pc1 := 15) (L1 := [(0, .ref a0), (1, .ref a1)]) (S1 := [.ref a0]) (w1 := w2) ⟨rfl, rfl⟩ (fun p e mc ms s m args below meth c A Q cells slots r hms X k => ev_aload_n (pc := 14) X 0 dX6_init_14 rfl rfl k) ?_
  refine eBA_lift (pc1 := 16) (L1 := [(0, .ref a0), (1, .ref a1)]) (S1 := [.ref a1, .ref a0]) (w1 := w2) ⟨rfl, rfl⟩ (fun p e mc ms s m args below meth c A Q cells slots r hms X k => ev_aload_n (pc := 15) X 1 dX6_init_15 rfl rfl k) ?_
  obtain ⟨w3, hw3, h⟩ := eBi h
  refine eBA_lift (pc1 := 19) (L1 := [(0, .ref a0), (1, .ref a1)]) (S1 := []) (w1 := w3) (eP_len hw3) (fun p e mc ms s m args below meth c A Q cells slots r hms X k => ev_putF (pc := 16) X hcX6 (k := 0) (by decide) kfX6_18 rfl rfl rfl (fun _ => ⟨rfl, rfl⟩) dX6_init_16 hw3 k) ?_
  obtain rfl := Option.some.inj h
  exact eBA_ret (pc := 19) dX6_init_19
theorem dX3_init_0 : decode cX3_init 0 = .ok (.aload_n 0, 1) := by decide +kernel
theorem dX3_init_1 : decode cX3_init 1 = .ok (.invokespecial 3, 3) := by decide +kernel
theorem dX3_init_4 : decode cX3_init 4 = .ok (.aload_n 0, 1) := by decide +kernel
theorem dX3_init_5 : decode cX3_init 5 = .ok (.new 9, 3) := by decide +kernel
theorem dX3_init_8 : decode cX3_init 8 = .ok (.dup, 1) := by decide +kernel
theorem dX3_init_9 : decode cX3_init 9 = .ok (.bipush 7, 2) := by decide +kernel
theorem dX3_init_11 : decode cX3_init 11 = .ok (.invokespecial 11, 3) := by decide +kernel
theorem dX3_init_14 : decode cX3_init 14 = .ok (.putfield 14, 3) := by decide +kernel
theorem dX3_init_17 : decode cX3_init 17 = .ok (.aload_n 0, 1) := by decide +kernel
theorem dX3_init_18 : decode cX3_init 18 = .ok (.new 20, 3) := by decide +kernel
theorem dX3_init_21 : decode cX3_init 21 = .ok (.dup, 1) := by decide +kernel
theorem dX3_init_22 : decode cX3_init 22 = .ok (.aload_n 1, 1) := by decide +kernel
theorem dX3_init_23 : decode cX3_init 23 = .ok (.invokespecial 22, 3) := by decide +kernel
theorem dX3_init_26 : decode cX3_init 26 = .ok (.putfield 25, 3) := by decide +kernel
theorem dX3_init_29 : decode cX3_init 29 = .ok (.aload_n 0, 1) := by decide +kernel
theorem dX3_init_30 : decode cX3_init 30 = .ok (.new 29, 3) := by decide +kernel
theorem dX3_init_33 : decode cX3_init 33 = .ok (.dup, 1) := by decide +kernel
theorem dX3_init_34 : decode cX3_init 34 = .ok (.aload_n 1, 1) := by decide +kernel
theorem dX3_init_35 : decode cX3_init 35 = .ok (.invokespecial 31, 3) := by decide +kernel
theorem dX3_init_38 : decode cX3_init 38 = .ok (.putfield 32, 3) := by decide +kernel
theorem dX3_init_41 : decode cX3_init 41 = .ok (.return_, 1) := by decide +kernel
def fX3_init (a0 : Nat) (a1 : Nat) (w : eW) : Option eW := eBind2 (eNewO w [(0, .ref a0), (1, .ref a1)] [.ref a0] 7 [.null]) fun o1 w2 => if eFsh w2.length [(0, .ref a0), (1, .ref a1)] [.ref o1, .ref a0] then (fX7_init o1 (7 : Int32) w2).bind fun w3 => (eP w3 a0 3 2 (.ref o1)).bind fun w4 => eBind2 (eNewO w4 [(0, .ref a0), (1, .ref a1)] [.ref a0] 0 [.null, .null]) fun o5 w6 => if eFsh w6.length [(0, .ref a0), (1, .ref a1)] [.ref o5, .ref a0] then (fX0_init o5 a1 w6).bind fun w7 => (eP w7 a0 3 0 (.ref o5)).bind fun w8 => eBind2 (eNewO w8 [(0, .ref a0), (1, .ref a1)] [.ref a0] 6 [.null, .int 0, .int 0]) fun o9 w10 => if eFsh w10.length [(0, .ref a0), (1, .ref a1)] [.ref o9, .ref a0] then (fX6_init o9 a1 w10).bind fun w11 => (eP w11 a0 3 1 (.ref o9)).bind fun w12 => some w12 else none else none else none
set_option maxRecDepth 20000 in
theorem mX3_init {a0 : Nat} {a1 : Nat} {w w' : eW} (h : fX3_init a0 a1 w = some w') : eMA l D cI cZ 3 yX3_init cX3_init 2 [.ref a0, .ref a1] w w' := by
  refine eMA_of [(0, .ref a0), (1, .ref a1)] (by decide) (fun _ => rfl) (fun _ => Nat.le_of_ble_eq_true rfl) ?_
  rw [fX3_init] at h
  refine eBA_lift (pc1 := 1) (L1 := [(0, .ref a0), (1, .ref a1)]) (S1 := [.ref a0]) (w1 := w) ⟨rfl, rfl⟩ (fun p e mc ms s m args below meth c A Q cells slots r hms X k => ev_aload_n (pc := 0) X 0 dX3_init_0 rfl rfl k) ?_
  refine eBA_lift (pc1 := 4) (L1 := [(0, .ref a0), (1, .ref a1)]) (S1 := []) (w1 := w) ⟨rfl, rfl⟩ (fun p e mc ms s m args below meth c A Q cells slots r hms X k => ev_objInit (pc := 1) X klX3_3 hoA hoB dX3_init_1 (Nat.le_of_ble_eq_true rfl) (Nat.le_of_ble_eq_true rfl) k) ?_
  refine eBA_lift (pc1 := 5) (L1 := [(0, .ref a0), (1, .ref a1)]) (S1 := [.ref a0]) (w1 := w) ⟨rfl, rfl⟩ (fun p e mc ms s m args below meth c A Q cells slots r hms X k => ev_aload_n (pc := 4) X 0 dX3_init_4 rfl rfl k) ?_
  obtain ⟨o1, w2, hn, h⟩ := eB2 h
  refine eBA_newO (pc := 5) hcX7 kcX3_9 hnX7 hzX7 rfl (fun _ => rfl) (by decide +kernel) dX3_init_5 hn ?_
  refine eBA_lift (pc1 := 9) (L1 := [(0, .ref a0), (1, .ref a1)]) (S1 := [.ref o1, .ref o1, .ref a0]) (w1 := w2) ⟨rfl, rfl⟩ (fun p e mc ms s m args below meth c A Q cells slots r hms X k => ev_dup (pc := 8) X dX3_init_8 rfl k) ?_
  refine eBA_lift (pc1 := 11) (L1 := [(0, .ref a0), (1, .ref a1)]) (S1 := [.int (7 : Int32), .ref o1, .ref o1, .ref a0]) (w1 := w2) ⟨rfl, rfl⟩ (fun p e mc ms s m args below meth c A Q cells slots r hms X k => ev_bipush (pc := 9) X dX3_init_9 rfl k) ?_
  obtain ⟨hfs, h⟩ := eIfb h
  obtain ⟨w3, hc, h⟩ := eBi h
  refine eBA_callf (pc := 11) (As := [.int (7 : Int32)]) (S := [.ref o1, .ref a0]) hwX7_init klX3_11 hiX7_init rfl ⟨Nat.le_of_ble_eq_true rfl, Nat.le_of_ble_eq_true rfl⟩ rfl (Nat.le_of_ble_eq_true rfl) dX3_init_11 rfl (mX7_init hc) hfs ?_
  obtain ⟨w4, hw4, h⟩ := eBi h
  refine eBA_lift (pc1 := 17) (L1 := [(0, .ref a0), (1, .ref a1)]) (S1 := []) (w1 := w4) (eP_len hw4) (fun p e mc ms s m args below meth c A Q cells slots r hms X k => ev_putF (pc := 14) X hcX3 (k := 2) (by decide) kfX3_14 rfl rfl rfl (fun _ => ⟨rfl, rfl⟩) dX3_init_14 hw4 k) ?_
  refine eBA_lift (pc1 := 18) (L1 := [(0, .ref a0), (1, .ref a1)]) (S1 := [.ref a0]) (w1 := w4) ⟨rfl, rfl⟩ (fun p e mc ms s m args below meth c A Q cells slots r hms X k => ev_aload_n (pc := 17) X 0 dX3_init_17 rfl rfl k) ?_
  obtain ⟨o5, w6, hn, h⟩ := eB2 h
  refine eBA_newO (pc := 18) hcX0 kcX3_20 hnX0 hzX0 rfl (fun _ => rfl) (by decide +kernel) dX3_init_18 hn ?_
  refine eBA_lift (pc1 := 22) (L1 := [(0, .ref a0), (1, .ref a1)]) (S1 := [.ref o5, .ref o5, .ref a0]) (w1 := w6) ⟨rfl, rfl⟩ (fun p e mc ms s m args below meth c A Q cells slots r hms X k => ev_dup (pc := 21) X dX3_init_21 rfl k) ?_
  refine eBA_lift (pc1 := 23) (L1 := [(0, .ref a0), (1, .ref a1)]) (S1 := [.ref a1, .ref o5, .ref o5, .ref a0]) (w1 := w6) ⟨rfl, rfl⟩ (fun p e mc ms s m args below meth c A Q cells slots r hms X k => ev_aload_n (pc := 22) X 1 dX3_init_22 rfl rfl k) ?_
  obtain ⟨hfs, h⟩ := eIfb h
  obtain ⟨w7, hc, h⟩ := eBi h
  refine eBA_callf (pc := 23) (As := [.ref a1]) (S := [.ref o5, .ref a0]) hwX0_init klX3_22 hiX0_init rfl ⟨Nat.le_of_ble_eq_true rfl, Nat.le_of_ble_eq_true rfl⟩ rfl (Nat.le_of_ble_eq_true rfl) dX3_init_23 rfl (mX0_init hc) hfs ?_
  obtain ⟨w8, hw8, h⟩ := eBi h
  refine eBA_lift (pc1 := 29) (L1 := [(0, .ref a0), (1, .ref a1)]) (S1 := []) (w1 := w8) (eP_len hw8) (fun p e mc ms s m args below meth c A Q cells slots r hms X k => ev_putF (pc := 26) X hcX3 (k := 0) (by decide) kfX3_25 rfl rfl rfl (fun _ => ⟨rfl, rfl⟩) dX3_init_26 hw8 k) ?_
  refine eBA_lift (pc1 := 30) (L1 := [(0, .ref a0), (1, .ref a1)]) (S1 := [.ref a0]) (w1 := w8) ⟨rfl, rfl⟩ (fun p e mc ms s m args below meth c A Q cells slots r hms X k => ev_aload_n (pc := 29) X 0 dX3_init_29 rfl rfl k) ?_
  obtain ⟨o9, w10, hn, h⟩ := eB2 h
  refine eBA_newO (pc := 30) hcX6 kcX3_29 hnX6 hzX6 rfl (fun _ => rfl) (by decide +kernel) dX3_init_30 hn ?_
  refine eBA_lift (pc1 := 34) (L1 := [(0, .ref a0), (1, .ref a1)]) (S1 := [.ref o9, .ref o9, .ref a0]) (w1 := w10) ⟨rfl, rfl⟩ (fun p e mc ms s m args below meth c A Q cells slots r hms X k => ev_dup (pc := 33) X dX3_init_33 rfl k) ?_
  refine eBA_lift (pc1 := 35) (L1 := [(0, .ref a0), (1, .ref a1)]) (S1 := [.ref a1, .ref o9, .ref o9, .ref a0]) (w1 := w10) ⟨rfl, rfl⟩ (fun p e mc ms s m args below meth c A Q cells slots r hms X k => ev_aload_n (pc := 34) X 1 dX3_init_34 rfl rfl k) ?_
  obtain ⟨hfs, h⟩ := eIfb h
  obtain ⟨w11, hc, h⟩ := eBi h
  refine eBA_callf (pc := 35) (As := [.ref a1]) (S := [.ref o9, .ref a0]) hwX6_init klX3_31 hiX6_init rfl ⟨Nat.le_of_ble_eq_true rfl, Nat.le_of_ble_eq_true rfl⟩ rfl (Nat.le_of_ble_eq_true rfl) dX3_init_35 rfl (mX6_init hc) hfs ?_
  obtain ⟨w12, hw12, h⟩ := eBi h
  refine eBA_lift (pc1 := 41) (L1 := [(0, .ref a0), (1, .ref a1)]) (S1 := []) (w1 := w12) (eP_len hw12) (fun p e mc ms s m args below meth c A Q cells slots r hms X k => ev_putF (pc := 38) X hcX3 (k := 1) (by decide) kfX3_32 rfl rfl rfl (fun _ => ⟨rfl, rfl⟩) dX3_init_38 hw12 k) ?_
  obtain rfl := Option.some.inj h
  exact eBA_ret (pc := 41) dX3_init_41
theorem dX4_init_0 : decode cX4_init 0 = .ok (.aload_n 0, 1) := by decide +kernel
theorem dX4_init_1 : decode cX4_init 1 = .ok (.invokespecial 3, 3) := by decide +kernel
theorem dX4_init_4 : decode cX4_init 4 = .ok (.aload_n 0, 1) := by decide +kernel
theorem dX4_init_5 : decode cX4_init 5 = .ok (.new 9, 3) := by decide +kernel
theorem dX4_init_8 : decode cX4_init 8 = .ok (.dup, 1) := by decide +kernel
theorem dX4_init_9 : decode cX4_init 9 = .ok (.sipush 570, 3) := by decide +kernel
theorem dX4_init_12 : decode cX4_init 12 = .ok (.invokespecial 13, 3) := by decide +kernel
theorem dX4_init_15 : decode cX4_init 15 = .ok (.putfield 16, 3) := by decide +kernel
theorem dX4_init_18 : decode cX4_init 18 = .ok (.aload_n 0, 1) := by decide +kernel
theorem dX4_init_19 : decode cX4_init 19 = .ok (.iconst 0, 1) := by decide +kernel
theorem dX4_init_20 : decode cX4_init 20 = .ok (.putfield 22, 3) := by decide +kernel
theorem dX4_init_23 : decode cX4_init 23 = .ok (.aload_n 0, 1) := by decide +kernel
theorem dX4_init_24 : decode cX4_init 24 = .ok (.iconst 0, 1) := by decide +kernel
theorem dX4_init_25 : decode cX4_init 25 = .ok (.putfield 26, 3) := by decide +kernel
theorem dX4_init_28 : decode cX4_init 28 = .ok (.aload_n 0, 1) := by decide +kernel
theorem dX4_init_29 : decode cX4_init 29 = .ok (.aload_n 1, 1) := by decide +kernel
theorem dX4_init_30 : decode cX4_init 30 = .ok (.putfield 29, 3) := by decide +kernel
theorem dX4_init_33 : decode cX4_init 33 = .ok (.return_, 1) := by decide +kernel
def fX4_init (a0 : Nat) (a1 : Nat) (w : eW) : Option eW := eBind2 (eNewO w [(0, .ref a0), (1, .ref a1)] [.ref a0] 7 [.null]) fun o1 w2 => if eFsh w2.length [(0, .ref a0), (1, .ref a1)] [.ref o1, .ref a0] then (fX7_init o1 (570 : Int32) w2).bind fun w3 => (eP w3 a0 4 1 (.ref o1)).bind fun w4 => (eP w4 a0 4 2 (.int (0 : Int32))).bind fun w5 => (eP w5 a0 4 3 (.int (0 : Int32))).bind fun w6 => (eP w6 a0 4 0 (.ref a1)).bind fun w7 => some w7 else none
set_option maxRecDepth 20000 in
theorem mX4_init {a0 : Nat} {a1 : Nat} {w w' : eW} (h : fX4_init a0 a1 w = some w') : eMA l D cI cZ 2 yX4_init cX4_init 2 [.ref a0, .ref a1] w w' := by
  refine eMA_of [(0, .ref a0), (1, .ref a1)] (by decide) (fun _ => rfl) (fun _ => Nat.le_of_ble_eq_true rfl) ?_
  rw [fX4_init] at h
  refine eBA_lift (pc1 := 1) (L1 := [(0, .ref a0), (1, .ref a1)]) (S1 := [.ref a0]) (w1 := w) ⟨rfl, rfl⟩ (fun p e mc ms s m args below meth c A Q cells slots r hms X k => ev_aload_n (pc := 0) X 0 dX4_init_0 rfl rfl k) ?_
  refine eBA_lift (pc1 := 4) (L1 := [(0, .ref a0), (1, .ref a1)]) (S1 := []) (w1 := w) ⟨rfl, rfl⟩ (fun p e mc ms s m args below meth c A Q cells slots r hms X k => ev_objInit (pc := 1) X klX4_3 hoA hoB dX4_init_1 (Nat.le_of_ble_eq_true rfl) (Nat.le_of_ble_eq_true rfl) k) ?_
  refine eBA_lift (pc1 := 5) (L1 := [(0, .ref a0), (1, .ref a1)]) (S1 := [.ref a0]) (w1 := w) ⟨rfl, rfl⟩ (fun p e mc ms s m args below meth c A Q cells slots r hms X k => ev_aload_n (pc := 4) X 0 dX4_init_4 rfl rfl k) ?_
  obtain ⟨o1, w2, hn, h⟩ := eB2 h
  refine eBA_newO (pc := 5) hcX7 kcX4_9 hnX7 hzX7 rfl (fun _ => rfl) (by decide +kernel) dX4_init_5 hn ?_
  refine eBA_lift (pc1 := 9) (L1 := [(0, .ref a0), (1, .ref a1)]) (S1 := [.ref o1, .ref o1, .ref a0]) (w1 := w2) ⟨rfl, rfl⟩ (fun p e mc ms s m args below meth c A Q cells slots r hms X k => ev_dup (pc := 8) X dX4_init_8 rfl k) ?_
  refine eBA_lift (pc1 := 12) (L1 := [(0, .ref a0), (1, .ref a1)]) (S1 := [.int (570 : Int32), .ref o1, .ref o1, .ref a0]) (w1 := w2) ⟨rfl, rfl⟩ (fun p e mc ms s m args below meth c A Q cells slots r hms X k => ev_sipush (pc := 9) X dX4_init_9 rfl k) ?_
  obtain ⟨hfs, h⟩ := eIfb h
  obtain ⟨w3, hc, h⟩ := eBi h
  refine eBA_callf (pc := 12) (As := [.int (570 : Int32)]) (S := [.ref o1, .ref a0]) hwX7_init klX4_13 hiX7_init rfl ⟨Nat.le_of_ble_eq_true rfl, Nat.le_of_ble_eq_true rfl⟩ rfl (Nat.le_of_ble_eq_true rfl) dX4_init_12 rfl (mX7_init hc) hfs ?_
  obtain ⟨w4, hw4, h⟩ := eBi h
  refine eBA_lift (pc1 := 18) (L1 := [(0, .ref a0), (1, .ref a1)]) (S1 := []) (w1 := w4) (eP_len hw4) (fun p e mc ms s m args below meth c A Q cells slots r hms X k => ev_putF (pc := 15) X hcX4 (k := 1) (by decide) kfX4_16 rfl rfl rfl (fun _ => ⟨rfl, rfl⟩) dX4_init_15 hw4 k) ?_
  refine eBA_lift (pc1 := 19) (L1 := [(0, .ref a0), (1, .ref a1)]) (S1 := [.ref a0]) (w1 := w4) ⟨rfl, rfl⟩ (fun p e mc ms s m args below meth c A Q cells slots r hms X k => ev_aload_n (pc := 18) X 0 dX4_init_18 rfl rfl k) ?_
  refine eBA_lift (pc1 := 20) (L1 := [(0, .ref a0), (1, .ref a1)]) (S1 := [.int (0 : Int32), .ref a0]) (w1 := w4) ⟨rfl, rfl⟩ (fun p e mc ms s m args below meth c A Q cells slots r hms X k => ev_iconst (pc := 19) X dX4_init_19 rfl k) ?_
  obtain ⟨w5, hw5, h⟩ := eBi h
  refine eBA_lift (pc1 := 23) (L1 := [(0, .ref a0), (1, .ref a1)]) (S1 := []) (w1 := w5) (eP_len hw5) (fun p e mc ms s m args below meth c A Q cells slots r hms X k => ev_putI (pc := 20) X hcX4 (k := 2) (by decide) kfX4_22 rfl rfl dX4_init_20 hw5 k) ?_
  refine eBA_lift (pc1 := 24) (L1 := [(0, .ref a0), (1, .ref a1)]) (S1 := [.ref a0]) (w1 := w5) ⟨rfl, rfl⟩ (fun p e mc ms s m args below meth c A Q cells slots r hms X k => ev_aload_n (pc := 23) X 0 dX4_init_23 rfl rfl k) ?_
  refine eBA_lift (pc1 := 25) (L1 := [(0, .ref a0), (1, .ref a1)]) (S1 := [.int (0 : Int32), .ref a0]) (w1 := w5) ⟨rfl, rfl⟩ (fun p e mc ms s m args below meth c A Q cells slots r hms X k => ev_iconst (pc := 24) X dX4_init_24 rfl k) ?_
  obtain ⟨w6, hw6, h⟩ := eBi h
  refine eBA_lift (pc1 := 28) (L1 := [(0, .ref a0), (1, .ref a1)]) (S1 := []) (w1 := w6) (eP_len hw6) (fun p e mc ms s m args below meth c A Q cells slots r hms X k => ev_putI (pc := 25) X hcX4 (k := 3) (by decide) kfX4_26 rfl rfl dX4_init_25 hw6 k) ?_
  refine eBA_lift (pc1 := 29) (L1 := [(0, .ref a0), (1, .ref a1)]) (S1 := [.ref a0]) (w1 := w6) ⟨rfl, rfl⟩ (fun p e mc ms s m args below meth c A Q cells slots r hms X k => ev_aload_n (pc := 28) X 0 dX4_init_28 rfl rfl k) ?_
  refine eBA_lift (pc1 := 30) (L1 := [(0, .ref a0), (1, .ref a1)]) (S1 := [.ref a1, .ref a0]) (w1 := w6) ⟨rfl, rfl⟩ (fun p e mc ms s m args below meth c A Q cells slots r hms X k => ev_aload_n (pc := 29) X 1 dX4_init_29 rfl rfl k) ?_
  obtain ⟨w7, hw7, h⟩ := eBi h
  refine eBA_lift (pc1 := 33) (L1 := [(0, .ref a0), (1, .ref a1)]) (S1 := []) (w1 := w7) (eP_len hw7) (fun p e mc ms s m args below meth c A Q cells slots r hms X k => ev_putF (pc := 30) X hcX4 (k := 0) (by decide) kfX4_29 rfl rfl rfl (fun _ => ⟨rfl, rfl⟩) dX4_init_30 hw7 k) ?_
  obtain rfl := Option.some.inj h
  exact eBA_ret (pc := 33) dX4_init_33
theorem dX5_init_0 : decode cX5_init 0 = .ok (.aload_n 0, 1) := by decide +kernel
theorem dX5_init_1 : decode cX5_init 1 = .ok (.invokespecial 1, 3) := by decide +kernel
theorem dX5_init_4 : decode cX5_init 4 = .ok (.aload_n 0, 1) := by decide +kernel
theorem dX5_init_5 : decode cX5_init 5 = .ok (.lconst 0, 1) := by decide +kernel
theorem dX5_init_6 : decode cX5_init 6 = .ok (.putfield 7, 3) := by decide +kernel
theorem dX5_init_9 : decode cX5_init 9 = .ok (.aload_n 0, 1) := by decide +kernel
theorem dX5_init_10 : decode cX5_init 10 = .ok (.aload_n 1, 1) := by decide +kernel
theorem dX5_init_11 : decode cX5_init 11 = .ok (.putfield 13, 3) := by decide +kernel
theorem dX5_init_14 : decode cX5_init 14 = .ok (.aload_n 0, 1) := by decide +kernel
theorem dX5_init_15 : decode cX5_init 15 = .ok (.aload_n 2, 1) := by decide +kernel
theorem dX5_init_16 : decode cX5_init 16 = .ok (.putfield 17, 3) := by decide +kernel
theorem dX5_init_19 : decode cX5_init 19 = .ok (.return_, 1) := by decide +kernel
def fX5_init (a0 : Nat) (a1 : Nat) (a2 : Nat) (w : eW) : Option eW := (eP w a0 5 2 (.long (0 : Int64))).bind fun w1 => (eP w1 a0 5 0 (.ref a1)).bind fun w2 => (eP w2 a0 5 1 (.ref a2)).bind fun w3 => some w3
set_option maxRecDepth 20000 in
theorem mX5_init {a0 : Nat} {a1 : Nat} {a2 : Nat} {w w' : eW} (h : fX5_init a0 a1 a2 w = some w') : eMA l D cI cZ 1 yX5_init cX5_init 3 [.ref a0, .ref a1, .ref a2] w w' := by
  refine eMA_of [(0, .ref a0), (1, .ref a1), (2, .ref a2)] (by decide) (fun _ => rfl) (fun _ => Nat.le_of_ble_eq_true rfl) ?_
  rw [fX5_init] at h
  refine eBA_lift (pc1 := 1) (L1 := [(0, .ref a0), (1, .ref a1), (2, .ref a2)]) (S1 := [.ref a0]) (w1 := w) ⟨rfl, rfl⟩ (fun p e mc ms s m args below meth c A Q cells slots r hms X k => ev_aload_n (pc := 0) X 0 dX5_init_0 rfl rfl k) ?_
  refine eBA_lift (pc1 := 4) (L1 := [(0, .ref a0), (1, .ref a1), (2, .ref a2)]) (S1 := []) (w1 := w) ⟨rfl, rfl⟩ (fun p e mc ms s m args below meth c A Q cells slots r hms X k => ev_objInit (pc := 1) X klX5_1 hoA hoB dX5_init_1 (Nat.le_of_ble_eq_true rfl) (Nat.le_of_ble_eq_true rfl) k) ?_
  refine eBA_lift (pc1 := 5) (L1 := [(0, .ref a0), (1, .ref a1), (2, .ref a2)]) (S1 := [.ref a0]) (w1 := w) ⟨rfl, rfl⟩ (fun p e mc ms s m args below meth c A Q cells slots r hms X k => ev_aload_n (pc := 4) X 0 dX5_init_4 rfl rfl k) ?_
  refine eBA_lift (pc1 := 6) (L1 := [(0, .ref a0), (1, .ref a1), (2, .ref a2)]) (S1 := [.long (0 : Int64), .ref a0]) (w1 := w) ⟨rfl, rfl⟩ (fun p e mc ms s m args below meth c A Q cells slots r hms X k => ev_lconst (pc := 5) X dX5_init_5 rfl k) ?_
  obtain ⟨w1, hw1, h⟩ := eBi h
  refine eBA_lift (pc1 := 9) (L1 := [(0, .ref a0), (1, .ref a1), (2, .ref a2)]) (S1 := []) (w1 := w1) (eP_len hw1) (fun p e mc ms s m args below meth c A Q cells slots r hms X k => ev_putL (pc := 6) X hcX5 (k := 2) (by decide) kfX5_7 rfl rfl dX5_init_6 hw1 k) ?_
  refine eBA_lift (pc1 := 10) (L1 := [(0, .ref a0), (1, .ref a1), (2, .ref a2)]) (S1 := [.ref a0]) (w1 := w1) ⟨rfl, rfl⟩ (fun p e mc ms s m args below meth c A Q cells slots r hms X k => ev_aload_n (pc := 9) X 0 dX5_init_9 rfl rfl k) ?_
  refine eBA_lift (pc1 := 11) (L1 := [(0, .ref a0), (1, .ref a1), (2, .ref a2)]) (S1 := [.ref a1, .ref a0]) (w1 := w1) ⟨rfl, rfl⟩ (fun p e mc ms s m args below meth c A Q cells slots r hms X k => ev_aload_n (pc := 10) X 1 dX5_init_10 rfl rfl k) ?_
  obtain ⟨w2, hw2, h⟩ := eBi h
  refine eBA_lift (pc1 := 14) (L1 := [(0, .ref a0), (1, .ref a1), (2, .ref a2)]) (S1 := []) (w1 := w2) (eP_len hw2) (fun p e mc ms s m args below meth c A Q cells slots r hms X k => ev_putF (pc := 11) X hcX5 (k := 0) (by decide) kfX5_13 rfl rfl rfl (fun _ => ⟨rfl, rfl⟩) dX5_init_11 hw2 k) ?_
  refine eBA_lift (pc1 := 15) (L1 := [(0, .ref a0), (1, .ref a1), (2, .ref a2)]) (S1 := [.ref a0]) (w1 := w2) ⟨rfl, rfl⟩ (fun p e mc ms s m args below meth c A Q cells slots r hms X k => ev_aload_n (pc := 14) X 0 dX5_init_14 rfl rfl k) ?_
  refine eBA_lift (pc1 := 16) (L1 := [(0, .ref a0), (1, .ref a1), (2, .ref a2)]) (S1 := [.ref a2, .ref a0]) (w1 := w2) ⟨rfl, rfl⟩ (fun p e mc ms s m args below meth c A Q cells slots r hms X k => ev_aload_n (pc := 15) X 2 dX5_init_15 rfl rfl k) ?_
  obtain ⟨w3, hw3, h⟩ := eBi h
  refine eBA_lift (pc1 := 19) (L1 := [(0, .ref a0), (1, .ref a1), (2, .ref a2)]) (S1 := []) (w1 := w3) (eP_len hw3) (fun p e mc ms s m args below meth c A Q cells slots r hms X k => ev_putF (pc := 16) X hcX5 (k := 1) (by decide) kfX5_17 rfl rfl rfl (fun _ => ⟨rfl, rfl⟩) dX5_init_16 hw3 k) ?_
  obtain rfl := Option.some.inj h
  exact eBA_ret (pc := 19) dX5_init_19
theorem dX8_init_0 : decode cX8_init 0 = .ok (.aload_n 0, 1) := by decide +kernel
theorem dX8_init_1 : decode cX8_init 1 = .ok (.invokespecial 3, 3) := by decide +kernel
theorem dX8_init_4 : decode cX8_init 4 = .ok (.aload_n 0, 1) := by decide +kernel
theorem dX8_init_5 : decode cX8_init 5 = .ok (.new 9, 3) := by decide +kernel
theorem dX8_init_8 : decode cX8_init 8 = .ok (.dup, 1) := by decide +kernel
theorem dX8_init_9 : decode cX8_init 9 = .ok (.bipush 20, 2) := by decide +kernel
theorem dX8_init_11 : decode cX8_init 11 = .ok (.invokespecial 11, 3) := by decide +kernel
theorem dX8_init_14 : decode cX8_init 14 = .ok (.putfield 14, 3) := by decide +kernel
theorem dX8_init_17 : decode cX8_init 17 = .ok (.aload_n 0, 1) := by decide +kernel
theorem dX8_init_18 : decode cX8_init 18 = .ok (.aload_n 1, 1) := by decide +kernel
theorem dX8_init_19 : decode cX8_init 19 = .ok (.putfield 20, 3) := by decide +kernel
theorem dX8_init_22 : decode cX8_init 22 = .ok (.aload_n 0, 1) := by decide +kernel
theorem dX8_init_23 : decode cX8_init 23 = .ok (.aload_n 2, 1) := by decide +kernel
theorem dX8_init_24 : decode cX8_init 24 = .ok (.putfield 24, 3) := by decide +kernel
theorem dX8_init_27 : decode cX8_init 27 = .ok (.aload_n 0, 1) := by decide +kernel
theorem dX8_init_28 : decode cX8_init 28 = .ok (.aload_n 3, 1) := by decide +kernel
theorem dX8_init_29 : decode cX8_init 29 = .ok (.putfield 28, 3) := by decide +kernel
theorem dX8_init_32 : decode cX8_init 32 = .ok (.return_, 1) := by decide +kernel
def fX8_init (a0 : Nat) (a1 : Nat) (a2 : Nat) (a3 : Nat) (w : eW) : Option eW := eBind2 (eNewO w [(0, .ref a0), (1, .ref a1), (2, .ref a2), (3, .ref a3)] [.ref a0] 7 [.null]) fun o1 w2 => if eFsh w2.length [(0, .ref a0), (1, .ref a1), (2, .ref a2), (3, .ref a3)] [.ref o1, .ref a0] then (fX7_init o1 (20 : Int32) w2).bind fun w3 => (eP w3 a0 8 3 (.ref o1)).bind fun w4 => (eP w4 a0 8 0 (.ref a1)).bind fun w5 => (eP w5 a0 8 1 (.ref a2)).bind fun w6 => (eP w6 a0 8 2 (.ref a3)).bind fun w7 => some w7 else none
set_option maxRecDepth 20000 in
theorem mX8_init {a0 : Nat} {a1 : Nat} {a2 : Nat} {a3 : Nat} {w w' : eW} (h : fX8_init a0 a1 a2 a3 w = some w') : eMA l D cI cZ 2 yX8_init cX8_init 4 [.ref a0, .ref a1, .ref a2, .ref a3] w w' := by
  refine eMA_of [(0, .ref a0), (1, .ref a1), (2, .ref a2), (3, .ref a3)] (by decide) (fun _ => rfl) (fun _ => Nat.le_of_ble_eq_true rfl) ?_
  rw [fX8_init] at h
  refine eBA_lift (pc1 := 1) (L1 := [(0, .ref a0), (1, .ref a1), (2, .ref a2), (3, .ref a3)]) (S1 := [.ref a0]) (w1 := w) ⟨rfl, rfl⟩ (fun p e mc ms s m args below meth c A Q cells slots r hms X k => ev_aload_n (pc := 0) X 0 dX8_init_0 rfl rfl k) ?_
  refine eBA_lift (pc1 := 4) (L1 := [(0, .ref a0), (1, .ref a1), (2, .ref a2), (3, .ref a3)]) (S1 := []) (w1 := w) ⟨rfl, rfl⟩ (fun p e mc ms s m args below meth c A Q cells slots r hms X k => ev_objInit (pc := 1) X klX8_3 hoA hoB dX8_init_1 (Nat.le_of_ble_eq_true rfl) (Nat.le_of_ble_eq_true rfl) k) ?_
  refine eBA_lift (pc1 := 5) (L1 := [(0, .ref a0), (1, .ref a1), (2, .ref a2), (3, .ref a3)]) (S1 := [.ref a0]) (w1 := w) ⟨rfl, rfl⟩ (fun p e mc ms s m args below meth c A Q cells slots r hms X k => ev_aload_n (pc := 4) X 0 dX8_init_4 rfl rfl k) ?_
  obtain ⟨o1, w2, hn, h⟩ := eB2 h
  refine eBA_newO (pc := 5) hcX7 kcX8_9 hnX7 hzX7 rfl (fun _ => rfl) (by decide +kernel) dX8_init_5 hn ?_
  refine eBA_lift (pc1 := 9) (L1 := [(0, .ref a0), (1, .ref a1), (2, .ref a2), (3, .ref a3)]) (S1 := [.ref o1, .ref o1, .ref a0]) (w1 := w2) ⟨rfl, rfl⟩ (fun p e mc ms s m args below meth c A Q cells slots r hms X k => ev_dup (pc := 8) X dX8_init_8 rfl k) ?_
  refine eBA_lift (pc1 := 11) (L1 := [(0, .ref a0), (1, .ref a1), (2, .ref a2), (3, .ref a3)]) (S1 := [.int (20 : Int32), .ref o1, .ref o1, .ref a0]) (w1 := w2) ⟨rfl, rfl⟩ (fun p e mc ms s m args below meth c A Q cells slots r hms X k => ev_bipush (pc := 9) X dX8_init_9 rfl k) ?_
  obtain ⟨hfs, h⟩ := eIfb h
  obtain ⟨w3, hc, h⟩ := eBi h
  refine eBA_callf (pc := 11) (As := [.int (20 : Int32)]) (S := [.ref o1, .ref a0]) hwX7_init klX8_11 hiX7_init rfl ⟨Nat.le_of_ble_eq_true rfl, Nat.le_of_ble_eq_true rfl⟩ rfl (Nat.le_of_ble_eq_true rfl) dX8_init_11 rfl (mX7_init hc) hfs ?_
  obtain ⟨w4, hw4, h⟩ := eBi h
  refine eBA_lift (pc1 := 17) (L1 := [(0, .ref a0), (1, .ref a1), (2, .ref a2), (3, .ref a3)]) (S1 := []) (w1 := w4) (eP_len hw4) (fun p e mc ms s m args below meth c A Q cells slots r hms X k => ev_putF (pc := 14) X hcX8 (k := 3) (by decide) kfX8_14 rfl rfl rfl (fun _ => ⟨rfl, rfl⟩) dX8_init_14 hw4 k) ?_
  refine eBA_lift (pc1 := 18) (L1 := [(0, .ref a0), (1, .ref a1), (2, .ref a2), (3, .ref a3)]) (S1 := [.ref a0]) (w1 := w4) ⟨rfl, rfl⟩ (fun p e mc ms s m args below meth c A Q cells slots r hms X k => ev_aload_n (pc := 17) X 0 dX8_init_17 rfl rfl k) ?_
  refine eBA_lift (pc1 := 19) (L1 := [(0, .ref a0), (1, .ref a1), (2, .ref a2), (3, .ref a3)]) (S1 := [.ref a1, .ref a0]) (w1 := w4) ⟨rfl, rfl⟩ (fun p e mc ms s m args below meth c A Q cells slots r hms X k => ev_aload_n (pc := 18) X 1 dX8_init_18 rfl rfl k) ?_
  obtain ⟨w5, hw5, h⟩ := eBi h
  refine eBA_lift (pc1 := 22) (L1 := [(0, .ref a0), (1, .ref a1), (2, .ref a2), (3, .ref a3)]) (S1 := []) (w1 := w5) (eP_len hw5) (fun p e mc ms s m args below meth c A Q cells slots r hms X k => ev_putF (pc := 19) X hcX8 (k := 0) (by decide) kfX8_20 rfl rfl rfl (fun _ => ⟨rfl, rfl⟩) dX8_init_19 hw5 k) ?_
  refine eBA_lift (pc1 := 23) (L1 := [(0, .ref a0), (1, .ref a1), (2, .ref a2), (3, .ref a3)]) (S1 := [.ref a0]) (w1 := w5) ⟨rfl, rfl⟩ (fun p e mc ms s m args below meth c A Q cells slots r hms X k => ev_aload_n (pc := 22) X 0 dX8_init_22 rfl rfl k) ?_
  refine eBA_lift (pc1 := 24) (L1 := [(0, .ref a0), (1, .ref a1), (2, .ref a2), (3, .ref a3)]) (S1 := [.ref a2, .ref a0]) (w1 := w5) ⟨rfl, rfl⟩ (fun p e mc ms s m args below meth c A Q cells slots r hms X k => ev_aload_n (pc := 23) X 2 dX8_init_23 rfl rfl k) ?_
  obtain ⟨w6, hw6, h⟩ := eBi h
  refine eBA_lift (pc1 := 27) (L1 := [(0, .ref a0), (1, .ref a1), (2, .ref a2), (3, .ref a3)]) (S1 := []) (w1 := w6) (eP_len hw6) (fun p e mc ms s m args below meth c A Q cells slots r hms X k => ev_putF (pc := 24) X hcX8 (k := 1) (by decide) kfX8_24 rfl rfl rfl (fun _ => ⟨rfl, rfl⟩) dX8_init_24 hw6 k) ?_
  refine eBA_lift (pc1 := 28) (L1 := [(0, .ref a0), (1, .ref a1), (2, .ref a2), (3, .ref a3)]) (S1 := [.ref a0]) (w1 := w6) ⟨rfl, rfl⟩ (fun p e mc ms s m args below meth c A Q cells slots r hms X k => ev_aload_n (pc := 27) X 0 dX8_init_27 rfl rfl k) ?_
  refine eBA_lift (pc1 := 29) (L1 := [(0, .ref a0), (1, .ref a1), (2, .ref a2), (3, .ref a3)]) (S1 := [.ref a3, .ref a0]) (w1 := w6) ⟨rfl, rfl⟩ (fun p e mc ms s m args below meth c A Q cells slots r hms X k => ev_aload_n (pc := 28) X 3 dX8_init_28 rfl rfl k) ?_
  obtain ⟨w7, hw7, h⟩ := eBi h
  refine eBA_lift (pc1 := 32) (L1 := [(0, .ref a0), (1, .ref a1), (2, .ref a2), (3, .ref a3)]) (S1 := []) (w1 := w7) (eP_len hw7) (fun p e mc ms s m args below meth c A Q cells slots r hms X k => ev_putF (pc := 29) X hcX8 (k := 2) (by decide) kfX8_28 rfl rfl rfl (fun _ => ⟨rfl, rfl⟩) dX8_init_29 hw7 k) ?_
  obtain rfl := Option.some.inj h
  exact eBA_ret (pc := 32) dX8_init_32
theorem dX9_init_0 : decode cX9_init 0 = .ok (.aload_n 0, 1) := by decide +kernel
theorem dX9_init_1 : decode cX9_init 1 = .ok (.invokespecial 3, 3) := by decide +kernel
theorem dX9_init_4 : decode cX9_init 4 = .ok (.aload_n 0, 1) := by decide +kernel
theorem dX9_init_5 : decode cX9_init 5 = .ok (.new 9, 3) := by decide +kernel
theorem dX9_init_8 : decode cX9_init 8 = .ok (.dup, 1) := by decide +kernel
theorem dX9_init_9 : decode cX9_init 9 = .ok (.iconst 4, 1) := by decide +kernel
theorem dX9_init_10 : decode cX9_init 10 = .ok (.invokestatic 11, 3) := by decide +kernel
theorem dX9_init_13 : decode cX9_init 13 = .ok (.bipush 20, 2) := by decide +kernel
theorem dX9_init_15 : decode cX9_init 15 = .ok (.imul, 1) := by decide +kernel
theorem dX9_init_16 : decode cX9_init 16 = .ok (.invokespecial 15, 3) := by decide +kernel
theorem dX9_init_19 : decode cX9_init 19 = .ok (.putfield 18, 3) := by decide +kernel
theorem dX9_init_22 : decode cX9_init 22 = .ok (.aload_n 0, 1) := by decide +kernel
theorem dX9_init_23 : decode cX9_init 23 = .ok (.aload_n 1, 1) := by decide +kernel
theorem dX9_init_24 : decode cX9_init 24 = .ok (.putfield 24, 3) := by decide +kernel
theorem dX9_init_27 : decode cX9_init 27 = .ok (.aload_n 0, 1) := by decide +kernel
theorem dX9_init_28 : decode cX9_init 28 = .ok (.aload_n 2, 1) := by decide +kernel
theorem dX9_init_29 : decode cX9_init 29 = .ok (.putfield 28, 3) := by decide +kernel
theorem dX9_init_32 : decode cX9_init 32 = .ok (.aload_n 0, 1) := by decide +kernel
theorem dX9_init_33 : decode cX9_init 33 = .ok (.new 32, 3) := by decide +kernel
theorem dX9_init_36 : decode cX9_init 36 = .ok (.dup, 1) := by decide +kernel
theorem dX9_init_37 : decode cX9_init 37 = .ok (.aload_n 1, 1) := by decide +kernel
theorem dX9_init_38 : decode cX9_init 38 = .ok (.invokespecial 34, 3) := by decide +kernel
theorem dX9_init_41 : decode cX9_init 41 = .ok (.putfield 37, 3) := by decide +kernel
theorem dX9_init_44 : decode cX9_init 44 = .ok (.return_, 1) := by decide +kernel
def fX9_init (a0 : Nat) (a1 : Nat) (a2 : Nat) (w : eW) : Option eW := eBind2 (eNewO w [(0, .ref a0), (1, .ref a1), (2, .ref a2)] [.ref a0] 7 [.null]) fun o1 w2 => eBind2 (fX10_bit (4 : Int32) w2) fun v4 w3 => if w3.length = w2.length ∧ e_wsz w3 = e_wsz w2 then if eFsh w3.length [(0, .ref a0), (1, .ref a1), (2, .ref a2)] [.ref o1, .ref a0] then (fX7_init o1 (v4 * (20 : Int32)) w3).bind fun w5 => (eP w5 a0 9 3 (.ref o1)).bind fun w6 => (eP w6 a0 9 0 (.ref a1)).bind fun w7 => (eP w7 a0 9 1 (.ref a2)).bind fun w8 => eBind2 (eNewO w8 [(0, .ref a0), (1, .ref a1), (2, .ref a2)] [.ref a0] 6 [.null, .int 0, .int 0]) fun o9 w10 => if eFsh w10.length [(0, .ref a0), (1, .ref a1), (2, .ref a2)] [.ref o9, .ref a0] then (fX6_init o9 a1 w10).bind fun w11 => (eP w11 a0 9 2 (.ref o9)).bind fun w12 => some w12 else none else none else none
set_option maxRecDepth 20000 in
theorem mX9_init {a0 : Nat} {a1 : Nat} {a2 : Nat} {w w' : eW} (h : fX9_init a0 a1 a2 w = some w') : eMA l D cI cZ 2 yX9_init cX9_init 3 [.ref a0, .ref a1, .ref a2] w w' := by
  refine eMA_of [(0, .ref a0), (1, .ref a1), (2, .ref a2)] (by decide) (fun _ => rfl) (fun _ => Nat.le_of_ble_eq_true rfl) ?_
  rw [fX9_init] at h
  refine eBA_lift (pc1 := 1) (L1 := [(0, .ref a0), (1, .ref a1), (2, .ref a2)]) (S1 := [.ref a0]) (w1 := w) ⟨rfl, rfl⟩ (fun p e mc ms s m args below meth c A Q cells slots r hms X k => ev_aload_n (pc := 0) X 0 dX9_init_0 rfl rfl k) ?_
  refine eBA_lift (pc1 := 4) (L1 := [(0, .ref a0), (1, .ref a1), (2, .ref a2)]) (S1 := []) (w1 := w) ⟨rfl, rfl⟩ (fun p e mc ms s m args below meth c A Q cells slots r hms X k => ev_objInit (pc := 1) X klX9_3 hoA hoB dX9_init_1 (Nat.le_of_ble_eq_true rfl) (Nat.le_of_ble_eq_true rfl) k) ?_
  refine eBA_lift (pc1 := 5) (L1 := [(0, .ref a0), (1, .ref a1), (2, .ref a2)]) (S1 := [.ref a0]) (w1 := w) ⟨rfl, rfl⟩ (fun p e mc ms s m args below meth c A Q cells slots r hms X k => ev_aload_n (pc := 4) X 0 dX9_init_4 rfl rfl k) ?_
  obtain ⟨o1, w2, hn, h⟩ := eB2 h
  refine eBA_newO (pc := 5) hcX7 kcX9_9 hnX7 hzX7 rfl (fun _ => rfl) (by decide +kernel) dX9_init_5 hn ?_
  refine eBA_lift (pc1 := 9) (L1 := [(0, .ref a0), (1, .ref a1), (2, .ref a2)]) (S1 := [.ref o1, .ref o1, .ref a0]) (w1 := w2) ⟨rfl, rfl⟩ (fun p e mc ms s m args below meth c A Q cells slots r hms X k => ev_dup (pc := 8) X dX9_init_8 rfl k) ?_
  refine eBA_lift (pc1 := 10) (L1 := [(0, .ref a0), (1, .ref a1), (2, .ref a2)]) (S1 := [.int (4 : Int32), .ref o1, .ref o1, .ref a0]) (w1 := w2) ⟨rfl, rfl⟩ (fun p e mc ms s m args below meth c A Q cells slots r hms X k => ev_iconst (pc := 9) X dX9_init_9 rfl k) ?_
  obtain ⟨v4, w3, hc, h⟩ := eB2 h
  obtain ⟨hw, h⟩ := eIfp h
  refine eBA_lift (pc1 := 13) (L1 := [(0, .ref a0), (1, .ref a1), (2, .ref a2)]) (S1 := [.int v4, .ref o1, .ref o1, .ref a0]) (w1 := w3) hw (fun p e mc ms s m args below meth c A Q cells slots r hms X k => ev_callSN_i (pc := 10) (As := [.int (4 : Int32)]) (S := [.ref o1, .ref o1, .ref a0]) X hwX10_bit knX9_11 htX10_bit ⟨Nat.le_of_ble_eq_true rfl, Nat.le_of_ble_eq_true rfl⟩ hms rfl (Nat.le_of_ble_eq_true rfl) dX9_init_10 rfl (mX10_bit (l := l) (D := D) (cI := cI) (cZ := cZ) hc) k) ?_
  refine eBA_lift (pc1 := 15) (L1 := [(0, .ref a0), (1, .ref a1), (2, .ref a2)]) (S1 := [.int (20 : Int32), .int v4, .ref o1, .ref o1, .ref a0]) (w1 := w3) ⟨rfl, rfl⟩ (fun p e mc ms s m args below meth c A Q cells slots r hms X k => ev_bipush (pc := 13) X dX9_init_13 rfl k) ?_
  refine eBA_lift (pc1 := 16) (L1 := [(0, .ref a0), (1, .ref a1), (2, .ref a2)]) (S1 := [.int (v4 * (20 : Int32)), .ref o1, .ref o1, .ref a0]) (w1 := w3) ⟨rfl, rfl⟩ (fun p e mc ms s m args below meth c A Q cells slots r hms X k => ev_imul (pc := 15) X dX9_init_15 k) ?_
  obtain ⟨hfs, h⟩ := eIfb h
  obtain ⟨w5, hc, h⟩ := eBi h
  refine eBA_callf (pc := 16) (As := [.int (v4 * (20 : Int32))]) (S := [.ref o1, .ref a0]) hwX7_init klX9_15 hiX7_init rfl ⟨Nat.le_of_ble_eq_true rfl, Nat.le_of_ble_eq_true rfl⟩ rfl (Nat.le_of_ble_eq_true rfl) dX9_init_16 rfl (mX7_init hc) hfs ?_
  obtain ⟨w6, hw6, h⟩ := eBi h
  refine eBA_lift (pc1 := 22) (L1 := [(0, .ref a0), (1, .ref a1), (2, .ref a2)]) (S1 := []) (w1 := w6) (eP_len hw6) (fun p e mc ms s m args below meth c A Q cells slots r hms X k => ev_putF (pc := 19) X hcX9 (k := 3) (by decide) kfX9_18 rfl rfl rfl (fun _ => ⟨rfl, rfl⟩) dX9_init_19 hw6 k) ?_
  refine eBA_lift (pc1 := 23) (L1 := [(0, .ref a0), (1, .ref a1), (2, .ref a2)]) (S1 := [.ref a0]) (w1 := w6) ⟨rfl, rfl⟩ (fun p e mc ms s m args below meth c A Q cells slots r hms X k => ev_aload_n (pc := 22) X 0 dX9_init_22 rfl rfl k) ?_
  refine eBA_lift (pc1 := 24) (L1 := [(0, .ref a0), (1, .ref a1), (2, .ref a2)]) (S1 := [.ref a1, .ref a0]) (w1 := w6) ⟨rfl, rfl⟩ (fun p e mc ms s m args below meth c A Q cells slots r hms X k => ev_aload_n (pc := 23) X 1 dX9_init_23 rfl rfl k) ?_
  obtain ⟨w7, hw7, h⟩ := eBi h
  refine eBA_lift (pc1 := 27) (L1 := [(0, .ref a0), (1, .ref a1), (2, .ref a2)]) (S1 := []) (w1 := w7) (eP_len hw7) (fun p e mc ms s m args below meth c A Q cells slots r hms X k => ev_putF (pc := 24) X hcX9 (k := 0) (by decide) kfX9_24 rfl rfl rfl (fun _ => ⟨rfl, rfl⟩) dX9_init_24 hw7 k) ?_
  refine eBA_lift (pc1 := 28) (L1 := [(0, .ref a0), (1, .ref a1), (2, .ref a2)]) (S1 := [.ref a0]) (w1 := w7) ⟨rfl, rfl⟩ (fun p e mc ms s m args below meth c A Q cells slots r hms X k => ev_aload_n (pc := 27) X 0 dX9_init_27 rfl rfl k) ?_
  refine eBA_lift (pc1 := 29) (L1 := [(0, .ref a0), (1, .ref a1), (2, .ref a2)]) (S1 := [.ref a2, .ref a0]) (w1 := w7) ⟨rfl, rfl⟩ (fun p e mc ms s m args below meth c A Q cells slots r hms X k => ev_aload_n (pc := 28) X 2 dX9_init_28 rfl rfl k) ?_
  obtain ⟨w8, hw8, h⟩ := eBi h
  refine eBA_lift (pc1 := 32) (L1 := [(0, .ref a0), (1, .ref a1), (2, .ref a2)]) (S1 := []) (w1 := w8) (eP_len hw8) (fun p e mc ms s m args below meth c A Q cells slots r hms X k => ev_putF (pc := 29) X hcX9 (k := 1) (by decide) kfX9_28 rfl rfl rfl (fun _ => ⟨rfl, rfl⟩) dX9_init_29 hw8 k) ?_
  refine eBA_lift (pc1 := 33) (L1 := [(0, .ref a0), (1, .ref a1), (2, .ref a2)]) (S1 := [.ref a0]) (w1 := w8) ⟨rfl, rfl⟩ (fun p e mc ms s m args below meth c A Q cells slots r hms X k => ev_aload_n (pc := 32) X 0 dX9_init_32 rfl rfl k) ?_
  obtain ⟨o9, w10, hn, h⟩ := eB2 h
  refine eBA_newO (pc := 33) hcX6 kcX9_32 hnX6 hzX6 rfl (fun _ => rfl) (by decide +kernel) dX9_init_33 hn ?_
  refine eBA_lift (pc1 := 37) (L1 := [(0, .ref a0), (1, .ref a1), (2, .ref a2)]) (S1 := [.ref o9, .ref o9, .ref a0]) (w1 := w10) ⟨rfl, rfl⟩ (fun p e mc ms s m args below meth c A Q cells slots r hms X k => ev_dup (pc := 36) X dX9_init_36 rfl k) ?_
  refine eBA_lift (pc1 := 38) (L1 := [(0, .ref a0), (1, .ref a1), (2, .ref a2)]) (S1 := [.ref a1, .ref o9, .ref o9, .ref a0]) (w1 := w10) ⟨rfl, rfl⟩ (fun p e mc ms s m args below meth c A Q cells slots r hms X k => ev_aload_n (pc := 37) X 1 dX9_init_37 rfl rfl k) ?_
  obtain ⟨hfs, h⟩ := eIfb h
  obtain ⟨w11, hc, h⟩ := eBi h
  refine eBA_callf (pc := 38) (As := [.ref a1]) (S := [.ref o9, .ref a0]) hwX6_init klX9_34 hiX6_init rfl ⟨Nat.le_of_ble_eq_true rfl, Nat.le_of_ble_eq_true rfl⟩ rfl (Nat.le_of_ble_eq_true rfl) dX9_init_38 rfl (mX6_init hc) hfs ?_
  obtain ⟨w12, hw12, h⟩ := eBi h
  refine eBA_lift (pc1 := 44) (L1 := [(0, .ref a0), (1, .ref a1), (2, .ref a2)]) (S1 := []) (w1 := w12) (eP_len hw12) (fun p e mc ms s m args below meth c A Q cells slots r hms X k => ev_putF (pc := 41) X hcX9 (k := 2) (by decide) kfX9_37 rfl rfl rfl (fun _ => ⟨rfl, rfl⟩) dX9_init_41 hw12 k) ?_
  obtain rfl := Option.some.inj h
  exact eBA_ret (pc := 44) dX9_init_44
theorem dX10_init_0 : decode cX10_init 0 = .ok (.aload_n 0, 1) := by decide +kernel
theorem dX10_init_1 : decode cX10_init 1 = .ok (.invokespecial 3, 3) := by decide +kernel
theorem dX10_init_4 : decode cX10_init 4 = .ok (.aload_n 0, 1) := by decide +kernel
theorem dX10_init_5 : decode cX10_init 5 = .ok (.new 9, 3) := by decide +kernel
theorem dX10_init_8 : decode cX10_init 8 = .ok (.dup, 1) := by decide +kernel
theorem dX10_init_9 : decode cX10_init 9 = .ok (.invokespecial 11, 3) := by decide +kernel
theorem dX10_init_12 : decode cX10_init 12 = .ok (.putfield 12, 3) := by decide +kernel
theorem dX10_init_15 : decode cX10_init 15 = .ok (.aload_n 0, 1) := by decide +kernel
theorem dX10_init_16 : decode cX10_init 16 = .ok (.new 16, 3) := by decide +kernel
theorem dX10_init_19 : decode cX10_init 19 = .ok (.dup, 1) := by decide +kernel
theorem dX10_init_20 : decode cX10_init 20 = .ok (.invokespecial 18, 3) := by decide +kernel
theorem dX10_init_23 : decode cX10_init 23 = .ok (.putfield 19, 3) := by decide +kernel
theorem dX10_init_26 : decode cX10_init 26 = .ok (.aload_n 0, 1) := by decide +kernel
theorem dX10_init_27 : decode cX10_init 27 = .ok (.new 23, 3) := by decide +kernel
theorem dX10_init_30 : decode cX10_init 30 = .ok (.dup, 1) := by decide +kernel
theorem dX10_init_31 : decode cX10_init 31 = .ok (.aload_n 0, 1) := by decide +kernel
theorem dX10_init_32 : decode cX10_init 32 = .ok (.getfield 12, 3) := by decide +kernel
theorem dX10_init_35 : decode cX10_init 35 = .ok (.invokespecial 25, 3) := by decide +kernel
theorem dX10_init_38 : decode cX10_init 38 = .ok (.putfield 28, 3) := by decide +kernel
theorem dX10_init_41 : decode cX10_init 41 = .ok (.aload_n 0, 1) := by decide +kernel
theorem dX10_init_42 : decode cX10_init 42 = .ok (.new 32, 3) := by decide +kernel
theorem dX10_init_45 : decode cX10_init 45 = .ok (.dup, 1) := by decide +kernel
theorem dX10_init_46 : decode cX10_init 46 = .ok (.aload_n 0, 1) := by decide +kernel
theorem dX10_init_47 : decode cX10_init 47 = .ok (.getfield 28, 3) := by decide +kernel
theorem dX10_init_50 : decode cX10_init 50 = .ok (.invokespecial 34, 3) := by decide +kernel
theorem dX10_init_53 : decode cX10_init 53 = .ok (.putfield 37, 3) := by decide +kernel
theorem dX10_init_56 : decode cX10_init 56 = .ok (.aload_n 0, 1) := by decide +kernel
theorem dX10_init_57 : decode cX10_init 57 = .ok (.new 41, 3) := by decide +kernel
theorem dX10_init_60 : decode cX10_init 60 = .ok (.dup, 1) := by decide +kernel
theorem dX10_init_61 : decode cX10_init 61 = .ok (.bipush 114, 2) := by decide +kernel
theorem dX10_init_63 : decode cX10_init 63 = .ok (.invokespecial 43, 3) := by decide +kernel
theorem dX10_init_66 : decode cX10_init 66 = .ok (.putfield 46, 3) := by decide +kernel
theorem dX10_init_69 : decode cX10_init 69 = .ok (.aload_n 0, 1) := by decide +kernel
theorem dX10_init_70 : decode cX10_init 70 = .ok (.iconst 0, 1) := by decide +kernel
theorem dX10_init_71 : decode cX10_init 71 = .ok (.putfield 50, 3) := by decide +kernel
theorem dX10_init_74 : decode cX10_init 74 = .ok (.aload_n 0, 1) := by decide +kernel
theorem dX10_init_75 : decode cX10_init 75 = .ok (.new 54, 3) := by decide +kernel
theorem dX10_init_78 : decode cX10_init 78 = .ok (.dup, 1) := by decide +kernel
theorem dX10_init_79 : decode cX10_init 79 = .ok (.aload_n 0, 1) := by decide +kernel
theorem dX10_init_80 : decode cX10_init 80 = .ok (.getfield 12, 3) := by decide +kernel
theorem dX10_init_83 : decode cX10_init 83 = .ok (.invokespecial 56, 3) := by decide +kernel
theorem dX10_init_86 : decode cX10_init 86 = .ok (.putfield 57, 3) := by decide +kernel
theorem dX10_init_89 : decode cX10_init 89 = .ok (.aload_n 0, 1) := by decide +kernel
theorem dX10_init_90 : decode cX10_init 90 = .ok (.new 61, 3) := by decide +kernel
theorem dX10_init_93 : decode cX10_init 93 = .ok (.dup, 1) := by decide +kernel
theorem dX10_init_94 : decode cX10_init 94 = .ok (.aload_n 0, 1) := by decide +kernel
theorem dX10_init_95 : decode cX10_init 95 = .ok (.getfield 12, 3) := by decide +kernel
theorem dX10_init_98 : decode cX10_init 98 = .ok (.aload_n 0, 1) := by decide +kernel
theorem dX10_init_99 : decode cX10_init 99 = .ok (.getfield 28, 3) := by decide +kernel
theorem dX10_init_102 : decode cX10_init 102 = .ok (.aload_n 0, 1) := by decide +kernel
theorem dX10_init_103 : decode cX10_init 103 = .ok (.getfield 57, 3) := by decide +kernel
theorem dX10_init_106 : decode cX10_init 106 = .ok (.invokespecial 63, 3) := by decide +kernel
theorem dX10_init_109 : decode cX10_init 109 = .ok (.putfield 66, 3) := by decide +kernel
theorem dX10_init_112 : decode cX10_init 112 = .ok (.aload_n 0, 1) := by decide +kernel
theorem dX10_init_113 : decode cX10_init 113 = .ok (.new 70, 3) := by decide +kernel
theorem dX10_init_116 : decode cX10_init 116 = .ok (.dup, 1) := by decide +kernel
theorem dX10_init_117 : decode cX10_init 117 = .ok (.aload_n 0, 1) := by decide +kernel
theorem dX10_init_118 : decode cX10_init 118 = .ok (.getfield 12, 3) := by decide +kernel
theorem dX10_init_121 : decode cX10_init 121 = .ok (.aload_n 0, 1) := by decide +kernel
theorem dX10_init_122 : decode cX10_init 122 = .ok (.getfield 57, 3) := by decide +kernel
theorem dX10_init_125 : decode cX10_init 125 = .ok (.invokespecial 72, 3) := by decide +kernel
theorem dX10_init_128 : decode cX10_init 128 = .ok (.putfield 75, 3) := by decide +kernel
theorem dX10_init_131 : decode cX10_init 131 = .ok (.aload_n 0, 1) := by decide +kernel
theorem dX10_init_132 : decode cX10_init 132 = .ok (.new 79, 3) := by decide +kernel
theorem dX10_init_135 : decode cX10_init 135 = .ok (.dup, 1) := by decide +kernel
theorem dX10_init_136 : decode cX10_init 136 = .ok (.aload_n 0, 1) := by decide +kernel
theorem dX10_init_137 : decode cX10_init 137 = .ok (.getfield 12, 3) := by decide +kernel
theorem dX10_init_140 : decode cX10_init 140 = .ok (.invokespecial 81, 3) := by decide +kernel
theorem dX10_init_143 : decode cX10_init 143 = .ok (.putfield 82, 3) := by decide +kernel
theorem dX10_init_146 : decode cX10_init 146 = .ok (.aload_n 0, 1) := by decide +kernel
theorem dX10_init_147 : decode cX10_init 147 = .ok (.new 86, 3) := by decide +kernel
theorem dX10_init_150 : decode cX10_init 150 = .ok (.dup, 1) := by decide +kernel
theorem dX10_init_151 : decode cX10_init 151 = .ok (.aload_n 0, 1) := by decide +kernel
theorem dX10_init_152 : decode cX10_init 152 = .ok (.getfield 28, 3) := by decide +kernel
theorem dX10_init_155 : decode cX10_init 155 = .ok (.aload_n 0, 1) := by decide +kernel
theorem dX10_init_156 : decode cX10_init 156 = .ok (.getfield 57, 3) := by decide +kernel
theorem dX10_init_159 : decode cX10_init 159 = .ok (.invokespecial 88, 3) := by decide +kernel
theorem dX10_init_162 : decode cX10_init 162 = .ok (.putfield 91, 3) := by decide +kernel
theorem dX10_init_165 : decode cX10_init 165 = .ok (.return_, 1) := by decide +kernel
def fX10_init (a0 : Nat) (w : eW) : Option eW := eBind2 (eNewO w [(0, .ref a0)] [.ref a0] 1 [.int 0, .int 0, .int 0, .int 0, .null, .null]) fun o1 w2 => if eFsh w2.length [(0, .ref a0)] [.ref o1, .ref a0] then (fX1_init o1 w2).bind fun w3 => (eP w3 a0 10 0 (.ref o1)).bind fun w4 => eBind2 (eNewO w4 [(0, .ref a0)] [.ref a0] 2 [.null, .int 0, .null, .int 0, .int 0, .int 0, .int 0, .int 0, .int 0]) fun o5 w6 => if eFsh w6.length [(0, .ref a0)] [.ref o5, .ref a0] then (fX2_init o5 w6).bind fun w7 => (eP w7 a0 10 1 (.ref o5)).bind fun w8 => eBind2 (eNewO w8 [(0, .ref a0)] [.ref a0] 0 [.null, .null]) fun o9 w10 => (eGR w10 a0 10 0).bind fun v11 => if eFsh w10.length [(0, .ref a0)] [.ref o9, .ref a0] then (fX0_init o9 v11 w10).bind fun w12 => (eP w12 a0 10 2 (.ref o9)).bind fun w13 => eBind2 (eNewO w13 [(0, .ref a0)] [.ref a0] 4 [.null, .null, .int 0, .int 0]) fun o14 w15 => (eGR w15 a0 10 2).bind fun v16 => if eFsh w15.length [(0, .ref a0)] [.ref o14, .ref a0] then (fX4_init o14 v16 w15).bind fun w17 => (eP w17 a0 10 3 (.ref o14)).bind fun w18 => eBind2 (eNewO w18 [(0, .ref a0)] [.ref a0] 7 [.null]) fun o19 w20 => if eFsh w20.length [(0, .ref a0)] [.ref o19, .ref a0] then (fX7_init o19 (114 : Int32) w20).bind fun w21 => (eP w21 a0 10 4 (.ref o19)).bind fun w22 => (eP w22 a0 10 5 (.int (0 : Int32))).bind fun w23 => eBind2 (eNewO w23 [(0, .ref a0)] [.ref a0] 6 [.null, .int 0, .int 0]) fun o24 w25 => (eGR w25 a0 10 0).bind fun v26 => if eFsh w25.length [(0, .ref a0)] [.ref o24, .ref a0] then (fX6_init o24 v26 w25).bind fun w27 => (eP w27 a0 10 6 (.ref o24)).bind fun w28 => eBind2 (eNewO w28 [(0, .ref a0)] [.ref a0] 8 [.null, .null, .null, .null]) fun o29 w30 => (eGR w30 a0 10 0).bind fun v31 => (eGR w30 a0 10 2).bind fun v32 => (eGR w30 a0 10 6).bind fun v33 => if eFsh w30.length [(0, .ref a0)] [.ref o29, .ref a0] then (fX8_init o29 v31 v32 v33 w30).bind fun w34 => (eP w34 a0 10 7 (.ref o29)).bind fun w35 => eBind2 (eNewO w35 [(0, .ref a0)] [.ref a0] 9 [.null, .null, .null, .null]) fun o36 w37 => (eGR w37 a0 10 0).bind fun v38 => (eGR w37 a0 10 6).bind fun v39 => if eFsh w37.length [(0, .ref a0)] [.ref o36, .ref a0] then (fX9_init o36 v38 v39 w37).bind fun w40 => (eP w40 a0 10 8 (.ref o36)).bind fun w41 => eBind2 (eNewO w41 [(0, .ref a0)] [.ref a0] 3 [.null, .null, .null]) fun o42 w43 => (eGR w43 a0 10 0).bind fun v44 => if eFsh w43.length [(0, .ref a0)] [.ref o42, .ref a0] then (fX3_init o42 v44 w43).bind fun w45 => (eP w45 a0 10 9 (.ref o42)).bind fun w46 => eBind2 (eNewO w46 [(0, .ref a0)] [.ref a0] 5 [.null, .null, .long 0]) fun o47 w48 => (eGR w48 a0 10 2).bind fun v49 => (eGR w48 a0 10 6).bind fun v50 => if eFsh w48.length [(0, .ref a0)] [.ref o47, .ref a0] then (fX5_init o47 v49 v50 w48).bind fun w51 => (eP w51 a0 10 10 (.ref o47)).bind fun w52 => some w52 else none else none else none else none else none else none else none else none else none else none
set_option maxRecDepth 20000 in
theorem mX10_init {a0 : Nat} {w w' : eW} (h : fX10_init a0 w = some w') : eMA l D cI cZ 4 yX10_init cX10_init 1 [.ref a0] w w' := by
  refine eMA_of [(0, .ref a0)] (by decide) (fun _ => rfl) (fun _ => Nat.le_of_ble_eq_true rfl) ?_
  rw [fX10_init] at h
  refine eBA_lift (pc1 := 1) (L1 := [(0, .ref a0)]) (S1 := [.ref a0]) (w1 := w) ⟨rfl, rfl⟩ (fun p e mc ms s m args below meth c A Q cells slots r hms X k => ev_aload_n (pc := 0) X 0 dX10_init_0 rfl rfl k) ?_
  refine eBA_lift (pc1 := 4) (L1 := [(0, .ref a0)]) (S1 := []) (w1 := w) ⟨rfl, rfl⟩ (fun p e mc ms s m args below meth c A Q cells slots r hms X k => ev_objInit (pc := 1) X klX10_3 hoA hoB dX10_init_1 (Nat.le_of_ble_eq_true rfl) (Nat.le_of_ble_eq_true rfl) k) ?_
  refine eBA_lift (pc1 := 5) (L1 := [(0, .ref a0)]) (S1 := [.ref a0]) (w1 := w) ⟨rfl, rfl⟩ (fun p e mc ms s m args below meth c A Q cells slots r hms X k => ev_aload_n (pc := 4) X 0 dX10_init_4 rfl rfl k) ?_
  obtain ⟨o1, w2, hn, h⟩ := eB2 h
  refine eBA_newO (pc := 5) hcX1 kcX10_9 hnX1 hzX1 rfl (fun _ => rfl) (by decide +kernel) dX10_init_5 hn ?_
  refine eBA_lift (pc1 := 9) (L1 := [(0, .ref a0)]) (S1 := [.ref o1, .ref o1, .ref a0]) (w1 := w2) ⟨rfl, rfl⟩ (fun p e mc ms s m args below meth c A Q cells slots r hms X k => ev_dup (pc := 8) X dX10_init_8 rfl k) ?_
  obtain ⟨hfs, h⟩ := eIfb h
  obtain ⟨w3, hc, h⟩ := eBi h
  refine eBA_callf (pc := 9) (As := []) (S := [.ref o1, .ref a0]) hwX1_init klX10_11 hiX1_init rfl ⟨Nat.le_of_ble_eq_true rfl, Nat.le_of_ble_eq_true rfl⟩ rfl (Nat.le_of_ble_eq_true rfl) dX10_init_9 rfl (mX1_init hc) hfs ?_
  obtain ⟨w4, hw4, h⟩ := eBi h
  refine eBA_lift (pc1 := 15) (L1 := [(0, .ref a0)]) (S1 := []) (w1 := w4) (eP_len hw4) (fun p e mc ms s m args below meth c A Q cells slots r hms X k => ev_putF (pc := 12) X hcX10 (k := 0) (by decide) kfX10_12 rfl rfl rfl (fun _ => ⟨rfl, rfl⟩) dX10_init_12 hw4 k) ?_
  refine eBA_lift (pc1 := 16) (L1 := [(0, .ref a0)]) (S1 := [.ref a0]) (w1 := w4) ⟨rfl, rfl⟩ (fun p e mc ms s m args below meth c A Q cells slots r hms X k => ev_aload_n (pc := 15) X 0 dX10_init_15 rfl rfl k) ?_
  obtain ⟨o5, w6, hn, h⟩ := eB2 h
  refine eBA_newO (pc := 16) hcX2 kcX10_16 hnX2 hzX2 rfl (fun _ => rfl) (by decide +kernel) dX10_init_16 hn ?_
  refine eBA_lift (pc1 := 20) (L1 := [(0, .ref a0)]) (S1 := [.ref o5, .ref o5, .ref a0]) (w1 := w6) ⟨rfl, rfl⟩ (fun p e mc ms s m args below meth c A Q cells slots r hms X k => ev_dup (pc := 19) X dX10_init_19 rfl k) ?_
  obtain ⟨hfs, h⟩ := eIfb h
  obtain ⟨w7, hc, h⟩ := eBi h
  refine eBA_callfN (pc := 20) (As := []) (S := [.ref o5, .ref a0]) hwX2_init knX10_18 hiX2_init rfl ⟨Nat.le_of_ble_eq_true rfl, Nat.le_of_ble_eq_true rfl⟩ rfl (Nat.le_of_ble_eq_true rfl) dX10_init_20 rfl (mX2_init hc) hfs ?_
  obtain ⟨w8, hw8, h⟩ := eBi h
  refine eBA_lift (pc1 := 26) (L1 := [(0, .ref a0)]) (S1 := []) (w1 := w8) (eP_len hw8) (fun p e mc ms s m args below meth c A Q cells slots r hms X k => ev_putF (pc := 23) X hcX10 (k := 1) (by decide) kfX10_19 rfl rfl rfl (fun _ => ⟨rfl, rfl⟩) dX10_init_23 hw8 k) ?_
  refine eBA_lift (pc1 := 27) (L1 := [(0, .ref a0)]) (S1 := [.ref a0]) (w1 := w8) ⟨rfl, rfl⟩ (fun p e mc ms s m args below meth c A Q cells slots r hms X k => ev_aload_n (pc := 26) X 0 dX10_init_26 rfl rfl k) ?_
  obtain ⟨o9, w10, hn, h⟩ := eB2 h
  refine eBA_newO (pc := 27) hcX0 kcX10_23 hnX0 hzX0 rfl (fun _ => rfl) (by decide +kernel) dX10_init_27 hn ?_
  refine eBA_lift (pc1 := 31) (L1 := [(0, .ref a0)]) (S1 := [.ref o9, .ref o9, .ref a0]) (w1 := w10) ⟨rfl, rfl⟩ (fun p e mc ms s m args below meth c A Q cells slots r hms X k => ev_dup (pc := 30) X dX10_init_30 rfl k) ?_
  refine eBA_lift (pc1 := 32) (L1 := [(0, .ref a0)]) (S1 := [.ref a0, .ref o9, .ref o9, .ref a0]) (w1 := w10) ⟨rfl, rfl⟩ (fun p e mc ms s m args below meth c A Q cells slots r hms X k => ev_aload_n (pc := 31) X 0 dX10_init_31 rfl rfl k) ?_
  obtain ⟨v11, hv11, h⟩ := eBi h
  refine eBA_lift (pc1 := 35) (L1 := [(0, .ref a0)]) (S1 := [.ref v11, .ref o9, .ref o9, .ref a0]) (w1 := w10) ⟨rfl, rfl⟩ (fun p e mc ms s m args below meth c A Q cells slots r hms X k => ev_getR (pc := 32) X hcX10 (k := 0) (by decide) kfX10_12 dX10_init_32 hv11 k) ?_
  obtain ⟨hfs, h⟩ := eIfb h
  obtain ⟨w12, hc, h⟩ := eBi h
  refine eBA_callf (pc := 35) (As := [.ref v11]) (S := [.ref o9, .ref a0]) hwX0_init klX10_25 hiX0_init rfl ⟨Nat.le_of_ble_eq_true rfl, Nat.le_of_ble_eq_true rfl⟩ rfl (Nat.le_of_ble_eq_true rfl) dX10_init_35 rfl (mX0_init hc) hfs ?_
  obtain ⟨w13, hw13, h⟩ := eBi h
  refine eBA_lift (pc1 := 41) (L1 := [(0, .ref a0)]) (S1 := []) (w1 := w13) (eP_len hw13) (fun p e mc ms s m args below meth c A Q cells slots r hms X k => ev_putF (pc := 38) X hcX10 (k := 2) (by decide) kfX10_28 rfl rfl rfl (fun _ => ⟨rfl, rfl⟩) dX10_init_38 hw13 k) ?_
  refine eBA_lift (pc1 := 42) (L1 := [(0, .ref a0)]) (S1 := [.ref a0]) (w1 := w13) ⟨rfl, rfl⟩ (fun p e mc ms s m args below meth c A Q cells slots r hms X k => ev_aload_n (pc := 41) X 0 dX10_init_41 rfl rfl k) ?_
  obtain ⟨o14, w15, hn, h⟩ := eB2 h
  refine eBA_newO (pc := 42) hcX4 kcX10_32 hnX4 hzX4 rfl (fun _ => rfl) (by decide +kernel) dX10_init_42 hn ?_
  refine eBA_lift (pc1 := 46) (L1 := [(0, .ref a0)]) (S1 := [.ref o14, .ref o14, .ref a0]) (w1 := w15) ⟨rfl, rfl⟩ (fun p e mc ms s m args below meth c A Q cells slots r hms X k => ev_dup (pc := 45) X dX10_init_45 rfl k) ?_
  refine eBA_lift (pc1 := 47) (L1 := [(0, .ref a0)]) (S1 := [.ref a0, .ref o14, .ref o14, .ref a0]) (w1 := w15) ⟨rfl, rfl⟩ (fun p e mc ms s m args below meth c A Q cells slots r hms X k => ev_aload_n (pc := 46) X 0 dX10_init_46 rfl rfl k) ?_
  obtain ⟨v16, hv16, h⟩ := eBi h
  refine eBA_lift (pc1 := 50) (L1 := [(0, .ref a0)]) (S1 := [.ref v16, .ref o14, .ref o14, .ref a0]) (w1 := w15) ⟨rfl, rfl⟩ (fun p e mc ms s m args below meth c A Q cells slots r hms X k => ev_getR (pc := 47) X hcX10 (k := 2) (by decide) kfX10_28 dX10_init_47 hv16 k) ?_
  obtain ⟨hfs, h⟩ := eIfb h
  obtain ⟨w17, hc, h⟩ := eBi h
  refine eBA_callf (pc := 50) (As := [.ref v16]) (S := [.ref o14, .ref a0]) hwX4_init klX10_34 hiX4_init rfl ⟨Nat.le_of_ble_eq_true rfl, Nat.le_of_ble_eq_true rfl⟩ rfl (Nat.le_of_ble_eq_true rfl) dX10_init_50 rfl (mX4_init hc) hfs ?_
  obtain ⟨w18, hw18, h⟩ := eBi h
  refine eBA_lift (pc1 := 56) (L1 := [(0, .ref a0)]) (S1 := []) (w1 := w18) (eP_len hw18) (fun p e mc ms s m args below meth c A Q cells slots r hms X k => ev_putF (pc := 53) X hcX10 (k := 3) (by decide) kfX10_37 rfl rfl rfl (fun _ => ⟨rfl, rfl⟩) dX10_init_53 hw18 k) ?_
  refine eBA_lift (pc1 := 57) (L1 := [(0, .ref a0)]) (S1 := [.ref a0]) (w1 := w18) ⟨rfl, rfl⟩ (fun p e mc ms s m args below meth c A Q cells slots r hms X k => ev_aload_n (pc := 56) X 0 dX10_init_56 rfl rfl k) ?_
  obtain ⟨o19, w20, hn, h⟩ := eB2 h
  refine eBA_newO (pc := 57) hcX7 kcX10_41 hnX7 hzX7 rfl (fun _ => rfl) (by decide +kernel) dX10_init_57 hn ?_
  refine eBA_lift (pc1 := 61) (L1 := [(0, .ref a0)]) (S1 := [.ref o19, .ref o19, .ref a0]) (w1 := w20) ⟨rfl, rfl⟩ (fun p e mc ms s m args below meth c A Q cells slots r hms X k => ev_dup (pc := 60) X dX10_init_60 rfl k) ?_
  refine eBA_lift (pc1 := 63) (L1 := [(0, .ref a0)]) (S1 := [.int (114 : Int32), .ref o19, .ref o19, .ref a0]) (w1 := w20) ⟨rfl, rfl⟩ (fun p e mc ms s m args below meth c A Q cells slots r hms X k => ev_bipush (pc := 61) X dX10_init_61 rfl k) ?_
  obtain ⟨hfs, h⟩ := eIfb h
  obtain ⟨w21, hc, h⟩ := eBi h
  refine eBA_callf (pc := 63) (As := [.int (114 : Int32)]) (S := [.ref o19, .ref a0]) hwX7_init klX10_43 hiX7_init rfl ⟨Nat.le_of_ble_eq_true rfl, Nat.le_of_ble_eq_true rfl⟩ rfl (Nat.le_of_ble_eq_true rfl) dX10_init_63 rfl (mX7_init hc) hfs ?_
  obtain ⟨w22, hw22, h⟩ := eBi h
  refine eBA_lift (pc1 := 69) (L1 := [(0, .ref a0)]) (S1 := []) (w1 := w22) (eP_len hw22) (fun p e mc ms s m args below meth c A Q cells slots r hms X k => ev_putF (pc := 66) X hcX10 (k := 4) (by decide) kfX10_46 rfl rfl rfl (fun _ => ⟨rfl, rfl⟩) dX10_init_66 hw22 k) ?_
  refine eBA_lift (pc1 := 70) (L1 := [(0, .ref a0)]) (S1 := [.ref a0]) (w1 := w22) ⟨rfl, rfl⟩ (fun p e mc ms s m args below meth c A Q cells slots r hms X k => ev_aload_n (pc := 69) X 0 dX10_init_69 rfl rfl k) ?_
  refine eBA_lift (pc1 := 71) (L1 := [(0, .ref a0)]) (S1 := [.int (0 : Int32), .ref a0]) (w1 := w22) ⟨rfl, rfl⟩ (fun p e mc ms s m args below meth c A Q cells slots r hms X k => ev_iconst (pc := 70) X dX10_init_70 rfl k) ?_
  obtain ⟨w23, hw23, h⟩ := eBi h
  refine eBA_lift (pc1 := 74) (L1 := [(0, .ref a0)]) (S1 := []) (w1 := w23) (eP_len hw23) (fun p e mc ms s m args below meth c A Q cells slots r hms X k => ev_putI (pc := 71) X hcX10 (k := 5) (by decide) kfX10_50 rfl rfl dX10_init_71 hw23 k) ?_
  refine eBA_lift (pc1 := 75) (L1 := [(0, .ref a0)]) (S1 := [.ref a0]) (w1 := w23) ⟨rfl, rfl⟩ (fun p e mc ms s m args below meth c A Q cells slots r hms X k => ev_aload_n (pc := 74) X 0 dX10_init_74 rfl rfl k) ?_
  obtain ⟨o24, w25, hn, h⟩ := eB2 h
  refine eBA_newO (pc := 75) hcX6 kcX10_54 hnX6 hzX6 rfl (fun _ => rfl) (by decide +kernel) dX10_init_75 hn ?_
  refine eBA_lift (pc1 := 79) (L1 := [(0, .ref a0)]) (S1 := [.ref o24, .ref o24, .ref a0]) (w1 := w25) ⟨rfl, rfl⟩ (fun p e mc ms s m args below meth c A Q cells slots r hms X k => ev_dup (pc := 78) X dX10_init_78 rfl k) ?_
  refine eBA_lift (pc1 := 80) (L1 := [(0, .ref a0)]) (S1 := [.ref a0, .ref o24, .ref o24, .ref a0]) (w1 := w25) ⟨rfl, rfl⟩ (fun p e mc ms s m args below meth c A Q cells slots r hms X k => ev_aload_n (pc := 79) X 0 dX10_init_79 rfl rfl k) ?_
  obtain ⟨v26, hv26, h⟩ := eBi h
  refine eBA_lift (pc1 := 83) (L1 := [(0, .ref a0)]) (S1 := [.ref v26, .ref o24, .ref o24, .ref a0]) (w1 := w25) ⟨rfl, rfl⟩ (fun p e mc ms s m args below meth c A Q cells slots r hms X k => ev_getR (pc := 80) X hcX10 (k := 0) (by decide) kfX10_12 dX10_init_80 hv26 k) ?_
  obtain ⟨hfs, h⟩ := eIfb h
  obtain ⟨w27, hc, h⟩ := eBi h
  refine eBA_callf (pc := 83) (As := [.ref v26]) (S := [.ref o24, .ref a0]) hwX6_init klX10_56 hiX6_init rfl ⟨Nat.le_of_ble_eq_true rfl, Nat.le_of_ble_eq_true rfl⟩ rfl (Nat.le_of_ble_eq_true rfl) dX10_init_83 rfl (mX6_init hc) hfs ?_
  obtain ⟨w28, hw28, h⟩ := eBi h
  refine eBA_lift (pc1 := 89) (L1 := [(0, .ref a0)]) (S1 := []) (w1 := w28) (eP_len hw28) (fun p e mc ms s m args below meth c A Q cells slots r hms X k => ev_putF (pc := 86) X hcX10 (k := 6) (by decide) kfX10_57 rfl rfl rfl (fun _ => ⟨rfl, rfl⟩) dX10_init_86 hw28 k) ?_
  refine eBA_lift (pc1 := 90) (L1 := [(0, .ref a0)]) (S1 := [.ref a0]) (w1 := w28) ⟨rfl, rfl⟩ (fun p e mc ms s m args below meth c A Q cells slots r hms X k => ev_aload_n (pc := 89) X 0 dX10_init_89 rfl rfl k) ?_
  obtain ⟨o29, w30, hn, h⟩ := eB2 h
  refine eBA_newO (pc := 90) hcX8 kcX10_61 hnX8 hzX8 rfl (fun _ => rfl) (by decide +kernel) dX10_init_90 hn ?_
  refine eBA_lift (pc1 := 94) (L1 := [(0, .ref a0)]) (S1 := [.ref o29, .ref o29, .ref a0]) (w1 := w30) ⟨rfl, rfl⟩ (fun p e mc ms s m args below meth c A Q cells slots r hms X k => ev_dup (pc := 93) X dX10_init_93 rfl k) ?_
  refine eBA_lift (pc1 := 95) (L1 := [(0, .ref a0)]) (S1 := [.ref a0, .ref o29, .ref o29, .ref a0]) (w1 := w30) ⟨rfl, rfl⟩ (fun p e mc ms s m args below meth c A Q cells slots r hms X k => ev_aload_n (pc := 94) X 0 dX10_init_94 rfl rfl k) ?_
  obtain ⟨v31, hv31, h⟩ := eBi h
  refine eBA_lift (pc1 := 98) (L1 := [(0, .ref a0)]) (S1 := [.ref v31, .ref o29, .ref o29, .ref a0]) (w1 := w30) ⟨rfl, rfl⟩ (fun p e mc ms s m args below meth c A Q cells slots r hms X k => ev_getR (pc := 95) X hcX10 (k := 0) (by decide) kfX10_12 dX10_init_95 hv31 k) ?_
  refine eBA_lift (pc1 := 99) (L1 := [(0, .ref a0)]) (S1 := [.ref a0, .ref v31, .ref o29, .ref o29, .ref a0]) (w1 := w30) ⟨rfl, rfl⟩ (fun p e mc ms s m args below meth c A Q cells slots r hms X k => ev_aload_n (pc := 98) X 0 dX10_init_98 rfl rfl k) ?_
  obtain ⟨v32, hv32, h⟩ := eBi h
  refine eBA_lift (pc1 := 102) (L1 := [(0, .ref a0)]) (S1 := [.ref v32, .ref v31, .ref o29, .ref o29, .ref a0]) (w1 := w30) ⟨rfl, rfl⟩ (fun p e mc ms s m args below meth c A Q cells slots r hms X k => ev_getR (pc := 99) X hcX10 (k := 2) (by decide) kfX10_28 dX10_init_99 hv32 k) ?_
  refine eBA_lift (pc1 := 103) (L1 := [(0, .ref a0)]) (S1 := [.ref a0, .ref v32, .ref v31, .ref o29, .ref o29, .ref a0]) (w1 := w30) ⟨rfl, rfl⟩ (fun p e mc ms s m args below meth c A Q cells slots r hms X k => ev_aload_n (pc := 102) X 0 dX10_init_102 rfl rfl k) ?_
  obtain ⟨v33, hv33, h⟩ := eBi h
  refine eBA_lift (pc1 := 106) (L1 := [(0, .ref a0)]) (S1 := [.ref v33, .ref v32, .ref v31, .ref o29, .ref o29, .ref a0]) (w1 := w30) ⟨rfl, rfl⟩ (fun p e mc ms s m args below meth c A Q cells slots r hms X k => ev_getR (pc := 103) X hcX10 (k := 6) (by decide) kfX10_57 dX10_init_103 hv33 k) ?_
  obtain ⟨hfs, h⟩ := eIfb h
  obtain ⟨w34, hc, h⟩ := eBi h
  refine eBA_callf (pc := 106) (As := [.ref v31, .ref v32, .ref v33]) (S := [.ref o29, .ref a0]) hwX8_init klX10_63 hiX8_init rfl ⟨Nat.le_of_ble_eq_true rfl, Nat.le_of_ble_eq_true rfl⟩ rfl (Nat.le_of_ble_eq_true rfl) dX10_init_106 rfl (mX8_init hc) hfs ?_
  obtain ⟨w35, hw35, h⟩ := eBi h
  refine eBA_lift (pc1 := 112) (L1 := [(0, .ref a0)]) (S1 := []) (w1 := w35) (eP_len hw35) (fun p e mc ms s m args below meth c A Q cells slots r hms X k => ev_putF (pc := 109) X hcX10 (k := 7) (by decide) kfX10_66 rfl rfl rfl (fun _ => ⟨rfl, rfl⟩) dX10_init_109 hw35 k) ?_
  refine eBA_lift (pc1 := 113) (L1 := [(0, .ref a0)]) (S1 := [.ref a0]) (w1 := w35) ⟨rfl, rfl⟩ (fun p e mc ms s m args below meth c A Q cells slots r hms X k => ev_aload_n (pc := 112) X 0 dX10_init_112 rfl rfl k) ?_
  obtain ⟨o36, w37, hn, h⟩ := eB2 h
  refine eBA_newO (pc := 113) hcX9 kcX10_70 hnX9 hzX9 rfl (fun _ => rfl) (by decide +kernel) dX10_init_113 hn ?_
  refine eBA_lift (pc1 := 117) (L1 := [(0, .ref a0)]) (S1 := [.ref o36, .ref o36, .ref a0]) (w1 := w37) ⟨rfl, rfl⟩ (fun p e mc ms s m args below meth c A Q cells slots r hms X k => ev_dup (pc := 116) X dX10_init_116 rfl k) ?_
  refine eBA_lift (pc1 := 118) (L1 := [(0, .ref a0)]) (S1 := [.ref a0, .ref o36, .ref o36, .ref a0]) (w1 := w37) ⟨rfl, rfl⟩ (fun p e mc ms s m args below meth c A Q cells slots r hms X k => ev_aload_n (pc := 117) X 0 dX10_init_117 rfl rfl k) ?_
  obtain ⟨v38, hv38, h⟩ := eBi h
  refine eBA_lift (pc1 := 121) (L1 := [(0, .ref a0)]) (S1 := [.ref v38, .ref o36, .ref o36, .ref a0]) (w1 := w37) ⟨rfl, rfl⟩ (fun p e mc ms s m args below meth c A Q cells slots r hms X k => ev_getR (pc := 118) X hcX10 (k := 0) (by decide) kfX10_12 dX10_init_118 hv38 k) ?_
  refine eBA_lift (pc1 := 122) (L1 := [(0, .ref a0)]) (S1 := [.ref a0, .ref v38, .ref o36, .ref o36, .ref a0]) (w1 := w37) ⟨rfl, rfl⟩ (fun p e mc ms s m args below meth c A Q cells slots r hms X k => ev_aload_n (pc := 121) X 0 dX10_init_121 rfl rfl k) ?_
  obtain ⟨v39, hv39, h⟩ := eBi h
  refine eBA_lift (pc1 := 125) (L1 := [(0, .ref a0)]) (S1 := [.ref v39, .ref v38, .ref o36, .ref o36, .ref a0]) (w1 := w37) ⟨rfl, rfl⟩ (fun p e mc ms s m args below meth c A Q cells slots r hms X k => ev_getR (pc := 122) X hcX10 (k := 6) (by decide) kfX10_57 dX10_init_122 hv39 k) ?_
  obtain ⟨hfs, h⟩ := eIfb h
  obtain ⟨w40, hc, h⟩ := eBi h
  refine eBA_callf (pc := 125) (As := [.ref v38, .ref v39]) (S := [.ref o36, .ref a0]) hwX9_init klX10_72 hiX9_init rfl ⟨Nat.le_of_ble_eq_true rfl, Nat.le_of_ble_eq_true rfl⟩ rfl (Nat.le_of_ble_eq_true rfl) dX10_init_125 rfl (mX9_init hc) hfs ?_
  obtain ⟨w41, hw41, h⟩ := eBi h
  refine eBA_lift (pc1 := 131) (L1 := [(0, .ref a0)]) (S1 := []) (w1 := w41) (eP_len hw41) (fun p e mc ms s m args below meth c A Q cells slots r hms X k => ev_putF (pc := 128) X hcX10 (k := 8) (by decide) kfX10_75 rfl rfl rfl (fun _ => ⟨rfl, rfl⟩) dX10_init_128 hw41 k) ?_
  refine eBA_lift (pc1 := 132) (L1 := [(0, .ref a0)]) (S1 := [.ref a0]) (w1 := w41) ⟨rfl, rfl⟩ (fun p e mc ms s m args below meth c A Q cells slots r hms X k => ev_aload_n (pc := 131) X 0 dX10_init_131 rfl rfl k) ?_
  obtain ⟨o42, w43, hn, h⟩ := eB2 h
  refine eBA_newO (pc := 132) hcX3 kcX10_79 hnX3 hzX3 rfl (fun _ => rfl) (by decide +kernel) dX10_init_132 hn ?_
  refine eBA_lift (pc1 := 136) (L1 := [(0, .ref a0)]) (S1 := [.ref o42, .ref o42, .ref a0]) (w1 := w43) ⟨rfl, rfl⟩ (fun p e mc ms s m args below meth c A Q cells slots r hms X k => ev_dup (pc := 135) X dX10_init_135 rfl k) ?_
  refine eBA_lift (pc1 := 137) (L1 := [(0, .ref a0)]) (S1 := [.ref a0, .ref o42, .ref o42, .ref a0]) (w1 := w43) ⟨rfl, rfl⟩ (fun p e mc ms s m args below meth c A Q cells slots r hms X k => ev_aload_n (pc := 136) X 0 dX10_init_136 rfl rfl k) ?_
  obtain ⟨v44, hv44, h⟩ := eBi h
  refine eBA_lift (pc1 := 140) (L1 := [(0, .ref a0)]) (S1 := [.ref v44, .ref o42, .ref o42, .ref a0]) (w1 := w43) ⟨rfl, rfl⟩ (fun p e mc ms s m args below meth c A Q cells slots r hms X k => ev_getR (pc := 137) X hcX10 (k := 0) (by decide) kfX10_12 dX10_init_137 hv44 k) ?_
  obtain ⟨hfs, h⟩ := eIfb h
  obtain ⟨w45, hc, h⟩ := eBi h
  refine eBA_callf (pc := 140) (As := [.ref v44]) (S := [.ref o42, .ref a0]) hwX3_init klX10_81 hiX3_init rfl ⟨Nat.le_of_ble_eq_true rfl, Nat.le_of_ble_eq_true rfl⟩ rfl (Nat.le_of_ble_eq_true rfl) dX10_init_140 rfl (mX3_init hc) hfs ?_
  obtain ⟨w46, hw46, h⟩ := eBi h
  refine eBA_lift (pc1 := 146) (L1 := [(0, .ref a0)]) (S1 := []) (w1 := w46) (eP_len hw46) (fun p e mc ms s m args below meth c A Q cells slots r hms X k => ev_putF (pc := 143) X hcX10 (k := 9) (by decide) kfX10_82 rfl rfl rfl (fun _ => ⟨rfl, rfl⟩) dX10_init_143 hw46 k) ?_
  refine eBA_lift (pc1 := 147) (L1 := [(0, .ref a0)]) (S1 := [.ref a0]) (w1 := w46) ⟨rfl, rfl⟩ (fun p e mc ms s m args below meth c A Q cells slots r hms X k => ev_aload_n (pc := 146) X 0 dX10_init_146 rfl rfl k) ?_
  obtain ⟨o47, w48, hn, h⟩ := eB2 h
  refine eBA_newO (pc := 147) hcX5 kcX10_86 hnX5 hzX5 rfl (fun _ => rfl) (by decide +kernel) dX10_init_147 hn ?_
  refine eBA_lift (pc1 := 151) (L1 := [(0, .ref a0)]) (S1 := [.ref o47, .ref o47, .ref a0]) (w1 := w48) ⟨rfl, rfl⟩ (fun p e mc ms s m args below meth c A Q cells slots r hms X k => ev_dup (pc := 150) X dX10_init_150 rfl k) ?_
  refine eBA_lift (pc1 := 152) (L1 := [(0, .ref a0)]) (S1 := [.ref a0, .ref o47, .ref o47, .ref a0]) (w1 := w48) ⟨rfl, rfl⟩ (fun p e mc ms s m args below meth c A Q cells slots r hms X k => ev_aload_n (pc := 151) X 0 dX10_init_151 rfl rfl k) ?_
  obtain ⟨v49, hv49, h⟩ := eBi h
  refine eBA_lift (pc1 := 155) (L1 := [(0, .ref a0)]) (S1 := [.ref v49, .ref o47, .ref o47, .ref a0]) (w1 := w48) ⟨rfl, rfl⟩ (fun p e mc ms s m args below meth c A Q cells slots r hms X k => ev_getR (pc := 152) X hcX10 (k := 2) (by decide) kfX10_28 dX10_init_152 hv49 k) ?_
  refine eBA_lift (pc1 := 156) (L1 := [(0, .ref a0)]) (S1 := [.ref a0, .ref v49, .ref o47, .ref o47, .ref a0]) (w1 := w48) ⟨rfl, rfl⟩ (fun p e mc ms s m args below meth c A Q cells slots r hms X k => ev_aload_n (pc := 155) X 0 dX10_init_155 rfl rfl k) ?_
  obtain ⟨v50, hv50, h⟩ := eBi h
  refine eBA_lift (pc1 := 159) (L1 := [(0, .ref a0)]) (S1 := [.ref v50, .ref v49, .ref o47, .ref o47, .ref a0]) (w1 := w48) ⟨rfl, rfl⟩ (fun p e mc ms s m args below meth c A Q cells slots r hms X k => ev_getR (pc := 156) X hcX10 (k := 6) (by decide) kfX10_57 dX10_init_156 hv50 k) ?_
  obtain ⟨hfs, h⟩ := eIfb h
  obtain ⟨w51, hc, h⟩ := eBi h
  refine eBA_callf (pc := 159) (As := [.ref v49, .ref v50]) (S := [.ref o47, .ref a0]) hwX5_init klX10_88 hiX5_init rfl ⟨Nat.le_of_ble_eq_true rfl, Nat.le_of_ble_eq_true rfl⟩ rfl (Nat.le_of_ble_eq_true rfl) dX10_init_159 rfl (mX5_init hc) hfs ?_
  obtain ⟨w52, hw52, h⟩ := eBi h
  refine eBA_lift (pc1 := 165) (L1 := [(0, .ref a0)]) (S1 := []) (w1 := w52) (eP_len hw52) (fun p e mc ms s m args below meth c A Q cells slots r hms X k => ev_putF (pc := 162) X hcX10 (k := 10) (by decide) kfX10_91 rfl rfl rfl (fun _ => ⟨rfl, rfl⟩) dX10_init_162 hw52 k) ?_
  obtain rfl := Option.some.inj h
  exact eBA_ret (pc := 165) dX10_init_165
theorem dX11_init_0 : decode cX11_init 0 = .ok (.aload_n 0, 1) := by decide +kernel
theorem dX11_init_1 : decode cX11_init 1 = .ok (.invokespecial 1, 3) := by decide +kernel
theorem dX11_init_4 : decode cX11_init 4 = .ok (.aload_n 0, 1) := by decide +kernel
theorem dX11_init_5 : decode cX11_init 5 = .ok (.sipush 200, 3) := by decide +kernel
theorem dX11_init_8 : decode cX11_init 8 = .ok (.newarray .int, 2) := by decide +kernel
theorem dX11_init_10 : decode cX11_init 10 = .ok (.putfield 7, 3) := by decide +kernel
theorem dX11_init_13 : decode cX11_init 13 = .ok (.aload_n 0, 1) := by decide +kernel
theorem dX11_init_14 : decode cX11_init 14 = .ok (.bipush 8, 2) := by decide +kernel
theorem dX11_init_16 : decode cX11_init 16 = .ok (.newarray .int, 2) := by decide +kernel
theorem dX11_init_18 : decode cX11_init 18 = .ok (.putfield 13, 3) := by decide +kernel
theorem dX11_init_21 : decode cX11_init 21 = .ok (.aload_n 0, 1) := by decide +kernel
theorem dX11_init_22 : decode cX11_init 22 = .ok (.bipush 40, 2) := by decide +kernel
theorem dX11_init_24 : decode cX11_init 24 = .ok (.newarray .int, 2) := by decide +kernel
theorem dX11_init_26 : decode cX11_init 26 = .ok (.putfield 16, 3) := by decide +kernel
theorem dX11_init_29 : decode cX11_init 29 = .ok (.aload_n 0, 1) := by decide +kernel
theorem dX11_init_30 : decode cX11_init 30 = .ok (.bipush 8, 2) := by decide +kernel
theorem dX11_init_32 : decode cX11_init 32 = .ok (.newarray .int, 2) := by decide +kernel
theorem dX11_init_34 : decode cX11_init 34 = .ok (.putfield 19, 3) := by decide +kernel
theorem dX11_init_37 : decode cX11_init 37 = .ok (.aload_n 0, 1) := by decide +kernel
theorem dX11_init_38 : decode cX11_init 38 = .ok (.bipush 57, 2) := by decide +kernel
theorem dX11_init_40 : decode cX11_init 40 = .ok (.newarray .int, 2) := by decide +kernel
theorem dX11_init_42 : decode cX11_init 42 = .ok (.putfield 22, 3) := by decide +kernel
theorem dX11_init_45 : decode cX11_init 45 = .ok (.aload_n 0, 1) := by decide +kernel
theorem dX11_init_46 : decode cX11_init 46 = .ok (.bipush 57, 2) := by decide +kernel
theorem dX11_init_48 : decode cX11_init 48 = .ok (.newarray .int, 2) := by decide +kernel
theorem dX11_init_50 : decode cX11_init 50 = .ok (.putfield 25, 3) := by decide +kernel
theorem dX11_init_53 : decode cX11_init 53 = .ok (.aload_n 0, 1) := by decide +kernel
theorem dX11_init_54 : decode cX11_init 54 = .ok (.bipush 114, 2) := by decide +kernel
theorem dX11_init_56 : decode cX11_init 56 = .ok (.newarray .int, 2) := by decide +kernel
theorem dX11_init_58 : decode cX11_init 58 = .ok (.putfield 28, 3) := by decide +kernel
theorem dX11_init_61 : decode cX11_init 61 = .ok (.aload_n 0, 1) := by decide +kernel
theorem dX11_init_62 : decode cX11_init 62 = .ok (.iconst 2, 1) := by decide +kernel
theorem dX11_init_63 : decode cX11_init 63 = .ok (.newarray .boolean, 2) := by decide +kernel
theorem dX11_init_65 : decode cX11_init 65 = .ok (.putfield 31, 3) := by decide +kernel
theorem dX11_init_68 : decode cX11_init 68 = .ok (.aload_n 0, 1) := by decide +kernel
theorem dX11_init_69 : decode cX11_init 69 = .ok (.sipush 570, 3) := by decide +kernel
theorem dX11_init_72 : decode cX11_init 72 = .ok (.newarray .int, 2) := by decide +kernel
theorem dX11_init_74 : decode cX11_init 74 = .ok (.putfield 35, 3) := by decide +kernel
theorem dX11_init_77 : decode cX11_init 77 = .ok (.aload_n 0, 1) := by decide +kernel
theorem dX11_init_78 : decode cX11_init 78 = .ok (.bipush 20, 2) := by decide +kernel
theorem dX11_init_80 : decode cX11_init 80 = .ok (.newarray .int, 2) := by decide +kernel
theorem dX11_init_82 : decode cX11_init 82 = .ok (.putfield 38, 3) := by decide +kernel
theorem dX11_init_85 : decode cX11_init 85 = .ok (.aload_n 0, 1) := by decide +kernel
theorem dX11_init_86 : decode cX11_init 86 = .ok (.bipush 20, 2) := by decide +kernel
theorem dX11_init_88 : decode cX11_init 88 = .ok (.newarray .int, 2) := by decide +kernel
theorem dX11_init_90 : decode cX11_init 90 = .ok (.putfield 41, 3) := by decide +kernel
theorem dX11_init_93 : decode cX11_init 93 = .ok (.aload_n 0, 1) := by decide +kernel
theorem dX11_init_94 : decode cX11_init 94 = .ok (.bipush 20, 2) := by decide +kernel
theorem dX11_init_96 : decode cX11_init 96 = .ok (.newarray .int, 2) := by decide +kernel
theorem dX11_init_98 : decode cX11_init 98 = .ok (.putfield 44, 3) := by decide +kernel
theorem dX11_init_101 : decode cX11_init 101 = .ok (.aload_n 0, 1) := by decide +kernel
theorem dX11_init_102 : decode cX11_init 102 = .ok (.sipush 320, 3) := by decide +kernel
theorem dX11_init_105 : decode cX11_init 105 = .ok (.newarray .int, 2) := by decide +kernel
theorem dX11_init_107 : decode cX11_init 107 = .ok (.putfield 47, 3) := by decide +kernel
theorem dX11_init_110 : decode cX11_init 110 = .ok (.aload_n 0, 1) := by decide +kernel
theorem dX11_init_111 : decode cX11_init 111 = .ok (.getfield 13, 3) := by decide +kernel
theorem dX11_init_114 : decode cX11_init 114 = .ok (.iconst 0, 1) := by decide +kernel
theorem dX11_init_115 : decode cX11_init 115 = .ok (.iconst 3, 1) := by decide +kernel
theorem dX11_init_116 : decode cX11_init 116 = .ok (.iastore, 1) := by decide +kernel
theorem dX11_init_117 : decode cX11_init 117 = .ok (.aload_n 0, 1) := by decide +kernel
theorem dX11_init_118 : decode cX11_init 118 = .ok (.getfield 13, 3) := by decide +kernel
theorem dX11_init_121 : decode cX11_init 121 = .ok (.iconst 1, 1) := by decide +kernel
theorem dX11_init_122 : decode cX11_init 122 = .ok (.iconst 2, 1) := by decide +kernel
theorem dX11_init_123 : decode cX11_init 123 = .ok (.iastore, 1) := by decide +kernel
theorem dX11_init_124 : decode cX11_init 124 = .ok (.aload_n 0, 1) := by decide +kernel
theorem dX11_init_125 : decode cX11_init 125 = .ok (.getfield 13, 3) := by decide +kernel
theorem dX11_init_128 : decode cX11_init 128 = .ok (.iconst 3, 1) := by decide +kernel
theorem dX11_init_129 : decode cX11_init 129 = .ok (.bipush 9, 2) := by decide +kernel
theorem dX11_init_131 : decode cX11_init 131 = .ok (.iastore, 1) := by decide +kernel
theorem dX11_init_132 : decode cX11_init 132 = .ok (.return_, 1) := by decide +kernel
def fX11_init (a0 : Nat) (w : eW) : Option eW := eBind2 (eNewA false w [(0, .ref a0)] [.ref a0] (200 : Int32)) fun o1 w2 => (eP w2 a0 11 2 (.ref o1)).bind fun w3 => eBind2 (eNewA false w3 [(0, .ref a0)] [.ref a0] (8 : Int32)) fun o4 w5 => (eP w5 a0 11 9 (.ref o4)).bind fun w6 => eBind2 (eNewA false w6 [(0, .ref a0)] [.ref a0] (40 : Int32)) fun o7 w8 => (eP w8 a0 11 10 (.ref o7)).bind fun w9 => eBind2 (eNewA false w9 [(0, .ref a0)] [.ref a0] (8 : Int32)) fun o10 w11 => (eP w11 a0 11 11 (.ref o10)).bind fun w12 => eBind2 (eNewA false w12 [(0, .ref a0)] [.ref a0] (57 : Int32)) fun o13 w14 => (eP w14 a0 11 13 (.ref o13)).bind fun w15 => eBind2 (eNewA false w15 [(0, .ref a0)] [.ref a0] (57 : Int32)) fun o16 w17 => (eP w17 a0 11 14 (.ref o16)).bind fun w18 => eBind2 (eNewA false w18 [(0, .ref a0)] [.ref a0] (114 : Int32)) fun o19 w20 => (eP w20 a0 11 15 (.ref o19)).bind fun w21 => eBind2 (eNewA true w21 [(0, .ref a0)] [.ref a0] (2 : Int32)) fun o22 w23 => (eP w23 a0 11 16 (.ref o22)).bind fun w24 => eBind2 (eNewA false w24 [(0, .ref a0)] [.ref a0] (570 : Int32)) fun o25 w26 => (eP w26 a0 11 17 (.ref o25)).bind fun w27 => eBind2 (eNewA false w27 [(0, .ref a0)] [.ref a0] (20 : Int32)) fun o28 w29 => (eP w29 a0 11 19 (.ref o28)).bind fun w30 => eBind2 (eNewA false w30 [(0, .ref a0)] [.ref a0] (20 : Int32)) fun o31 w32 => (eP w32 a0 11 20 (.ref o31)).bind fun w33 => eBind2 (eNewA false w33 [(0, .ref a0)] [.ref a0] (20 : Int32)) fun o34 w35 => (eP w35 a0 11 21 (.ref o34)).bind fun w36 => eBind2 (eNewA false w36 [(0, .ref a0)] [.ref a0] (320 : Int32)) fun o37 w38 => (eP w38 a0 11 22 (.ref o37)).bind fun w39 => (eGR w39 a0 11 9).bind fun v40 => (eSt w39 false v40 (0 : Int32) (3 : Int32)).bind fun w41 => (eGR w41 a0 11 9).bind fun v42 => (eSt w41 false v42 (1 : Int32) (2 : Int32)).bind fun w43 => (eGR w43 a0 11 9).bind fun v44 => (eSt w43 false v44 (3 : Int32) (9 : Int32)).bind fun w45 => some w45
set_option maxRecDepth 20000 in
theorem mX11_init {a0 : Nat} {w w' : eW} (h : fX11_init a0 w = some w') : eMA l D cI cZ 1 yX11_init cX11_init 1 [.ref a0] w w' := by
  refine eMA_of [(0, .ref a0)] (by decide) (fun _ => rfl) (fun _ => Nat.le_of_ble_eq_true rfl) ?_
  rw [fX11_init] at h
  refine eBA_lift (pc1 := 1) (L1 := [(0, .ref a0)]) (S1 := [.ref a0]) (w1 := w) ⟨rfl, rfl⟩ (fun p e mc ms s m args below meth c A Q cells slots r hms X k => ev_aload_n (pc := 0) X 0 dX11_init_0 rfl rfl k) ?_
  refine eBA_lift (pc1 := 4) (L1 := [(0, .ref a0)]) (S1 := []) (w1 := w) ⟨rfl, rfl⟩ (fun p e mc ms s m args below meth c A Q cells slots r hms X k => ev_objInit (pc := 1) X klX11_1 hoA hoB dX11_init_1 (Nat.le_of_ble_eq_true rfl) (Nat.le_of_ble_eq_true rfl) k) ?_
  refine eBA_lift (pc1 := 5) (L1 := [(0, .ref a0)]) (S1 := [.ref a0]) (w1 := w) ⟨rfl, rfl⟩ (fun p e mc ms s m args below meth c A Q cells slots r hms X k => ev_aload_n (pc := 4) X 0 dX11_init_4 rfl rfl k) ?_
  refine eBA_lift (pc1 := 8) (L1 := [(0, .ref a0)]) (S1 := [.int (200 : Int32), .ref a0]) (w1 := w) ⟨rfl, rfl⟩ (fun p e mc ms s m args below meth c A Q cells slots r hms X k => ev_sipush (pc := 5) X dX11_init_5 rfl k) ?_
  obtain ⟨o1, w2, hn, h⟩ := eB2 h
  refine eBA_newAi (pc := 8) haI dX11_init_8 hn ?_
  obtain ⟨w3, hw3, h⟩ := eBi h
  refine eBA_lift (pc1 := 13) (L1 := [(0, .ref a0)]) (S1 := []) (w1 := w3) (eP_len hw3) (fun p e mc ms s m args below meth c A Q cells slots r hms X k => ev_putF (pc := 10) X hcX11 (k := 2) (by decide) kfX11_7 rfl rfl rfl (fun _ => ⟨rfl, rfl⟩) dX11_init_10 hw3 k) ?_
  refine eBA_lift (pc1 := 14) (L1 := [(0, .ref a0)]) (S1 := [.ref a0]) (w1 := w3) ⟨rfl, rfl⟩ (fun p e mc ms s m args below meth c A Q cells slots r hms X k => ev_aload_n (pc := 13) X 0 dX11_init_13 rfl rfl k) ?_
  refine eBA_lift (pc1 := 16) (L1 := [(0, .ref a0)]) (S1 := [.int (8 : Int32), .ref a0]) (w1 := w3) ⟨rfl, rfl⟩ (fun p e mc ms s m args below meth c A Q cells slots r hms X k => ev_bipush (pc := 14) X dX11_init_14 rfl k) ?_
  obtain ⟨o4, w5, hn, h⟩ := eB2 h
  refine eBA_newAi (pc := 16) haI dX11_init_16 hn ?_
  obtain ⟨w6, hw6, h⟩ := eBi h
  refine eBA_lift (pc1 := 21) (L1 := [(0, .ref a0)]) (S1 := []) (w1 := w6) (eP_len hw6) (fun p e mc ms s m args below meth c A Q cells slots r hms X k => ev_putF (pc := 18) X hcX11 (k := 9) (by decide) kfX11_13 rfl rfl rfl (fun _ => ⟨rfl, rfl⟩) dX11_init_18 hw6 k) ?_
  refine eBA_lift (pc1 := 22) (L1 := [(0, .ref a0)]) (S1 := [.ref a0]) (w1 := w6) ⟨rfl, rfl⟩ (fun p e mc ms s m args below meth c A Q cells slots r hms X k => ev_aload_n (pc := 21) X 0 dX11_init_21 rfl rfl k) ?_
  refine eBA_lift (pc1 := 24) (L1 := [(0, .ref a0)]) (S1 := [.int (40 : Int32), .ref a0]) (w1 := w6) ⟨rfl, rfl⟩ (fun p e mc ms s m args below meth c A Q cells slots r hms X k => ev_bipush (pc := 22) X dX11_init_22 rfl k) ?_
  obtain ⟨o7, w8, hn, h⟩ := eB2 h
  refine eBA_newAi (pc := 24) haI dX11_init_24 hn ?_
  obtain ⟨w9, hw9, h⟩ := eBi h
  refine eBA_lift (pc1 := 29) (L1 := [(0, .ref a0)]) (S1 := []) (w1 := w9) (eP_len hw9) (fun p e mc ms s m args below meth c A Q cells slots r hms X k => ev_putF (pc := 26) X hcX11 (k := 10) (by decide) kfX11_16 rfl rfl rfl (fun _ => ⟨rfl, rfl⟩) dX11_init_26 hw9 k) ?_
  refine eBA_lift (pc1 := 30) (L1 := [(0, .ref a0)]) (S1 := [.ref a0]) (w1 := w9) ⟨rfl, rfl⟩ (fun p e mc ms s m args below meth c A Q cells slots r hms X k => ev_aload_n (pc := 29) X 0 dX11_init_29 rfl rfl k) ?_
  refine eBA_lift (pc1 := 32) (L1 := [(0, .ref a0)]) (S1 := [.int (8 : Int32), .ref a0]) (w1 := w9) ⟨rfl, rfl⟩ (fun p e mc ms s m args below meth c A Q cells slots r hms X k => ev_bipush (pc := 30) X dX11_init_30 rfl k) ?_
  obtain ⟨o10, w11, hn, h⟩ := eB2 h
  refine eBA_newAi (pc := 32) haI dX11_init_32 hn ?_
  obtain ⟨w12, hw12, h⟩ := eBi h
  refine eBA_lift (pc1 := 37) (L1 := [(0, .ref a0)]) (S1 := []) (w1 := w12) (eP_len hw12) (fun p e mc ms s m args below meth c A Q cells slots r hms X k => ev_putF (pc := 34) X hcX11 (k := 11) (by decide) kfX11_19 rfl rfl rfl (fun _ => ⟨rfl, rfl⟩) dX11_init_34 hw12 k) ?_
  refine eBA_lift (pc1 := 38) (L1 := [(0, .ref a0)]) (S1 := [.ref a0]) (w1 := w12) ⟨rfl, rfl⟩ (fun p e mc ms s m args below meth c A Q cells slots r hms X k => ev_aload_n (pc := 37) X 0 dX11_init_37 rfl rfl k) ?_
  refine eBA_lift (pc1 := 40) (L1 := [(0, .ref a0)]) (S1 := [.int (57 : Int32), .ref a0]) (w1 := w12) ⟨rfl, rfl⟩ (fun p e mc ms s m args below meth c A Q cells slots r hms X k => ev_bipush (pc := 38) X dX11_init_38 rfl k) ?_
  obtain ⟨o13, w14, hn, h⟩ := eB2 h
  refine eBA_newAi (pc := 40) haI dX11_init_40 hn ?_
  obtain ⟨w15, hw15, h⟩ := eBi h
  refine eBA_lift (pc1 := 45) (L1 := [(0, .ref a0)]) (S1 := []) (w1 := w15) (eP_len hw15) (fun p e mc ms s m args below meth c A Q cells slots r hms X k => ev_putF (pc := 42) X hcX11 (k := 13) (by decide) kfX11_22 rfl rfl rfl (fun _ => ⟨rfl, rfl⟩) dX11_init_42 hw15 k) ?_
  refine eBA_lift (pc1 := 46) (L1 := [(0, .ref a0)]) (S1 := [.ref a0]) (w1 := w15) ⟨rfl, rfl⟩ (fun p e mc ms s m args below meth c A Q cells slots r hms X k => ev_aload_n (pc := 45) X 0 dX11_init_45 rfl rfl k) ?_
  refine eBA_lift (pc1 := 48) (L1 := [(0, .ref a0)]) (S1 := [.int (57 : Int32), .ref a0]) (w1 := w15) ⟨rfl, rfl⟩ (fun p e mc ms s m args below meth c A Q cells slots r hms X k => ev_bipush (pc := 46) X dX11_init_46 rfl k) ?_
  obtain ⟨o16, w17, hn, h⟩ := eB2 h
  refine eBA_newAi (pc := 48) haI dX11_init_48 hn ?_
  obtain ⟨w18, hw18, h⟩ := eBi h
  refine eBA_lift (pc1 := 53) (L1 := [(0, .ref a0)]) (S1 := []) (w1 := w18) (eP_len hw18) (fun p e mc ms s m args below meth c A Q cells slots r hms X k => ev_putF (pc := 50) X hcX11 (k := 14) (by decide) kfX11_25 rfl rfl rfl (fun _ => ⟨rfl, rfl⟩) dX11_init_50 hw18 k) ?_
  refine eBA_lift (pc1 := 54) (L1 := [(0, .ref a0)]) (S1 := [.ref a0]) (w1 := w18) ⟨rfl, rfl⟩ (fun p e mc ms s m args below meth c A Q cells slots r hms X k => ev_aload_n (pc := 53) X 0 dX11_init_53 rfl rfl k) ?_
  refine eBA_lift (pc1 := 56) (L1 := [(0, .ref a0)]) (S1 := [.int (114 : Int32), .ref a0]) (w1 := w18) ⟨rfl, rfl⟩ (fun p e mc ms s m args below meth c A Q cells slots r hms X k => ev_bipush (pc := 54) X dX11_init_54 rfl k) ?_
  obtain ⟨o19, w20, hn, h⟩ := eB2 h
  refine eBA_newAi (pc := 56) haI dX11_init_56 hn ?_
  obtain ⟨w21, hw21, h⟩ := eBi h
  refine eBA_lift (pc1 := 61) (L1 := [(0, .ref a0)]) (S1 := []) (w1 := w21) (eP_len hw21) (fun p e mc ms s m args below meth c A Q cells slots r hms X k => ev_putF (pc := 58) X hcX11 (k := 15) (by decide) kfX11_28 rfl rfl rfl (fun _ => ⟨rfl, rfl⟩) dX11_init_58 hw21 k) ?_
  refine eBA_lift (pc1 := 62) (L1 := [(0, .ref a0)]) (S1 := [.ref a0]) (w1 := w21) ⟨rfl, rfl⟩ (fun p e mc ms s m args below meth c A Q cells slots r hms X k => ev_aload_n (pc := 61) X 0 dX11_init_61 rfl rfl k) ?_
  refine eBA_lift (pc1 := 63) (L1 := [(0, .ref a0)]) (S1 := [.int (2 : Int32), .ref a0]) (w1 := w21) ⟨rfl, rfl⟩ (fun p e mc ms s m args below meth c A Q cells slots r hms X k => ev_iconst (pc := 62) X dX11_init_62 rfl k) ?_
  obtain ⟨o22, w23, hn, h⟩ := eB2 h
  refine eBA_newAz (pc := 63) haZ dX11_init_63 hn ?_
  obtain ⟨w24, hw24, h⟩ := eBi h
  refine eBA_lift (pc1 := 68) (L1 := [(0, .ref a0)]) (S1 := []) (w1 := w24) (eP_len hw24) (fun p e mc ms s m args below meth c A Q cells slots r hms X k => ev_putF (pc := 65) X hcX11 (k := 16) (by decide) kfX11_31 rfl rfl rfl (fun _ => ⟨rfl, rfl⟩) dX11_init_65 hw24 k) ?_
  refine eBA_lift (pc1 := 69) (L1 := [(0, .ref a0)]) (S1 := [.ref a0]) (w1 := w24) ⟨rfl, rfl⟩ (fun p e mc ms s m args below meth c A Q cells slots r hms X k => ev_aload_n (pc := 68) X 0 dX11_init_68 rfl rfl k) ?_
  refine eBA_lift (pc1 := 72) (L1 := [(0, .ref a0)]) (S1 := [.int (570 : Int32), .ref a0]) (w1 := w24) ⟨rfl, rfl⟩ (fun p e mc ms s m args below meth c A Q cells slots r hms X k => ev_sipush (pc := 69) X dX11_init_69 rfl k) ?_
  obtain ⟨o25, w26, hn, h⟩ := eB2 h
  refine eBA_newAi (pc := 72) haI dX11_init_72 hn ?_
  obtain ⟨w27, hw27, h⟩ := eBi h
  refine eBA_lift (pc1 := 77) (L1 := [(0, .ref a0)]) (S1 := []) (w1 := w27) (eP_len hw27) (fun p e mc ms s m args below meth c A Q cells slots r hms X k => ev_putF (pc := 74) X hcX11 (k := 17) (by decide) kfX11_35 rfl rfl rfl (fun _ => ⟨rfl, rfl⟩) dX11_init_74 hw27 k) ?_
  refine eBA_lift (pc1 := 78) (L1 := [(0, .ref a0)]) (S1 := [.ref a0]) (w1 := w27) ⟨rfl, rfl⟩ (fun p e mc ms s m args below meth c A Q cells slots r hms X k => ev_aload_n (pc := 77) X 0 dX11_init_77 rfl rfl k) ?_
  refine eBA_lift (pc1 := 80) (L1 := [(0, .ref a0)]) (S1 := [.int (20 : Int32), .ref a0]) (w1 := w27) ⟨rfl, rfl⟩ (fun p e mc ms s m args below meth c A Q cells slots r hms X k => ev_bipush (pc := 78) X dX11_init_78 rfl k) ?_
  obtain ⟨o28, w29, hn, h⟩ := eB2 h
  refine eBA_newAi (pc := 80) haI dX11_init_80 hn ?_
  obtain ⟨w30, hw30, h⟩ := eBi h
  refine eBA_lift (pc1 := 85) (L1 := [(0, .ref a0)]) (S1 := []) (w1 := w30) (eP_len hw30) (fun p e mc ms s m args below meth c A Q cells slots r hms X k => ev_putF (pc := 82) X hcX11 (k := 19) (by decide) kfX11_38 rfl rfl rfl (fun _ => ⟨rfl, rfl⟩) dX11_init_82 hw30 k) ?_
  refine eBA_lift (pc1 := 86) (L1 := [(0, .ref a0)]) (S1 := [.ref a0]) (w1 := w30) ⟨rfl, rfl⟩ (fun p e mc ms s m args below meth c A Q cells slots r hms X k => ev_aload_n (pc := 85) X 0 dX11_init_85 rfl rfl k) ?_
  refine eBA_lift (pc1 := 88) (L1 := [(0, .ref a0)]) (S1 := [.int (20 : Int32), .ref a0]) (w1 := w30) ⟨rfl, rfl⟩ (fun p e mc ms s m args below meth c A Q cells slots r hms X k => ev_bipush (pc := 86) X dX11_init_86 rfl k) ?_
  obtain ⟨o31, w32, hn, h⟩ := eB2 h
  refine eBA_newAi (pc := 88) haI dX11_init_88 hn ?_
  obtain ⟨w33, hw33, h⟩ := eBi h
  refine eBA_lift (pc1 := 93) (L1 := [(0, .ref a0)]) (S1 := []) (w1 := w33) (eP_len hw33) (fun p e mc ms s m args below meth c A Q cells slots r hms X k => ev_putF (pc := 90) X hcX11 (k := 20) (by decide) kfX11_41 rfl rfl rfl (fun _ => ⟨rfl, rfl⟩) dX11_init_90 hw33 k) ?_
  refine eBA_lift (pc1 := 94) (L1 := [(0, .ref a0)]) (S1 := [.ref a0]) (w1 := w33) ⟨rfl, rfl⟩ (fun p e mc ms s m args below meth c A Q cells slots r hms X k => ev_aload_n (pc := 93) X 0 dX11_init_93 rfl rfl k) ?_
  refine eBA_lift (pc1 := 96) (L1 := [(0, .ref a0)]) (S1 := [.int (20 : Int32), .ref a0]) (w1 := w33) ⟨rfl, rfl⟩ (fun p e mc ms s m args below meth c A Q cells slots r hms X k => ev_bipush (pc := 94) X dX11_init_94 rfl k) ?_
  obtain ⟨o34, w35, hn, h⟩ := eB2 h
  refine eBA_newAi (pc := 96) haI dX11_init_96 hn ?_
  obtain ⟨w36, hw36, h⟩ := eBi h
  refine eBA_lift (pc1 := 101) (L1 := [(0, .ref a0)]) (S1 := []) (w1 := w36) (eP_len hw36) (fun p e mc ms s m args below meth c A Q cells slots r hms X k => ev_putF (pc := 98) X hcX11 (k := 21) (by decide) kfX11_44 rfl rfl rfl (fun _ => ⟨rfl, rfl⟩) dX11_init_98 hw36 k) ?_
  refine eBA_lift (pc1 := 102) (L1 := [(0, .ref a0)]) (S1 := [.ref a0]) (w1 := w36) ⟨rfl, rfl⟩ (fun p e mc ms s m args below meth c A Q cells slots r hms X k => ev_aload_n (pc := 101) X 0 dX11_init_101 rfl rfl k) ?_
  refine eBA_lift (pc1 := 105) (L1 := [(0, .ref a0)]) (S1 := [.int (320 : Int32), .ref a0]) (w1 := w36) ⟨rfl, rfl⟩ (fun p e mc ms s m args below meth c A Q cells slots r hms X k => ev_sipush (pc := 102) X dX11_init_102 rfl k) ?_
  obtain ⟨o37, w38, hn, h⟩ := eB2 h
  refine eBA_newAi (pc := 105) haI dX11_init_105 hn ?_
  obtain ⟨w39, hw39, h⟩ := eBi h
  refine eBA_lift (pc1 := 110) (L1 := [(0, .ref a0)]) (S1 := []) (w1 := w39) (eP_len hw39) (fun p e mc ms s m args below meth c A Q cells slots r hms X k => ev_putF (pc := 107) X hcX11 (k := 22) (by decide) kfX11_47 rfl rfl rfl (fun _ => ⟨rfl, rfl⟩) dX11_init_107 hw39 k) ?_
  refine eBA_lift (pc1 := 111) (L1 := [(0, .ref a0)]) (S1 := [.ref a0]) (w1 := w39) ⟨rfl, rfl⟩ (fun p e mc ms s m args below meth c A Q cells slots r hms X k => ev_aload_n (pc := 110) X 0 dX11_init_110 rfl rfl k) ?_
  obtain ⟨v40, hv40, h⟩ := eBi h
  refine eBA_lift (pc1 := 114) (L1 := [(0, .ref a0)]) (S1 := [.ref v40]) (w1 := w39) ⟨rfl, rfl⟩ (fun p e mc ms s m args below meth c A Q cells slots r hms X k => ev_getR (pc := 111) X hcX11 (k := 9) (by decide) kfX11_13 dX11_init_111 hv40 k) ?_
  refine eBA_lift (pc1 := 115) (L1 := [(0, .ref a0)]) (S1 := [.int (0 : Int32), .ref v40]) (w1 := w39) ⟨rfl, rfl⟩ (fun p e mc ms s m args below meth c A Q cells slots r hms X k => ev_iconst (pc := 114) X dX11_init_114 rfl k) ?_
  refine eBA_lift (pc1 := 116) (L1 := [(0, .ref a0)]) (S1 := [.int (3 : Int32), .int (0 : Int32), .ref v40]) (w1 := w39) ⟨rfl, rfl⟩ (fun p e mc ms s m args below meth c A Q cells slots r hms X k => ev_iconst (pc := 115) X dX11_init_115 rfl k) ?_
  obtain ⟨w41, hw41, h⟩ := eBi h
  refine eBA_lift (pc1 := 117) (L1 := [(0, .ref a0)]) (S1 := []) (w1 := w41) (eSt_len hw41) (fun p e mc ms s m args below meth c A Q cells slots r hms X k => ev_iast (pc := 116) X dX11_init_116 hw41 k) ?_
  refine eBA_lift (pc1 := 118) (L1 := [(0, .ref a0)]) (S1 := [.ref a0]) (w1 := w41) ⟨rfl, rfl⟩ (fun p e mc ms s m args below meth c A Q cells slots r hms X k => ev_aload_n (pc := 117) X 0 dX11_init_117 rfl rfl k) ?_
  obtain ⟨v42, hv42, h⟩ := eBi h
  refine eBA_lift (pc1 := 121) (L1 := [(0, .ref a0)]) (S1 := [.ref v42]) (w1 := w41) ⟨rfl, rfl⟩ (fun p e mc ms s m args below meth c A Q cells slots r hms X k => ev_getR (pc := 118) X hcX11 (k := 9) (by decide) kfX11_13 dX11_init_118 hv42 k) ?_
  refine eBA_lift (pc1 := 122) (L1 := [(0, .ref a0)]) (S1 := [.int (1 : Int32), .ref v42]) (w1 := w41) ⟨rfl, rfl⟩ (fun p e mc ms s m args below meth c A Q cells slots r hms X k => ev_iconst (pc := 121) X dX11_init_121 rfl k) ?_
  refine eBA_lift (pc1 := 123) (L1 := [(0, .ref a0)]) (S1 := [.int (2 : Int32), .int (1 : Int32), .ref v42]) (w1 := w41) ⟨rfl, rfl⟩ (fun p e mc ms s m args below meth c A Q cells slots r hms X k => ev_iconst (pc := 122) X dX11_init_122 rfl k) ?_
  obtain ⟨w43, hw43, h⟩ := eBi h
  refine eBA_lift (pc1 := 124) (L1 := [(0, .ref a0)]) (S1 := []) (w1 := w43) (eSt_len hw43) (fun p e mc ms s m args below meth c A Q cells slots r hms X k => ev_iast (pc := 123) X dX11_init_123 hw43 k) ?_
  refine eBA_lift (pc1 := 125) (L1 := [(0, .ref a0)]) (S1 := [.ref a0]) (w1 := w43) ⟨rfl, rfl⟩ (fun p e mc ms s m args below meth c A Q cells slots r hms X k => ev_aload_n (pc := 124) X 0 dX11_init_124 rfl rfl k) ?_
  obtain ⟨v44, hv44, h⟩ := eBi h
  refine eBA_lift (pc1 := 128) (L1 := [(0, .ref a0)]) (S1 := [.ref v44]) (w1 := w43) ⟨rfl, rfl⟩ (fun p e mc ms s m args below meth c A Q cells slots r hms X k => ev_getR (pc := 125) X hcX11 (k := 9) (by decide) kfX11_13 dX11_init_125 hv44 k) ?_
  refine eBA_lift (pc1 := 129) (L1 := [(0, .ref a0)]) (S1 := [.int (3 : Int32), .ref v44]) (w1 := w43) ⟨rfl, rfl⟩ (fun p e mc ms s m args below meth c A Q cells slots r hms X k => ev_iconst (pc := 128) X dX11_init_128 rfl k) ?_
  refine eBA_lift (pc1 := 131) (L1 := [(0, .ref a0)]) (S1 := [.int (9 : Int32), .int (3 : Int32), .ref v44]) (w1 := w43) ⟨rfl, rfl⟩ (fun p e mc ms s m args below meth c A Q cells slots r hms X k => ev_bipush (pc := 129) X dX11_init_129 rfl k) ?_
  obtain ⟨w45, hw45, h⟩ := eBi h
  refine eBA_lift (pc1 := 132) (L1 := [(0, .ref a0)]) (S1 := []) (w1 := w45) (eSt_len hw45) (fun p e mc ms s m args below meth c A Q cells slots r hms X k => ev_iast (pc := 131) X dX11_init_131 hw45 k) ?_
  obtain rfl := Option.some.inj h
  exact eBA_ret (pc := 132) dX11_init_132
end GEN
