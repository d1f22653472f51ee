section GEN
variable {l : Launch} {D : va_G} {cI cZ : ClassId}
theorem dX11_in_0 : decode cX11_in 0 = .ok (.iload_n 0, 1) := by decide +kernel
theorem dX11_in_1 : decode cX11_in 1 = .ok (.iload_n 1, 1) := by decide +kernel
theorem dX11_in_2 : decode cX11_in 2 = .ok (.if_icmp .lt 12, 3) := by decide +kernel
theorem dX11_in_5 : decode cX11_in 5 = .ok (.iload_n 0, 1) := by decide +kernel
theorem dX11_in_6 : decode cX11_in 6 = .ok (.iload_n 2, 1) := by decide +kernel
theorem dX11_in_7 : decode cX11_in 7 = .ok (.if_icmp .gt 7, 3) := by decide +kernel
theorem dX11_in_10 : decode cX11_in 10 = .ok (.iconst 1, 1) := by decide +kernel
theorem dX11_in_11 : decode cX11_in 11 = .ok (.goto 4, 3) := by decide +kernel
theorem dX11_in_14 : decode cX11_in 14 = .ok (.iconst 0, 1) := by decide +kernel
theorem dX11_in_15 : decode cX11_in 15 = .ok (.ireturn, 1) := by decide +kernel
def fX11_in_14  (w : eW) : Option (Int32 × eW) := (eZ (0 : Int32)).bind fun v1 => some (v1, w)
set_option maxRecDepth 20000 in
theorem sX11_in_14   (w : eW) (r : Int32 × eW) (h : fX11_in_14  w = some r) : eBN l D cI cZ 0 yX11_in cX11_in 3 (some .boolean) 14 [] [] w (some (.int r.1)) r.2 := by
  rw [fX11_in_14] at h
  intro p e s m args below meth c r0 A X
  refine ev_iconst (pc := 14) (v := (0 : Int32)) X dX11_in_14 rfl ?_
  obtain ⟨v1, hv1, h⟩ := eBi h
  obtain rfl := Option.some.inj h
  exact ev_zret (pc := 15) X dX11_in_15 hv1
def fX11_in_0 (x0 : Int32) (x1 : Int32) (x2 : Int32) (w : eW) : Option (Int32 × eW) := if x0 < x1 then (fX11_in_14 w) else (if x2 < x0 then (fX11_in_14 w) else ((eZ (1 : Int32)).bind fun v1 => some (v1, w)))
set_option maxRecDepth 20000 in
theorem sX11_in_0  (x0 : Int32) (x1 : Int32) (x2 : Int32) (w : eW) (r : Int32 × eW) (h : fX11_in_0 x0 x1 x2 w = some r) : eBN l D cI cZ 0 yX11_in cX11_in 3 (some .boolean) 0 [(0, .int x0), (1, .int x1), (2, .int x2)] [] w (some (.int r.1)) r.2 := by
  rw [fX11_in_0] at h
  intro p e s m args below meth c r0 A X
  refine ev_iload_n (pc := 0) X 0 dX11_in_0 rfl rfl ?_
  refine ev_iload_n (pc := 1) X 1 dX11_in_1 rfl rfl ?_
  refine ev_icmp_lt (pc := 2) X 14 dX11_in_2 rfl (fun hc => ?_) (fun hc => ?_)
  · rw [if_pos hc] at h
    exact ev_weak (pc := 14) [] rfl (sX11_in_14  _ _ h p e s m args below meth c r0 A X)
  · rw [if_neg hc] at h
    refine ev_iload_n (pc := 5) X 0 dX11_in_5 rfl rfl ?_
    refine ev_iload_n (pc := 6) X 2 dX11_in_6 rfl rfl ?_
    refine ev_icmp_gt (pc := 7) X 14 dX11_in_7 rfl (fun hc => ?_) (fun hc => ?_)
    · rw [if_pos hc] at h
      exact ev_weak (pc := 14) [] rfl (sX11_in_14  _ _ h p e s m args below meth c r0 A X)
    · rw [if_neg hc] at h
      refine ev_iconst (pc := 10) (v := (1 : Int32)) X dX11_in_10 rfl ?_
      refine ev_goto (pc := 11) X 15 dX11_in_11 rfl ?_
      obtain ⟨v1, hv1, h⟩ := eBi h
      obtain rfl := Option.some.inj h
      exact ev_zret (pc := 15) X dX11_in_15 hv1
def fX11_in (a0 : Int32) (a1 : Int32) (a2 : Int32) (w : eW) : Option (Int32 × eW) := fX11_in_0 a0 a1 a2 w
theorem mX11_in {a0 : Int32} {a1 : Int32} {a2 : Int32} {w : eW} {v : Int32} {w' : eW} (h : fX11_in a0 a1 a2 w = some (v, w')) : eMN l D cI cZ 0 yX11_in cX11_in 3 (some .boolean) [.int a0, .int a1, .int a2] w (some (.int v)) w' :=
  eMN_of [(0, .int a0), (1, .int a1), (2, .int a2)] (plainFor_of_name (by decide)) (fun _ => rfl) (fun _ => Nat.le_of_ble_eq_true rfl) (fun p e s m args below meth c r0 A X => ev_weak (pc := 0) [0, 1, 2] rfl (sX11_in_0 _ _ _ _ _ h p e s m args below meth c r0 A X))
theorem dX11_ones_0 : decode cX11_ones 0 = .ok (.iconst 0, 1) := by decide +kernel
theorem dX11_ones_1 : decode cX11_ones 1 = .ok (.istore_n 1, 1) := by decide +kernel
theorem dX11_ones_2 : decode cX11_ones 2 = .ok (.iconst 0, 1) := by decide +kernel
theorem dX11_ones_3 : decode cX11_ones 3 = .ok (.istore_n 2, 1) := by decide +kernel
theorem dX11_ones_4 : decode cX11_ones 4 = .ok (.iload_n 2, 1) := by decide +kernel
theorem dX11_ones_5 : decode cX11_ones 5 = .ok (.iconst 4, 1) := by decide +kernel
theorem dX11_ones_6 : decode cX11_ones 6 = .ok (.if_icmp .ge 17, 3) := by decide +kernel
theorem dX11_ones_9 : decode cX11_ones 9 = .ok (.iload_n 1, 1) := by decide +kernel
theorem dX11_ones_10 : decode cX11_ones 10 = .ok (.iload_n 0, 1) := by decide +kernel
theorem dX11_ones_11 : decode cX11_ones 11 = .ok (.iload_n 2, 1) := by decide +kernel
theorem dX11_ones_12 : decode cX11_ones 12 = .ok (.ishr, 1) := by decide +kernel
theorem dX11_ones_13 : decode cX11_ones 13 = .ok (.iconst 1, 1) := by decide +kernel
theorem dX11_ones_14 : decode cX11_ones 14 = .ok (.iand, 1) := by decide +kernel
theorem dX11_ones_15 : decode cX11_ones 15 = .ok (.iadd, 1) := by decide +kernel
theorem dX11_ones_16 : decode cX11_ones 16 = .ok (.istore_n 1, 1) := by decide +kernel
theorem dX11_ones_17 : decode cX11_ones 17 = .ok (.iinc 2 1, 3) := by decide +kernel
theorem dX11_ones_20 : decode cX11_ones 20 = .ok (.goto (-16), 3) := by decide +kernel
theorem dX11_ones_23 : decode cX11_ones 23 = .ok (.iload_n 1, 1) := by decide +kernel
theorem dX11_ones_24 : decode cX11_ones 24 = .ok (.ireturn, 1) := by decide +kernel
def fX11_ones_4 : Nat → Int32 → Int32 → Int32 → eW → Option (Int32 × eW)
  | 0, _, _, _, _ => none
  | n + 1, x0, x1, x2, w => if (4 : Int32) ≤ x2 then (some (x1, w)) else (fX11_ones_4 n x0 (x1 + ((x0 >>> (x2 &&& 31)) &&& (1 : Int32))) (x2 + (1 : Int32)) w)
set_option maxRecDepth 20000 in
theorem sX11_ones_4  : ∀ (n : Nat) (x0 : Int32) (x1 : Int32) (x2 : Int32) (w : eW) (r : Int32 × eW), fX11_ones_4 n x0 x1 x2 w = some r → eBN l D cI cZ 0 yX11_ones cX11_ones 3 (some .int) 4 [(0, .int x0), (1, .int x1), (2, .int x2)] [] w (some (.int r.1)) r.2 := by
  intro n
  induction n with
  | zero => intro x0 x1 x2 w r h; exact absurd (show (none : Option (Int32 × eW)) = some r from h) (by simp)
  | succ n ih =>
    intro x0 x1 x2 w r h
    rw [fX11_ones_4] at h
    intro p e s m args below meth c r0 A X
    refine ev_iload_n (pc := 4) X 2 dX11_ones_4 rfl rfl ?_
    refine ev_iconst (pc := 5) (v := (4 : Int32)) X dX11_ones_5 rfl ?_
    refine ev_icmp_ge (pc := 6) X 23 dX11_ones_6 rfl (fun hc => ?_) (fun hc => ?_)
    · rw [if_pos hc] at h
      refine ev_iload_n (pc := 23) X 1 dX11_ones_23 rfl rfl ?_
      obtain rfl := Option.some.inj h
      exact ev_iret (pc := 24) X dX11_ones_24
    · rw [if_neg hc] at h
      refine ev_iload_n (pc := 9) X 1 dX11_ones_9 rfl rfl ?_
      refine ev_iload_n (pc := 10) X 0 dX11_ones_10 rfl rfl ?_
      refine ev_iload_n (pc := 11) X 2 dX11_ones_11 rfl rfl ?_
      refine ev_ishr (pc := 12) X dX11_ones_12 ?_
      refine ev_iconst (pc := 13) (v := (1 : Int32)) X dX11_ones_13 rfl ?_
      refine ev_iand (pc := 14) X dX11_ones_14 ?_
      refine ev_iadd (pc := 15) X dX11_ones_15 ?_
      refine ev_istore_n (pc := 16) (L' := [(1, .int (x1 + ((x0 >>> (x2 &&& 31)) &&& (1 : Int32)))), (0, .int x0), (2, .int x2)]) X dX11_ones_16 rfl (by decide) rfl ?_
      refine ev_iinc (pc := 17) (v := x2 + (1 : Int32)) (L' := [(2, .int (x2 + (1 : Int32))), (1, .int (x1 + ((x0 >>> (x2 &&& 31)) &&& (1 : Int32)))), (0, .int x0)]) X 2 dX11_ones_17 rfl rfl (by decide) rfl ?_
      refine ev_goto (pc := 20) X 4 dX11_ones_20 rfl ?_
      exact ev_weak (pc := 4) [2, 1, 0] rfl (ih _ _ _ _ _ h p e s m args below meth c r0 A X)
def fX11_ones_0 (x0 : Int32) (w : eW) : Option (Int32 × eW) := fX11_ones_4 eN x0 (0 : Int32) (0 : Int32) w
set_option maxRecDepth 20000 in
theorem sX11_ones_0  (x0 : Int32) (w : eW) (r : Int32 × eW) (h : fX11_ones_0 x0 w = some r) : eBN l D cI cZ 0 yX11_ones cX11_ones 3 (some .int) 0 [(0, .int x0)] [] w (some (.int r.1)) r.2 := by
  rw [fX11_ones_0] at h
  intro p e s m args below meth c r0 A X
  refine ev_iconst (pc := 0) (v := (0 : Int32)) X dX11_ones_0 rfl ?_
  refine ev_istore_n (pc := 1) (L' := [(1, .int (0 : Int32)), (0, .int x0)]) X dX11_ones_1 rfl (by decide) rfl ?_
  refine ev_iconst (pc := 2) (v := (0 : Int32)) X dX11_ones_2 rfl ?_
  refine ev_istore_n (pc := 3) (L' := [(2, .int (0 : Int32)), (1, .int (0 : Int32)), (0, .int x0)]) X dX11_ones_3 rfl (by decide) rfl ?_
  exact ev_weak (pc := 4) [2, 1, 0] rfl (sX11_ones_4 eN _ _ _ _ _ h p e s m args below meth c r0 A X)
def fX11_ones (a0 : Int32) (w : eW) : Option (Int32 × eW) := fX11_ones_0 a0 w
theorem mX11_ones {a0 : Int32} {w : eW} {v : Int32} {w' : eW} (h : fX11_ones a0 w = some (v, w')) : eMN l D cI cZ 0 yX11_ones cX11_ones 3 (some .int) [.int a0] w (some (.int v)) w' :=
  eMN_of [(0, .int a0)] (plainFor_of_name (by decide)) (fun _ => rfl) (fun _ => Nat.le_of_ble_eq_true rfl) (fun p e s m args below meth c r0 A X => ev_weak (pc := 0) [0] rfl (sX11_ones_0 _ _ _ h p e s m args below meth c r0 A X))
theorem dX11_type_0 : decode cX11_type 0 = .ok (.aload_n 0, 1) := by decide +kernel
theorem dX11_type_1 : decode cX11_type 1 = .ok (.iconst 0, 1) := by decide +kernel
theorem dX11_type_2 : decode cX11_type 2 = .ok (.putfield 50, 3) := by decide +kernel
theorem dX11_type_5 : decode cX11_type 5 = .ok (.iload_n 1, 1) := by decide +kernel
theorem dX11_type_6 : decode cX11_type 6 = .ok (.iconst 0, 1) := by decide +kernel
theorem dX11_type_7 : decode cX11_type 7 = .ok (.sipush 255, 3) := by decide +kernel
theorem dX11_type_10 : decode cX11_type 10 = .ok (.invokestatic 54, 3) := by decide +kernel
theorem dX11_type_13 : decode cX11_type 13 = .ok (.ifCond .ne 5, 3) := by decide +kernel
theorem dX11_type_16 : decode cX11_type 16 = .ok (.iconst (-1), 1) := by decide +kernel
theorem dX11_type_17 : decode cX11_type 17 = .ok (.ireturn, 1) := by decide +kernel
theorem dX11_type_18 : decode cX11_type 18 = .ok (.aload_n 0, 1) := by decide +kernel
theorem dX11_type_19 : decode cX11_type 19 = .ok (.getfield 58, 3) := by decide +kernel
theorem dX11_type_22 : decode cX11_type 22 = .ok (.sipush 200, 3) := by decide +kernel
theorem dX11_type_25 : decode cX11_type 25 = .ok (.if_icmp .ne 6, 3) := by decide +kernel
theorem dX11_type_28 : decode cX11_type 28 = .ok (.bipush (-3), 2) := by decide +kernel
theorem dX11_type_30 : decode cX11_type 30 = .ok (.ireturn, 1) := by decide +kernel
theorem dX11_type_31 : decode cX11_type 31 = .ok (.aload_n 0, 1) := by decide +kernel
theorem dX11_type_32 : decode cX11_type 32 = .ok (.getfield 7, 3) := by decide +kernel
theorem dX11_type_35 : decode cX11_type 35 = .ok (.aload_n 0, 1) := by decide +kernel
theorem dX11_type_36 : decode cX11_type 36 = .ok (.getfield 58, 3) := by decide +kernel
theorem dX11_type_39 : decode cX11_type 39 = .ok (.iload_n 1, 1) := by decide +kernel
theorem dX11_type_40 : decode cX11_type 40 = .ok (.iastore, 1) := by decide +kernel
theorem dX11_type_41 : decode cX11_type 41 = .ok (.aload_n 0, 1) := by decide +kernel
theorem dX11_type_42 : decode cX11_type 42 = .ok (.dup, 1) := by decide +kernel
theorem dX11_type_43 : decode cX11_type 43 = .ok (.getfield 58, 3) := by decide +kernel
theorem dX11_type_46 : decode cX11_type 46 = .ok (.iconst 1, 1) := by decide +kernel
theorem dX11_type_47 : decode cX11_type 47 = .ok (.iadd, 1) := by decide +kernel
theorem dX11_type_48 : decode cX11_type 48 = .ok (.putfield 58, 3) := by decide +kernel
theorem dX11_type_51 : decode cX11_type 51 = .ok (.aload_n 0, 1) := by decide +kernel
theorem dX11_type_52 : decode cX11_type 52 = .ok (.getfield 58, 3) := by decide +kernel
theorem dX11_type_55 : decode cX11_type 55 = .ok (.ireturn, 1) := by decide +kernel
def fX11_type_0 (x0 : Nat) (x1 : Int32) (w : eW) : Option (Int32 × eW) := (eP w x0 11 0 (.int (0 : Int32))).bind fun w1 => eBind2 (fX11_in x1 (0 : Int32) (255 : Int32) w1) fun v3 w2 => if v3 = 0 then (some ((-1 : Int32), w2)) else ((eGI w2 x0 11 3).bind fun v4 => if v4 = (200 : Int32) then (some ((-3 : Int32), w2)) else ((eGR w2 x0 11 2).bind fun v5 => (eGI w2 x0 11 3).bind fun v6 => (eSt w2 false v5 v6 x1).bind fun w7 => (eGI w7 x0 11 3).bind fun v8 => (eP w7 x0 11 3 (.int (v8 + (1 : Int32)))).bind fun w9 => (eGI w9 x0 11 3).bind fun v10 => some (v10, w9)))
set_option maxRecDepth 20000 in
theorem sX11_type_0  (x0 : Nat) (x1 : Int32) (w : eW) (r : Int32 × eW) (h : fX11_type_0 x0 x1 w = some r) : eBN l D cI cZ 1 yX11_type cX11_type 2 (some .int) 0 [(0, .ref x0), (1, .int x1)] [] w (some (.int r.1)) r.2 := by
  rw [fX11_type_0] at h
  intro p e s m args below meth c r0 A X
  refine ev_aload_n (pc := 0) X 0 dX11_type_0 rfl rfl ?_
  refine ev_iconst (pc := 1) (v := (0 : Int32)) X dX11_type_1 rfl ?_
  obtain ⟨w1, hw1, h⟩ := eBi h
  refine ev_putI (pc := 2) X hcX11 (k := 0) (by decide) kfX11_50 rfl rfl dX11_type_2 hw1 ?_
  refine ev_iload_n (pc := 5) X 1 dX11_type_5 rfl rfl ?_
  refine ev_iconst (pc := 6) (v := (0 : Int32)) X dX11_type_6 rfl ?_
  refine ev_sipush (pc := 7) (v := (255 : Int32)) X dX11_type_7 rfl ?_
  obtain ⟨v3, w2, hc, h⟩ := eB2 h
  refine ev_callS_i (pc := 10) (As := [.int x1, .int (0 : Int32), .int (255 : Int32)]) (S := []) X hwX11_in klX11_54 htX11_in ⟨Nat.le_of_ble_eq_true rfl, Nat.le_of_ble_eq_true rfl⟩ ⟨Nat.le_refl _, Nat.le_refl _⟩ rfl (Nat.le_of_ble_eq_true rfl) dX11_type_10 rfl (mX11_in hc) ?_
  refine ev_if_ne (pc := 13) X 18 dX11_type_13 rfl (fun hc => ?_) (fun hc => ?_)
  · rw [if_neg hc] at h
    refine ev_aload_n (pc := 18) X 0 dX11_type_18 rfl rfl ?_
    obtain ⟨v4, hv4, h⟩ := eBi h
    refine ev_getI (pc := 19) X hcX11 (k := 3) (by decide) kfX11_58 dX11_type_19 hv4 ?_
    refine ev_sipush (pc := 22) (v := (200 : Int32)) X dX11_type_22 rfl ?_
    refine ev_icmp_ne (pc := 25) X 31 dX11_type_25 rfl (fun hc => ?_) (fun hc => ?_)
    · rw [if_neg hc] at h
      refine ev_aload_n (pc := 31) X 0 dX11_type_31 rfl rfl ?_
      obtain ⟨v5, hv5, h⟩ := eBi h
      refine ev_getR (pc := 32) X hcX11 (k := 2) (by decide) kfX11_7 dX11_type_32 hv5 ?_
      refine ev_aload_n (pc := 35) X 0 dX11_type_35 rfl rfl ?_
      obtain ⟨v6, hv6, h⟩ := eBi h
      refine ev_getI (pc := 36) X hcX11 (k := 3) (by decide) kfX11_58 dX11_type_36 hv6 ?_
      refine ev_iload_n (pc := 39) X 1 dX11_type_39 rfl rfl ?_
      obtain ⟨w7, hw7, h⟩ := eBi h
      refine ev_iast (pc := 40) X dX11_type_40 hw7 ?_
      refine ev_aload_n (pc := 41) X 0 dX11_type_41 rfl rfl ?_
      refine ev_dup (pc := 42) X dX11_type_42 rfl ?_
      obtain ⟨v8, hv8, h⟩ := eBi h
      refine ev_getI (pc := 43) X hcX11 (k := 3) (by decide) kfX11_58 dX11_type_43 hv8 ?_
      refine ev_iconst (pc := 46) (v := (1 : Int32)) X dX11_type_46 rfl ?_
      refine ev_iadd (pc := 47) X dX11_type_47 ?_
      obtain ⟨w9, hw9, h⟩ := eBi h
      refine ev_putI (pc := 48) X hcX11 (k := 3) (by decide) kfX11_58 rfl rfl dX11_type_48 hw9 ?_
      refine ev_aload_n (pc := 51) X 0 dX11_type_51 rfl rfl ?_
      obtain ⟨v10, hv10, h⟩ := eBi h
      refine ev_getI (pc := 52) X hcX11 (k := 3) (by decide) kfX11_58 dX11_type_52 hv10 ?_
      obtain rfl := Option.some.inj h
      exact ev_iret (pc := 55) X dX11_type_55
    · rw [if_pos hc] at h
      refine ev_bipush (pc := 28) (v := (-3 : Int32)) X dX11_type_28 rfl ?_
      obtain rfl := Option.some.inj h
      exact ev_iret (pc := 30) X dX11_type_30
  · rw [if_pos hc] at h
    refine ev_iconst (pc := 16) (v := (-1 : Int32)) X dX11_type_16 rfl ?_
    obtain rfl := Option.some.inj h
    exact ev_iret (pc := 17) X dX11_type_17
def fX11_type (a0 : Nat) (a1 : Int32) (w : eW) : Option (Int32 × eW) := bif eO w a0 11 then fX11_type_0 a0 a1 w else none
theorem mX11_type {a0 : Nat} {a1 : Int32} {w : eW} {v : Int32} {w' : eW} (h : fX11_type a0 a1 w = some (v, w')) : eO w a0 11 = true ∧ eMN l D cI cZ 1 yX11_type cX11_type 2 (some .int) [.ref a0, .int a1] w (some (.int v)) w' := by
  obtain ⟨h0, h⟩ := eBif h
  exact ⟨h0, eMN_of [(0, .ref a0), (1, .int a1)] (plainFor_of_name (by decide)) (fun _ => rfl) (fun _ => Nat.le_of_ble_eq_true rfl) (fun p e s m args below meth c r0 A X => ev_weak (pc := 0) [0, 1] rfl (sX11_type_0 _ _ _ _ h p e s m args below meth c r0 A X))⟩
theorem dX11_clear_0 : decode cX11_clear 0 = .ok (.aload_n 0, 1) := by decide +kernel
theorem dX11_clear_1 : decode cX11_clear 1 = .ok (.iconst 0, 1) := by decide +kernel
theorem dX11_clear_2 : decode cX11_clear 2 = .ok (.putfield 50, 3) := by decide +kernel
theorem dX11_clear_5 : decode cX11_clear 5 = .ok (.aload_n 0, 1) := by decide +kernel
theorem dX11_clear_6 : decode cX11_clear 6 = .ok (.getfield 58, 3) := by decide +kernel
theorem dX11_clear_9 : decode cX11_clear 9 = .ok (.istore_n 1, 1) := by decide +kernel
theorem dX11_clear_10 : decode cX11_clear 10 = .ok (.aload_n 0, 1) := by decide +kernel
theorem dX11_clear_11 : decode cX11_clear 11 = .ok (.iconst 0, 1) := by decide +kernel
theorem dX11_clear_12 : decode cX11_clear 12 = .ok (.putfield 58, 3) := by decide +kernel
theorem dX11_clear_15 : decode cX11_clear 15 = .ok (.iload_n 1, 1) := by decide +kernel
theorem dX11_clear_16 : decode cX11_clear 16 = .ok (.ireturn, 1) := by decide +kernel
def fX11_clear_0 (x0 : Nat) (w : eW) : Option (Int32 × eW) := (eP w x0 11 0 (.int (0 : Int32))).bind fun w1 => (eGI w1 x0 11 3).bind fun v2 => (eP w1 x0 11 3 (.int (0 : Int32))).bind fun w3 => some (v2, w3)
set_option maxRecDepth 20000 in
theorem sX11_clear_0  (x0 : Nat) (w : eW) (r : Int32 × eW) (h : fX11_clear_0 x0 w = some r) : eBN l D cI cZ 0 yX11_clear cX11_clear 2 (some .int) 0 [(0, .ref x0)] [] w (some (.int r.1)) r.2 := by
  rw [fX11_clear_0] at h
  intro p e s m args below meth c r0 A X
  refine ev_aload_n (pc := 0) X 0 dX11_clear_0 rfl rfl ?_
  refine ev_iconst (pc := 1) (v := (0 : Int32)) X dX11_clear_1 rfl ?_
  obtain ⟨w1, hw1, h⟩ := eBi h
  refine ev_putI (pc := 2) X hcX11 (k := 0) (by decide) kfX11_50 rfl rfl dX11_clear_2 hw1 ?_
  refine ev_aload_n (pc := 5) X 0 dX11_clear_5 rfl rfl ?_
  obtain ⟨v2, hv2, h⟩ := eBi h
  refine ev_getI (pc := 6) X hcX11 (k := 3) (by decide) kfX11_58 dX11_clear_6 hv2 ?_
  refine ev_istore_n (pc := 9) (L' := [(1, .int v2), (0, .ref x0)]) X dX11_clear_9 rfl (by decide) rfl ?_
  refine ev_aload_n (pc := 10) X 1 dX11_clear_10 rfl rfl ?_
  refine ev_iconst (pc := 11) (v := (0 : Int32)) X dX11_clear_11 rfl ?_
  obtain ⟨w3, hw3, h⟩ := eBi h
  refine ev_putI (pc := 12) X hcX11 (k := 3) (by decide) kfX11_58 rfl rfl dX11_clear_12 hw3 ?_
  refine ev_iload_n (pc := 15) X 0 dX11_clear_15 rfl rfl ?_
  obtain rfl := Option.some.inj h
  exact ev_iret (pc := 16) X dX11_clear_16
def fX11_clear (a0 : Nat) (w : eW) : Option (Int32 × eW) := bif eO w a0 11 then fX11_clear_0 a0 w else none
theorem mX11_clear {a0 : Nat} {w : eW} {v : Int32} {w' : eW} (h : fX11_clear a0 w = some (v, w')) : eO w a0 11 = true ∧ eMN l D cI cZ 0 yX11_clear cX11_clear 2 (some .int) [.ref a0] w (some (.int v)) w' := by
  obtain ⟨h0, h⟩ := eBif h
  exact ⟨h0, eMN_of [(0, .ref a0)] (plainFor_of_name (by decide)) (fun _ => rfl) (fun _ => Nat.le_of_ble_eq_true rfl) (fun p e s m args below meth c r0 A X => ev_weak (pc := 0) [0] rfl (sX11_clear_0 _ _ _ h p e s m args below meth c r0 A X))⟩
theorem dX11_letterAt_0 : decode cX11_letterAt 0 = .ok (.iload_n 1, 1) := by decide +kernel
theorem dX11_letterAt_1 : decode cX11_letterAt 1 = .ok (.aload_n 0, 1) := by decide +kernel
theorem dX11_letterAt_2 : decode cX11_letterAt 2 = .ok (.getfield 58, 3) := by decide +kernel
theorem dX11_letterAt_5 : decode cX11_letterAt 5 = .ok (.if_icmp .ge 12, 3) := by decide +kernel
theorem dX11_letterAt_8 : decode cX11_letterAt 8 = .ok (.aload_n 0, 1) := by decide +kernel
theorem dX11_letterAt_9 : decode cX11_letterAt 9 = .ok (.getfield 7, 3) := by decide +kernel
theorem dX11_letterAt_12 : decode cX11_letterAt 12 = .ok (.iload_n 1, 1) := by decide +kernel
theorem dX11_letterAt_13 : decode cX11_letterAt 13 = .ok (.iaload, 1) := by decide +kernel
theorem dX11_letterAt_14 : decode cX11_letterAt 14 = .ok (.goto 4, 3) := by decide +kernel
theorem dX11_letterAt_17 : decode cX11_letterAt 17 = .ok (.iconst (-1), 1) := by decide +kernel
theorem dX11_letterAt_18 : decode cX11_letterAt 18 = .ok (.ireturn, 1) := by decide +kernel
def fX11_letterAt_0 (x0 : Nat) (x1 : Int32) (w : eW) : Option (Int32 × eW) := (eGI w x0 11 3).bind fun v1 => if v1 ≤ x1 then (some ((-1 : Int32), w)) else ((eGR w x0 11 2).bind fun v2 => (eLd w false v2 x1).bind fun v3 => some (v3, w))
set_option maxRecDepth 20000 in
theorem sX11_letterAt_0  (x0 : Nat) (x1 : Int32) (w : eW) (r : Int32 × eW) (h : fX11_letterAt_0 x0 x1 w = some r) : eBN l D cI cZ 0 yX11_letterAt cX11_letterAt 2 (some .int) 0 [(0, .ref x0), (1, .int x1)] [] w (some (.int r.1)) r.2 := by
  rw [fX11_letterAt_0] at h
  intro p e s m args below meth c r0 A X
  refine ev_iload_n (pc := 0) X 1 dX11_letterAt_0 rfl rfl ?_
  refine ev_aload_n (pc := 1) X 0 dX11_letterAt_1 rfl rfl ?_
  obtain ⟨v1, hv1, h⟩ := eBi h
  refine ev_getI (pc := 2) X hcX11 (k := 3) (by decide) kfX11_58 dX11_letterAt_2 hv1 ?_
  refine ev_icmp_ge (pc := 5) X 17 dX11_letterAt_5 rfl (fun hc => ?_) (fun hc => ?_)
  · rw [if_pos hc] at h
    refine ev_iconst (pc := 17) (v := (-1 : Int32)) X dX11_letterAt_17 rfl ?_
    obtain rfl := Option.some.inj h
    exact ev_iret (pc := 18) X dX11_letterAt_18
  · rw [if_neg hc] at h
    refine ev_aload_n (pc := 8) X 0 dX11_letterAt_8 rfl rfl ?_
    obtain ⟨v2, hv2, h⟩ := eBi h
    refine ev_getR (pc := 9) X hcX11 (k := 2) (by decide) kfX11_7 dX11_letterAt_9 hv2 ?_
    refine ev_iload_n (pc := 12) X 1 dX11_letterAt_12 rfl rfl ?_
    obtain ⟨v3, hv3, h⟩ := eBi h
    refine ev_iald (pc := 13) X dX11_letterAt_13 hv3 ?_
    refine ev_goto (pc := 14) X 18 dX11_letterAt_14 rfl ?_
    obtain rfl := Option.some.inj h
    exact ev_iret (pc := 18) X dX11_letterAt_18
def fX11_letterAt (a0 : Nat) (a1 : Int32) (w : eW) : Option (Int32 × eW) := bif eO w a0 11 then fX11_letterAt_0 a0 a1 w else none
theorem mX11_letterAt {a0 : Nat} {a1 : Int32} {w : eW} {v : Int32} {w' : eW} (h : fX11_letterAt a0 a1 w = some (v, w')) : eO w a0 11 = true ∧ eMN l D cI cZ 0 yX11_letterAt cX11_letterAt 2 (some .int) [.ref a0, .int a1] w (some (.int v)) w' := by
  obtain ⟨h0, h⟩ := eBif h
  exact ⟨h0, eMN_of [(0, .ref a0), (1, .int a1)] (plainFor_of_name (by decide)) (fun _ => rfl) (fun _ => Nat.le_of_ble_eq_true rfl) (fun p e s m args below meth c r0 A X => ev_weak (pc := 0) [0, 1] rfl (sX11_letterAt_0 _ _ _ _ h p e s m args below meth c r0 A X))⟩
theorem dX11_advances_0 : decode cX11_advances 0 = .ok (.aload_n 0, 1) := by decide +kernel
theorem dX11_advances_1 : decode cX11_advances 1 = .ok (.aload_n 0, 1) := by decide +kernel
theorem dX11_advances_2 : decode cX11_advances 2 = .ok (.getfield 61, 3) := by decide +kernel
theorem dX11_advances_5 : decode cX11_advances 5 = .ok (.invokevirtual 64, 3) := by decide +kernel
theorem dX11_advances_8 : decode cX11_advances 8 = .ok (.bipush 32, 2) := by decide +kernel
theorem dX11_advances_10 : decode cX11_advances 10 = .ok (.if_icmp .ne 16, 3) := by decide +kernel
theorem dX11_advances_13 : decode cX11_advances 13 = .ok (.aload_n 0, 1) := by decide +kernel
theorem dX11_advances_14 : decode cX11_advances 14 = .ok (.dup, 1) := by decide +kernel
theorem dX11_advances_15 : decode cX11_advances 15 = .ok (.getfield 61, 3) := by decide +kernel
theorem dX11_advances_18 : decode cX11_advances 18 = .ok (.iconst 1, 1) := by decide +kernel
theorem dX11_advances_19 : decode cX11_advances 19 = .ok (.iadd, 1) := by decide +kernel
theorem dX11_advances_20 : decode cX11_advances 20 = .ok (.putfield 61, 3) := by decide +kernel
theorem dX11_advances_23 : decode cX11_advances 23 = .ok (.goto (-23), 3) := by decide +kernel
theorem dX11_advances_26 : decode cX11_advances 26 = .ok (.aload_n 0, 1) := by decide +kernel
theorem dX11_advances_27 : decode cX11_advances 27 = .ok (.aload_n 0, 1) := by decide +kernel
theorem dX11_advances_28 : decode cX11_advances 28 = .ok (.getfield 61, 3) := by decide +kernel
theorem dX11_advances_31 : decode cX11_advances 31 = .ok (.putfield 68, 3) := by decide +kernel
theorem dX11_advances_34 : decode cX11_advances 34 = .ok (.aload_n 0, 1) := by decide +kernel
theorem dX11_advances_35 : decode cX11_advances 35 = .ok (.aload_n 0, 1) := by decide +kernel
theorem dX11_advances_36 : decode cX11_advances 36 = .ok (.getfield 61, 3) := by decide +kernel
theorem dX11_advances_39 : decode cX11_advances 39 = .ok (.invokevirtual 64, 3) := by decide +kernel
theorem dX11_advances_42 : decode cX11_advances 42 = .ok (.istore_n 1, 1) := by decide +kernel
theorem dX11_advances_43 : decode cX11_advances 43 = .ok (.iload_n 1, 1) := by decide +kernel
theorem dX11_advances_44 : decode cX11_advances 44 = .ok (.ifCond .ge 11, 3) := by decide +kernel
theorem dX11_advances_47 : decode cX11_advances 47 = .ok (.aload_n 0, 1) := by decide +kernel
theorem dX11_advances_48 : decode cX11_advances 48 = .ok (.iconst 0, 1) := by decide +kernel
theorem dX11_advances_49 : decode cX11_advances 49 = .ok (.putfield 71, 3) := by decide +kernel
theorem dX11_advances_52 : decode cX11_advances 52 = .ok (.goto 187, 3) := by decide +kernel
theorem dX11_advances_55 : decode cX11_advances 55 = .ok (.iload_n 1, 1) := by decide +kernel
theorem dX11_advances_56 : decode cX11_advances 56 = .ok (.bipush 48, 2) := by decide +kernel
theorem dX11_advances_58 : decode cX11_advances 58 = .ok (.bipush 57, 2) := by decide +kernel
theorem dX11_advances_60 : decode cX11_advances 60 = .ok (.invokestatic 54, 3) := by decide +kernel
theorem dX11_advances_63 : decode cX11_advances 63 = .ok (.ifCond .eq 118, 3) := by decide +kernel
theorem dX11_advances_66 : decode cX11_advances 66 = .ok (.aload_n 0, 1) := by decide +kernel
theorem dX11_advances_67 : decode cX11_advances 67 = .ok (.iconst 0, 1) := by decide +kernel
theorem dX11_advances_68 : decode cX11_advances 68 = .ok (.putfield 74, 3) := by decide +kernel
theorem dX11_advances_71 : decode cX11_advances 71 = .ok (.aload_n 0, 1) := by decide +kernel
theorem dX11_advances_72 : decode cX11_advances 72 = .ok (.aload_n 0, 1) := by decide +kernel
theorem dX11_advances_73 : decode cX11_advances 73 = .ok (.getfield 61, 3) := by decide +kernel
theorem dX11_advances_76 : decode cX11_advances 76 = .ok (.invokevirtual 64, 3) := by decide +kernel
theorem dX11_advances_79 : decode cX11_advances 79 = .ok (.bipush 48, 2) := by decide +kernel
theorem dX11_advances_81 : decode cX11_advances 81 = .ok (.bipush 57, 2) := by decide +kernel
theorem dX11_advances_83 : decode cX11_advances 83 = .ok (.invokestatic 54, 3) := by decide +kernel
theorem dX11_advances_86 : decode cX11_advances 86 = .ok (.ifCond .eq 55, 3) := by decide +kernel
theorem dX11_advances_89 : decode cX11_advances 89 = .ok (.aload_n 0, 1) := by decide +kernel
theorem dX11_advances_90 : decode cX11_advances 90 = .ok (.aload_n 0, 1) := by decide +kernel
theorem dX11_advances_91 : decode cX11_advances 91 = .ok (.getfield 74, 3) := by decide +kernel
theorem dX11_advances_94 : decode cX11_advances 94 = .ok (.bipush 99, 2) := by decide +kernel
theorem dX11_advances_96 : decode cX11_advances 96 = .ok (.if_icmp .le 10, 3) := by decide +kernel
theorem dX11_advances_99 : decode cX11_advances 99 = .ok (.aload_n 0, 1) := by decide +kernel
theorem dX11_advances_100 : decode cX11_advances 100 = .ok (.getfield 74, 3) := by decide +kernel
theorem dX11_advances_103 : decode cX11_advances 103 = .ok (.goto 22, 3) := by decide +kernel
theorem dX11_advances_106 : decode cX11_advances 106 = .ok (.bipush 10, 2) := by decide +kernel
theorem dX11_advances_108 : decode cX11_advances 108 = .ok (.aload_n 0, 1) := by decide +kernel
theorem dX11_advances_109 : decode cX11_advances 109 = .ok (.getfield 74, 3) := by decide +kernel
theorem dX11_advances_112 : decode cX11_advances 112 = .ok (.imul, 1) := by decide +kernel
theorem dX11_advances_113 : decode cX11_advances 113 = .ok (.aload_n 0, 1) := by decide +kernel
theorem dX11_advances_114 : decode cX11_advances 114 = .ok (.aload_n 0, 1) := by decide +kernel
theorem dX11_advances_115 : decode cX11_advances 115 = .ok (.getfield 61, 3) := by decide +kernel
theorem dX11_advances_118 : decode cX11_advances 118 = .ok (.invokevirtual 64, 3) := by decide +kernel
theorem dX11_advances_121 : decode cX11_advances 121 = .ok (.iadd, 1) := by decide +kernel
theorem dX11_advances_122 : decode cX11_advances 122 = .ok (.bipush 48, 2) := by decide +kernel
theorem dX11_advances_124 : decode cX11_advances 124 = .ok (.isub, 1) := by decide +kernel
theorem dX11_advances_125 : decode cX11_advances 125 = .ok (.putfield 74, 3) := by decide +kernel
theorem dX11_advances_128 : decode cX11_advances 128 = .ok (.aload_n 0, 1) := by decide +kernel
theorem dX11_advances_129 : decode cX11_advances 129 = .ok (.dup, 1) := by decide +kernel
theorem dX11_advances_130 : decode cX11_advances 130 = .ok (.getfield 61, 3) := by decide +kernel
theorem dX11_advances_133 : decode cX11_advances 133 = .ok (.iconst 1, 1) := by decide +kernel
theorem dX11_advances_134 : decode cX11_advances 134 = .ok (.iadd, 1) := by decide +kernel
theorem dX11_advances_135 : decode cX11_advances 135 = .ok (.putfield 61, 3) := by decide +kernel
theorem dX11_advances_138 : decode cX11_advances 138 = .ok (.goto (-67), 3) := by decide +kernel
theorem dX11_advances_141 : decode cX11_advances 141 = .ok (.aload_n 0, 1) := by decide +kernel
theorem dX11_advances_142 : decode cX11_advances 142 = .ok (.aload_n 0, 1) := by decide +kernel
theorem dX11_advances_143 : decode cX11_advances 143 = .ok (.getfield 74, 3) := by decide +kernel
theorem dX11_advances_146 : decode cX11_advances 146 = .ok (.bipush 99, 2) := by decide +kernel
theorem dX11_advances_148 : decode cX11_advances 148 = .ok (.if_icmp .gt 22, 3) := by decide +kernel
theorem dX11_advances_151 : decode cX11_advances 151 = .ok (.iload_n 1, 1) := by decide +kernel
theorem dX11_advances_152 : decode cX11_advances 152 = .ok (.bipush 48, 2) := by decide +kernel
theorem dX11_advances_154 : decode cX11_advances 154 = .ok (.if_icmp .ne 20, 3) := by decide +kernel
theorem dX11_advances_157 : decode cX11_advances 157 = .ok (.aload_n 0, 1) := by decide +kernel
theorem dX11_advances_158 : decode cX11_advances 158 = .ok (.getfield 61, 3) := by decide +kernel
theorem dX11_advances_161 : decode cX11_advances 161 = .ok (.aload_n 0, 1) := by decide +kernel
theorem dX11_advances_162 : decode cX11_advances 162 = .ok (.getfield 68, 3) := by decide +kernel
theorem dX11_advances_165 : decode cX11_advances 165 = .ok (.isub, 1) := by decide +kernel
theorem dX11_advances_166 : decode cX11_advances 166 = .ok (.iconst 1, 1) := by decide +kernel
theorem dX11_advances_167 : decode cX11_advances 167 = .ok (.if_icmp .le 7, 3) := by decide +kernel
theorem dX11_advances_170 : decode cX11_advances 170 = .ok (.iconst 4, 1) := by decide +kernel
theorem dX11_advances_171 : decode cX11_advances 171 = .ok (.goto 4, 3) := by decide +kernel
theorem dX11_advances_174 : decode cX11_advances 174 = .ok (.iconst 2, 1) := by decide +kernel
theorem dX11_advances_175 : decode cX11_advances 175 = .ok (.putfield 71, 3) := by decide +kernel
theorem dX11_advances_178 : decode cX11_advances 178 = .ok (.goto 61, 3) := by decide +kernel
theorem dX11_advances_181 : decode cX11_advances 181 = .ok (.aload_n 0, 1) := by decide +kernel
theorem dX11_advances_182 : decode cX11_advances 182 = .ok (.dup, 1) := by decide +kernel
theorem dX11_advances_183 : decode cX11_advances 183 = .ok (.getfield 61, 3) := by decide +kernel
theorem dX11_advances_186 : decode cX11_advances 186 = .ok (.iconst 1, 1) := by decide +kernel
theorem dX11_advances_187 : decode cX11_advances 187 = .ok (.iadd, 1) := by decide +kernel
theorem dX11_advances_188 : decode cX11_advances 188 = .ok (.putfield 61, 3) := by decide +kernel
theorem dX11_advances_191 : decode cX11_advances 191 = .ok (.aload_n 0, 1) := by decide +kernel
theorem dX11_advances_192 : decode cX11_advances 192 = .ok (.iload_n 1, 1) := by decide +kernel
theorem dX11_advances_193 : decode cX11_advances 193 = .ok (.putfield 74, 3) := by decide +kernel
theorem dX11_advances_196 : decode cX11_advances 196 = .ok (.aload_n 0, 1) := by decide +kernel
theorem dX11_advances_197 : decode cX11_advances 197 = .ok (.iload_n 1, 1) := by decide +kernel
theorem dX11_advances_198 : decode cX11_advances 198 = .ok (.bipush 59, 2) := by decide +kernel
theorem dX11_advances_200 : decode cX11_advances 200 = .ok (.if_icmp .ne 7, 3) := by decide +kernel
theorem dX11_advances_203 : decode cX11_advances 203 = .ok (.iconst 3, 1) := by decide +kernel
theorem dX11_advances_204 : decode cX11_advances 204 = .ok (.goto 32, 3) := by decide +kernel
theorem dX11_advances_207 : decode cX11_advances 207 = .ok (.iload_n 1, 1) := by decide +kernel
theorem dX11_advances_208 : decode cX11_advances 208 = .ok (.bipush 103, 2) := by decide +kernel
theorem dX11_advances_210 : decode cX11_advances 210 = .ok (.if_icmp .eq 21, 3) := by decide +kernel
theorem dX11_advances_213 : decode cX11_advances 213 = .ok (.iload_n 1, 1) := by decide +kernel
theorem dX11_advances_214 : decode cX11_advances 214 = .ok (.bipush 104, 2) := by decide +kernel
theorem dX11_advances_216 : decode cX11_advances 216 = .ok (.if_icmp .eq 15, 3) := by decide +kernel
theorem dX11_advances_219 : decode cX11_advances 219 = .ok (.iload_n 1, 1) := by decide +kernel
theorem dX11_advances_220 : decode cX11_advances 220 = .ok (.bipush 116, 2) := by decide +kernel
theorem dX11_advances_222 : decode cX11_advances 222 = .ok (.if_icmp .eq 9, 3) := by decide +kernel
theorem dX11_advances_225 : decode cX11_advances 225 = .ok (.iload_n 1, 1) := by decide +kernel
theorem dX11_advances_226 : decode cX11_advances 226 = .ok (.bipush 109, 2) := by decide +kernel
theorem dX11_advances_228 : decode cX11_advances 228 = .ok (.if_icmp .ne 7, 3) := by decide +kernel
theorem dX11_advances_231 : decode cX11_advances 231 = .ok (.iconst 1, 1) := by decide +kernel
theorem dX11_advances_232 : decode cX11_advances 232 = .ok (.goto 4, 3) := by decide +kernel
theorem dX11_advances_235 : decode cX11_advances 235 = .ok (.iconst 4, 1) := by decide +kernel
theorem dX11_advances_236 : decode cX11_advances 236 = .ok (.putfield 71, 3) := by decide +kernel
theorem dX11_advances_239 : decode cX11_advances 239 = .ok (.return_, 1) := by decide +kernel
def fX11_advances_125 (K71 : Nat → Int32 → eW → Option (eW)) (x0 : Nat) (x1 : Int32) (t0 : Nat) (t1 : Int32) (w : eW) : Option (eW) := (eP w t0 11 7 (.int t1)).bind fun w1 => (eGI w1 x0 11 4).bind fun v2 => (eP w1 x0 11 4 (.int (v2 + (1 : Int32)))).bind fun w3 => K71 x0 x1 w3
set_option maxRecDepth 20000 in
theorem sX11_advances_125 {K71 : Nat → Int32 → eW → Option (eW)} (hK71 : ∀ (x0 : Nat) (x1 : Int32) (w : eW) (r : eW), K71 x0 x1 w = some r → eBN l D cI cZ 1 yX11_advances cX11_advances 2 none 71 [(0, .ref x0), (1, .int x1)] [] w none r) (x0 : Nat) (x1 : Int32) (t0 : Nat) (t1 : Int32) (w : eW) (r : eW) (h : fX11_advances_125 K71 x0 x1 t0 t1 w = some r) : eBN l D cI cZ 1 yX11_advances cX11_advances 2 none 125 [(0, .ref x0), (1, .int x1)] [.int t1, .ref t0] w none r := by
  rw [fX11_advances_125] at h
  intro p e s m args below meth c r0 A X
  obtain ⟨w1, hw1, h⟩ := eBi h
  refine ev_putI (pc := 125) X hcX11 (k := 7) (by decide) kfX11_74 rfl rfl dX11_advances_125 hw1 ?_
  refine ev_aload_n (pc := 128) X 0 dX11_advances_128 rfl rfl ?_
  refine ev_dup (pc := 129) X dX11_advances_129 rfl ?_
  obtain ⟨v2, hv2, h⟩ := eBi h
  refine ev_getI (pc := 130) X hcX11 (k := 4) (by decide) kfX11_61 dX11_advances_130 hv2 ?_
  refine ev_iconst (pc := 133) (v := (1 : Int32)) X dX11_advances_133 rfl ?_
  refine ev_iadd (pc := 134) X dX11_advances_134 ?_
  obtain ⟨w3, hw3, h⟩ := eBi h
  refine ev_putI (pc := 135) X hcX11 (k := 4) (by decide) kfX11_61 rfl rfl dX11_advances_135 hw3 ?_
  refine ev_goto (pc := 138) X 71 dX11_advances_138 rfl ?_
  exact ev_weak (pc := 71) [0, 1] rfl (hK71 _ _ _ _ h p e s m args below meth c r0 A X)
def fX11_advances_175 (t0 : Nat) (t1 : Int32) (w : eW) : Option (eW) := (eP w t0 11 5 (.int t1)).bind fun w1 => some w1
set_option maxRecDepth 20000 in
theorem sX11_advances_175  (t0 : Nat) (t1 : Int32) (w : eW) (r : eW) (h : fX11_advances_175 t0 t1 w = some r) : eBN l D cI cZ 1 yX11_advances cX11_advances 2 none 175 [] [.int t1, .ref t0] w none r := by
  rw [fX11_advances_175] at h
  intro p e s m args below meth c r0 A X
  obtain ⟨w1, hw1, h⟩ := eBi h
  refine ev_putI (pc := 175) X hcX11 (k := 5) (by decide) kfX11_71 rfl rfl dX11_advances_175 hw1 ?_
  refine ev_goto (pc := 178) X 239 dX11_advances_178 rfl ?_
  obtain rfl := Option.some.inj h
  exact ev_vret (pc := 239) X dX11_advances_239
def fX11_advances_170 (t0 : Nat) (w : eW) : Option (eW) := fX11_advances_175 t0 (4 : Int32) w
set_option maxRecDepth 20000 in
theorem sX11_advances_170  (t0 : Nat) (w : eW) (r : eW) (h : fX11_advances_170 t0 w = some r) : eBN l D cI cZ 1 yX11_advances cX11_advances 2 none 170 [] [.ref t0] w none r := by
  rw [fX11_advances_170] at h
  intro p e s m args below meth c r0 A X
  refine ev_iconst (pc := 170) (v := (4 : Int32)) X dX11_advances_170 rfl ?_
  refine ev_goto (pc := 171) X 175 dX11_advances_171 rfl ?_
  exact ev_weak (pc := 175) [] rfl (sX11_advances_175 _ _ _ _ h p e s m args below meth c r0 A X)
def fX11_advances_174 (t0 : Nat) (w : eW) : Option (eW) := fX11_advances_175 t0 (2 : Int32) w
set_option maxRecDepth 20000 in
theorem sX11_advances_174  (t0 : Nat) (w : eW) (r : eW) (h : fX11_advances_174 t0 w = some r) : eBN l D cI cZ 1 yX11_advances cX11_advances 2 none 174 [] [.ref t0] w none r := by
  rw [fX11_advances_174] at h
  intro p e s m args below meth c r0 A X
  refine ev_iconst (pc := 174) (v := (2 : Int32)) X dX11_advances_174 rfl ?_
  exact ev_weak (pc := 175) [] rfl (sX11_advances_175 _ _ _ _ h p e s m args below meth c r0 A X)
def fX11_advances_71 : Nat → Nat → Int32 → eW → Option (eW)
  | 0, _, _, _ => none
  | n + 1, x0, x1, w => (eGI w x0 11 4).bind fun v1 => eBind2 (fX11_letterAt x0 v1 w) fun v3 w2 => eBind2 (fX11_in v3 (48 : Int32) (57 : Int32) w2) fun v5 w4 => if v5 = 0 then ((eGI w4 x0 11 7).bind fun v6 => if (99 : Int32) < v6 then (fX11_advances_170 x0 w4) else (if x1 = (48 : Int32) then ((eGI w4 x0 11 4).bind fun v7 => (eGI w4 x0 11 6).bind fun v8 => if (v7 - v8) ≤ (1 : Int32) then (fX11_advances_174 x0 w4) else (fX11_advances_170 x0 w4)) else (fX11_advances_174 x0 w4))) else ((eGI w4 x0 11 7).bind fun v9 => if v9 ≤ (99 : Int32) then ((eGI w4 x0 11 7).bind fun v10 => (eGI w4 x0 11 4).bind fun v11 => eBind2 (fX11_letterAt x0 v11 w4) fun v13 w12 => fX11_advances_125 (fX11_advances_71 n) x0 x1 x0 ((((10 : Int32) * v10) + v13) - (48 : Int32)) w12) else ((eGI w4 x0 11 7).bind fun v14 => fX11_advances_125 (fX11_advances_71 n) x0 x1 x0 v14 w4))
set_option maxRecDepth 20000 in
theorem sX11_advances_71  : ∀ (n : Nat) (x0 : Nat) (x1 : Int32) (w : eW) (r : eW), fX11_advances_71 n x0 x1 w = some r → eBN l D cI cZ 1 yX11_advances cX11_advances 2 none 71 [(0, .ref x0), (1, .int x1)] [] w none r := by
  intro n
  induction n with
  | zero => intro x0 x1 w r h; exact absurd (show (none : Option (eW)) = some r from h) (by simp)
  | succ n ih =>
    intro x0 x1 w r h
    rw [fX11_advances_71] at h
    intro p e s m args below meth c r0 A X
    refine ev_aload_n (pc := 71) X 0 dX11_advances_71 rfl rfl ?_
    refine ev_aload_n (pc := 72) X 0 dX11_advances_72 rfl rfl ?_
    obtain ⟨v1, hv1, h⟩ := eBi h
    refine ev_getI (pc := 73) X hcX11 (k := 4) (by decide) kfX11_61 dX11_advances_73 hv1 ?_
    obtain ⟨v3, w2, hc, h⟩ := eB2 h
    refine ev_callV_i (pc := 76) (As := [.int v1]) (S := []) X hwX11_letterAt klX11_64 hiX11_letterAt hsX11_letterAt (ci := 11) ⟨rfl, rfl⟩ ⟨Nat.le_of_ble_eq_true rfl, Nat.le_of_ble_eq_true rfl⟩ ⟨Nat.le_refl _, Nat.le_refl _⟩ rfl (Nat.le_of_ble_eq_true rfl) dX11_advances_76 rfl (mX11_letterAt (l := l) (D := D) (cI := cI) (cZ := cZ) hc).1 (mX11_letterAt hc).2 ?_
    refine ev_bipush (pc := 79) (v := (48 : Int32)) X dX11_advances_79 rfl ?_
    refine ev_bipush (pc := 81) (v := (57 : Int32)) X dX11_advances_81 rfl ?_
    obtain ⟨v5, w4, hc, h⟩ := eB2 h
    refine ev_callS_i (pc := 83) (As := [.int v3, .int (48 : Int32), .int (57 : Int32)]) (S := []) X hwX11_in klX11_54 htX11_in ⟨Nat.le_of_ble_eq_true rfl, Nat.le_of_ble_eq_true rfl⟩ ⟨Nat.le_refl _, Nat.le_refl _⟩ rfl (Nat.le_of_ble_eq_true rfl) dX11_advances_83 rfl (mX11_in hc) ?_
    refine ev_if_eq (pc := 86) X 141 dX11_advances_86 rfl (fun hc => ?_) (fun hc => ?_)
    · rw [if_pos hc] at h
      refine ev_aload_n (pc := 141) X 0 dX11_advances_141 rfl rfl ?_
      refine ev_aload_n (pc := 142) X 0 dX11_advances_142 rfl rfl ?_
      obtain ⟨v6, hv6, h⟩ := eBi h
      refine ev_getI (pc := 143) X hcX11 (k := 7) (by decide) kfX11_74 dX11_advances_143 hv6 ?_
      refine ev_bipush (pc := 146) (v := (99 : Int32)) X dX11_advances_146 rfl ?_
      refine ev_icmp_gt (pc := 148) X 170 dX11_advances_148 rfl (fun hc => ?_) (fun hc => ?_)
      · rw [if_pos hc] at h
        exact ev_weak (pc := 170) [] rfl (sX11_advances_170 _ _ _ h p e s m args below meth c r0 A X)
      · rw [if_neg hc] at h
        refine ev_iload_n (pc := 151) X 1 dX11_advances_151 rfl rfl ?_
        refine ev_bipush (pc := 152) (v := (48 : Int32)) X dX11_advances_152 rfl ?_
        refine ev_icmp_ne (pc := 154) X 174 dX11_advances_154 rfl (fun hc => ?_) (fun hc => ?_)
        · rw [if_neg hc] at h
          exact ev_weak (pc := 174) [] rfl (sX11_advances_174 _ _ _ h p e s m args below meth c r0 A X)
        · rw [if_pos hc] at h
          refine ev_aload_n (pc := 157) X 0 dX11_advances_157 rfl rfl ?_
          obtain ⟨v7, hv7, h⟩ := eBi h
          refine ev_getI (pc := 158) X hcX11 (k := 4) (by decide) kfX11_61 dX11_advances_158 hv7 ?_
          refine ev_aload_n (pc := 161) X 0 dX11_advances_161 rfl rfl ?_
          obtain ⟨v8, hv8, h⟩ := eBi h
          refine ev_getI (pc := 162) X hcX11 (k := 6) (by decide) kfX11_68 dX11_advances_162 hv8 ?_
          refine ev_isub (pc := 165) X dX11_advances_165 ?_
          refine ev_iconst (pc := 166) (v := (1 : Int32)) X dX11_advances_166 rfl ?_
          refine ev_icmp_le (pc := 167) X 174 dX11_advances_167 rfl (fun hc => ?_) (fun hc => ?_)
          · rw [if_pos hc] at h
            exact ev_weak (pc := 174) [] rfl (sX11_advances_174 _ _ _ h p e s m args below meth c r0 A X)
          · rw [if_neg hc] at h
            exact ev_weak (pc := 170) [] rfl (sX11_advances_170 _ _ _ h p e s m args below meth c r0 A X)
    · rw [if_neg hc] at h
      refine ev_aload_n (pc := 89) X 0 dX11_advances_89 rfl rfl ?_
      refine ev_aload_n (pc := 90) X 0 dX11_advances_90 rfl rfl ?_
      obtain ⟨v9, hv9, h⟩ := eBi h
      refine ev_getI (pc := 91) X hcX11 (k := 7) (by decide) kfX11_74 dX11_advances_91 hv9 ?_
      refine ev_bipush (pc := 94) (v := (99 : Int32)) X dX11_advances_94 rfl ?_
      refine ev_icmp_le (pc := 96) X 106 dX11_advances_96 rfl (fun hc => ?_) (fun hc => ?_)
      · rw [if_pos hc] at h
        refine ev_bipush (pc := 106) (v := (10 : Int32)) X dX11_advances_106 rfl ?_
        refine ev_aload_n (pc := 108) X 0 dX11_advances_108 rfl rfl ?_
        obtain ⟨v10, hv10, h⟩ := eBi h
        refine ev_getI (pc := 109) X hcX11 (k := 7) (by decide) kfX11_74 dX11_advances_109 hv10 ?_
        refine ev_imul (pc := 112) X dX11_advances_112 ?_
        refine ev_aload_n (pc := 113) X 0 dX11_advances_113 rfl rfl ?_
        refine ev_aload_n (pc := 114) X 0 dX11_advances_114 rfl rfl ?_
        obtain ⟨v11, hv11, h⟩ := eBi h
        refine ev_getI (pc := 115) X hcX11 (k := 4) (by decide) kfX11_61 dX11_advances_115 hv11 ?_
        obtain ⟨v13, w12, hc, h⟩ := eB2 h
        refine ev_callV_i (pc := 118) (As := [.int v11]) (S := [.int ((10 : Int32) * v10), .ref x0]) X hwX11_letterAt klX11_64 hiX11_letterAt hsX11_letterAt (ci := 11) ⟨rfl, rfl⟩ ⟨Nat.le_of_ble_eq_true rfl, Nat.le_of_ble_eq_true rfl⟩ ⟨Nat.le_refl _, Nat.le_refl _⟩ rfl (Nat.le_of_ble_eq_true rfl) dX11_advances_118 rfl (mX11_letterAt (l := l) (D := D) (cI := cI) (cZ := cZ) hc).1 (mX11_letterAt hc).2 ?_
        refine ev_iadd (pc := 121) X dX11_advances_121 ?_
        refine ev_bipush (pc := 122) (v := (48 : Int32)) X dX11_advances_122 rfl ?_
        refine ev_isub (pc := 124) X dX11_advances_124 ?_
        exact ev_weak (pc := 125) [0, 1] rfl (sX11_advances_125 (fun _ _ w r hh => ih _ _ w r hh) _ _ _ _ _ _ h p e s m args below meth c r0 A X)
      · rw [if_neg hc] at h
        refine ev_aload_n (pc := 99) X 0 dX11_advances_99 rfl rfl ?_
        obtain ⟨v14, hv14, h⟩ := eBi h
        refine ev_getI (pc := 100) X hcX11 (k := 7) (by decide) kfX11_74 dX11_advances_100 hv14 ?_
        refine ev_goto (pc := 103) X 125 dX11_advances_103 rfl ?_
        exact ev_weak (pc := 125) [0, 1] rfl (sX11_advances_125 (fun _ _ w r hh => ih _ _ w r hh) _ _ _ _ _ _ h p e s m args below meth c r0 A X)
def fX11_advances_236 (t0 : Nat) (t1 : Int32) (w : eW) : Option (eW) := (eP w t0 11 5 (.int t1)).bind fun w1 => some w1
set_option maxRecDepth 20000 in
theorem sX11_advances_236  (t0 : Nat) (t1 : Int32) (w : eW) (r : eW) (h : fX11_advances_236 t0 t1 w = some r) : eBN l D cI cZ 1 yX11_advances cX11_advances 2 none 236 [] [.int t1, .ref t0] w none r := by
  rw [fX11_advances_236] at h
  intro p e s m args below meth c r0 A X
  obtain ⟨w1, hw1, h⟩ := eBi h
  refine ev_putI (pc := 236) X hcX11 (k := 5) (by decide) kfX11_71 rfl rfl dX11_advances_236 hw1 ?_
  obtain rfl := Option.some.inj h
  exact ev_vret (pc := 239) X dX11_advances_239
def fX11_advances_231 (t0 : Nat) (w : eW) : Option (eW) := fX11_advances_236 t0 (1 : Int32) w
set_option maxRecDepth 20000 in
theorem sX11_advances_231  (t0 : Nat) (w : eW) (r : eW) (h : fX11_advances_231 t0 w = some r) : eBN l D cI cZ 1 yX11_advances cX11_advances 2 none 231 [] [.ref t0] w none r := by
  rw [fX11_advances_231] at h
  intro p e s m args below meth c r0 A X
  refine ev_iconst (pc := 231) (v := (1 : Int32)) X dX11_advances_231 rfl ?_
  refine ev_goto (pc := 232) X 236 dX11_advances_232 rfl ?_
  exact ev_weak (pc := 236) [] rfl (sX11_advances_236 _ _ _ _ h p e s m args below meth c r0 A X)
def fX11_advances_0 : Nat → Nat → eW → Option (eW)
  | 0, _, _ => none
  | n + 1, x0, w => (eGI w x0 11 4).bind fun v1 => eBind2 (fX11_letterAt x0 v1 w) fun v3 w2 => if v3 = (32 : Int32) then ((eGI w2 x0 11 4).bind fun v16 => (eP w2 x0 11 4 (.int (v16 + (1 : Int32)))).bind fun w17 => fX11_advances_0 n x0 w17) else ((eGI w2 x0 11 4).bind fun v4 => (eP w2 x0 11 6 (.int v4)).bind fun w5 => (eGI w5 x0 11 4).bind fun v6 => eBind2 (fX11_letterAt x0 v6 w5) fun v8 w7 => if 0 ≤ v8 then (eBind2 (fX11_in v8 (48 : Int32) (57 : Int32) w7) fun v10 w9 => if v10 = 0 then ((eGI w9 x0 11 4).bind fun v11 => (eP w9 x0 11 4 (.int (v11 + (1 : Int32)))).bind fun w12 => (eP w12 x0 11 7 (.int v8)).bind fun w13 => if v8 = (59 : Int32) then (fX11_advances_236 x0 (3 : Int32) w13) else (if v8 = (103 : Int32) then (fX11_advances_231 x0 w13) else (if v8 = (104 : Int32) then (fX11_advances_231 x0 w13) else (if v8 = (116 : Int32) then (fX11_advances_231 x0 w13) else (if v8 = (109 : Int32) then (fX11_advances_231 x0 w13) else (fX11_advances_236 x0 (4 : Int32) w13)))))) else ((eP w9 x0 11 7 (.int (0 : Int32))).bind fun w14 => fX11_advances_71 eN x0 v8 w14)) else ((eP w7 x0 11 5 (.int (0 : Int32))).bind fun w15 => some w15))
set_option maxRecDepth 20000 in
theorem sX11_advances_0  : ∀ (n : Nat) (x0 : Nat) (w : eW) (r : eW), fX11_advances_0 n x0 w = some r → eBN l D cI cZ 1 yX11_advances cX11_advances 2 none 0 [(0, .ref x0)] [] w none r := by
  intro n
  induction n with
  | zero => intro x0 w r h; exact absurd (show (none : Option (eW)) = some r from h) (by simp)
  | succ n ih =>
    intro x0 w r h
    rw [fX11_advances_0] at h
    intro p e s m args below meth c r0 A X
    refine ev_aload_n (pc := 0) X 0 dX11_advances_0 rfl rfl ?_
    refine ev_aload_n (pc := 1) X 0 dX11_advances_1 rfl rfl ?_
    obtain ⟨v1, hv1, h⟩ := eBi h
    refine ev_getI (pc := 2) X hcX11 (k := 4) (by decide) kfX11_61 dX11_advances_2 hv1 ?_
    obtain ⟨v3, w2, hc, h⟩ := eB2 h
    refine ev_callV_i (pc := 5) (As := [.int v1]) (S := []) X hwX11_letterAt klX11_64 hiX11_letterAt hsX11_letterAt (ci := 11) ⟨rfl, rfl⟩ ⟨Nat.le_of_ble_eq_true rfl, Nat.le_of_ble_eq_true rfl⟩ ⟨Nat.le_refl _, Nat.le_refl _⟩ rfl (Nat.le_of_ble_eq_true rfl) dX11_advances_5 rfl (mX11_letterAt (l := l) (D := D) (cI := cI) (cZ := cZ) hc).1 (mX11_letterAt hc).2 ?_
    refine ev_bipush (pc := 8) (v := (32 : Int32)) X dX11_advances_8 rfl ?_
    refine ev_icmp_ne (pc := 10) X 26 dX11_advances_10 rfl (fun hc => ?_) (fun hc => ?_)
    · rw [if_neg hc] at h
      refine ev_aload_n (pc := 26) X 0 dX11_advances_26 rfl rfl ?_
      refine ev_aload_n (pc := 27) X 0 dX11_advances_27 rfl rfl ?_
      obtain ⟨v4, hv4, h⟩ := eBi h
      refine ev_getI (pc := 28) X hcX11 (k := 4) (by decide) kfX11_61 dX11_advances_28 hv4 ?_
      obtain ⟨w5, hw5, h⟩ := eBi h
      refine ev_putI (pc := 31) X hcX11 (k := 6) (by decide) kfX11_68 rfl rfl dX11_advances_31 hw5 ?_
      refine ev_aload_n (pc := 34) X 0 dX11_advances_34 rfl rfl ?_
      refine ev_aload_n (pc := 35) X 0 dX11_advances_35 rfl rfl ?_
      obtain ⟨v6, hv6, h⟩ := eBi h
      refine ev_getI (pc := 36) X hcX11 (k := 4) (by decide) kfX11_61 dX11_advances_36 hv6 ?_
      obtain ⟨v8, w7, hc, h⟩ := eB2 h
      refine ev_callV_i (pc := 39) (As := [.int v6]) (S := []) X hwX11_letterAt klX11_64 hiX11_letterAt hsX11_letterAt (ci := 11) ⟨rfl, rfl⟩ ⟨Nat.le_of_ble_eq_true rfl, Nat.le_of_ble_eq_true rfl⟩ ⟨Nat.le_refl _, Nat.le_refl _⟩ rfl (Nat.le_of_ble_eq_true rfl) dX11_advances_39 rfl (mX11_letterAt (l := l) (D := D) (cI := cI) (cZ := cZ) hc).1 (mX11_letterAt hc).2 ?_
      refine ev_istore_n (pc := 42) (L' := [(1, .int v8), (0, .ref x0)]) X dX11_advances_42 rfl (by decide) rfl ?_
      refine ev_iload_n (pc := 43) X 0 dX11_advances_43 rfl rfl ?_
      refine ev_if_ge (pc := 44) X 55 dX11_advances_44 rfl (fun hc => ?_) (fun hc => ?_)
      · rw [if_pos hc] at h
        refine ev_iload_n (pc := 55) X 0 dX11_advances_55 rfl rfl ?_
        refine ev_bipush (pc := 56) (v := (48 : Int32)) X dX11_advances_56 rfl ?_
        refine ev_bipush (pc := 58) (v := (57 : Int32)) X dX11_advances_58 rfl ?_
        obtain ⟨v10, w9, hc, h⟩ := eB2 h
        refine ev_callS_i (pc := 60) (As := [.int v8, .int (48 : Int32), .int (57 : Int32)]) (S := []) X hwX11_in klX11_54 htX11_in ⟨Nat.le_of_ble_eq_true rfl, Nat.le_of_ble_eq_true rfl⟩ ⟨Nat.le_refl _, Nat.le_refl _⟩ rfl (Nat.le_of_ble_eq_true rfl) dX11_advances_60 rfl (mX11_in hc) ?_
        refine ev_if_eq (pc := 63) X 181 dX11_advances_63 rfl (fun hc => ?_) (fun hc => ?_)
        · rw [if_pos hc] at h
          refine ev_aload_n (pc := 181) X 1 dX11_advances_181 rfl rfl ?_
          refine ev_dup (pc := 182) X dX11_advances_182 rfl ?_
          obtain ⟨v11, hv11, h⟩ := eBi h
          refine ev_getI (pc := 183) X hcX11 (k := 4) (by decide) kfX11_61 dX11_advances_183 hv11 ?_
          refine ev_iconst (pc := 186) (v := (1 : Int32)) X dX11_advances_186 rfl ?_
          refine ev_iadd (pc := 187) X dX11_advances_187 ?_
          obtain ⟨w12, hw12, h⟩ := eBi h
          refine ev_putI (pc := 188) X hcX11 (k := 4) (by decide) kfX11_61 rfl rfl dX11_advances_188 hw12 ?_
          refine ev_aload_n (pc := 191) X 1 dX11_advances_191 rfl rfl ?_
          refine ev_iload_n (pc := 192) X 0 dX11_advances_192 rfl rfl ?_
          obtain ⟨w13, hw13, h⟩ := eBi h
          refine ev_putI (pc := 193) X hcX11 (k := 7) (by decide) kfX11_74 rfl rfl dX11_advances_193 hw13 ?_
          refine ev_aload_n (pc := 196) X 1 dX11_advances_196 rfl rfl ?_
          refine ev_iload_n (pc := 197) X 0 dX11_advances_197 rfl rfl ?_
          refine ev_bipush (pc := 198) (v := (59 : Int32)) X dX11_advances_198 rfl ?_
          refine ev_icmp_ne (pc := 200) X 207 dX11_advances_200 rfl (fun hc => ?_) (fun hc => ?_)
          · rw [if_neg hc] at h
            refine ev_iload_n (pc := 207) X 0 dX11_advances_207 rfl rfl ?_
            refine ev_bipush (pc := 208) (v := (103 : Int32)) X dX11_advances_208 rfl ?_
            refine ev_icmp_eq (pc := 210) X 231 dX11_advances_210 rfl (fun hc => ?_) (fun hc => ?_)
            · rw [if_pos hc] at h
              exact ev_weak (pc := 231) [] rfl (sX11_advances_231 _ _ _ h p e s m args below meth c r0 A X)
            · rw [if_neg hc] at h
              refine ev_iload_n (pc := 213) X 0 dX11_advances_213 rfl rfl ?_
              refine ev_bipush (pc := 214) (v := (104 : Int32)) X dX11_advances_214 rfl ?_
              refine ev_icmp_eq (pc := 216) X 231 dX11_advances_216 rfl (fun hc => ?_) (fun hc => ?_)
              · rw [if_pos hc] at h
                exact ev_weak (pc := 231) [] rfl (sX11_advances_231 _ _ _ h p e s m args below meth c r0 A X)
              · rw [if_neg hc] at h
                refine ev_iload_n (pc := 219) X 0 dX11_advances_219 rfl rfl ?_
                refine ev_bipush (pc := 220) (v := (116 : Int32)) X dX11_advances_220 rfl ?_
                refine ev_icmp_eq (pc := 222) X 231 dX11_advances_222 rfl (fun hc => ?_) (fun hc => ?_)
                · rw [if_pos hc] at h
                  exact ev_weak (pc := 231) [] rfl (sX11_advances_231 _ _ _ h p e s m args below meth c r0 A X)
                · rw [if_neg hc] at h
                  refine ev_iload_n (pc := 225) X 0 dX11_advances_225 rfl rfl ?_
                  refine ev_bipush (pc := 226) (v := (109 : Int32)) X dX11_advances_226 rfl ?_
                  refine ev_icmp_ne (pc := 228) X 235 dX11_advances_228 rfl (fun hc => ?_) (fun hc => ?_)
                  · rw [if_neg hc] at h
                    refine ev_iconst (pc := 235) (v := (4 : Int32)) X dX11_advances_235 rfl ?_
                    exact ev_weak (pc := 236) [] rfl (sX11_advances_236 _ _ _ _ h p e s m args below meth c r0 A X)
                  · rw [if_pos hc] at h
                    exact ev_weak (pc := 231) [] rfl (sX11_advances_231 _ _ _ h p e s m args below meth c r0 A X)
          · rw [if_pos hc] at h
            refine ev_iconst (pc := 203) (v := (3 : Int32)) X dX11_advances_203 rfl ?_
            refine ev_goto (pc := 204) X 236 dX11_advances_204 rfl ?_
            exact ev_weak (pc := 236) [] rfl (sX11_advances_236 _ _ _ _ h p e s m args below meth c r0 A X)
        · rw [if_neg hc] at h
          refine ev_aload_n (pc := 66) X 1 dX11_advances_66 rfl rfl ?_
          refine ev_iconst (pc := 67) (v := (0 : Int32)) X dX11_advances_67 rfl ?_
          obtain ⟨w14, hw14, h⟩ := eBi h
          refine ev_putI (pc := 68) X hcX11 (k := 7) (by decide) kfX11_74 rfl rfl dX11_advances_68 hw14 ?_
          exact ev_weak (pc := 71) [1, 0] rfl (sX11_advances_71 eN _ _ _ _ h p e s m args below meth c r0 A X)
      · rw [if_neg hc] at h
        refine ev_aload_n (pc := 47) X 1 dX11_advances_47 rfl rfl ?_
        refine ev_iconst (pc := 48) (v := (0 : Int32)) X dX11_advances_48 rfl ?_
        obtain ⟨w15, hw15, h⟩ := eBi h
        refine ev_putI (pc := 49) X hcX11 (k := 5) (by decide) kfX11_71 rfl rfl dX11_advances_49 hw15 ?_
        refine ev_goto (pc := 52) X 239 dX11_advances_52 rfl ?_
        obtain rfl := Option.some.inj h
        exact ev_vret (pc := 239) X dX11_advances_239
    · rw [if_pos hc] at h
      refine ev_aload_n (pc := 13) X 0 dX11_advances_13 rfl rfl ?_
      refine ev_dup (pc := 14) X dX11_advances_14 rfl ?_
      obtain ⟨v16, hv16, h⟩ := eBi h
      refine ev_getI (pc := 15) X hcX11 (k := 4) (by decide) kfX11_61 dX11_advances_15 hv16 ?_
      refine ev_iconst (pc := 18) (v := (1 : Int32)) X dX11_advances_18 rfl ?_
      refine ev_iadd (pc := 19) X dX11_advances_19 ?_
      obtain ⟨w17, hw17, h⟩ := eBi h
      refine ev_putI (pc := 20) X hcX11 (k := 4) (by decide) kfX11_61 rfl rfl dX11_advances_20 hw17 ?_
      refine ev_goto (pc := 23) X 0 dX11_advances_23 rfl ?_
      exact ev_weak (pc := 0) [0] rfl (ih _ _ _ h p e s m args below meth c r0 A X)
def fX11_advances (a0 : Nat) (w : eW) : Option (eW) := bif eO w a0 11 then fX11_advances_0 eN a0 w else none
theorem mX11_advances {a0 : Nat} {w : eW} {w' : eW} (h : fX11_advances a0 w = some w') : eO w a0 11 = true ∧ eMN l D cI cZ 1 yX11_advances cX11_advances 2 none [.ref a0] w none w' := by
  obtain ⟨h0, h⟩ := eBif h
  exact ⟨h0, eMN_of [(0, .ref a0)] (plainFor_of_name (by decide)) (fun _ => rfl) (fun _ => Nat.le_of_ble_eq_true rfl) (fun p e s m args below meth c r0 A X => ev_weak (pc := 0) [0] rfl (sX11_advances_0 eN _ _ _ h p e s m args below meth c r0 A X))⟩
theorem dX11_isWell_0 : decode cX11_isWell 0 = .ok (.aload_n 0, 1) := by decide +kernel
theorem dX11_isWell_1 : decode cX11_isWell 1 = .ok (.getfield 77, 3) := by decide +kernel
theorem dX11_isWell_4 : decode cX11_isWell 4 = .ok (.ifCond .ge 7, 3) := by decide +kernel
theorem dX11_isWell_7 : decode cX11_isWell 7 = .ok (.iconst 1, 1) := by decide +kernel
theorem dX11_isWell_8 : decode cX11_isWell 8 = .ok (.goto 4, 3) := by decide +kernel
theorem dX11_isWell_11 : decode cX11_isWell 11 = .ok (.iconst 0, 1) := by decide +kernel
theorem dX11_isWell_12 : decode cX11_isWell 12 = .ok (.ireturn, 1) := by decide +kernel
def fX11_isWell_0 (x0 : Nat) (w : eW) : Option (Int32 × eW) := (eGI w x0 11 8).bind fun v1 => if 0 ≤ v1 then ((eZ (0 : Int32)).bind fun v2 => some (v2, w)) else ((eZ (1 : Int32)).bind fun v3 => some (v3, w))
set_option maxRecDepth 20000 in
theorem sX11_isWell_0  (x0 : Nat) (w : eW) (r : Int32 × eW) (h : fX11_isWell_0 x0 w = some r) : eBN l D cI cZ 0 yX11_isWell cX11_isWell 1 (some .boolean) 0 [(0, .ref x0)] [] w (some (.int r.1)) r.2 := by
  rw [fX11_isWell_0] at h
  intro p e s m args below meth c r0 A X
  refine ev_aload_n (pc := 0) X 0 dX11_isWell_0 rfl rfl ?_
  obtain ⟨v1, hv1, h⟩ := eBi h
  refine ev_getI (pc := 1) X hcX11 (k := 8) (by decide) kfX11_77 dX11_isWell_1 hv1 ?_
  refine ev_if_ge (pc := 4) X 11 dX11_isWell_4 rfl (fun hc => ?_) (fun hc => ?_)
  · rw [if_pos hc] at h
    refine ev_iconst (pc := 11) (v := (0 : Int32)) X dX11_isWell_11 rfl ?_
    obtain ⟨v2, hv2, h⟩ := eBi h
    obtain rfl := Option.some.inj h
    exact ev_zret (pc := 12) X dX11_isWell_12 hv2
  · rw [if_neg hc] at h
    refine ev_iconst (pc := 7) (v := (1 : Int32)) X dX11_isWell_7 rfl ?_
    refine ev_goto (pc := 8) X 12 dX11_isWell_8 rfl ?_
    obtain ⟨v3, hv3, h⟩ := eBi h
    obtain rfl := Option.some.inj h
    exact ev_zret (pc := 12) X dX11_isWell_12 hv3
def fX11_isWell (a0 : Nat) (w : eW) : Option (Int32 × eW) := bif eO w a0 11 then fX11_isWell_0 a0 w else none
theorem mX11_isWell {a0 : Nat} {w : eW} {v : Int32} {w' : eW} (h : fX11_isWell a0 w = some (v, w')) : eO w a0 11 = true ∧ eMN l D cI cZ 0 yX11_isWell cX11_isWell 1 (some .boolean) [.ref a0] w (some (.int v)) w' := by
  obtain ⟨h0, h⟩ := eBif h
  exact ⟨h0, eMN_of [(0, .ref a0)] (plainFor_of_name (by decide)) (fun _ => rfl) (fun _ => Nat.le_of_ble_eq_true rfl) (fun p e s m args below meth c r0 A X => ev_weak (pc := 0) [0] rfl (sX11_isWell_0 _ _ _ h p e s m args below meth c r0 A X))⟩
theorem dX11_takes_0 : decode cX11_takes 0 = .ok (.aload_n 0, 1) := by decide +kernel
theorem dX11_takes_1 : decode cX11_takes 1 = .ok (.invokevirtual 80, 3) := by decide +kernel
theorem dX11_takes_4 : decode cX11_takes 4 = .ok (.ifCond .ne 5, 3) := by decide +kernel
theorem dX11_takes_7 : decode cX11_takes 7 = .ok (.iconst 0, 1) := by decide +kernel
theorem dX11_takes_8 : decode cX11_takes 8 = .ok (.ireturn, 1) := by decide +kernel
theorem dX11_takes_9 : decode cX11_takes 9 = .ok (.iload_n 1, 1) := by decide +kernel
theorem dX11_takes_10 : decode cX11_takes 10 = .ok (.ifCond .ne 13, 3) := by decide +kernel
theorem dX11_takes_13 : decode cX11_takes 13 = .ok (.aload_n 0, 1) := by decide +kernel
theorem dX11_takes_14 : decode cX11_takes 14 = .ok (.aload_n 0, 1) := by decide +kernel
theorem dX11_takes_15 : decode cX11_takes 15 = .ok (.getfield 68, 3) := by decide +kernel
theorem dX11_takes_18 : decode cX11_takes 18 = .ok (.putfield 77, 3) := by decide +kernel
theorem dX11_takes_21 : decode cX11_takes 21 = .ok (.iconst 0, 1) := by decide +kernel
theorem dX11_takes_22 : decode cX11_takes 22 = .ok (.ireturn, 1) := by decide +kernel
theorem dX11_takes_23 : decode cX11_takes 23 = .ok (.aload_n 0, 1) := by decide +kernel
theorem dX11_takes_24 : decode cX11_takes 24 = .ok (.getfield 74, 3) := by decide +kernel
theorem dX11_takes_27 : decode cX11_takes 27 = .ok (.istore_n 2, 1) := by decide +kernel
theorem dX11_takes_28 : decode cX11_takes 28 = .ok (.aload_n 0, 1) := by decide +kernel
theorem dX11_takes_29 : decode cX11_takes 29 = .ok (.invokevirtual 84, 3) := by decide +kernel
theorem dX11_takes_32 : decode cX11_takes 32 = .ok (.iload_n 2, 1) := by decide +kernel
theorem dX11_takes_33 : decode cX11_takes 33 = .ok (.ireturn, 1) := by decide +kernel
def fX11_takes_0 (x0 : Nat) (x1 : Int32) (w : eW) : Option (Int32 × eW) := eBind2 (fX11_isWell x0 w) fun v2 w1 => if v2 = 0 then (some ((0 : Int32), w1)) else (if x1 = 0 then ((eGI w1 x0 11 6).bind fun v5 => (eP w1 x0 11 8 (.int v5)).bind fun w6 => some ((0 : Int32), w6)) else ((eGI w1 x0 11 7).bind fun v3 => (fX11_advances x0 w1).bind fun w4 => some (v3, w4)))
set_option maxRecDepth 20000 in
theorem sX11_takes_0  (x0 : Nat) (x1 : Int32) (w : eW) (r : Int32 × eW) (h : fX11_takes_0 x0 x1 w = some r) : eBN l D cI cZ 2 yX11_takes cX11_takes 3 (some .int) 0 [(0, .ref x0), (1, .int x1)] [] w (some (.int r.1)) r.2 := by
  rw [fX11_takes_0] at h
  intro p e s m args below meth c r0 A X
  refine ev_aload_n (pc := 0) X 0 dX11_takes_0 rfl rfl ?_
  obtain ⟨v2, w1, hc, h⟩ := eB2 h
  refine ev_callV_i (pc := 1) (As := []) (S := []) X hwX11_isWell klX11_80 hiX11_isWell hsX11_isWell (ci := 11) ⟨rfl, rfl⟩ ⟨Nat.le_of_ble_eq_true rfl, Nat.le_of_ble_eq_true rfl⟩ ⟨Nat.le_refl _, Nat.le_refl _⟩ rfl (Nat.le_of_ble_eq_true rfl) dX11_takes_1 rfl (mX11_isWell (l := l) (D := D) (cI := cI) (cZ := cZ) hc).1 (mX11_isWell hc).2 ?_
  refine ev_if_ne (pc := 4) X 9 dX11_takes_4 rfl (fun hc => ?_) (fun hc => ?_)
  · rw [if_neg hc] at h
    refine ev_iload_n (pc := 9) X 1 dX11_takes_9 rfl rfl ?_
    refine ev_if_ne (pc := 10) X 23 dX11_takes_10 rfl (fun hc => ?_) (fun hc => ?_)
    · rw [if_neg hc] at h
      refine ev_aload_n (pc := 23) X 0 dX11_takes_23 rfl rfl ?_
      obtain ⟨v3, hv3, h⟩ := eBi h
      refine ev_getI (pc := 24) X hcX11 (k := 7) (by decide) kfX11_74 dX11_takes_24 hv3 ?_
      refine ev_istore_n (pc := 27) (L' := [(2, .int v3), (0, .ref x0), (1, .int x1)]) X dX11_takes_27 rfl (by decide) rfl ?_
      refine ev_aload_n (pc := 28) X 1 dX11_takes_28 rfl rfl ?_
      obtain ⟨w4, hc, h⟩ := eBi h
      refine ev_callV_v (pc := 29) (As := []) (S := []) X hwX11_advances klX11_84 hiX11_advances hsX11_advances (ci := 11) ⟨rfl, rfl⟩ ⟨Nat.le_of_ble_eq_true rfl, Nat.le_of_ble_eq_true rfl⟩ ⟨Nat.le_refl _, Nat.le_refl _⟩ rfl (Nat.le_of_ble_eq_true rfl) dX11_takes_29 rfl (mX11_advances (l := l) (D := D) (cI := cI) (cZ := cZ) hc).1 (mX11_advances hc).2 ?_
      refine ev_iload_n (pc := 32) X 0 dX11_takes_32 rfl rfl ?_
      obtain rfl := Option.some.inj h
      exact ev_iret (pc := 33) X dX11_takes_33
    · rw [if_pos hc] at h
      refine ev_aload_n (pc := 13) X 0 dX11_takes_13 rfl rfl ?_
      refine ev_aload_n (pc := 14) X 0 dX11_takes_14 rfl rfl ?_
      obtain ⟨v5, hv5, h⟩ := eBi h
      refine ev_getI (pc := 15) X hcX11 (k := 6) (by decide) kfX11_68 dX11_takes_15 hv5 ?_
      obtain ⟨w6, hw6, h⟩ := eBi h
      refine ev_putI (pc := 18) X hcX11 (k := 8) (by decide) kfX11_77 rfl rfl dX11_takes_18 hw6 ?_
      refine ev_iconst (pc := 21) (v := (0 : Int32)) X dX11_takes_21 rfl ?_
      obtain rfl := Option.some.inj h
      exact ev_iret (pc := 22) X dX11_takes_22
  · rw [if_pos hc] at h
    refine ev_iconst (pc := 7) (v := (0 : Int32)) X dX11_takes_7 rfl ?_
    obtain rfl := Option.some.inj h
    exact ev_iret (pc := 8) X dX11_takes_8
def fX11_takes (a0 : Nat) (a1 : Int32) (w : eW) : Option (Int32 × eW) := bif eO w a0 11 then fX11_takes_0 a0 a1 w else none
theorem mX11_takes {a0 : Nat} {a1 : Int32} {w : eW} {v : Int32} {w' : eW} (h : fX11_takes a0 a1 w = some (v, w')) : eO w a0 11 = true ∧ eMN l D cI cZ 2 yX11_takes cX11_takes 3 (some .int) [.ref a0, .int a1] w (some (.int v)) w' := by
  obtain ⟨h0, h⟩ := eBif h
  exact ⟨h0, eMN_of [(0, .ref a0), (1, .int a1)] (plainFor_of_name (by decide)) (fun _ => rfl) (fun _ => Nat.le_of_ble_eq_true rfl) (fun p e s m args below meth c r0 A X => ev_weak (pc := 0) [0, 1] rfl (sX11_takes_0 _ _ _ _ h p e s m args below meth c r0 A X))⟩
theorem dX11_number_0 : decode cX11_number 0 = .ok (.aload_n 0, 1) := by decide +kernel
theorem dX11_number_1 : decode cX11_number 1 = .ok (.aload_n 0, 1) := by decide +kernel
theorem dX11_number_2 : decode cX11_number 2 = .ok (.getfield 71, 3) := by decide +kernel
theorem dX11_number_5 : decode cX11_number 5 = .ok (.iconst 2, 1) := by decide +kernel
theorem dX11_number_6 : decode cX11_number 6 = .ok (.if_icmp .ne 19, 3) := by decide +kernel
theorem dX11_number_9 : decode cX11_number 9 = .ok (.aload_n 0, 1) := by decide +kernel
theorem dX11_number_10 : decode cX11_number 10 = .ok (.getfield 74, 3) := by decide +kernel
theorem dX11_number_13 : decode cX11_number 13 = .ok (.iload_n 1, 1) := by decide +kernel
theorem dX11_number_14 : decode cX11_number 14 = .ok (.iload_n 2, 1) := by decide +kernel
theorem dX11_number_15 : decode cX11_number 15 = .ok (.invokestatic 54, 3) := by decide +kernel
theorem dX11_number_18 : decode cX11_number 18 = .ok (.ifCond .eq 7, 3) := by decide +kernel
theorem dX11_number_21 : decode cX11_number 21 = .ok (.iconst 1, 1) := by decide +kernel
theorem dX11_number_22 : decode cX11_number 22 = .ok (.goto 4, 3) := by decide +kernel
theorem dX11_number_25 : decode cX11_number 25 = .ok (.iconst 0, 1) := by decide +kernel
theorem dX11_number_26 : decode cX11_number 26 = .ok (.invokevirtual 87, 3) := by decide +kernel
theorem dX11_number_29 : decode cX11_number 29 = .ok (.ireturn, 1) := by decide +kernel
def fX11_number_26 (t0 : Nat) (t1 : Int32) (w : eW) : Option (Int32 × eW) := eBind2 (fX11_takes t0 t1 w) fun v2 w1 => some (v2, w1)
set_option maxRecDepth 20000 in
theorem sX11_number_26  (t0 : Nat) (t1 : Int32) (w : eW) (r : Int32 × eW) (h : fX11_number_26 t0 t1 w = some r) : eBN l D cI cZ 3 yX11_number cX11_number 3 (some .int) 26 [] [.int t1, .ref t0] w (some (.int r.1)) r.2 := by
  rw [fX11_number_26] at h
  intro p e s m args below meth c r0 A X
  obtain ⟨v2, w1, hc, h⟩ := eB2 h
  refine ev_callV_i (pc := 26) (As := [.int t1]) (S := []) X hwX11_takes klX11_87 hiX11_takes hsX11_takes (ci := 11) ⟨rfl, rfl⟩ ⟨Nat.le_of_ble_eq_true rfl, Nat.le_of_ble_eq_true rfl⟩ ⟨Nat.le_refl _, Nat.le_refl _⟩ rfl (Nat.le_of_ble_eq_true rfl) dX11_number_26 rfl (mX11_takes (l := l) (D := D) (cI := cI) (cZ := cZ) hc).1 (mX11_takes hc).2 ?_
  obtain rfl := Option.some.inj h
  exact ev_iret (pc := 29) X dX11_number_29
def fX11_number_25 (t0 : Nat) (w : eW) : Option (Int32 × eW) := fX11_number_26 t0 (0 : Int32) w
set_option maxRecDepth 20000 in
theorem sX11_number_25  (t0 : Nat) (w : eW) (r : Int32 × eW) (h : fX11_number_25 t0 w = some r) : eBN l D cI cZ 3 yX11_number cX11_number 3 (some .int) 25 [] [.ref t0] w (some (.int r.1)) r.2 := by
  rw [fX11_number_25] at h
  intro p e s m args below meth c r0 A X
  refine ev_iconst (pc := 25) (v := (0 : Int32)) X dX11_number_25 rfl ?_
  exact ev_weak (pc := 26) [] rfl (sX11_number_26 _ _ _ _ h p e s m args below meth c r0 A X)
def fX11_number_0 (x0 : Nat) (x1 : Int32) (x2 : Int32) (w : eW) : Option (Int32 × eW) := (eGI w x0 11 5).bind fun v1 => if v1 = (2 : Int32) then ((eGI w x0 11 7).bind fun v2 => eBind2 (fX11_in v2 x1 x2 w) fun v4 w3 => if v4 = 0 then (fX11_number_25 x0 w3) else (fX11_number_26 x0 (1 : Int32) w3)) else (fX11_number_25 x0 w)
set_option maxRecDepth 20000 in
theorem sX11_number_0  (x0 : Nat) (x1 : Int32) (x2 : Int32) (w : eW) (r : Int32 × eW) (h : fX11_number_0 x0 x1 x2 w = some r) : eBN l D cI cZ 3 yX11_number cX11_number 3 (some .int) 0 [(0, .ref x0), (1, .int x1), (2, .int x2)] [] w (some (.int r.1)) r.2 := by
  rw [fX11_number_0] at h
  intro p e s m args below meth c r0 A X
  refine ev_aload_n (pc := 0) X 0 dX11_number_0 rfl rfl ?_
  refine ev_aload_n (pc := 1) X 0 dX11_number_1 rfl rfl ?_
  obtain ⟨v1, hv1, h⟩ := eBi h
  refine ev_getI (pc := 2) X hcX11 (k := 5) (by decide) kfX11_71 dX11_number_2 hv1 ?_
  refine ev_iconst (pc := 5) (v := (2 : Int32)) X dX11_number_5 rfl ?_
  refine ev_icmp_ne (pc := 6) X 25 dX11_number_6 rfl (fun hc => ?_) (fun hc => ?_)
  · rw [if_neg hc] at h
    exact ev_weak (pc := 25) [] rfl (sX11_number_25 _ _ _ h p e s m args below meth c r0 A X)
  · rw [if_pos hc] at h
    refine ev_aload_n (pc := 9) X 0 dX11_number_9 rfl rfl ?_
    obtain ⟨v2, hv2, h⟩ := eBi h
    refine ev_getI (pc := 10) X hcX11 (k := 7) (by decide) kfX11_74 dX11_number_10 hv2 ?_
    refine ev_iload_n (pc := 13) X 1 dX11_number_13 rfl rfl ?_
    refine ev_iload_n (pc := 14) X 2 dX11_number_14 rfl rfl ?_
    obtain ⟨v4, w3, hc, h⟩ := eB2 h
    refine ev_callS_i (pc := 15) (As := [.int v2, .int x1, .int x2]) (S := [.ref x0]) X hwX11_in klX11_54 htX11_in ⟨Nat.le_of_ble_eq_true rfl, Nat.le_of_ble_eq_true rfl⟩ ⟨Nat.le_refl _, Nat.le_refl _⟩ rfl (Nat.le_of_ble_eq_true rfl) dX11_number_15 rfl (mX11_in hc) ?_
    refine ev_if_eq (pc := 18) X 25 dX11_number_18 rfl (fun hc => ?_) (fun hc => ?_)
    · rw [if_pos hc] at h
      exact ev_weak (pc := 25) [] rfl (sX11_number_25 _ _ _ h p e s m args below meth c r0 A X)
    · rw [if_neg hc] at h
      refine ev_iconst (pc := 21) (v := (1 : Int32)) X dX11_number_21 rfl ?_
      refine ev_goto (pc := 22) X 26 dX11_number_22 rfl ?_
      exact ev_weak (pc := 26) [] rfl (sX11_number_26 _ _ _ _ h p e s m args below meth c r0 A X)
def fX11_number (a0 : Nat) (a1 : Int32) (a2 : Int32) (w : eW) : Option (Int32 × eW) := bif eO w a0 11 then fX11_number_0 a0 a1 a2 w else none
theorem mX11_number {a0 : Nat} {a1 : Int32} {a2 : Int32} {w : eW} {v : Int32} {w' : eW} (h : fX11_number a0 a1 a2 w = some (v, w')) : eO w a0 11 = true ∧ eMN l D cI cZ 3 yX11_number cX11_number 3 (some .int) [.ref a0, .int a1, .int a2] w (some (.int v)) w' := by
  obtain ⟨h0, h⟩ := eBif h
  exact ⟨h0, eMN_of [(0, .ref a0), (1, .int a1), (2, .int a2)] (plainFor_of_name (by decide)) (fun _ => rfl) (fun _ => Nat.le_of_ble_eq_true rfl) (fun p e s m args below meth c r0 A X => ev_weak (pc := 0) [0, 1, 2] rfl (sX11_number_0 _ _ _ _ _ h p e s m args below meth c r0 A X))⟩
theorem dX11_isTaken_0 : decode cX11_isTaken 0 = .ok (.iconst 0, 1) := by decide +kernel
theorem dX11_isTaken_1 : decode cX11_isTaken 1 = .ok (.istore_n 2, 1) := by decide +kernel
theorem dX11_isTaken_2 : decode cX11_isTaken 2 = .ok (.iconst 0, 1) := by decide +kernel
theorem dX11_isTaken_3 : decode cX11_isTaken 3 = .ok (.istore_n 3, 1) := by decide +kernel
theorem dX11_isTaken_4 : decode cX11_isTaken 4 = .ok (.iload_n 3, 1) := by decide +kernel
theorem dX11_isTaken_5 : decode cX11_isTaken 5 = .ok (.aload_n 0, 1) := by decide +kernel
theorem dX11_isTaken_6 : decode cX11_isTaken 6 = .ok (.getfield 13, 3) := by decide +kernel
theorem dX11_isTaken_9 : decode cX11_isTaken 9 = .ok (.bipush 6, 2) := by decide +kernel
theorem dX11_isTaken_11 : decode cX11_isTaken 11 = .ok (.iaload, 1) := by decide +kernel
theorem dX11_isTaken_12 : decode cX11_isTaken 12 = .ok (.if_icmp .ge 31, 3) := by decide +kernel
theorem dX11_isTaken_15 : decode cX11_isTaken 15 = .ok (.iload_n 2, 1) := by decide +kernel
theorem dX11_isTaken_16 : decode cX11_isTaken 16 = .ok (.ifCond .ne 15, 3) := by decide +kernel
theorem dX11_isTaken_19 : decode cX11_isTaken 19 = .ok (.aload_n 0, 1) := by decide +kernel
theorem dX11_isTaken_20 : decode cX11_isTaken 20 = .ok (.getfield 19, 3) := by decide +kernel
theorem dX11_isTaken_23 : decode cX11_isTaken 23 = .ok (.iconst 4, 1) := by decide +kernel
theorem dX11_isTaken_24 : decode cX11_isTaken 24 = .ok (.iload_n 3, 1) := by decide +kernel
theorem dX11_isTaken_25 : decode cX11_isTaken 25 = .ok (.iadd, 1) := by decide +kernel
theorem dX11_isTaken_26 : decode cX11_isTaken 26 = .ok (.iaload, 1) := by decide +kernel
theorem dX11_isTaken_27 : decode cX11_isTaken 27 = .ok (.iload_n 1, 1) := by decide +kernel
theorem dX11_isTaken_28 : decode cX11_isTaken 28 = .ok (.if_icmp .ne 7, 3) := by decide +kernel
theorem dX11_isTaken_31 : decode cX11_isTaken 31 = .ok (.iconst 1, 1) := by decide +kernel
theorem dX11_isTaken_32 : decode cX11_isTaken 32 = .ok (.goto 4, 3) := by decide +kernel
theorem dX11_isTaken_35 : decode cX11_isTaken 35 = .ok (.iconst 0, 1) := by decide +kernel
theorem dX11_isTaken_36 : decode cX11_isTaken 36 = .ok (.istore_n 2, 1) := by decide +kernel
theorem dX11_isTaken_37 : decode cX11_isTaken 37 = .ok (.iinc 3 1, 3) := by decide +kernel
theorem dX11_isTaken_40 : decode cX11_isTaken 40 = .ok (.goto (-36), 3) := by decide +kernel
theorem dX11_isTaken_43 : decode cX11_isTaken 43 = .ok (.iload_n 2, 1) := by decide +kernel
theorem dX11_isTaken_44 : decode cX11_isTaken 44 = .ok (.ireturn, 1) := by decide +kernel
def fX11_isTaken_36 (K4 : Nat → Int32 → Int32 → Int32 → eW → Option (Int32 × eW)) (x0 : Nat) (x1 : Int32) (x3 : Int32) (t0 : Int32) (w : eW) : Option (Int32 × eW) := K4 x0 x1 t0 (x3 + (1 : Int32)) w
set_option maxRecDepth 20000 in
theorem sX11_isTaken_36 {K4 : Nat → Int32 → Int32 → Int32 → eW → Option (Int32 × eW)} (hK4 : ∀ (x0 : Nat) (x1 : Int32) (x2 : Int32) (x3 : Int32) (w : eW) (r : Int32 × eW), K4 x0 x1 x2 x3 w = some r → eBN l D cI cZ 0 yX11_isTaken cX11_isTaken 4 (some .boolean) 4 [(0, .ref x0), (1, .int x1), (2, .int x2), (3, .int x3)] [] w (some (.int r.1)) r.2) (x0 : Nat) (x1 : Int32) (x3 : Int32) (t0 : Int32) (w : eW) (r : Int32 × eW) (h : fX11_isTaken_36 K4 x0 x1 x3 t0 w = some r) : eBN l D cI cZ 0 yX11_isTaken cX11_isTaken 4 (some .boolean) 36 [(0, .ref x0), (1, .int x1), (3, .int x3)] [.int t0] w (some (.int r.1)) r.2 := by
  rw [fX11_isTaken_36] at h
  intro p e s m args below meth c r0 A X
  refine ev_istore_n (pc := 36) (L' := [(2, .int t0), (0, .ref x0), (1, .int x1), (3, .int x3)]) X dX11_isTaken_36 rfl (by decide) rfl ?_
  refine ev_iinc (pc := 37) (v := x3 + (1 : Int32)) (L' := [(3, .int (x3 + (1 : Int32))), (2, .int t0), (0, .ref x0), (1, .int x1)]) X 3 dX11_isTaken_37 rfl rfl (by decide) rfl ?_
  refine ev_goto (pc := 40) X 4 dX11_isTaken_40 rfl ?_
  exact ev_weak (pc := 4) [2, 3, 1, 0] rfl (hK4 _ _ _ _ _ _ h p e s m args below meth c r0 A X)
def fX11_isTaken_31 (K4 : Nat → Int32 → Int32 → Int32 → eW → Option (Int32 × eW)) (x0 : Nat) (x1 : Int32) (x3 : Int32) (w : eW) : Option (Int32 × eW) := fX11_isTaken_36 K4 x0 x1 x3 (1 : Int32) w
set_option maxRecDepth 20000 in
theorem sX11_isTaken_31 {K4 : Nat → Int32 → Int32 → Int32 → eW → Option (Int32 × eW)} (hK4 : ∀ (x0 : Nat) (x1 : Int32) (x2 : Int32) (x3 : Int32) (w : eW) (r : Int32 × eW), K4 x0 x1 x2 x3 w = some r → eBN l D cI cZ 0 yX11_isTaken cX11_isTaken 4 (some .boolean) 4 [(0, .ref x0), (1, .int x1), (2, .int x2), (3, .int x3)] [] w (some (.int r.1)) r.2) (x0 : Nat) (x1 : Int32) (x3 : Int32) (w : eW) (r : Int32 × eW) (h : fX11_isTaken_31 K4 x0 x1 x3 w = some r) : eBN l D cI cZ 0 yX11_isTaken cX11_isTaken 4 (some .boolean) 31 [(0, .ref x0), (1, .int x1), (3, .int x3)] [] w (some (.int r.1)) r.2 := by
  rw [fX11_isTaken_31] at h
  intro p e s m args below meth c r0 A X
  refine ev_iconst (pc := 31) (v := (1 : Int32)) X dX11_isTaken_31 rfl ?_
  refine ev_goto (pc := 32) X 36 dX11_isTaken_32 rfl ?_
  exact ev_weak (pc := 36) [0, 1, 2] rfl (sX11_isTaken_36 hK4 _ _ _ _ _ _ h p e s m args below meth c r0 A X)
def fX11_isTaken_4 : Nat → Nat → Int32 → Int32 → Int32 → eW → Option (Int32 × eW)
  | 0, _, _, _, _, _ => none
  | n + 1, x0, x1, x2, x3, w => (eGR w x0 11 9).bind fun v1 => (eLd w false v1 (6 : Int32)).bind fun v2 => if v2 ≤ x3 then ((eZ x2).bind fun v3 => some (v3, w)) else (if x2 = 0 then ((eGR w x0 11 11).bind fun v4 => (eLd w false v4 ((4 : Int32) + x3)).bind fun v5 => if v5 = x1 then (fX11_isTaken_31 (fX11_isTaken_4 n) x0 x1 x3 w) else (fX11_isTaken_36 (fX11_isTaken_4 n) x0 x1 x3 (0 : Int32) w)) else (fX11_isTaken_31 (fX11_isTaken_4 n) x0 x1 x3 w))
set_option maxRecDepth 20000 in
theorem sX11_isTaken_4  : ∀ (n : Nat) (x0 : Nat) (x1 : Int32) (x2 : Int32) (x3 : Int32) (w : eW) (r : Int32 × eW), fX11_isTaken_4 n x0 x1 x2 x3 w = some r → eBN l D cI cZ 0 yX11_isTaken cX11_isTaken 4 (some .boolean) 4 [(0, .ref x0), (1, .int x1), (2, .int x2), (3, .int x3)] [] w (some (.int r.1)) r.2 := by
  intro n
  induction n with
  | zero => intro x0 x1 x2 x3 w r h; exact absurd (show (none : Option (Int32 × eW)) = some r from h) (by simp)
  | succ n ih =>
    intro x0 x1 x2 x3 w r h
    rw [fX11_isTaken_4] at h
    intro p e s m args below meth c r0 A X
    refine ev_iload_n (pc := 4) X 3 dX11_isTaken_4 rfl rfl ?_
    refine ev_aload_n (pc := 5) X 0 dX11_isTaken_5 rfl rfl ?_
    obtain ⟨v1, hv1, h⟩ := eBi h
    refine ev_getR (pc := 6) X hcX11 (k := 9) (by decide) kfX11_13 dX11_isTaken_6 hv1 ?_
    refine ev_bipush (pc := 9) (v := (6 : Int32)) X dX11_isTaken_9 rfl ?_
    obtain ⟨v2, hv2, h⟩ := eBi h
    refine ev_iald (pc := 11) X dX11_isTaken_11 hv2 ?_
    refine ev_icmp_ge (pc := 12) X 43 dX11_isTaken_12 rfl (fun hc => ?_) (fun hc => ?_)
    · rw [if_pos hc] at h
      refine ev_iload_n (pc := 43) X 2 dX11_isTaken_43 rfl rfl ?_
      obtain ⟨v3, hv3, h⟩ := eBi h
      obtain rfl := Option.some.inj h
      exact ev_zret (pc := 44) X dX11_isTaken_44 hv3
    · rw [if_neg hc] at h
      refine ev_iload_n (pc := 15) X 2 dX11_isTaken_15 rfl rfl ?_
      refine ev_if_ne (pc := 16) X 31 dX11_isTaken_16 rfl (fun hc => ?_) (fun hc => ?_)
      · rw [if_neg hc] at h
        exact ev_weak (pc := 31) [0, 1, 3] rfl (sX11_isTaken_31 (fun _ _ _ _ w r hh => ih _ _ _ _ w r hh) _ _ _ _ _ h p e s m args below meth c r0 A X)
      · rw [if_pos hc] at h
        refine ev_aload_n (pc := 19) X 0 dX11_isTaken_19 rfl rfl ?_
        obtain ⟨v4, hv4, h⟩ := eBi h
        refine ev_getR (pc := 20) X hcX11 (k := 11) (by decide) kfX11_19 dX11_isTaken_20 hv4 ?_
        refine ev_iconst (pc := 23) (v := (4 : Int32)) X dX11_isTaken_23 rfl ?_
        refine ev_iload_n (pc := 24) X 3 dX11_isTaken_24 rfl rfl ?_
        refine ev_iadd (pc := 25) X dX11_isTaken_25 ?_
        obtain ⟨v5, hv5, h⟩ := eBi h
        refine ev_iald (pc := 26) X dX11_isTaken_26 hv5 ?_
        refine ev_iload_n (pc := 27) X 1 dX11_isTaken_27 rfl rfl ?_
        refine ev_icmp_ne (pc := 28) X 35 dX11_isTaken_28 rfl (fun hc => ?_) (fun hc => ?_)
        · rw [if_neg hc] at h
          refine ev_iconst (pc := 35) (v := (0 : Int32)) X dX11_isTaken_35 rfl ?_
          exact ev_weak (pc := 36) [0, 1, 3] rfl (sX11_isTaken_36 (fun _ _ _ _ w r hh => ih _ _ _ _ w r hh) _ _ _ _ _ _ h p e s m args below meth c r0 A X)
        · rw [if_pos hc] at h
          exact ev_weak (pc := 31) [0, 1, 3] rfl (sX11_isTaken_31 (fun _ _ _ _ w r hh => ih _ _ _ _ w r hh) _ _ _ _ _ h p e s m args below meth c r0 A X)
def fX11_isTaken_0 (x0 : Nat) (x1 : Int32) (w : eW) : Option (Int32 × eW) := fX11_isTaken_4 eN x0 x1 (0 : Int32) (0 : Int32) w
set_option maxRecDepth 20000 in
theorem sX11_isTaken_0  (x0 : Nat) (x1 : Int32) (w : eW) (r : Int32 × eW) (h : fX11_isTaken_0 x0 x1 w = some r) : eBN l D cI cZ 0 yX11_isTaken cX11_isTaken 4 (some .boolean) 0 [(0, .ref x0), (1, .int x1)] [] w (some (.int r.1)) r.2 := by
  rw [fX11_isTaken_0] at h
  intro p e s m args below meth c r0 A X
  refine ev_iconst (pc := 0) (v := (0 : Int32)) X dX11_isTaken_0 rfl ?_
  refine ev_istore_n (pc := 1) (L' := [(2, .int (0 : Int32)), (0, .ref x0), (1, .int x1)]) X dX11_isTaken_1 rfl (by decide) rfl ?_
  refine ev_iconst (pc := 2) (v := (0 : Int32)) X dX11_isTaken_2 rfl ?_
  refine ev_istore_n (pc := 3) (L' := [(3, .int (0 : Int32)), (2, .int (0 : Int32)), (0, .ref x0), (1, .int x1)]) X dX11_isTaken_3 rfl (by decide) rfl ?_
  exact ev_weak (pc := 4) [2, 3, 1, 0] rfl (sX11_isTaken_4 eN _ _ _ _ _ _ h p e s m args below meth c r0 A X)
def fX11_isTaken (a0 : Nat) (a1 : Int32) (w : eW) : Option (Int32 × eW) := bif eO w a0 11 then fX11_isTaken_0 a0 a1 w else none
theorem mX11_isTaken {a0 : Nat} {a1 : Int32} {w : eW} {v : Int32} {w' : eW} (h : fX11_isTaken a0 a1 w = some (v, w')) : eO w a0 11 = true ∧ eMN l D cI cZ 0 yX11_isTaken cX11_isTaken 4 (some .boolean) [.ref a0, .int a1] w (some (.int v)) w' := by
  obtain ⟨h0, h⟩ := eBif h
  exact ⟨h0, eMN_of [(0, .ref a0), (1, .int a1)] (plainFor_of_name (by decide)) (fun _ => rfl) (fun _ => Nat.le_of_ble_eq_true rfl) (fun p e s m args below meth c r0 A X => ev_weak (pc := 0) [0, 1] rfl (sX11_isTaken_0 _ _ _ _ h p e s m args below meth c r0 A X))⟩
theorem dX11_mayBegin_0 : decode cX11_mayBegin 0 = .ok (.aload_n 0, 1) := by decide +kernel
theorem dX11_mayBegin_1 : decode cX11_mayBegin 1 = .ok (.getfield 74, 3) := by decide +kernel
theorem dX11_mayBegin_4 : decode cX11_mayBegin 4 = .ok (.bipush 103, 2) := by decide +kernel
theorem dX11_mayBegin_6 : decode cX11_mayBegin 6 = .ok (.if_icmp .ne 15, 3) := by decide +kernel
theorem dX11_mayBegin_9 : decode cX11_mayBegin 9 = .ok (.iload_n 1, 1) := by decide +kernel
theorem dX11_mayBegin_10 : decode cX11_mayBegin 10 = .ok (.ifCond .ne 7, 3) := by decide +kernel
theorem dX11_mayBegin_13 : decode cX11_mayBegin 13 = .ok (.iconst 1, 1) := by decide +kernel
theorem dX11_mayBegin_14 : decode cX11_mayBegin 14 = .ok (.goto 56, 3) := by decide +kernel
theorem dX11_mayBegin_17 : decode cX11_mayBegin 17 = .ok (.iconst 0, 1) := by decide +kernel
theorem dX11_mayBegin_18 : decode cX11_mayBegin 18 = .ok (.goto 52, 3) := by decide +kernel
theorem dX11_mayBegin_21 : decode cX11_mayBegin 21 = .ok (.aload_n 0, 1) := by decide +kernel
theorem dX11_mayBegin_22 : decode cX11_mayBegin 22 = .ok (.getfield 74, 3) := by decide +kernel
theorem dX11_mayBegin_25 : decode cX11_mayBegin 25 = .ok (.bipush 109, 2) := by decide +kernel
theorem dX11_mayBegin_27 : decode cX11_mayBegin 27 = .ok (.if_icmp .ne 18, 3) := by decide +kernel
theorem dX11_mayBegin_30 : decode cX11_mayBegin 30 = .ok (.aload_n 0, 1) := by decide +kernel
theorem dX11_mayBegin_31 : decode cX11_mayBegin 31 = .ok (.getfield 91, 3) := by decide +kernel
theorem dX11_mayBegin_34 : decode cX11_mayBegin 34 = .ok (.ifCond .ne 7, 3) := by decide +kernel
theorem dX11_mayBegin_37 : decode cX11_mayBegin 37 = .ok (.iconst 1, 1) := by decide +kernel
theorem dX11_mayBegin_38 : decode cX11_mayBegin 38 = .ok (.goto 32, 3) := by decide +kernel
theorem dX11_mayBegin_41 : decode cX11_mayBegin 41 = .ok (.iconst 0, 1) := by decide +kernel
theorem dX11_mayBegin_42 : decode cX11_mayBegin 42 = .ok (.goto 28, 3) := by decide +kernel
theorem dX11_mayBegin_45 : decode cX11_mayBegin 45 = .ok (.aload_n 0, 1) := by decide +kernel
theorem dX11_mayBegin_46 : decode cX11_mayBegin 46 = .ok (.getfield 74, 3) := by decide +kernel
theorem dX11_mayBegin_49 : decode cX11_mayBegin 49 = .ok (.bipush 116, 2) := by decide +kernel
theorem dX11_mayBegin_51 : decode cX11_mayBegin 51 = .ok (.if_icmp .ne 14, 3) := by decide +kernel
theorem dX11_mayBegin_54 : decode cX11_mayBegin 54 = .ok (.aload_n 0, 1) := by decide +kernel
theorem dX11_mayBegin_55 : decode cX11_mayBegin 55 = .ok (.getfield 13, 3) := by decide +kernel
theorem dX11_mayBegin_58 : decode cX11_mayBegin 58 = .ok (.bipush 6, 2) := by decide +kernel
theorem dX11_mayBegin_60 : decode cX11_mayBegin 60 = .ok (.iaload, 1) := by decide +kernel
theorem dX11_mayBegin_61 : decode cX11_mayBegin 61 = .ok (.iconst 4, 1) := by decide +kernel
theorem dX11_mayBegin_62 : decode cX11_mayBegin 62 = .ok (.if_icmp .ge 7, 3) := by decide +kernel
theorem dX11_mayBegin_65 : decode cX11_mayBegin 65 = .ok (.iconst 1, 1) := by decide +kernel
theorem dX11_mayBegin_66 : decode cX11_mayBegin 66 = .ok (.goto 4, 3) := by decide +kernel
theorem dX11_mayBegin_69 : decode cX11_mayBegin 69 = .ok (.iconst 0, 1) := by decide +kernel
theorem dX11_mayBegin_70 : decode cX11_mayBegin 70 = .ok (.ireturn, 1) := by decide +kernel
def fX11_mayBegin_65  (w : eW) : Option (Int32 × eW) := (eZ (1 : Int32)).bind fun v1 => some (v1, w)
set_option maxRecDepth 20000 in
theorem sX11_mayBegin_65   (w : eW) (r : Int32 × eW) (h : fX11_mayBegin_65  w = some r) : eBN l D cI cZ 0 yX11_mayBegin cX11_mayBegin 2 (some .boolean) 65 [] [] w (some (.int r.1)) r.2 := by
  rw [fX11_mayBegin_65] at h
  intro p e s m args below meth c r0 A X
  refine ev_iconst (pc := 65) (v := (1 : Int32)) X dX11_mayBegin_65 rfl ?_
  refine ev_goto (pc := 66) X 70 dX11_mayBegin_66 rfl ?_
  obtain ⟨v1, hv1, h⟩ := eBi h
  obtain rfl := Option.some.inj h
  exact ev_zret (pc := 70) X dX11_mayBegin_70 hv1
def fX11_mayBegin_0 (x0 : Nat) (x1 : Int32) (w : eW) : Option (Int32 × eW) := (eGI w x0 11 7).bind fun v1 => if v1 = (103 : Int32) then (if x1 = 0 then ((eZ (1 : Int32)).bind fun v11 => some (v11, w)) else ((eZ (0 : Int32)).bind fun v10 => some (v10, w))) else ((eGI w x0 11 7).bind fun v2 => if v2 = (109 : Int32) then ((eGI w x0 11 12).bind fun v7 => if v7 = 0 then ((eZ (1 : Int32)).bind fun v9 => some (v9, w)) else ((eZ (0 : Int32)).bind fun v8 => some (v8, w))) else ((eGI w x0 11 7).bind fun v3 => if v3 = (116 : Int32) then ((eGR w x0 11 9).bind fun v4 => (eLd w false v4 (6 : Int32)).bind fun v5 => if (4 : Int32) ≤ v5 then ((eZ (0 : Int32)).bind fun v6 => some (v6, w)) else (fX11_mayBegin_65 w)) else (fX11_mayBegin_65 w)))
set_option maxRecDepth 20000 in
theorem sX11_mayBegin_0  (x0 : Nat) (x1 : Int32) (w : eW) (r : Int32 × eW) (h : fX11_mayBegin_0 x0 x1 w = some r) : eBN l D cI cZ 0 yX11_mayBegin cX11_mayBegin 2 (some .boolean) 0 [(0, .ref x0), (1, .int x1)] [] w (some (.int r.1)) r.2 := by
  rw [fX11_mayBegin_0] at h
  intro p e s m args below meth c r0 A X
  refine ev_aload_n (pc := 0) X 0 dX11_mayBegin_0 rfl rfl ?_
  obtain ⟨v1, hv1, h⟩ := eBi h
  refine ev_getI (pc := 1) X hcX11 (k := 7) (by decide) kfX11_74 dX11_mayBegin_1 hv1 ?_
  refine ev_bipush (pc := 4) (v := (103 : Int32)) X dX11_mayBegin_4 rfl ?_
  refine ev_icmp_ne (pc := 6) X 21 dX11_mayBegin_6 rfl (fun hc => ?_) (fun hc => ?_)
  · rw [if_neg hc] at h
    refine ev_aload_n (pc := 21) X 0 dX11_mayBegin_21 rfl rfl ?_
    obtain ⟨v2, hv2, h⟩ := eBi h
    refine ev_getI (pc := 22) X hcX11 (k := 7) (by decide) kfX11_74 dX11_mayBegin_22 hv2 ?_
    refine ev_bipush (pc := 25) (v := (109 : Int32)) X dX11_mayBegin_25 rfl ?_
    refine ev_icmp_ne (pc := 27) X 45 dX11_mayBegin_27 rfl (fun hc => ?_) (fun hc => ?_)
    · rw [if_neg hc] at h
      refine ev_aload_n (pc := 45) X 0 dX11_mayBegin_45 rfl rfl ?_
      obtain ⟨v3, hv3, h⟩ := eBi h
      refine ev_getI (pc := 46) X hcX11 (k := 7) (by decide) kfX11_74 dX11_mayBegin_46 hv3 ?_
      refine ev_bipush (pc := 49) (v := (116 : Int32)) X dX11_mayBegin_49 rfl ?_
      refine ev_icmp_ne (pc := 51) X 65 dX11_mayBegin_51 rfl (fun hc => ?_) (fun hc => ?_)
      · rw [if_neg hc] at h
        exact ev_weak (pc := 65) [] rfl (sX11_mayBegin_65  _ _ h p e s m args below meth c r0 A X)
      · rw [if_pos hc] at h
        refine ev_aload_n (pc := 54) X 0 dX11_mayBegin_54 rfl rfl ?_
        obtain ⟨v4, hv4, h⟩ := eBi h
        refine ev_getR (pc := 55) X hcX11 (k := 9) (by decide) kfX11_13 dX11_mayBegin_55 hv4 ?_
        refine ev_bipush (pc := 58) (v := (6 : Int32)) X dX11_mayBegin_58 rfl ?_
        obtain ⟨v5, hv5, h⟩ := eBi h
        refine ev_iald (pc := 60) X dX11_mayBegin_60 hv5 ?_
        refine ev_iconst (pc := 61) (v := (4 : Int32)) X dX11_mayBegin_61 rfl ?_
        refine ev_icmp_ge (pc := 62) X 69 dX11_mayBegin_62 rfl (fun hc => ?_) (fun hc => ?_)
        · rw [if_pos hc] at h
          refine ev_iconst (pc := 69) (v := (0 : Int32)) X dX11_mayBegin_69 rfl ?_
          obtain ⟨v6, hv6, h⟩ := eBi h
          obtain rfl := Option.some.inj h
          exact ev_zret (pc := 70) X dX11_mayBegin_70 hv6
        · rw [if_neg hc] at h
          exact ev_weak (pc := 65) [] rfl (sX11_mayBegin_65  _ _ h p e s m args below meth c r0 A X)
    · rw [if_pos hc] at h
      refine ev_aload_n (pc := 30) X 0 dX11_mayBegin_30 rfl rfl ?_
      obtain ⟨v7, hv7, h⟩ := eBi h
      refine ev_getI (pc := 31) X hcX11 (k := 12) (by decide) kfX11_91 dX11_mayBegin_31 hv7 ?_
      refine ev_if_ne (pc := 34) X 41 dX11_mayBegin_34 rfl (fun hc => ?_) (fun hc => ?_)
      · rw [if_neg hc] at h
        refine ev_iconst (pc := 41) (v := (0 : Int32)) X dX11_mayBegin_41 rfl ?_
        refine ev_goto (pc := 42) X 70 dX11_mayBegin_42 rfl ?_
        obtain ⟨v8, hv8, h⟩ := eBi h
        obtain rfl := Option.some.inj h
        exact ev_zret (pc := 70) X dX11_mayBegin_70 hv8
      · rw [if_pos hc] at h
        refine ev_iconst (pc := 37) (v := (1 : Int32)) X dX11_mayBegin_37 rfl ?_
        refine ev_goto (pc := 38) X 70 dX11_mayBegin_38 rfl ?_
        obtain ⟨v9, hv9, h⟩ := eBi h
        obtain rfl := Option.some.inj h
        exact ev_zret (pc := 70) X dX11_mayBegin_70 hv9
  · rw [if_pos hc] at h
    refine ev_iload_n (pc := 9) X 1 dX11_mayBegin_9 rfl rfl ?_
    refine ev_if_ne (pc := 10) X 17 dX11_mayBegin_10 rfl (fun hc => ?_) (fun hc => ?_)
    · rw [if_neg hc] at h
      refine ev_iconst (pc := 17) (v := (0 : Int32)) X dX11_mayBegin_17 rfl ?_
      refine ev_goto (pc := 18) X 70 dX11_mayBegin_18 rfl ?_
      obtain ⟨v10, hv10, h⟩ := eBi h
      obtain rfl := Option.some.inj h
      exact ev_zret (pc := 70) X dX11_mayBegin_70 hv10
    · rw [if_pos hc] at h
      refine ev_iconst (pc := 13) (v := (1 : Int32)) X dX11_mayBegin_13 rfl ?_
      refine ev_goto (pc := 14) X 70 dX11_mayBegin_14 rfl ?_
      obtain ⟨v11, hv11, h⟩ := eBi h
      obtain rfl := Option.some.inj h
      exact ev_zret (pc := 70) X dX11_mayBegin_70 hv11
def fX11_mayBegin (a0 : Nat) (a1 : Int32) (w : eW) : Option (Int32 × eW) := bif eO w a0 11 then fX11_mayBegin_0 a0 a1 w else none
theorem mX11_mayBegin {a0 : Nat} {a1 : Int32} {w : eW} {v : Int32} {w' : eW} (h : fX11_mayBegin a0 a1 w = some (v, w')) : eO w a0 11 = true ∧ eMN l D cI cZ 0 yX11_mayBegin cX11_mayBegin 2 (some .boolean) [.ref a0, .int a1] w (some (.int v)) w' := by
  obtain ⟨h0, h⟩ := eBif h
  exact ⟨h0, eMN_of [(0, .ref a0), (1, .int a1)] (plainFor_of_name (by decide)) (fun _ => rfl) (fun _ => Nat.le_of_ble_eq_true rfl) (fun p e s m args below meth c r0 A X => ev_weak (pc := 0) [0, 1] rfl (sX11_mayBegin_0 _ _ _ _ h p e s m args below meth c r0 A X))⟩
theorem dX11_readsItem_0 : decode cX11_readsItem 0 = .ok (.aload_n 0, 1) := by decide +kernel
theorem dX11_readsItem_1 : decode cX11_readsItem 1 = .ok (.getfield 13, 3) := by decide +kernel
theorem dX11_readsItem_4 : decode cX11_readsItem 4 = .ok (.iconst 4, 1) := by decide +kernel
theorem dX11_readsItem_5 : decode cX11_readsItem 5 = .ok (.iaload, 1) := by decide +kernel
theorem dX11_readsItem_6 : decode cX11_readsItem 6 = .ok (.aload_n 0, 1) := by decide +kernel
theorem dX11_readsItem_7 : decode cX11_readsItem 7 = .ok (.getfield 13, 3) := by decide +kernel
theorem dX11_readsItem_10 : decode cX11_readsItem 10 = .ok (.iconst 5, 1) := by decide +kernel
theorem dX11_readsItem_11 : decode cX11_readsItem 11 = .ok (.iaload, 1) := by decide +kernel
theorem dX11_readsItem_12 : decode cX11_readsItem 12 = .ok (.imul, 1) := by decide +kernel
theorem dX11_readsItem_13 : decode cX11_readsItem 13 = .ok (.istore_n 2, 1) := by decide +kernel
theorem dX11_readsItem_14 : decode cX11_readsItem 14 = .ok (.iload_n 1, 1) := by decide +kernel
theorem dX11_readsItem_15 : decode cX11_readsItem 15 = .ok (.bipush 103, 2) := by decide +kernel
theorem dX11_readsItem_17 : decode cX11_readsItem 17 = .ok (.if_icmp .ne 30, 3) := by decide +kernel
theorem dX11_readsItem_20 : decode cX11_readsItem 20 = .ok (.aload_n 0, 1) := by decide +kernel
theorem dX11_readsItem_21 : decode cX11_readsItem 21 = .ok (.getfield 13, 3) := by decide +kernel
theorem dX11_readsItem_24 : decode cX11_readsItem 24 = .ok (.iconst 4, 1) := by decide +kernel
theorem dX11_readsItem_25 : decode cX11_readsItem 25 = .ok (.aload_n 0, 1) := by decide +kernel
theorem dX11_readsItem_26 : decode cX11_readsItem 26 = .ok (.iconst 2, 1) := by decide +kernel
theorem dX11_readsItem_27 : decode cX11_readsItem 27 = .ok (.iconst 5, 1) := by decide +kernel
theorem dX11_readsItem_28 : decode cX11_readsItem 28 = .ok (.invokevirtual 95, 3) := by decide +kernel
theorem dX11_readsItem_31 : decode cX11_readsItem 31 = .ok (.iastore, 1) := by decide +kernel
theorem dX11_readsItem_32 : decode cX11_readsItem 32 = .ok (.aload_n 0, 1) := by decide +kernel
theorem dX11_readsItem_33 : decode cX11_readsItem 33 = .ok (.getfield 13, 3) := by decide +kernel
theorem dX11_readsItem_36 : decode cX11_readsItem 36 = .ok (.iconst 5, 1) := by decide +kernel
theorem dX11_readsItem_37 : decode cX11_readsItem 37 = .ok (.aload_n 0, 1) := by decide +kernel
theorem dX11_readsItem_38 : decode cX11_readsItem 38 = .ok (.iconst 2, 1) := by decide +kernel
theorem dX11_readsItem_39 : decode cX11_readsItem 39 = .ok (.iconst 4, 1) := by decide +kernel
theorem dX11_readsItem_40 : decode cX11_readsItem 40 = .ok (.invokevirtual 95, 3) := by decide +kernel
theorem dX11_readsItem_43 : decode cX11_readsItem 43 = .ok (.iastore, 1) := by decide +kernel
theorem dX11_readsItem_44 : decode cX11_readsItem 44 = .ok (.goto 132, 3) := by decide +kernel
theorem dX11_readsItem_47 : decode cX11_readsItem 47 = .ok (.iload_n 1, 1) := by decide +kernel
theorem dX11_readsItem_48 : decode cX11_readsItem 48 = .ok (.bipush 104, 2) := by decide +kernel
theorem dX11_readsItem_50 : decode cX11_readsItem 50 = .ok (.if_icmp .ne 31, 3) := by decide +kernel
theorem dX11_readsItem_53 : decode cX11_readsItem 53 = .ok (.aload_n 0, 1) := by decide +kernel
theorem dX11_readsItem_54 : decode cX11_readsItem 54 = .ok (.iconst 0, 1) := by decide +kernel
theorem dX11_readsItem_55 : decode cX11_readsItem 55 = .ok (.iload_n 2, 1) := by decide +kernel
theorem dX11_readsItem_56 : decode cX11_readsItem 56 = .ok (.iconst 1, 1) := by decide +kernel
theorem dX11_readsItem_57 : decode cX11_readsItem 57 = .ok (.isub, 1) := by decide +kernel
theorem dX11_readsItem_58 : decode cX11_readsItem 58 = .ok (.invokevirtual 95, 3) := by decide +kernel
theorem dX11_readsItem_61 : decode cX11_readsItem 61 = .ok (.istore_n 3, 1) := by decide +kernel
theorem dX11_readsItem_62 : decode cX11_readsItem 62 = .ok (.aload_n 0, 1) := by decide +kernel
theorem dX11_readsItem_63 : decode cX11_readsItem 63 = .ok (.getfield 16, 3) := by decide +kernel
theorem dX11_readsItem_66 : decode cX11_readsItem 66 = .ok (.bipush 20, 2) := by decide +kernel
theorem dX11_readsItem_68 : decode cX11_readsItem 68 = .ok (.iload_n 3, 1) := by decide +kernel
theorem dX11_readsItem_69 : decode cX11_readsItem 69 = .ok (.iadd, 1) := by decide +kernel
theorem dX11_readsItem_70 : decode cX11_readsItem 70 = .ok (.aload_n 0, 1) := by decide +kernel
theorem dX11_readsItem_71 : decode cX11_readsItem 71 = .ok (.iconst 0, 1) := by decide +kernel
theorem dX11_readsItem_72 : decode cX11_readsItem 72 = .ok (.bipush 9, 2) := by decide +kernel
theorem dX11_readsItem_74 : decode cX11_readsItem 74 = .ok (.invokevirtual 95, 3) := by decide +kernel
theorem dX11_readsItem_77 : decode cX11_readsItem 77 = .ok (.iastore, 1) := by decide +kernel
theorem dX11_readsItem_78 : decode cX11_readsItem 78 = .ok (.goto 98, 3) := by decide +kernel
theorem dX11_readsItem_81 : decode cX11_readsItem 81 = .ok (.iload_n 1, 1) := by decide +kernel
theorem dX11_readsItem_82 : decode cX11_readsItem 82 = .ok (.bipush 116, 2) := by decide +kernel
theorem dX11_readsItem_84 : decode cX11_readsItem 84 = .ok (.if_icmp .ne 73, 3) := by decide +kernel
theorem dX11_readsItem_87 : decode cX11_readsItem 87 = .ok (.aload_n 0, 1) := by decide +kernel
theorem dX11_readsItem_88 : decode cX11_readsItem 88 = .ok (.getfield 19, 3) := by decide +kernel
theorem dX11_readsItem_91 : decode cX11_readsItem 91 = .ok (.iconst 4, 1) := by decide +kernel
theorem dX11_readsItem_92 : decode cX11_readsItem 92 = .ok (.aload_n 0, 1) := by decide +kernel
theorem dX11_readsItem_93 : decode cX11_readsItem 93 = .ok (.getfield 13, 3) := by decide +kernel
theorem dX11_readsItem_96 : decode cX11_readsItem 96 = .ok (.bipush 6, 2) := by decide +kernel
theorem dX11_readsItem_98 : decode cX11_readsItem 98 = .ok (.iaload, 1) := by decide +kernel
theorem dX11_readsItem_99 : decode cX11_readsItem 99 = .ok (.iadd, 1) := by decide +kernel
theorem dX11_readsItem_100 : decode cX11_readsItem 100 = .ok (.aload_n 0, 1) := by decide +kernel
theorem dX11_readsItem_101 : decode cX11_readsItem 101 = .ok (.aload_n 0, 1) := by decide +kernel
theorem dX11_readsItem_102 : decode cX11_readsItem 102 = .ok (.getfield 71, 3) := by decide +kernel
theorem dX11_readsItem_105 : decode cX11_readsItem 105 = .ok (.iconst 2, 1) := by decide +kernel
theorem dX11_readsItem_106 : decode cX11_readsItem 106 = .ok (.if_icmp .ne 32, 3) := by decide +kernel
theorem dX11_readsItem_109 : decode cX11_readsItem 109 = .ok (.aload_n 0, 1) := by decide +kernel
theorem dX11_readsItem_110 : decode cX11_readsItem 110 = .ok (.getfield 74, 3) := by decide +kernel
theorem dX11_readsItem_113 : decode cX11_readsItem 113 = .ok (.iconst 0, 1) := by decide +kernel
theorem dX11_readsItem_114 : decode cX11_readsItem 114 = .ok (.iload_n 2, 1) := by decide +kernel
theorem dX11_readsItem_115 : decode cX11_readsItem 115 = .ok (.iconst 1, 1) := by decide +kernel
theorem dX11_readsItem_116 : decode cX11_readsItem 116 = .ok (.isub, 1) := by decide +kernel
theorem dX11_readsItem_117 : decode cX11_readsItem 117 = .ok (.invokestatic 54, 3) := by decide +kernel
theorem dX11_readsItem_120 : decode cX11_readsItem 120 = .ok (.ifCond .eq 18, 3) := by decide +kernel
theorem dX11_readsItem_123 : decode cX11_readsItem 123 = .ok (.aload_n 0, 1) := by decide +kernel
theorem dX11_readsItem_124 : decode cX11_readsItem 124 = .ok (.aload_n 0, 1) := by decide +kernel
theorem dX11_readsItem_125 : decode cX11_readsItem 125 = .ok (.getfield 74, 3) := by decide +kernel
theorem dX11_readsItem_128 : decode cX11_readsItem 128 = .ok (.invokevirtual 99, 3) := by decide +kernel
theorem dX11_readsItem_131 : decode cX11_readsItem 131 = .ok (.ifCond .ne 7, 3) := by decide +kernel
theorem dX11_readsItem_134 : decode cX11_readsItem 134 = .ok (.iconst 1, 1) := by decide +kernel
theorem dX11_readsItem_135 : decode cX11_readsItem 135 = .ok (.goto 4, 3) := by decide +kernel
theorem dX11_readsItem_138 : decode cX11_readsItem 138 = .ok (.iconst 0, 1) := by decide +kernel
theorem dX11_readsItem_139 : decode cX11_readsItem 139 = .ok (.invokevirtual 87, 3) := by decide +kernel
theorem dX11_readsItem_142 : decode cX11_readsItem 142 = .ok (.iastore, 1) := by decide +kernel
theorem dX11_readsItem_143 : decode cX11_readsItem 143 = .ok (.aload_n 0, 1) := by decide +kernel
theorem dX11_readsItem_144 : decode cX11_readsItem 144 = .ok (.getfield 13, 3) := by decide +kernel
theorem dX11_readsItem_147 : decode cX11_readsItem 147 = .ok (.bipush 6, 2) := by decide +kernel
theorem dX11_readsItem_149 : decode cX11_readsItem 149 = .ok (.dup2, 1) := by decide +kernel
theorem dX11_readsItem_150 : decode cX11_readsItem 150 = .ok (.iaload, 1) := by decide +kernel
theorem dX11_readsItem_151 : decode cX11_readsItem 151 = .ok (.iconst 1, 1) := by decide +kernel
theorem dX11_readsItem_152 : decode cX11_readsItem 152 = .ok (.iadd, 1) := by decide +kernel
theorem dX11_readsItem_153 : decode cX11_readsItem 153 = .ok (.iastore, 1) := by decide +kernel
theorem dX11_readsItem_154 : decode cX11_readsItem 154 = .ok (.goto 22, 3) := by decide +kernel
theorem dX11_readsItem_157 : decode cX11_readsItem 157 = .ok (.aload_n 0, 1) := by decide +kernel
theorem dX11_readsItem_158 : decode cX11_readsItem 158 = .ok (.getfield 13, 3) := by decide +kernel
theorem dX11_readsItem_161 : decode cX11_readsItem 161 = .ok (.bipush 7, 2) := by decide +kernel
theorem dX11_readsItem_163 : decode cX11_readsItem 163 = .ok (.aload_n 0, 1) := by decide +kernel
theorem dX11_readsItem_164 : decode cX11_readsItem 164 = .ok (.iconst 0, 1) := by decide +kernel
theorem dX11_readsItem_165 : decode cX11_readsItem 165 = .ok (.bipush 9, 2) := by decide +kernel
theorem dX11_readsItem_167 : decode cX11_readsItem 167 = .ok (.invokevirtual 95, 3) := by decide +kernel
theorem dX11_readsItem_170 : decode cX11_readsItem 170 = .ok (.iastore, 1) := by decide +kernel
theorem dX11_readsItem_171 : decode cX11_readsItem 171 = .ok (.aload_n 0, 1) := by decide +kernel
theorem dX11_readsItem_172 : decode cX11_readsItem 172 = .ok (.iconst 1, 1) := by decide +kernel
theorem dX11_readsItem_173 : decode cX11_readsItem 173 = .ok (.putfield 91, 3) := by decide +kernel
theorem dX11_readsItem_176 : decode cX11_readsItem 176 = .ok (.return_, 1) := by decide +kernel
def fX11_readsItem_139 (x0 : Nat) (t0 : Nat) (t1 : Int32) (t2 : Nat) (t3 : Int32) (w : eW) : Option (eW) := eBind2 (fX11_takes t2 t3 w) fun v2 w1 => (eSt w1 false t0 t1 v2).bind fun w3 => (eGR w3 x0 11 9).bind fun v4 => (eLd w3 false v4 (6 : Int32)).bind fun v5 => (eSt w3 false v4 (6 : Int32) (v5 + (1 : Int32))).bind fun w6 => some w6
set_option maxRecDepth 20000 in
theorem sX11_readsItem_139  (x0 : Nat) (t0 : Nat) (t1 : Int32) (t2 : Nat) (t3 : Int32) (w : eW) (r : eW) (h : fX11_readsItem_139 x0 t0 t1 t2 t3 w = some r) : eBN l D cI cZ 4 yX11_readsItem cX11_readsItem 4 none 139 [(0, .ref x0)] [.int t3, .ref t2, .int t1, .ref t0] w none r := by
  rw [fX11_readsItem_139] at h
  intro p e s m args below meth c r0 A X
  obtain ⟨v2, w1, hc, h⟩ := eB2 h
  refine ev_callV_i (pc := 139) (As := [.int t3]) (S := [.int t1, .ref t0]) X hwX11_takes klX11_87 hiX11_takes hsX11_takes (ci := 11) ⟨rfl, rfl⟩ ⟨Nat.le_of_ble_eq_true rfl, Nat.le_of_ble_eq_true rfl⟩ ⟨Nat.le_refl _, Nat.le_refl _⟩ rfl (Nat.le_of_ble_eq_true rfl) dX11_readsItem_139 rfl (mX11_takes (l := l) (D := D) (cI := cI) (cZ := cZ) hc).1 (mX11_takes hc).2 ?_
  obtain ⟨w3, hw3, h⟩ := eBi h
  refine ev_iast (pc := 142) X dX11_readsItem_142 hw3 ?_
  refine ev_aload_n (pc := 143) X 0 dX11_readsItem_143 rfl rfl ?_
  obtain ⟨v4, hv4, h⟩ := eBi h
  refine ev_getR (pc := 144) X hcX11 (k := 9) (by decide) kfX11_13 dX11_readsItem_144 hv4 ?_
  refine ev_bipush (pc := 147) (v := (6 : Int32)) X dX11_readsItem_147 rfl ?_
  refine ev_dup2 (pc := 149) X dX11_readsItem_149 rfl rfl ?_
  obtain ⟨v5, hv5, h⟩ := eBi h
  refine ev_iald (pc := 150) X dX11_readsItem_150 hv5 ?_
  refine ev_iconst (pc := 151) (v := (1 : Int32)) X dX11_readsItem_151 rfl ?_
  refine ev_iadd (pc := 152) X dX11_readsItem_152 ?_
  obtain ⟨w6, hw6, h⟩ := eBi h
  refine ev_iast (pc := 153) X dX11_readsItem_153 hw6 ?_
  refine ev_goto (pc := 154) X 176 dX11_readsItem_154 rfl ?_
  obtain rfl := Option.some.inj h
  exact ev_vret (pc := 176) X dX11_readsItem_176
def fX11_readsItem_138 (x0 : Nat) (t0 : Nat) (t1 : Int32) (t2 : Nat) (w : eW) : Option (eW) := fX11_readsItem_139 x0 t0 t1 t2 (0 : Int32) w
set_option maxRecDepth 20000 in
theorem sX11_readsItem_138  (x0 : Nat) (t0 : Nat) (t1 : Int32) (t2 : Nat) (w : eW) (r : eW) (h : fX11_readsItem_138 x0 t0 t1 t2 w = some r) : eBN l D cI cZ 4 yX11_readsItem cX11_readsItem 4 none 138 [(0, .ref x0)] [.ref t2, .int t1, .ref t0] w none r := by
  rw [fX11_readsItem_138] at h
  intro p e s m args below meth c r0 A X
  refine ev_iconst (pc := 138) (v := (0 : Int32)) X dX11_readsItem_138 rfl ?_
  exact ev_weak (pc := 139) [0] rfl (sX11_readsItem_139 _ _ _ _ _ _ _ h p e s m args below meth c r0 A X)
def fX11_readsItem_0 (x0 : Nat) (x1 : Int32) (w : eW) : Option (eW) := (eGR w x0 11 9).bind fun v1 => (eLd w false v1 (4 : Int32)).bind fun v2 => (eGR w x0 11 9).bind fun v3 => (eLd w false v3 (5 : Int32)).bind fun v4 => if x1 = (103 : Int32) then ((eGR w x0 11 9).bind fun v27 => eBind2 (fX11_number x0 (2 : Int32) (5 : Int32) w) fun v29 w28 => (eSt w28 false v27 (4 : Int32) v29).bind fun w30 => (eGR w30 x0 11 9).bind fun v31 => eBind2 (fX11_number x0 (2 : Int32) (4 : Int32) w30) fun v33 w32 => (eSt w32 false v31 (5 : Int32) v33).bind fun w34 => some w34) else (if x1 = (104 : Int32) then (eBind2 (fX11_number x0 (0 : Int32) ((v2 * v4) - (1 : Int32)) w) fun v22 w21 => (eGR w21 x0 11 10).bind fun v23 => eBind2 (fX11_number x0 (0 : Int32) (9 : Int32) w21) fun v25 w24 => (eSt w24 false v23 ((20 : Int32) + v22) v25).bind fun w26 => some w26) else (if x1 = (116 : Int32) then ((eGR w x0 11 11).bind fun v11 => (eGR w x0 11 9).bind fun v12 => (eLd w false v12 (6 : Int32)).bind fun v13 => (eGI w x0 11 5).bind fun v14 => if v14 = (2 : Int32) then ((eGI w x0 11 7).bind fun v15 => eBind2 (fX11_in v15 (0 : Int32) ((v2 * v4) - (1 : Int32)) w) fun v17 w16 => if v17 = 0 then (fX11_readsItem_138 x0 v11 ((4 : Int32) + v13) x0 w16) else ((eGI w16 x0 11 7).bind fun v18 => eBind2 (fX11_isTaken x0 v18 w16) fun v20 w19 => if v20 = 0 then (fX11_readsItem_139 x0 v11 ((4 : Int32) + v13) x0 (1 : Int32) w19) else (fX11_readsItem_138 x0 v11 ((4 : Int32) + v13) x0 w19))) else (fX11_readsItem_138 x0 v11 ((4 : Int32) + v13) x0 w)) else ((eGR w x0 11 9).bind fun v5 => eBind2 (fX11_number x0 (0 : Int32) (9 : Int32) w) fun v7 w6 => (eSt w6 false v5 (7 : Int32) v7).bind fun w8 => (eZ (1 : Int32)).bind fun v10 => (eP w8 x0 11 12 (.int v10)).bind fun w9 => some w9)))
set_option maxRecDepth 20000 in
theorem sX11_readsItem_0  (x0 : Nat) (x1 : Int32) (w : eW) (r : eW) (h : fX11_readsItem_0 x0 x1 w = some r) : eBN l D cI cZ 4 yX11_readsItem cX11_readsItem 4 none 0 [(0, .ref x0), (1, .int x1)] [] w none r := by
  rw [fX11_readsItem_0] at h
  intro p e s m args below meth c r0 A X
  refine ev_aload_n (pc := 0) X 0 dX11_readsItem_0 rfl rfl ?_
  obtain ⟨v1, hv1, h⟩ := eBi h
  refine ev_getR (pc := 1) X hcX11 (k := 9) (by decide) kfX11_13 dX11_readsItem_1 hv1 ?_
  refine ev_iconst (pc := 4) (v := (4 : Int32)) X dX11_readsItem_4 rfl ?_
  obtain ⟨v2, hv2, h⟩ := eBi h
  refine ev_iald (pc := 5) X dX11_readsItem_5 hv2 ?_
  refine ev_aload_n (pc := 6) X 0 dX11_readsItem_6 rfl rfl ?_
  obtain ⟨v3, hv3, h⟩ := eBi h
  refine ev_getR (pc := 7) X hcX11 (k := 9) (by decide) kfX11_13 dX11_readsItem_7 hv3 ?_
  refine ev_iconst (pc := 10) (v := (5 : Int32)) X dX11_readsItem_10 rfl ?_
  obtain ⟨v4, hv4, h⟩ := eBi h
  refine ev_iald (pc := 11) X dX11_readsItem_11 hv4 ?_
  refine ev_imul (pc := 12) X dX11_readsItem_12 ?_
  refine ev_istore_n (pc := 13) (L' := [(2, .int (v2 * v4)), (0, .ref x0), (1, .int x1)]) X dX11_readsItem_13 rfl (by decide) rfl ?_
  refine ev_iload_n (pc := 14) X 2 dX11_readsItem_14 rfl rfl ?_
  refine ev_bipush (pc := 15) (v := (103 : Int32)) X dX11_readsItem_15 rfl ?_
  refine ev_icmp_ne (pc := 17) X 47 dX11_readsItem_17 rfl (fun hc => ?_) (fun hc => ?_)
  · rw [if_neg hc] at h
    refine ev_iload_n (pc := 47) X 2 dX11_readsItem_47 rfl rfl ?_
    refine ev_bipush (pc := 48) (v := (104 : Int32)) X dX11_readsItem_48 rfl ?_
    refine ev_icmp_ne (pc := 50) X 81 dX11_readsItem_50 rfl (fun hc => ?_) (fun hc => ?_)
    · rw [if_neg hc] at h
      refine ev_iload_n (pc := 81) X 2 dX11_readsItem_81 rfl rfl ?_
      refine ev_bipush (pc := 82) (v := (116 : Int32)) X dX11_readsItem_82 rfl ?_
      refine ev_icmp_ne (pc := 84) X 157 dX11_readsItem_84 rfl (fun hc => ?_) (fun hc => ?_)
      · rw [if_neg hc] at h
        refine ev_aload_n (pc := 157) X 1 dX11_readsItem_157 rfl rfl ?_
        obtain ⟨v5, hv5, h⟩ := eBi h
        refine ev_getR (pc := 158) X hcX11 (k := 9) (by decide) kfX11_13 dX11_readsItem_158 hv5 ?_
        refine ev_bipush (pc := 161) (v := (7 : Int32)) X dX11_readsItem_161 rfl ?_
        refine ev_aload_n (pc := 163) X 1 dX11_readsItem_163 rfl rfl ?_
        refine ev_iconst (pc := 164) (v := (0 : Int32)) X dX11_readsItem_164 rfl ?_
        refine ev_bipush (pc := 165) (v := (9 : Int32)) X dX11_readsItem_165 rfl ?_
        obtain ⟨v7, w6, hc, h⟩ := eB2 h
        refine ev_callV_i (pc := 167) (As := [.int (0 : Int32), .int (9 : Int32)]) (S := [.int (7 : Int32), .ref v5]) X hwX11_number klX11_95 hiX11_number hsX11_number (ci := 11) ⟨rfl, rfl⟩ ⟨Nat.le_of_ble_eq_true rfl, Nat.le_of_ble_eq_true rfl⟩ ⟨Nat.le_refl _, Nat.le_refl _⟩ rfl (Nat.le_of_ble_eq_true rfl) dX11_readsItem_167 rfl (mX11_number (l := l) (D := D) (cI := cI) (cZ := cZ) hc).1 (mX11_number hc).2 ?_
        obtain ⟨w8, hw8, h⟩ := eBi h
        refine ev_iast (pc := 170) X dX11_readsItem_170 hw8 ?_
        refine ev_aload_n (pc := 171) X 1 dX11_readsItem_171 rfl rfl ?_
        refine ev_iconst (pc := 172) (v := (1 : Int32)) X dX11_readsItem_172 rfl ?_
        obtain ⟨v10, hv10, h⟩ := eBi h
        obtain ⟨w9, hw9, h⟩ := eBi h
        refine ev_putZ (pc := 173) X hcX11 (k := 12) (by decide) kfX11_91 rfl rfl dX11_readsItem_173 hv10 hw9 ?_
        obtain rfl := Option.some.inj h
        exact ev_vret (pc := 176) X dX11_readsItem_176
      · rw [if_pos hc] at h
        refine ev_aload_n (pc := 87) X 1 dX11_readsItem_87 rfl rfl ?_
        obtain ⟨v11, hv11, h⟩ := eBi h
        refine ev_getR (pc := 88) X hcX11 (k := 11) (by decide) kfX11_19 dX11_readsItem_88 hv11 ?_
        refine ev_iconst (pc := 91) (v := (4 : Int32)) X dX11_readsItem_91 rfl ?_
        refine ev_aload_n (pc := 92) X 1 dX11_readsItem_92 rfl rfl ?_
        obtain ⟨v12, hv12, h⟩ := eBi h
        refine ev_getR (pc := 93) X hcX11 (k := 9) (by decide) kfX11_13 dX11_readsItem_93 hv12 ?_
        refine ev_bipush (pc := 96) (v := (6 : Int32)) X dX11_readsItem_96 rfl ?_
        obtain ⟨v13, hv13, h⟩ := eBi h
        refine ev_iald (pc := 98) X dX11_readsItem_98 hv13 ?_
        refine ev_iadd (pc := 99) X dX11_readsItem_99 ?_
        refine ev_aload_n (pc := 100) X 1 dX11_readsItem_100 rfl rfl ?_
        refine ev_aload_n (pc := 101) X 1 dX11_readsItem_101 rfl rfl ?_
        obtain ⟨v14, hv14, h⟩ := eBi h
        refine ev_getI (pc := 102) X hcX11 (k := 5) (by decide) kfX11_71 dX11_readsItem_102 hv14 ?_
        refine ev_iconst (pc := 105) (v := (2 : Int32)) X dX11_readsItem_105 rfl ?_
        refine ev_icmp_ne (pc := 106) X 138 dX11_readsItem_106 rfl (fun hc => ?_) (fun hc => ?_)
        · rw [if_neg hc] at h
          exact ev_weak (pc := 138) [1] rfl (sX11_readsItem_138 _ _ _ _ _ _ h p e s m args below meth c r0 A X)
        · rw [if_pos hc] at h
          refine ev_aload_n (pc := 109) X 1 dX11_readsItem_109 rfl rfl ?_
          obtain ⟨v15, hv15, h⟩ := eBi h
          refine ev_getI (pc := 110) X hcX11 (k := 7) (by decide) kfX11_74 dX11_readsItem_110 hv15 ?_
          refine ev_iconst (pc := 113) (v := (0 : Int32)) X dX11_readsItem_113 rfl ?_
          refine ev_iload_n (pc := 114) X 0 dX11_readsItem_114 rfl rfl ?_
          refine ev_iconst (pc := 115) (v := (1 : Int32)) X dX11_readsItem_115 rfl ?_
          refine ev_isub (pc := 116) X dX11_readsItem_116 ?_
          obtain ⟨v17, w16, hc, h⟩ := eB2 h
          refine ev_callS_i (pc := 117) (As := [.int v15, .int (0 : Int32), .int ((v2 * v4) - (1 : Int32))]) (S := [.ref x0, .int ((4 : Int32) + v13), .ref v11]) X hwX11_in klX11_54 htX11_in ⟨Nat.le_of_ble_eq_true rfl, Nat.le_of_ble_eq_true rfl⟩ ⟨Nat.le_refl _, Nat.le_refl _⟩ rfl (Nat.le_of_ble_eq_true rfl) dX11_readsItem_117 rfl (mX11_in hc) ?_
          refine ev_if_eq (pc := 120) X 138 dX11_readsItem_120 rfl (fun hc => ?_) (fun hc => ?_)
          · rw [if_pos hc] at h
            exact ev_weak (pc := 138) [1] rfl (sX11_readsItem_138 _ _ _ _ _ _ h p e s m args below meth c r0 A X)
          · rw [if_neg hc] at h
            refine ev_aload_n (pc := 123) X 1 dX11_readsItem_123 rfl rfl ?_
            refine ev_aload_n (pc := 124) X 1 dX11_readsItem_124 rfl rfl ?_
            obtain ⟨v18, hv18, h⟩ := eBi h
            refine ev_getI (pc := 125) X hcX11 (k := 7) (by decide) kfX11_74 dX11_readsItem_125 hv18 ?_
            obtain ⟨v20, w19, hc, h⟩ := eB2 h
            refine ev_callV_i (pc := 128) (As := [.int v18]) (S := [.ref x0, .int ((4 : Int32) + v13), .ref v11]) X hwX11_isTaken klX11_99 hiX11_isTaken hsX11_isTaken (ci := 11) ⟨rfl, rfl⟩ ⟨Nat.le_of_ble_eq_true rfl, Nat.le_of_ble_eq_true rfl⟩ ⟨Nat.le_refl _, Nat.le_refl _⟩ rfl (Nat.le_of_ble_eq_true rfl) dX11_readsItem_128 rfl (mX11_isTaken (l := l) (D := D) (cI := cI) (cZ := cZ) hc).1 (mX11_isTaken hc).2 ?_
            refine ev_if_ne (pc := 131) X 138 dX11_readsItem_131 rfl (fun hc => ?_) (fun hc => ?_)
            · rw [if_neg hc] at h
              exact ev_weak (pc := 138) [1] rfl (sX11_readsItem_138 _ _ _ _ _ _ h p e s m args below meth c r0 A X)
            · rw [if_pos hc] at h
              refine ev_iconst (pc := 134) (v := (1 : Int32)) X dX11_readsItem_134 rfl ?_
              refine ev_goto (pc := 135) X 139 dX11_readsItem_135 rfl ?_
              exact ev_weak (pc := 139) [1] rfl (sX11_readsItem_139 _ _ _ _ _ _ _ h p e s m args below meth c r0 A X)
    · rw [if_pos hc] at h
      refine ev_aload_n (pc := 53) X 1 dX11_readsItem_53 rfl rfl ?_
      refine ev_iconst (pc := 54) (v := (0 : Int32)) X dX11_readsItem_54 rfl ?_
      refine ev_iload_n (pc := 55) X 0 dX11_readsItem_55 rfl rfl ?_
      refine ev_iconst (pc := 56) (v := (1 : Int32)) X dX11_readsItem_56 rfl ?_
      refine ev_isub (pc := 57) X dX11_readsItem_57 ?_
      obtain ⟨v22, w21, hc, h⟩ := eB2 h
      refine ev_callV_i (pc := 58) (As := [.int (0 : Int32), .int ((v2 * v4) - (1 : Int32))]) (S := []) X hwX11_number klX11_95 hiX11_number hsX11_number (ci := 11) ⟨rfl, rfl⟩ ⟨Nat.le_of_ble_eq_true rfl, Nat.le_of_ble_eq_true rfl⟩ ⟨Nat.le_refl _, Nat.le_refl _⟩ rfl (Nat.le_of_ble_eq_true rfl) dX11_readsItem_58 rfl (mX11_number (l := l) (D := D) (cI := cI) (cZ := cZ) hc).1 (mX11_number hc).2 ?_
      refine ev_istore_n (pc := 61) (L' := [(3, .int v22), (2, .int (v2 * v4)), (0, .ref x0), (1, .int x1)]) X dX11_readsItem_61 rfl (by decide) rfl ?_
      refine ev_aload_n (pc := 62) X 2 dX11_readsItem_62 rfl rfl ?_
      obtain ⟨v23, hv23, h⟩ := eBi h
      refine ev_getR (pc := 63) X hcX11 (k := 10) (by decide) kfX11_16 dX11_readsItem_63 hv23 ?_
      refine ev_bipush (pc := 66) (v := (20 : Int32)) X dX11_readsItem_66 rfl ?_
      refine ev_iload_n (pc := 68) X 0 dX11_readsItem_68 rfl rfl ?_
      refine ev_iadd (pc := 69) X dX11_readsItem_69 ?_
      refine ev_aload_n (pc := 70) X 2 dX11_readsItem_70 rfl rfl ?_
      refine ev_iconst (pc := 71) (v := (0 : Int32)) X dX11_readsItem_71 rfl ?_
      refine ev_bipush (pc := 72) (v := (9 : Int32)) X dX11_readsItem_72 rfl ?_
      obtain ⟨v25, w24, hc, h⟩ := eB2 h
      refine ev_callV_i (pc := 74) (As := [.int (0 : Int32), .int (9 : Int32)]) (S := [.int ((20 : Int32) + v22), .ref v23]) X hwX11_number klX11_95 hiX11_number hsX11_number (ci := 11) ⟨rfl, rfl⟩ ⟨Nat.le_of_ble_eq_true rfl, Nat.le_of_ble_eq_true rfl⟩ ⟨Nat.le_refl _, Nat.le_refl _⟩ rfl (Nat.le_of_ble_eq_true rfl) dX11_readsItem_74 rfl (mX11_number (l := l) (D := D) (cI := cI) (cZ := cZ) hc).1 (mX11_number hc).2 ?_
      obtain ⟨w26, hw26, h⟩ := eBi h
      refine ev_iast (pc := 77) X dX11_readsItem_77 hw26 ?_
      refine ev_goto (pc := 78) X 176 dX11_readsItem_78 rfl ?_
      obtain rfl := Option.some.inj h
      exact ev_vret (pc := 176) X dX11_readsItem_176
  · rw [if_pos hc] at h
    refine ev_aload_n (pc := 20) X 1 dX11_readsItem_20 rfl rfl ?_
    obtain ⟨v27, hv27, h⟩ := eBi h
    refine ev_getR (pc := 21) X hcX11 (k := 9) (by decide) kfX11_13 dX11_readsItem_21 hv27 ?_
    refine ev_iconst (pc := 24) (v := (4 : Int32)) X dX11_readsItem_24 rfl ?_
    refine ev_aload_n (pc := 25) X 1 dX11_readsItem_25 rfl rfl ?_
    refine ev_iconst (pc := 26) (v := (2 : Int32)) X dX11_readsItem_26 rfl ?_
    refine ev_iconst (pc := 27) (v := (5 : Int32)) X dX11_readsItem_27 rfl ?_
    obtain ⟨v29, w28, hc, h⟩ := eB2 h
    refine ev_callV_i (pc := 28) (As := [.int (2 : Int32), .int (5 : Int32)]) (S := [.int (4 : Int32), .ref v27]) X hwX11_number klX11_95 hiX11_number hsX11_number (ci := 11) ⟨rfl, rfl⟩ ⟨Nat.le_of_ble_eq_true rfl, Nat.le_of_ble_eq_true rfl⟩ ⟨Nat.le_refl _, Nat.le_refl _⟩ rfl (Nat.le_of_ble_eq_true rfl) dX11_readsItem_28 rfl (mX11_number (l := l) (D := D) (cI := cI) (cZ := cZ) hc).1 (mX11_number hc).2 ?_
    obtain ⟨w30, hw30, h⟩ := eBi h
    refine ev_iast (pc := 31) X dX11_readsItem_31 hw30 ?_
    refine ev_aload_n (pc := 32) X 1 dX11_readsItem_32 rfl rfl ?_
    obtain ⟨v31, hv31, h⟩ := eBi h
    refine ev_getR (pc := 33) X hcX11 (k := 9) (by decide) kfX11_13 dX11_readsItem_33 hv31 ?_
    refine ev_iconst (pc := 36) (v := (5 : Int32)) X dX11_readsItem_36 rfl ?_
    refine ev_aload_n (pc := 37) X 1 dX11_readsItem_37 rfl rfl ?_
    refine ev_iconst (pc := 38) (v := (2 : Int32)) X dX11_readsItem_38 rfl ?_
    refine ev_iconst (pc := 39) (v := (4 : Int32)) X dX11_readsItem_39 rfl ?_
    obtain ⟨v33, w32, hc, h⟩ := eB2 h
    refine ev_callV_i (pc := 40) (As := [.int (2 : Int32), .int (4 : Int32)]) (S := [.int (5 : Int32), .ref v31]) X hwX11_number klX11_95 hiX11_number hsX11_number (ci := 11) ⟨rfl, rfl⟩ ⟨Nat.le_of_ble_eq_true rfl, Nat.le_of_ble_eq_true rfl⟩ ⟨Nat.le_refl _, Nat.le_refl _⟩ rfl (Nat.le_of_ble_eq_true rfl) dX11_readsItem_40 rfl (mX11_number (l := l) (D := D) (cI := cI) (cZ := cZ) hc).1 (mX11_number hc).2 ?_
    obtain ⟨w34, hw34, h⟩ := eBi h
    refine ev_iast (pc := 43) X dX11_readsItem_43 hw34 ?_
    refine ev_goto (pc := 44) X 176 dX11_readsItem_44 rfl ?_
    obtain rfl := Option.some.inj h
    exact ev_vret (pc := 176) X dX11_readsItem_176
def fX11_readsItem (a0 : Nat) (a1 : Int32) (w : eW) : Option (eW) := bif eO w a0 11 then fX11_readsItem_0 a0 a1 w else none
theorem mX11_readsItem {a0 : Nat} {a1 : Int32} {w : eW} {w' : eW} (h : fX11_readsItem a0 a1 w = some w') : eO w a0 11 = true ∧ eMN l D cI cZ 4 yX11_readsItem cX11_readsItem 4 none [.ref a0, .int a1] w none w' := by
  obtain ⟨h0, h⟩ := eBif h
  exact ⟨h0, eMN_of [(0, .ref a0), (1, .int a1)] (plainFor_of_name (by decide)) (fun _ => rfl) (fun _ => Nat.le_of_ble_eq_true rfl) (fun p e s m args below meth c r0 A X => ev_weak (pc := 0) [0, 1] rfl (sX11_readsItem_0 _ _ _ _ h p e s m args below meth c r0 A X))⟩
theorem dX11_settles_0 : decode cX11_settles 0 = .ok (.iconst 0, 1) := by decide +kernel
theorem dX11_settles_1 : decode cX11_settles 1 = .ok (.istore_n 1, 1) := by decide +kernel
theorem dX11_settles_2 : decode cX11_settles 2 = .ok (.iload_n 1, 1) := by decide +kernel
theorem dX11_settles_3 : decode cX11_settles 3 = .ok (.iconst 4, 1) := by decide +kernel
theorem dX11_settles_4 : decode cX11_settles 4 = .ok (.if_icmp .ge 37, 3) := by decide +kernel
theorem dX11_settles_7 : decode cX11_settles 7 = .ok (.aload_n 0, 1) := by decide +kernel
theorem dX11_settles_8 : decode cX11_settles 8 = .ok (.getfield 13, 3) := by decide +kernel
theorem dX11_settles_11 : decode cX11_settles 11 = .ok (.iload_n 1, 1) := by decide +kernel
theorem dX11_settles_12 : decode cX11_settles 12 = .ok (.aload_n 0, 1) := by decide +kernel
theorem dX11_settles_13 : decode cX11_settles 13 = .ok (.getfield 13, 3) := by decide +kernel
theorem dX11_settles_16 : decode cX11_settles 16 = .ok (.iconst 4, 1) := by decide +kernel
theorem dX11_settles_17 : decode cX11_settles 17 = .ok (.iload_n 1, 1) := by decide +kernel
theorem dX11_settles_18 : decode cX11_settles 18 = .ok (.iadd, 1) := by decide +kernel
theorem dX11_settles_19 : decode cX11_settles 19 = .ok (.iaload, 1) := by decide +kernel
theorem dX11_settles_20 : decode cX11_settles 20 = .ok (.iastore, 1) := by decide +kernel
theorem dX11_settles_21 : decode cX11_settles 21 = .ok (.aload_n 0, 1) := by decide +kernel
theorem dX11_settles_22 : decode cX11_settles 22 = .ok (.getfield 19, 3) := by decide +kernel
theorem dX11_settles_25 : decode cX11_settles 25 = .ok (.iload_n 1, 1) := by decide +kernel
theorem dX11_settles_26 : decode cX11_settles 26 = .ok (.aload_n 0, 1) := by decide +kernel
theorem dX11_settles_27 : decode cX11_settles 27 = .ok (.getfield 19, 3) := by decide +kernel
theorem dX11_settles_30 : decode cX11_settles 30 = .ok (.iconst 4, 1) := by decide +kernel
theorem dX11_settles_31 : decode cX11_settles 31 = .ok (.iload_n 1, 1) := by decide +kernel
theorem dX11_settles_32 : decode cX11_settles 32 = .ok (.iadd, 1) := by decide +kernel
theorem dX11_settles_33 : decode cX11_settles 33 = .ok (.iaload, 1) := by decide +kernel
theorem dX11_settles_34 : decode cX11_settles 34 = .ok (.iastore, 1) := by decide +kernel
theorem dX11_settles_35 : decode cX11_settles 35 = .ok (.iinc 1 1, 3) := by decide +kernel
theorem dX11_settles_38 : decode cX11_settles 38 = .ok (.goto (-36), 3) := by decide +kernel
theorem dX11_settles_41 : decode cX11_settles 41 = .ok (.iconst 0, 1) := by decide +kernel
theorem dX11_settles_42 : decode cX11_settles 42 = .ok (.istore_n 1, 1) := by decide +kernel
theorem dX11_settles_43 : decode cX11_settles 43 = .ok (.iload_n 1, 1) := by decide +kernel
theorem dX11_settles_44 : decode cX11_settles 44 = .ok (.bipush 20, 2) := by decide +kernel
theorem dX11_settles_46 : decode cX11_settles 46 = .ok (.if_icmp .ge 24, 3) := by decide +kernel
theorem dX11_settles_49 : decode cX11_settles 49 = .ok (.aload_n 0, 1) := by decide +kernel
theorem dX11_settles_50 : decode cX11_settles 50 = .ok (.getfield 16, 3) := by decide +kernel
theorem dX11_settles_53 : decode cX11_settles 53 = .ok (.iload_n 1, 1) := by decide +kernel
theorem dX11_settles_54 : decode cX11_settles 54 = .ok (.aload_n 0, 1) := by decide +kernel
theorem dX11_settles_55 : decode cX11_settles 55 = .ok (.getfield 16, 3) := by decide +kernel
theorem dX11_settles_58 : decode cX11_settles 58 = .ok (.bipush 20, 2) := by decide +kernel
theorem dX11_settles_60 : decode cX11_settles 60 = .ok (.iload_n 1, 1) := by decide +kernel
theorem dX11_settles_61 : decode cX11_settles 61 = .ok (.iadd, 1) := by decide +kernel
theorem dX11_settles_62 : decode cX11_settles 62 = .ok (.iaload, 1) := by decide +kernel
theorem dX11_settles_63 : decode cX11_settles 63 = .ok (.iastore, 1) := by decide +kernel
theorem dX11_settles_64 : decode cX11_settles 64 = .ok (.iinc 1 1, 3) := by decide +kernel
theorem dX11_settles_67 : decode cX11_settles 67 = .ok (.goto (-24), 3) := by decide +kernel
theorem dX11_settles_70 : decode cX11_settles 70 = .ok (.aload_n 0, 1) := by decide +kernel
theorem dX11_settles_71 : decode cX11_settles 71 = .ok (.getfield 22, 3) := by decide +kernel
theorem dX11_settles_74 : decode cX11_settles 74 = .ok (.iconst 0, 1) := by decide +kernel
theorem dX11_settles_75 : decode cX11_settles 75 = .ok (.iconst 0, 1) := by decide +kernel
theorem dX11_settles_76 : decode cX11_settles 76 = .ok (.iastore, 1) := by decide +kernel
theorem dX11_settles_77 : decode cX11_settles 77 = .ok (.aload_n 0, 1) := by decide +kernel
theorem dX11_settles_78 : decode cX11_settles 78 = .ok (.iconst 0, 1) := by decide +kernel
theorem dX11_settles_79 : decode cX11_settles 79 = .ok (.putfield 58, 3) := by decide +kernel
theorem dX11_settles_82 : decode cX11_settles 82 = .ok (.aload_n 0, 1) := by decide +kernel
theorem dX11_settles_83 : decode cX11_settles 83 = .ok (.iconst 0, 1) := by decide +kernel
theorem dX11_settles_84 : decode cX11_settles 84 = .ok (.putfield 113, 3) := by decide +kernel
theorem dX11_settles_87 : decode cX11_settles 87 = .ok (.aload_n 0, 1) := by decide +kernel
theorem dX11_settles_88 : decode cX11_settles 88 = .ok (.getfield 31, 3) := by decide +kernel
theorem dX11_settles_91 : decode cX11_settles 91 = .ok (.iconst 0, 1) := by decide +kernel
theorem dX11_settles_92 : decode cX11_settles 92 = .ok (.iconst 0, 1) := by decide +kernel
theorem dX11_settles_93 : decode cX11_settles 93 = .ok (.bastore, 1) := by decide +kernel
theorem dX11_settles_94 : decode cX11_settles 94 = .ok (.aload_n 0, 1) := by decide +kernel
theorem dX11_settles_95 : decode cX11_settles 95 = .ok (.getfield 31, 3) := by decide +kernel
theorem dX11_settles_98 : decode cX11_settles 98 = .ok (.iconst 1, 1) := by decide +kernel
theorem dX11_settles_99 : decode cX11_settles 99 = .ok (.iconst 0, 1) := by decide +kernel
theorem dX11_settles_100 : decode cX11_settles 100 = .ok (.bastore, 1) := by decide +kernel
theorem dX11_settles_101 : decode cX11_settles 101 = .ok (.return_, 1) := by decide +kernel
def fX11_settles_43 : Nat → Nat → Int32 → eW → Option (eW)
  | 0, _, _, _ => none
  | n + 1, x0, x1, w => if (20 : Int32) ≤ x1 then ((eGR w x0 11 13).bind fun v1 => (eSt w false v1 (0 : Int32) (0 : Int32)).bind fun w2 => (eP w2 x0 11 3 (.int (0 : Int32))).bind fun w3 => (eP w3 x0 11 18 (.int (0 : Int32))).bind fun w4 => (eGR w4 x0 11 16).bind fun v5 => (eSt w4 true v5 (0 : Int32) (0 : Int32)).bind fun w6 => (eGR w6 x0 11 16).bind fun v7 => (eSt w6 true v7 (1 : Int32) (0 : Int32)).bind fun w8 => some w8) else ((eGR w x0 11 10).bind fun v9 => (eGR w x0 11 10).bind fun v10 => (eLd w false v10 ((20 : Int32) + x1)).bind fun v11 => (eSt w false v9 x1 v11).bind fun w12 => fX11_settles_43 n x0 (x1 + (1 : Int32)) w12)
set_option maxRecDepth 20000 in
theorem sX11_settles_43  : ∀ (n : Nat) (x0 : Nat) (x1 : Int32) (w : eW) (r : eW), fX11_settles_43 n x0 x1 w = some r → eBN l D cI cZ 0 yX11_settles cX11_settles 2 none 43 [(0, .ref x0), (1, .int x1)] [] w none r := by
  intro n
  induction n with
  | zero => intro x0 x1 w r h; exact absurd (show (none : Option (eW)) = some r from h) (by simp)
  | succ n ih =>
    intro x0 x1 w r h
    rw [fX11_settles_43] at h
    intro p e s m args below meth c r0 A X
    refine ev_iload_n (pc := 43) X 1 dX11_settles_43 rfl rfl ?_
    refine ev_bipush (pc := 44) (v := (20 : Int32)) X dX11_settles_44 rfl ?_
    refine ev_icmp_ge (pc := 46) X 70 dX11_settles_46 rfl (fun hc => ?_) (fun hc => ?_)
    · rw [if_pos hc] at h
      refine ev_aload_n (pc := 70) X 0 dX11_settles_70 rfl rfl ?_
      obtain ⟨v1, hv1, h⟩ := eBi h
      refine ev_getR (pc := 71) X hcX11 (k := 13) (by decide) kfX11_22 dX11_settles_71 hv1 ?_
      refine ev_iconst (pc := 74) (v := (0 : Int32)) X dX11_settles_74 rfl ?_
      refine ev_iconst (pc := 75) (v := (0 : Int32)) X dX11_settles_75 rfl ?_
      obtain ⟨w2, hw2, h⟩ := eBi h
      refine ev_iast (pc := 76) X dX11_settles_76 hw2 ?_
      refine ev_aload_n (pc := 77) X 0 dX11_settles_77 rfl rfl ?_
      refine ev_iconst (pc := 78) (v := (0 : Int32)) X dX11_settles_78 rfl ?_
      obtain ⟨w3, hw3, h⟩ := eBi h
      refine ev_putI (pc := 79) X hcX11 (k := 3) (by decide) kfX11_58 rfl rfl dX11_settles_79 hw3 ?_
      refine ev_aload_n (pc := 82) X 0 dX11_settles_82 rfl rfl ?_
      refine ev_iconst (pc := 83) (v := (0 : Int32)) X dX11_settles_83 rfl ?_
      obtain ⟨w4, hw4, h⟩ := eBi h
      refine ev_putI (pc := 84) X hcX11 (k := 18) (by decide) kfX11_113 rfl rfl dX11_settles_84 hw4 ?_
      refine ev_aload_n (pc := 87) X 0 dX11_settles_87 rfl rfl ?_
      obtain ⟨v5, hv5, h⟩ := eBi h
      refine ev_getR (pc := 88) X hcX11 (k := 16) (by decide) kfX11_31 dX11_settles_88 hv5 ?_
      refine ev_iconst (pc := 91) (v := (0 : Int32)) X dX11_settles_91 rfl ?_
      refine ev_iconst (pc := 92) (v := (0 : Int32)) X dX11_settles_92 rfl ?_
      obtain ⟨w6, hw6, h⟩ := eBi h
      refine ev_zast (pc := 93) X dX11_settles_93 hw6 ?_
      refine ev_aload_n (pc := 94) X 0 dX11_settles_94 rfl rfl ?_
      obtain ⟨v7, hv7, h⟩ := eBi h
      refine ev_getR (pc := 95) X hcX11 (k := 16) (by decide) kfX11_31 dX11_settles_95 hv7 ?_
      refine ev_iconst (pc := 98) (v := (1 : Int32)) X dX11_settles_98 rfl ?_
      refine ev_iconst (pc := 99) (v := (0 : Int32)) X dX11_settles_99 rfl ?_
      obtain ⟨w8, hw8, h⟩ := eBi h
      refine ev_zast (pc := 100) X dX11_settles_100 hw8 ?_
      obtain rfl := Option.some.inj h
      exact ev_vret (pc := 101) X dX11_settles_101
    · rw [if_neg hc] at h
      refine ev_aload_n (pc := 49) X 0 dX11_settles_49 rfl rfl ?_
      obtain ⟨v9, hv9, h⟩ := eBi h
      refine ev_getR (pc := 50) X hcX11 (k := 10) (by decide) kfX11_16 dX11_settles_50 hv9 ?_
      refine ev_iload_n (pc := 53) X 1 dX11_settles_53 rfl rfl ?_
      refine ev_aload_n (pc := 54) X 0 dX11_settles_54 rfl rfl ?_
      obtain ⟨v10, hv10, h⟩ := eBi h
      refine ev_getR (pc := 55) X hcX11 (k := 10) (by decide) kfX11_16 dX11_settles_55 hv10 ?_
      refine ev_bipush (pc := 58) (v := (20 : Int32)) X dX11_settles_58 rfl ?_
      refine ev_iload_n (pc := 60) X 1 dX11_settles_60 rfl rfl ?_
      refine ev_iadd (pc := 61) X dX11_settles_61 ?_
      obtain ⟨v11, hv11, h⟩ := eBi h
      refine ev_iald (pc := 62) X dX11_settles_62 hv11 ?_
      obtain ⟨w12, hw12, h⟩ := eBi h
      refine ev_iast (pc := 63) X dX11_settles_63 hw12 ?_
      refine ev_iinc (pc := 64) (v := x1 + (1 : Int32)) (L' := [(1, .int (x1 + (1 : Int32))), (0, .ref x0)]) X 1 dX11_settles_64 rfl rfl (by decide) rfl ?_
      refine ev_goto (pc := 67) X 43 dX11_settles_67 rfl ?_
      exact ev_weak (pc := 43) [1, 0] rfl (ih _ _ _ _ h p e s m args below meth c r0 A X)
def fX11_settles_2 : Nat → Nat → Int32 → eW → Option (eW)
  | 0, _, _, _ => none
  | n + 1, x0, x1, w => if (4 : Int32) ≤ x1 then (fX11_settles_43 eN x0 (0 : Int32) w) else ((eGR w x0 11 9).bind fun v1 => (eGR w x0 11 9).bind fun v2 => (eLd w false v2 ((4 : Int32) + x1)).bind fun v3 => (eSt w false v1 x1 v3).bind fun w4 => (eGR w4 x0 11 11).bind fun v5 => (eGR w4 x0 11 11).bind fun v6 => (eLd w4 false v6 ((4 : Int32) + x1)).bind fun v7 => (eSt w4 false v5 x1 v7).bind fun w8 => fX11_settles_2 n x0 (x1 + (1 : Int32)) w8)
set_option maxRecDepth 20000 in
theorem sX11_settles_2  : ∀ (n : Nat) (x0 : Nat) (x1 : Int32) (w : eW) (r : eW), fX11_settles_2 n x0 x1 w = some r → eBN l D cI cZ 0 yX11_settles cX11_settles 2 none 2 [(0, .ref x0), (1, .int x1)] [] w none r := by
  intro n
  induction n with
  | zero => intro x0 x1 w r h; exact absurd (show (none : Option (eW)) = some r from h) (by simp)
  | succ n ih =>
    intro x0 x1 w r h
    rw [fX11_settles_2] at h
    intro p e s m args below meth c r0 A X
    refine ev_iload_n (pc := 2) X 1 dX11_settles_2 rfl rfl ?_
    refine ev_iconst (pc := 3) (v := (4 : Int32)) X dX11_settles_3 rfl ?_
    refine ev_icmp_ge (pc := 4) X 41 dX11_settles_4 rfl (fun hc => ?_) (fun hc => ?_)
    · rw [if_pos hc] at h
      refine ev_iconst (pc := 41) (v := (0 : Int32)) X dX11_settles_41 rfl ?_
      refine ev_istore_n (pc := 42) (L' := [(1, .int (0 : Int32)), (0, .ref x0)]) X dX11_settles_42 rfl (by decide) rfl ?_
      exact ev_weak (pc := 43) [1, 0] rfl (sX11_settles_43 eN _ _ _ _ h p e s m args below meth c r0 A X)
    · rw [if_neg hc] at h
      refine ev_aload_n (pc := 7) X 0 dX11_settles_7 rfl rfl ?_
      obtain ⟨v1, hv1, h⟩ := eBi h
      refine ev_getR (pc := 8) X hcX11 (k := 9) (by decide) kfX11_13 dX11_settles_8 hv1 ?_
      refine ev_iload_n (pc := 11) X 1 dX11_settles_11 rfl rfl ?_
      refine ev_aload_n (pc := 12) X 0 dX11_settles_12 rfl rfl ?_
      obtain ⟨v2, hv2, h⟩ := eBi h
      refine ev_getR (pc := 13) X hcX11 (k := 9) (by decide) kfX11_13 dX11_settles_13 hv2 ?_
      refine ev_iconst (pc := 16) (v := (4 : Int32)) X dX11_settles_16 rfl ?_
      refine ev_iload_n (pc := 17) X 1 dX11_settles_17 rfl rfl ?_
      refine ev_iadd (pc := 18) X dX11_settles_18 ?_
      obtain ⟨v3, hv3, h⟩ := eBi h
      refine ev_iald (pc := 19) X dX11_settles_19 hv3 ?_
      obtain ⟨w4, hw4, h⟩ := eBi h
      refine ev_iast (pc := 20) X dX11_settles_20 hw4 ?_
      refine ev_aload_n (pc := 21) X 0 dX11_settles_21 rfl rfl ?_
      obtain ⟨v5, hv5, h⟩ := eBi h
      refine ev_getR (pc := 22) X hcX11 (k := 11) (by decide) kfX11_19 dX11_settles_22 hv5 ?_
      refine ev_iload_n (pc := 25) X 1 dX11_settles_25 rfl rfl ?_
      refine ev_aload_n (pc := 26) X 0 dX11_settles_26 rfl rfl ?_
      obtain ⟨v6, hv6, h⟩ := eBi h
      refine ev_getR (pc := 27) X hcX11 (k := 11) (by decide) kfX11_19 dX11_settles_27 hv6 ?_
      refine ev_iconst (pc := 30) (v := (4 : Int32)) X dX11_settles_30 rfl ?_
      refine ev_iload_n (pc := 31) X 1 dX11_settles_31 rfl rfl ?_
      refine ev_iadd (pc := 32) X dX11_settles_32 ?_
      obtain ⟨v7, hv7, h⟩ := eBi h
      refine ev_iald (pc := 33) X dX11_settles_33 hv7 ?_
      obtain ⟨w8, hw8, h⟩ := eBi h
      refine ev_iast (pc := 34) X dX11_settles_34 hw8 ?_
      refine ev_iinc (pc := 35) (v := x1 + (1 : Int32)) (L' := [(1, .int (x1 + (1 : Int32))), (0, .ref x0)]) X 1 dX11_settles_35 rfl rfl (by decide) rfl ?_
      refine ev_goto (pc := 38) X 2 dX11_settles_38 rfl ?_
      exact ev_weak (pc := 2) [1, 0] rfl (ih _ _ _ _ h p e s m args below meth c r0 A X)
def fX11_settles_0 (x0 : Nat) (w : eW) : Option (eW) := fX11_settles_2 eN x0 (0 : Int32) w
set_option maxRecDepth 20000 in
theorem sX11_settles_0  (x0 : Nat) (w : eW) (r : eW) (h : fX11_settles_0 x0 w = some r) : eBN l D cI cZ 0 yX11_settles cX11_settles 2 none 0 [(0, .ref x0)] [] w none r := by
  rw [fX11_settles_0] at h
  intro p e s m args below meth c r0 A X
  refine ev_iconst (pc := 0) (v := (0 : Int32)) X dX11_settles_0 rfl ?_
  refine ev_istore_n (pc := 1) (L' := [(1, .int (0 : Int32)), (0, .ref x0)]) X dX11_settles_1 rfl (by decide) rfl ?_
  exact ev_weak (pc := 2) [1, 0] rfl (sX11_settles_2 eN _ _ _ _ h p e s m args below meth c r0 A X)
def fX11_settles (a0 : Nat) (w : eW) : Option (eW) := bif eO w a0 11 then fX11_settles_0 a0 w else none
theorem mX11_settles {a0 : Nat} {w : eW} {w' : eW} (h : fX11_settles a0 w = some w') : eO w a0 11 = true ∧ eMN l D cI cZ 0 yX11_settles cX11_settles 2 none [.ref a0] w none w' := by
  obtain ⟨h0, h⟩ := eBif h
  exact ⟨h0, eMN_of [(0, .ref a0)] (plainFor_of_name (by decide)) (fun _ => rfl) (fun _ => Nat.le_of_ble_eq_true rfl) (fun p e s m args below meth c r0 A X => ev_weak (pc := 0) [0] rfl (sX11_settles_0 _ _ _ h p e s m args below meth c r0 A X))⟩
theorem dX11_land_0 : decode cX11_land 0 = .ok (.aload_n 0, 1) := by decide +kernel
theorem dX11_land_1 : decode cX11_land 1 = .ok (.iconst 0, 1) := by decide +kernel
theorem dX11_land_2 : decode cX11_land 2 = .ok (.putfield 50, 3) := by decide +kernel
theorem dX11_land_5 : decode cX11_land 5 = .ok (.aload_n 0, 1) := by decide +kernel
theorem dX11_land_6 : decode cX11_land 6 = .ok (.iconst (-1), 1) := by decide +kernel
theorem dX11_land_7 : decode cX11_land 7 = .ok (.putfield 77, 3) := by decide +kernel
theorem dX11_land_10 : decode cX11_land 10 = .ok (.aload_n 0, 1) := by decide +kernel
theorem dX11_land_11 : decode cX11_land 11 = .ok (.iconst 0, 1) := by decide +kernel
theorem dX11_land_12 : decode cX11_land 12 = .ok (.putfield 61, 3) := by decide +kernel
theorem dX11_land_15 : decode cX11_land 15 = .ok (.iconst 0, 1) := by decide +kernel
theorem dX11_land_16 : decode cX11_land 16 = .ok (.istore_n 1, 1) := by decide +kernel
theorem dX11_land_17 : decode cX11_land 17 = .ok (.aload_n 0, 1) := by decide +kernel
theorem dX11_land_18 : decode cX11_land 18 = .ok (.getfield 13, 3) := by decide +kernel
theorem dX11_land_21 : decode cX11_land 21 = .ok (.iconst 4, 1) := by decide +kernel
theorem dX11_land_22 : decode cX11_land 22 = .ok (.iconst 3, 1) := by decide +kernel
theorem dX11_land_23 : decode cX11_land 23 = .ok (.iastore, 1) := by decide +kernel
theorem dX11_land_24 : decode cX11_land 24 = .ok (.aload_n 0, 1) := by decide +kernel
theorem dX11_land_25 : decode cX11_land 25 = .ok (.getfield 13, 3) := by decide +kernel
theorem dX11_land_28 : decode cX11_land 28 = .ok (.iconst 5, 1) := by decide +kernel
theorem dX11_land_29 : decode cX11_land 29 = .ok (.iconst 2, 1) := by decide +kernel
theorem dX11_land_30 : decode cX11_land 30 = .ok (.iastore, 1) := by decide +kernel
theorem dX11_land_31 : decode cX11_land 31 = .ok (.aload_n 0, 1) := by decide +kernel
theorem dX11_land_32 : decode cX11_land 32 = .ok (.getfield 13, 3) := by decide +kernel
theorem dX11_land_35 : decode cX11_land 35 = .ok (.bipush 6, 2) := by decide +kernel
theorem dX11_land_37 : decode cX11_land 37 = .ok (.iconst 0, 1) := by decide +kernel
theorem dX11_land_38 : decode cX11_land 38 = .ok (.iastore, 1) := by decide +kernel
theorem dX11_land_39 : decode cX11_land 39 = .ok (.aload_n 0, 1) := by decide +kernel
theorem dX11_land_40 : decode cX11_land 40 = .ok (.getfield 13, 3) := by decide +kernel
theorem dX11_land_43 : decode cX11_land 43 = .ok (.bipush 7, 2) := by decide +kernel
theorem dX11_land_45 : decode cX11_land 45 = .ok (.bipush 9, 2) := by decide +kernel
theorem dX11_land_47 : decode cX11_land 47 = .ok (.iastore, 1) := by decide +kernel
theorem dX11_land_48 : decode cX11_land 48 = .ok (.aload_n 0, 1) := by decide +kernel
theorem dX11_land_49 : decode cX11_land 49 = .ok (.iconst 0, 1) := by decide +kernel
theorem dX11_land_50 : decode cX11_land 50 = .ok (.putfield 91, 3) := by decide +kernel
theorem dX11_land_53 : decode cX11_land 53 = .ok (.bipush 20, 2) := by decide +kernel
theorem dX11_land_55 : decode cX11_land 55 = .ok (.istore_n 2, 1) := by decide +kernel
theorem dX11_land_56 : decode cX11_land 56 = .ok (.iload_n 2, 1) := by decide +kernel
theorem dX11_land_57 : decode cX11_land 57 = .ok (.bipush 40, 2) := by decide +kernel
theorem dX11_land_59 : decode cX11_land 59 = .ok (.if_icmp .ge 16, 3) := by decide +kernel
theorem dX11_land_62 : decode cX11_land 62 = .ok (.aload_n 0, 1) := by decide +kernel
theorem dX11_land_63 : decode cX11_land 63 = .ok (.getfield 16, 3) := by decide +kernel
theorem dX11_land_66 : decode cX11_land 66 = .ok (.iload_n 2, 1) := by decide +kernel
theorem dX11_land_67 : decode cX11_land 67 = .ok (.iconst 0, 1) := by decide +kernel
theorem dX11_land_68 : decode cX11_land 68 = .ok (.iastore, 1) := by decide +kernel
theorem dX11_land_69 : decode cX11_land 69 = .ok (.iinc 2 1, 3) := by decide +kernel
theorem dX11_land_72 : decode cX11_land 72 = .ok (.goto (-16), 3) := by decide +kernel
theorem dX11_land_75 : decode cX11_land 75 = .ok (.aload_n 0, 1) := by decide +kernel
theorem dX11_land_76 : decode cX11_land 76 = .ok (.invokevirtual 84, 3) := by decide +kernel
theorem dX11_land_79 : decode cX11_land 79 = .ok (.aload_n 0, 1) := by decide +kernel
theorem dX11_land_80 : decode cX11_land 80 = .ok (.invokevirtual 80, 3) := by decide +kernel
theorem dX11_land_83 : decode cX11_land 83 = .ok (.ifCond .eq 72, 3) := by decide +kernel
theorem dX11_land_86 : decode cX11_land 86 = .ok (.aload_n 0, 1) := by decide +kernel
theorem dX11_land_87 : decode cX11_land 87 = .ok (.getfield 71, 3) := by decide +kernel
theorem dX11_land_90 : decode cX11_land 90 = .ok (.ifCond .eq 65, 3) := by decide +kernel
theorem dX11_land_93 : decode cX11_land 93 = .ok (.aload_n 0, 1) := by decide +kernel
theorem dX11_land_94 : decode cX11_land 94 = .ok (.aload_n 0, 1) := by decide +kernel
theorem dX11_land_95 : decode cX11_land 95 = .ok (.getfield 71, 3) := by decide +kernel
theorem dX11_land_98 : decode cX11_land 98 = .ok (.iconst 1, 1) := by decide +kernel
theorem dX11_land_99 : decode cX11_land 99 = .ok (.if_icmp .ne 15, 3) := by decide +kernel
theorem dX11_land_102 : decode cX11_land 102 = .ok (.aload_n 0, 1) := by decide +kernel
theorem dX11_land_103 : decode cX11_land 103 = .ok (.iload_n 1, 1) := by decide +kernel
theorem dX11_land_104 : decode cX11_land 104 = .ok (.invokevirtual 103, 3) := by decide +kernel
theorem dX11_land_107 : decode cX11_land 107 = .ok (.ifCond .eq 7, 3) := by decide +kernel
theorem dX11_land_110 : decode cX11_land 110 = .ok (.iconst 1, 1) := by decide +kernel
theorem dX11_land_111 : decode cX11_land 111 = .ok (.goto 4, 3) := by decide +kernel
theorem dX11_land_114 : decode cX11_land 114 = .ok (.iconst 0, 1) := by decide +kernel
theorem dX11_land_115 : decode cX11_land 115 = .ok (.invokevirtual 87, 3) := by decide +kernel
theorem dX11_land_118 : decode cX11_land 118 = .ok (.istore_n 2, 1) := by decide +kernel
theorem dX11_land_119 : decode cX11_land 119 = .ok (.aload_n 0, 1) := by decide +kernel
theorem dX11_land_120 : decode cX11_land 120 = .ok (.invokevirtual 80, 3) := by decide +kernel
theorem dX11_land_123 : decode cX11_land 123 = .ok (.ifCond .eq 8, 3) := by decide +kernel
theorem dX11_land_126 : decode cX11_land 126 = .ok (.aload_n 0, 1) := by decide +kernel
theorem dX11_land_127 : decode cX11_land 127 = .ok (.iload_n 2, 1) := by decide +kernel
theorem dX11_land_128 : decode cX11_land 128 = .ok (.invokevirtual 106, 3) := by decide +kernel
theorem dX11_land_131 : decode cX11_land 131 = .ok (.aload_n 0, 1) := by decide +kernel
theorem dX11_land_132 : decode cX11_land 132 = .ok (.aload_n 0, 1) := by decide +kernel
theorem dX11_land_133 : decode cX11_land 133 = .ok (.getfield 71, 3) := by decide +kernel
theorem dX11_land_136 : decode cX11_land 136 = .ok (.iconst 3, 1) := by decide +kernel
theorem dX11_land_137 : decode cX11_land 137 = .ok (.if_icmp .ne 7, 3) := by decide +kernel
theorem dX11_land_140 : decode cX11_land 140 = .ok (.iconst 1, 1) := by decide +kernel
theorem dX11_land_141 : decode cX11_land 141 = .ok (.goto 4, 3) := by decide +kernel
theorem dX11_land_144 : decode cX11_land 144 = .ok (.iconst 0, 1) := by decide +kernel
theorem dX11_land_145 : decode cX11_land 145 = .ok (.invokevirtual 87, 3) := by decide +kernel
theorem dX11_land_148 : decode cX11_land 148 = .ok (.pop, 1) := by decide +kernel
theorem dX11_land_149 : decode cX11_land 149 = .ok (.iinc 1 1, 3) := by decide +kernel
theorem dX11_land_152 : decode cX11_land 152 = .ok (.goto (-73), 3) := by decide +kernel
theorem dX11_land_155 : decode cX11_land 155 = .ok (.aload_n 0, 1) := by decide +kernel
theorem dX11_land_156 : decode cX11_land 156 = .ok (.invokevirtual 80, 3) := by decide +kernel
theorem dX11_land_159 : decode cX11_land 159 = .ok (.ifCond .ne 11, 3) := by decide +kernel
theorem dX11_land_162 : decode cX11_land 162 = .ok (.bipush (-10), 2) := by decide +kernel
theorem dX11_land_164 : decode cX11_land 164 = .ok (.aload_n 0, 1) := by decide +kernel
theorem dX11_land_165 : decode cX11_land 165 = .ok (.getfield 77, 3) := by decide +kernel
theorem dX11_land_168 : decode cX11_land 168 = .ok (.isub, 1) := by decide +kernel
theorem dX11_land_169 : decode cX11_land 169 = .ok (.ireturn, 1) := by decide +kernel
theorem dX11_land_170 : decode cX11_land 170 = .ok (.aload_n 0, 1) := by decide +kernel
theorem dX11_land_171 : decode cX11_land 171 = .ok (.invokevirtual 110, 3) := by decide +kernel
theorem dX11_land_174 : decode cX11_land 174 = .ok (.iload_n 1, 1) := by decide +kernel
theorem dX11_land_175 : decode cX11_land 175 = .ok (.ireturn, 1) := by decide +kernel
def fX11_land_145 (K79 : Nat → Int32 → eW → Option (Int32 × eW)) (x0 : Nat) (x1 : Int32) (t0 : Nat) (t1 : Int32) (w : eW) : Option (Int32 × eW) := eBind2 (fX11_takes t0 t1 w) fun v2 w1 => K79 x0 (x1 + (1 : Int32)) w1
set_option maxRecDepth 20000 in
theorem sX11_land_145 {K79 : Nat → Int32 → eW → Option (Int32 × eW)} (hK79 : ∀ (x0 : Nat) (x1 : Int32) (w : eW) (r : Int32 × eW), K79 x0 x1 w = some r → eBN l D cI cZ 5 yX11_land cX11_land 3 (some .int) 79 [(0, .ref x0), (1, .int x1)] [] w (some (.int r.1)) r.2) (x0 : Nat) (x1 : Int32) (t0 : Nat) (t1 : Int32) (w : eW) (r : Int32 × eW) (h : fX11_land_145 K79 x0 x1 t0 t1 w = some r) : eBN l D cI cZ 5 yX11_land cX11_land 3 (some .int) 145 [(0, .ref x0), (1, .int x1)] [.int t1, .ref t0] w (some (.int r.1)) r.2 := by
  rw [fX11_land_145] at h
  intro p e s m args below meth c r0 A X
  obtain ⟨v2, w1, hc, h⟩ := eB2 h
  refine ev_callV_i (pc := 145) (As := [.int t1]) (S := []) X hwX11_takes klX11_87 hiX11_takes hsX11_takes (ci := 11) ⟨rfl, rfl⟩ ⟨Nat.le_of_ble_eq_true rfl, Nat.le_of_ble_eq_true rfl⟩ ⟨Nat.le_refl _, Nat.le_refl _⟩ rfl (Nat.le_of_ble_eq_true rfl) dX11_land_145 rfl (mX11_takes (l := l) (D := D) (cI := cI) (cZ := cZ) hc).1 (mX11_takes hc).2 ?_
  refine ev_pop (pc := 148) X dX11_land_148 rfl ?_
  refine ev_iinc (pc := 149) (v := x1 + (1 : Int32)) (L' := [(1, .int (x1 + (1 : Int32))), (0, .ref x0)]) X 1 dX11_land_149 rfl rfl (by decide) rfl ?_
  refine ev_goto (pc := 152) X 79 dX11_land_152 rfl ?_
  exact ev_weak (pc := 79) [1, 0] rfl (hK79 _ _ _ _ h p e s m args below meth c r0 A X)
def fX11_land_131 (K79 : Nat → Int32 → eW → Option (Int32 × eW)) (x0 : Nat) (x1 : Int32) (w : eW) : Option (Int32 × eW) := (eGI w x0 11 5).bind fun v1 => if v1 = (3 : Int32) then (fX11_land_145 K79 x0 x1 x0 (1 : Int32) w) else (fX11_land_145 K79 x0 x1 x0 (0 : Int32) w)
set_option maxRecDepth 20000 in
theorem sX11_land_131 {K79 : Nat → Int32 → eW → Option (Int32 × eW)} (hK79 : ∀ (x0 : Nat) (x1 : Int32) (w : eW) (r : Int32 × eW), K79 x0 x1 w = some r → eBN l D cI cZ 5 yX11_land cX11_land 3 (some .int) 79 [(0, .ref x0), (1, .int x1)] [] w (some (.int r.1)) r.2) (x0 : Nat) (x1 : Int32) (w : eW) (r : Int32 × eW) (h : fX11_land_131 K79 x0 x1 w = some r) : eBN l D cI cZ 5 yX11_land cX11_land 3 (some .int) 131 [(0, .ref x0), (1, .int x1)] [] w (some (.int r.1)) r.2 := by
  rw [fX11_land_131] at h
  intro p e s m args below meth c r0 A X
  refine ev_aload_n (pc := 131) X 0 dX11_land_131 rfl rfl ?_
  refine ev_aload_n (pc := 132) X 0 dX11_land_132 rfl rfl ?_
  obtain ⟨v1, hv1, h⟩ := eBi h
  refine ev_getI (pc := 133) X hcX11 (k := 5) (by decide) kfX11_71 dX11_land_133 hv1 ?_
  refine ev_iconst (pc := 136) (v := (3 : Int32)) X dX11_land_136 rfl ?_
  refine ev_icmp_ne (pc := 137) X 144 dX11_land_137 rfl (fun hc => ?_) (fun hc => ?_)
  · rw [if_neg hc] at h
    refine ev_iconst (pc := 144) (v := (0 : Int32)) X dX11_land_144 rfl ?_
    exact ev_weak (pc := 145) [0, 1] rfl (sX11_land_145 hK79 _ _ _ _ _ _ h p e s m args below meth c r0 A X)
  · rw [if_pos hc] at h
    refine ev_iconst (pc := 140) (v := (1 : Int32)) X dX11_land_140 rfl ?_
    refine ev_goto (pc := 141) X 145 dX11_land_141 rfl ?_
    exact ev_weak (pc := 145) [0, 1] rfl (sX11_land_145 hK79 _ _ _ _ _ _ h p e s m args below meth c r0 A X)
def fX11_land_115 (K79 : Nat → Int32 → eW → Option (Int32 × eW)) (x0 : Nat) (x1 : Int32) (t0 : Nat) (t1 : Int32) (w : eW) : Option (Int32 × eW) := eBind2 (fX11_takes t0 t1 w) fun v2 w1 => eBind2 (fX11_isWell x0 w1) fun v4 w3 => if v4 = 0 then (fX11_land_131 K79 x0 x1 w3) else ((fX11_readsItem x0 v2 w3).bind fun w5 => fX11_land_131 K79 x0 x1 w5)
set_option maxRecDepth 20000 in
theorem sX11_land_115 {K79 : Nat → Int32 → eW → Option (Int32 × eW)} (hK79 : ∀ (x0 : Nat) (x1 : Int32) (w : eW) (r : Int32 × eW), K79 x0 x1 w = some r → eBN l D cI cZ 5 yX11_land cX11_land 3 (some .int) 79 [(0, .ref x0), (1, .int x1)] [] w (some (.int r.1)) r.2) (x0 : Nat) (x1 : Int32) (t0 : Nat) (t1 : Int32) (w : eW) (r : Int32 × eW) (h : fX11_land_115 K79 x0 x1 t0 t1 w = some r) : eBN l D cI cZ 5 yX11_land cX11_land 3 (some .int) 115 [(0, .ref x0), (1, .int x1)] [.int t1, .ref t0] w (some (.int r.1)) r.2 := by
  rw [fX11_land_115] at h
  intro p e s m args below meth c r0 A X
  obtain ⟨v2, w1, hc, h⟩ := eB2 h
  refine ev_callV_i (pc := 115) (As := [.int t1]) (S := []) X hwX11_takes klX11_87 hiX11_takes hsX11_takes (ci := 11) ⟨rfl, rfl⟩ ⟨Nat.le_of_ble_eq_true rfl, Nat.le_of_ble_eq_true rfl⟩ ⟨Nat.le_refl _, Nat.le_refl _⟩ rfl (Nat.le_of_ble_eq_true rfl) dX11_land_115 rfl (mX11_takes (l := l) (D := D) (cI := cI) (cZ := cZ) hc).1 (mX11_takes hc).2 ?_
  refine ev_istore_n (pc := 118) (L' := [(2, .int v2), (0, .ref x0), (1, .int x1)]) X dX11_land_118 rfl (by decide) rfl ?_
  refine ev_aload_n (pc := 119) X 1 dX11_land_119 rfl rfl ?_
  obtain ⟨v4, w3, hc, h⟩ := eB2 h
  refine ev_callV_i (pc := 120) (As := []) (S := []) X hwX11_isWell klX11_80 hiX11_isWell hsX11_isWell (ci := 11) ⟨rfl, rfl⟩ ⟨Nat.le_of_ble_eq_true rfl, Nat.le_of_ble_eq_true rfl⟩ ⟨Nat.le_refl _, Nat.le_refl _⟩ rfl (Nat.le_of_ble_eq_true rfl) dX11_land_120 rfl (mX11_isWell (l := l) (D := D) (cI := cI) (cZ := cZ) hc).1 (mX11_isWell hc).2 ?_
  refine ev_if_eq (pc := 123) X 131 dX11_land_123 rfl (fun hc => ?_) (fun hc => ?_)
  · rw [if_pos hc] at h
    exact ev_weak (pc := 131) [1, 2] rfl (sX11_land_131 hK79 _ _ _ _ h p e s m args below meth c r0 A X)
  · rw [if_neg hc] at h
    refine ev_aload_n (pc := 126) X 1 dX11_land_126 rfl rfl ?_
    refine ev_iload_n (pc := 127) X 0 dX11_land_127 rfl rfl ?_
    obtain ⟨w5, hc, h⟩ := eBi h
    refine ev_callV_v (pc := 128) (As := [.int v2]) (S := []) X hwX11_readsItem klX11_106 hiX11_readsItem hsX11_readsItem (ci := 11) ⟨rfl, rfl⟩ ⟨Nat.le_of_ble_eq_true rfl, Nat.le_of_ble_eq_true rfl⟩ ⟨Nat.le_refl _, Nat.le_refl _⟩ rfl (Nat.le_of_ble_eq_true rfl) dX11_land_128 rfl (mX11_readsItem (l := l) (D := D) (cI := cI) (cZ := cZ) hc).1 (mX11_readsItem hc).2 ?_
    exact ev_weak (pc := 131) [1, 2] rfl (sX11_land_131 hK79 _ _ _ _ h p e s m args below meth c r0 A X)
def fX11_land_114 (K79 : Nat → Int32 → eW → Option (Int32 × eW)) (x0 : Nat) (x1 : Int32) (t0 : Nat) (w : eW) : Option (Int32 × eW) := fX11_land_115 K79 x0 x1 t0 (0 : Int32) w
set_option maxRecDepth 20000 in
theorem sX11_land_114 {K79 : Nat → Int32 → eW → Option (Int32 × eW)} (hK79 : ∀ (x0 : Nat) (x1 : Int32) (w : eW) (r : Int32 × eW), K79 x0 x1 w = some r → eBN l D cI cZ 5 yX11_land cX11_land 3 (some .int) 79 [(0, .ref x0), (1, .int x1)] [] w (some (.int r.1)) r.2) (x0 : Nat) (x1 : Int32) (t0 : Nat) (w : eW) (r : Int32 × eW) (h : fX11_land_114 K79 x0 x1 t0 w = some r) : eBN l D cI cZ 5 yX11_land cX11_land 3 (some .int) 114 [(0, .ref x0), (1, .int x1)] [.ref t0] w (some (.int r.1)) r.2 := by
  rw [fX11_land_114] at h
  intro p e s m args below meth c r0 A X
  refine ev_iconst (pc := 114) (v := (0 : Int32)) X dX11_land_114 rfl ?_
  exact ev_weak (pc := 115) [0, 1] rfl (sX11_land_115 hK79 _ _ _ _ _ _ h p e s m args below meth c r0 A X)
def fX11_land_155 (x0 : Nat) (x1 : Int32) (w : eW) : Option (Int32 × eW) := eBind2 (fX11_isWell x0 w) fun v2 w1 => if v2 = 0 then ((eGI w1 x0 11 8).bind fun v4 => some ((-10 : Int32) - v4, w1)) else ((fX11_settles x0 w1).bind fun w3 => some (x1, w3))
set_option maxRecDepth 20000 in
theorem sX11_land_155  (x0 : Nat) (x1 : Int32) (w : eW) (r : Int32 × eW) (h : fX11_land_155 x0 x1 w = some r) : eBN l D cI cZ 5 yX11_land cX11_land 3 (some .int) 155 [(0, .ref x0), (1, .int x1)] [] w (some (.int r.1)) r.2 := by
  rw [fX11_land_155] at h
  intro p e s m args below meth c r0 A X
  refine ev_aload_n (pc := 155) X 0 dX11_land_155 rfl rfl ?_
  obtain ⟨v2, w1, hc, h⟩ := eB2 h
  refine ev_callV_i (pc := 156) (As := []) (S := []) X hwX11_isWell klX11_80 hiX11_isWell hsX11_isWell (ci := 11) ⟨rfl, rfl⟩ ⟨Nat.le_of_ble_eq_true rfl, Nat.le_of_ble_eq_true rfl⟩ ⟨Nat.le_refl _, Nat.le_refl _⟩ rfl (Nat.le_of_ble_eq_true rfl) dX11_land_156 rfl (mX11_isWell (l := l) (D := D) (cI := cI) (cZ := cZ) hc).1 (mX11_isWell hc).2 ?_
  refine ev_if_ne (pc := 159) X 170 dX11_land_159 rfl (fun hc => ?_) (fun hc => ?_)
  · rw [if_neg hc] at h
    refine ev_aload_n (pc := 170) X 0 dX11_land_170 rfl rfl ?_
    obtain ⟨w3, hc, h⟩ := eBi h
    refine ev_callV_v (pc := 171) (As := []) (S := []) X hwX11_settles klX11_110 hiX11_settles hsX11_settles (ci := 11) ⟨rfl, rfl⟩ ⟨Nat.le_of_ble_eq_true rfl, Nat.le_of_ble_eq_true rfl⟩ ⟨Nat.le_refl _, Nat.le_refl _⟩ rfl (Nat.le_of_ble_eq_true rfl) dX11_land_171 rfl (mX11_settles (l := l) (D := D) (cI := cI) (cZ := cZ) hc).1 (mX11_settles hc).2 ?_
    refine ev_iload_n (pc := 174) X 1 dX11_land_174 rfl rfl ?_
    obtain rfl := Option.some.inj h
    exact ev_iret (pc := 175) X dX11_land_175
  · rw [if_pos hc] at h
    refine ev_bipush (pc := 162) (v := (-10 : Int32)) X dX11_land_162 rfl ?_
    refine ev_aload_n (pc := 164) X 0 dX11_land_164 rfl rfl ?_
    obtain ⟨v4, hv4, h⟩ := eBi h
    refine ev_getI (pc := 165) X hcX11 (k := 8) (by decide) kfX11_77 dX11_land_165 hv4 ?_
    refine ev_isub (pc := 168) X dX11_land_168 ?_
    obtain rfl := Option.some.inj h
    exact ev_iret (pc := 169) X dX11_land_169
def fX11_land_79 : Nat → Nat → Int32 → eW → Option (Int32 × eW)
  | 0, _, _, _ => none
  | n + 1, x0, x1, w => eBind2 (fX11_isWell x0 w) fun v2 w1 => if v2 = 0 then (fX11_land_155 x0 x1 w1) else ((eGI w1 x0 11 5).bind fun v3 => if v3 = 0 then (fX11_land_155 x0 x1 w1) else ((eGI w1 x0 11 5).bind fun v4 => if v4 = (1 : Int32) then (eBind2 (fX11_mayBegin x0 x1 w1) fun v6 w5 => if v6 = 0 then (fX11_land_114 (fX11_land_79 n) x0 x1 x0 w5) else (fX11_land_115 (fX11_land_79 n) x0 x1 x0 (1 : Int32) w5)) else (fX11_land_114 (fX11_land_79 n) x0 x1 x0 w1)))
set_option maxRecDepth 20000 in
theorem sX11_land_79  : ∀ (n : Nat) (x0 : Nat) (x1 : Int32) (w : eW) (r : Int32 × eW), fX11_land_79 n x0 x1 w = some r → eBN l D cI cZ 5 yX11_land cX11_land 3 (some .int) 79 [(0, .ref x0), (1, .int x1)] [] w (some (.int r.1)) r.2 := by
  intro n
  induction n with
  | zero => intro x0 x1 w r h; exact absurd (show (none : Option (Int32 × eW)) = some r from h) (by simp)
  | succ n ih =>
    intro x0 x1 w r h
    rw [fX11_land_79] at h
    intro p e s m args below meth c r0 A X
    refine ev_aload_n (pc := 79) X 0 dX11_land_79 rfl rfl ?_
    obtain ⟨v2, w1, hc, h⟩ := eB2 h
    refine ev_callV_i (pc := 80) (As := []) (S := []) X hwX11_isWell klX11_80 hiX11_isWell hsX11_isWell (ci := 11) ⟨rfl, rfl⟩ ⟨Nat.le_of_ble_eq_true rfl, Nat.le_of_ble_eq_true rfl⟩ ⟨Nat.le_refl _, Nat.le_refl _⟩ rfl (Nat.le_of_ble_eq_true rfl) dX11_land_80 rfl (mX11_isWell (l := l) (D := D) (cI := cI) (cZ := cZ) hc).1 (mX11_isWell hc).2 ?_
    refine ev_if_eq (pc := 83) X 155 dX11_land_83 rfl (fun hc => ?_) (fun hc => ?_)
    · rw [if_pos hc] at h
      exact ev_weak (pc := 155) [0, 1] rfl (sX11_land_155 _ _ _ _ h p e s m args below meth c r0 A X)
    · rw [if_neg hc] at h
      refine ev_aload_n (pc := 86) X 0 dX11_land_86 rfl rfl ?_
      obtain ⟨v3, hv3, h⟩ := eBi h
      refine ev_getI (pc := 87) X hcX11 (k := 5) (by decide) kfX11_71 dX11_land_87 hv3 ?_
      refine ev_if_eq (pc := 90) X 155 dX11_land_90 rfl (fun hc => ?_) (fun hc => ?_)
      · rw [if_pos hc] at h
        exact ev_weak (pc := 155) [0, 1] rfl (sX11_land_155 _ _ _ _ h p e s m args below meth c r0 A X)
      · rw [if_neg hc] at h
        refine ev_aload_n (pc := 93) X 0 dX11_land_93 rfl rfl ?_
        refine ev_aload_n (pc := 94) X 0 dX11_land_94 rfl rfl ?_
        obtain ⟨v4, hv4, h⟩ := eBi h
        refine ev_getI (pc := 95) X hcX11 (k := 5) (by decide) kfX11_71 dX11_land_95 hv4 ?_
        refine ev_iconst (pc := 98) (v := (1 : Int32)) X dX11_land_98 rfl ?_
        refine ev_icmp_ne (pc := 99) X 114 dX11_land_99 rfl (fun hc => ?_) (fun hc => ?_)
        · rw [if_neg hc] at h
          exact ev_weak (pc := 114) [0, 1] rfl (sX11_land_114 (fun _ _ w r hh => ih _ _ w r hh) _ _ _ _ _ h p e s m args below meth c r0 A X)
        · rw [if_pos hc] at h
          refine ev_aload_n (pc := 102) X 0 dX11_land_102 rfl rfl ?_
          refine ev_iload_n (pc := 103) X 1 dX11_land_103 rfl rfl ?_
          obtain ⟨v6, w5, hc, h⟩ := eB2 h
          refine ev_callV_i (pc := 104) (As := [.int x1]) (S := [.ref x0]) X hwX11_mayBegin klX11_103 hiX11_mayBegin hsX11_mayBegin (ci := 11) ⟨rfl, rfl⟩ ⟨Nat.le_of_ble_eq_true rfl, Nat.le_of_ble_eq_true rfl⟩ ⟨Nat.le_refl _, Nat.le_refl _⟩ rfl (Nat.le_of_ble_eq_true rfl) dX11_land_104 rfl (mX11_mayBegin (l := l) (D := D) (cI := cI) (cZ := cZ) hc).1 (mX11_mayBegin hc).2 ?_
          refine ev_if_eq (pc := 107) X 114 dX11_land_107 rfl (fun hc => ?_) (fun hc => ?_)
          · rw [if_pos hc] at h
            exact ev_weak (pc := 114) [0, 1] rfl (sX11_land_114 (fun _ _ w r hh => ih _ _ w r hh) _ _ _ _ _ h p e s m args below meth c r0 A X)
          · rw [if_neg hc] at h
            refine ev_iconst (pc := 110) (v := (1 : Int32)) X dX11_land_110 rfl ?_
            refine ev_goto (pc := 111) X 115 dX11_land_111 rfl ?_
            exact ev_weak (pc := 115) [0, 1] rfl (sX11_land_115 (fun _ _ w r hh => ih _ _ w r hh) _ _ _ _ _ _ h p e s m args below meth c r0 A X)
def fX11_land_56 : Nat → Nat → Int32 → Int32 → eW → Option (Int32 × eW)
  | 0, _, _, _, _ => none
  | n + 1, x0, x1, x2, w => if (40 : Int32) ≤ x2 then ((fX11_advances x0 w).bind fun w1 => fX11_land_79 eN x0 x1 w1) else ((eGR w x0 11 10).bind fun v2 => (eSt w false v2 x2 (0 : Int32)).bind fun w3 => fX11_land_56 n x0 x1 (x2 + (1 : Int32)) w3)
set_option maxRecDepth 20000 in
theorem sX11_land_56  : ∀ (n : Nat) (x0 : Nat) (x1 : Int32) (x2 : Int32) (w : eW) (r : Int32 × eW), fX11_land_56 n x0 x1 x2 w = some r → eBN l D cI cZ 5 yX11_land cX11_land 3 (some .int) 56 [(0, .ref x0), (1, .int x1), (2, .int x2)] [] w (some (.int r.1)) r.2 := by
  intro n
  induction n with
  | zero => intro x0 x1 x2 w r h; exact absurd (show (none : Option (Int32 × eW)) = some r from h) (by simp)
  | succ n ih =>
    intro x0 x1 x2 w r h
    rw [fX11_land_56] at h
    intro p e s m args below meth c r0 A X
    refine ev_iload_n (pc := 56) X 2 dX11_land_56 rfl rfl ?_
    refine ev_bipush (pc := 57) (v := (40 : Int32)) X dX11_land_57 rfl ?_
    refine ev_icmp_ge (pc := 59) X 75 dX11_land_59 rfl (fun hc => ?_) (fun hc => ?_)
    · rw [if_pos hc] at h
      refine ev_aload_n (pc := 75) X 0 dX11_land_75 rfl rfl ?_
      obtain ⟨w1, hc, h⟩ := eBi h
      refine ev_callV_v (pc := 76) (As := []) (S := []) X hwX11_advances klX11_84 hiX11_advances hsX11_advances (ci := 11) ⟨rfl, rfl⟩ ⟨Nat.le_of_ble_eq_true rfl, Nat.le_of_ble_eq_true rfl⟩ ⟨Nat.le_refl _, Nat.le_refl _⟩ rfl (Nat.le_of_ble_eq_true rfl) dX11_land_76 rfl (mX11_advances (l := l) (D := D) (cI := cI) (cZ := cZ) hc).1 (mX11_advances hc).2 ?_
      exact ev_weak (pc := 79) [0, 1] rfl (sX11_land_79 eN _ _ _ _ h p e s m args below meth c r0 A X)
    · rw [if_neg hc] at h
      refine ev_aload_n (pc := 62) X 0 dX11_land_62 rfl rfl ?_
      obtain ⟨v2, hv2, h⟩ := eBi h
      refine ev_getR (pc := 63) X hcX11 (k := 10) (by decide) kfX11_16 dX11_land_63 hv2 ?_
      refine ev_iload_n (pc := 66) X 2 dX11_land_66 rfl rfl ?_
      refine ev_iconst (pc := 67) (v := (0 : Int32)) X dX11_land_67 rfl ?_
      obtain ⟨w3, hw3, h⟩ := eBi h
      refine ev_iast (pc := 68) X dX11_land_68 hw3 ?_
      refine ev_iinc (pc := 69) (v := x2 + (1 : Int32)) (L' := [(2, .int (x2 + (1 : Int32))), (0, .ref x0), (1, .int x1)]) X 2 dX11_land_69 rfl rfl (by decide) rfl ?_
      refine ev_goto (pc := 72) X 56 dX11_land_72 rfl ?_
      exact ev_weak (pc := 56) [1, 2, 0] rfl (ih _ _ _ _ _ h p e s m args below meth c r0 A X)
def fX11_land_0 (x0 : Nat) (w : eW) : Option (Int32 × eW) := (eP w x0 11 0 (.int (0 : Int32))).bind fun w1 => (eP w1 x0 11 8 (.int (-1 : Int32))).bind fun w2 => (eP w2 x0 11 4 (.int (0 : Int32))).bind fun w3 => (eGR w3 x0 11 9).bind fun v4 => (eSt w3 false v4 (4 : Int32) (3 : Int32)).bind fun w5 => (eGR w5 x0 11 9).bind fun v6 => (eSt w5 false v6 (5 : Int32) (2 : Int32)).bind fun w7 => (eGR w7 x0 11 9).bind fun v8 => (eSt w7 false v8 (6 : Int32) (0 : Int32)).bind fun w9 => (eGR w9 x0 11 9).bind fun v10 => (eSt w9 false v10 (7 : Int32) (9 : Int32)).bind fun w11 => (eZ (0 : Int32)).bind fun v13 => (eP w11 x0 11 12 (.int v13)).bind fun w12 => fX11_land_56 eN x0 (0 : Int32) (20 : Int32) w12
set_option maxRecDepth 20000 in
theorem sX11_land_0  (x0 : Nat) (w : eW) (r : Int32 × eW) (h : fX11_land_0 x0 w = some r) : eBN l D cI cZ 5 yX11_land cX11_land 3 (some .int) 0 [(0, .ref x0)] [] w (some (.int r.1)) r.2 := by
  rw [fX11_land_0] at h
  intro p e s m args below meth c r0 A X
  refine ev_aload_n (pc := 0) X 0 dX11_land_0 rfl rfl ?_
  refine ev_iconst (pc := 1) (v := (0 : Int32)) X dX11_land_1 rfl ?_
  obtain ⟨w1, hw1, h⟩ := eBi h
  refine ev_putI (pc := 2) X hcX11 (k := 0) (by decide) kfX11_50 rfl rfl dX11_land_2 hw1 ?_
  refine ev_aload_n (pc := 5) X 0 dX11_land_5 rfl rfl ?_
  refine ev_iconst (pc := 6) (v := (-1 : Int32)) X dX11_land_6 rfl ?_
  obtain ⟨w2, hw2, h⟩ := eBi h
  refine ev_putI (pc := 7) X hcX11 (k := 8) (by decide) kfX11_77 rfl rfl dX11_land_7 hw2 ?_
  refine ev_aload_n (pc := 10) X 0 dX11_land_10 rfl rfl ?_
  refine ev_iconst (pc := 11) (v := (0 : Int32)) X dX11_land_11 rfl ?_
  obtain ⟨w3, hw3, h⟩ := eBi h
  refine ev_putI (pc := 12) X hcX11 (k := 4) (by decide) kfX11_61 rfl rfl dX11_land_12 hw3 ?_
  refine ev_iconst (pc := 15) (v := (0 : Int32)) X dX11_land_15 rfl ?_
  refine ev_istore_n (pc := 16) (L' := [(1, .int (0 : Int32)), (0, .ref x0)]) X dX11_land_16 rfl (by decide) rfl ?_
  refine ev_aload_n (pc := 17) X 1 dX11_land_17 rfl rfl ?_
  obtain ⟨v4, hv4, h⟩ := eBi h
  refine ev_getR (pc := 18) X hcX11 (k := 9) (by decide) kfX11_13 dX11_land_18 hv4 ?_
  refine ev_iconst (pc := 21) (v := (4 : Int32)) X dX11_land_21 rfl ?_
  refine ev_iconst (pc := 22) (v := (3 : Int32)) X dX11_land_22 rfl ?_
  obtain ⟨w5, hw5, h⟩ := eBi h
  refine ev_iast (pc := 23) X dX11_land_23 hw5 ?_
  refine ev_aload_n (pc := 24) X 1 dX11_land_24 rfl rfl ?_
  obtain ⟨v6, hv6, h⟩ := eBi h
  refine ev_getR (pc := 25) X hcX11 (k := 9) (by decide) kfX11_13 dX11_land_25 hv6 ?_
  refine ev_iconst (pc := 28) (v := (5 : Int32)) X dX11_land_28 rfl ?_
  refine ev_iconst (pc := 29) (v := (2 : Int32)) X dX11_land_29 rfl ?_
  obtain ⟨w7, hw7, h⟩ := eBi h
  refine ev_iast (pc := 30) X dX11_land_30 hw7 ?_
  refine ev_aload_n (pc := 31) X 1 dX11_land_31 rfl rfl ?_
  obtain ⟨v8, hv8, h⟩ := eBi h
  refine ev_getR (pc := 32) X hcX11 (k := 9) (by decide) kfX11_13 dX11_land_32 hv8 ?_
  refine ev_bipush (pc := 35) (v := (6 : Int32)) X dX11_land_35 rfl ?_
  refine ev_iconst (pc := 37) (v := (0 : Int32)) X dX11_land_37 rfl ?_
  obtain ⟨w9, hw9, h⟩ := eBi h
  refine ev_iast (pc := 38) X dX11_land_38 hw9 ?_
  refine ev_aload_n (pc := 39) X 1 dX11_land_39 rfl rfl ?_
  obtain ⟨v10, hv10, h⟩ := eBi h
  refine ev_getR (pc := 40) X hcX11 (k := 9) (by decide) kfX11_13 dX11_land_40 hv10 ?_
  refine ev_bipush (pc := 43) (v := (7 : Int32)) X dX11_land_43 rfl ?_
  refine ev_bipush (pc := 45) (v := (9 : Int32)) X dX11_land_45 rfl ?_
  obtain ⟨w11, hw11, h⟩ := eBi h
  refine ev_iast (pc := 47) X dX11_land_47 hw11 ?_
  refine ev_aload_n (pc := 48) X 1 dX11_land_48 rfl rfl ?_
  refine ev_iconst (pc := 49) (v := (0 : Int32)) X dX11_land_49 rfl ?_
  obtain ⟨v13, hv13, h⟩ := eBi h
  obtain ⟨w12, hw12, h⟩ := eBi h
  refine ev_putZ (pc := 50) X hcX11 (k := 12) (by decide) kfX11_91 rfl rfl dX11_land_50 hv13 hw12 ?_
  refine ev_bipush (pc := 53) (v := (20 : Int32)) X dX11_land_53 rfl ?_
  refine ev_istore_n (pc := 55) (L' := [(2, .int (20 : Int32)), (1, .int (0 : Int32)), (0, .ref x0)]) X dX11_land_55 rfl (by decide) rfl ?_
  exact ev_weak (pc := 56) [2, 1, 0] rfl (sX11_land_56 eN _ _ _ _ _ h p e s m args below meth c r0 A X)
def fX11_land (a0 : Nat) (w : eW) : Option (Int32 × eW) := bif eO w a0 11 then fX11_land_0 a0 w else none
theorem mX11_land {a0 : Nat} {w : eW} {v : Int32} {w' : eW} (h : fX11_land a0 w = some (v, w')) : eO w a0 11 = true ∧ eMN l D cI cZ 5 yX11_land cX11_land 3 (some .int) [.ref a0] w (some (.int v)) w' := by
  obtain ⟨h0, h⟩ := eBif h
  exact ⟨h0, eMN_of [(0, .ref a0)] (plainFor_of_name (by decide)) (fun _ => rfl) (fun _ => Nat.le_of_ble_eq_true rfl) (fun p e s m args below meth c r0 A X => ev_weak (pc := 0) [0] rfl (sX11_land_0 _ _ _ h p e s m args below meth c r0 A X))⟩
theorem dX11_cells_0 : decode cX11_cells 0 = .ok (.aload_n 0, 1) := by decide +kernel
theorem dX11_cells_1 : decode cX11_cells 1 = .ok (.getfield 13, 3) := by decide +kernel
theorem dX11_cells_4 : decode cX11_cells 4 = .ok (.iconst 0, 1) := by decide +kernel
theorem dX11_cells_5 : decode cX11_cells 5 = .ok (.iaload, 1) := by decide +kernel
theorem dX11_cells_6 : decode cX11_cells 6 = .ok (.aload_n 0, 1) := by decide +kernel
theorem dX11_cells_7 : decode cX11_cells 7 = .ok (.getfield 13, 3) := by decide +kernel
theorem dX11_cells_10 : decode cX11_cells 10 = .ok (.iconst 1, 1) := by decide +kernel
theorem dX11_cells_11 : decode cX11_cells 11 = .ok (.iaload, 1) := by decide +kernel
theorem dX11_cells_12 : decode cX11_cells 12 = .ok (.imul, 1) := by decide +kernel
theorem dX11_cells_13 : decode cX11_cells 13 = .ok (.ireturn, 1) := by decide +kernel
def fX11_cells_0 (x0 : Nat) (w : eW) : Option (Int32 × eW) := (eGR w x0 11 9).bind fun v1 => (eLd w false v1 (0 : Int32)).bind fun v2 => (eGR w x0 11 9).bind fun v3 => (eLd w false v3 (1 : Int32)).bind fun v4 => some (v2 * v4, w)
set_option maxRecDepth 20000 in
theorem sX11_cells_0  (x0 : Nat) (w : eW) (r : Int32 × eW) (h : fX11_cells_0 x0 w = some r) : eBN l D cI cZ 0 yX11_cells cX11_cells 1 (some .int) 0 [(0, .ref x0)] [] w (some (.int r.1)) r.2 := by
  rw [fX11_cells_0] at h
  intro p e s m args below meth c r0 A X
  refine ev_aload_n (pc := 0) X 0 dX11_cells_0 rfl rfl ?_
  obtain ⟨v1, hv1, h⟩ := eBi h
  refine ev_getR (pc := 1) X hcX11 (k := 9) (by decide) kfX11_13 dX11_cells_1 hv1 ?_
  refine ev_iconst (pc := 4) (v := (0 : Int32)) X dX11_cells_4 rfl ?_
  obtain ⟨v2, hv2, h⟩ := eBi h
  refine ev_iald (pc := 5) X dX11_cells_5 hv2 ?_
  refine ev_aload_n (pc := 6) X 0 dX11_cells_6 rfl rfl ?_
  obtain ⟨v3, hv3, h⟩ := eBi h
  refine ev_getR (pc := 7) X hcX11 (k := 9) (by decide) kfX11_13 dX11_cells_7 hv3 ?_
  refine ev_iconst (pc := 10) (v := (1 : Int32)) X dX11_cells_10 rfl ?_
  obtain ⟨v4, hv4, h⟩ := eBi h
  refine ev_iald (pc := 11) X dX11_cells_11 hv4 ?_
  refine ev_imul (pc := 12) X dX11_cells_12 ?_
  obtain rfl := Option.some.inj h
  exact ev_iret (pc := 13) X dX11_cells_13
def fX11_cells (a0 : Nat) (w : eW) : Option (Int32 × eW) := bif eO w a0 11 then fX11_cells_0 a0 w else none
theorem mX11_cells {a0 : Nat} {w : eW} {v : Int32} {w' : eW} (h : fX11_cells a0 w = some (v, w')) : eO w a0 11 = true ∧ eMN l D cI cZ 0 yX11_cells cX11_cells 1 (some .int) [.ref a0] w (some (.int v)) w' := by
  obtain ⟨h0, h⟩ := eBif h
  exact ⟨h0, eMN_of [(0, .ref a0)] (plainFor_of_name (by decide)) (fun _ => rfl) (fun _ => Nat.le_of_ble_eq_true rfl) (fun p e s m args below meth c r0 A X => ev_weak (pc := 0) [0] rfl (sX11_cells_0 _ _ _ h p e s m args below meth c r0 A X))⟩
theorem dX11_isCell_0 : decode cX11_isCell 0 = .ok (.iload_n 1, 1) := by decide +kernel
theorem dX11_isCell_1 : decode cX11_isCell 1 = .ok (.iconst 0, 1) := by decide +kernel
theorem dX11_isCell_2 : decode cX11_isCell 2 = .ok (.aload_n 0, 1) := by decide +kernel
theorem dX11_isCell_3 : decode cX11_isCell 3 = .ok (.invokevirtual 116, 3) := by decide +kernel
theorem dX11_isCell_6 : decode cX11_isCell 6 = .ok (.iconst 1, 1) := by decide +kernel
theorem dX11_isCell_7 : decode cX11_isCell 7 = .ok (.isub, 1) := by decide +kernel
theorem dX11_isCell_8 : decode cX11_isCell 8 = .ok (.invokestatic 54, 3) := by decide +kernel
theorem dX11_isCell_11 : decode cX11_isCell 11 = .ok (.ireturn, 1) := by decide +kernel
def fX11_isCell_0 (x0 : Nat) (x1 : Int32) (w : eW) : Option (Int32 × eW) := eBind2 (fX11_cells x0 w) fun v2 w1 => eBind2 (fX11_in x1 (0 : Int32) (v2 - (1 : Int32)) w1) fun v4 w3 => (eZ v4).bind fun v5 => some (v5, w3)
set_option maxRecDepth 20000 in
theorem sX11_isCell_0  (x0 : Nat) (x1 : Int32) (w : eW) (r : Int32 × eW) (h : fX11_isCell_0 x0 x1 w = some r) : eBN l D cI cZ 1 yX11_isCell cX11_isCell 2 (some .boolean) 0 [(0, .ref x0), (1, .int x1)] [] w (some (.int r.1)) r.2 := by
  rw [fX11_isCell_0] at h
  intro p e s m args below meth c r0 A X
  refine ev_iload_n (pc := 0) X 1 dX11_isCell_0 rfl rfl ?_
  refine ev_iconst (pc := 1) (v := (0 : Int32)) X dX11_isCell_1 rfl ?_
  refine ev_aload_n (pc := 2) X 0 dX11_isCell_2 rfl rfl ?_
  obtain ⟨v2, w1, hc, h⟩ := eB2 h
  refine ev_callV_i (pc := 3) (As := []) (S := [.int (0 : Int32), .int x1]) X hwX11_cells klX11_116 hiX11_cells hsX11_cells (ci := 11) ⟨rfl, rfl⟩ ⟨Nat.le_of_ble_eq_true rfl, Nat.le_of_ble_eq_true rfl⟩ ⟨Nat.le_refl _, Nat.le_refl _⟩ rfl (Nat.le_of_ble_eq_true rfl) dX11_isCell_3 rfl (mX11_cells (l := l) (D := D) (cI := cI) (cZ := cZ) hc).1 (mX11_cells hc).2 ?_
  refine ev_iconst (pc := 6) (v := (1 : Int32)) X dX11_isCell_6 rfl ?_
  refine ev_isub (pc := 7) X dX11_isCell_7 ?_
  obtain ⟨v4, w3, hc, h⟩ := eB2 h
  refine ev_callS_i (pc := 8) (As := [.int x1, .int (0 : Int32), .int (v2 - (1 : Int32))]) (S := []) X hwX11_in klX11_54 htX11_in ⟨Nat.le_of_ble_eq_true rfl, Nat.le_of_ble_eq_true rfl⟩ ⟨Nat.le_refl _, Nat.le_refl _⟩ rfl (Nat.le_of_ble_eq_true rfl) dX11_isCell_8 rfl (mX11_in hc) ?_
  obtain ⟨v5, hv5, h⟩ := eBi h
  obtain rfl := Option.some.inj h
  exact ev_zret (pc := 11) X dX11_isCell_11 hv5
def fX11_isCell (a0 : Nat) (a1 : Int32) (w : eW) : Option (Int32 × eW) := bif eO w a0 11 then fX11_isCell_0 a0 a1 w else none
theorem mX11_isCell {a0 : Nat} {a1 : Int32} {w : eW} {v : Int32} {w' : eW} (h : fX11_isCell a0 a1 w = some (v, w')) : eO w a0 11 = true ∧ eMN l D cI cZ 1 yX11_isCell cX11_isCell 2 (some .boolean) [.ref a0, .int a1] w (some (.int v)) w' := by
  obtain ⟨h0, h⟩ := eBif h
  exact ⟨h0, eMN_of [(0, .ref a0), (1, .int a1)] (plainFor_of_name (by decide)) (fun _ => rfl) (fun _ => Nat.le_of_ble_eq_true rfl) (fun p e s m args below meth c r0 A X => ev_weak (pc := 0) [0, 1] rfl (sX11_isCell_0 _ _ _ _ h p e s m args below meth c r0 A X))⟩
theorem dX11_isBolt_0 : decode cX11_isBolt 0 = .ok (.iload_n 1, 1) := by decide +kernel
theorem dX11_isBolt_1 : decode cX11_isBolt 1 = .ok (.iconst 0, 1) := by decide +kernel
theorem dX11_isBolt_2 : decode cX11_isBolt 2 = .ok (.aload_n 0, 1) := by decide +kernel
theorem dX11_isBolt_3 : decode cX11_isBolt 3 = .ok (.getfield 22, 3) := by decide +kernel
theorem dX11_isBolt_6 : decode cX11_isBolt 6 = .ok (.iconst 0, 1) := by decide +kernel
theorem dX11_isBolt_7 : decode cX11_isBolt 7 = .ok (.iaload, 1) := by decide +kernel
theorem dX11_isBolt_8 : decode cX11_isBolt 8 = .ok (.iconst 1, 1) := by decide +kernel
theorem dX11_isBolt_9 : decode cX11_isBolt 9 = .ok (.isub, 1) := by decide +kernel
theorem dX11_isBolt_10 : decode cX11_isBolt 10 = .ok (.invokestatic 54, 3) := by decide +kernel
theorem dX11_isBolt_13 : decode cX11_isBolt 13 = .ok (.ireturn, 1) := by decide +kernel
def fX11_isBolt_0 (x0 : Nat) (x1 : Int32) (w : eW) : Option (Int32 × eW) := (eGR w x0 11 13).bind fun v1 => (eLd w false v1 (0 : Int32)).bind fun v2 => eBind2 (fX11_in x1 (0 : Int32) (v2 - (1 : Int32)) w) fun v4 w3 => (eZ v4).bind fun v5 => some (v5, w3)
set_option maxRecDepth 20000 in
theorem sX11_isBolt_0  (x0 : Nat) (x1 : Int32) (w : eW) (r : Int32 × eW) (h : fX11_isBolt_0 x0 x1 w = some r) : eBN l D cI cZ 1 yX11_isBolt cX11_isBolt 2 (some .boolean) 0 [(0, .ref x0), (1, .int x1)] [] w (some (.int r.1)) r.2 := by
  rw [fX11_isBolt_0] at h
  intro p e s m args below meth c r0 A X
  refine ev_iload_n (pc := 0) X 1 dX11_isBolt_0 rfl rfl ?_
  refine ev_iconst (pc := 1) (v := (0 : Int32)) X dX11_isBolt_1 rfl ?_
  refine ev_aload_n (pc := 2) X 0 dX11_isBolt_2 rfl rfl ?_
  obtain ⟨v1, hv1, h⟩ := eBi h
  refine ev_getR (pc := 3) X hcX11 (k := 13) (by decide) kfX11_22 dX11_isBolt_3 hv1 ?_
  refine ev_iconst (pc := 6) (v := (0 : Int32)) X dX11_isBolt_6 rfl ?_
  obtain ⟨v2, hv2, h⟩ := eBi h
  refine ev_iald (pc := 7) X dX11_isBolt_7 hv2 ?_
  refine ev_iconst (pc := 8) (v := (1 : Int32)) X dX11_isBolt_8 rfl ?_
  refine ev_isub (pc := 9) X dX11_isBolt_9 ?_
  obtain ⟨v4, w3, hc, h⟩ := eB2 h
  refine ev_callS_i (pc := 10) (As := [.int x1, .int (0 : Int32), .int (v2 - (1 : Int32))]) (S := []) X hwX11_in klX11_54 htX11_in ⟨Nat.le_of_ble_eq_true rfl, Nat.le_of_ble_eq_true rfl⟩ ⟨Nat.le_refl _, Nat.le_refl _⟩ rfl (Nat.le_of_ble_eq_true rfl) dX11_isBolt_10 rfl (mX11_in hc) ?_
  obtain ⟨v5, hv5, h⟩ := eBi h
  obtain rfl := Option.some.inj h
  exact ev_zret (pc := 13) X dX11_isBolt_13 hv5
def fX11_isBolt (a0 : Nat) (a1 : Int32) (w : eW) : Option (Int32 × eW) := bif eO w a0 11 then fX11_isBolt_0 a0 a1 w else none
theorem mX11_isBolt {a0 : Nat} {a1 : Int32} {w : eW} {v : Int32} {w' : eW} (h : fX11_isBolt a0 a1 w = some (v, w')) : eO w a0 11 = true ∧ eMN l D cI cZ 1 yX11_isBolt cX11_isBolt 2 (some .boolean) [.ref a0, .int a1] w (some (.int v)) w' := by
  obtain ⟨h0, h⟩ := eBif h
  exact ⟨h0, eMN_of [(0, .ref a0), (1, .int a1)] (plainFor_of_name (by decide)) (fun _ => rfl) (fun _ => Nat.le_of_ble_eq_true rfl) (fun p e s m args below meth c r0 A X => ev_weak (pc := 0) [0, 1] rfl (sX11_isBolt_0 _ _ _ _ h p e s m args below meth c r0 A X))⟩
theorem dX11_height_0 : decode cX11_height 0 = .ok (.aload_n 0, 1) := by decide +kernel
theorem dX11_height_1 : decode cX11_height 1 = .ok (.iconst 0, 1) := by decide +kernel
theorem dX11_height_2 : decode cX11_height 2 = .ok (.putfield 50, 3) := by decide +kernel
theorem dX11_height_5 : decode cX11_height 5 = .ok (.aload_n 0, 1) := by decide +kernel
theorem dX11_height_6 : decode cX11_height 6 = .ok (.iload_n 1, 1) := by decide +kernel
theorem dX11_height_7 : decode cX11_height 7 = .ok (.invokevirtual 120, 3) := by decide +kernel
theorem dX11_height_10 : decode cX11_height 10 = .ok (.ifCond .eq 12, 3) := by decide +kernel
theorem dX11_height_13 : decode cX11_height 13 = .ok (.aload_n 0, 1) := by decide +kernel
theorem dX11_height_14 : decode cX11_height 14 = .ok (.getfield 16, 3) := by decide +kernel
theorem dX11_height_17 : decode cX11_height 17 = .ok (.iload_n 1, 1) := by decide +kernel
theorem dX11_height_18 : decode cX11_height 18 = .ok (.iaload, 1) := by decide +kernel
theorem dX11_height_19 : decode cX11_height 19 = .ok (.goto 4, 3) := by decide +kernel
theorem dX11_height_22 : decode cX11_height 22 = .ok (.iconst (-1), 1) := by decide +kernel
theorem dX11_height_23 : decode cX11_height 23 = .ok (.ireturn, 1) := by decide +kernel
def fX11_height_0 (x0 : Nat) (x1 : Int32) (w : eW) : Option (Int32 × eW) := (eP w x0 11 0 (.int (0 : Int32))).bind fun w1 => eBind2 (fX11_isCell x0 x1 w1) fun v3 w2 => if v3 = 0 then (some ((-1 : Int32), w2)) else ((eGR w2 x0 11 10).bind fun v4 => (eLd w2 false v4 x1).bind fun v5 => some (v5, w2))
set_option maxRecDepth 20000 in
theorem sX11_height_0  (x0 : Nat) (x1 : Int32) (w : eW) (r : Int32 × eW) (h : fX11_height_0 x0 x1 w = some r) : eBN l D cI cZ 2 yX11_height cX11_height 2 (some .int) 0 [(0, .ref x0), (1, .int x1)] [] w (some (.int r.1)) r.2 := by
  rw [fX11_height_0] at h
  intro p e s m args below meth c r0 A X
  refine ev_aload_n (pc := 0) X 0 dX11_height_0 rfl rfl ?_
  refine ev_iconst (pc := 1) (v := (0 : Int32)) X dX11_height_1 rfl ?_
  obtain ⟨w1, hw1, h⟩ := eBi h
  refine ev_putI (pc := 2) X hcX11 (k := 0) (by decide) kfX11_50 rfl rfl dX11_height_2 hw1 ?_
  refine ev_aload_n (pc := 5) X 0 dX11_height_5 rfl rfl ?_
  refine ev_iload_n (pc := 6) X 1 dX11_height_6 rfl rfl ?_
  obtain ⟨v3, w2, hc, h⟩ := eB2 h
  refine ev_callV_i (pc := 7) (As := [.int x1]) (S := []) X hwX11_isCell klX11_120 hiX11_isCell hsX11_isCell (ci := 11) ⟨rfl, rfl⟩ ⟨Nat.le_of_ble_eq_true rfl, Nat.le_of_ble_eq_true rfl⟩ ⟨Nat.le_refl _, Nat.le_refl _⟩ rfl (Nat.le_of_ble_eq_true rfl) dX11_height_7 rfl (mX11_isCell (l := l) (D := D) (cI := cI) (cZ := cZ) hc).1 (mX11_isCell hc).2 ?_
  refine ev_if_eq (pc := 10) X 22 dX11_height_10 rfl (fun hc => ?_) (fun hc => ?_)
  · rw [if_pos hc] at h
    refine ev_iconst (pc := 22) (v := (-1 : Int32)) X dX11_height_22 rfl ?_
    obtain rfl := Option.some.inj h
    exact ev_iret (pc := 23) X dX11_height_23
  · rw [if_neg hc] at h
    refine ev_aload_n (pc := 13) X 0 dX11_height_13 rfl rfl ?_
    obtain ⟨v4, hv4, h⟩ := eBi h
    refine ev_getR (pc := 14) X hcX11 (k := 10) (by decide) kfX11_16 dX11_height_14 hv4 ?_
    refine ev_iload_n (pc := 17) X 1 dX11_height_17 rfl rfl ?_
    obtain ⟨v5, hv5, h⟩ := eBi h
    refine ev_iald (pc := 18) X dX11_height_18 hv5 ?_
    refine ev_goto (pc := 19) X 23 dX11_height_19 rfl ?_
    obtain rfl := Option.some.inj h
    exact ev_iret (pc := 23) X dX11_height_23
def fX11_height (a0 : Nat) (a1 : Int32) (w : eW) : Option (Int32 × eW) := bif eO w a0 11 then fX11_height_0 a0 a1 w else none
theorem mX11_height {a0 : Nat} {a1 : Int32} {w : eW} {v : Int32} {w' : eW} (h : fX11_height a0 a1 w = some (v, w')) : eO w a0 11 = true ∧ eMN l D cI cZ 2 yX11_height cX11_height 2 (some .int) [.ref a0, .int a1] w (some (.int v)) w' := by
  obtain ⟨h0, h⟩ := eBif h
  exact ⟨h0, eMN_of [(0, .ref a0), (1, .int a1)] (plainFor_of_name (by decide)) (fun _ => rfl) (fun _ => Nat.le_of_ble_eq_true rfl) (fun p e s m args below meth c r0 A X => ev_weak (pc := 0) [0, 1] rfl (sX11_height_0 _ _ _ _ h p e s m args below meth c r0 A X))⟩
theorem dX11_town_0 : decode cX11_town 0 = .ok (.aload_n 0, 1) := by decide +kernel
theorem dX11_town_1 : decode cX11_town 1 = .ok (.iconst 0, 1) := by decide +kernel
theorem dX11_town_2 : decode cX11_town 2 = .ok (.putfield 50, 3) := by decide +kernel
theorem dX11_town_5 : decode cX11_town 5 = .ok (.iload_n 1, 1) := by decide +kernel
theorem dX11_town_6 : decode cX11_town 6 = .ok (.iconst 0, 1) := by decide +kernel
theorem dX11_town_7 : decode cX11_town 7 = .ok (.aload_n 0, 1) := by decide +kernel
theorem dX11_town_8 : decode cX11_town 8 = .ok (.getfield 13, 3) := by decide +kernel
theorem dX11_town_11 : decode cX11_town 11 = .ok (.iconst 2, 1) := by decide +kernel
theorem dX11_town_12 : decode cX11_town 12 = .ok (.iaload, 1) := by decide +kernel
theorem dX11_town_13 : decode cX11_town 13 = .ok (.iconst 1, 1) := by decide +kernel
theorem dX11_town_14 : decode cX11_town 14 = .ok (.isub, 1) := by decide +kernel
theorem dX11_town_15 : decode cX11_town 15 = .ok (.invokestatic 54, 3) := by decide +kernel
theorem dX11_town_18 : decode cX11_town 18 = .ok (.ifCond .eq 12, 3) := by decide +kernel
theorem dX11_town_21 : decode cX11_town 21 = .ok (.aload_n 0, 1) := by decide +kernel
theorem dX11_town_22 : decode cX11_town 22 = .ok (.getfield 19, 3) := by decide +kernel
theorem dX11_town_25 : decode cX11_town 25 = .ok (.iload_n 1, 1) := by decide +kernel
theorem dX11_town_26 : decode cX11_town 26 = .ok (.iaload, 1) := by decide +kernel
theorem dX11_town_27 : decode cX11_town 27 = .ok (.goto 4, 3) := by decide +kernel
theorem dX11_town_30 : decode cX11_town 30 = .ok (.iconst (-1), 1) := by decide +kernel
theorem dX11_town_31 : decode cX11_town 31 = .ok (.ireturn, 1) := by decide +kernel
def fX11_town_0 (x0 : Nat) (x1 : Int32) (w : eW) : Option (Int32 × eW) := (eP w x0 11 0 (.int (0 : Int32))).bind fun w1 => (eGR w1 x0 11 9).bind fun v2 => (eLd w1 false v2 (2 : Int32)).bind fun v3 => eBind2 (fX11_in x1 (0 : Int32) (v3 - (1 : Int32)) w1) fun v5 w4 => if v5 = 0 then (some ((-1 : Int32), w4)) else ((eGR w4 x0 11 11).bind fun v6 => (eLd w4 false v6 x1).bind fun v7 => some (v7, w4))
set_option maxRecDepth 20000 in
theorem sX11_town_0  (x0 : Nat) (x1 : Int32) (w : eW) (r : Int32 × eW) (h : fX11_town_0 x0 x1 w = some r) : eBN l D cI cZ 1 yX11_town cX11_town 2 (some .int) 0 [(0, .ref x0), (1, .int x1)] [] w (some (.int r.1)) r.2 := by
  rw [fX11_town_0] at h
  intro p e s m args below meth c r0 A X
  refine ev_aload_n (pc := 0) X 0 dX11_town_0 rfl rfl ?_
  refine ev_iconst (pc := 1) (v := (0 : Int32)) X dX11_town_1 rfl ?_
  obtain ⟨w1, hw1, h⟩ := eBi h
  refine ev_putI (pc := 2) X hcX11 (k := 0) (by decide) kfX11_50 rfl rfl dX11_town_2 hw1 ?_
  refine ev_iload_n (pc := 5) X 1 dX11_town_5 rfl rfl ?_
  refine ev_iconst (pc := 6) (v := (0 : Int32)) X dX11_town_6 rfl ?_
  refine ev_aload_n (pc := 7) X 0 dX11_town_7 rfl rfl ?_
  obtain ⟨v2, hv2, h⟩ := eBi h
  refine ev_getR (pc := 8) X hcX11 (k := 9) (by decide) kfX11_13 dX11_town_8 hv2 ?_
  refine ev_iconst (pc := 11) (v := (2 : Int32)) X dX11_town_11 rfl ?_
  obtain ⟨v3, hv3, h⟩ := eBi h
  refine ev_iald (pc := 12) X dX11_town_12 hv3 ?_
  refine ev_iconst (pc := 13) (v := (1 : Int32)) X dX11_town_13 rfl ?_
  refine ev_isub (pc := 14) X dX11_town_14 ?_
  obtain ⟨v5, w4, hc, h⟩ := eB2 h
  refine ev_callS_i (pc := 15) (As := [.int x1, .int (0 : Int32), .int (v3 - (1 : Int32))]) (S := []) X hwX11_in klX11_54 htX11_in ⟨Nat.le_of_ble_eq_true rfl, Nat.le_of_ble_eq_true rfl⟩ ⟨Nat.le_refl _, Nat.le_refl _⟩ rfl (Nat.le_of_ble_eq_true rfl) dX11_town_15 rfl (mX11_in hc) ?_
  refine ev_if_eq (pc := 18) X 30 dX11_town_18 rfl (fun hc => ?_) (fun hc => ?_)
  · rw [if_pos hc] at h
    refine ev_iconst (pc := 30) (v := (-1 : Int32)) X dX11_town_30 rfl ?_
    obtain rfl := Option.some.inj h
    exact ev_iret (pc := 31) X dX11_town_31
  · rw [if_neg hc] at h
    refine ev_aload_n (pc := 21) X 0 dX11_town_21 rfl rfl ?_
    obtain ⟨v6, hv6, h⟩ := eBi h
    refine ev_getR (pc := 22) X hcX11 (k := 11) (by decide) kfX11_19 dX11_town_22 hv6 ?_
    refine ev_iload_n (pc := 25) X 1 dX11_town_25 rfl rfl ?_
    obtain ⟨v7, hv7, h⟩ := eBi h
    refine ev_iald (pc := 26) X dX11_town_26 hv7 ?_
    refine ev_goto (pc := 27) X 31 dX11_town_27 rfl ?_
    obtain rfl := Option.some.inj h
    exact ev_iret (pc := 31) X dX11_town_31
def fX11_town (a0 : Nat) (a1 : Int32) (w : eW) : Option (Int32 × eW) := bif eO w a0 11 then fX11_town_0 a0 a1 w else none
theorem mX11_town {a0 : Nat} {a1 : Int32} {w : eW} {v : Int32} {w' : eW} (h : fX11_town a0 a1 w = some (v, w')) : eO w a0 11 = true ∧ eMN l D cI cZ 1 yX11_town cX11_town 2 (some .int) [.ref a0, .int a1] w (some (.int v)) w' := by
  obtain ⟨h0, h⟩ := eBif h
  exact ⟨h0, eMN_of [(0, .ref a0), (1, .int a1)] (plainFor_of_name (by decide)) (fun _ => rfl) (fun _ => Nat.le_of_ble_eq_true rfl) (fun p e s m args below meth c r0 A X => ev_weak (pc := 0) [0, 1] rfl (sX11_town_0 _ _ _ _ h p e s m args below meth c r0 A X))⟩
theorem dX11_leads_0 : decode cX11_leads 0 = .ok (.iload_n 1, 1) := by decide +kernel
theorem dX11_leads_1 : decode cX11_leads 1 = .ok (.aload_n 0, 1) := by decide +kernel
theorem dX11_leads_2 : decode cX11_leads 2 = .ok (.getfield 13, 3) := by decide +kernel
theorem dX11_leads_5 : decode cX11_leads 5 = .ok (.iconst 0, 1) := by decide +kernel
theorem dX11_leads_6 : decode cX11_leads 6 = .ok (.iaload, 1) := by decide +kernel
theorem dX11_leads_7 : decode cX11_leads 7 = .ok (.irem, 1) := by decide +kernel
theorem dX11_leads_8 : decode cX11_leads 8 = .ok (.iload_n 2, 1) := by decide +kernel
theorem dX11_leads_9 : decode cX11_leads 9 = .ok (.iconst 1, 1) := by decide +kernel
theorem dX11_leads_10 : decode cX11_leads 10 = .ok (.if_icmp .ne 7, 3) := by decide +kernel
theorem dX11_leads_13 : decode cX11_leads 13 = .ok (.iconst 1, 1) := by decide +kernel
theorem dX11_leads_14 : decode cX11_leads 14 = .ok (.goto 13, 3) := by decide +kernel
theorem dX11_leads_17 : decode cX11_leads 17 = .ok (.iload_n 2, 1) := by decide +kernel
theorem dX11_leads_18 : decode cX11_leads 18 = .ok (.iconst 3, 1) := by decide +kernel
theorem dX11_leads_19 : decode cX11_leads 19 = .ok (.if_icmp .ne 7, 3) := by decide +kernel
theorem dX11_leads_22 : decode cX11_leads 22 = .ok (.iconst (-1), 1) := by decide +kernel
theorem dX11_leads_23 : decode cX11_leads 23 = .ok (.goto 4, 3) := by decide +kernel
theorem dX11_leads_26 : decode cX11_leads 26 = .ok (.iconst 0, 1) := by decide +kernel
theorem dX11_leads_27 : decode cX11_leads 27 = .ok (.iadd, 1) := by decide +kernel
theorem dX11_leads_28 : decode cX11_leads 28 = .ok (.istore_n 3, 1) := by decide +kernel
theorem dX11_leads_29 : decode cX11_leads 29 = .ok (.iload_n 1, 1) := by decide +kernel
theorem dX11_leads_30 : decode cX11_leads 30 = .ok (.aload_n 0, 1) := by decide +kernel
theorem dX11_leads_31 : decode cX11_leads 31 = .ok (.getfield 13, 3) := by decide +kernel
theorem dX11_leads_34 : decode cX11_leads 34 = .ok (.iconst 0, 1) := by decide +kernel
theorem dX11_leads_35 : decode cX11_leads 35 = .ok (.iaload, 1) := by decide +kernel
theorem dX11_leads_36 : decode cX11_leads 36 = .ok (.idiv, 1) := by decide +kernel
theorem dX11_leads_37 : decode cX11_leads 37 = .ok (.iload_n 2, 1) := by decide +kernel
theorem dX11_leads_38 : decode cX11_leads 38 = .ok (.iconst 2, 1) := by decide +kernel
theorem dX11_leads_39 : decode cX11_leads 39 = .ok (.if_icmp .ne 7, 3) := by decide +kernel
theorem dX11_leads_42 : decode cX11_leads 42 = .ok (.iconst 1, 1) := by decide +kernel
theorem dX11_leads_43 : decode cX11_leads 43 = .ok (.goto 12, 3) := by decide +kernel
theorem dX11_leads_46 : decode cX11_leads 46 = .ok (.iload_n 2, 1) := by decide +kernel
theorem dX11_leads_47 : decode cX11_leads 47 = .ok (.ifCond .ne 7, 3) := by decide +kernel
theorem dX11_leads_50 : decode cX11_leads 50 = .ok (.iconst (-1), 1) := by decide +kernel
theorem dX11_leads_51 : decode cX11_leads 51 = .ok (.goto 4, 3) := by decide +kernel
theorem dX11_leads_54 : decode cX11_leads 54 = .ok (.iconst 0, 1) := by decide +kernel
theorem dX11_leads_55 : decode cX11_leads 55 = .ok (.iadd, 1) := by decide +kernel
theorem dX11_leads_56 : decode cX11_leads 56 = .ok (.istore 4, 2) := by decide +kernel
theorem dX11_leads_58 : decode cX11_leads 58 = .ok (.iload_n 3, 1) := by decide +kernel
theorem dX11_leads_59 : decode cX11_leads 59 = .ok (.iconst 0, 1) := by decide +kernel
theorem dX11_leads_60 : decode cX11_leads 60 = .ok (.aload_n 0, 1) := by decide +kernel
theorem dX11_leads_61 : decode cX11_leads 61 = .ok (.getfield 13, 3) := by decide +kernel
theorem dX11_leads_64 : decode cX11_leads 64 = .ok (.iconst 0, 1) := by decide +kernel
theorem dX11_leads_65 : decode cX11_leads 65 = .ok (.iaload, 1) := by decide +kernel
theorem dX11_leads_66 : decode cX11_leads 66 = .ok (.iconst 1, 1) := by decide +kernel
theorem dX11_leads_67 : decode cX11_leads 67 = .ok (.isub, 1) := by decide +kernel
theorem dX11_leads_68 : decode cX11_leads 68 = .ok (.invokestatic 54, 3) := by decide +kernel
theorem dX11_leads_71 : decode cX11_leads 71 = .ok (.ifCond .eq 34, 3) := by decide +kernel
theorem dX11_leads_74 : decode cX11_leads 74 = .ok (.iload 4, 2) := by decide +kernel
theorem dX11_leads_76 : decode cX11_leads 76 = .ok (.iconst 0, 1) := by decide +kernel
theorem dX11_leads_77 : decode cX11_leads 77 = .ok (.aload_n 0, 1) := by decide +kernel
theorem dX11_leads_78 : decode cX11_leads 78 = .ok (.getfield 13, 3) := by decide +kernel
theorem dX11_leads_81 : decode cX11_leads 81 = .ok (.iconst 1, 1) := by decide +kernel
theorem dX11_leads_82 : decode cX11_leads 82 = .ok (.iaload, 1) := by decide +kernel
theorem dX11_leads_83 : decode cX11_leads 83 = .ok (.iconst 1, 1) := by decide +kernel
theorem dX11_leads_84 : decode cX11_leads 84 = .ok (.isub, 1) := by decide +kernel
theorem dX11_leads_85 : decode cX11_leads 85 = .ok (.invokestatic 54, 3) := by decide +kernel
theorem dX11_leads_88 : decode cX11_leads 88 = .ok (.ifCond .eq 17, 3) := by decide +kernel
theorem dX11_leads_91 : decode cX11_leads 91 = .ok (.aload_n 0, 1) := by decide +kernel
theorem dX11_leads_92 : decode cX11_leads 92 = .ok (.getfield 13, 3) := by decide +kernel
theorem dX11_leads_95 : decode cX11_leads 95 = .ok (.iconst 0, 1) := by decide +kernel
theorem dX11_leads_96 : decode cX11_leads 96 = .ok (.iaload, 1) := by decide +kernel
theorem dX11_leads_97 : decode cX11_leads 97 = .ok (.iload 4, 2) := by decide +kernel
theorem dX11_leads_99 : decode cX11_leads 99 = .ok (.imul, 1) := by decide +kernel
theorem dX11_leads_100 : decode cX11_leads 100 = .ok (.iload_n 3, 1) := by decide +kernel
theorem dX11_leads_101 : decode cX11_leads 101 = .ok (.iadd, 1) := by decide +kernel
theorem dX11_leads_102 : decode cX11_leads 102 = .ok (.goto 5, 3) := by decide +kernel
theorem dX11_leads_105 : decode cX11_leads 105 = .ok (.bipush (-9), 2) := by decide +kernel
theorem dX11_leads_107 : decode cX11_leads 107 = .ok (.ireturn, 1) := by decide +kernel
def fX11_leads_105  (w : eW) : Option (Int32 × eW) := some ((-9 : Int32), w)
set_option maxRecDepth 20000 in
theorem sX11_leads_105   (w : eW) (r : Int32 × eW) (h : fX11_leads_105  w = some r) : eBN l D cI cZ 1 yX11_leads cX11_leads 5 (some .int) 105 [] [] w (some (.int r.1)) r.2 := by
  rw [fX11_leads_105] at h
  intro p e s m args below meth c r0 A X
  refine ev_bipush (pc := 105) (v := (-9 : Int32)) X dX11_leads_105 rfl ?_
  obtain rfl := Option.some.inj h
  exact ev_iret (pc := 107) X dX11_leads_107
def fX11_leads_55 (x0 : Nat) (x3 : Int32) (t0 : Int32) (t1 : Int32) (w : eW) : Option (Int32 × eW) := (eGR w x0 11 9).bind fun v1 => (eLd w false v1 (0 : Int32)).bind fun v2 => eBind2 (fX11_in x3 (0 : Int32) (v2 - (1 : Int32)) w) fun v4 w3 => if v4 = 0 then (fX11_leads_105 w3) else ((eGR w3 x0 11 9).bind fun v5 => (eLd w3 false v5 (1 : Int32)).bind fun v6 => eBind2 (fX11_in (t0 + t1) (0 : Int32) (v6 - (1 : Int32)) w3) fun v8 w7 => if v8 = 0 then (fX11_leads_105 w7) else ((eGR w7 x0 11 9).bind fun v9 => (eLd w7 false v9 (0 : Int32)).bind fun v10 => some ((v10 * (t0 + t1)) + x3, w7)))
set_option maxRecDepth 20000 in
theorem sX11_leads_55  (x0 : Nat) (x3 : Int32) (t0 : Int32) (t1 : Int32) (w : eW) (r : Int32 × eW) (h : fX11_leads_55 x0 x3 t0 t1 w = some r) : eBN l D cI cZ 1 yX11_leads cX11_leads 5 (some .int) 55 [(0, .ref x0), (3, .int x3)] [.int t1, .int t0] w (some (.int r.1)) r.2 := by
  rw [fX11_leads_55] at h
  intro p e s m args below meth c r0 A X
  refine ev_iadd (pc := 55) X dX11_leads_55 ?_
  refine ev_istore (pc := 56) (L' := [(4, .int (t0 + t1)), (0, .ref x0), (3, .int x3)]) X dX11_leads_56 (by decide) rfl ?_
  refine ev_iload_n (pc := 58) X 2 dX11_leads_58 rfl rfl ?_
  refine ev_iconst (pc := 59) (v := (0 : Int32)) X dX11_leads_59 rfl ?_
  refine ev_aload_n (pc := 60) X 1 dX11_leads_60 rfl rfl ?_
  obtain ⟨v1, hv1, h⟩ := eBi h
  refine ev_getR (pc := 61) X hcX11 (k := 9) (by decide) kfX11_13 dX11_leads_61 hv1 ?_
  refine ev_iconst (pc := 64) (v := (0 : Int32)) X dX11_leads_64 rfl ?_
  obtain ⟨v2, hv2, h⟩ := eBi h
  refine ev_iald (pc := 65) X dX11_leads_65 hv2 ?_
  refine ev_iconst (pc := 66) (v := (1 : Int32)) X dX11_leads_66 rfl ?_
  refine ev_isub (pc := 67) X dX11_leads_67 ?_
  obtain ⟨v4, w3, hc, h⟩ := eB2 h
  refine ev_callS_i (pc := 68) (As := [.int x3, .int (0 : Int32), .int (v2 - (1 : Int32))]) (S := []) X hwX11_in klX11_54 htX11_in ⟨Nat.le_of_ble_eq_true rfl, Nat.le_of_ble_eq_true rfl⟩ ⟨Nat.le_refl _, Nat.le_refl _⟩ rfl (Nat.le_of_ble_eq_true rfl) dX11_leads_68 rfl (mX11_in hc) ?_
  refine ev_if_eq (pc := 71) X 105 dX11_leads_71 rfl (fun hc => ?_) (fun hc => ?_)
  · rw [if_pos hc] at h
    exact ev_weak (pc := 105) [] rfl (sX11_leads_105  _ _ h p e s m args below meth c r0 A X)
  · rw [if_neg hc] at h
    refine ev_iload (pc := 74) X 0 dX11_leads_74 rfl ?_
    refine ev_iconst (pc := 76) (v := (0 : Int32)) X dX11_leads_76 rfl ?_
    refine ev_aload_n (pc := 77) X 1 dX11_leads_77 rfl rfl ?_
    obtain ⟨v5, hv5, h⟩ := eBi h
    refine ev_getR (pc := 78) X hcX11 (k := 9) (by decide) kfX11_13 dX11_leads_78 hv5 ?_
    refine ev_iconst (pc := 81) (v := (1 : Int32)) X dX11_leads_81 rfl ?_
    obtain ⟨v6, hv6, h⟩ := eBi h
    refine ev_iald (pc := 82) X dX11_leads_82 hv6 ?_
    refine ev_iconst (pc := 83) (v := (1 : Int32)) X dX11_leads_83 rfl ?_
    refine ev_isub (pc := 84) X dX11_leads_84 ?_
    obtain ⟨v8, w7, hc, h⟩ := eB2 h
    refine ev_callS_i (pc := 85) (As := [.int (t0 + t1), .int (0 : Int32), .int (v6 - (1 : Int32))]) (S := []) X hwX11_in klX11_54 htX11_in ⟨Nat.le_of_ble_eq_true rfl, Nat.le_of_ble_eq_true rfl⟩ ⟨Nat.le_refl _, Nat.le_refl _⟩ rfl (Nat.le_of_ble_eq_true rfl) dX11_leads_85 rfl (mX11_in hc) ?_
    refine ev_if_eq (pc := 88) X 105 dX11_leads_88 rfl (fun hc => ?_) (fun hc => ?_)
    · rw [if_pos hc] at h
      exact ev_weak (pc := 105) [] rfl (sX11_leads_105  _ _ h p e s m args below meth c r0 A X)
    · rw [if_neg hc] at h
      refine ev_aload_n (pc := 91) X 1 dX11_leads_91 rfl rfl ?_
      obtain ⟨v9, hv9, h⟩ := eBi h
      refine ev_getR (pc := 92) X hcX11 (k := 9) (by decide) kfX11_13 dX11_leads_92 hv9 ?_
      refine ev_iconst (pc := 95) (v := (0 : Int32)) X dX11_leads_95 rfl ?_
      obtain ⟨v10, hv10, h⟩ := eBi h
      refine ev_iald (pc := 96) X dX11_leads_96 hv10 ?_
      refine ev_iload (pc := 97) X 0 dX11_leads_97 rfl ?_
      refine ev_imul (pc := 99) X dX11_leads_99 ?_
      refine ev_iload_n (pc := 100) X 2 dX11_leads_100 rfl rfl ?_
      refine ev_iadd (pc := 101) X dX11_leads_101 ?_
      refine ev_goto (pc := 102) X 107 dX11_leads_102 rfl ?_
      obtain rfl := Option.some.inj h
      exact ev_iret (pc := 107) X dX11_leads_107
def fX11_leads_27 (x0 : Nat) (x1 : Int32) (x2 : Int32) (t0 : Int32) (t1 : Int32) (w : eW) : Option (Int32 × eW) := (eGR w x0 11 9).bind fun v1 => (eLd w false v1 (0 : Int32)).bind fun v2 => if v2 = 0 then none else if x2 = (2 : Int32) then (fX11_leads_55 x0 (t0 + t1) (x1 / v2) (1 : Int32) w) else (if x2 = 0 then (fX11_leads_55 x0 (t0 + t1) (x1 / v2) (-1 : Int32) w) else (fX11_leads_55 x0 (t0 + t1) (x1 / v2) (0 : Int32) w))
set_option maxRecDepth 20000 in
theorem sX11_leads_27  (x0 : Nat) (x1 : Int32) (x2 : Int32) (t0 : Int32) (t1 : Int32) (w : eW) (r : Int32 × eW) (h : fX11_leads_27 x0 x1 x2 t0 t1 w = some r) : eBN l D cI cZ 1 yX11_leads cX11_leads 5 (some .int) 27 [(0, .ref x0), (1, .int x1), (2, .int x2)] [.int t1, .int t0] w (some (.int r.1)) r.2 := by
  rw [fX11_leads_27] at h
  intro p e s m args below meth c r0 A X
  refine ev_iadd (pc := 27) X dX11_leads_27 ?_
  refine ev_istore_n (pc := 28) (L' := [(3, .int (t0 + t1)), (0, .ref x0), (1, .int x1), (2, .int x2)]) X dX11_leads_28 rfl (by decide) rfl ?_
  refine ev_iload_n (pc := 29) X 2 dX11_leads_29 rfl rfl ?_
  refine ev_aload_n (pc := 30) X 1 dX11_leads_30 rfl rfl ?_
  obtain ⟨v1, hv1, h⟩ := eBi h
  refine ev_getR (pc := 31) X hcX11 (k := 9) (by decide) kfX11_13 dX11_leads_31 hv1 ?_
  refine ev_iconst (pc := 34) (v := (0 : Int32)) X dX11_leads_34 rfl ?_
  obtain ⟨v2, hv2, h⟩ := eBi h
  refine ev_iald (pc := 35) X dX11_leads_35 hv2 ?_
  obtain ⟨hz, h⟩ := eNz h
  refine ev_idiv (pc := 36) X dX11_leads_36 hz ?_
  refine ev_iload_n (pc := 37) X 3 dX11_leads_37 rfl rfl ?_
  refine ev_iconst (pc := 38) (v := (2 : Int32)) X dX11_leads_38 rfl ?_
  refine ev_icmp_ne (pc := 39) X 46 dX11_leads_39 rfl (fun hc => ?_) (fun hc => ?_)
  · rw [if_neg hc] at h
    refine ev_iload_n (pc := 46) X 3 dX11_leads_46 rfl rfl ?_
    refine ev_if_ne (pc := 47) X 54 dX11_leads_47 rfl (fun hc => ?_) (fun hc => ?_)
    · rw [if_neg hc] at h
      refine ev_iconst (pc := 54) (v := (0 : Int32)) X dX11_leads_54 rfl ?_
      exact ev_weak (pc := 55) [1, 0] rfl (sX11_leads_55 _ _ _ _ _ _ h p e s m args below meth c r0 A X)
    · rw [if_pos hc] at h
      refine ev_iconst (pc := 50) (v := (-1 : Int32)) X dX11_leads_50 rfl ?_
      refine ev_goto (pc := 51) X 55 dX11_leads_51 rfl ?_
      exact ev_weak (pc := 55) [1, 0] rfl (sX11_leads_55 _ _ _ _ _ _ h p e s m args below meth c r0 A X)
  · rw [if_pos hc] at h
    refine ev_iconst (pc := 42) (v := (1 : Int32)) X dX11_leads_42 rfl ?_
    refine ev_goto (pc := 43) X 55 dX11_leads_43 rfl ?_
    exact ev_weak (pc := 55) [1, 0] rfl (sX11_leads_55 _ _ _ _ _ _ h p e s m args below meth c r0 A X)
def fX11_leads_0 (x0 : Nat) (x1 : Int32) (x2 : Int32) (w : eW) : Option (Int32 × eW) := (eGR w x0 11 9).bind fun v1 => (eLd w false v1 (0 : Int32)).bind fun v2 => if v2 = 0 then none else if x2 = (1 : Int32) then (fX11_leads_27 x0 x1 x2 (x1 - x1 / v2 * v2) (1 : Int32) w) else (if x2 = (3 : Int32) then (fX11_leads_27 x0 x1 x2 (x1 - x1 / v2 * v2) (-1 : Int32) w) else (fX11_leads_27 x0 x1 x2 (x1 - x1 / v2 * v2) (0 : Int32) w))
set_option maxRecDepth 20000 in
theorem sX11_leads_0  (x0 : Nat) (x1 : Int32) (x2 : Int32) (w : eW) (r : Int32 × eW) (h : fX11_leads_0 x0 x1 x2 w = some r) : eBN l D cI cZ 1 yX11_leads cX11_leads 5 (some .int) 0 [(0, .ref x0), (1, .int x1), (2, .int x2)] [] w (some (.int r.1)) r.2 := by
  rw [fX11_leads_0] at h
  intro p e s m args below meth c r0 A X
  refine ev_iload_n (pc := 0) X 1 dX11_leads_0 rfl rfl ?_
  refine ev_aload_n (pc := 1) X 0 dX11_leads_1 rfl rfl ?_
  obtain ⟨v1, hv1, h⟩ := eBi h
  refine ev_getR (pc := 2) X hcX11 (k := 9) (by decide) kfX11_13 dX11_leads_2 hv1 ?_
  refine ev_iconst (pc := 5) (v := (0 : Int32)) X dX11_leads_5 rfl ?_
  obtain ⟨v2, hv2, h⟩ := eBi h
  refine ev_iald (pc := 6) X dX11_leads_6 hv2 ?_
  obtain ⟨hz, h⟩ := eNz h
  refine ev_irem (pc := 7) X dX11_leads_7 hz ?_
  refine ev_iload_n (pc := 8) X 2 dX11_leads_8 rfl rfl ?_
  refine ev_iconst (pc := 9) (v := (1 : Int32)) X dX11_leads_9 rfl ?_
  refine ev_icmp_ne (pc := 10) X 17 dX11_leads_10 rfl (fun hc => ?_) (fun hc => ?_)
  · rw [if_neg hc] at h
    refine ev_iload_n (pc := 17) X 2 dX11_leads_17 rfl rfl ?_
    refine ev_iconst (pc := 18) (v := (3 : Int32)) X dX11_leads_18 rfl ?_
    refine ev_icmp_ne (pc := 19) X 26 dX11_leads_19 rfl (fun hc => ?_) (fun hc => ?_)
    · rw [if_neg hc] at h
      refine ev_iconst (pc := 26) (v := (0 : Int32)) X dX11_leads_26 rfl ?_
      exact ev_weak (pc := 27) [0, 1, 2] rfl (sX11_leads_27 _ _ _ _ _ _ _ h p e s m args below meth c r0 A X)
    · rw [if_pos hc] at h
      refine ev_iconst (pc := 22) (v := (-1 : Int32)) X dX11_leads_22 rfl ?_
      refine ev_goto (pc := 23) X 27 dX11_leads_23 rfl ?_
      exact ev_weak (pc := 27) [0, 1, 2] rfl (sX11_leads_27 _ _ _ _ _ _ _ h p e s m args below meth c r0 A X)
  · rw [if_pos hc] at h
    refine ev_iconst (pc := 13) (v := (1 : Int32)) X dX11_leads_13 rfl ?_
    refine ev_goto (pc := 14) X 27 dX11_leads_14 rfl ?_
    exact ev_weak (pc := 27) [0, 1, 2] rfl (sX11_leads_27 _ _ _ _ _ _ _ h p e s m args below meth c r0 A X)
def fX11_leads (a0 : Nat) (a1 : Int32) (a2 : Int32) (w : eW) : Option (Int32 × eW) := bif eO w a0 11 then fX11_leads_0 a0 a1 a2 w else none
theorem mX11_leads {a0 : Nat} {a1 : Int32} {a2 : Int32} {w : eW} {v : Int32} {w' : eW} (h : fX11_leads a0 a1 a2 w = some (v, w')) : eO w a0 11 = true ∧ eMN l D cI cZ 1 yX11_leads cX11_leads 5 (some .int) [.ref a0, .int a1, .int a2] w (some (.int v)) w' := by
  obtain ⟨h0, h⟩ := eBif h
  exact ⟨h0, eMN_of [(0, .ref a0), (1, .int a1), (2, .int a2)] (plainFor_of_name (by decide)) (fun _ => rfl) (fun _ => Nat.le_of_ble_eq_true rfl) (fun p e s m args below meth c r0 A X => ev_weak (pc := 0) [0, 1, 2] rfl (sX11_leads_0 _ _ _ _ _ h p e s m args below meth c r0 A X))⟩
theorem dX11_step_0 : decode cX11_step 0 = .ok (.aload_n 0, 1) := by decide +kernel
theorem dX11_step_1 : decode cX11_step 1 = .ok (.getfield 16, 3) := by decide +kernel
theorem dX11_step_4 : decode cX11_step 4 = .ok (.iload_n 1, 1) := by decide +kernel
theorem dX11_step_5 : decode cX11_step 5 = .ok (.iaload, 1) := by decide +kernel
theorem dX11_step_6 : decode cX11_step 6 = .ok (.aload_n 0, 1) := by decide +kernel
theorem dX11_step_7 : decode cX11_step 7 = .ok (.getfield 16, 3) := by decide +kernel
theorem dX11_step_10 : decode cX11_step 10 = .ok (.iload_n 2, 1) := by decide +kernel
theorem dX11_step_11 : decode cX11_step 11 = .ok (.iaload, 1) := by decide +kernel
theorem dX11_step_12 : decode cX11_step 12 = .ok (.if_icmp .le 19, 3) := by decide +kernel
theorem dX11_step_15 : decode cX11_step 15 = .ok (.aload_n 0, 1) := by decide +kernel
theorem dX11_step_16 : decode cX11_step 16 = .ok (.getfield 16, 3) := by decide +kernel
theorem dX11_step_19 : decode cX11_step 19 = .ok (.iload_n 1, 1) := by decide +kernel
theorem dX11_step_20 : decode cX11_step 20 = .ok (.iaload, 1) := by decide +kernel
theorem dX11_step_21 : decode cX11_step 21 = .ok (.aload_n 0, 1) := by decide +kernel
theorem dX11_step_22 : decode cX11_step 22 = .ok (.getfield 16, 3) := by decide +kernel
theorem dX11_step_25 : decode cX11_step 25 = .ok (.iload_n 2, 1) := by decide +kernel
theorem dX11_step_26 : decode cX11_step 26 = .ok (.iaload, 1) := by decide +kernel
theorem dX11_step_27 : decode cX11_step 27 = .ok (.isub, 1) := by decide +kernel
theorem dX11_step_28 : decode cX11_step 28 = .ok (.goto 16, 3) := by decide +kernel
theorem dX11_step_31 : decode cX11_step 31 = .ok (.aload_n 0, 1) := by decide +kernel
theorem dX11_step_32 : decode cX11_step 32 = .ok (.getfield 16, 3) := by decide +kernel
theorem dX11_step_35 : decode cX11_step 35 = .ok (.iload_n 2, 1) := by decide +kernel
theorem dX11_step_36 : decode cX11_step 36 = .ok (.iaload, 1) := by decide +kernel
theorem dX11_step_37 : decode cX11_step 37 = .ok (.aload_n 0, 1) := by decide +kernel
theorem dX11_step_38 : decode cX11_step 38 = .ok (.getfield 16, 3) := by decide +kernel
theorem dX11_step_41 : decode cX11_step 41 = .ok (.iload_n 1, 1) := by decide +kernel
theorem dX11_step_42 : decode cX11_step 42 = .ok (.iaload, 1) := by decide +kernel
theorem dX11_step_43 : decode cX11_step 43 = .ok (.isub, 1) := by decide +kernel
theorem dX11_step_44 : decode cX11_step 44 = .ok (.ireturn, 1) := by decide +kernel
def fX11_step_0 (x0 : Nat) (x1 : Int32) (x2 : Int32) (w : eW) : Option (Int32 × eW) := (eGR w x0 11 10).bind fun v1 => (eLd w false v1 x1).bind fun v2 => (eGR w x0 11 10).bind fun v3 => (eLd w false v3 x2).bind fun v4 => if v2 ≤ v4 then ((eGR w x0 11 10).bind fun v5 => (eLd w false v5 x2).bind fun v6 => (eGR w x0 11 10).bind fun v7 => (eLd w false v7 x1).bind fun v8 => some (v6 - v8, w)) else ((eGR w x0 11 10).bind fun v9 => (eLd w false v9 x1).bind fun v10 => (eGR w x0 11 10).bind fun v11 => (eLd w false v11 x2).bind fun v12 => some (v10 - v12, w))
set_option maxRecDepth 20000 in
theorem sX11_step_0  (x0 : Nat) (x1 : Int32) (x2 : Int32) (w : eW) (r : Int32 × eW) (h : fX11_step_0 x0 x1 x2 w = some r) : eBN l D cI cZ 0 yX11_step cX11_step 3 (some .int) 0 [(0, .ref x0), (1, .int x1), (2, .int x2)] [] w (some (.int r.1)) r.2 := by
  rw [fX11_step_0] at h
  intro p e s m args below meth c r0 A X
  refine ev_aload_n (pc := 0) X 0 dX11_step_0 rfl rfl ?_
  obtain ⟨v1, hv1, h⟩ := eBi h
  refine ev_getR (pc := 1) X hcX11 (k := 10) (by decide) kfX11_16 dX11_step_1 hv1 ?_
  refine ev_iload_n (pc := 4) X 1 dX11_step_4 rfl rfl ?_
  obtain ⟨v2, hv2, h⟩ := eBi h
  refine ev_iald (pc := 5) X dX11_step_5 hv2 ?_
  refine ev_aload_n (pc := 6) X 0 dX11_step_6 rfl rfl ?_
  obtain ⟨v3, hv3, h⟩ := eBi h
  refine ev_getR (pc := 7) X hcX11 (k := 10) (by decide) kfX11_16 dX11_step_7 hv3 ?_
  refine ev_iload_n (pc := 10) X 2 dX11_step_10 rfl rfl ?_
  obtain ⟨v4, hv4, h⟩ := eBi h
  refine ev_iald (pc := 11) X dX11_step_11 hv4 ?_
  refine ev_icmp_le (pc := 12) X 31 dX11_step_12 rfl (fun hc => ?_) (fun hc => ?_)
  · rw [if_pos hc] at h
    refine ev_aload_n (pc := 31) X 0 dX11_step_31 rfl rfl ?_
    obtain ⟨v5, hv5, h⟩ := eBi h
    refine ev_getR (pc := 32) X hcX11 (k := 10) (by decide) kfX11_16 dX11_step_32 hv5 ?_
    refine ev_iload_n (pc := 35) X 2 dX11_step_35 rfl rfl ?_
    obtain ⟨v6, hv6, h⟩ := eBi h
    refine ev_iald (pc := 36) X dX11_step_36 hv6 ?_
    refine ev_aload_n (pc := 37) X 0 dX11_step_37 rfl rfl ?_
    obtain ⟨v7, hv7, h⟩ := eBi h
    refine ev_getR (pc := 38) X hcX11 (k := 10) (by decide) kfX11_16 dX11_step_38 hv7 ?_
    refine ev_iload_n (pc := 41) X 1 dX11_step_41 rfl rfl ?_
    obtain ⟨v8, hv8, h⟩ := eBi h
    refine ev_iald (pc := 42) X dX11_step_42 hv8 ?_
    refine ev_isub (pc := 43) X dX11_step_43 ?_
    obtain rfl := Option.some.inj h
    exact ev_iret (pc := 44) X dX11_step_44
  · rw [if_neg hc] at h
    refine ev_aload_n (pc := 15) X 0 dX11_step_15 rfl rfl ?_
    obtain ⟨v9, hv9, h⟩ := eBi h
    refine ev_getR (pc := 16) X hcX11 (k := 10) (by decide) kfX11_16 dX11_step_16 hv9 ?_
    refine ev_iload_n (pc := 19) X 1 dX11_step_19 rfl rfl ?_
    obtain ⟨v10, hv10, h⟩ := eBi h
    refine ev_iald (pc := 20) X dX11_step_20 hv10 ?_
    refine ev_aload_n (pc := 21) X 0 dX11_step_21 rfl rfl ?_
    obtain ⟨v11, hv11, h⟩ := eBi h
    refine ev_getR (pc := 22) X hcX11 (k := 10) (by decide) kfX11_16 dX11_step_22 hv11 ?_
    refine ev_iload_n (pc := 25) X 2 dX11_step_25 rfl rfl ?_
    obtain ⟨v12, hv12, h⟩ := eBi h
    refine ev_iald (pc := 26) X dX11_step_26 hv12 ?_
    refine ev_isub (pc := 27) X dX11_step_27 ?_
    refine ev_goto (pc := 28) X 44 dX11_step_28 rfl ?_
    obtain rfl := Option.some.inj h
    exact ev_iret (pc := 44) X dX11_step_44
def fX11_step (a0 : Nat) (a1 : Int32) (a2 : Int32) (w : eW) : Option (Int32 × eW) := bif eO w a0 11 then fX11_step_0 a0 a1 a2 w else none
theorem mX11_step {a0 : Nat} {a1 : Int32} {a2 : Int32} {w : eW} {v : Int32} {w' : eW} (h : fX11_step a0 a1 a2 w = some (v, w')) : eO w a0 11 = true ∧ eMN l D cI cZ 0 yX11_step cX11_step 3 (some .int) [.ref a0, .int a1, .int a2] w (some (.int v)) w' := by
  obtain ⟨h0, h⟩ := eBif h
  exact ⟨h0, eMN_of [(0, .ref a0), (1, .int a1), (2, .int a2)] (plainFor_of_name (by decide)) (fun _ => rfl) (fun _ => Nat.le_of_ble_eq_true rfl) (fun p e s m args below meth c r0 A X => ev_weak (pc := 0) [0, 1, 2] rfl (sX11_step_0 _ _ _ _ _ h p e s m args below meth c r0 A X))⟩
theorem dX11_goes_0 : decode cX11_goes 0 = .ok (.aload_n 0, 1) := by decide +kernel
theorem dX11_goes_1 : decode cX11_goes 1 = .ok (.iload_n 1, 1) := by decide +kernel
theorem dX11_goes_2 : decode cX11_goes 2 = .ok (.iload_n 2, 1) := by decide +kernel
theorem dX11_goes_3 : decode cX11_goes 3 = .ok (.invokevirtual 123, 3) := by decide +kernel
theorem dX11_goes_6 : decode cX11_goes 6 = .ok (.istore_n 3, 1) := by decide +kernel
theorem dX11_goes_7 : decode cX11_goes 7 = .ok (.iload_n 3, 1) := by decide +kernel
theorem dX11_goes_8 : decode cX11_goes 8 = .ok (.bipush (-9), 2) := by decide +kernel
theorem dX11_goes_10 : decode cX11_goes 10 = .ok (.if_icmp .eq 18, 3) := by decide +kernel
theorem dX11_goes_13 : decode cX11_goes 13 = .ok (.aload_n 0, 1) := by decide +kernel
theorem dX11_goes_14 : decode cX11_goes 14 = .ok (.iload_n 1, 1) := by decide +kernel
theorem dX11_goes_15 : decode cX11_goes 15 = .ok (.iload_n 3, 1) := by decide +kernel
theorem dX11_goes_16 : decode cX11_goes 16 = .ok (.invokevirtual 126, 3) := by decide +kernel
theorem dX11_goes_19 : decode cX11_goes 19 = .ok (.aload_n 0, 1) := by decide +kernel
theorem dX11_goes_20 : decode cX11_goes 20 = .ok (.getfield 13, 3) := by decide +kernel
theorem dX11_goes_23 : decode cX11_goes 23 = .ok (.iconst 3, 1) := by decide +kernel
theorem dX11_goes_24 : decode cX11_goes 24 = .ok (.iaload, 1) := by decide +kernel
theorem dX11_goes_25 : decode cX11_goes 25 = .ok (.if_icmp .le 8, 3) := by decide +kernel
theorem dX11_goes_28 : decode cX11_goes 28 = .ok (.bipush (-9), 2) := by decide +kernel
theorem dX11_goes_30 : decode cX11_goes 30 = .ok (.goto 4, 3) := by decide +kernel
theorem dX11_goes_33 : decode cX11_goes 33 = .ok (.iload_n 3, 1) := by decide +kernel
theorem dX11_goes_34 : decode cX11_goes 34 = .ok (.ireturn, 1) := by decide +kernel
def fX11_goes_28  (w : eW) : Option (Int32 × eW) := some ((-9 : Int32), w)
set_option maxRecDepth 20000 in
theorem sX11_goes_28   (w : eW) (r : Int32 × eW) (h : fX11_goes_28  w = some r) : eBN l D cI cZ 2 yX11_goes cX11_goes 4 (some .int) 28 [] [] w (some (.int r.1)) r.2 := by
  rw [fX11_goes_28] at h
  intro p e s m args below meth c r0 A X
  refine ev_bipush (pc := 28) (v := (-9 : Int32)) X dX11_goes_28 rfl ?_
  refine ev_goto (pc := 30) X 34 dX11_goes_30 rfl ?_
  obtain rfl := Option.some.inj h
  exact ev_iret (pc := 34) X dX11_goes_34
def fX11_goes_0 (x0 : Nat) (x1 : Int32) (x2 : Int32) (w : eW) : Option (Int32 × eW) := eBind2 (fX11_leads x0 x1 x2 w) fun v2 w1 => if v2 = (-9 : Int32) then (fX11_goes_28 w1) else (eBind2 (fX11_step x0 x1 v2 w1) fun v4 w3 => (eGR w3 x0 11 9).bind fun v5 => (eLd w3 false v5 (3 : Int32)).bind fun v6 => if v4 ≤ v6 then (some (v2, w3)) else (fX11_goes_28 w3))
set_option maxRecDepth 20000 in
theorem sX11_goes_0  (x0 : Nat) (x1 : Int32) (x2 : Int32) (w : eW) (r : Int32 × eW) (h : fX11_goes_0 x0 x1 x2 w = some r) : eBN l D cI cZ 2 yX11_goes cX11_goes 4 (some .int) 0 [(0, .ref x0), (1, .int x1), (2, .int x2)] [] w (some (.int r.1)) r.2 := by
  rw [fX11_goes_0] at h
  intro p e s m args below meth c r0 A X
  refine ev_aload_n (pc := 0) X 0 dX11_goes_0 rfl rfl ?_
  refine ev_iload_n (pc := 1) X 1 dX11_goes_1 rfl rfl ?_
  refine ev_iload_n (pc := 2) X 2 dX11_goes_2 rfl rfl ?_
  obtain ⟨v2, w1, hc, h⟩ := eB2 h
  refine ev_callV_i (pc := 3) (As := [.int x1, .int x2]) (S := []) X hwX11_leads klX11_123 hiX11_leads hsX11_leads (ci := 11) ⟨rfl, rfl⟩ ⟨Nat.le_of_ble_eq_true rfl, Nat.le_of_ble_eq_true rfl⟩ ⟨Nat.le_refl _, Nat.le_refl _⟩ rfl (Nat.le_of_ble_eq_true rfl) dX11_goes_3 rfl (mX11_leads (l := l) (D := D) (cI := cI) (cZ := cZ) hc).1 (mX11_leads hc).2 ?_
  refine ev_istore_n (pc := 6) (L' := [(3, .int v2), (0, .ref x0), (1, .int x1), (2, .int x2)]) X dX11_goes_6 rfl (by decide) rfl ?_
  refine ev_iload_n (pc := 7) X 0 dX11_goes_7 rfl rfl ?_
  refine ev_bipush (pc := 8) (v := (-9 : Int32)) X dX11_goes_8 rfl ?_
  refine ev_icmp_eq (pc := 10) X 28 dX11_goes_10 rfl (fun hc => ?_) (fun hc => ?_)
  · rw [if_pos hc] at h
    exact ev_weak (pc := 28) [] rfl (sX11_goes_28  _ _ h p e s m args below meth c r0 A X)
  · rw [if_neg hc] at h
    refine ev_aload_n (pc := 13) X 1 dX11_goes_13 rfl rfl ?_
    refine ev_iload_n (pc := 14) X 2 dX11_goes_14 rfl rfl ?_
    refine ev_iload_n (pc := 15) X 0 dX11_goes_15 rfl rfl ?_
    obtain ⟨v4, w3, hc, h⟩ := eB2 h
    refine ev_callV_i (pc := 16) (As := [.int x1, .int v2]) (S := []) X hwX11_step klX11_126 hiX11_step hsX11_step (ci := 11) ⟨rfl, rfl⟩ ⟨Nat.le_of_ble_eq_true rfl, Nat.le_of_ble_eq_true rfl⟩ ⟨Nat.le_refl _, Nat.le_refl _⟩ rfl (Nat.le_of_ble_eq_true rfl) dX11_goes_16 rfl (mX11_step (l := l) (D := D) (cI := cI) (cZ := cZ) hc).1 (mX11_step hc).2 ?_
    refine ev_aload_n (pc := 19) X 1 dX11_goes_19 rfl rfl ?_
    obtain ⟨v5, hv5, h⟩ := eBi h
    refine ev_getR (pc := 20) X hcX11 (k := 9) (by decide) kfX11_13 dX11_goes_20 hv5 ?_
    refine ev_iconst (pc := 23) (v := (3 : Int32)) X dX11_goes_23 rfl ?_
    obtain ⟨v6, hv6, h⟩ := eBi h
    refine ev_iald (pc := 24) X dX11_goes_24 hv6 ?_
    refine ev_icmp_le (pc := 25) X 33 dX11_goes_25 rfl (fun hc => ?_) (fun hc => ?_)
    · rw [if_pos hc] at h
      refine ev_iload_n (pc := 33) X 0 dX11_goes_33 rfl rfl ?_
      obtain rfl := Option.some.inj h
      exact ev_iret (pc := 34) X dX11_goes_34
    · rw [if_neg hc] at h
      exact ev_weak (pc := 28) [] rfl (sX11_goes_28  _ _ h p e s m args below meth c r0 A X)
def fX11_goes (a0 : Nat) (a1 : Int32) (a2 : Int32) (w : eW) : Option (Int32 × eW) := bif eO w a0 11 then fX11_goes_0 a0 a1 a2 w else none
theorem mX11_goes {a0 : Nat} {a1 : Int32} {a2 : Int32} {w : eW} {v : Int32} {w' : eW} (h : fX11_goes a0 a1 a2 w = some (v, w')) : eO w a0 11 = true ∧ eMN l D cI cZ 2 yX11_goes cX11_goes 4 (some .int) [.ref a0, .int a1, .int a2] w (some (.int v)) w' := by
  obtain ⟨h0, h⟩ := eBif h
  exact ⟨h0, eMN_of [(0, .ref a0), (1, .int a1), (2, .int a2)] (plainFor_of_name (by decide)) (fun _ => rfl) (fun _ => Nat.le_of_ble_eq_true rfl) (fun p e s m args below meth c r0 A X => ev_weak (pc := 0) [0, 1, 2] rfl (sX11_goes_0 _ _ _ _ _ h p e s m args below meth c r0 A X))⟩
end GEN
