section GEN
variable {l : Launch} {D : va_G} {cI cZ : ClassId}
theorem dJ9_max_7cf53_0 : decode cJ9_max_7cf53 0 = .ok (.iload_n 0, 1) := by decide +kernel
theorem dJ9_max_7cf53_1 : decode cJ9_max_7cf53 1 = .ok (.iload_n 1, 1) := by decide +kernel
theorem dJ9_max_7cf53_2 : decode cJ9_max_7cf53 2 = .ok (.if_icmp .lt 7, 3) := by decide +kernel
theorem dJ9_max_7cf53_5 : decode cJ9_max_7cf53 5 = .ok (.iload_n 0, 1) := by decide +kernel
theorem dJ9_max_7cf53_6 : decode cJ9_max_7cf53 6 = .ok (.goto 4, 3) := by decide +kernel
theorem dJ9_max_7cf53_9 : decode cJ9_max_7cf53 9 = .ok (.iload_n 1, 1) := by decide +kernel
theorem dJ9_max_7cf53_10 : decode cJ9_max_7cf53 10 = .ok (.ireturn, 1) := by decide +kernel
def fJ9_max_7cf53_0 (x0 : Int32) (x1 : Int32) (w : eW) : Option (Int32 × eW) := if x0 < x1 then (some (x1, w)) else (some (x0, w))
set_option maxRecDepth 20000 in
theorem sJ9_max_7cf53_0  (x0 : Int32) (x1 : Int32) (w : eW) (r : Int32 × eW) (h : fJ9_max_7cf53_0 x0 x1 w = some r) : eBN l D cI cZ 0 yJ9_max_7cf53 cJ9_max_7cf53 2 (some .int) 0 [(0, .int x0), (1, .int x1)] [] w (some (.int r.1)) r.2 := by
  rw [fJ9_max_7cf53_0] at h
  intro p e s m args below meth c r0 A X
  refine ev_iload_n (pc := 0) X 0 dJ9_max_7cf53_0 rfl rfl ?_
  refine ev_iload_n (pc := 1) X 1 dJ9_max_7cf53_1 rfl rfl ?_
  refine ev_icmp_lt (pc := 2) X 9 dJ9_max_7cf53_2 rfl (fun hc => ?_) (fun hc => ?_)
  · rw [if_pos hc] at h
    refine ev_iload_n (pc := 9) X 1 dJ9_max_7cf53_9 rfl rfl ?_
    obtain rfl := Option.some.inj h
    exact ev_iret (pc := 10) X dJ9_max_7cf53_10
  · rw [if_neg hc] at h
    refine ev_iload_n (pc := 5) X 0 dJ9_max_7cf53_5 rfl rfl ?_
    refine ev_goto (pc := 6) X 10 dJ9_max_7cf53_6 rfl ?_
    obtain rfl := Option.some.inj h
    exact ev_iret (pc := 10) X dJ9_max_7cf53_10
def fJ9_max_7cf53 (a0 : Int32) (a1 : Int32) (w : eW) : Option (Int32 × eW) := fJ9_max_7cf53_0 a0 a1 w
theorem mJ9_max_7cf53 {a0 : Int32} {a1 : Int32} {w : eW} {v : Int32} {w' : eW} (h : fJ9_max_7cf53 a0 a1 w = some (v, w')) : eMN l D cI cZ 0 yJ9_max_7cf53 cJ9_max_7cf53 2 (some .int) [.int a0, .int a1] w (some (.int v)) w' :=
  eMN_of [(0, .int a0), (1, .int a1)] (by decide +kernel) (fun _ => rfl) (fun _ => Nat.le_of_ble_eq_true rfl) (fun p e s m args below meth c r0 A X => ev_weak (pc := 0) [0, 1] rfl (sJ9_max_7cf53_0 _ _ _ _ h p e s m args below meth c r0 A X))
theorem dX7_put_0 : decode cX7_put 0 = .ok (.iload_n 1, 1) := by decide +kernel
theorem dX7_put_1 : decode cX7_put 1 = .ok (.ifCond .lt 19, 3) := by decide +kernel
theorem dX7_put_4 : decode cX7_put 4 = .ok (.iload_n 1, 1) := by decide +kernel
theorem dX7_put_5 : decode cX7_put 5 = .ok (.aload_n 0, 1) := by decide +kernel
theorem dX7_put_6 : decode cX7_put 6 = .ok (.getfield 13, 3) := by decide +kernel
theorem dX7_put_9 : decode cX7_put 9 = .ok (.arraylength, 1) := by decide +kernel
theorem dX7_put_10 : decode cX7_put 10 = .ok (.if_icmp .ge 10, 3) := by decide +kernel
theorem dX7_put_13 : decode cX7_put 13 = .ok (.aload_n 0, 1) := by decide +kernel
theorem dX7_put_14 : decode cX7_put 14 = .ok (.getfield 13, 3) := by decide +kernel
theorem dX7_put_17 : decode cX7_put 17 = .ok (.iload_n 1, 1) := by decide +kernel
theorem dX7_put_18 : decode cX7_put 18 = .ok (.iload_n 2, 1) := by decide +kernel
theorem dX7_put_19 : decode cX7_put 19 = .ok (.iastore, 1) := by decide +kernel
theorem dX7_put_20 : decode cX7_put 20 = .ok (.return_, 1) := by decide +kernel
def fX7_put_0 (x0 : Nat) (x1 : Int32) (x2 : Int32) (w : eW) : Option (eW) := if x1 < 0 then (some w) else ((eGR w x0 7 0).bind fun v1 => (eLen w v1).bind fun v2 => if v2 ≤ x1 then (some w) else ((eGR w x0 7 0).bind fun v3 => (eSt w false v3 x1 x2).bind fun w4 => some w4))
set_option maxRecDepth 20000 in
theorem sX7_put_0  (x0 : Nat) (x1 : Int32) (x2 : Int32) (w : eW) (r : eW) (h : fX7_put_0 x0 x1 x2 w = some r) : eBN l D cI cZ 0 yX7_put cX7_put 3 none 0 [(0, .ref x0), (1, .int x1), (2, .int x2)] [] w none r := by
  rw [fX7_put_0] at h
  intro p e s m args below meth c r0 A X
  refine ev_iload_n (pc := 0) X 1 dX7_put_0 rfl rfl ?_
  refine ev_if_lt (pc := 1) X 20 dX7_put_1 rfl (fun hc => ?_) (fun hc => ?_)
  · rw [if_pos hc] at h
    obtain rfl := Option.some.inj h
    exact ev_vret (pc := 20) X dX7_put_20
  · rw [if_neg hc] at h
    refine ev_iload_n (pc := 4) X 1 dX7_put_4 rfl rfl ?_
    refine ev_aload_n (pc := 5) X 0 dX7_put_5 rfl rfl ?_
    obtain ⟨v1, hv1, h⟩ := eBi h
    refine ev_getR (pc := 6) X hcX7 (k := 0) (by decide) kfX7_13 dX7_put_6 hv1 ?_
    obtain ⟨v2, hv2, h⟩ := eBi h
    refine ev_alen (pc := 9) X dX7_put_9 hv2 ?_
    refine ev_icmp_ge (pc := 10) X 20 dX7_put_10 rfl (fun hc => ?_) (fun hc => ?_)
    · rw [if_pos hc] at h
      obtain rfl := Option.some.inj h
      exact ev_vret (pc := 20) X dX7_put_20
    · rw [if_neg hc] at h
      refine ev_aload_n (pc := 13) X 0 dX7_put_13 rfl rfl ?_
      obtain ⟨v3, hv3, h⟩ := eBi h
      refine ev_getR (pc := 14) X hcX7 (k := 0) (by decide) kfX7_13 dX7_put_14 hv3 ?_
      refine ev_iload_n (pc := 17) X 1 dX7_put_17 rfl rfl ?_
      refine ev_iload_n (pc := 18) X 2 dX7_put_18 rfl rfl ?_
      obtain ⟨w4, hw4, h⟩ := eBi h
      refine ev_iast (pc := 19) X dX7_put_19 hw4 ?_
      obtain rfl := Option.some.inj h
      exact ev_vret (pc := 20) X dX7_put_20
def fX7_put (a0 : Nat) (a1 : Int32) (a2 : Int32) (w : eW) : Option (eW) := bif eO w a0 7 then fX7_put_0 a0 a1 a2 w else none
theorem mX7_put {a0 : Nat} {a1 : Int32} {a2 : Int32} {w : eW} {w' : eW} (h : fX7_put a0 a1 a2 w = some w') : eO w a0 7 = true ∧ eMN l D cI cZ 0 yX7_put cX7_put 3 none [.ref a0, .int a1, .int a2] w none w' := by
  obtain ⟨h0, h⟩ := eBif h
  exact ⟨h0, eMN_of [(0, .ref a0), (1, .int a1), (2, .int a2)] (plainFor_of_name (by decide)) (fun _ => rfl) (fun _ => Nat.le_of_ble_eq_true rfl) (fun p e s m args below meth c r0 A X => ev_weak (pc := 0) [0, 1, 2] rfl (sX7_put_0 _ _ _ _ _ h p e s m args below meth c r0 A X))⟩
theorem dX7_get_0 : decode cX7_get 0 = .ok (.iload_n 1, 1) := by decide +kernel
theorem dX7_get_1 : decode cX7_get 1 = .ok (.ifCond .lt 21, 3) := by decide +kernel
theorem dX7_get_4 : decode cX7_get 4 = .ok (.iload_n 1, 1) := by decide +kernel
theorem dX7_get_5 : decode cX7_get 5 = .ok (.aload_n 0, 1) := by decide +kernel
theorem dX7_get_6 : decode cX7_get 6 = .ok (.getfield 13, 3) := by decide +kernel
theorem dX7_get_9 : decode cX7_get 9 = .ok (.arraylength, 1) := by decide +kernel
theorem dX7_get_10 : decode cX7_get 10 = .ok (.if_icmp .ge 12, 3) := by decide +kernel
theorem dX7_get_13 : decode cX7_get 13 = .ok (.aload_n 0, 1) := by decide +kernel
theorem dX7_get_14 : decode cX7_get 14 = .ok (.getfield 13, 3) := by decide +kernel
theorem dX7_get_17 : decode cX7_get 17 = .ok (.iload_n 1, 1) := by decide +kernel
theorem dX7_get_18 : decode cX7_get 18 = .ok (.iaload, 1) := by decide +kernel
theorem dX7_get_19 : decode cX7_get 19 = .ok (.goto 4, 3) := by decide +kernel
theorem dX7_get_22 : decode cX7_get 22 = .ok (.iconst 0, 1) := by decide +kernel
theorem dX7_get_23 : decode cX7_get 23 = .ok (.ireturn, 1) := by decide +kernel
def fX7_get_22  (w : eW) : Option (Int32 × eW) := some ((0 : Int32), w)
set_option maxRecDepth 20000 in
theorem sX7_get_22   (w : eW) (r : Int32 × eW) (h : fX7_get_22  w = some r) : eBN l D cI cZ 0 yX7_get cX7_get 2 (some .int) 22 [] [] w (some (.int r.1)) r.2 := by
  rw [fX7_get_22] at h
  intro p e s m args below meth c r0 A X
  refine ev_iconst (pc := 22) (v := (0 : Int32)) X dX7_get_22 rfl ?_
  obtain rfl := Option.some.inj h
  exact ev_iret (pc := 23) X dX7_get_23
def fX7_get_0 (x0 : Nat) (x1 : Int32) (w : eW) : Option (Int32 × eW) := if x1 < 0 then (fX7_get_22 w) else ((eGR w x0 7 0).bind fun v1 => (eLen w v1).bind fun v2 => if v2 ≤ x1 then (fX7_get_22 w) else ((eGR w x0 7 0).bind fun v3 => (eLd w false v3 x1).bind fun v4 => some (v4, w)))
set_option maxRecDepth 20000 in
theorem sX7_get_0  (x0 : Nat) (x1 : Int32) (w : eW) (r : Int32 × eW) (h : fX7_get_0 x0 x1 w = some r) : eBN l D cI cZ 0 yX7_get cX7_get 2 (some .int) 0 [(0, .ref x0), (1, .int x1)] [] w (some (.int r.1)) r.2 := by
  rw [fX7_get_0] at h
  intro p e s m args below meth c r0 A X
  refine ev_iload_n (pc := 0) X 1 dX7_get_0 rfl rfl ?_
  refine ev_if_lt (pc := 1) X 22 dX7_get_1 rfl (fun hc => ?_) (fun hc => ?_)
  · rw [if_pos hc] at h
    exact ev_weak (pc := 22) [] rfl (sX7_get_22  _ _ h p e s m args below meth c r0 A X)
  · rw [if_neg hc] at h
    refine ev_iload_n (pc := 4) X 1 dX7_get_4 rfl rfl ?_
    refine ev_aload_n (pc := 5) X 0 dX7_get_5 rfl rfl ?_
    obtain ⟨v1, hv1, h⟩ := eBi h
    refine ev_getR (pc := 6) X hcX7 (k := 0) (by decide) kfX7_13 dX7_get_6 hv1 ?_
    obtain ⟨v2, hv2, h⟩ := eBi h
    refine ev_alen (pc := 9) X dX7_get_9 hv2 ?_
    refine ev_icmp_ge (pc := 10) X 22 dX7_get_10 rfl (fun hc => ?_) (fun hc => ?_)
    · rw [if_pos hc] at h
      exact ev_weak (pc := 22) [] rfl (sX7_get_22  _ _ h p e s m args below meth c r0 A X)
    · rw [if_neg hc] at h
      refine ev_aload_n (pc := 13) X 0 dX7_get_13 rfl rfl ?_
      obtain ⟨v3, hv3, h⟩ := eBi h
      refine ev_getR (pc := 14) X hcX7 (k := 0) (by decide) kfX7_13 dX7_get_14 hv3 ?_
      refine ev_iload_n (pc := 17) X 1 dX7_get_17 rfl rfl ?_
      obtain ⟨v4, hv4, h⟩ := eBi h
      refine ev_iald (pc := 18) X dX7_get_18 hv4 ?_
      refine ev_goto (pc := 19) X 23 dX7_get_19 rfl ?_
      obtain rfl := Option.some.inj h
      exact ev_iret (pc := 23) X dX7_get_23
def fX7_get (a0 : Nat) (a1 : Int32) (w : eW) : Option (Int32 × eW) := bif eO w a0 7 then fX7_get_0 a0 a1 w else none
theorem mX7_get {a0 : Nat} {a1 : Int32} {w : eW} {v : Int32} {w' : eW} (h : fX7_get a0 a1 w = some (v, w')) : eO w a0 7 = true ∧ eMN l D cI cZ 0 yX7_get cX7_get 2 (some .int) [.ref a0, .int a1] w (some (.int v)) w' := by
  obtain ⟨h0, h⟩ := eBif h
  exact ⟨h0, eMN_of [(0, .ref a0), (1, .int a1)] (plainFor_of_name (by decide)) (fun _ => rfl) (fun _ => Nat.le_of_ble_eq_true rfl) (fun p e s m args below meth c r0 A X => ev_weak (pc := 0) [0, 1] rfl (sX7_get_0 _ _ _ _ h p e s m args below meth c r0 A X))⟩
theorem dX1_cells_0 : decode cX1_cells 0 = .ok (.aload_n 0, 1) := by decide +kernel
theorem dX1_cells_1 : decode cX1_cells 1 = .ok (.getfield 26, 3) := by decide +kernel
theorem dX1_cells_4 : decode cX1_cells 4 = .ok (.aload_n 0, 1) := by decide +kernel
theorem dX1_cells_5 : decode cX1_cells 5 = .ok (.getfield 30, 3) := by decide +kernel
theorem dX1_cells_8 : decode cX1_cells 8 = .ok (.imul, 1) := by decide +kernel
theorem dX1_cells_9 : decode cX1_cells 9 = .ok (.ireturn, 1) := by decide +kernel
def fX1_cells_0 (x0 : Nat) (w : eW) : Option (Int32 × eW) := (eGI w x0 1 0).bind fun v1 => (eGI w x0 1 1).bind fun v2 => some (v1 * v2, w)
set_option maxRecDepth 20000 in
theorem sX1_cells_0  (x0 : Nat) (w : eW) (r : Int32 × eW) (h : fX1_cells_0 x0 w = some r) : eBN l D cI cZ 0 yX1_cells cX1_cells 1 (some .int) 0 [(0, .ref x0)] [] w (some (.int r.1)) r.2 := by
  rw [fX1_cells_0] at h
  intro p e s m args below meth c r0 A X
  refine ev_aload_n (pc := 0) X 0 dX1_cells_0 rfl rfl ?_
  obtain ⟨v1, hv1, h⟩ := eBi h
  refine ev_getI (pc := 1) X hcX1 (k := 0) (by decide) kfX1_26 dX1_cells_1 hv1 ?_
  refine ev_aload_n (pc := 4) X 0 dX1_cells_4 rfl rfl ?_
  obtain ⟨v2, hv2, h⟩ := eBi h
  refine ev_getI (pc := 5) X hcX1 (k := 1) (by decide) kfX1_30 dX1_cells_5 hv2 ?_
  refine ev_imul (pc := 8) X dX1_cells_8 ?_
  obtain rfl := Option.some.inj h
  exact ev_iret (pc := 9) X dX1_cells_9
def fX1_cells (a0 : Nat) (w : eW) : Option (Int32 × eW) := bif eO w a0 1 then fX1_cells_0 a0 w else none
theorem mX1_cells {a0 : Nat} {w : eW} {v : Int32} {w' : eW} (h : fX1_cells a0 w = some (v, w')) : eO w a0 1 = true ∧ eMN l D cI cZ 0 yX1_cells cX1_cells 1 (some .int) [.ref a0] w (some (.int v)) w' := by
  obtain ⟨h0, h⟩ := eBif h
  exact ⟨h0, eMN_of [(0, .ref a0)] (plainFor_of_name (by decide)) (fun _ => rfl) (fun _ => Nat.le_of_ble_eq_true rfl) (fun p e s m args below meth c r0 A X => ev_weak (pc := 0) [0] rfl (sX1_cells_0 _ _ _ h p e s m args below meth c r0 A X))⟩
theorem dX1_neighbour_0 : decode cX1_neighbour 0 = .ok (.aload_n 0, 1) := by decide +kernel
theorem dX1_neighbour_1 : decode cX1_neighbour 1 = .ok (.getfield 26, 3) := by decide +kernel
theorem dX1_neighbour_4 : decode cX1_neighbour 4 = .ok (.ifCond .le 12, 3) := by decide +kernel
theorem dX1_neighbour_7 : decode cX1_neighbour 7 = .ok (.iload_n 1, 1) := by decide +kernel
theorem dX1_neighbour_8 : decode cX1_neighbour 8 = .ok (.aload_n 0, 1) := by decide +kernel
theorem dX1_neighbour_9 : decode cX1_neighbour 9 = .ok (.getfield 26, 3) := by decide +kernel
theorem dX1_neighbour_12 : decode cX1_neighbour 12 = .ok (.irem, 1) := by decide +kernel
theorem dX1_neighbour_13 : decode cX1_neighbour 13 = .ok (.goto 4, 3) := by decide +kernel
theorem dX1_neighbour_16 : decode cX1_neighbour 16 = .ok (.iconst 0, 1) := by decide +kernel
theorem dX1_neighbour_17 : decode cX1_neighbour 17 = .ok (.istore_n 3, 1) := by decide +kernel
theorem dX1_neighbour_18 : decode cX1_neighbour 18 = .ok (.iload_n 2, 1) := by decide +kernel
theorem dX1_neighbour_19 : decode cX1_neighbour 19 = .ok (.tableswitch 103 0 3 #[29, 49, 67, 91], 29) := by decide +kernel
theorem dX1_neighbour_48 : decode cX1_neighbour 48 = .ok (.iload_n 1, 1) := by decide +kernel
theorem dX1_neighbour_49 : decode cX1_neighbour 49 = .ok (.aload_n 0, 1) := by decide +kernel
theorem dX1_neighbour_50 : decode cX1_neighbour 50 = .ok (.getfield 26, 3) := by decide +kernel
theorem dX1_neighbour_53 : decode cX1_neighbour 53 = .ok (.isub, 1) := by decide +kernel
theorem dX1_neighbour_54 : decode cX1_neighbour 54 = .ok (.ifCond .lt 12, 3) := by decide +kernel
theorem dX1_neighbour_57 : decode cX1_neighbour 57 = .ok (.iload_n 1, 1) := by decide +kernel
theorem dX1_neighbour_58 : decode cX1_neighbour 58 = .ok (.aload_n 0, 1) := by decide +kernel
theorem dX1_neighbour_59 : decode cX1_neighbour 59 = .ok (.getfield 26, 3) := by decide +kernel
theorem dX1_neighbour_62 : decode cX1_neighbour 62 = .ok (.isub, 1) := by decide +kernel
theorem dX1_neighbour_63 : decode cX1_neighbour 63 = .ok (.goto 4, 3) := by decide +kernel
theorem dX1_neighbour_66 : decode cX1_neighbour 66 = .ok (.iconst (-1), 1) := by decide +kernel
theorem dX1_neighbour_67 : decode cX1_neighbour 67 = .ok (.ireturn, 1) := by decide +kernel
theorem dX1_neighbour_68 : decode cX1_neighbour 68 = .ok (.iload_n 3, 1) := by decide +kernel
theorem dX1_neighbour_69 : decode cX1_neighbour 69 = .ok (.iconst 1, 1) := by decide +kernel
theorem dX1_neighbour_70 : decode cX1_neighbour 70 = .ok (.iadd, 1) := by decide +kernel
theorem dX1_neighbour_71 : decode cX1_neighbour 71 = .ok (.aload_n 0, 1) := by decide +kernel
theorem dX1_neighbour_72 : decode cX1_neighbour 72 = .ok (.getfield 26, 3) := by decide +kernel
theorem dX1_neighbour_75 : decode cX1_neighbour 75 = .ok (.if_icmp .ge 9, 3) := by decide +kernel
theorem dX1_neighbour_78 : decode cX1_neighbour 78 = .ok (.iload_n 1, 1) := by decide +kernel
theorem dX1_neighbour_79 : decode cX1_neighbour 79 = .ok (.iconst 1, 1) := by decide +kernel
theorem dX1_neighbour_80 : decode cX1_neighbour 80 = .ok (.iadd, 1) := by decide +kernel
theorem dX1_neighbour_81 : decode cX1_neighbour 81 = .ok (.goto 4, 3) := by decide +kernel
theorem dX1_neighbour_84 : decode cX1_neighbour 84 = .ok (.iconst (-1), 1) := by decide +kernel
theorem dX1_neighbour_85 : decode cX1_neighbour 85 = .ok (.ireturn, 1) := by decide +kernel
theorem dX1_neighbour_86 : decode cX1_neighbour 86 = .ok (.iload_n 1, 1) := by decide +kernel
theorem dX1_neighbour_87 : decode cX1_neighbour 87 = .ok (.aload_n 0, 1) := by decide +kernel
theorem dX1_neighbour_88 : decode cX1_neighbour 88 = .ok (.getfield 26, 3) := by decide +kernel
theorem dX1_neighbour_91 : decode cX1_neighbour 91 = .ok (.iadd, 1) := by decide +kernel
theorem dX1_neighbour_92 : decode cX1_neighbour 92 = .ok (.aload_n 0, 1) := by decide +kernel
theorem dX1_neighbour_93 : decode cX1_neighbour 93 = .ok (.invokevirtual 50, 3) := by decide +kernel
theorem dX1_neighbour_96 : decode cX1_neighbour 96 = .ok (.if_icmp .ge 12, 3) := by decide +kernel
theorem dX1_neighbour_99 : decode cX1_neighbour 99 = .ok (.iload_n 1, 1) := by decide +kernel
theorem dX1_neighbour_100 : decode cX1_neighbour 100 = .ok (.aload_n 0, 1) := by decide +kernel
theorem dX1_neighbour_101 : decode cX1_neighbour 101 = .ok (.getfield 26, 3) := by decide +kernel
theorem dX1_neighbour_104 : decode cX1_neighbour 104 = .ok (.iadd, 1) := by decide +kernel
theorem dX1_neighbour_105 : decode cX1_neighbour 105 = .ok (.goto 4, 3) := by decide +kernel
theorem dX1_neighbour_108 : decode cX1_neighbour 108 = .ok (.iconst (-1), 1) := by decide +kernel
theorem dX1_neighbour_109 : decode cX1_neighbour 109 = .ok (.ireturn, 1) := by decide +kernel
theorem dX1_neighbour_110 : decode cX1_neighbour 110 = .ok (.iload_n 3, 1) := by decide +kernel
theorem dX1_neighbour_111 : decode cX1_neighbour 111 = .ok (.ifCond .le 9, 3) := by decide +kernel
theorem dX1_neighbour_114 : decode cX1_neighbour 114 = .ok (.iload_n 1, 1) := by decide +kernel
theorem dX1_neighbour_115 : decode cX1_neighbour 115 = .ok (.iconst 1, 1) := by decide +kernel
theorem dX1_neighbour_116 : decode cX1_neighbour 116 = .ok (.isub, 1) := by decide +kernel
theorem dX1_neighbour_117 : decode cX1_neighbour 117 = .ok (.goto 4, 3) := by decide +kernel
theorem dX1_neighbour_120 : decode cX1_neighbour 120 = .ok (.iconst (-1), 1) := by decide +kernel
theorem dX1_neighbour_121 : decode cX1_neighbour 121 = .ok (.ireturn, 1) := by decide +kernel
theorem dX1_neighbour_122 : decode cX1_neighbour 122 = .ok (.iconst (-1), 1) := by decide +kernel
theorem dX1_neighbour_123 : decode cX1_neighbour 123 = .ok (.ireturn, 1) := by decide +kernel
def fX1_neighbour_17 (x0 : Nat) (x1 : Int32) (x2 : Int32) (t0 : Int32) (w : eW) : Option (Int32 × eW) := if x2 = (0 : Int32) then ((eGI w x0 1 0).bind fun v1 => if (x1 - v1) < 0 then (some ((-1 : Int32), w)) else ((eGI w x0 1 0).bind fun v2 => some (x1 - v2, w))) else (if x2 = (1 : Int32) then ((eGI w x0 1 0).bind fun v3 => if v3 ≤ (t0 + (1 : Int32)) then (some ((-1 : Int32), w)) else (some (x1 + (1 : Int32), w))) else (if x2 = (2 : Int32) then ((eGI w x0 1 0).bind fun v4 => eBind2 (fX1_cells x0 w) fun v6 w5 => if v6 ≤ (x1 + v4) then (some ((-1 : Int32), w5)) else ((eGI w5 x0 1 0).bind fun v7 => some (x1 + v7, w5))) else (if x2 = (3 : Int32) then (if t0 ≤ 0 then (some ((-1 : Int32), w)) else (some (x1 - (1 : Int32), w))) else (some ((-1 : Int32), w)))))
set_option maxRecDepth 20000 in
theorem sX1_neighbour_17  (x0 : Nat) (x1 : Int32) (x2 : Int32) (t0 : Int32) (w : eW) (r : Int32 × eW) (h : fX1_neighbour_17 x0 x1 x2 t0 w = some r) : eBN l D cI cZ 1 yX1_neighbour cX1_neighbour 4 (some .int) 17 [(0, .ref x0), (1, .int x1), (2, .int x2)] [.int t0] w (some (.int r.1)) r.2 := by
  rw [fX1_neighbour_17] at h
  intro p e s m args below meth c r0 A X
  refine ev_istore_n (pc := 17) (L' := [(3, .int t0), (0, .ref x0), (1, .int x1), (2, .int x2)]) X dX1_neighbour_17 rfl (by decide) rfl ?_
  refine ev_iload_n (pc := 18) X 3 dX1_neighbour_18 rfl rfl ?_
  by_cases hq19_0 : x2 = (0 : Int32)
  · rw [if_pos hq19_0] at h
    refine ev_tableIn (pc := 19) X 48 dX1_neighbour_19 (by rw [hq19_0]; decide) (by rw [hq19_0]; decide) (by rw [hq19_0]; rfl) rfl ?_
    refine ev_iload_n (pc := 48) X 2 dX1_neighbour_48 rfl rfl ?_
    refine ev_aload_n (pc := 49) X 1 dX1_neighbour_49 rfl rfl ?_
    obtain ⟨v1, hv1, h⟩ := eBi h
    refine ev_getI (pc := 50) X hcX1 (k := 0) (by decide) kfX1_26 dX1_neighbour_50 hv1 ?_
    refine ev_isub (pc := 53) X dX1_neighbour_53 ?_
    refine ev_if_lt (pc := 54) X 66 dX1_neighbour_54 rfl (fun hc => ?_) (fun hc => ?_)
    · rw [if_pos hc] at h
      refine ev_iconst (pc := 66) (v := (-1 : Int32)) X dX1_neighbour_66 rfl ?_
      obtain rfl := Option.some.inj h
      exact ev_iret (pc := 67) X dX1_neighbour_67
    · rw [if_neg hc] at h
      refine ev_iload_n (pc := 57) X 2 dX1_neighbour_57 rfl rfl ?_
      refine ev_aload_n (pc := 58) X 1 dX1_neighbour_58 rfl rfl ?_
      obtain ⟨v2, hv2, h⟩ := eBi h
      refine ev_getI (pc := 59) X hcX1 (k := 0) (by decide) kfX1_26 dX1_neighbour_59 hv2 ?_
      refine ev_isub (pc := 62) X dX1_neighbour_62 ?_
      refine ev_goto (pc := 63) X 67 dX1_neighbour_63 rfl ?_
      obtain rfl := Option.some.inj h
      exact ev_iret (pc := 67) X dX1_neighbour_67
  · rw [if_neg hq19_0] at h
    by_cases hq19_1 : x2 = (1 : Int32)
    · rw [if_pos hq19_1] at h
      refine ev_tableIn (pc := 19) X 68 dX1_neighbour_19 (by rw [hq19_1]; decide) (by rw [hq19_1]; decide) (by rw [hq19_1]; rfl) rfl ?_
      refine ev_iload_n (pc := 68) X 0 dX1_neighbour_68 rfl rfl ?_
      refine ev_iconst (pc := 69) (v := (1 : Int32)) X dX1_neighbour_69 rfl ?_
      refine ev_iadd (pc := 70) X dX1_neighbour_70 ?_
      refine ev_aload_n (pc := 71) X 1 dX1_neighbour_71 rfl rfl ?_
      obtain ⟨v3, hv3, h⟩ := eBi h
      refine ev_getI (pc := 72) X hcX1 (k := 0) (by decide) kfX1_26 dX1_neighbour_72 hv3 ?_
      refine ev_icmp_ge (pc := 75) X 84 dX1_neighbour_75 rfl (fun hc => ?_) (fun hc => ?_)
      · rw [if_pos hc] at h
        refine ev_iconst (pc := 84) (v := (-1 : Int32)) X dX1_neighbour_84 rfl ?_
        obtain rfl := Option.some.inj h
        exact ev_iret (pc := 85) X dX1_neighbour_85
      · rw [if_neg hc] at h
        refine ev_iload_n (pc := 78) X 2 dX1_neighbour_78 rfl rfl ?_
        refine ev_iconst (pc := 79) (v := (1 : Int32)) X dX1_neighbour_79 rfl ?_
        refine ev_iadd (pc := 80) X dX1_neighbour_80 ?_
        refine ev_goto (pc := 81) X 85 dX1_neighbour_81 rfl ?_
        obtain rfl := Option.some.inj h
        exact ev_iret (pc := 85) X dX1_neighbour_85
    · rw [if_neg hq19_1] at h
      by_cases hq19_2 : x2 = (2 : Int32)
      · rw [if_pos hq19_2] at h
        refine ev_tableIn (pc := 19) X 86 dX1_neighbour_19 (by rw [hq19_2]; decide) (by rw [hq19_2]; decide) (by rw [hq19_2]; rfl) rfl ?_
        refine ev_iload_n (pc := 86) X 2 dX1_neighbour_86 rfl rfl ?_
        refine ev_aload_n (pc := 87) X 1 dX1_neighbour_87 rfl rfl ?_
        obtain ⟨v4, hv4, h⟩ := eBi h
        refine ev_getI (pc := 88) X hcX1 (k := 0) (by decide) kfX1_26 dX1_neighbour_88 hv4 ?_
        refine ev_iadd (pc := 91) X dX1_neighbour_91 ?_
        refine ev_aload_n (pc := 92) X 1 dX1_neighbour_92 rfl rfl ?_
        obtain ⟨v6, w5, hc, h⟩ := eB2 h
        refine ev_callV_i (pc := 93) (As := []) (S := [.int (x1 + v4)]) X hwX1_cells klX1_50 hiX1_cells hsX1_cells (ci := 1) ⟨rfl, rfl⟩ ⟨Nat.le_of_ble_eq_true rfl, Nat.le_of_ble_eq_true rfl⟩ ⟨Nat.le_refl _, Nat.le_refl _⟩ rfl (Nat.le_of_ble_eq_true rfl) dX1_neighbour_93 rfl (mX1_cells (l := l) (D := D) (cI := cI) (cZ := cZ) hc).1 (mX1_cells hc).2 ?_
        refine ev_icmp_ge (pc := 96) X 108 dX1_neighbour_96 rfl (fun hc => ?_) (fun hc => ?_)
        · rw [if_pos hc] at h
          refine ev_iconst (pc := 108) (v := (-1 : Int32)) X dX1_neighbour_108 rfl ?_
          obtain rfl := Option.some.inj h
          exact ev_iret (pc := 109) X dX1_neighbour_109
        · rw [if_neg hc] at h
          refine ev_iload_n (pc := 99) X 2 dX1_neighbour_99 rfl rfl ?_
          refine ev_aload_n (pc := 100) X 1 dX1_neighbour_100 rfl rfl ?_
          obtain ⟨v7, hv7, h⟩ := eBi h
          refine ev_getI (pc := 101) X hcX1 (k := 0) (by decide) kfX1_26 dX1_neighbour_101 hv7 ?_
          refine ev_iadd (pc := 104) X dX1_neighbour_104 ?_
          refine ev_goto (pc := 105) X 109 dX1_neighbour_105 rfl ?_
          obtain rfl := Option.some.inj h
          exact ev_iret (pc := 109) X dX1_neighbour_109
      · rw [if_neg hq19_2] at h
        by_cases hq19_3 : x2 = (3 : Int32)
        · rw [if_pos hq19_3] at h
          refine ev_tableIn (pc := 19) X 110 dX1_neighbour_19 (by rw [hq19_3]; decide) (by rw [hq19_3]; decide) (by rw [hq19_3]; rfl) rfl ?_
          refine ev_iload_n (pc := 110) X 0 dX1_neighbour_110 rfl rfl ?_
          refine ev_if_le (pc := 111) X 120 dX1_neighbour_111 rfl (fun hc => ?_) (fun hc => ?_)
          · rw [if_pos hc] at h
            refine ev_iconst (pc := 120) (v := (-1 : Int32)) X dX1_neighbour_120 rfl ?_
            obtain rfl := Option.some.inj h
            exact ev_iret (pc := 121) X dX1_neighbour_121
          · rw [if_neg hc] at h
            refine ev_iload_n (pc := 114) X 2 dX1_neighbour_114 rfl rfl ?_
            refine ev_iconst (pc := 115) (v := (1 : Int32)) X dX1_neighbour_115 rfl ?_
            refine ev_isub (pc := 116) X dX1_neighbour_116 ?_
            refine ev_goto (pc := 117) X 121 dX1_neighbour_117 rfl ?_
            obtain rfl := Option.some.inj h
            exact ev_iret (pc := 121) X dX1_neighbour_121
        · rw [if_neg hq19_3] at h
          refine ev_tableOut (pc := 19) X 122 dX1_neighbour_19 (by have a0 := lv_neT hq19_0 (a := 0) (by decide); have a1 := lv_neT hq19_1 (a := 1) (by decide); have a2 := lv_neT hq19_2 (a := 2) (by decide); have a3 := lv_neT hq19_3 (a := 3) (by decide); omega) rfl ?_
          refine ev_iconst (pc := 122) (v := (-1 : Int32)) X dX1_neighbour_122 rfl ?_
          obtain rfl := Option.some.inj h
          exact ev_iret (pc := 123) X dX1_neighbour_123
def fX1_neighbour_0 (x0 : Nat) (x1 : Int32) (x2 : Int32) (w : eW) : Option (Int32 × eW) := (eGI w x0 1 0).bind fun v1 => if v1 ≤ 0 then (fX1_neighbour_17 x0 x1 x2 (0 : Int32) w) else ((eGI w x0 1 0).bind fun v2 => if v2 = 0 then none else fX1_neighbour_17 x0 x1 x2 (x1 - x1 / v2 * v2) w)
set_option maxRecDepth 20000 in
theorem sX1_neighbour_0  (x0 : Nat) (x1 : Int32) (x2 : Int32) (w : eW) (r : Int32 × eW) (h : fX1_neighbour_0 x0 x1 x2 w = some r) : eBN l D cI cZ 1 yX1_neighbour cX1_neighbour 4 (some .int) 0 [(0, .ref x0), (1, .int x1), (2, .int x2)] [] w (some (.int r.1)) r.2 := by
  rw [fX1_neighbour_0] at h
  intro p e s m args below meth c r0 A X
  refine ev_aload_n (pc := 0) X 0 dX1_neighbour_0 rfl rfl ?_
  obtain ⟨v1, hv1, h⟩ := eBi h
  refine ev_getI (pc := 1) X hcX1 (k := 0) (by decide) kfX1_26 dX1_neighbour_1 hv1 ?_
  refine ev_if_le (pc := 4) X 16 dX1_neighbour_4 rfl (fun hc => ?_) (fun hc => ?_)
  · rw [if_pos hc] at h
    refine ev_iconst (pc := 16) (v := (0 : Int32)) X dX1_neighbour_16 rfl ?_
    exact ev_weak (pc := 17) [0, 1, 2] rfl (sX1_neighbour_17 _ _ _ _ _ _ h p e s m args below meth c r0 A X)
  · rw [if_neg hc] at h
    refine ev_iload_n (pc := 7) X 1 dX1_neighbour_7 rfl rfl ?_
    refine ev_aload_n (pc := 8) X 0 dX1_neighbour_8 rfl rfl ?_
    obtain ⟨v2, hv2, h⟩ := eBi h
    refine ev_getI (pc := 9) X hcX1 (k := 0) (by decide) kfX1_26 dX1_neighbour_9 hv2 ?_
    obtain ⟨hz, h⟩ := eNz h
    refine ev_irem (pc := 12) X dX1_neighbour_12 hz ?_
    refine ev_goto (pc := 13) X 17 dX1_neighbour_13 rfl ?_
    exact ev_weak (pc := 17) [0, 1, 2] rfl (sX1_neighbour_17 _ _ _ _ _ _ h p e s m args below meth c r0 A X)
def fX1_neighbour (a0 : Nat) (a1 : Int32) (a2 : Int32) (w : eW) : Option (Int32 × eW) := bif eO w a0 1 then fX1_neighbour_0 a0 a1 a2 w else none
theorem mX1_neighbour {a0 : Nat} {a1 : Int32} {a2 : Int32} {w : eW} {v : Int32} {w' : eW} (h : fX1_neighbour a0 a1 a2 w = some (v, w')) : eO w a0 1 = true ∧ eMN l D cI cZ 1 yX1_neighbour cX1_neighbour 4 (some .int) [.ref a0, .int a1, .int a2] w (some (.int v)) w' := by
  obtain ⟨h0, h⟩ := eBif h
  exact ⟨h0, eMN_of [(0, .ref a0), (1, .int a1), (2, .int a2)] (plainFor_of_name (by decide)) (fun _ => rfl) (fun _ => Nat.le_of_ble_eq_true rfl) (fun p e s m args below meth c r0 A X => ev_weak (pc := 0) [0, 1, 2] rfl (sX1_neighbour_0 _ _ _ _ _ h p e s m args below meth c r0 A X))⟩
theorem dX1_step_0 : decode cX1_step 0 = .ok (.aload_n 0, 1) := by decide +kernel
theorem dX1_step_1 : decode cX1_step 1 = .ok (.getfield 14, 3) := by decide +kernel
theorem dX1_step_4 : decode cX1_step 4 = .ok (.iload_n 2, 1) := by decide +kernel
theorem dX1_step_5 : decode cX1_step 5 = .ok (.invokevirtual 42, 3) := by decide +kernel
theorem dX1_step_8 : decode cX1_step 8 = .ok (.aload_n 0, 1) := by decide +kernel
theorem dX1_step_9 : decode cX1_step 9 = .ok (.getfield 14, 3) := by decide +kernel
theorem dX1_step_12 : decode cX1_step 12 = .ok (.iload_n 1, 1) := by decide +kernel
theorem dX1_step_13 : decode cX1_step 13 = .ok (.invokevirtual 42, 3) := by decide +kernel
theorem dX1_step_16 : decode cX1_step 16 = .ok (.isub, 1) := by decide +kernel
theorem dX1_step_17 : decode cX1_step 17 = .ok (.ireturn, 1) := by decide +kernel
def fX1_step_0 (x0 : Nat) (x1 : Int32) (x2 : Int32) (w : eW) : Option (Int32 × eW) := (eGR w x0 1 4).bind fun v1 => eBind2 (fX7_get v1 x2 w) fun v3 w2 => (eGR w2 x0 1 4).bind fun v4 => eBind2 (fX7_get v4 x1 w2) fun v6 w5 => some (v3 - v6, w5)
set_option maxRecDepth 20000 in
theorem sX1_step_0  (x0 : Nat) (x1 : Int32) (x2 : Int32) (w : eW) (r : Int32 × eW) (h : fX1_step_0 x0 x1 x2 w = some r) : eBN l D cI cZ 1 yX1_step cX1_step 3 (some .int) 0 [(0, .ref x0), (1, .int x1), (2, .int x2)] [] w (some (.int r.1)) r.2 := by
  rw [fX1_step_0] at h
  intro p e s m args below meth c r0 A X
  refine ev_aload_n (pc := 0) X 0 dX1_step_0 rfl rfl ?_
  obtain ⟨v1, hv1, h⟩ := eBi h
  refine ev_getR (pc := 1) X hcX1 (k := 4) (by decide) kfX1_14 dX1_step_1 hv1 ?_
  refine ev_iload_n (pc := 4) X 2 dX1_step_4 rfl rfl ?_
  obtain ⟨v3, w2, hc, h⟩ := eB2 h
  refine ev_callV_i (pc := 5) (As := [.int x2]) (S := []) X hwX7_get klX1_42 hiX7_get hsX7_get (ci := 7) ⟨rfl, rfl⟩ ⟨Nat.le_of_ble_eq_true rfl, Nat.le_of_ble_eq_true rfl⟩ ⟨Nat.le_refl _, Nat.le_refl _⟩ rfl (Nat.le_of_ble_eq_true rfl) dX1_step_5 rfl (mX7_get (l := l) (D := D) (cI := cI) (cZ := cZ) hc).1 (mX7_get hc).2 ?_
  refine ev_aload_n (pc := 8) X 0 dX1_step_8 rfl rfl ?_
  obtain ⟨v4, hv4, h⟩ := eBi h
  refine ev_getR (pc := 9) X hcX1 (k := 4) (by decide) kfX1_14 dX1_step_9 hv4 ?_
  refine ev_iload_n (pc := 12) X 1 dX1_step_12 rfl rfl ?_
  obtain ⟨v6, w5, hc, h⟩ := eB2 h
  refine ev_callV_i (pc := 13) (As := [.int x1]) (S := [.int v3]) X hwX7_get klX1_42 hiX7_get hsX7_get (ci := 7) ⟨rfl, rfl⟩ ⟨Nat.le_of_ble_eq_true rfl, Nat.le_of_ble_eq_true rfl⟩ ⟨Nat.le_refl _, Nat.le_refl _⟩ rfl (Nat.le_of_ble_eq_true rfl) dX1_step_13 rfl (mX7_get (l := l) (D := D) (cI := cI) (cZ := cZ) hc).1 (mX7_get hc).2 ?_
  refine ev_isub (pc := 16) X dX1_step_16 ?_
  obtain rfl := Option.some.inj h
  exact ev_iret (pc := 17) X dX1_step_17
def fX1_step (a0 : Nat) (a1 : Int32) (a2 : Int32) (w : eW) : Option (Int32 × eW) := bif eO w a0 1 then fX1_step_0 a0 a1 a2 w else none
theorem mX1_step {a0 : Nat} {a1 : Int32} {a2 : Int32} {w : eW} {v : Int32} {w' : eW} (h : fX1_step a0 a1 a2 w = some (v, w')) : eO w a0 1 = true ∧ eMN l D cI cZ 1 yX1_step cX1_step 3 (some .int) [.ref a0, .int a1, .int a2] w (some (.int v)) w' := by
  obtain ⟨h0, h⟩ := eBif h
  exact ⟨h0, eMN_of [(0, .ref a0), (1, .int a1), (2, .int a2)] (plainFor_of_name (by decide)) (fun _ => rfl) (fun _ => Nat.le_of_ble_eq_true rfl) (fun p e s m args below meth c r0 A X => ev_weak (pc := 0) [0, 1, 2] rfl (sX1_step_0 _ _ _ _ _ h p e s m args below meth c r0 A X))⟩
theorem dJ9_abs_0f7a4_0 : decode cJ9_abs_0f7a4 0 = .ok (.iload_n 0, 1) := by decide +kernel
theorem dJ9_abs_0f7a4_1 : decode cJ9_abs_0f7a4 1 = .ok (.ifCond .ge 8, 3) := by decide +kernel
theorem dJ9_abs_0f7a4_4 : decode cJ9_abs_0f7a4 4 = .ok (.iload_n 0, 1) := by decide +kernel
theorem dJ9_abs_0f7a4_5 : decode cJ9_abs_0f7a4 5 = .ok (.ineg, 1) := by decide +kernel
theorem dJ9_abs_0f7a4_6 : decode cJ9_abs_0f7a4 6 = .ok (.goto 4, 3) := by decide +kernel
theorem dJ9_abs_0f7a4_9 : decode cJ9_abs_0f7a4 9 = .ok (.iload_n 0, 1) := by decide +kernel
theorem dJ9_abs_0f7a4_10 : decode cJ9_abs_0f7a4 10 = .ok (.ireturn, 1) := by decide +kernel
def fJ9_abs_0f7a4_0 (x0 : Int32) (w : eW) : Option (Int32 × eW) := if 0 ≤ x0 then (some (x0, w)) else (some (-x0, w))
set_option maxRecDepth 20000 in
theorem sJ9_abs_0f7a4_0  (x0 : Int32) (w : eW) (r : Int32 × eW) (h : fJ9_abs_0f7a4_0 x0 w = some r) : eBN l D cI cZ 0 yJ9_abs_0f7a4 cJ9_abs_0f7a4 1 (some .int) 0 [(0, .int x0)] [] w (some (.int r.1)) r.2 := by
  rw [fJ9_abs_0f7a4_0] at h
  intro p e s m args below meth c r0 A X
  refine ev_iload_n (pc := 0) X 0 dJ9_abs_0f7a4_0 rfl rfl ?_
  refine ev_if_ge (pc := 1) X 9 dJ9_abs_0f7a4_1 rfl (fun hc => ?_) (fun hc => ?_)
  · rw [if_pos hc] at h
    refine ev_iload_n (pc := 9) X 0 dJ9_abs_0f7a4_9 rfl rfl ?_
    obtain rfl := Option.some.inj h
    exact ev_iret (pc := 10) X dJ9_abs_0f7a4_10
  · rw [if_neg hc] at h
    refine ev_iload_n (pc := 4) X 0 dJ9_abs_0f7a4_4 rfl rfl ?_
    refine ev_ineg (pc := 5) X dJ9_abs_0f7a4_5 ?_
    refine ev_goto (pc := 6) X 10 dJ9_abs_0f7a4_6 rfl ?_
    obtain rfl := Option.some.inj h
    exact ev_iret (pc := 10) X dJ9_abs_0f7a4_10
def fJ9_abs_0f7a4 (a0 : Int32) (w : eW) : Option (Int32 × eW) := fJ9_abs_0f7a4_0 a0 w
theorem mJ9_abs_0f7a4 {a0 : Int32} {w : eW} {v : Int32} {w' : eW} (h : fJ9_abs_0f7a4 a0 w = some (v, w')) : eMN l D cI cZ 0 yJ9_abs_0f7a4 cJ9_abs_0f7a4 1 (some .int) [.int a0] w (some (.int v)) w' :=
  eMN_of [(0, .int a0)] (by decide +kernel) (fun _ => rfl) (fun _ => Nat.le_of_ble_eq_true rfl) (fun p e s m args below meth c r0 A X => ev_weak (pc := 0) [0] rfl (sJ9_abs_0f7a4_0 _ _ _ h p e s m args below meth c r0 A X))
theorem dX1_cellBy_0 : decode cX1_cellBy 0 = .ok (.aload_n 0, 1) := by decide +kernel
theorem dX1_cellBy_1 : decode cX1_cellBy 1 = .ok (.iload_n 1, 1) := by decide +kernel
theorem dX1_cellBy_2 : decode cX1_cellBy 2 = .ok (.iload_n 2, 1) := by decide +kernel
theorem dX1_cellBy_3 : decode cX1_cellBy 3 = .ok (.invokevirtual 60, 3) := by decide +kernel
theorem dX1_cellBy_6 : decode cX1_cellBy 6 = .ok (.istore_n 3, 1) := by decide +kernel
theorem dX1_cellBy_7 : decode cX1_cellBy 7 = .ok (.iload_n 3, 1) := by decide +kernel
theorem dX1_cellBy_8 : decode cX1_cellBy 8 = .ok (.iconst (-1), 1) := by decide +kernel
theorem dX1_cellBy_9 : decode cX1_cellBy 9 = .ok (.if_icmp .eq 23, 3) := by decide +kernel
theorem dX1_cellBy_12 : decode cX1_cellBy 12 = .ok (.aload_n 0, 1) := by decide +kernel
theorem dX1_cellBy_13 : decode cX1_cellBy 13 = .ok (.iload_n 1, 1) := by decide +kernel
theorem dX1_cellBy_14 : decode cX1_cellBy 14 = .ok (.iload_n 3, 1) := by decide +kernel
theorem dX1_cellBy_15 : decode cX1_cellBy 15 = .ok (.invokevirtual 64, 3) := by decide +kernel
theorem dX1_cellBy_18 : decode cX1_cellBy 18 = .ok (.invokestatic 67, 3) := by decide +kernel
theorem dX1_cellBy_21 : decode cX1_cellBy 21 = .ok (.aload_n 0, 1) := by decide +kernel
theorem dX1_cellBy_22 : decode cX1_cellBy 22 = .ok (.getfield 33, 3) := by decide +kernel
theorem dX1_cellBy_25 : decode cX1_cellBy 25 = .ok (.if_icmp .gt 7, 3) := by decide +kernel
theorem dX1_cellBy_28 : decode cX1_cellBy 28 = .ok (.iload_n 3, 1) := by decide +kernel
theorem dX1_cellBy_29 : decode cX1_cellBy 29 = .ok (.goto 4, 3) := by decide +kernel
theorem dX1_cellBy_32 : decode cX1_cellBy 32 = .ok (.iconst (-1), 1) := by decide +kernel
theorem dX1_cellBy_33 : decode cX1_cellBy 33 = .ok (.ireturn, 1) := by decide +kernel
def fX1_cellBy_32  (w : eW) : Option (Int32 × eW) := some ((-1 : Int32), w)
set_option maxRecDepth 20000 in
theorem sX1_cellBy_32   (w : eW) (r : Int32 × eW) (h : fX1_cellBy_32  w = some r) : eBN l D cI cZ 2 yX1_cellBy cX1_cellBy 4 (some .int) 32 [] [] w (some (.int r.1)) r.2 := by
  rw [fX1_cellBy_32] at h
  intro p e s m args below meth c r0 A X
  refine ev_iconst (pc := 32) (v := (-1 : Int32)) X dX1_cellBy_32 rfl ?_
  obtain rfl := Option.some.inj h
  exact ev_iret (pc := 33) X dX1_cellBy_33
def fX1_cellBy_0 (x0 : Nat) (x1 : Int32) (x2 : Int32) (w : eW) : Option (Int32 × eW) := eBind2 (fX1_neighbour x0 x1 x2 w) fun v2 w1 => if v2 = (-1 : Int32) then (fX1_cellBy_32 w1) else (eBind2 (fX1_step x0 x1 v2 w1) fun v4 w3 => eBind2 (fJ9_abs_0f7a4 v4 w3) fun v6 w5 => (eGI w5 x0 1 2).bind fun v7 => if v7 < v6 then (fX1_cellBy_32 w5) else (some (v2, w5)))
set_option maxRecDepth 20000 in
theorem sX1_cellBy_0  (x0 : Nat) (x1 : Int32) (x2 : Int32) (w : eW) (r : Int32 × eW) (h : fX1_cellBy_0 x0 x1 x2 w = some r) : eBN l D cI cZ 2 yX1_cellBy cX1_cellBy 4 (some .int) 0 [(0, .ref x0), (1, .int x1), (2, .int x2)] [] w (some (.int r.1)) r.2 := by
  rw [fX1_cellBy_0] at h
  intro p e s m args below meth c r0 A X
  refine ev_aload_n (pc := 0) X 0 dX1_cellBy_0 rfl rfl ?_
  refine ev_iload_n (pc := 1) X 1 dX1_cellBy_1 rfl rfl ?_
  refine ev_iload_n (pc := 2) X 2 dX1_cellBy_2 rfl rfl ?_
  obtain ⟨v2, w1, hc, h⟩ := eB2 h
  refine ev_callV_i (pc := 3) (As := [.int x1, .int x2]) (S := []) X hwX1_neighbour klX1_60 hiX1_neighbour hsX1_neighbour (ci := 1) ⟨rfl, rfl⟩ ⟨Nat.le_of_ble_eq_true rfl, Nat.le_of_ble_eq_true rfl⟩ ⟨Nat.le_refl _, Nat.le_refl _⟩ rfl (Nat.le_of_ble_eq_true rfl) dX1_cellBy_3 rfl (mX1_neighbour (l := l) (D := D) (cI := cI) (cZ := cZ) hc).1 (mX1_neighbour hc).2 ?_
  refine ev_istore_n (pc := 6) (L' := [(3, .int v2), (0, .ref x0), (1, .int x1), (2, .int x2)]) X dX1_cellBy_6 rfl (by decide) rfl ?_
  refine ev_iload_n (pc := 7) X 0 dX1_cellBy_7 rfl rfl ?_
  refine ev_iconst (pc := 8) (v := (-1 : Int32)) X dX1_cellBy_8 rfl ?_
  refine ev_icmp_eq (pc := 9) X 32 dX1_cellBy_9 rfl (fun hc => ?_) (fun hc => ?_)
  · rw [if_pos hc] at h
    exact ev_weak (pc := 32) [] rfl (sX1_cellBy_32  _ _ h p e s m args below meth c r0 A X)
  · rw [if_neg hc] at h
    refine ev_aload_n (pc := 12) X 1 dX1_cellBy_12 rfl rfl ?_
    refine ev_iload_n (pc := 13) X 2 dX1_cellBy_13 rfl rfl ?_
    refine ev_iload_n (pc := 14) X 0 dX1_cellBy_14 rfl rfl ?_
    obtain ⟨v4, w3, hc, h⟩ := eB2 h
    refine ev_callV_i (pc := 15) (As := [.int x1, .int v2]) (S := []) X hwX1_step klX1_64 hiX1_step hsX1_step (ci := 1) ⟨rfl, rfl⟩ ⟨Nat.le_of_ble_eq_true rfl, Nat.le_of_ble_eq_true rfl⟩ ⟨Nat.le_refl _, Nat.le_refl _⟩ rfl (Nat.le_of_ble_eq_true rfl) dX1_cellBy_15 rfl (mX1_step (l := l) (D := D) (cI := cI) (cZ := cZ) hc).1 (mX1_step hc).2 ?_
    obtain ⟨v6, w5, hc, h⟩ := eB2 h
    refine ev_callS_i (pc := 18) (As := [.int v4]) (S := []) X hwJ9_abs_0f7a4 klX1_67 htJ9_abs_0f7a4 ⟨Nat.le_of_ble_eq_true rfl, Nat.le_of_ble_eq_true rfl⟩ ⟨Nat.le_refl _, Nat.le_refl _⟩ rfl (Nat.le_of_ble_eq_true rfl) dX1_cellBy_18 rfl (mJ9_abs_0f7a4 hc) ?_
    refine ev_aload_n (pc := 21) X 1 dX1_cellBy_21 rfl rfl ?_
    obtain ⟨v7, hv7, h⟩ := eBi h
    refine ev_getI (pc := 22) X hcX1 (k := 2) (by decide) kfX1_33 dX1_cellBy_22 hv7 ?_
    refine ev_icmp_gt (pc := 25) X 32 dX1_cellBy_25 rfl (fun hc => ?_) (fun hc => ?_)
    · rw [if_pos hc] at h
      exact ev_weak (pc := 32) [] rfl (sX1_cellBy_32  _ _ h p e s m args below meth c r0 A X)
    · rw [if_neg hc] at h
      refine ev_iload_n (pc := 28) X 0 dX1_cellBy_28 rfl rfl ?_
      refine ev_goto (pc := 29) X 33 dX1_cellBy_29 rfl ?_
      obtain rfl := Option.some.inj h
      exact ev_iret (pc := 33) X dX1_cellBy_33
def fX1_cellBy (a0 : Nat) (a1 : Int32) (a2 : Int32) (w : eW) : Option (Int32 × eW) := bif eO w a0 1 then fX1_cellBy_0 a0 a1 a2 w else none
theorem mX1_cellBy {a0 : Nat} {a1 : Int32} {a2 : Int32} {w : eW} {v : Int32} {w' : eW} (h : fX1_cellBy a0 a1 a2 w = some (v, w')) : eO w a0 1 = true ∧ eMN l D cI cZ 2 yX1_cellBy cX1_cellBy 4 (some .int) [.ref a0, .int a1, .int a2] w (some (.int v)) w' := by
  obtain ⟨h0, h⟩ := eBif h
  exact ⟨h0, eMN_of [(0, .ref a0), (1, .int a1), (2, .int a2)] (plainFor_of_name (by decide)) (fun _ => rfl) (fun _ => Nat.le_of_ble_eq_true rfl) (fun p e s m args below meth c r0 A X => ev_weak (pc := 0) [0, 1, 2] rfl (sX1_cellBy_0 _ _ _ _ _ h p e s m args below meth c r0 A X))⟩
theorem dX10_bit_0 : decode cX10_bit 0 = .ok (.iconst 1, 1) := by decide +kernel
theorem dX10_bit_1 : decode cX10_bit 1 = .ok (.iload_n 0, 1) := by decide +kernel
theorem dX10_bit_2 : decode cX10_bit 2 = .ok (.ishl, 1) := by decide +kernel
theorem dX10_bit_3 : decode cX10_bit 3 = .ok (.ireturn, 1) := by decide +kernel
def fX10_bit_0 (x0 : Int32) (w : eW) : Option (Int32 × eW) := some ((1 : Int32) <<< (x0 &&& 31), w)
set_option maxRecDepth 20000 in
theorem sX10_bit_0  (x0 : Int32) (w : eW) (r : Int32 × eW) (h : fX10_bit_0 x0 w = some r) : eBN l D cI cZ 0 yX10_bit cX10_bit 1 (some .int) 0 [(0, .int x0)] [] w (some (.int r.1)) r.2 := by
  rw [fX10_bit_0] at h
  intro p e s m args below meth c r0 A X
  refine ev_iconst (pc := 0) (v := (1 : Int32)) X dX10_bit_0 rfl ?_
  refine ev_iload_n (pc := 1) X 0 dX10_bit_1 rfl rfl ?_
  refine ev_ishl (pc := 2) X dX10_bit_2 ?_
  obtain rfl := Option.some.inj h
  exact ev_iret (pc := 3) X dX10_bit_3
def fX10_bit (a0 : Int32) (w : eW) : Option (Int32 × eW) := fX10_bit_0 a0 w
theorem mX10_bit {a0 : Int32} {w : eW} {v : Int32} {w' : eW} (h : fX10_bit a0 w = some (v, w')) : eMN l D cI cZ 0 yX10_bit cX10_bit 1 (some .int) [.int a0] w (some (.int v)) w' :=
  eMN_of [(0, .int a0)] (plainFor_of_name (by decide)) (fun _ => rfl) (fun _ => Nat.le_of_ble_eq_true rfl) (fun p e s m args below meth c r0 A X => ev_weak (pc := 0) [0] rfl (sX10_bit_0 _ _ _ h p e s m args below meth c r0 A X))
theorem dX1_cellsOfTowns_0 : decode cX1_cellsOfTowns 0 = .ok (.iconst 0, 1) := by decide +kernel
theorem dX1_cellsOfTowns_1 : decode cX1_cellsOfTowns 1 = .ok (.istore_n 2, 1) := by decide +kernel
theorem dX1_cellsOfTowns_2 : decode cX1_cellsOfTowns 2 = .ok (.iconst 0, 1) := by decide +kernel
theorem dX1_cellsOfTowns_3 : decode cX1_cellsOfTowns 3 = .ok (.istore_n 3, 1) := by decide +kernel
theorem dX1_cellsOfTowns_4 : decode cX1_cellsOfTowns 4 = .ok (.iload_n 3, 1) := by decide +kernel
theorem dX1_cellsOfTowns_5 : decode cX1_cellsOfTowns 5 = .ok (.aload_n 0, 1) := by decide +kernel
theorem dX1_cellsOfTowns_6 : decode cX1_cellsOfTowns 6 = .ok (.getfield 36, 3) := by decide +kernel
theorem dX1_cellsOfTowns_9 : decode cX1_cellsOfTowns 9 = .ok (.if_icmp .ge 32, 3) := by decide +kernel
theorem dX1_cellsOfTowns_12 : decode cX1_cellsOfTowns 12 = .ok (.iload_n 1, 1) := by decide +kernel
theorem dX1_cellsOfTowns_13 : decode cX1_cellsOfTowns 13 = .ok (.iload_n 3, 1) := by decide +kernel
theorem dX1_cellsOfTowns_14 : decode cX1_cellsOfTowns 14 = .ok (.invokestatic 54, 3) := by decide +kernel
theorem dX1_cellsOfTowns_17 : decode cX1_cellsOfTowns 17 = .ok (.iand, 1) := by decide +kernel
theorem dX1_cellsOfTowns_18 : decode cX1_cellsOfTowns 18 = .ok (.ifCond .eq 17, 3) := by decide +kernel
theorem dX1_cellsOfTowns_21 : decode cX1_cellsOfTowns 21 = .ok (.iload_n 2, 1) := by decide +kernel
theorem dX1_cellsOfTowns_22 : decode cX1_cellsOfTowns 22 = .ok (.aload_n 0, 1) := by decide +kernel
theorem dX1_cellsOfTowns_23 : decode cX1_cellsOfTowns 23 = .ok (.getfield 20, 3) := by decide +kernel
theorem dX1_cellsOfTowns_26 : decode cX1_cellsOfTowns 26 = .ok (.iload_n 3, 1) := by decide +kernel
theorem dX1_cellsOfTowns_27 : decode cX1_cellsOfTowns 27 = .ok (.invokevirtual 42, 3) := by decide +kernel
theorem dX1_cellsOfTowns_30 : decode cX1_cellsOfTowns 30 = .ok (.invokestatic 54, 3) := by decide +kernel
theorem dX1_cellsOfTowns_33 : decode cX1_cellsOfTowns 33 = .ok (.ior, 1) := by decide +kernel
theorem dX1_cellsOfTowns_34 : decode cX1_cellsOfTowns 34 = .ok (.istore_n 2, 1) := by decide +kernel
theorem dX1_cellsOfTowns_35 : decode cX1_cellsOfTowns 35 = .ok (.iinc 3 1, 3) := by decide +kernel
theorem dX1_cellsOfTowns_38 : decode cX1_cellsOfTowns 38 = .ok (.goto (-34), 3) := by decide +kernel
theorem dX1_cellsOfTowns_41 : decode cX1_cellsOfTowns 41 = .ok (.iload_n 2, 1) := by decide +kernel
theorem dX1_cellsOfTowns_42 : decode cX1_cellsOfTowns 42 = .ok (.ireturn, 1) := by decide +kernel
def fX1_cellsOfTowns_35 (K4 : Nat → Int32 → Int32 → Int32 → eW → Option (Int32 × eW)) (x0 : Nat) (x1 : Int32) (x2 : Int32) (x3 : Int32) (w : eW) : Option (Int32 × eW) := K4 x0 x1 x2 (x3 + (1 : Int32)) w
set_option maxRecDepth 20000 in
theorem sX1_cellsOfTowns_35 {K4 : Nat → Int32 → Int32 → Int32 → eW → Option (Int32 × eW)} (hK4 : ∀ (x0 : Nat) (x1 : Int32) (x2 : Int32) (x3 : Int32) (w : eW) (r : Int32 × eW), K4 x0 x1 x2 x3 w = some r → eBN l D cI cZ 1 yX1_cellsOfTowns cX1_cellsOfTowns 4 (some .int) 4 [(0, .ref x0), (1, .int x1), (2, .int x2), (3, .int x3)] [] w (some (.int r.1)) r.2) (x0 : Nat) (x1 : Int32) (x2 : Int32) (x3 : Int32) (w : eW) (r : Int32 × eW) (h : fX1_cellsOfTowns_35 K4 x0 x1 x2 x3 w = some r) : eBN l D cI cZ 1 yX1_cellsOfTowns cX1_cellsOfTowns 4 (some .int) 35 [(0, .ref x0), (1, .int x1), (2, .int x2), (3, .int x3)] [] w (some (.int r.1)) r.2 := by
  rw [fX1_cellsOfTowns_35] at h
  intro p e s m args below meth c r0 A X
  refine ev_iinc (pc := 35) (v := x3 + (1 : Int32)) (L' := [(3, .int (x3 + (1 : Int32))), (0, .ref x0), (1, .int x1), (2, .int x2)]) X 3 dX1_cellsOfTowns_35 rfl rfl (by decide) rfl ?_
  refine ev_goto (pc := 38) X 4 dX1_cellsOfTowns_38 rfl ?_
  exact ev_weak (pc := 4) [1, 2, 3, 0] rfl (hK4 _ _ _ _ _ _ h p e s m args below meth c r0 A X)
def fX1_cellsOfTowns_4 : Nat → Nat → Int32 → Int32 → Int32 → eW → Option (Int32 × eW)
  | 0, _, _, _, _, _ => none
  | n + 1, x0, x1, x2, x3, w => (eGI w x0 1 3).bind fun v1 => if v1 ≤ x3 then (some (x2, w)) else (eBind2 (fX10_bit x3 w) fun v3 w2 => if (x1 &&& v3) = 0 then (fX1_cellsOfTowns_35 (fX1_cellsOfTowns_4 n) x0 x1 x2 x3 w2) else ((eGR w2 x0 1 5).bind fun v4 => eBind2 (fX7_get v4 x3 w2) fun v6 w5 => eBind2 (fX10_bit v6 w5) fun v8 w7 => fX1_cellsOfTowns_35 (fX1_cellsOfTowns_4 n) x0 x1 (x2 ||| v8) x3 w7))
set_option maxRecDepth 20000 in
theorem sX1_cellsOfTowns_4  : ∀ (n : Nat) (x0 : Nat) (x1 : Int32) (x2 : Int32) (x3 : Int32) (w : eW) (r : Int32 × eW), fX1_cellsOfTowns_4 n x0 x1 x2 x3 w = some r → eBN l D cI cZ 1 yX1_cellsOfTowns cX1_cellsOfTowns 4 (some .int) 4 [(0, .ref x0), (1, .int x1), (2, .int x2), (3, .int x3)] [] w (some (.int r.1)) r.2 := by
  intro n
  induction n with
  | zero => intro x0 x1 x2 x3 w r h; exact absurd (show (none : Option (Int32 × eW)) = some r from h) (by simp)
  | succ n ih =>
    intro x0 x1 x2 x3 w r h
    rw [fX1_cellsOfTowns_4] at h
    intro p e s m args below meth c r0 A X
    refine ev_iload_n (pc := 4) X 3 dX1_cellsOfTowns_4 rfl rfl ?_
    refine ev_aload_n (pc := 5) X 0 dX1_cellsOfTowns_5 rfl rfl ?_
    obtain ⟨v1, hv1, h⟩ := eBi h
    refine ev_getI (pc := 6) X hcX1 (k := 3) (by decide) kfX1_36 dX1_cellsOfTowns_6 hv1 ?_
    refine ev_icmp_ge (pc := 9) X 41 dX1_cellsOfTowns_9 rfl (fun hc => ?_) (fun hc => ?_)
    · rw [if_pos hc] at h
      refine ev_iload_n (pc := 41) X 2 dX1_cellsOfTowns_41 rfl rfl ?_
      obtain rfl := Option.some.inj h
      exact ev_iret (pc := 42) X dX1_cellsOfTowns_42
    · rw [if_neg hc] at h
      refine ev_iload_n (pc := 12) X 1 dX1_cellsOfTowns_12 rfl rfl ?_
      refine ev_iload_n (pc := 13) X 3 dX1_cellsOfTowns_13 rfl rfl ?_
      obtain ⟨v3, w2, hc, h⟩ := eB2 h
      refine ev_callSN_i (pc := 14) (As := [.int x3]) (S := [.int x1]) X hwX10_bit knX1_54 htX10_bit ⟨Nat.le_of_ble_eq_true rfl, Nat.le_of_ble_eq_true rfl⟩ ⟨Nat.le_refl _, Nat.le_refl _⟩ rfl (Nat.le_of_ble_eq_true rfl) dX1_cellsOfTowns_14 rfl (mX10_bit hc) ?_
      refine ev_iand (pc := 17) X dX1_cellsOfTowns_17 ?_
      refine ev_if_eq (pc := 18) X 35 dX1_cellsOfTowns_18 rfl (fun hc => ?_) (fun hc => ?_)
      · rw [if_pos hc] at h
        exact ev_weak (pc := 35) [0, 1, 2, 3] rfl (sX1_cellsOfTowns_35 (fun _ _ _ _ w r hh => ih _ _ _ _ w r hh) _ _ _ _ _ _ h p e s m args below meth c r0 A X)
      · rw [if_neg hc] at h
        refine ev_iload_n (pc := 21) X 2 dX1_cellsOfTowns_21 rfl rfl ?_
        refine ev_aload_n (pc := 22) X 0 dX1_cellsOfTowns_22 rfl rfl ?_
        obtain ⟨v4, hv4, h⟩ := eBi h
        refine ev_getR (pc := 23) X hcX1 (k := 5) (by decide) kfX1_20 dX1_cellsOfTowns_23 hv4 ?_
        refine ev_iload_n (pc := 26) X 3 dX1_cellsOfTowns_26 rfl rfl ?_
        obtain ⟨v6, w5, hc, h⟩ := eB2 h
        refine ev_callV_i (pc := 27) (As := [.int x3]) (S := [.int x2]) X hwX7_get klX1_42 hiX7_get hsX7_get (ci := 7) ⟨rfl, rfl⟩ ⟨Nat.le_of_ble_eq_true rfl, Nat.le_of_ble_eq_true rfl⟩ ⟨Nat.le_refl _, Nat.le_refl _⟩ rfl (Nat.le_of_ble_eq_true rfl) dX1_cellsOfTowns_27 rfl (mX7_get (l := l) (D := D) (cI := cI) (cZ := cZ) hc).1 (mX7_get hc).2 ?_
        obtain ⟨v8, w7, hc, h⟩ := eB2 h
        refine ev_callSN_i (pc := 30) (As := [.int v6]) (S := [.int x2]) X hwX10_bit knX1_54 htX10_bit ⟨Nat.le_of_ble_eq_true rfl, Nat.le_of_ble_eq_true rfl⟩ ⟨Nat.le_refl _, Nat.le_refl _⟩ rfl (Nat.le_of_ble_eq_true rfl) dX1_cellsOfTowns_30 rfl (mX10_bit hc) ?_
        refine ev_ior (pc := 33) X dX1_cellsOfTowns_33 ?_
        refine ev_istore_n (pc := 34) (L' := [(2, .int (x2 ||| v8)), (0, .ref x0), (1, .int x1), (3, .int x3)]) X dX1_cellsOfTowns_34 rfl (by decide) rfl ?_
        exact ev_weak (pc := 35) [1, 2, 0, 3] rfl (sX1_cellsOfTowns_35 (fun _ _ _ _ w r hh => ih _ _ _ _ w r hh) _ _ _ _ _ _ h p e s m args below meth c r0 A X)
def fX1_cellsOfTowns_0 (x0 : Nat) (x1 : Int32) (w : eW) : Option (Int32 × eW) := fX1_cellsOfTowns_4 eN x0 x1 (0 : Int32) (0 : Int32) w
set_option maxRecDepth 20000 in
theorem sX1_cellsOfTowns_0  (x0 : Nat) (x1 : Int32) (w : eW) (r : Int32 × eW) (h : fX1_cellsOfTowns_0 x0 x1 w = some r) : eBN l D cI cZ 1 yX1_cellsOfTowns cX1_cellsOfTowns 4 (some .int) 0 [(0, .ref x0), (1, .int x1)] [] w (some (.int r.1)) r.2 := by
  rw [fX1_cellsOfTowns_0] at h
  intro p e s m args below meth c r0 A X
  refine ev_iconst (pc := 0) (v := (0 : Int32)) X dX1_cellsOfTowns_0 rfl ?_
  refine ev_istore_n (pc := 1) (L' := [(2, .int (0 : Int32)), (0, .ref x0), (1, .int x1)]) X dX1_cellsOfTowns_1 rfl (by decide) rfl ?_
  refine ev_iconst (pc := 2) (v := (0 : Int32)) X dX1_cellsOfTowns_2 rfl ?_
  refine ev_istore_n (pc := 3) (L' := [(3, .int (0 : Int32)), (2, .int (0 : Int32)), (0, .ref x0), (1, .int x1)]) X dX1_cellsOfTowns_3 rfl (by decide) rfl ?_
  exact ev_weak (pc := 4) [2, 3, 1, 0] rfl (sX1_cellsOfTowns_4 eN _ _ _ _ _ _ h p e s m args below meth c r0 A X)
def fX1_cellsOfTowns (a0 : Nat) (a1 : Int32) (w : eW) : Option (Int32 × eW) := bif eO w a0 1 then fX1_cellsOfTowns_0 a0 a1 w else none
theorem mX1_cellsOfTowns {a0 : Nat} {a1 : Int32} {w : eW} {v : Int32} {w' : eW} (h : fX1_cellsOfTowns a0 a1 w = some (v, w')) : eO w a0 1 = true ∧ eMN l D cI cZ 1 yX1_cellsOfTowns cX1_cellsOfTowns 4 (some .int) [.ref a0, .int a1] w (some (.int v)) w' := by
  obtain ⟨h0, h⟩ := eBif h
  exact ⟨h0, eMN_of [(0, .ref a0), (1, .int a1)] (plainFor_of_name (by decide)) (fun _ => rfl) (fun _ => Nat.le_of_ble_eq_true rfl) (fun p e s m args below meth c r0 A X => ev_weak (pc := 0) [0, 1] rfl (sX1_cellsOfTowns_0 _ _ _ _ h p e s m args below meth c r0 A X))⟩
theorem dX1_isTown_0 : decode cX1_isTown 0 = .ok (.aload_n 0, 1) := by decide +kernel
theorem dX1_isTown_1 : decode cX1_isTown 1 = .ok (.aload_n 0, 1) := by decide +kernel
theorem dX1_isTown_2 : decode cX1_isTown 2 = .ok (.getfield 36, 3) := by decide +kernel
theorem dX1_isTown_5 : decode cX1_isTown 5 = .ok (.invokestatic 54, 3) := by decide +kernel
theorem dX1_isTown_8 : decode cX1_isTown 8 = .ok (.iconst 1, 1) := by decide +kernel
theorem dX1_isTown_9 : decode cX1_isTown 9 = .ok (.isub, 1) := by decide +kernel
theorem dX1_isTown_10 : decode cX1_isTown 10 = .ok (.invokevirtual 57, 3) := by decide +kernel
theorem dX1_isTown_13 : decode cX1_isTown 13 = .ok (.iload_n 1, 1) := by decide +kernel
theorem dX1_isTown_14 : decode cX1_isTown 14 = .ok (.invokestatic 54, 3) := by decide +kernel
theorem dX1_isTown_17 : decode cX1_isTown 17 = .ok (.iand, 1) := by decide +kernel
theorem dX1_isTown_18 : decode cX1_isTown 18 = .ok (.ifCond .eq 7, 3) := by decide +kernel
theorem dX1_isTown_21 : decode cX1_isTown 21 = .ok (.iconst 1, 1) := by decide +kernel
theorem dX1_isTown_22 : decode cX1_isTown 22 = .ok (.goto 4, 3) := by decide +kernel
theorem dX1_isTown_25 : decode cX1_isTown 25 = .ok (.iconst 0, 1) := by decide +kernel
theorem dX1_isTown_26 : decode cX1_isTown 26 = .ok (.ireturn, 1) := by decide +kernel
def fX1_isTown_0 (x0 : Nat) (x1 : Int32) (w : eW) : Option (Int32 × eW) := (eGI w x0 1 3).bind fun v1 => eBind2 (fX10_bit v1 w) fun v3 w2 => eBind2 (fX1_cellsOfTowns x0 (v3 - (1 : Int32)) w2) fun v5 w4 => eBind2 (fX10_bit x1 w4) fun v7 w6 => if (v5 &&& v7) = 0 then ((eZ (0 : Int32)).bind fun v8 => some (v8, w6)) else ((eZ (1 : Int32)).bind fun v9 => some (v9, w6))
set_option maxRecDepth 20000 in
theorem sX1_isTown_0  (x0 : Nat) (x1 : Int32) (w : eW) (r : Int32 × eW) (h : fX1_isTown_0 x0 x1 w = some r) : eBN l D cI cZ 2 yX1_isTown cX1_isTown 2 (some .boolean) 0 [(0, .ref x0), (1, .int x1)] [] w (some (.int r.1)) r.2 := by
  rw [fX1_isTown_0] at h
  intro p e s m args below meth c r0 A X
  refine ev_aload_n (pc := 0) X 0 dX1_isTown_0 rfl rfl ?_
  refine ev_aload_n (pc := 1) X 0 dX1_isTown_1 rfl rfl ?_
  obtain ⟨v1, hv1, h⟩ := eBi h
  refine ev_getI (pc := 2) X hcX1 (k := 3) (by decide) kfX1_36 dX1_isTown_2 hv1 ?_
  obtain ⟨v3, w2, hc, h⟩ := eB2 h
  refine ev_callSN_i (pc := 5) (As := [.int v1]) (S := [.ref x0]) X hwX10_bit knX1_54 htX10_bit ⟨Nat.le_of_ble_eq_true rfl, Nat.le_of_ble_eq_true rfl⟩ ⟨Nat.le_refl _, Nat.le_refl _⟩ rfl (Nat.le_of_ble_eq_true rfl) dX1_isTown_5 rfl (mX10_bit hc) ?_
  refine ev_iconst (pc := 8) (v := (1 : Int32)) X dX1_isTown_8 rfl ?_
  refine ev_isub (pc := 9) X dX1_isTown_9 ?_
  obtain ⟨v5, w4, hc, h⟩ := eB2 h
  refine ev_callV_i (pc := 10) (As := [.int (v3 - (1 : Int32))]) (S := []) X hwX1_cellsOfTowns klX1_57 hiX1_cellsOfTowns hsX1_cellsOfTowns (ci := 1) ⟨rfl, rfl⟩ ⟨Nat.le_of_ble_eq_true rfl, Nat.le_of_ble_eq_true rfl⟩ ⟨Nat.le_refl _, Nat.le_refl _⟩ rfl (Nat.le_of_ble_eq_true rfl) dX1_isTown_10 rfl (mX1_cellsOfTowns (l := l) (D := D) (cI := cI) (cZ := cZ) hc).1 (mX1_cellsOfTowns hc).2 ?_
  refine ev_iload_n (pc := 13) X 1 dX1_isTown_13 rfl rfl ?_
  obtain ⟨v7, w6, hc, h⟩ := eB2 h
  refine ev_callSN_i (pc := 14) (As := [.int x1]) (S := [.int v5]) X hwX10_bit knX1_54 htX10_bit ⟨Nat.le_of_ble_eq_true rfl, Nat.le_of_ble_eq_true rfl⟩ ⟨Nat.le_refl _, Nat.le_refl _⟩ rfl (Nat.le_of_ble_eq_true rfl) dX1_isTown_14 rfl (mX10_bit hc) ?_
  refine ev_iand (pc := 17) X dX1_isTown_17 ?_
  refine ev_if_eq (pc := 18) X 25 dX1_isTown_18 rfl (fun hc => ?_) (fun hc => ?_)
  · rw [if_pos hc] at h
    refine ev_iconst (pc := 25) (v := (0 : Int32)) X dX1_isTown_25 rfl ?_
    obtain ⟨v8, hv8, h⟩ := eBi h
    obtain rfl := Option.some.inj h
    exact ev_zret (pc := 26) X dX1_isTown_26 hv8
  · rw [if_neg hc] at h
    refine ev_iconst (pc := 21) (v := (1 : Int32)) X dX1_isTown_21 rfl ?_
    refine ev_goto (pc := 22) X 26 dX1_isTown_22 rfl ?_
    obtain ⟨v9, hv9, h⟩ := eBi h
    obtain rfl := Option.some.inj h
    exact ev_zret (pc := 26) X dX1_isTown_26 hv9
def fX1_isTown (a0 : Nat) (a1 : Int32) (w : eW) : Option (Int32 × eW) := bif eO w a0 1 then fX1_isTown_0 a0 a1 w else none
theorem mX1_isTown {a0 : Nat} {a1 : Int32} {w : eW} {v : Int32} {w' : eW} (h : fX1_isTown a0 a1 w = some (v, w')) : eO w a0 1 = true ∧ eMN l D cI cZ 2 yX1_isTown cX1_isTown 2 (some .boolean) [.ref a0, .int a1] w (some (.int v)) w' := by
  obtain ⟨h0, h⟩ := eBif h
  exact ⟨h0, eMN_of [(0, .ref a0), (1, .int a1)] (plainFor_of_name (by decide)) (fun _ => rfl) (fun _ => Nat.le_of_ble_eq_true rfl) (fun p e s m args below meth c r0 A X => ev_weak (pc := 0) [0, 1] rfl (sX1_isTown_0 _ _ _ _ h p e s m args below meth c r0 A X))⟩
theorem dX7_fill_0 : decode cX7_fill 0 = .ok (.iconst 0, 1) := by decide +kernel
theorem dX7_fill_1 : decode cX7_fill 1 = .ok (.istore_n 2, 1) := by decide +kernel
theorem dX7_fill_2 : decode cX7_fill 2 = .ok (.iload_n 2, 1) := by decide +kernel
theorem dX7_fill_3 : decode cX7_fill 3 = .ok (.aload_n 0, 1) := by decide +kernel
theorem dX7_fill_4 : decode cX7_fill 4 = .ok (.getfield 13, 3) := by decide +kernel
theorem dX7_fill_7 : decode cX7_fill 7 = .ok (.arraylength, 1) := by decide +kernel
theorem dX7_fill_8 : decode cX7_fill 8 = .ok (.if_icmp .ge 16, 3) := by decide +kernel
theorem dX7_fill_11 : decode cX7_fill 11 = .ok (.aload_n 0, 1) := by decide +kernel
theorem dX7_fill_12 : decode cX7_fill 12 = .ok (.getfield 13, 3) := by decide +kernel
theorem dX7_fill_15 : decode cX7_fill 15 = .ok (.iload_n 2, 1) := by decide +kernel
theorem dX7_fill_16 : decode cX7_fill 16 = .ok (.iload_n 1, 1) := by decide +kernel
theorem dX7_fill_17 : decode cX7_fill 17 = .ok (.iastore, 1) := by decide +kernel
theorem dX7_fill_18 : decode cX7_fill 18 = .ok (.iinc 2 1, 3) := by decide +kernel
theorem dX7_fill_21 : decode cX7_fill 21 = .ok (.goto (-19), 3) := by decide +kernel
theorem dX7_fill_24 : decode cX7_fill 24 = .ok (.return_, 1) := by decide +kernel
def fX7_fill_2 : Nat → Nat → Int32 → Int32 → eW → Option (eW)
  | 0, _, _, _, _ => none
  | n + 1, x0, x1, x2, w => (eGR w x0 7 0).bind fun v1 => (eLen w v1).bind fun v2 => if v2 ≤ x2 then (some w) else ((eGR w x0 7 0).bind fun v3 => (eSt w false v3 x2 x1).bind fun w4 => fX7_fill_2 n x0 x1 (x2 + (1 : Int32)) w4)
set_option maxRecDepth 20000 in
theorem sX7_fill_2  : ∀ (n : Nat) (x0 : Nat) (x1 : Int32) (x2 : Int32) (w : eW) (r : eW), fX7_fill_2 n x0 x1 x2 w = some r → eBN l D cI cZ 0 yX7_fill cX7_fill 3 none 2 [(0, .ref x0), (1, .int x1), (2, .int x2)] [] w none r := by
  intro n
  induction n with
  | zero => intro x0 x1 x2 w r h; exact absurd (show (none : Option (eW)) = some r from h) (by simp)
  | succ n ih =>
    intro x0 x1 x2 w r h
    rw [fX7_fill_2] at h
    intro p e s m args below meth c r0 A X
    refine ev_iload_n (pc := 2) X 2 dX7_fill_2 rfl rfl ?_
    refine ev_aload_n (pc := 3) X 0 dX7_fill_3 rfl rfl ?_
    obtain ⟨v1, hv1, h⟩ := eBi h
    refine ev_getR (pc := 4) X hcX7 (k := 0) (by decide) kfX7_13 dX7_fill_4 hv1 ?_
    obtain ⟨v2, hv2, h⟩ := eBi h
    refine ev_alen (pc := 7) X dX7_fill_7 hv2 ?_
    refine ev_icmp_ge (pc := 8) X 24 dX7_fill_8 rfl (fun hc => ?_) (fun hc => ?_)
    · rw [if_pos hc] at h
      obtain rfl := Option.some.inj h
      exact ev_vret (pc := 24) X dX7_fill_24
    · rw [if_neg hc] at h
      refine ev_aload_n (pc := 11) X 0 dX7_fill_11 rfl rfl ?_
      obtain ⟨v3, hv3, h⟩ := eBi h
      refine ev_getR (pc := 12) X hcX7 (k := 0) (by decide) kfX7_13 dX7_fill_12 hv3 ?_
      refine ev_iload_n (pc := 15) X 2 dX7_fill_15 rfl rfl ?_
      refine ev_iload_n (pc := 16) X 1 dX7_fill_16 rfl rfl ?_
      obtain ⟨w4, hw4, h⟩ := eBi h
      refine ev_iast (pc := 17) X dX7_fill_17 hw4 ?_
      refine ev_iinc (pc := 18) (v := x2 + (1 : Int32)) (L' := [(2, .int (x2 + (1 : Int32))), (0, .ref x0), (1, .int x1)]) X 2 dX7_fill_18 rfl rfl (by decide) rfl ?_
      refine ev_goto (pc := 21) X 2 dX7_fill_21 rfl ?_
      exact ev_weak (pc := 2) [1, 2, 0] rfl (ih _ _ _ _ _ h p e s m args below meth c r0 A X)
def fX7_fill_0 (x0 : Nat) (x1 : Int32) (w : eW) : Option (eW) := fX7_fill_2 eN x0 x1 (0 : Int32) w
set_option maxRecDepth 20000 in
theorem sX7_fill_0  (x0 : Nat) (x1 : Int32) (w : eW) (r : eW) (h : fX7_fill_0 x0 x1 w = some r) : eBN l D cI cZ 0 yX7_fill cX7_fill 3 none 0 [(0, .ref x0), (1, .int x1)] [] w none r := by
  rw [fX7_fill_0] at h
  intro p e s m args below meth c r0 A X
  refine ev_iconst (pc := 0) (v := (0 : Int32)) X dX7_fill_0 rfl ?_
  refine ev_istore_n (pc := 1) (L' := [(2, .int (0 : Int32)), (0, .ref x0), (1, .int x1)]) X dX7_fill_1 rfl (by decide) rfl ?_
  exact ev_weak (pc := 2) [1, 2, 0] rfl (sX7_fill_2 eN _ _ _ _ _ h p e s m args below meth c r0 A X)
def fX7_fill (a0 : Nat) (a1 : Int32) (w : eW) : Option (eW) := bif eO w a0 7 then fX7_fill_0 a0 a1 w else none
theorem mX7_fill {a0 : Nat} {a1 : Int32} {w : eW} {w' : eW} (h : fX7_fill a0 a1 w = some w') : eO w a0 7 = true ∧ eMN l D cI cZ 0 yX7_fill cX7_fill 3 none [.ref a0, .int a1] w none w' := by
  obtain ⟨h0, h⟩ := eBif h
  exact ⟨h0, eMN_of [(0, .ref a0), (1, .int a1)] (plainFor_of_name (by decide)) (fun _ => rfl) (fun _ => Nat.le_of_ble_eq_true rfl) (fun p e s m args below meth c r0 A X => ev_weak (pc := 0) [0, 1] rfl (sX7_fill_0 _ _ _ _ h p e s m args below meth c r0 A X))⟩
theorem dX1_becomeFirst_0 : decode cX1_becomeFirst 0 = .ok (.aload_n 0, 1) := by decide +kernel
theorem dX1_becomeFirst_1 : decode cX1_becomeFirst 1 = .ok (.iconst 3, 1) := by decide +kernel
theorem dX1_becomeFirst_2 : decode cX1_becomeFirst 2 = .ok (.putfield 26, 3) := by decide +kernel
theorem dX1_becomeFirst_5 : decode cX1_becomeFirst 5 = .ok (.aload_n 0, 1) := by decide +kernel
theorem dX1_becomeFirst_6 : decode cX1_becomeFirst 6 = .ok (.iconst 2, 1) := by decide +kernel
theorem dX1_becomeFirst_7 : decode cX1_becomeFirst 7 = .ok (.putfield 30, 3) := by decide +kernel
theorem dX1_becomeFirst_10 : decode cX1_becomeFirst 10 = .ok (.aload_n 0, 1) := by decide +kernel
theorem dX1_becomeFirst_11 : decode cX1_becomeFirst 11 = .ok (.bipush 9, 2) := by decide +kernel
theorem dX1_becomeFirst_13 : decode cX1_becomeFirst 13 = .ok (.putfield 33, 3) := by decide +kernel
theorem dX1_becomeFirst_16 : decode cX1_becomeFirst 16 = .ok (.aload_n 0, 1) := by decide +kernel
theorem dX1_becomeFirst_17 : decode cX1_becomeFirst 17 = .ok (.iconst 0, 1) := by decide +kernel
theorem dX1_becomeFirst_18 : decode cX1_becomeFirst 18 = .ok (.putfield 36, 3) := by decide +kernel
theorem dX1_becomeFirst_21 : decode cX1_becomeFirst 21 = .ok (.aload_n 0, 1) := by decide +kernel
theorem dX1_becomeFirst_22 : decode cX1_becomeFirst 22 = .ok (.getfield 14, 3) := by decide +kernel
theorem dX1_becomeFirst_25 : decode cX1_becomeFirst 25 = .ok (.iconst 0, 1) := by decide +kernel
theorem dX1_becomeFirst_26 : decode cX1_becomeFirst 26 = .ok (.invokevirtual 39, 3) := by decide +kernel
theorem dX1_becomeFirst_29 : decode cX1_becomeFirst 29 = .ok (.return_, 1) := by decide +kernel
def fX1_becomeFirst_0 (x0 : Nat) (w : eW) : Option (eW) := (eP w x0 1 0 (.int (3 : Int32))).bind fun w1 => (eP w1 x0 1 1 (.int (2 : Int32))).bind fun w2 => (eP w2 x0 1 2 (.int (9 : Int32))).bind fun w3 => (eP w3 x0 1 3 (.int (0 : Int32))).bind fun w4 => (eGR w4 x0 1 4).bind fun v5 => (fX7_fill v5 (0 : Int32) w4).bind fun w6 => some w6
set_option maxRecDepth 20000 in
theorem sX1_becomeFirst_0  (x0 : Nat) (w : eW) (r : eW) (h : fX1_becomeFirst_0 x0 w = some r) : eBN l D cI cZ 1 yX1_becomeFirst cX1_becomeFirst 1 none 0 [(0, .ref x0)] [] w none r := by
  rw [fX1_becomeFirst_0] at h
  intro p e s m args below meth c r0 A X
  refine ev_aload_n (pc := 0) X 0 dX1_becomeFirst_0 rfl rfl ?_
  refine ev_iconst (pc := 1) (v := (3 : Int32)) X dX1_becomeFirst_1 rfl ?_
  obtain ⟨w1, hw1, h⟩ := eBi h
  refine ev_putI (pc := 2) X hcX1 (k := 0) (by decide) kfX1_26 rfl rfl dX1_becomeFirst_2 hw1 ?_
  refine ev_aload_n (pc := 5) X 0 dX1_becomeFirst_5 rfl rfl ?_
  refine ev_iconst (pc := 6) (v := (2 : Int32)) X dX1_becomeFirst_6 rfl ?_
  obtain ⟨w2, hw2, h⟩ := eBi h
  refine ev_putI (pc := 7) X hcX1 (k := 1) (by decide) kfX1_30 rfl rfl dX1_becomeFirst_7 hw2 ?_
  refine ev_aload_n (pc := 10) X 0 dX1_becomeFirst_10 rfl rfl ?_
  refine ev_bipush (pc := 11) (v := (9 : Int32)) X dX1_becomeFirst_11 rfl ?_
  obtain ⟨w3, hw3, h⟩ := eBi h
  refine ev_putI (pc := 13) X hcX1 (k := 2) (by decide) kfX1_33 rfl rfl dX1_becomeFirst_13 hw3 ?_
  refine ev_aload_n (pc := 16) X 0 dX1_becomeFirst_16 rfl rfl ?_
  refine ev_iconst (pc := 17) (v := (0 : Int32)) X dX1_becomeFirst_17 rfl ?_
  obtain ⟨w4, hw4, h⟩ := eBi h
  refine ev_putI (pc := 18) X hcX1 (k := 3) (by decide) kfX1_36 rfl rfl dX1_becomeFirst_18 hw4 ?_
  refine ev_aload_n (pc := 21) X 0 dX1_becomeFirst_21 rfl rfl ?_
  obtain ⟨v5, hv5, h⟩ := eBi h
  refine ev_getR (pc := 22) X hcX1 (k := 4) (by decide) kfX1_14 dX1_becomeFirst_22 hv5 ?_
  refine ev_iconst (pc := 25) (v := (0 : Int32)) X dX1_becomeFirst_25 rfl ?_
  obtain ⟨w6, hc, h⟩ := eBi h
  refine ev_callV_v (pc := 26) (As := [.int (0 : Int32)]) (S := []) X hwX7_fill klX1_39 hiX7_fill hsX7_fill (ci := 7) ⟨rfl, rfl⟩ ⟨Nat.le_of_ble_eq_true rfl, Nat.le_of_ble_eq_true rfl⟩ ⟨Nat.le_refl _, Nat.le_refl _⟩ rfl (Nat.le_of_ble_eq_true rfl) dX1_becomeFirst_26 rfl (mX7_fill (l := l) (D := D) (cI := cI) (cZ := cZ) hc).1 (mX7_fill hc).2 ?_
  obtain rfl := Option.some.inj h
  exact ev_vret (pc := 29) X dX1_becomeFirst_29
def fX1_becomeFirst (a0 : Nat) (w : eW) : Option (eW) := bif eO w a0 1 then fX1_becomeFirst_0 a0 w else none
theorem mX1_becomeFirst {a0 : Nat} {w : eW} {w' : eW} (h : fX1_becomeFirst a0 w = some w') : eO w a0 1 = true ∧ eMN l D cI cZ 1 yX1_becomeFirst cX1_becomeFirst 1 none [.ref a0] w none w' := by
  obtain ⟨h0, h⟩ := eBif h
  exact ⟨h0, eMN_of [(0, .ref a0)] (plainFor_of_name (by decide)) (fun _ => rfl) (fun _ => Nat.le_of_ble_eq_true rfl) (fun p e s m args below meth c r0 A X => ev_weak (pc := 0) [0] rfl (sX1_becomeFirst_0 _ _ _ h p e s m args below meth c r0 A X))⟩
theorem dX1_become_0 : decode cX1_become 0 = .ok (.aload_n 0, 1) := by decide +kernel
theorem dX1_become_1 : decode cX1_become 1 = .ok (.aload_n 1, 1) := by decide +kernel
theorem dX1_become_2 : decode cX1_become 2 = .ok (.getfield 26, 3) := by decide +kernel
theorem dX1_become_5 : decode cX1_become 5 = .ok (.putfield 26, 3) := by decide +kernel
theorem dX1_become_8 : decode cX1_become 8 = .ok (.aload_n 0, 1) := by decide +kernel
theorem dX1_become_9 : decode cX1_become 9 = .ok (.aload_n 1, 1) := by decide +kernel
theorem dX1_become_10 : decode cX1_become 10 = .ok (.getfield 30, 3) := by decide +kernel
theorem dX1_become_13 : decode cX1_become 13 = .ok (.putfield 30, 3) := by decide +kernel
theorem dX1_become_16 : decode cX1_become 16 = .ok (.aload_n 0, 1) := by decide +kernel
theorem dX1_become_17 : decode cX1_become 17 = .ok (.aload_n 1, 1) := by decide +kernel
theorem dX1_become_18 : decode cX1_become 18 = .ok (.getfield 33, 3) := by decide +kernel
theorem dX1_become_21 : decode cX1_become 21 = .ok (.putfield 33, 3) := by decide +kernel
theorem dX1_become_24 : decode cX1_become 24 = .ok (.aload_n 0, 1) := by decide +kernel
theorem dX1_become_25 : decode cX1_become 25 = .ok (.aload_n 1, 1) := by decide +kernel
theorem dX1_become_26 : decode cX1_become 26 = .ok (.getfield 36, 3) := by decide +kernel
theorem dX1_become_29 : decode cX1_become 29 = .ok (.putfield 36, 3) := by decide +kernel
theorem dX1_become_32 : decode cX1_become 32 = .ok (.iconst 0, 1) := by decide +kernel
theorem dX1_become_33 : decode cX1_become 33 = .ok (.istore_n 2, 1) := by decide +kernel
theorem dX1_become_34 : decode cX1_become 34 = .ok (.iload_n 2, 1) := by decide +kernel
theorem dX1_become_35 : decode cX1_become 35 = .ok (.bipush 20, 2) := by decide +kernel
theorem dX1_become_37 : decode cX1_become 37 = .ok (.if_icmp .ge 25, 3) := by decide +kernel
theorem dX1_become_40 : decode cX1_become 40 = .ok (.aload_n 0, 1) := by decide +kernel
theorem dX1_become_41 : decode cX1_become 41 = .ok (.getfield 14, 3) := by decide +kernel
theorem dX1_become_44 : decode cX1_become 44 = .ok (.iload_n 2, 1) := by decide +kernel
theorem dX1_become_45 : decode cX1_become 45 = .ok (.aload_n 1, 1) := by decide +kernel
theorem dX1_become_46 : decode cX1_become 46 = .ok (.getfield 14, 3) := by decide +kernel
theorem dX1_become_49 : decode cX1_become 49 = .ok (.iload_n 2, 1) := by decide +kernel
theorem dX1_become_50 : decode cX1_become 50 = .ok (.invokevirtual 42, 3) := by decide +kernel
theorem dX1_become_53 : decode cX1_become 53 = .ok (.invokevirtual 46, 3) := by decide +kernel
theorem dX1_become_56 : decode cX1_become 56 = .ok (.iinc 2 1, 3) := by decide +kernel
theorem dX1_become_59 : decode cX1_become 59 = .ok (.goto (-25), 3) := by decide +kernel
theorem dX1_become_62 : decode cX1_become 62 = .ok (.iconst 0, 1) := by decide +kernel
theorem dX1_become_63 : decode cX1_become 63 = .ok (.istore_n 2, 1) := by decide +kernel
theorem dX1_become_64 : decode cX1_become 64 = .ok (.iload_n 2, 1) := by decide +kernel
theorem dX1_become_65 : decode cX1_become 65 = .ok (.iconst 4, 1) := by decide +kernel
theorem dX1_become_66 : decode cX1_become 66 = .ok (.if_icmp .ge 25, 3) := by decide +kernel
theorem dX1_become_69 : decode cX1_become 69 = .ok (.aload_n 0, 1) := by decide +kernel
theorem dX1_become_70 : decode cX1_become 70 = .ok (.getfield 20, 3) := by decide +kernel
theorem dX1_become_73 : decode cX1_become 73 = .ok (.iload_n 2, 1) := by decide +kernel
theorem dX1_become_74 : decode cX1_become 74 = .ok (.aload_n 1, 1) := by decide +kernel
theorem dX1_become_75 : decode cX1_become 75 = .ok (.getfield 20, 3) := by decide +kernel
theorem dX1_become_78 : decode cX1_become 78 = .ok (.iload_n 2, 1) := by decide +kernel
theorem dX1_become_79 : decode cX1_become 79 = .ok (.invokevirtual 42, 3) := by decide +kernel
theorem dX1_become_82 : decode cX1_become 82 = .ok (.invokevirtual 46, 3) := by decide +kernel
theorem dX1_become_85 : decode cX1_become 85 = .ok (.iinc 2 1, 3) := by decide +kernel
theorem dX1_become_88 : decode cX1_become 88 = .ok (.goto (-24), 3) := by decide +kernel
theorem dX1_become_91 : decode cX1_become 91 = .ok (.return_, 1) := by decide +kernel
def fX1_become_64 : Nat → Nat → Nat → Int32 → eW → Option (eW)
  | 0, _, _, _, _ => none
  | n + 1, x0, x1, x2, w => if (4 : Int32) ≤ x2 then (some w) else ((eGR w x0 1 5).bind fun v1 => (eGR w x1 1 5).bind fun v2 => eBind2 (fX7_get v2 x2 w) fun v4 w3 => (fX7_put v1 x2 v4 w3).bind fun w5 => fX1_become_64 n x0 x1 (x2 + (1 : Int32)) w5)
set_option maxRecDepth 20000 in
theorem sX1_become_64  : ∀ (n : Nat) (x0 : Nat) (x1 : Nat) (x2 : Int32) (w : eW) (r : eW), fX1_become_64 n x0 x1 x2 w = some r → eBN l D cI cZ 1 yX1_become cX1_become 3 none 64 [(0, .ref x0), (1, .ref x1), (2, .int x2)] [] w none r := by
  intro n
  induction n with
  | zero => intro x0 x1 x2 w r h; exact absurd (show (none : Option (eW)) = some r from h) (by simp)
  | succ n ih =>
    intro x0 x1 x2 w r h
    rw [fX1_become_64] at h
    intro p e s m args below meth c r0 A X
    refine ev_iload_n (pc := 64) X 2 dX1_become_64 rfl rfl ?_
    refine ev_iconst (pc := 65) (v := (4 : Int32)) X dX1_become_65 rfl ?_
    refine ev_icmp_ge (pc := 66) X 91 dX1_become_66 rfl (fun hc => ?_) (fun hc => ?_)
    · rw [if_pos hc] at h
      obtain rfl := Option.some.inj h
      exact ev_vret (pc := 91) X dX1_become_91
    · rw [if_neg hc] at h
      refine ev_aload_n (pc := 69) X 0 dX1_become_69 rfl rfl ?_
      obtain ⟨v1, hv1, h⟩ := eBi h
      refine ev_getR (pc := 70) X hcX1 (k := 5) (by decide) kfX1_20 dX1_become_70 hv1 ?_
      refine ev_iload_n (pc := 73) X 2 dX1_become_73 rfl rfl ?_
      refine ev_aload_n (pc := 74) X 1 dX1_become_74 rfl rfl ?_
      obtain ⟨v2, hv2, h⟩ := eBi h
      refine ev_getR (pc := 75) X hcX1 (k := 5) (by decide) kfX1_20 dX1_become_75 hv2 ?_
      refine ev_iload_n (pc := 78) X 2 dX1_become_78 rfl rfl ?_
      obtain ⟨v4, w3, hc, h⟩ := eB2 h
      refine ev_callV_i (pc := 79) (As := [.int x2]) (S := [.int x2, .ref v1]) X hwX7_get klX1_42 hiX7_get hsX7_get (ci := 7) ⟨rfl, rfl⟩ ⟨Nat.le_of_ble_eq_true rfl, Nat.le_of_ble_eq_true rfl⟩ ⟨Nat.le_refl _, Nat.le_refl _⟩ rfl (Nat.le_of_ble_eq_true rfl) dX1_become_79 rfl (mX7_get (l := l) (D := D) (cI := cI) (cZ := cZ) hc).1 (mX7_get hc).2 ?_
      obtain ⟨w5, hc, h⟩ := eBi h
      refine ev_callV_v (pc := 82) (As := [.int x2, .int v4]) (S := []) X hwX7_put klX1_46 hiX7_put hsX7_put (ci := 7) ⟨rfl, rfl⟩ ⟨Nat.le_of_ble_eq_true rfl, Nat.le_of_ble_eq_true rfl⟩ ⟨Nat.le_refl _, Nat.le_refl _⟩ rfl (Nat.le_of_ble_eq_true rfl) dX1_become_82 rfl (mX7_put (l := l) (D := D) (cI := cI) (cZ := cZ) hc).1 (mX7_put hc).2 ?_
      refine ev_iinc (pc := 85) (v := x2 + (1 : Int32)) (L' := [(2, .int (x2 + (1 : Int32))), (0, .ref x0), (1, .ref x1)]) X 2 dX1_become_85 rfl rfl (by decide) rfl ?_
      refine ev_goto (pc := 88) X 64 dX1_become_88 rfl ?_
      exact ev_weak (pc := 64) [1, 2, 0] rfl (ih _ _ _ _ _ h p e s m args below meth c r0 A X)
def fX1_become_34 : Nat → Nat → Nat → Int32 → eW → Option (eW)
  | 0, _, _, _, _ => none
  | n + 1, x0, x1, x2, w => if (20 : Int32) ≤ x2 then (fX1_become_64 eN x0 x1 (0 : Int32) w) else ((eGR w x0 1 4).bind fun v1 => (eGR w x1 1 4).bind fun v2 => eBind2 (fX7_get v2 x2 w) fun v4 w3 => (fX7_put v1 x2 v4 w3).bind fun w5 => fX1_become_34 n x0 x1 (x2 + (1 : Int32)) w5)
set_option maxRecDepth 20000 in
theorem sX1_become_34  : ∀ (n : Nat) (x0 : Nat) (x1 : Nat) (x2 : Int32) (w : eW) (r : eW), fX1_become_34 n x0 x1 x2 w = some r → eBN l D cI cZ 1 yX1_become cX1_become 3 none 34 [(0, .ref x0), (1, .ref x1), (2, .int x2)] [] w none r := by
  intro n
  induction n with
  | zero => intro x0 x1 x2 w r h; exact absurd (show (none : Option (eW)) = some r from h) (by simp)
  | succ n ih =>
    intro x0 x1 x2 w r h
    rw [fX1_become_34] at h
    intro p e s m args below meth c r0 A X
    refine ev_iload_n (pc := 34) X 2 dX1_become_34 rfl rfl ?_
    refine ev_bipush (pc := 35) (v := (20 : Int32)) X dX1_become_35 rfl ?_
    refine ev_icmp_ge (pc := 37) X 62 dX1_become_37 rfl (fun hc => ?_) (fun hc => ?_)
    · rw [if_pos hc] at h
      refine ev_iconst (pc := 62) (v := (0 : Int32)) X dX1_become_62 rfl ?_
      refine ev_istore_n (pc := 63) (L' := [(2, .int (0 : Int32)), (0, .ref x0), (1, .ref x1)]) X dX1_become_63 rfl (by decide) rfl ?_
      exact ev_weak (pc := 64) [1, 2, 0] rfl (sX1_become_64 eN _ _ _ _ _ h p e s m args below meth c r0 A X)
    · rw [if_neg hc] at h
      refine ev_aload_n (pc := 40) X 0 dX1_become_40 rfl rfl ?_
      obtain ⟨v1, hv1, h⟩ := eBi h
      refine ev_getR (pc := 41) X hcX1 (k := 4) (by decide) kfX1_14 dX1_become_41 hv1 ?_
      refine ev_iload_n (pc := 44) X 2 dX1_become_44 rfl rfl ?_
      refine ev_aload_n (pc := 45) X 1 dX1_become_45 rfl rfl ?_
      obtain ⟨v2, hv2, h⟩ := eBi h
      refine ev_getR (pc := 46) X hcX1 (k := 4) (by decide) kfX1_14 dX1_become_46 hv2 ?_
      refine ev_iload_n (pc := 49) X 2 dX1_become_49 rfl rfl ?_
      obtain ⟨v4, w3, hc, h⟩ := eB2 h
      refine ev_callV_i (pc := 50) (As := [.int x2]) (S := [.int x2, .ref v1]) X hwX7_get klX1_42 hiX7_get hsX7_get (ci := 7) ⟨rfl, rfl⟩ ⟨Nat.le_of_ble_eq_true rfl, Nat.le_of_ble_eq_true rfl⟩ ⟨Nat.le_refl _, Nat.le_refl _⟩ rfl (Nat.le_of_ble_eq_true rfl) dX1_become_50 rfl (mX7_get (l := l) (D := D) (cI := cI) (cZ := cZ) hc).1 (mX7_get hc).2 ?_
      obtain ⟨w5, hc, h⟩ := eBi h
      refine ev_callV_v (pc := 53) (As := [.int x2, .int v4]) (S := []) X hwX7_put klX1_46 hiX7_put hsX7_put (ci := 7) ⟨rfl, rfl⟩ ⟨Nat.le_of_ble_eq_true rfl, Nat.le_of_ble_eq_true rfl⟩ ⟨Nat.le_refl _, Nat.le_refl _⟩ rfl (Nat.le_of_ble_eq_true rfl) dX1_become_53 rfl (mX7_put (l := l) (D := D) (cI := cI) (cZ := cZ) hc).1 (mX7_put hc).2 ?_
      refine ev_iinc (pc := 56) (v := x2 + (1 : Int32)) (L' := [(2, .int (x2 + (1 : Int32))), (0, .ref x0), (1, .ref x1)]) X 2 dX1_become_56 rfl rfl (by decide) rfl ?_
      refine ev_goto (pc := 59) X 34 dX1_become_59 rfl ?_
      exact ev_weak (pc := 34) [1, 2, 0] rfl (ih _ _ _ _ _ h p e s m args below meth c r0 A X)
def fX1_become_0 (x0 : Nat) (x1 : Nat) (w : eW) : Option (eW) := (eGI w x1 1 0).bind fun v1 => (eP w x0 1 0 (.int v1)).bind fun w2 => (eGI w2 x1 1 1).bind fun v3 => (eP w2 x0 1 1 (.int v3)).bind fun w4 => (eGI w4 x1 1 2).bind fun v5 => (eP w4 x0 1 2 (.int v5)).bind fun w6 => (eGI w6 x1 1 3).bind fun v7 => (eP w6 x0 1 3 (.int v7)).bind fun w8 => fX1_become_34 eN x0 x1 (0 : Int32) w8
set_option maxRecDepth 20000 in
theorem sX1_become_0  (x0 : Nat) (x1 : Nat) (w : eW) (r : eW) (h : fX1_become_0 x0 x1 w = some r) : eBN l D cI cZ 1 yX1_become cX1_become 3 none 0 [(0, .ref x0), (1, .ref x1)] [] w none r := by
  rw [fX1_become_0] at h
  intro p e s m args below meth c r0 A X
  refine ev_aload_n (pc := 0) X 0 dX1_become_0 rfl rfl ?_
  refine ev_aload_n (pc := 1) X 1 dX1_become_1 rfl rfl ?_
  obtain ⟨v1, hv1, h⟩ := eBi h
  refine ev_getI (pc := 2) X hcX1 (k := 0) (by decide) kfX1_26 dX1_become_2 hv1 ?_
  obtain ⟨w2, hw2, h⟩ := eBi h
  refine ev_putI (pc := 5) X hcX1 (k := 0) (by decide) kfX1_26 rfl rfl dX1_become_5 hw2 ?_
  refine ev_aload_n (pc := 8) X 0 dX1_become_8 rfl rfl ?_
  refine ev_aload_n (pc := 9) X 1 dX1_become_9 rfl rfl ?_
  obtain ⟨v3, hv3, h⟩ := eBi h
  refine ev_getI (pc := 10) X hcX1 (k := 1) (by decide) kfX1_30 dX1_become_10 hv3 ?_
  obtain ⟨w4, hw4, h⟩ := eBi h
  refine ev_putI (pc := 13) X hcX1 (k := 1) (by decide) kfX1_30 rfl rfl dX1_become_13 hw4 ?_
  refine ev_aload_n (pc := 16) X 0 dX1_become_16 rfl rfl ?_
  refine ev_aload_n (pc := 17) X 1 dX1_become_17 rfl rfl ?_
  obtain ⟨v5, hv5, h⟩ := eBi h
  refine ev_getI (pc := 18) X hcX1 (k := 2) (by decide) kfX1_33 dX1_become_18 hv5 ?_
  obtain ⟨w6, hw6, h⟩ := eBi h
  refine ev_putI (pc := 21) X hcX1 (k := 2) (by decide) kfX1_33 rfl rfl dX1_become_21 hw6 ?_
  refine ev_aload_n (pc := 24) X 0 dX1_become_24 rfl rfl ?_
  refine ev_aload_n (pc := 25) X 1 dX1_become_25 rfl rfl ?_
  obtain ⟨v7, hv7, h⟩ := eBi h
  refine ev_getI (pc := 26) X hcX1 (k := 3) (by decide) kfX1_36 dX1_become_26 hv7 ?_
  obtain ⟨w8, hw8, h⟩ := eBi h
  refine ev_putI (pc := 29) X hcX1 (k := 3) (by decide) kfX1_36 rfl rfl dX1_become_29 hw8 ?_
  refine ev_iconst (pc := 32) (v := (0 : Int32)) X dX1_become_32 rfl ?_
  refine ev_istore_n (pc := 33) (L' := [(2, .int (0 : Int32)), (0, .ref x0), (1, .ref x1)]) X dX1_become_33 rfl (by decide) rfl ?_
  exact ev_weak (pc := 34) [1, 2, 0] rfl (sX1_become_34 eN _ _ _ _ _ h p e s m args below meth c r0 A X)
def fX1_become (a0 : Nat) (a1 : Nat) (w : eW) : Option (eW) := bif eO w a0 1 then fX1_become_0 a0 a1 w else none
theorem mX1_become {a0 : Nat} {a1 : Nat} {w : eW} {w' : eW} (h : fX1_become a0 a1 w = some w') : eO w a0 1 = true ∧ eMN l D cI cZ 1 yX1_become cX1_become 3 none [.ref a0, .ref a1] w none w' := by
  obtain ⟨h0, h⟩ := eBif h
  exact ⟨h0, eMN_of [(0, .ref a0), (1, .ref a1)] (plainFor_of_name (by decide)) (fun _ => rfl) (fun _ => Nat.le_of_ble_eq_true rfl) (fun p e s m args below meth c r0 A X => ev_weak (pc := 0) [0, 1] rfl (sX1_become_0 _ _ _ _ h p e s m args below meth c r0 A X))⟩
theorem dX1_setSize_0 : decode cX1_setSize 0 = .ok (.aload_n 0, 1) := by decide +kernel
theorem dX1_setSize_1 : decode cX1_setSize 1 = .ok (.iload_n 1, 1) := by decide +kernel
theorem dX1_setSize_2 : decode cX1_setSize 2 = .ok (.putfield 26, 3) := by decide +kernel
theorem dX1_setSize_5 : decode cX1_setSize 5 = .ok (.aload_n 0, 1) := by decide +kernel
theorem dX1_setSize_6 : decode cX1_setSize 6 = .ok (.iload_n 2, 1) := by decide +kernel
theorem dX1_setSize_7 : decode cX1_setSize 7 = .ok (.putfield 30, 3) := by decide +kernel
theorem dX1_setSize_10 : decode cX1_setSize 10 = .ok (.return_, 1) := by decide +kernel
def fX1_setSize_0 (x0 : Nat) (x1 : Int32) (x2 : Int32) (w : eW) : Option (eW) := (eP w x0 1 0 (.int x1)).bind fun w1 => (eP w1 x0 1 1 (.int x2)).bind fun w2 => some w2
set_option maxRecDepth 20000 in
theorem sX1_setSize_0  (x0 : Nat) (x1 : Int32) (x2 : Int32) (w : eW) (r : eW) (h : fX1_setSize_0 x0 x1 x2 w = some r) : eBN l D cI cZ 0 yX1_setSize cX1_setSize 3 none 0 [(0, .ref x0), (1, .int x1), (2, .int x2)] [] w none r := by
  rw [fX1_setSize_0] at h
  intro p e s m args below meth c r0 A X
  refine ev_aload_n (pc := 0) X 0 dX1_setSize_0 rfl rfl ?_
  refine ev_iload_n (pc := 1) X 1 dX1_setSize_1 rfl rfl ?_
  obtain ⟨w1, hw1, h⟩ := eBi h
  refine ev_putI (pc := 2) X hcX1 (k := 0) (by decide) kfX1_26 rfl rfl dX1_setSize_2 hw1 ?_
  refine ev_aload_n (pc := 5) X 0 dX1_setSize_5 rfl rfl ?_
  refine ev_iload_n (pc := 6) X 2 dX1_setSize_6 rfl rfl ?_
  obtain ⟨w2, hw2, h⟩ := eBi h
  refine ev_putI (pc := 7) X hcX1 (k := 1) (by decide) kfX1_30 rfl rfl dX1_setSize_7 hw2 ?_
  obtain rfl := Option.some.inj h
  exact ev_vret (pc := 10) X dX1_setSize_10
def fX1_setSize (a0 : Nat) (a1 : Int32) (a2 : Int32) (w : eW) : Option (eW) := bif eO w a0 1 then fX1_setSize_0 a0 a1 a2 w else none
theorem mX1_setSize {a0 : Nat} {a1 : Int32} {a2 : Int32} {w : eW} {w' : eW} (h : fX1_setSize a0 a1 a2 w = some w') : eO w a0 1 = true ∧ eMN l D cI cZ 0 yX1_setSize cX1_setSize 3 none [.ref a0, .int a1, .int a2] w none w' := by
  obtain ⟨h0, h⟩ := eBif h
  exact ⟨h0, eMN_of [(0, .ref a0), (1, .int a1), (2, .int a2)] (plainFor_of_name (by decide)) (fun _ => rfl) (fun _ => Nat.le_of_ble_eq_true rfl) (fun p e s m args below meth c r0 A X => ev_weak (pc := 0) [0, 1, 2] rfl (sX1_setSize_0 _ _ _ _ _ h p e s m args below meth c r0 A X))⟩
theorem dX1_setHeight_0 : decode cX1_setHeight 0 = .ok (.aload_n 0, 1) := by decide +kernel
theorem dX1_setHeight_1 : decode cX1_setHeight 1 = .ok (.getfield 14, 3) := by decide +kernel
theorem dX1_setHeight_4 : decode cX1_setHeight 4 = .ok (.iload_n 1, 1) := by decide +kernel
theorem dX1_setHeight_5 : decode cX1_setHeight 5 = .ok (.iload_n 2, 1) := by decide +kernel
theorem dX1_setHeight_6 : decode cX1_setHeight 6 = .ok (.invokevirtual 46, 3) := by decide +kernel
theorem dX1_setHeight_9 : decode cX1_setHeight 9 = .ok (.return_, 1) := by decide +kernel
def fX1_setHeight_0 (x0 : Nat) (x1 : Int32) (x2 : Int32) (w : eW) : Option (eW) := (eGR w x0 1 4).bind fun v1 => (fX7_put v1 x1 x2 w).bind fun w2 => some w2
set_option maxRecDepth 20000 in
theorem sX1_setHeight_0  (x0 : Nat) (x1 : Int32) (x2 : Int32) (w : eW) (r : eW) (h : fX1_setHeight_0 x0 x1 x2 w = some r) : eBN l D cI cZ 1 yX1_setHeight cX1_setHeight 3 none 0 [(0, .ref x0), (1, .int x1), (2, .int x2)] [] w none r := by
  rw [fX1_setHeight_0] at h
  intro p e s m args below meth c r0 A X
  refine ev_aload_n (pc := 0) X 0 dX1_setHeight_0 rfl rfl ?_
  obtain ⟨v1, hv1, h⟩ := eBi h
  refine ev_getR (pc := 1) X hcX1 (k := 4) (by decide) kfX1_14 dX1_setHeight_1 hv1 ?_
  refine ev_iload_n (pc := 4) X 1 dX1_setHeight_4 rfl rfl ?_
  refine ev_iload_n (pc := 5) X 2 dX1_setHeight_5 rfl rfl ?_
  obtain ⟨w2, hc, h⟩ := eBi h
  refine ev_callV_v (pc := 6) (As := [.int x1, .int x2]) (S := []) X hwX7_put klX1_46 hiX7_put hsX7_put (ci := 7) ⟨rfl, rfl⟩ ⟨Nat.le_of_ble_eq_true rfl, Nat.le_of_ble_eq_true rfl⟩ ⟨Nat.le_refl _, Nat.le_refl _⟩ rfl (Nat.le_of_ble_eq_true rfl) dX1_setHeight_6 rfl (mX7_put (l := l) (D := D) (cI := cI) (cZ := cZ) hc).1 (mX7_put hc).2 ?_
  obtain rfl := Option.some.inj h
  exact ev_vret (pc := 9) X dX1_setHeight_9
def fX1_setHeight (a0 : Nat) (a1 : Int32) (a2 : Int32) (w : eW) : Option (eW) := bif eO w a0 1 then fX1_setHeight_0 a0 a1 a2 w else none
theorem mX1_setHeight {a0 : Nat} {a1 : Int32} {a2 : Int32} {w : eW} {w' : eW} (h : fX1_setHeight a0 a1 a2 w = some w') : eO w a0 1 = true ∧ eMN l D cI cZ 1 yX1_setHeight cX1_setHeight 3 none [.ref a0, .int a1, .int a2] w none w' := by
  obtain ⟨h0, h⟩ := eBif h
  exact ⟨h0, eMN_of [(0, .ref a0), (1, .int a1), (2, .int a2)] (plainFor_of_name (by decide)) (fun _ => rfl) (fun _ => Nat.le_of_ble_eq_true rfl) (fun p e s m args below meth c r0 A X => ev_weak (pc := 0) [0, 1, 2] rfl (sX1_setHeight_0 _ _ _ _ _ h p e s m args below meth c r0 A X))⟩
theorem dX1_setSlope_0 : decode cX1_setSlope 0 = .ok (.aload_n 0, 1) := by decide +kernel
theorem dX1_setSlope_1 : decode cX1_setSlope 1 = .ok (.iload_n 1, 1) := by decide +kernel
theorem dX1_setSlope_2 : decode cX1_setSlope 2 = .ok (.putfield 33, 3) := by decide +kernel
theorem dX1_setSlope_5 : decode cX1_setSlope 5 = .ok (.return_, 1) := by decide +kernel
def fX1_setSlope_0 (x0 : Nat) (x1 : Int32) (w : eW) : Option (eW) := (eP w x0 1 2 (.int x1)).bind fun w1 => some w1
set_option maxRecDepth 20000 in
theorem sX1_setSlope_0  (x0 : Nat) (x1 : Int32) (w : eW) (r : eW) (h : fX1_setSlope_0 x0 x1 w = some r) : eBN l D cI cZ 0 yX1_setSlope cX1_setSlope 2 none 0 [(0, .ref x0), (1, .int x1)] [] w none r := by
  rw [fX1_setSlope_0] at h
  intro p e s m args below meth c r0 A X
  refine ev_aload_n (pc := 0) X 0 dX1_setSlope_0 rfl rfl ?_
  refine ev_iload_n (pc := 1) X 1 dX1_setSlope_1 rfl rfl ?_
  obtain ⟨w1, hw1, h⟩ := eBi h
  refine ev_putI (pc := 2) X hcX1 (k := 2) (by decide) kfX1_33 rfl rfl dX1_setSlope_2 hw1 ?_
  obtain rfl := Option.some.inj h
  exact ev_vret (pc := 5) X dX1_setSlope_5
def fX1_setSlope (a0 : Nat) (a1 : Int32) (w : eW) : Option (eW) := bif eO w a0 1 then fX1_setSlope_0 a0 a1 w else none
theorem mX1_setSlope {a0 : Nat} {a1 : Int32} {w : eW} {w' : eW} (h : fX1_setSlope a0 a1 w = some w') : eO w a0 1 = true ∧ eMN l D cI cZ 0 yX1_setSlope cX1_setSlope 2 none [.ref a0, .int a1] w none w' := by
  obtain ⟨h0, h⟩ := eBif h
  exact ⟨h0, eMN_of [(0, .ref a0), (1, .int a1)] (plainFor_of_name (by decide)) (fun _ => rfl) (fun _ => Nat.le_of_ble_eq_true rfl) (fun p e s m args below meth c r0 A X => ev_weak (pc := 0) [0, 1] rfl (sX1_setSlope_0 _ _ _ _ h p e s m args below meth c r0 A X))⟩
theorem dX1_addTown_0 : decode cX1_addTown 0 = .ok (.aload_n 0, 1) := by decide +kernel
theorem dX1_addTown_1 : decode cX1_addTown 1 = .ok (.getfield 20, 3) := by decide +kernel
theorem dX1_addTown_4 : decode cX1_addTown 4 = .ok (.aload_n 0, 1) := by decide +kernel
theorem dX1_addTown_5 : decode cX1_addTown 5 = .ok (.getfield 36, 3) := by decide +kernel
theorem dX1_addTown_8 : decode cX1_addTown 8 = .ok (.iload_n 1, 1) := by decide +kernel
theorem dX1_addTown_9 : decode cX1_addTown 9 = .ok (.invokevirtual 46, 3) := by decide +kernel
theorem dX1_addTown_12 : decode cX1_addTown 12 = .ok (.aload_n 0, 1) := by decide +kernel
theorem dX1_addTown_13 : decode cX1_addTown 13 = .ok (.dup, 1) := by decide +kernel
theorem dX1_addTown_14 : decode cX1_addTown 14 = .ok (.getfield 36, 3) := by decide +kernel
theorem dX1_addTown_17 : decode cX1_addTown 17 = .ok (.iconst 1, 1) := by decide +kernel
theorem dX1_addTown_18 : decode cX1_addTown 18 = .ok (.iadd, 1) := by decide +kernel
theorem dX1_addTown_19 : decode cX1_addTown 19 = .ok (.putfield 36, 3) := by decide +kernel
theorem dX1_addTown_22 : decode cX1_addTown 22 = .ok (.return_, 1) := by decide +kernel
def fX1_addTown_0 (x0 : Nat) (x1 : Int32) (w : eW) : Option (eW) := (eGR w x0 1 5).bind fun v1 => (eGI w x0 1 3).bind fun v2 => (fX7_put v1 v2 x1 w).bind fun w3 => (eGI w3 x0 1 3).bind fun v4 => (eP w3 x0 1 3 (.int (v4 + (1 : Int32)))).bind fun w5 => some w5
set_option maxRecDepth 20000 in
theorem sX1_addTown_0  (x0 : Nat) (x1 : Int32) (w : eW) (r : eW) (h : fX1_addTown_0 x0 x1 w = some r) : eBN l D cI cZ 1 yX1_addTown cX1_addTown 2 none 0 [(0, .ref x0), (1, .int x1)] [] w none r := by
  rw [fX1_addTown_0] at h
  intro p e s m args below meth c r0 A X
  refine ev_aload_n (pc := 0) X 0 dX1_addTown_0 rfl rfl ?_
  obtain ⟨v1, hv1, h⟩ := eBi h
  refine ev_getR (pc := 1) X hcX1 (k := 5) (by decide) kfX1_20 dX1_addTown_1 hv1 ?_
  refine ev_aload_n (pc := 4) X 0 dX1_addTown_4 rfl rfl ?_
  obtain ⟨v2, hv2, h⟩ := eBi h
  refine ev_getI (pc := 5) X hcX1 (k := 3) (by decide) kfX1_36 dX1_addTown_5 hv2 ?_
  refine ev_iload_n (pc := 8) X 1 dX1_addTown_8 rfl rfl ?_
  obtain ⟨w3, hc, h⟩ := eBi h
  refine ev_callV_v (pc := 9) (As := [.int v2, .int x1]) (S := []) X hwX7_put klX1_46 hiX7_put hsX7_put (ci := 7) ⟨rfl, rfl⟩ ⟨Nat.le_of_ble_eq_true rfl, Nat.le_of_ble_eq_true rfl⟩ ⟨Nat.le_refl _, Nat.le_refl _⟩ rfl (Nat.le_of_ble_eq_true rfl) dX1_addTown_9 rfl (mX7_put (l := l) (D := D) (cI := cI) (cZ := cZ) hc).1 (mX7_put hc).2 ?_
  refine ev_aload_n (pc := 12) X 0 dX1_addTown_12 rfl rfl ?_
  refine ev_dup (pc := 13) X dX1_addTown_13 rfl ?_
  obtain ⟨v4, hv4, h⟩ := eBi h
  refine ev_getI (pc := 14) X hcX1 (k := 3) (by decide) kfX1_36 dX1_addTown_14 hv4 ?_
  refine ev_iconst (pc := 17) (v := (1 : Int32)) X dX1_addTown_17 rfl ?_
  refine ev_iadd (pc := 18) X dX1_addTown_18 ?_
  obtain ⟨w5, hw5, h⟩ := eBi h
  refine ev_putI (pc := 19) X hcX1 (k := 3) (by decide) kfX1_36 rfl rfl dX1_addTown_19 hw5 ?_
  obtain rfl := Option.some.inj h
  exact ev_vret (pc := 22) X dX1_addTown_22
def fX1_addTown (a0 : Nat) (a1 : Int32) (w : eW) : Option (eW) := bif eO w a0 1 then fX1_addTown_0 a0 a1 w else none
theorem mX1_addTown {a0 : Nat} {a1 : Int32} {w : eW} {w' : eW} (h : fX1_addTown a0 a1 w = some w') : eO w a0 1 = true ∧ eMN l D cI cZ 1 yX1_addTown cX1_addTown 2 none [.ref a0, .int a1] w none w' := by
  obtain ⟨h0, h⟩ := eBif h
  exact ⟨h0, eMN_of [(0, .ref a0), (1, .int a1)] (plainFor_of_name (by decide)) (fun _ => rfl) (fun _ => Nat.le_of_ble_eq_true rfl) (fun p e s m args below meth c r0 A X => ev_weak (pc := 0) [0, 1] rfl (sX1_addTown_0 _ _ _ _ h p e s m args below meth c r0 A X))⟩
theorem dX1_wide_0 : decode cX1_wide 0 = .ok (.aload_n 0, 1) := by decide +kernel
theorem dX1_wide_1 : decode cX1_wide 1 = .ok (.getfield 26, 3) := by decide +kernel
theorem dX1_wide_4 : decode cX1_wide 4 = .ok (.ireturn, 1) := by decide +kernel
def fX1_wide_0 (x0 : Nat) (w : eW) : Option (Int32 × eW) := (eGI w x0 1 0).bind fun v1 => some (v1, w)
set_option maxRecDepth 20000 in
theorem sX1_wide_0  (x0 : Nat) (w : eW) (r : Int32 × eW) (h : fX1_wide_0 x0 w = some r) : eBN l D cI cZ 0 yX1_wide cX1_wide 1 (some .int) 0 [(0, .ref x0)] [] w (some (.int r.1)) r.2 := by
  rw [fX1_wide_0] at h
  intro p e s m args below meth c r0 A X
  refine ev_aload_n (pc := 0) X 0 dX1_wide_0 rfl rfl ?_
  obtain ⟨v1, hv1, h⟩ := eBi h
  refine ev_getI (pc := 1) X hcX1 (k := 0) (by decide) kfX1_26 dX1_wide_1 hv1 ?_
  obtain rfl := Option.some.inj h
  exact ev_iret (pc := 4) X dX1_wide_4
def fX1_wide (a0 : Nat) (w : eW) : Option (Int32 × eW) := bif eO w a0 1 then fX1_wide_0 a0 w else none
theorem mX1_wide {a0 : Nat} {w : eW} {v : Int32} {w' : eW} (h : fX1_wide a0 w = some (v, w')) : eO w a0 1 = true ∧ eMN l D cI cZ 0 yX1_wide cX1_wide 1 (some .int) [.ref a0] w (some (.int v)) w' := by
  obtain ⟨h0, h⟩ := eBif h
  exact ⟨h0, eMN_of [(0, .ref a0)] (plainFor_of_name (by decide)) (fun _ => rfl) (fun _ => Nat.le_of_ble_eq_true rfl) (fun p e s m args below meth c r0 A X => ev_weak (pc := 0) [0] rfl (sX1_wide_0 _ _ _ h p e s m args below meth c r0 A X))⟩
theorem dX1_deep_0 : decode cX1_deep 0 = .ok (.aload_n 0, 1) := by decide +kernel
theorem dX1_deep_1 : decode cX1_deep 1 = .ok (.getfield 30, 3) := by decide +kernel
theorem dX1_deep_4 : decode cX1_deep 4 = .ok (.ireturn, 1) := by decide +kernel
def fX1_deep_0 (x0 : Nat) (w : eW) : Option (Int32 × eW) := (eGI w x0 1 1).bind fun v1 => some (v1, w)
set_option maxRecDepth 20000 in
theorem sX1_deep_0  (x0 : Nat) (w : eW) (r : Int32 × eW) (h : fX1_deep_0 x0 w = some r) : eBN l D cI cZ 0 yX1_deep cX1_deep 1 (some .int) 0 [(0, .ref x0)] [] w (some (.int r.1)) r.2 := by
  rw [fX1_deep_0] at h
  intro p e s m args below meth c r0 A X
  refine ev_aload_n (pc := 0) X 0 dX1_deep_0 rfl rfl ?_
  obtain ⟨v1, hv1, h⟩ := eBi h
  refine ev_getI (pc := 1) X hcX1 (k := 1) (by decide) kfX1_30 dX1_deep_1 hv1 ?_
  obtain rfl := Option.some.inj h
  exact ev_iret (pc := 4) X dX1_deep_4
def fX1_deep (a0 : Nat) (w : eW) : Option (Int32 × eW) := bif eO w a0 1 then fX1_deep_0 a0 w else none
theorem mX1_deep {a0 : Nat} {w : eW} {v : Int32} {w' : eW} (h : fX1_deep a0 w = some (v, w')) : eO w a0 1 = true ∧ eMN l D cI cZ 0 yX1_deep cX1_deep 1 (some .int) [.ref a0] w (some (.int v)) w' := by
  obtain ⟨h0, h⟩ := eBif h
  exact ⟨h0, eMN_of [(0, .ref a0)] (plainFor_of_name (by decide)) (fun _ => rfl) (fun _ => Nat.le_of_ble_eq_true rfl) (fun p e s m args below meth c r0 A X => ev_weak (pc := 0) [0] rfl (sX1_deep_0 _ _ _ h p e s m args below meth c r0 A X))⟩
theorem dX1_slope_0 : decode cX1_slope 0 = .ok (.aload_n 0, 1) := by decide +kernel
theorem dX1_slope_1 : decode cX1_slope 1 = .ok (.getfield 33, 3) := by decide +kernel
theorem dX1_slope_4 : decode cX1_slope 4 = .ok (.ireturn, 1) := by decide +kernel
def fX1_slope_0 (x0 : Nat) (w : eW) : Option (Int32 × eW) := (eGI w x0 1 2).bind fun v1 => some (v1, w)
set_option maxRecDepth 20000 in
theorem sX1_slope_0  (x0 : Nat) (w : eW) (r : Int32 × eW) (h : fX1_slope_0 x0 w = some r) : eBN l D cI cZ 0 yX1_slope cX1_slope 1 (some .int) 0 [(0, .ref x0)] [] w (some (.int r.1)) r.2 := by
  rw [fX1_slope_0] at h
  intro p e s m args below meth c r0 A X
  refine ev_aload_n (pc := 0) X 0 dX1_slope_0 rfl rfl ?_
  obtain ⟨v1, hv1, h⟩ := eBi h
  refine ev_getI (pc := 1) X hcX1 (k := 2) (by decide) kfX1_33 dX1_slope_1 hv1 ?_
  obtain rfl := Option.some.inj h
  exact ev_iret (pc := 4) X dX1_slope_4
def fX1_slope (a0 : Nat) (w : eW) : Option (Int32 × eW) := bif eO w a0 1 then fX1_slope_0 a0 w else none
theorem mX1_slope {a0 : Nat} {w : eW} {v : Int32} {w' : eW} (h : fX1_slope a0 w = some (v, w')) : eO w a0 1 = true ∧ eMN l D cI cZ 0 yX1_slope cX1_slope 1 (some .int) [.ref a0] w (some (.int v)) w' := by
  obtain ⟨h0, h⟩ := eBif h
  exact ⟨h0, eMN_of [(0, .ref a0)] (plainFor_of_name (by decide)) (fun _ => rfl) (fun _ => Nat.le_of_ble_eq_true rfl) (fun p e s m args below meth c r0 A X => ev_weak (pc := 0) [0] rfl (sX1_slope_0 _ _ _ h p e s m args below meth c r0 A X))⟩
theorem dX1_towns_0 : decode cX1_towns 0 = .ok (.aload_n 0, 1) := by decide +kernel
theorem dX1_towns_1 : decode cX1_towns 1 = .ok (.getfield 36, 3) := by decide +kernel
theorem dX1_towns_4 : decode cX1_towns 4 = .ok (.ireturn, 1) := by decide +kernel
def fX1_towns_0 (x0 : Nat) (w : eW) : Option (Int32 × eW) := (eGI w x0 1 3).bind fun v1 => some (v1, w)
set_option maxRecDepth 20000 in
theorem sX1_towns_0  (x0 : Nat) (w : eW) (r : Int32 × eW) (h : fX1_towns_0 x0 w = some r) : eBN l D cI cZ 0 yX1_towns cX1_towns 1 (some .int) 0 [(0, .ref x0)] [] w (some (.int r.1)) r.2 := by
  rw [fX1_towns_0] at h
  intro p e s m args below meth c r0 A X
  refine ev_aload_n (pc := 0) X 0 dX1_towns_0 rfl rfl ?_
  obtain ⟨v1, hv1, h⟩ := eBi h
  refine ev_getI (pc := 1) X hcX1 (k := 3) (by decide) kfX1_36 dX1_towns_1 hv1 ?_
  obtain rfl := Option.some.inj h
  exact ev_iret (pc := 4) X dX1_towns_4
def fX1_towns (a0 : Nat) (w : eW) : Option (Int32 × eW) := bif eO w a0 1 then fX1_towns_0 a0 w else none
theorem mX1_towns {a0 : Nat} {w : eW} {v : Int32} {w' : eW} (h : fX1_towns a0 w = some (v, w')) : eO w a0 1 = true ∧ eMN l D cI cZ 0 yX1_towns cX1_towns 1 (some .int) [.ref a0] w (some (.int v)) w' := by
  obtain ⟨h0, h⟩ := eBif h
  exact ⟨h0, eMN_of [(0, .ref a0)] (plainFor_of_name (by decide)) (fun _ => rfl) (fun _ => Nat.le_of_ble_eq_true rfl) (fun p e s m args below meth c r0 A X => ev_weak (pc := 0) [0] rfl (sX1_towns_0 _ _ _ h p e s m args below meth c r0 A X))⟩
theorem dX1_hasCell_0 : decode cX1_hasCell 0 = .ok (.iload_n 1, 1) := by decide +kernel
theorem dX1_hasCell_1 : decode cX1_hasCell 1 = .ok (.ifCond .lt 15, 3) := by decide +kernel
theorem dX1_hasCell_4 : decode cX1_hasCell 4 = .ok (.iload_n 1, 1) := by decide +kernel
theorem dX1_hasCell_5 : decode cX1_hasCell 5 = .ok (.aload_n 0, 1) := by decide +kernel
theorem dX1_hasCell_6 : decode cX1_hasCell 6 = .ok (.invokevirtual 50, 3) := by decide +kernel
theorem dX1_hasCell_9 : decode cX1_hasCell 9 = .ok (.if_icmp .ge 7, 3) := by decide +kernel
theorem dX1_hasCell_12 : decode cX1_hasCell 12 = .ok (.iconst 1, 1) := by decide +kernel
theorem dX1_hasCell_13 : decode cX1_hasCell 13 = .ok (.goto 4, 3) := by decide +kernel
theorem dX1_hasCell_16 : decode cX1_hasCell 16 = .ok (.iconst 0, 1) := by decide +kernel
theorem dX1_hasCell_17 : decode cX1_hasCell 17 = .ok (.ireturn, 1) := by decide +kernel
def fX1_hasCell_16  (w : eW) : Option (Int32 × eW) := (eZ (0 : Int32)).bind fun v1 => some (v1, w)
set_option maxRecDepth 20000 in
theorem sX1_hasCell_16   (w : eW) (r : Int32 × eW) (h : fX1_hasCell_16  w = some r) : eBN l D cI cZ 1 yX1_hasCell cX1_hasCell 2 (some .boolean) 16 [] [] w (some (.int r.1)) r.2 := by
  rw [fX1_hasCell_16] at h
  intro p e s m args below meth c r0 A X
  refine ev_iconst (pc := 16) (v := (0 : Int32)) X dX1_hasCell_16 rfl ?_
  obtain ⟨v1, hv1, h⟩ := eBi h
  obtain rfl := Option.some.inj h
  exact ev_zret (pc := 17) X dX1_hasCell_17 hv1
def fX1_hasCell_0 (x0 : Nat) (x1 : Int32) (w : eW) : Option (Int32 × eW) := if x1 < 0 then (fX1_hasCell_16 w) else (eBind2 (fX1_cells x0 w) fun v2 w1 => if v2 ≤ x1 then (fX1_hasCell_16 w1) else ((eZ (1 : Int32)).bind fun v3 => some (v3, w1)))
set_option maxRecDepth 20000 in
theorem sX1_hasCell_0  (x0 : Nat) (x1 : Int32) (w : eW) (r : Int32 × eW) (h : fX1_hasCell_0 x0 x1 w = some r) : eBN l D cI cZ 1 yX1_hasCell cX1_hasCell 2 (some .boolean) 0 [(0, .ref x0), (1, .int x1)] [] w (some (.int r.1)) r.2 := by
  rw [fX1_hasCell_0] at h
  intro p e s m args below meth c r0 A X
  refine ev_iload_n (pc := 0) X 1 dX1_hasCell_0 rfl rfl ?_
  refine ev_if_lt (pc := 1) X 16 dX1_hasCell_1 rfl (fun hc => ?_) (fun hc => ?_)
  · rw [if_pos hc] at h
    exact ev_weak (pc := 16) [] rfl (sX1_hasCell_16  _ _ h p e s m args below meth c r0 A X)
  · rw [if_neg hc] at h
    refine ev_iload_n (pc := 4) X 1 dX1_hasCell_4 rfl rfl ?_
    refine ev_aload_n (pc := 5) X 0 dX1_hasCell_5 rfl rfl ?_
    obtain ⟨v2, w1, hc, h⟩ := eB2 h
    refine ev_callV_i (pc := 6) (As := []) (S := [.int x1]) X hwX1_cells klX1_50 hiX1_cells hsX1_cells (ci := 1) ⟨rfl, rfl⟩ ⟨Nat.le_of_ble_eq_true rfl, Nat.le_of_ble_eq_true rfl⟩ ⟨Nat.le_refl _, Nat.le_refl _⟩ rfl (Nat.le_of_ble_eq_true rfl) dX1_hasCell_6 rfl (mX1_cells (l := l) (D := D) (cI := cI) (cZ := cZ) hc).1 (mX1_cells hc).2 ?_
    refine ev_icmp_ge (pc := 9) X 16 dX1_hasCell_9 rfl (fun hc => ?_) (fun hc => ?_)
    · rw [if_pos hc] at h
      exact ev_weak (pc := 16) [] rfl (sX1_hasCell_16  _ _ h p e s m args below meth c r0 A X)
    · rw [if_neg hc] at h
      refine ev_iconst (pc := 12) (v := (1 : Int32)) X dX1_hasCell_12 rfl ?_
      refine ev_goto (pc := 13) X 17 dX1_hasCell_13 rfl ?_
      obtain ⟨v3, hv3, h⟩ := eBi h
      obtain rfl := Option.some.inj h
      exact ev_zret (pc := 17) X dX1_hasCell_17 hv3
def fX1_hasCell (a0 : Nat) (a1 : Int32) (w : eW) : Option (Int32 × eW) := bif eO w a0 1 then fX1_hasCell_0 a0 a1 w else none
theorem mX1_hasCell {a0 : Nat} {a1 : Int32} {w : eW} {v : Int32} {w' : eW} (h : fX1_hasCell a0 a1 w = some (v, w')) : eO w a0 1 = true ∧ eMN l D cI cZ 1 yX1_hasCell cX1_hasCell 2 (some .boolean) [.ref a0, .int a1] w (some (.int v)) w' := by
  obtain ⟨h0, h⟩ := eBif h
  exact ⟨h0, eMN_of [(0, .ref a0), (1, .int a1)] (plainFor_of_name (by decide)) (fun _ => rfl) (fun _ => Nat.le_of_ble_eq_true rfl) (fun p e s m args below meth c r0 A X => ev_weak (pc := 0) [0, 1] rfl (sX1_hasCell_0 _ _ _ _ h p e s m args below meth c r0 A X))⟩
theorem dX1_heightAt_0 : decode cX1_heightAt 0 = .ok (.aload_n 0, 1) := by decide +kernel
theorem dX1_heightAt_1 : decode cX1_heightAt 1 = .ok (.getfield 14, 3) := by decide +kernel
theorem dX1_heightAt_4 : decode cX1_heightAt 4 = .ok (.iload_n 1, 1) := by decide +kernel
theorem dX1_heightAt_5 : decode cX1_heightAt 5 = .ok (.invokevirtual 42, 3) := by decide +kernel
theorem dX1_heightAt_8 : decode cX1_heightAt 8 = .ok (.ireturn, 1) := by decide +kernel
def fX1_heightAt_0 (x0 : Nat) (x1 : Int32) (w : eW) : Option (Int32 × eW) := (eGR w x0 1 4).bind fun v1 => eBind2 (fX7_get v1 x1 w) fun v3 w2 => some (v3, w2)
set_option maxRecDepth 20000 in
theorem sX1_heightAt_0  (x0 : Nat) (x1 : Int32) (w : eW) (r : Int32 × eW) (h : fX1_heightAt_0 x0 x1 w = some r) : eBN l D cI cZ 1 yX1_heightAt cX1_heightAt 2 (some .int) 0 [(0, .ref x0), (1, .int x1)] [] w (some (.int r.1)) r.2 := by
  rw [fX1_heightAt_0] at h
  intro p e s m args below meth c r0 A X
  refine ev_aload_n (pc := 0) X 0 dX1_heightAt_0 rfl rfl ?_
  obtain ⟨v1, hv1, h⟩ := eBi h
  refine ev_getR (pc := 1) X hcX1 (k := 4) (by decide) kfX1_14 dX1_heightAt_1 hv1 ?_
  refine ev_iload_n (pc := 4) X 1 dX1_heightAt_4 rfl rfl ?_
  obtain ⟨v3, w2, hc, h⟩ := eB2 h
  refine ev_callV_i (pc := 5) (As := [.int x1]) (S := []) X hwX7_get klX1_42 hiX7_get hsX7_get (ci := 7) ⟨rfl, rfl⟩ ⟨Nat.le_of_ble_eq_true rfl, Nat.le_of_ble_eq_true rfl⟩ ⟨Nat.le_refl _, Nat.le_refl _⟩ rfl (Nat.le_of_ble_eq_true rfl) dX1_heightAt_5 rfl (mX7_get (l := l) (D := D) (cI := cI) (cZ := cZ) hc).1 (mX7_get hc).2 ?_
  obtain rfl := Option.some.inj h
  exact ev_iret (pc := 8) X dX1_heightAt_8
def fX1_heightAt (a0 : Nat) (a1 : Int32) (w : eW) : Option (Int32 × eW) := bif eO w a0 1 then fX1_heightAt_0 a0 a1 w else none
theorem mX1_heightAt {a0 : Nat} {a1 : Int32} {w : eW} {v : Int32} {w' : eW} (h : fX1_heightAt a0 a1 w = some (v, w')) : eO w a0 1 = true ∧ eMN l D cI cZ 1 yX1_heightAt cX1_heightAt 2 (some .int) [.ref a0, .int a1] w (some (.int v)) w' := by
  obtain ⟨h0, h⟩ := eBif h
  exact ⟨h0, eMN_of [(0, .ref a0), (1, .int a1)] (plainFor_of_name (by decide)) (fun _ => rfl) (fun _ => Nat.le_of_ble_eq_true rfl) (fun p e s m args below meth c r0 A X => ev_weak (pc := 0) [0, 1] rfl (sX1_heightAt_0 _ _ _ _ h p e s m args below meth c r0 A X))⟩
theorem dX1_townCell_0 : decode cX1_townCell 0 = .ok (.aload_n 0, 1) := by decide +kernel
theorem dX1_townCell_1 : decode cX1_townCell 1 = .ok (.getfield 20, 3) := by decide +kernel
theorem dX1_townCell_4 : decode cX1_townCell 4 = .ok (.iload_n 1, 1) := by decide +kernel
theorem dX1_townCell_5 : decode cX1_townCell 5 = .ok (.invokevirtual 42, 3) := by decide +kernel
theorem dX1_townCell_8 : decode cX1_townCell 8 = .ok (.ireturn, 1) := by decide +kernel
def fX1_townCell_0 (x0 : Nat) (x1 : Int32) (w : eW) : Option (Int32 × eW) := (eGR w x0 1 5).bind fun v1 => eBind2 (fX7_get v1 x1 w) fun v3 w2 => some (v3, w2)
set_option maxRecDepth 20000 in
theorem sX1_townCell_0  (x0 : Nat) (x1 : Int32) (w : eW) (r : Int32 × eW) (h : fX1_townCell_0 x0 x1 w = some r) : eBN l D cI cZ 1 yX1_townCell cX1_townCell 2 (some .int) 0 [(0, .ref x0), (1, .int x1)] [] w (some (.int r.1)) r.2 := by
  rw [fX1_townCell_0] at h
  intro p e s m args below meth c r0 A X
  refine ev_aload_n (pc := 0) X 0 dX1_townCell_0 rfl rfl ?_
  obtain ⟨v1, hv1, h⟩ := eBi h
  refine ev_getR (pc := 1) X hcX1 (k := 5) (by decide) kfX1_20 dX1_townCell_1 hv1 ?_
  refine ev_iload_n (pc := 4) X 1 dX1_townCell_4 rfl rfl ?_
  obtain ⟨v3, w2, hc, h⟩ := eB2 h
  refine ev_callV_i (pc := 5) (As := [.int x1]) (S := []) X hwX7_get klX1_42 hiX7_get hsX7_get (ci := 7) ⟨rfl, rfl⟩ ⟨Nat.le_of_ble_eq_true rfl, Nat.le_of_ble_eq_true rfl⟩ ⟨Nat.le_refl _, Nat.le_refl _⟩ rfl (Nat.le_of_ble_eq_true rfl) dX1_townCell_5 rfl (mX7_get (l := l) (D := D) (cI := cI) (cZ := cZ) hc).1 (mX7_get hc).2 ?_
  obtain rfl := Option.some.inj h
  exact ev_iret (pc := 8) X dX1_townCell_8
def fX1_townCell (a0 : Nat) (a1 : Int32) (w : eW) : Option (Int32 × eW) := bif eO w a0 1 then fX1_townCell_0 a0 a1 w else none
theorem mX1_townCell {a0 : Nat} {a1 : Int32} {w : eW} {v : Int32} {w' : eW} (h : fX1_townCell a0 a1 w = some (v, w')) : eO w a0 1 = true ∧ eMN l D cI cZ 1 yX1_townCell cX1_townCell 2 (some .int) [.ref a0, .int a1] w (some (.int v)) w' := by
  obtain ⟨h0, h⟩ := eBif h
  exact ⟨h0, eMN_of [(0, .ref a0), (1, .int a1)] (plainFor_of_name (by decide)) (fun _ => rfl) (fun _ => Nat.le_of_ble_eq_true rfl) (fun p e s m args below meth c r0 A X => ev_weak (pc := 0) [0, 1] rfl (sX1_townCell_0 _ _ _ _ h p e s m args below meth c r0 A X))⟩
theorem dJ9_min_7cf53_0 : decode cJ9_min_7cf53 0 = .ok (.iload_n 0, 1) := by decide +kernel
theorem dJ9_min_7cf53_1 : decode cJ9_min_7cf53 1 = .ok (.iload_n 1, 1) := by decide +kernel
theorem dJ9_min_7cf53_2 : decode cJ9_min_7cf53 2 = .ok (.if_icmp .gt 7, 3) := by decide +kernel
theorem dJ9_min_7cf53_5 : decode cJ9_min_7cf53 5 = .ok (.iload_n 0, 1) := by decide +kernel
theorem dJ9_min_7cf53_6 : decode cJ9_min_7cf53 6 = .ok (.goto 4, 3) := by decide +kernel
theorem dJ9_min_7cf53_9 : decode cJ9_min_7cf53 9 = .ok (.iload_n 1, 1) := by decide +kernel
theorem dJ9_min_7cf53_10 : decode cJ9_min_7cf53 10 = .ok (.ireturn, 1) := by decide +kernel
def fJ9_min_7cf53_0 (x0 : Int32) (x1 : Int32) (w : eW) : Option (Int32 × eW) := if x1 < x0 then (some (x1, w)) else (some (x0, w))
set_option maxRecDepth 20000 in
theorem sJ9_min_7cf53_0  (x0 : Int32) (x1 : Int32) (w : eW) (r : Int32 × eW) (h : fJ9_min_7cf53_0 x0 x1 w = some r) : eBN l D cI cZ 0 yJ9_min_7cf53 cJ9_min_7cf53 2 (some .int) 0 [(0, .int x0), (1, .int x1)] [] w (some (.int r.1)) r.2 := by
  rw [fJ9_min_7cf53_0] at h
  intro p e s m args below meth c r0 A X
  refine ev_iload_n (pc := 0) X 0 dJ9_min_7cf53_0 rfl rfl ?_
  refine ev_iload_n (pc := 1) X 1 dJ9_min_7cf53_1 rfl rfl ?_
  refine ev_icmp_gt (pc := 2) X 9 dJ9_min_7cf53_2 rfl (fun hc => ?_) (fun hc => ?_)
  · rw [if_pos hc] at h
    refine ev_iload_n (pc := 9) X 1 dJ9_min_7cf53_9 rfl rfl ?_
    obtain rfl := Option.some.inj h
    exact ev_iret (pc := 10) X dJ9_min_7cf53_10
  · rw [if_neg hc] at h
    refine ev_iload_n (pc := 5) X 0 dJ9_min_7cf53_5 rfl rfl ?_
    refine ev_goto (pc := 6) X 10 dJ9_min_7cf53_6 rfl ?_
    obtain rfl := Option.some.inj h
    exact ev_iret (pc := 10) X dJ9_min_7cf53_10
def fJ9_min_7cf53 (a0 : Int32) (a1 : Int32) (w : eW) : Option (Int32 × eW) := fJ9_min_7cf53_0 a0 a1 w
theorem mJ9_min_7cf53 {a0 : Int32} {a1 : Int32} {w : eW} {v : Int32} {w' : eW} (h : fJ9_min_7cf53 a0 a1 w = some (v, w')) : eMN l D cI cZ 0 yJ9_min_7cf53 cJ9_min_7cf53 2 (some .int) [.int a0, .int a1] w (some (.int v)) w' :=
  eMN_of [(0, .int a0), (1, .int a1)] (by decide +kernel) (fun _ => rfl) (fun _ => Nat.le_of_ble_eq_true rfl) (fun p e s m args below meth c r0 A X => ev_weak (pc := 0) [0, 1] rfl (sJ9_min_7cf53_0 _ _ _ _ h p e s m args below meth c r0 A X))
theorem dJ6_bitCount_0f7a4_0 : decode cJ6_bitCount_0f7a4 0 = .ok (.iload_n 0, 1) := by decide +kernel
theorem dJ6_bitCount_0f7a4_1 : decode cJ6_bitCount_0f7a4 1 = .ok (.iload_n 0, 1) := by decide +kernel
theorem dJ6_bitCount_0f7a4_2 : decode cJ6_bitCount_0f7a4 2 = .ok (.iconst 1, 1) := by decide +kernel
theorem dJ6_bitCount_0f7a4_3 : decode cJ6_bitCount_0f7a4 3 = .ok (.iushr, 1) := by decide +kernel
theorem dJ6_bitCount_0f7a4_4 : decode cJ6_bitCount_0f7a4 4 = .ok (.ldc_w 265, 3) := by decide +kernel
theorem dJ6_bitCount_0f7a4_7 : decode cJ6_bitCount_0f7a4 7 = .ok (.iand, 1) := by decide +kernel
theorem dJ6_bitCount_0f7a4_8 : decode cJ6_bitCount_0f7a4 8 = .ok (.isub, 1) := by decide +kernel
theorem dJ6_bitCount_0f7a4_9 : decode cJ6_bitCount_0f7a4 9 = .ok (.istore_n 0, 1) := by decide +kernel
theorem dJ6_bitCount_0f7a4_10 : decode cJ6_bitCount_0f7a4 10 = .ok (.iload_n 0, 1) := by decide +kernel
theorem dJ6_bitCount_0f7a4_11 : decode cJ6_bitCount_0f7a4 11 = .ok (.ldc_w 266, 3) := by decide +kernel
theorem dJ6_bitCount_0f7a4_14 : decode cJ6_bitCount_0f7a4 14 = .ok (.iand, 1) := by decide +kernel
theorem dJ6_bitCount_0f7a4_15 : decode cJ6_bitCount_0f7a4 15 = .ok (.iload_n 0, 1) := by decide +kernel
theorem dJ6_bitCount_0f7a4_16 : decode cJ6_bitCount_0f7a4 16 = .ok (.iconst 2, 1) := by decide +kernel
theorem dJ6_bitCount_0f7a4_17 : decode cJ6_bitCount_0f7a4 17 = .ok (.iushr, 1) := by decide +kernel
theorem dJ6_bitCount_0f7a4_18 : decode cJ6_bitCount_0f7a4 18 = .ok (.ldc_w 266, 3) := by decide +kernel
theorem dJ6_bitCount_0f7a4_21 : decode cJ6_bitCount_0f7a4 21 = .ok (.iand, 1) := by decide +kernel
theorem dJ6_bitCount_0f7a4_22 : decode cJ6_bitCount_0f7a4 22 = .ok (.iadd, 1) := by decide +kernel
theorem dJ6_bitCount_0f7a4_23 : decode cJ6_bitCount_0f7a4 23 = .ok (.istore_n 0, 1) := by decide +kernel
theorem dJ6_bitCount_0f7a4_24 : decode cJ6_bitCount_0f7a4 24 = .ok (.iload_n 0, 1) := by decide +kernel
theorem dJ6_bitCount_0f7a4_25 : decode cJ6_bitCount_0f7a4 25 = .ok (.iload_n 0, 1) := by decide +kernel
theorem dJ6_bitCount_0f7a4_26 : decode cJ6_bitCount_0f7a4 26 = .ok (.iconst 4, 1) := by decide +kernel
theorem dJ6_bitCount_0f7a4_27 : decode cJ6_bitCount_0f7a4 27 = .ok (.iushr, 1) := by decide +kernel
theorem dJ6_bitCount_0f7a4_28 : decode cJ6_bitCount_0f7a4 28 = .ok (.iadd, 1) := by decide +kernel
theorem dJ6_bitCount_0f7a4_29 : decode cJ6_bitCount_0f7a4 29 = .ok (.ldc_w 267, 3) := by decide +kernel
theorem dJ6_bitCount_0f7a4_32 : decode cJ6_bitCount_0f7a4 32 = .ok (.iand, 1) := by decide +kernel
theorem dJ6_bitCount_0f7a4_33 : decode cJ6_bitCount_0f7a4 33 = .ok (.istore_n 0, 1) := by decide +kernel
theorem dJ6_bitCount_0f7a4_34 : decode cJ6_bitCount_0f7a4 34 = .ok (.iload_n 0, 1) := by decide +kernel
theorem dJ6_bitCount_0f7a4_35 : decode cJ6_bitCount_0f7a4 35 = .ok (.iload_n 0, 1) := by decide +kernel
theorem dJ6_bitCount_0f7a4_36 : decode cJ6_bitCount_0f7a4 36 = .ok (.bipush 8, 2) := by decide +kernel
theorem dJ6_bitCount_0f7a4_38 : decode cJ6_bitCount_0f7a4 38 = .ok (.iushr, 1) := by decide +kernel
theorem dJ6_bitCount_0f7a4_39 : decode cJ6_bitCount_0f7a4 39 = .ok (.iadd, 1) := by decide +kernel
theorem dJ6_bitCount_0f7a4_40 : decode cJ6_bitCount_0f7a4 40 = .ok (.istore_n 0, 1) := by decide +kernel
theorem dJ6_bitCount_0f7a4_41 : decode cJ6_bitCount_0f7a4 41 = .ok (.iload_n 0, 1) := by decide +kernel
theorem dJ6_bitCount_0f7a4_42 : decode cJ6_bitCount_0f7a4 42 = .ok (.iload_n 0, 1) := by decide +kernel
theorem dJ6_bitCount_0f7a4_43 : decode cJ6_bitCount_0f7a4 43 = .ok (.bipush 16, 2) := by decide +kernel
theorem dJ6_bitCount_0f7a4_45 : decode cJ6_bitCount_0f7a4 45 = .ok (.iushr, 1) := by decide +kernel
theorem dJ6_bitCount_0f7a4_46 : decode cJ6_bitCount_0f7a4 46 = .ok (.iadd, 1) := by decide +kernel
theorem dJ6_bitCount_0f7a4_47 : decode cJ6_bitCount_0f7a4 47 = .ok (.istore_n 0, 1) := by decide +kernel
theorem dJ6_bitCount_0f7a4_48 : decode cJ6_bitCount_0f7a4 48 = .ok (.iload_n 0, 1) := by decide +kernel
theorem dJ6_bitCount_0f7a4_49 : decode cJ6_bitCount_0f7a4 49 = .ok (.bipush 63, 2) := by decide +kernel
theorem dJ6_bitCount_0f7a4_51 : decode cJ6_bitCount_0f7a4 51 = .ok (.iand, 1) := by decide +kernel
theorem dJ6_bitCount_0f7a4_52 : decode cJ6_bitCount_0f7a4 52 = .ok (.ireturn, 1) := by decide +kernel
def fJ6_bitCount_0f7a4_0 (x0 : Int32) (w : eW) : Option (Int32 × eW) := some ((((((((x0 - ((((x0 : Int32).toUInt32 >>> (((1 : Int32) : Int32).toUInt32 &&& Int32.toUInt32 31)).toInt32) &&& (1431655765 : Int32))) &&& (858993459 : Int32)) + (((((x0 - ((((x0 : Int32).toUInt32 >>> (((1 : Int32) : Int32).toUInt32 &&& Int32.toUInt32 31)).toInt32) &&& (1431655765 : Int32))) : Int32).toUInt32 >>> (((2 : Int32) : Int32).toUInt32 &&& Int32.toUInt32 31)).toInt32) &&& (858993459 : Int32))) + ((((((x0 - ((((x0 : Int32).toUInt32 >>> (((1 : Int32) : Int32).toUInt32 &&& Int32.toUInt32 31)).toInt32) &&& (1431655765 : Int32))) &&& (858993459 : Int32)) + (((((x0 - ((((x0 : Int32).toUInt32 >>> (((1 : Int32) : Int32).toUInt32 &&& Int32.toUInt32 31)).toInt32) &&& (1431655765 : Int32))) : Int32).toUInt32 >>> (((2 : Int32) : Int32).toUInt32 &&& Int32.toUInt32 31)).toInt32) &&& (858993459 : Int32))) : Int32).toUInt32 >>> (((4 : Int32) : Int32).toUInt32 &&& Int32.toUInt32 31)).toInt32)) &&& (252645135 : Int32)) + ((((((((x0 - ((((x0 : Int32).toUInt32 >>> (((1 : Int32) : Int32).toUInt32 &&& Int32.toUInt32 31)).toInt32) &&& (1431655765 : Int32))) &&& (858993459 : Int32)) + (((((x0 - ((((x0 : Int32).toUInt32 >>> (((1 : Int32) : Int32).toUInt32 &&& Int32.toUInt32 31)).toInt32) &&& (1431655765 : Int32))) : Int32).toUInt32 >>> (((2 : Int32) : Int32).toUInt32 &&& Int32.toUInt32 31)).toInt32) &&& (858993459 : Int32))) + ((((((x0 - ((((x0 : Int32).toUInt32 >>> (((1 : Int32) : Int32).toUInt32 &&& Int32.toUInt32 31)).toInt32) &&& (1431655765 : Int32))) &&& (858993459 : Int32)) + (((((x0 - ((((x0 : Int32).toUInt32 >>> (((1 : Int32) : Int32).toUInt32 &&& Int32.toUInt32 31)).toInt32) &&& (1431655765 : Int32))) : Int32).toUInt32 >>> (((2 : Int32) : Int32).toUInt32 &&& Int32.toUInt32 31)).toInt32) &&& (858993459 : Int32))) : Int32).toUInt32 >>> (((4 : Int32) : Int32).toUInt32 &&& Int32.toUInt32 31)).toInt32)) &&& (252645135 : Int32)) : Int32).toUInt32 >>> (((8 : Int32) : Int32).toUInt32 &&& Int32.toUInt32 31)).toInt32)) + (((((((((x0 - ((((x0 : Int32).toUInt32 >>> (((1 : Int32) : Int32).toUInt32 &&& Int32.toUInt32 31)).toInt32) &&& (1431655765 : Int32))) &&& (858993459 : Int32)) + (((((x0 - ((((x0 : Int32).toUInt32 >>> (((1 : Int32) : Int32).toUInt32 &&& Int32.toUInt32 31)).toInt32) &&& (1431655765 : Int32))) : Int32).toUInt32 >>> (((2 : Int32) : Int32).toUInt32 &&& Int32.toUInt32 31)).toInt32) &&& (858993459 : Int32))) + ((((((x0 - ((((x0 : Int32).toUInt32 >>> (((1 : Int32) : Int32).toUInt32 &&& Int32.toUInt32 31)).toInt32) &&& (1431655765 : Int32))) &&& (858993459 : Int32)) + (((((x0 - ((((x0 : Int32).toUInt32 >>> (((1 : Int32) : Int32).toUInt32 &&& Int32.toUInt32 31)).toInt32) &&& (1431655765 : Int32))) : Int32).toUInt32 >>> (((2 : Int32) : Int32).toUInt32 &&& Int32.toUInt32 31)).toInt32) &&& (858993459 : Int32))) : Int32).toUInt32 >>> (((4 : Int32) : Int32).toUInt32 &&& Int32.toUInt32 31)).toInt32)) &&& (252645135 : Int32)) + ((((((((x0 - ((((x0 : Int32).toUInt32 >>> (((1 : Int32) : Int32).toUInt32 &&& Int32.toUInt32 31)).toInt32) &&& (1431655765 : Int32))) &&& (858993459 : Int32)) + (((((x0 - ((((x0 : Int32).toUInt32 >>> (((1 : Int32) : Int32).toUInt32 &&& Int32.toUInt32 31)).toInt32) &&& (1431655765 : Int32))) : Int32).toUInt32 >>> (((2 : Int32) : Int32).toUInt32 &&& Int32.toUInt32 31)).toInt32) &&& (858993459 : Int32))) + ((((((x0 - ((((x0 : Int32).toUInt32 >>> (((1 : Int32) : Int32).toUInt32 &&& Int32.toUInt32 31)).toInt32) &&& (1431655765 : Int32))) &&& (858993459 : Int32)) + (((((x0 - ((((x0 : Int32).toUInt32 >>> (((1 : Int32) : Int32).toUInt32 &&& Int32.toUInt32 31)).toInt32) &&& (1431655765 : Int32))) : Int32).toUInt32 >>> (((2 : Int32) : Int32).toUInt32 &&& Int32.toUInt32 31)).toInt32) &&& (858993459 : Int32))) : Int32).toUInt32 >>> (((4 : Int32) : Int32).toUInt32 &&& Int32.toUInt32 31)).toInt32)) &&& (252645135 : Int32)) : Int32).toUInt32 >>> (((8 : Int32) : Int32).toUInt32 &&& Int32.toUInt32 31)).toInt32)) : Int32).toUInt32 >>> (((16 : Int32) : Int32).toUInt32 &&& Int32.toUInt32 31)).toInt32)) &&& (63 : Int32), w)
set_option maxRecDepth 20000 in
theorem sJ6_bitCount_0f7a4_0  (x0 : Int32) (w : eW) (r : Int32 × eW) (h : fJ6_bitCount_0f7a4_0 x0 w = some r) : eBN l D cI cZ 0 yJ6_bitCount_0f7a4 cJ6_bitCount_0f7a4 1 (some .int) 0 [(0, .int x0)] [] w (some (.int r.1)) r.2 := by
  rw [fJ6_bitCount_0f7a4_0] at h
  intro p e s m args below meth c r0 A X
  refine ev_iload_n (pc := 0) X 0 dJ6_bitCount_0f7a4_0 rfl rfl ?_
  refine ev_iload_n (pc := 1) X 0 dJ6_bitCount_0f7a4_1 rfl rfl ?_
  refine ev_iconst (pc := 2) (v := (1 : Int32)) X dJ6_bitCount_0f7a4_2 rfl ?_
  refine ev_iushr (pc := 3) X dJ6_bitCount_0f7a4_3 ?_
  refine ev_ldcw (pc := 4) X kkJ6_265 dJ6_bitCount_0f7a4_4 ?_
  refine ev_iand (pc := 7) X dJ6_bitCount_0f7a4_7 ?_
  refine ev_isub (pc := 8) X dJ6_bitCount_0f7a4_8 ?_
  refine ev_istore_n (pc := 9) (L' := [(0, .int (x0 - ((((x0 : Int32).toUInt32 >>> (((1 : Int32) : Int32).toUInt32 &&& Int32.toUInt32 31)).toInt32) &&& (1431655765 : Int32))))]) X dJ6_bitCount_0f7a4_9 rfl (by decide) rfl ?_
  refine ev_iload_n (pc := 10) X 0 dJ6_bitCount_0f7a4_10 rfl rfl ?_
  refine ev_ldcw (pc := 11) X kkJ6_266 dJ6_bitCount_0f7a4_11 ?_
  refine ev_iand (pc := 14) X dJ6_bitCount_0f7a4_14 ?_
  refine ev_iload_n (pc := 15) X 0 dJ6_bitCount_0f7a4_15 rfl rfl ?_
  refine ev_iconst (pc := 16) (v := (2 : Int32)) X dJ6_bitCount_0f7a4_16 rfl ?_
  refine ev_iushr (pc := 17) X dJ6_bitCount_0f7a4_17 ?_
  refine ev_ldcw (pc := 18) X kkJ6_266 dJ6_bitCount_0f7a4_18 ?_
  refine ev_iand (pc := 21) X dJ6_bitCount_0f7a4_21 ?_
  refine ev_iadd (pc := 22) X dJ6_bitCount_0f7a4_22 ?_
  refine ev_istore_n (pc := 23) (L' := [(0, .int (((x0 - ((((x0 : Int32).toUInt32 >>> (((1 : Int32) : Int32).toUInt32 &&& Int32.toUInt32 31)).toInt32) &&& (1431655765 : Int32))) &&& (858993459 : Int32)) + (((((x0 - ((((x0 : Int32).toUInt32 >>> (((1 : Int32) : Int32).toUInt32 &&& Int32.toUInt32 31)).toInt32) &&& (1431655765 : Int32))) : Int32).toUInt32 >>> (((2 : Int32) : Int32).toUInt32 &&& Int32.toUInt32 31)).toInt32) &&& (858993459 : Int32))))]) X dJ6_bitCount_0f7a4_23 rfl (by decide) rfl ?_
  refine ev_iload_n (pc := 24) X 0 dJ6_bitCount_0f7a4_24 rfl rfl ?_
  refine ev_iload_n (pc := 25) X 0 dJ6_bitCount_0f7a4_25 rfl rfl ?_
  refine ev_iconst (pc := 26) (v := (4 : Int32)) X dJ6_bitCount_0f7a4_26 rfl ?_
  refine ev_iushr (pc := 27) X dJ6_bitCount_0f7a4_27 ?_
  refine ev_iadd (pc := 28) X dJ6_bitCount_0f7a4_28 ?_
  refine ev_ldcw (pc := 29) X kkJ6_267 dJ6_bitCount_0f7a4_29 ?_
  refine ev_iand (pc := 32) X dJ6_bitCount_0f7a4_32 ?_
  refine ev_istore_n (pc := 33) (L' := [(0, .int (((((x0 - ((((x0 : Int32).toUInt32 >>> (((1 : Int32) : Int32).toUInt32 &&& Int32.toUInt32 31)).toInt32) &&& (1431655765 : Int32))) &&& (858993459 : Int32)) + (((((x0 - ((((x0 : Int32).toUInt32 >>> (((1 : Int32) : Int32).toUInt32 &&& Int32.toUInt32 31)).toInt32) &&& (1431655765 : Int32))) : Int32).toUInt32 >>> (((2 : Int32) : Int32).toUInt32 &&& Int32.toUInt32 31)).toInt32) &&& (858993459 : Int32))) + ((((((x0 - ((((x0 : Int32).toUInt32 >>> (((1 : Int32) : Int32).toUInt32 &&& Int32.toUInt32 31)).toInt32) &&& (1431655765 : Int32))) &&& (858993459 : Int32)) + (((((x0 - ((((x0 : Int32).toUInt32 >>> (((1 : Int32) : Int32).toUInt32 &&& Int32.toUInt32 31)).toInt32) &&& (1431655765 : Int32))) : Int32).toUInt32 >>> (((2 : Int32) : Int32).toUInt32 &&& Int32.toUInt32 31)).toInt32) &&& (858993459 : Int32))) : Int32).toUInt32 >>> (((4 : Int32) : Int32).toUInt32 &&& Int32.toUInt32 31)).toInt32)) &&& (252645135 : Int32)))]) X dJ6_bitCount_0f7a4_33 rfl (by decide) rfl ?_
  refine ev_iload_n (pc := 34) X 0 dJ6_bitCount_0f7a4_34 rfl rfl ?_
  refine ev_iload_n (pc := 35) X 0 dJ6_bitCount_0f7a4_35 rfl rfl ?_
  refine ev_bipush (pc := 36) (v := (8 : Int32)) X dJ6_bitCount_0f7a4_36 rfl ?_
  refine ev_iushr (pc := 38) X dJ6_bitCount_0f7a4_38 ?_
  refine ev_iadd (pc := 39) X dJ6_bitCount_0f7a4_39 ?_
  refine ev_istore_n (pc := 40) (L' := [(0, .int ((((((x0 - ((((x0 : Int32).toUInt32 >>> (((1 : Int32) : Int32).toUInt32 &&& Int32.toUInt32 31)).toInt32) &&& (1431655765 : Int32))) &&& (858993459 : Int32)) + (((((x0 - ((((x0 : Int32).toUInt32 >>> (((1 : Int32) : Int32).toUInt32 &&& Int32.toUInt32 31)).toInt32) &&& (1431655765 : Int32))) : Int32).toUInt32 >>> (((2 : Int32) : Int32).toUInt32 &&& Int32.toUInt32 31)).toInt32) &&& (858993459 : Int32))) + ((((((x0 - ((((x0 : Int32).toUInt32 >>> (((1 : Int32) : Int32).toUInt32 &&& Int32.toUInt32 31)).toInt32) &&& (1431655765 : Int32))) &&& (858993459 : Int32)) + (((((x0 - ((((x0 : Int32).toUInt32 >>> (((1 : Int32) : Int32).toUInt32 &&& Int32.toUInt32 31)).toInt32) &&& (1431655765 : Int32))) : Int32).toUInt32 >>> (((2 : Int32) : Int32).toUInt32 &&& Int32.toUInt32 31)).toInt32) &&& (858993459 : Int32))) : Int32).toUInt32 >>> (((4 : Int32) : Int32).toUInt32 &&& Int32.toUInt32 31)).toInt32)) &&& (252645135 : Int32)) + ((((((((x0 - ((((x0 : Int32).toUInt32 >>> (((1 : Int32) : Int32).toUInt32 &&& Int32.toUInt32 31)).toInt32) &&& (1431655765 : Int32))) &&& (858993459 : Int32)) + (((((x0 - ((((x0 : Int32).toUInt32 >>> (((1 : Int32) : Int32).toUInt32 &&& Int32.toUInt32 31)).toInt32) &&& (1431655765 : Int32))) : Int32).toUInt32 >>> (((2 : Int32) : Int32).toUInt32 &&& Int32.toUInt32 31)).toInt32) &&& (858993459 : Int32))) + ((((((x0 - ((((x0 : Int32).toUInt32 >>> (((1 : Int32) : Int32).toUInt32 &&& Int32.toUInt32 31)).toInt32) &&& (1431655765 : Int32))) &&& (858993459 : Int32)) + (((((x0 - ((((x0 : Int32).toUInt32 >>> (((1 : Int32) : Int32).toUInt32 &&& Int32.toUInt32 31)).toInt32) &&& (1431655765 : Int32))) : Int32).toUInt32 >>> (((2 : Int32) : Int32).toUInt32 &&& Int32.toUInt32 31)).toInt32) &&& (858993459 : Int32))) : Int32).toUInt32 >>> (((4 : Int32) : Int32).toUInt32 &&& Int32.toUInt32 31)).toInt32)) &&& (252645135 : Int32)) : Int32).toUInt32 >>> (((8 : Int32) : Int32).toUInt32 &&& Int32.toUInt32 31)).toInt32)))]) X dJ6_bitCount_0f7a4_40 rfl (by decide) rfl ?_
  refine ev_iload_n (pc := 41) X 0 dJ6_bitCount_0f7a4_41 rfl rfl ?_
  refine ev_iload_n (pc := 42) X 0 dJ6_bitCount_0f7a4_42 rfl rfl ?_
  refine ev_bipush (pc := 43) (v := (16 : Int32)) X dJ6_bitCount_0f7a4_43 rfl ?_
  refine ev_iushr (pc := 45) X dJ6_bitCount_0f7a4_45 ?_
  refine ev_iadd (pc := 46) X dJ6_bitCount_0f7a4_46 ?_
  refine ev_istore_n (pc := 47) (L' := [(0, .int (((((((x0 - ((((x0 : Int32).toUInt32 >>> (((1 : Int32) : Int32).toUInt32 &&& Int32.toUInt32 31)).toInt32) &&& (1431655765 : Int32))) &&& (858993459 : Int32)) + (((((x0 - ((((x0 : Int32).toUInt32 >>> (((1 : Int32) : Int32).toUInt32 &&& Int32.toUInt32 31)).toInt32) &&& (1431655765 : Int32))) : Int32).toUInt32 >>> (((2 : Int32) : Int32).toUInt32 &&& Int32.toUInt32 31)).toInt32) &&& (858993459 : Int32))) + ((((((x0 - ((((x0 : Int32).toUInt32 >>> (((1 : Int32) : Int32).toUInt32 &&& Int32.toUInt32 31)).toInt32) &&& (1431655765 : Int32))) &&& (858993459 : Int32)) + (((((x0 - ((((x0 : Int32).toUInt32 >>> (((1 : Int32) : Int32).toUInt32 &&& Int32.toUInt32 31)).toInt32) &&& (1431655765 : Int32))) : Int32).toUInt32 >>> (((2 : Int32) : Int32).toUInt32 &&& Int32.toUInt32 31)).toInt32) &&& (858993459 : Int32))) : Int32).toUInt32 >>> (((4 : Int32) : Int32).toUInt32 &&& Int32.toUInt32 31)).toInt32)) &&& (252645135 : Int32)) + ((((((((x0 - ((((x0 : Int32).toUInt32 >>> (((1 : Int32) : Int32).toUInt32 &&& Int32.toUInt32 31)).toInt32) &&& (1431655765 : Int32))) &&& (858993459 : Int32)) + (((((x0 - ((((x0 : Int32).toUInt32 >>> (((1 : Int32) : Int32).toUInt32 &&& Int32.toUInt32 31)).toInt32) &&& (1431655765 : Int32))) : Int32).toUInt32 >>> (((2 : Int32) : Int32).toUInt32 &&& Int32.toUInt32 31)).toInt32) &&& (858993459 : Int32))) + ((((((x0 - ((((x0 : Int32).toUInt32 >>> (((1 : Int32) : Int32).toUInt32 &&& Int32.toUInt32 31)).toInt32) &&& (1431655765 : Int32))) &&& (858993459 : Int32)) + (((((x0 - ((((x0 : Int32).toUInt32 >>> (((1 : Int32) : Int32).toUInt32 &&& Int32.toUInt32 31)).toInt32) &&& (1431655765 : Int32))) : Int32).toUInt32 >>> (((2 : Int32) : Int32).toUInt32 &&& Int32.toUInt32 31)).toInt32) &&& (858993459 : Int32))) : Int32).toUInt32 >>> (((4 : Int32) : Int32).toUInt32 &&& Int32.toUInt32 31)).toInt32)) &&& (252645135 : Int32)) : Int32).toUInt32 >>> (((8 : Int32) : Int32).toUInt32 &&& Int32.toUInt32 31)).toInt32)) + (((((((((x0 - ((((x0 : Int32).toUInt32 >>> (((1 : Int32) : Int32).toUInt32 &&& Int32.toUInt32 31)).toInt32) &&& (1431655765 : Int32))) &&& (858993459 : Int32)) + (((((x0 - ((((x0 : Int32).toUInt32 >>> (((1 : Int32) : Int32).toUInt32 &&& Int32.toUInt32 31)).toInt32) &&& (1431655765 : Int32))) : Int32).toUInt32 >>> (((2 : Int32) : Int32).toUInt32 &&& Int32.toUInt32 31)).toInt32) &&& (858993459 : Int32))) + ((((((x0 - ((((x0 : Int32).toUInt32 >>> (((1 : Int32) : Int32).toUInt32 &&& Int32.toUInt32 31)).toInt32) &&& (1431655765 : Int32))) &&& (858993459 : Int32)) + (((((x0 - ((((x0 : Int32).toUInt32 >>> (((1 : Int32) : Int32).toUInt32 &&& Int32.toUInt32 31)).toInt32) &&& (1431655765 : Int32))) : Int32).toUInt32 >>> (((2 : Int32) : Int32).toUInt32 &&& Int32.toUInt32 31)).toInt32) &&& (858993459 : Int32))) : Int32).toUInt32 >>> (((4 : Int32) : Int32).toUInt32 &&& Int32.toUInt32 31)).toInt32)) &&& (252645135 : Int32)) + ((((((((x0 - ((((x0 : Int32).toUInt32 >>> (((1 : Int32) : Int32).toUInt32 &&& Int32.toUInt32 31)).toInt32) &&& (1431655765 : Int32))) &&& (858993459 : Int32)) + (((((x0 - ((((x0 : Int32).toUInt32 >>> (((1 : Int32) : Int32).toUInt32 &&& Int32.toUInt32 31)).toInt32) &&& (1431655765 : Int32))) : Int32).toUInt32 >>> (((2 : Int32) : Int32).toUInt32 &&& Int32.toUInt32 31)).toInt32) &&& (858993459 : Int32))) + ((((((x0 - ((((x0 : Int32).toUInt32 >>> (((1 : Int32) : Int32).toUInt32 &&& Int32.toUInt32 31)).toInt32) &&& (1431655765 : Int32))) &&& (858993459 : Int32)) + (((((x0 - ((((x0 : Int32).toUInt32 >>> (((1 : Int32) : Int32).toUInt32 &&& Int32.toUInt32 31)).toInt32) &&& (1431655765 : Int32))) : Int32).toUInt32 >>> (((2 : Int32) : Int32).toUInt32 &&& Int32.toUInt32 31)).toInt32) &&& (858993459 : Int32))) : Int32).toUInt32 >>> (((4 : Int32) : Int32).toUInt32 &&& Int32.toUInt32 31)).toInt32)) &&& (252645135 : Int32)) : Int32).toUInt32 >>> (((8 : Int32) : Int32).toUInt32 &&& Int32.toUInt32 31)).toInt32)) : Int32).toUInt32 >>> (((16 : Int32) : Int32).toUInt32 &&& Int32.toUInt32 31)).toInt32)))]) X dJ6_bitCount_0f7a4_47 rfl (by decide) rfl ?_
  refine ev_iload_n (pc := 48) X 0 dJ6_bitCount_0f7a4_48 rfl rfl ?_
  refine ev_bipush (pc := 49) (v := (63 : Int32)) X dJ6_bitCount_0f7a4_49 rfl ?_
  refine ev_iand (pc := 51) X dJ6_bitCount_0f7a4_51 ?_
  obtain rfl := Option.some.inj h
  exact ev_iret (pc := 52) X dJ6_bitCount_0f7a4_52
def fJ6_bitCount_0f7a4 (a0 : Int32) (w : eW) : Option (Int32 × eW) := fJ6_bitCount_0f7a4_0 a0 w
theorem mJ6_bitCount_0f7a4 {a0 : Int32} {w : eW} {v : Int32} {w' : eW} (h : fJ6_bitCount_0f7a4 a0 w = some (v, w')) : eMN l D cI cZ 0 yJ6_bitCount_0f7a4 cJ6_bitCount_0f7a4 1 (some .int) [.int a0] w (some (.int v)) w' :=
  eMN_of [(0, .int a0)] (by decide +kernel) (fun _ => rfl) (fun _ => Nat.le_of_ble_eq_true rfl) (fun p e s m args below meth c r0 A X => ev_weak (pc := 0) [0] rfl (sJ6_bitCount_0f7a4_0 _ _ _ h p e s m args below meth c r0 A X))
end GEN
