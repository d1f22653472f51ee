section GEN
variable {l : Launch} {D : va_G} {cI cZ : ClassId}
theorem dX10_type_0 : decode cX10_type 0 = .ok (.iload_n 1, 1) := by decide +kernel
theorem dX10_type_1 : decode cX10_type 1 = .ok (.ifCond .lt 10, 3) := by decide +kernel
theorem dX10_type_4 : decode cX10_type 4 = .ok (.iload_n 1, 1) := by decide +kernel
theorem dX10_type_5 : decode cX10_type 5 = .ok (.sipush 255, 3) := by decide +kernel
theorem dX10_type_8 : decode cX10_type 8 = .ok (.if_icmp .le 5, 3) := by decide +kernel
theorem dX10_type_11 : decode cX10_type 11 = .ok (.iconst (-1), 1) := by decide +kernel
theorem dX10_type_12 : decode cX10_type 12 = .ok (.ireturn, 1) := by decide +kernel
theorem dX10_type_13 : decode cX10_type 13 = .ok (.aload_n 0, 1) := by decide +kernel
theorem dX10_type_14 : decode cX10_type 14 = .ok (.getfield 19, 3) := by decide +kernel
theorem dX10_type_17 : decode cX10_type 17 = .ok (.iload_n 1, 1) := by decide +kernel
theorem dX10_type_18 : decode cX10_type 18 = .ok (.invokevirtual 95, 3) := by decide +kernel
theorem dX10_type_21 : decode cX10_type 21 = .ok (.ifCond .eq 13, 3) := by decide +kernel
theorem dX10_type_24 : decode cX10_type 24 = .ok (.aload_n 0, 1) := by decide +kernel
theorem dX10_type_25 : decode cX10_type 25 = .ok (.getfield 19, 3) := by decide +kernel
theorem dX10_type_28 : decode cX10_type 28 = .ok (.invokevirtual 99, 3) := by decide +kernel
theorem dX10_type_31 : decode cX10_type 31 = .ok (.goto 5, 3) := by decide +kernel
theorem dX10_type_34 : decode cX10_type 34 = .ok (.bipush (-3), 2) := by decide +kernel
theorem dX10_type_36 : decode cX10_type 36 = .ok (.ireturn, 1) := by decide +kernel
def fX10_type_0 (x0 : Nat) (x1 : Int32) (w : eW) : Option (Int32 × eW) := if x1 < 0 then (some ((-1 : Int32), w)) else (if x1 ≤ (255 : Int32) then ((eGR w x0 10 1).bind fun v1 => eBind2 (fX2_add v1 x1 w) fun v3 w2 => if v3 = 0 then (some ((-3 : Int32), w2)) else ((eGR w2 x0 10 1).bind fun v4 => eBind2 (fX2_size v4 w2) fun v6 w5 => some (v6, w5))) else (some ((-1 : Int32), w)))
set_option maxRecDepth 20000 in
theorem sX10_type_0  (x0 : Nat) (x1 : Int32) (w : eW) (r : Int32 × eW) (h : fX10_type_0 x0 x1 w = some r) : eBN l D cI cZ 2 yX10_type cX10_type 2 (some .int) 0 [(0, .ref x0), (1, .int x1)] [] w (some (.int r.1)) r.2 := by
  rw [fX10_type_0] at h
  intro p e s m args below meth c r0 A X
  refine ev_iload_n (pc := 0) X 1 dX10_type_0 rfl rfl ?_
  refine ev_if_lt (pc := 1) X 11 dX10_type_1 rfl (fun hc => ?_) (fun hc => ?_)
  · rw [if_pos hc] at h
    refine ev_iconst (pc := 11) (v := (-1 : Int32)) X dX10_type_11 rfl ?_
    obtain rfl := Option.some.inj h
    exact ev_iret (pc := 12) X dX10_type_12
  · rw [if_neg hc] at h
    refine ev_iload_n (pc := 4) X 1 dX10_type_4 rfl rfl ?_
    refine ev_sipush (pc := 5) (v := (255 : Int32)) X dX10_type_5 rfl ?_
    refine ev_icmp_le (pc := 8) X 13 dX10_type_8 rfl (fun hc => ?_) (fun hc => ?_)
    · rw [if_pos hc] at h
      refine ev_aload_n (pc := 13) X 0 dX10_type_13 rfl rfl ?_
      obtain ⟨v1, hv1, h⟩ := eBi h
      refine ev_getR (pc := 14) X hcX10 (k := 1) (by decide) kfX10_19 dX10_type_14 hv1 ?_
      refine ev_iload_n (pc := 17) X 1 dX10_type_17 rfl rfl ?_
      obtain ⟨v3, w2, hc, h⟩ := eB2 h
      refine ev_callV_i (pc := 18) (As := [.int x1]) (S := []) X hwX2_add klX10_95 hiX2_add hsX2_add (ci := 2) ⟨rfl, rfl⟩ ⟨Nat.le_of_ble_eq_true rfl, Nat.le_of_ble_eq_true rfl⟩ ⟨Nat.le_refl _, Nat.le_refl _⟩ rfl (Nat.le_of_ble_eq_true rfl) dX10_type_18 rfl (mX2_add (l := l) (D := D) (cI := cI) (cZ := cZ) hc).1 (mX2_add hc).2 ?_
      refine ev_if_eq (pc := 21) X 34 dX10_type_21 rfl (fun hc => ?_) (fun hc => ?_)
      · rw [if_pos hc] at h
        refine ev_bipush (pc := 34) (v := (-3 : Int32)) X dX10_type_34 rfl ?_
        obtain rfl := Option.some.inj h
        exact ev_iret (pc := 36) X dX10_type_36
      · rw [if_neg hc] at h
        refine ev_aload_n (pc := 24) X 0 dX10_type_24 rfl rfl ?_
        obtain ⟨v4, hv4, h⟩ := eBi h
        refine ev_getR (pc := 25) X hcX10 (k := 1) (by decide) kfX10_19 dX10_type_25 hv4 ?_
        obtain ⟨v6, w5, hc, h⟩ := eB2 h
        refine ev_callV_i (pc := 28) (As := []) (S := []) X hwX2_size klX10_99 hiX2_size hsX2_size (ci := 2) ⟨rfl, rfl⟩ ⟨Nat.le_of_ble_eq_true rfl, Nat.le_of_ble_eq_true rfl⟩ ⟨Nat.le_refl _, Nat.le_refl _⟩ rfl (Nat.le_of_ble_eq_true rfl) dX10_type_28 rfl (mX2_size (l := l) (D := D) (cI := cI) (cZ := cZ) hc).1 (mX2_size hc).2 ?_
        refine ev_goto (pc := 31) X 36 dX10_type_31 rfl ?_
        obtain rfl := Option.some.inj h
        exact ev_iret (pc := 36) X dX10_type_36
    · rw [if_neg hc] at h
      refine ev_iconst (pc := 11) (v := (-1 : Int32)) X dX10_type_11 rfl ?_
      obtain rfl := Option.some.inj h
      exact ev_iret (pc := 12) X dX10_type_12
def fX10_type (a0 : Nat) (a1 : Int32) (w : eW) : Option (Int32 × eW) := bif eO w a0 10 then fX10_type_0 a0 a1 w else none
theorem mX10_type {a0 : Nat} {a1 : Int32} {w : eW} {v : Int32} {w' : eW} (h : fX10_type a0 a1 w = some (v, w')) : eO w a0 10 = true ∧ eMN l D cI cZ 2 yX10_type cX10_type 2 (some .int) [.ref a0, .int a1] w (some (.int v)) w' := by
  obtain ⟨h0, h⟩ := eBif h
  exact ⟨h0, eMN_of [(0, .ref a0), (1, .int a1)] (plainFor_of_name (by decide)) (fun _ => rfl) (fun _ => Nat.le_of_ble_eq_true rfl) (fun p e s m args below meth c r0 A X => ev_weak (pc := 0) [0, 1] rfl (sX10_type_0 _ _ _ _ h p e s m args below meth c r0 A X))⟩
theorem dX10_clear_0 : decode cX10_clear 0 = .ok (.aload_n 0, 1) := by decide +kernel
theorem dX10_clear_1 : decode cX10_clear 1 = .ok (.getfield 19, 3) := by decide +kernel
theorem dX10_clear_4 : decode cX10_clear 4 = .ok (.invokevirtual 99, 3) := by decide +kernel
theorem dX10_clear_7 : decode cX10_clear 7 = .ok (.istore_n 1, 1) := by decide +kernel
theorem dX10_clear_8 : decode cX10_clear 8 = .ok (.aload_n 0, 1) := by decide +kernel
theorem dX10_clear_9 : decode cX10_clear 9 = .ok (.getfield 19, 3) := by decide +kernel
theorem dX10_clear_12 : decode cX10_clear 12 = .ok (.invokevirtual 103, 3) := by decide +kernel
theorem dX10_clear_15 : decode cX10_clear 15 = .ok (.iload_n 1, 1) := by decide +kernel
theorem dX10_clear_16 : decode cX10_clear 16 = .ok (.ireturn, 1) := by decide +kernel
def fX10_clear_0 (x0 : Nat) (w : eW) : Option (Int32 × eW) := (eGR w x0 10 1).bind fun v1 => eBind2 (fX2_size v1 w) fun v3 w2 => (eGR w2 x0 10 1).bind fun v4 => (fX2_empty v4 w2).bind fun w5 => some (v3, w5)
set_option maxRecDepth 20000 in
theorem sX10_clear_0  (x0 : Nat) (w : eW) (r : Int32 × eW) (h : fX10_clear_0 x0 w = some r) : eBN l D cI cZ 1 yX10_clear cX10_clear 2 (some .int) 0 [(0, .ref x0)] [] w (some (.int r.1)) r.2 := by
  rw [fX10_clear_0] at h
  intro p e s m args below meth c r0 A X
  refine ev_aload_n (pc := 0) X 0 dX10_clear_0 rfl rfl ?_
  obtain ⟨v1, hv1, h⟩ := eBi h
  refine ev_getR (pc := 1) X hcX10 (k := 1) (by decide) kfX10_19 dX10_clear_1 hv1 ?_
  obtain ⟨v3, w2, hc, h⟩ := eB2 h
  refine ev_callV_i (pc := 4) (As := []) (S := []) X hwX2_size klX10_99 hiX2_size hsX2_size (ci := 2) ⟨rfl, rfl⟩ ⟨Nat.le_of_ble_eq_true rfl, Nat.le_of_ble_eq_true rfl⟩ ⟨Nat.le_refl _, Nat.le_refl _⟩ rfl (Nat.le_of_ble_eq_true rfl) dX10_clear_4 rfl (mX2_size (l := l) (D := D) (cI := cI) (cZ := cZ) hc).1 (mX2_size hc).2 ?_
  refine ev_istore_n (pc := 7) (L' := [(1, .int v3), (0, .ref x0)]) X dX10_clear_7 rfl (by decide) rfl ?_
  refine ev_aload_n (pc := 8) X 1 dX10_clear_8 rfl rfl ?_
  obtain ⟨v4, hv4, h⟩ := eBi h
  refine ev_getR (pc := 9) X hcX10 (k := 1) (by decide) kfX10_19 dX10_clear_9 hv4 ?_
  obtain ⟨w5, hc, h⟩ := eBi h
  refine ev_callV_v (pc := 12) (As := []) (S := []) X hwX2_empty klX10_103 hiX2_empty hsX2_empty (ci := 2) ⟨rfl, rfl⟩ ⟨Nat.le_of_ble_eq_true rfl, Nat.le_of_ble_eq_true rfl⟩ ⟨Nat.le_refl _, Nat.le_refl _⟩ rfl (Nat.le_of_ble_eq_true rfl) dX10_clear_12 rfl (mX2_empty (l := l) (D := D) (cI := cI) (cZ := cZ) hc).1 (mX2_empty hc).2 ?_
  refine ev_iload_n (pc := 15) X 0 dX10_clear_15 rfl rfl ?_
  obtain rfl := Option.some.inj h
  exact ev_iret (pc := 16) X dX10_clear_16
def fX10_clear (a0 : Nat) (w : eW) : Option (Int32 × eW) := bif eO w a0 10 then fX10_clear_0 a0 w else none
theorem mX10_clear {a0 : Nat} {w : eW} {v : Int32} {w' : eW} (h : fX10_clear a0 w = some (v, w')) : eO w a0 10 = true ∧ eMN l D cI cZ 1 yX10_clear cX10_clear 2 (some .int) [.ref a0] w (some (.int v)) w' := by
  obtain ⟨h0, h⟩ := eBif h
  exact ⟨h0, eMN_of [(0, .ref a0)] (plainFor_of_name (by decide)) (fun _ => rfl) (fun _ => Nat.le_of_ble_eq_true rfl) (fun p e s m args below meth c r0 A X => ev_weak (pc := 0) [0] rfl (sX10_clear_0 _ _ _ h p e s m args below meth c r0 A X))⟩
theorem dX10_land_0 : decode cX10_land 0 = .ok (.aload_n 0, 1) := by decide +kernel
theorem dX10_land_1 : decode cX10_land 1 = .ok (.getfield 19, 3) := by decide +kernel
theorem dX10_land_4 : decode cX10_land 4 = .ok (.invokevirtual 106, 3) := by decide +kernel
theorem dX10_land_7 : decode cX10_land 7 = .ok (.istore_n 1, 1) := by decide +kernel
theorem dX10_land_8 : decode cX10_land 8 = .ok (.iload_n 1, 1) := by decide +kernel
theorem dX10_land_9 : decode cX10_land 9 = .ok (.ifCond .ge 5, 3) := by decide +kernel
theorem dX10_land_12 : decode cX10_land 12 = .ok (.iload_n 1, 1) := by decide +kernel
theorem dX10_land_13 : decode cX10_land 13 = .ok (.ireturn, 1) := by decide +kernel
theorem dX10_land_14 : decode cX10_land 14 = .ok (.aload_n 0, 1) := by decide +kernel
theorem dX10_land_15 : decode cX10_land 15 = .ok (.getfield 12, 3) := by decide +kernel
theorem dX10_land_18 : decode cX10_land 18 = .ok (.aload_n 0, 1) := by decide +kernel
theorem dX10_land_19 : decode cX10_land 19 = .ok (.getfield 19, 3) := by decide +kernel
theorem dX10_land_22 : decode cX10_land 22 = .ok (.invokevirtual 109, 3) := by decide +kernel
theorem dX10_land_25 : decode cX10_land 25 = .ok (.invokevirtual 113, 3) := by decide +kernel
theorem dX10_land_28 : decode cX10_land 28 = .ok (.aload_n 0, 1) := by decide +kernel
theorem dX10_land_29 : decode cX10_land 29 = .ok (.getfield 19, 3) := by decide +kernel
theorem dX10_land_32 : decode cX10_land 32 = .ok (.invokevirtual 103, 3) := by decide +kernel
theorem dX10_land_35 : decode cX10_land 35 = .ok (.aload_n 0, 1) := by decide +kernel
theorem dX10_land_36 : decode cX10_land 36 = .ok (.getfield 28, 3) := by decide +kernel
theorem dX10_land_39 : decode cX10_land 39 = .ok (.invokevirtual 116, 3) := by decide +kernel
theorem dX10_land_42 : decode cX10_land 42 = .ok (.aload_n 0, 1) := by decide +kernel
theorem dX10_land_43 : decode cX10_land 43 = .ok (.getfield 37, 3) := by decide +kernel
theorem dX10_land_46 : decode cX10_land 46 = .ok (.invokevirtual 119, 3) := by decide +kernel
theorem dX10_land_49 : decode cX10_land 49 = .ok (.aload_n 0, 1) := by decide +kernel
theorem dX10_land_50 : decode cX10_land 50 = .ok (.iconst 0, 1) := by decide +kernel
theorem dX10_land_51 : decode cX10_land 51 = .ok (.putfield 50, 3) := by decide +kernel
theorem dX10_land_54 : decode cX10_land 54 = .ok (.iload_n 1, 1) := by decide +kernel
theorem dX10_land_55 : decode cX10_land 55 = .ok (.ireturn, 1) := by decide +kernel
def fX10_land_0 (x0 : Nat) (w : eW) : Option (Int32 × eW) := (eGR w x0 10 1).bind fun v1 => eBind2 (fX2_read v1 w) fun v3 w2 => if 0 ≤ v3 then ((eGR w2 x0 10 0).bind fun v4 => (eGR w2 x0 10 1).bind fun v5 => eBind2 (fX2_told v5 w2) fun v7 w6 => (fX1_become v4 v7 w6).bind fun w8 => (eGR w8 x0 10 1).bind fun v9 => (fX2_empty v9 w8).bind fun w10 => (eGR w10 x0 10 2).bind fun v11 => (fX0_removeAll v11 w10).bind fun w12 => (eGR w12 x0 10 3).bind fun v13 => (fX4_forget v13 w12).bind fun w14 => (eP w14 x0 10 5 (.int (0 : Int32))).bind fun w15 => some (v3, w15)) else (some (v3, w2))
set_option maxRecDepth 20000 in
theorem sX10_land_0  (x0 : Nat) (w : eW) (r : Int32 × eW) (h : fX10_land_0 x0 w = some r) : eBN l D cI cZ 6 yX10_land cX10_land 2 (some .int) 0 [(0, .ref x0)] [] w (some (.int r.1)) r.2 := by
  rw [fX10_land_0] at h
  intro p e s m args below meth c r0 A X
  refine ev_aload_n (pc := 0) X 0 dX10_land_0 rfl rfl ?_
  obtain ⟨v1, hv1, h⟩ := eBi h
  refine ev_getR (pc := 1) X hcX10 (k := 1) (by decide) kfX10_19 dX10_land_1 hv1 ?_
  obtain ⟨v3, w2, hc, h⟩ := eB2 h
  refine ev_callV_i (pc := 4) (As := []) (S := []) X hwX2_read klX10_106 hiX2_read hsX2_read (ci := 2) ⟨rfl, rfl⟩ ⟨Nat.le_of_ble_eq_true rfl, Nat.le_of_ble_eq_true rfl⟩ ⟨Nat.le_refl _, Nat.le_refl _⟩ rfl (Nat.le_of_ble_eq_true rfl) dX10_land_4 rfl (mX2_read (l := l) (D := D) (cI := cI) (cZ := cZ) hc).1 (mX2_read hc).2 ?_
  refine ev_istore_n (pc := 7) (L' := [(1, .int v3), (0, .ref x0)]) X dX10_land_7 rfl (by decide) rfl ?_
  refine ev_iload_n (pc := 8) X 0 dX10_land_8 rfl rfl ?_
  refine ev_if_ge (pc := 9) X 14 dX10_land_9 rfl (fun hc => ?_) (fun hc => ?_)
  · rw [if_pos hc] at h
    refine ev_aload_n (pc := 14) X 1 dX10_land_14 rfl rfl ?_
    obtain ⟨v4, hv4, h⟩ := eBi h
    refine ev_getR (pc := 15) X hcX10 (k := 0) (by decide) kfX10_12 dX10_land_15 hv4 ?_
    refine ev_aload_n (pc := 18) X 1 dX10_land_18 rfl rfl ?_
    obtain ⟨v5, hv5, h⟩ := eBi h
    refine ev_getR (pc := 19) X hcX10 (k := 1) (by decide) kfX10_19 dX10_land_19 hv5 ?_
    obtain ⟨v7, w6, hc, h⟩ := eB2 h
    refine ev_callV_r (pc := 22) (As := []) (S := [.ref v4]) X hwX2_told klX10_109 hiX2_told hsX2_told (ci := 2) ⟨rfl, rfl⟩ ⟨Nat.le_of_ble_eq_true rfl, Nat.le_of_ble_eq_true rfl⟩ ⟨Nat.le_refl _, Nat.le_refl _⟩ rfl (Nat.le_of_ble_eq_true rfl) dX10_land_22 rfl (mX2_told (l := l) (D := D) (cI := cI) (cZ := cZ) hc).1 (mX2_told hc).2 ?_
    obtain ⟨w8, hc, h⟩ := eBi h
    refine ev_callV_v (pc := 25) (As := [.ref v7]) (S := []) X hwX1_become klX10_113 hiX1_become hsX1_become (ci := 1) ⟨rfl, rfl⟩ ⟨Nat.le_of_ble_eq_true rfl, Nat.le_of_ble_eq_true rfl⟩ ⟨Nat.le_refl _, Nat.le_refl _⟩ rfl (Nat.le_of_ble_eq_true rfl) dX10_land_25 rfl (mX1_become (l := l) (D := D) (cI := cI) (cZ := cZ) hc).1 (mX1_become hc).2 ?_
    refine ev_aload_n (pc := 28) X 1 dX10_land_28 rfl rfl ?_
    obtain ⟨v9, hv9, h⟩ := eBi h
    refine ev_getR (pc := 29) X hcX10 (k := 1) (by decide) kfX10_19 dX10_land_29 hv9 ?_
    obtain ⟨w10, hc, h⟩ := eBi h
    refine ev_callV_v (pc := 32) (As := []) (S := []) X hwX2_empty klX10_103 hiX2_empty hsX2_empty (ci := 2) ⟨rfl, rfl⟩ ⟨Nat.le_of_ble_eq_true rfl, Nat.le_of_ble_eq_true rfl⟩ ⟨Nat.le_refl _, Nat.le_refl _⟩ rfl (Nat.le_of_ble_eq_true rfl) dX10_land_32 rfl (mX2_empty (l := l) (D := D) (cI := cI) (cZ := cZ) hc).1 (mX2_empty hc).2 ?_
    refine ev_aload_n (pc := 35) X 1 dX10_land_35 rfl rfl ?_
    obtain ⟨v11, hv11, h⟩ := eBi h
    refine ev_getR (pc := 36) X hcX10 (k := 2) (by decide) kfX10_28 dX10_land_36 hv11 ?_
    obtain ⟨w12, hc, h⟩ := eBi h
    refine ev_callV_v (pc := 39) (As := []) (S := []) X hwX0_removeAll klX10_116 hiX0_removeAll hsX0_removeAll (ci := 0) ⟨rfl, rfl⟩ ⟨Nat.le_of_ble_eq_true rfl, Nat.le_of_ble_eq_true rfl⟩ ⟨Nat.le_refl _, Nat.le_refl _⟩ rfl (Nat.le_of_ble_eq_true rfl) dX10_land_39 rfl (mX0_removeAll (l := l) (D := D) (cI := cI) (cZ := cZ) hc).1 (mX0_removeAll hc).2 ?_
    refine ev_aload_n (pc := 42) X 1 dX10_land_42 rfl rfl ?_
    obtain ⟨v13, hv13, h⟩ := eBi h
    refine ev_getR (pc := 43) X hcX10 (k := 3) (by decide) kfX10_37 dX10_land_43 hv13 ?_
    obtain ⟨w14, hc, h⟩ := eBi h
    refine ev_callV_v (pc := 46) (As := []) (S := []) X hwX4_forget klX10_119 hiX4_forget hsX4_forget (ci := 4) ⟨rfl, rfl⟩ ⟨Nat.le_of_ble_eq_true rfl, Nat.le_of_ble_eq_true rfl⟩ ⟨Nat.le_refl _, Nat.le_refl _⟩ rfl (Nat.le_of_ble_eq_true rfl) dX10_land_46 rfl (mX4_forget (l := l) (D := D) (cI := cI) (cZ := cZ) hc).1 (mX4_forget hc).2 ?_
    refine ev_aload_n (pc := 49) X 1 dX10_land_49 rfl rfl ?_
    refine ev_iconst (pc := 50) (v := (0 : Int32)) X dX10_land_50 rfl ?_
    obtain ⟨w15, hw15, h⟩ := eBi h
    refine ev_putI (pc := 51) X hcX10 (k := 5) (by decide) kfX10_50 rfl rfl dX10_land_51 hw15 ?_
    refine ev_iload_n (pc := 54) X 0 dX10_land_54 rfl rfl ?_
    obtain rfl := Option.some.inj h
    exact ev_iret (pc := 55) X dX10_land_55
  · rw [if_neg hc] at h
    refine ev_iload_n (pc := 12) X 0 dX10_land_12 rfl rfl ?_
    obtain rfl := Option.some.inj h
    exact ev_iret (pc := 13) X dX10_land_13
def fX10_land (a0 : Nat) (w : eW) : Option (Int32 × eW) := bif eO w a0 10 then fX10_land_0 a0 w else none
theorem mX10_land {a0 : Nat} {w : eW} {v : Int32} {w' : eW} (h : fX10_land a0 w = some (v, w')) : eO w a0 10 = true ∧ eMN l D cI cZ 6 yX10_land cX10_land 2 (some .int) [.ref a0] w (some (.int v)) w' := by
  obtain ⟨h0, h⟩ := eBif h
  exact ⟨h0, eMN_of [(0, .ref a0)] (plainFor_of_name (by decide)) (fun _ => rfl) (fun _ => Nat.le_of_ble_eq_true rfl) (fun p e s m args below meth c r0 A X => ev_weak (pc := 0) [0] rfl (sX10_land_0 _ _ _ h p e s m args below meth c r0 A X))⟩
theorem dX10_height_0 : decode cX10_height 0 = .ok (.aload_n 0, 1) := by decide +kernel
theorem dX10_height_1 : decode cX10_height 1 = .ok (.getfield 12, 3) := by decide +kernel
theorem dX10_height_4 : decode cX10_height 4 = .ok (.iload_n 1, 1) := by decide +kernel
theorem dX10_height_5 : decode cX10_height 5 = .ok (.invokevirtual 122, 3) := by decide +kernel
theorem dX10_height_8 : decode cX10_height 8 = .ok (.ifCond .eq 14, 3) := by decide +kernel
theorem dX10_height_11 : decode cX10_height 11 = .ok (.aload_n 0, 1) := by decide +kernel
theorem dX10_height_12 : decode cX10_height 12 = .ok (.getfield 12, 3) := by decide +kernel
theorem dX10_height_15 : decode cX10_height 15 = .ok (.iload_n 1, 1) := by decide +kernel
theorem dX10_height_16 : decode cX10_height 16 = .ok (.invokevirtual 125, 3) := by decide +kernel
theorem dX10_height_19 : decode cX10_height 19 = .ok (.goto 4, 3) := by decide +kernel
theorem dX10_height_22 : decode cX10_height 22 = .ok (.iconst (-1), 1) := by decide +kernel
theorem dX10_height_23 : decode cX10_height 23 = .ok (.ireturn, 1) := by decide +kernel
def fX10_height_0 (x0 : Nat) (x1 : Int32) (w : eW) : Option (Int32 × eW) := (eGR w x0 10 0).bind fun v1 => eBind2 (fX1_hasCell v1 x1 w) fun v3 w2 => if v3 = 0 then (some ((-1 : Int32), w2)) else ((eGR w2 x0 10 0).bind fun v4 => eBind2 (fX1_heightAt v4 x1 w2) fun v6 w5 => some (v6, w5))
set_option maxRecDepth 20000 in
theorem sX10_height_0  (x0 : Nat) (x1 : Int32) (w : eW) (r : Int32 × eW) (h : fX10_height_0 x0 x1 w = some r) : eBN l D cI cZ 2 yX10_height cX10_height 2 (some .int) 0 [(0, .ref x0), (1, .int x1)] [] w (some (.int r.1)) r.2 := by
  rw [fX10_height_0] at h
  intro p e s m args below meth c r0 A X
  refine ev_aload_n (pc := 0) X 0 dX10_height_0 rfl rfl ?_
  obtain ⟨v1, hv1, h⟩ := eBi h
  refine ev_getR (pc := 1) X hcX10 (k := 0) (by decide) kfX10_12 dX10_height_1 hv1 ?_
  refine ev_iload_n (pc := 4) X 1 dX10_height_4 rfl rfl ?_
  obtain ⟨v3, w2, hc, h⟩ := eB2 h
  refine ev_callV_i (pc := 5) (As := [.int x1]) (S := []) X hwX1_hasCell klX10_122 hiX1_hasCell hsX1_hasCell (ci := 1) ⟨rfl, rfl⟩ ⟨Nat.le_of_ble_eq_true rfl, Nat.le_of_ble_eq_true rfl⟩ ⟨Nat.le_refl _, Nat.le_refl _⟩ rfl (Nat.le_of_ble_eq_true rfl) dX10_height_5 rfl (mX1_hasCell (l := l) (D := D) (cI := cI) (cZ := cZ) hc).1 (mX1_hasCell hc).2 ?_
  refine ev_if_eq (pc := 8) X 22 dX10_height_8 rfl (fun hc => ?_) (fun hc => ?_)
  · rw [if_pos hc] at h
    refine ev_iconst (pc := 22) (v := (-1 : Int32)) X dX10_height_22 rfl ?_
    obtain rfl := Option.some.inj h
    exact ev_iret (pc := 23) X dX10_height_23
  · rw [if_neg hc] at h
    refine ev_aload_n (pc := 11) X 0 dX10_height_11 rfl rfl ?_
    obtain ⟨v4, hv4, h⟩ := eBi h
    refine ev_getR (pc := 12) X hcX10 (k := 0) (by decide) kfX10_12 dX10_height_12 hv4 ?_
    refine ev_iload_n (pc := 15) X 1 dX10_height_15 rfl rfl ?_
    obtain ⟨v6, w5, hc, h⟩ := eB2 h
    refine ev_callV_i (pc := 16) (As := [.int x1]) (S := []) X hwX1_heightAt klX10_125 hiX1_heightAt hsX1_heightAt (ci := 1) ⟨rfl, rfl⟩ ⟨Nat.le_of_ble_eq_true rfl, Nat.le_of_ble_eq_true rfl⟩ ⟨Nat.le_refl _, Nat.le_refl _⟩ rfl (Nat.le_of_ble_eq_true rfl) dX10_height_16 rfl (mX1_heightAt (l := l) (D := D) (cI := cI) (cZ := cZ) hc).1 (mX1_heightAt hc).2 ?_
    refine ev_goto (pc := 19) X 23 dX10_height_19 rfl ?_
    obtain rfl := Option.some.inj h
    exact ev_iret (pc := 23) X dX10_height_23
def fX10_height (a0 : Nat) (a1 : Int32) (w : eW) : Option (Int32 × eW) := bif eO w a0 10 then fX10_height_0 a0 a1 w else none
theorem mX10_height {a0 : Nat} {a1 : Int32} {w : eW} {v : Int32} {w' : eW} (h : fX10_height a0 a1 w = some (v, w')) : eO w a0 10 = true ∧ eMN l D cI cZ 2 yX10_height cX10_height 2 (some .int) [.ref a0, .int a1] w (some (.int v)) w' := by
  obtain ⟨h0, h⟩ := eBif h
  exact ⟨h0, eMN_of [(0, .ref a0), (1, .int a1)] (plainFor_of_name (by decide)) (fun _ => rfl) (fun _ => Nat.le_of_ble_eq_true rfl) (fun p e s m args below meth c r0 A X => ev_weak (pc := 0) [0, 1] rfl (sX10_height_0 _ _ _ _ h p e s m args below meth c r0 A X))⟩
theorem dX10_town_0 : decode cX10_town 0 = .ok (.iload_n 1, 1) := by decide +kernel
theorem dX10_town_1 : decode cX10_town 1 = .ok (.ifCond .lt 25, 3) := by decide +kernel
theorem dX10_town_4 : decode cX10_town 4 = .ok (.iload_n 1, 1) := by decide +kernel
theorem dX10_town_5 : decode cX10_town 5 = .ok (.aload_n 0, 1) := by decide +kernel
theorem dX10_town_6 : decode cX10_town 6 = .ok (.getfield 12, 3) := by decide +kernel
theorem dX10_town_9 : decode cX10_town 9 = .ok (.invokevirtual 129, 3) := by decide +kernel
theorem dX10_town_12 : decode cX10_town 12 = .ok (.if_icmp .ge 14, 3) := by decide +kernel
theorem dX10_town_15 : decode cX10_town 15 = .ok (.aload_n 0, 1) := by decide +kernel
theorem dX10_town_16 : decode cX10_town 16 = .ok (.getfield 12, 3) := by decide +kernel
theorem dX10_town_19 : decode cX10_town 19 = .ok (.iload_n 1, 1) := by decide +kernel
theorem dX10_town_20 : decode cX10_town 20 = .ok (.invokevirtual 132, 3) := by decide +kernel
theorem dX10_town_23 : decode cX10_town 23 = .ok (.goto 4, 3) := by decide +kernel
theorem dX10_town_26 : decode cX10_town 26 = .ok (.iconst (-1), 1) := by decide +kernel
theorem dX10_town_27 : decode cX10_town 27 = .ok (.ireturn, 1) := by decide +kernel
def fX10_town_26  (w : eW) : Option (Int32 × eW) := some ((-1 : Int32), w)
set_option maxRecDepth 20000 in
theorem sX10_town_26   (w : eW) (r : Int32 × eW) (h : fX10_town_26  w = some r) : eBN l D cI cZ 2 yX10_town cX10_town 2 (some .int) 26 [] [] w (some (.int r.1)) r.2 := by
  rw [fX10_town_26] at h
  intro p e s m args below meth c r0 A X
  refine ev_iconst (pc := 26) (v := (-1 : Int32)) X dX10_town_26 rfl ?_
  obtain rfl := Option.some.inj h
  exact ev_iret (pc := 27) X dX10_town_27
def fX10_town_0 (x0 : Nat) (x1 : Int32) (w : eW) : Option (Int32 × eW) := if x1 < 0 then (fX10_town_26 w) else ((eGR w x0 10 0).bind fun v1 => eBind2 (fX1_towns v1 w) fun v3 w2 => if v3 ≤ x1 then (fX10_town_26 w2) else ((eGR w2 x0 10 0).bind fun v4 => eBind2 (fX1_townCell v4 x1 w2) fun v6 w5 => some (v6, w5)))
set_option maxRecDepth 20000 in
theorem sX10_town_0  (x0 : Nat) (x1 : Int32) (w : eW) (r : Int32 × eW) (h : fX10_town_0 x0 x1 w = some r) : eBN l D cI cZ 2 yX10_town cX10_town 2 (some .int) 0 [(0, .ref x0), (1, .int x1)] [] w (some (.int r.1)) r.2 := by
  rw [fX10_town_0] at h
  intro p e s m args below meth c r0 A X
  refine ev_iload_n (pc := 0) X 1 dX10_town_0 rfl rfl ?_
  refine ev_if_lt (pc := 1) X 26 dX10_town_1 rfl (fun hc => ?_) (fun hc => ?_)
  · rw [if_pos hc] at h
    exact ev_weak (pc := 26) [] rfl (sX10_town_26  _ _ h p e s m args below meth c r0 A X)
  · rw [if_neg hc] at h
    refine ev_iload_n (pc := 4) X 1 dX10_town_4 rfl rfl ?_
    refine ev_aload_n (pc := 5) X 0 dX10_town_5 rfl rfl ?_
    obtain ⟨v1, hv1, h⟩ := eBi h
    refine ev_getR (pc := 6) X hcX10 (k := 0) (by decide) kfX10_12 dX10_town_6 hv1 ?_
    obtain ⟨v3, w2, hc, h⟩ := eB2 h
    refine ev_callV_i (pc := 9) (As := []) (S := [.int x1]) X hwX1_towns klX10_129 hiX1_towns hsX1_towns (ci := 1) ⟨rfl, rfl⟩ ⟨Nat.le_of_ble_eq_true rfl, Nat.le_of_ble_eq_true rfl⟩ ⟨Nat.le_refl _, Nat.le_refl _⟩ rfl (Nat.le_of_ble_eq_true rfl) dX10_town_9 rfl (mX1_towns (l := l) (D := D) (cI := cI) (cZ := cZ) hc).1 (mX1_towns hc).2 ?_
    refine ev_icmp_ge (pc := 12) X 26 dX10_town_12 rfl (fun hc => ?_) (fun hc => ?_)
    · rw [if_pos hc] at h
      exact ev_weak (pc := 26) [] rfl (sX10_town_26  _ _ h p e s m args below meth c r0 A X)
    · rw [if_neg hc] at h
      refine ev_aload_n (pc := 15) X 0 dX10_town_15 rfl rfl ?_
      obtain ⟨v4, hv4, h⟩ := eBi h
      refine ev_getR (pc := 16) X hcX10 (k := 0) (by decide) kfX10_12 dX10_town_16 hv4 ?_
      refine ev_iload_n (pc := 19) X 1 dX10_town_19 rfl rfl ?_
      obtain ⟨v6, w5, hc, h⟩ := eB2 h
      refine ev_callV_i (pc := 20) (As := [.int x1]) (S := []) X hwX1_townCell klX10_132 hiX1_townCell hsX1_townCell (ci := 1) ⟨rfl, rfl⟩ ⟨Nat.le_of_ble_eq_true rfl, Nat.le_of_ble_eq_true rfl⟩ ⟨Nat.le_refl _, Nat.le_refl _⟩ rfl (Nat.le_of_ble_eq_true rfl) dX10_town_20 rfl (mX1_townCell (l := l) (D := D) (cI := cI) (cZ := cZ) hc).1 (mX1_townCell hc).2 ?_
      refine ev_goto (pc := 23) X 27 dX10_town_23 rfl ?_
      obtain rfl := Option.some.inj h
      exact ev_iret (pc := 27) X dX10_town_27
def fX10_town (a0 : Nat) (a1 : Int32) (w : eW) : Option (Int32 × eW) := bif eO w a0 10 then fX10_town_0 a0 a1 w else none
theorem mX10_town {a0 : Nat} {a1 : Int32} {w : eW} {v : Int32} {w' : eW} (h : fX10_town a0 a1 w = some (v, w')) : eO w a0 10 = true ∧ eMN l D cI cZ 2 yX10_town cX10_town 2 (some .int) [.ref a0, .int a1] w (some (.int v)) w' := by
  obtain ⟨h0, h⟩ := eBif h
  exact ⟨h0, eMN_of [(0, .ref a0), (1, .int a1)] (plainFor_of_name (by decide)) (fun _ => rfl) (fun _ => Nat.le_of_ble_eq_true rfl) (fun p e s m args below meth c r0 A X => ev_weak (pc := 0) [0, 1] rfl (sX10_town_0 _ _ _ _ h p e s m args below meth c r0 A X))⟩
theorem dX10_bolt_0 : decode cX10_bolt 0 = .ok (.aload_n 0, 1) := by decide +kernel
theorem dX10_bolt_1 : decode cX10_bolt 1 = .ok (.getfield 28, 3) := by decide +kernel
theorem dX10_bolt_4 : decode cX10_bolt 4 = .ok (.iload_n 1, 1) := by decide +kernel
theorem dX10_bolt_5 : decode cX10_bolt 5 = .ok (.invokevirtual 135, 3) := by decide +kernel
theorem dX10_bolt_8 : decode cX10_bolt 8 = .ok (.ifCond .ne 5, 3) := by decide +kernel
theorem dX10_bolt_11 : decode cX10_bolt 11 = .ok (.iconst (-1), 1) := by decide +kernel
theorem dX10_bolt_12 : decode cX10_bolt 12 = .ok (.ireturn, 1) := by decide +kernel
theorem dX10_bolt_13 : decode cX10_bolt 13 = .ok (.iload_n 2, 1) := by decide +kernel
theorem dX10_bolt_14 : decode cX10_bolt 14 = .ok (.tableswitch 66 0 3 #[30, 39, 48, 57], 30) := by decide +kernel
theorem dX10_bolt_44 : decode cX10_bolt 44 = .ok (.aload_n 0, 1) := by decide +kernel
theorem dX10_bolt_45 : decode cX10_bolt 45 = .ok (.getfield 28, 3) := by decide +kernel
theorem dX10_bolt_48 : decode cX10_bolt 48 = .ok (.iload_n 1, 1) := by decide +kernel
theorem dX10_bolt_49 : decode cX10_bolt 49 = .ok (.invokevirtual 138, 3) := by decide +kernel
theorem dX10_bolt_52 : decode cX10_bolt 52 = .ok (.ireturn, 1) := by decide +kernel
theorem dX10_bolt_53 : decode cX10_bolt 53 = .ok (.aload_n 0, 1) := by decide +kernel
theorem dX10_bolt_54 : decode cX10_bolt 54 = .ok (.getfield 28, 3) := by decide +kernel
theorem dX10_bolt_57 : decode cX10_bolt 57 = .ok (.iload_n 1, 1) := by decide +kernel
theorem dX10_bolt_58 : decode cX10_bolt 58 = .ok (.invokevirtual 141, 3) := by decide +kernel
theorem dX10_bolt_61 : decode cX10_bolt 61 = .ok (.ireturn, 1) := by decide +kernel
theorem dX10_bolt_62 : decode cX10_bolt 62 = .ok (.aload_n 0, 1) := by decide +kernel
theorem dX10_bolt_63 : decode cX10_bolt 63 = .ok (.getfield 28, 3) := by decide +kernel
theorem dX10_bolt_66 : decode cX10_bolt 66 = .ok (.iload_n 1, 1) := by decide +kernel
theorem dX10_bolt_67 : decode cX10_bolt 67 = .ok (.invokevirtual 144, 3) := by decide +kernel
theorem dX10_bolt_70 : decode cX10_bolt 70 = .ok (.ireturn, 1) := by decide +kernel
theorem dX10_bolt_71 : decode cX10_bolt 71 = .ok (.aload_n 0, 1) := by decide +kernel
theorem dX10_bolt_72 : decode cX10_bolt 72 = .ok (.getfield 28, 3) := by decide +kernel
theorem dX10_bolt_75 : decode cX10_bolt 75 = .ok (.iload_n 1, 1) := by decide +kernel
theorem dX10_bolt_76 : decode cX10_bolt 76 = .ok (.invokevirtual 147, 3) := by decide +kernel
theorem dX10_bolt_79 : decode cX10_bolt 79 = .ok (.ireturn, 1) := by decide +kernel
theorem dX10_bolt_80 : decode cX10_bolt 80 = .ok (.iconst (-1), 1) := by decide +kernel
theorem dX10_bolt_81 : decode cX10_bolt 81 = .ok (.ireturn, 1) := by decide +kernel
def fX10_bolt_0 (x0 : Nat) (x1 : Int32) (x2 : Int32) (w : eW) : Option (Int32 × eW) := (eGR w x0 10 2).bind fun v1 => eBind2 (fX0_has v1 x1 w) fun v3 w2 => if v3 = 0 then (some ((-1 : Int32), w2)) else (if x2 = (0 : Int32) then ((eGR w2 x0 10 2).bind fun v4 => eBind2 (fX0_firstCell v4 x1 w2) fun v6 w5 => some (v6, w5)) else (if x2 = (1 : Int32) then ((eGR w2 x0 10 2).bind fun v7 => eBind2 (fX0_lastCell v7 x1 w2) fun v9 w8 => some (v9, w8)) else (if x2 = (2 : Int32) then ((eGR w2 x0 10 2).bind fun v10 => eBind2 (fX0_length v10 x1 w2) fun v12 w11 => some (v12, w11)) else (if x2 = (3 : Int32) then ((eGR w2 x0 10 2).bind fun v13 => eBind2 (fX0_climb v13 x1 w2) fun v15 w14 => some (v15, w14)) else (some ((-1 : Int32), w2))))))
set_option maxRecDepth 20000 in
theorem sX10_bolt_0  (x0 : Nat) (x1 : Int32) (x2 : Int32) (w : eW) (r : Int32 × eW) (h : fX10_bolt_0 x0 x1 x2 w = some r) : eBN l D cI cZ 4 yX10_bolt cX10_bolt 3 (some .int) 0 [(0, .ref x0), (1, .int x1), (2, .int x2)] [] w (some (.int r.1)) r.2 := by
  rw [fX10_bolt_0] at h
  intro p e s m args below meth c r0 A X
  refine ev_aload_n (pc := 0) X 0 dX10_bolt_0 rfl rfl ?_
  obtain ⟨v1, hv1, h⟩ := eBi h
  refine ev_getR (pc := 1) X hcX10 (k := 2) (by decide) kfX10_28 dX10_bolt_1 hv1 ?_
  refine ev_iload_n (pc := 4) X 1 dX10_bolt_4 rfl rfl ?_
  obtain ⟨v3, w2, hc, h⟩ := eB2 h
  refine ev_callV_i (pc := 5) (As := [.int x1]) (S := []) X hwX0_has klX10_135 hiX0_has hsX0_has (ci := 0) ⟨rfl, rfl⟩ ⟨Nat.le_of_ble_eq_true rfl, Nat.le_of_ble_eq_true rfl⟩ ⟨Nat.le_refl _, Nat.le_refl _⟩ rfl (Nat.le_of_ble_eq_true rfl) dX10_bolt_5 rfl (mX0_has (l := l) (D := D) (cI := cI) (cZ := cZ) hc).1 (mX0_has hc).2 ?_
  refine ev_if_ne (pc := 8) X 13 dX10_bolt_8 rfl (fun hc => ?_) (fun hc => ?_)
  · rw [if_neg hc] at h
    refine ev_iload_n (pc := 13) X 2 dX10_bolt_13 rfl rfl ?_
    by_cases hq14_0 : x2 = (0 : Int32)
    · rw [if_pos hq14_0] at h
      refine ev_tableIn (pc := 14) X 44 dX10_bolt_14 (by rw [hq14_0]; decide) (by rw [hq14_0]; decide) (by rw [hq14_0]; rfl) rfl ?_
      refine ev_aload_n (pc := 44) X 0 dX10_bolt_44 rfl rfl ?_
      obtain ⟨v4, hv4, h⟩ := eBi h
      refine ev_getR (pc := 45) X hcX10 (k := 2) (by decide) kfX10_28 dX10_bolt_45 hv4 ?_
      refine ev_iload_n (pc := 48) X 1 dX10_bolt_48 rfl rfl ?_
      obtain ⟨v6, w5, hc, h⟩ := eB2 h
      refine ev_callV_i (pc := 49) (As := [.int x1]) (S := []) X hwX0_firstCell klX10_138 hiX0_firstCell hsX0_firstCell (ci := 0) ⟨rfl, rfl⟩ ⟨Nat.le_of_ble_eq_true rfl, Nat.le_of_ble_eq_true rfl⟩ ⟨Nat.le_refl _, Nat.le_refl _⟩ rfl (Nat.le_of_ble_eq_true rfl) dX10_bolt_49 rfl (mX0_firstCell (l := l) (D := D) (cI := cI) (cZ := cZ) hc).1 (mX0_firstCell hc).2 ?_
      obtain rfl := Option.some.inj h
      exact ev_iret (pc := 52) X dX10_bolt_52
    · rw [if_neg hq14_0] at h
      by_cases hq14_1 : x2 = (1 : Int32)
      · rw [if_pos hq14_1] at h
        refine ev_tableIn (pc := 14) X 53 dX10_bolt_14 (by rw [hq14_1]; decide) (by rw [hq14_1]; decide) (by rw [hq14_1]; rfl) rfl ?_
        refine ev_aload_n (pc := 53) X 0 dX10_bolt_53 rfl rfl ?_
        obtain ⟨v7, hv7, h⟩ := eBi h
        refine ev_getR (pc := 54) X hcX10 (k := 2) (by decide) kfX10_28 dX10_bolt_54 hv7 ?_
        refine ev_iload_n (pc := 57) X 1 dX10_bolt_57 rfl rfl ?_
        obtain ⟨v9, w8, hc, h⟩ := eB2 h
        refine ev_callV_i (pc := 58) (As := [.int x1]) (S := []) X hwX0_lastCell klX10_141 hiX0_lastCell hsX0_lastCell (ci := 0) ⟨rfl, rfl⟩ ⟨Nat.le_of_ble_eq_true rfl, Nat.le_of_ble_eq_true rfl⟩ ⟨Nat.le_refl _, Nat.le_refl _⟩ rfl (Nat.le_of_ble_eq_true rfl) dX10_bolt_58 rfl (mX0_lastCell (l := l) (D := D) (cI := cI) (cZ := cZ) hc).1 (mX0_lastCell hc).2 ?_
        obtain rfl := Option.some.inj h
        exact ev_iret (pc := 61) X dX10_bolt_61
      · rw [if_neg hq14_1] at h
        by_cases hq14_2 : x2 = (2 : Int32)
        · rw [if_pos hq14_2] at h
          refine ev_tableIn (pc := 14) X 62 dX10_bolt_14 (by rw [hq14_2]; decide) (by rw [hq14_2]; decide) (by rw [hq14_2]; rfl) rfl ?_
          refine ev_aload_n (pc := 62) X 0 dX10_bolt_62 rfl rfl ?_
          obtain ⟨v10, hv10, h⟩ := eBi h
          refine ev_getR (pc := 63) X hcX10 (k := 2) (by decide) kfX10_28 dX10_bolt_63 hv10 ?_
          refine ev_iload_n (pc := 66) X 1 dX10_bolt_66 rfl rfl ?_
          obtain ⟨v12, w11, hc, h⟩ := eB2 h
          refine ev_callV_i (pc := 67) (As := [.int x1]) (S := []) X hwX0_length klX10_144 hiX0_length hsX0_length (ci := 0) ⟨rfl, rfl⟩ ⟨Nat.le_of_ble_eq_true rfl, Nat.le_of_ble_eq_true rfl⟩ ⟨Nat.le_refl _, Nat.le_refl _⟩ rfl (Nat.le_of_ble_eq_true rfl) dX10_bolt_67 rfl (mX0_length (l := l) (D := D) (cI := cI) (cZ := cZ) hc).1 (mX0_length hc).2 ?_
          obtain rfl := Option.some.inj h
          exact ev_iret (pc := 70) X dX10_bolt_70
        · rw [if_neg hq14_2] at h
          by_cases hq14_3 : x2 = (3 : Int32)
          · rw [if_pos hq14_3] at h
            refine ev_tableIn (pc := 14) X 71 dX10_bolt_14 (by rw [hq14_3]; decide) (by rw [hq14_3]; decide) (by rw [hq14_3]; rfl) rfl ?_
            refine ev_aload_n (pc := 71) X 0 dX10_bolt_71 rfl rfl ?_
            obtain ⟨v13, hv13, h⟩ := eBi h
            refine ev_getR (pc := 72) X hcX10 (k := 2) (by decide) kfX10_28 dX10_bolt_72 hv13 ?_
            refine ev_iload_n (pc := 75) X 1 dX10_bolt_75 rfl rfl ?_
            obtain ⟨v15, w14, hc, h⟩ := eB2 h
            refine ev_callV_i (pc := 76) (As := [.int x1]) (S := []) X hwX0_climb klX10_147 hiX0_climb hsX0_climb (ci := 0) ⟨rfl, rfl⟩ ⟨Nat.le_of_ble_eq_true rfl, Nat.le_of_ble_eq_true rfl⟩ ⟨Nat.le_refl _, Nat.le_refl _⟩ rfl (Nat.le_of_ble_eq_true rfl) dX10_bolt_76 rfl (mX0_climb (l := l) (D := D) (cI := cI) (cZ := cZ) hc).1 (mX0_climb hc).2 ?_
            obtain rfl := Option.some.inj h
            exact ev_iret (pc := 79) X dX10_bolt_79
          · rw [if_neg hq14_3] at h
            refine ev_tableOut (pc := 14) X 80 dX10_bolt_14 (by have a0 := lv_neT hq14_0 (a := 0) (by decide); have a1 := lv_neT hq14_1 (a := 1) (by decide); have a2 := lv_neT hq14_2 (a := 2) (by decide); have a3 := lv_neT hq14_3 (a := 3) (by decide); omega) rfl ?_
            refine ev_iconst (pc := 80) (v := (-1 : Int32)) X dX10_bolt_80 rfl ?_
            obtain rfl := Option.some.inj h
            exact ev_iret (pc := 81) X dX10_bolt_81
  · rw [if_pos hc] at h
    refine ev_iconst (pc := 11) (v := (-1 : Int32)) X dX10_bolt_11 rfl ?_
    obtain rfl := Option.some.inj h
    exact ev_iret (pc := 12) X dX10_bolt_12
def fX10_bolt (a0 : Nat) (a1 : Int32) (a2 : Int32) (w : eW) : Option (Int32 × eW) := bif eO w a0 10 then fX10_bolt_0 a0 a1 a2 w else none
theorem mX10_bolt {a0 : Nat} {a1 : Int32} {a2 : Int32} {w : eW} {v : Int32} {w' : eW} (h : fX10_bolt a0 a1 a2 w = some (v, w')) : eO w a0 10 = true ∧ eMN l D cI cZ 4 yX10_bolt cX10_bolt 3 (some .int) [.ref a0, .int a1, .int a2] w (some (.int v)) w' := by
  obtain ⟨h0, h⟩ := eBif h
  exact ⟨h0, eMN_of [(0, .ref a0), (1, .int a1), (2, .int a2)] (plainFor_of_name (by decide)) (fun _ => rfl) (fun _ => Nat.le_of_ble_eq_true rfl) (fun p e s m args below meth c r0 A X => ev_weak (pc := 0) [0, 1, 2] rfl (sX10_bolt_0 _ _ _ _ _ h p e s m args below meth c r0 A X))⟩
theorem dX10_card_0 : decode cX10_card 0 = .ok (.aload_n 0, 1) := by decide +kernel
theorem dX10_card_1 : decode cX10_card 1 = .ok (.getfield 28, 3) := by decide +kernel
theorem dX10_card_4 : decode cX10_card 4 = .ok (.iload_n 1, 1) := by decide +kernel
theorem dX10_card_5 : decode cX10_card 5 = .ok (.invokevirtual 135, 3) := by decide +kernel
theorem dX10_card_8 : decode cX10_card 8 = .ok (.ifCond .eq 31, 3) := by decide +kernel
theorem dX10_card_11 : decode cX10_card 11 = .ok (.iload_n 2, 1) := by decide +kernel
theorem dX10_card_12 : decode cX10_card 12 = .ok (.ifCond .lt 27, 3) := by decide +kernel
theorem dX10_card_15 : decode cX10_card 15 = .ok (.iload_n 2, 1) := by decide +kernel
theorem dX10_card_16 : decode cX10_card 16 = .ok (.aload_n 0, 1) := by decide +kernel
theorem dX10_card_17 : decode cX10_card 17 = .ok (.getfield 28, 3) := by decide +kernel
theorem dX10_card_20 : decode cX10_card 20 = .ok (.iload_n 1, 1) := by decide +kernel
theorem dX10_card_21 : decode cX10_card 21 = .ok (.invokevirtual 144, 3) := by decide +kernel
theorem dX10_card_24 : decode cX10_card 24 = .ok (.if_icmp .ge 15, 3) := by decide +kernel
theorem dX10_card_27 : decode cX10_card 27 = .ok (.aload_n 0, 1) := by decide +kernel
theorem dX10_card_28 : decode cX10_card 28 = .ok (.getfield 28, 3) := by decide +kernel
theorem dX10_card_31 : decode cX10_card 31 = .ok (.iload_n 1, 1) := by decide +kernel
theorem dX10_card_32 : decode cX10_card 32 = .ok (.iload_n 2, 1) := by decide +kernel
theorem dX10_card_33 : decode cX10_card 33 = .ok (.invokevirtual 150, 3) := by decide +kernel
theorem dX10_card_36 : decode cX10_card 36 = .ok (.goto 4, 3) := by decide +kernel
theorem dX10_card_39 : decode cX10_card 39 = .ok (.iconst (-1), 1) := by decide +kernel
theorem dX10_card_40 : decode cX10_card 40 = .ok (.ireturn, 1) := by decide +kernel
def fX10_card_39  (w : eW) : Option (Int32 × eW) := some ((-1 : Int32), w)
set_option maxRecDepth 20000 in
theorem sX10_card_39   (w : eW) (r : Int32 × eW) (h : fX10_card_39  w = some r) : eBN l D cI cZ 3 yX10_card cX10_card 3 (some .int) 39 [] [] w (some (.int r.1)) r.2 := by
  rw [fX10_card_39] at h
  intro p e s m args below meth c r0 A X
  refine ev_iconst (pc := 39) (v := (-1 : Int32)) X dX10_card_39 rfl ?_
  obtain rfl := Option.some.inj h
  exact ev_iret (pc := 40) X dX10_card_40
def fX10_card_0 (x0 : Nat) (x1 : Int32) (x2 : Int32) (w : eW) : Option (Int32 × eW) := (eGR w x0 10 2).bind fun v1 => eBind2 (fX0_has v1 x1 w) fun v3 w2 => if v3 = 0 then (fX10_card_39 w2) else (if x2 < 0 then (fX10_card_39 w2) else ((eGR w2 x0 10 2).bind fun v4 => eBind2 (fX0_length v4 x1 w2) fun v6 w5 => if v6 ≤ x2 then (fX10_card_39 w5) else ((eGR w5 x0 10 2).bind fun v7 => eBind2 (fX0_cardAt v7 x1 x2 w5) fun v9 w8 => some (v9, w8))))
set_option maxRecDepth 20000 in
theorem sX10_card_0  (x0 : Nat) (x1 : Int32) (x2 : Int32) (w : eW) (r : Int32 × eW) (h : fX10_card_0 x0 x1 x2 w = some r) : eBN l D cI cZ 3 yX10_card cX10_card 3 (some .int) 0 [(0, .ref x0), (1, .int x1), (2, .int x2)] [] w (some (.int r.1)) r.2 := by
  rw [fX10_card_0] at h
  intro p e s m args below meth c r0 A X
  refine ev_aload_n (pc := 0) X 0 dX10_card_0 rfl rfl ?_
  obtain ⟨v1, hv1, h⟩ := eBi h
  refine ev_getR (pc := 1) X hcX10 (k := 2) (by decide) kfX10_28 dX10_card_1 hv1 ?_
  refine ev_iload_n (pc := 4) X 1 dX10_card_4 rfl rfl ?_
  obtain ⟨v3, w2, hc, h⟩ := eB2 h
  refine ev_callV_i (pc := 5) (As := [.int x1]) (S := []) X hwX0_has klX10_135 hiX0_has hsX0_has (ci := 0) ⟨rfl, rfl⟩ ⟨Nat.le_of_ble_eq_true rfl, Nat.le_of_ble_eq_true rfl⟩ ⟨Nat.le_refl _, Nat.le_refl _⟩ rfl (Nat.le_of_ble_eq_true rfl) dX10_card_5 rfl (mX0_has (l := l) (D := D) (cI := cI) (cZ := cZ) hc).1 (mX0_has hc).2 ?_
  refine ev_if_eq (pc := 8) X 39 dX10_card_8 rfl (fun hc => ?_) (fun hc => ?_)
  · rw [if_pos hc] at h
    exact ev_weak (pc := 39) [] rfl (sX10_card_39  _ _ h p e s m args below meth c r0 A X)
  · rw [if_neg hc] at h
    refine ev_iload_n (pc := 11) X 2 dX10_card_11 rfl rfl ?_
    refine ev_if_lt (pc := 12) X 39 dX10_card_12 rfl (fun hc => ?_) (fun hc => ?_)
    · rw [if_pos hc] at h
      exact ev_weak (pc := 39) [] rfl (sX10_card_39  _ _ h p e s m args below meth c r0 A X)
    · rw [if_neg hc] at h
      refine ev_iload_n (pc := 15) X 2 dX10_card_15 rfl rfl ?_
      refine ev_aload_n (pc := 16) X 0 dX10_card_16 rfl rfl ?_
      obtain ⟨v4, hv4, h⟩ := eBi h
      refine ev_getR (pc := 17) X hcX10 (k := 2) (by decide) kfX10_28 dX10_card_17 hv4 ?_
      refine ev_iload_n (pc := 20) X 1 dX10_card_20 rfl rfl ?_
      obtain ⟨v6, w5, hc, h⟩ := eB2 h
      refine ev_callV_i (pc := 21) (As := [.int x1]) (S := [.int x2]) X hwX0_length klX10_144 hiX0_length hsX0_length (ci := 0) ⟨rfl, rfl⟩ ⟨Nat.le_of_ble_eq_true rfl, Nat.le_of_ble_eq_true rfl⟩ ⟨Nat.le_refl _, Nat.le_refl _⟩ rfl (Nat.le_of_ble_eq_true rfl) dX10_card_21 rfl (mX0_length (l := l) (D := D) (cI := cI) (cZ := cZ) hc).1 (mX0_length hc).2 ?_
      refine ev_icmp_ge (pc := 24) X 39 dX10_card_24 rfl (fun hc => ?_) (fun hc => ?_)
      · rw [if_pos hc] at h
        exact ev_weak (pc := 39) [] rfl (sX10_card_39  _ _ h p e s m args below meth c r0 A X)
      · rw [if_neg hc] at h
        refine ev_aload_n (pc := 27) X 0 dX10_card_27 rfl rfl ?_
        obtain ⟨v7, hv7, h⟩ := eBi h
        refine ev_getR (pc := 28) X hcX10 (k := 2) (by decide) kfX10_28 dX10_card_28 hv7 ?_
        refine ev_iload_n (pc := 31) X 1 dX10_card_31 rfl rfl ?_
        refine ev_iload_n (pc := 32) X 2 dX10_card_32 rfl rfl ?_
        obtain ⟨v9, w8, hc, h⟩ := eB2 h
        refine ev_callV_i (pc := 33) (As := [.int x1, .int x2]) (S := []) X hwX0_cardAt klX10_150 hiX0_cardAt hsX0_cardAt (ci := 0) ⟨rfl, rfl⟩ ⟨Nat.le_of_ble_eq_true rfl, Nat.le_of_ble_eq_true rfl⟩ ⟨Nat.le_refl _, Nat.le_refl _⟩ rfl (Nat.le_of_ble_eq_true rfl) dX10_card_33 rfl (mX0_cardAt (l := l) (D := D) (cI := cI) (cZ := cZ) hc).1 (mX0_cardAt hc).2 ?_
        refine ev_goto (pc := 36) X 40 dX10_card_36 rfl ?_
        obtain rfl := Option.some.inj h
        exact ev_iret (pc := 40) X dX10_card_40
def fX10_card (a0 : Nat) (a1 : Int32) (a2 : Int32) (w : eW) : Option (Int32 × eW) := bif eO w a0 10 then fX10_card_0 a0 a1 a2 w else none
theorem mX10_card {a0 : Nat} {a1 : Int32} {a2 : Int32} {w : eW} {v : Int32} {w' : eW} (h : fX10_card a0 a1 a2 w = some (v, w')) : eO w a0 10 = true ∧ eMN l D cI cZ 3 yX10_card cX10_card 3 (some .int) [.ref a0, .int a1, .int a2] w (some (.int v)) w' := by
  obtain ⟨h0, h⟩ := eBif h
  exact ⟨h0, eMN_of [(0, .ref a0), (1, .int a1), (2, .int a2)] (plainFor_of_name (by decide)) (fun _ => rfl) (fun _ => Nat.le_of_ble_eq_true rfl) (fun p e s m args below meth c r0 A X => ev_weak (pc := 0) [0, 1, 2] rfl (sX10_card_0 _ _ _ _ _ h p e s m args below meth c r0 A X))⟩
theorem dX10_isCard_0 : decode cX10_isCard 0 = .ok (.iload_n 0, 1) := by decide +kernel
theorem dX10_isCard_1 : decode cX10_isCard 1 = .ok (.ifCond .lt 12, 3) := by decide +kernel
theorem dX10_isCard_4 : decode cX10_isCard 4 = .ok (.iload_n 0, 1) := by decide +kernel
theorem dX10_isCard_5 : decode cX10_isCard 5 = .ok (.iconst 4, 1) := by decide +kernel
theorem dX10_isCard_6 : decode cX10_isCard 6 = .ok (.if_icmp .ge 7, 3) := by decide +kernel
theorem dX10_isCard_9 : decode cX10_isCard 9 = .ok (.iconst 1, 1) := by decide +kernel
theorem dX10_isCard_10 : decode cX10_isCard 10 = .ok (.goto 4, 3) := by decide +kernel
theorem dX10_isCard_13 : decode cX10_isCard 13 = .ok (.iconst 0, 1) := by decide +kernel
theorem dX10_isCard_14 : decode cX10_isCard 14 = .ok (.ireturn, 1) := by decide +kernel
def fX10_isCard_13  (w : eW) : Option (Int32 × eW) := (eZ (0 : Int32)).bind fun v1 => some (v1, w)
set_option maxRecDepth 20000 in
theorem sX10_isCard_13   (w : eW) (r : Int32 × eW) (h : fX10_isCard_13  w = some r) : eBN l D cI cZ 0 yX10_isCard cX10_isCard 1 (some .boolean) 13 [] [] w (some (.int r.1)) r.2 := by
  rw [fX10_isCard_13] at h
  intro p e s m args below meth c r0 A X
  refine ev_iconst (pc := 13) (v := (0 : Int32)) X dX10_isCard_13 rfl ?_
  obtain ⟨v1, hv1, h⟩ := eBi h
  obtain rfl := Option.some.inj h
  exact ev_zret (pc := 14) X dX10_isCard_14 hv1
def fX10_isCard_0 (x0 : Int32) (w : eW) : Option (Int32 × eW) := if x0 < 0 then (fX10_isCard_13 w) else (if (4 : Int32) ≤ x0 then (fX10_isCard_13 w) else ((eZ (1 : Int32)).bind fun v1 => some (v1, w)))
set_option maxRecDepth 20000 in
theorem sX10_isCard_0  (x0 : Int32) (w : eW) (r : Int32 × eW) (h : fX10_isCard_0 x0 w = some r) : eBN l D cI cZ 0 yX10_isCard cX10_isCard 1 (some .boolean) 0 [(0, .int x0)] [] w (some (.int r.1)) r.2 := by
  rw [fX10_isCard_0] at h
  intro p e s m args below meth c r0 A X
  refine ev_iload_n (pc := 0) X 0 dX10_isCard_0 rfl rfl ?_
  refine ev_if_lt (pc := 1) X 13 dX10_isCard_1 rfl (fun hc => ?_) (fun hc => ?_)
  · rw [if_pos hc] at h
    exact ev_weak (pc := 13) [] rfl (sX10_isCard_13  _ _ h p e s m args below meth c r0 A X)
  · rw [if_neg hc] at h
    refine ev_iload_n (pc := 4) X 0 dX10_isCard_4 rfl rfl ?_
    refine ev_iconst (pc := 5) (v := (4 : Int32)) X dX10_isCard_5 rfl ?_
    refine ev_icmp_ge (pc := 6) X 13 dX10_isCard_6 rfl (fun hc => ?_) (fun hc => ?_)
    · rw [if_pos hc] at h
      exact ev_weak (pc := 13) [] rfl (sX10_isCard_13  _ _ h p e s m args below meth c r0 A X)
    · rw [if_neg hc] at h
      refine ev_iconst (pc := 9) (v := (1 : Int32)) X dX10_isCard_9 rfl ?_
      refine ev_goto (pc := 10) X 14 dX10_isCard_10 rfl ?_
      obtain ⟨v1, hv1, h⟩ := eBi h
      obtain rfl := Option.some.inj h
      exact ev_zret (pc := 14) X dX10_isCard_14 hv1
def fX10_isCard (a0 : Int32) (w : eW) : Option (Int32 × eW) := fX10_isCard_0 a0 w
theorem mX10_isCard {a0 : Int32} {w : eW} {v : Int32} {w' : eW} (h : fX10_isCard a0 w = some (v, w')) : eMN l D cI cZ 0 yX10_isCard cX10_isCard 1 (some .boolean) [.int a0] w (some (.int v)) w' :=
  eMN_of [(0, .int a0)] (plainFor_of_name (by decide)) (fun _ => rfl) (fun _ => Nat.le_of_ble_eq_true rfl) (fun p e s m args below meth c r0 A X => ev_weak (pc := 0) [0] rfl (sX10_isCard_0 _ _ _ h p e s m args below meth c r0 A X))
theorem dX10_road_0 : decode cX10_road 0 = .ok (.aload_n 0, 1) := by decide +kernel
theorem dX10_road_1 : decode cX10_road 1 = .ok (.getfield 12, 3) := by decide +kernel
theorem dX10_road_4 : decode cX10_road 4 = .ok (.iload_n 1, 1) := by decide +kernel
theorem dX10_road_5 : decode cX10_road 5 = .ok (.invokevirtual 122, 3) := by decide +kernel
theorem dX10_road_8 : decode cX10_road 8 = .ok (.ifCond .eq 10, 3) := by decide +kernel
theorem dX10_road_11 : decode cX10_road 11 = .ok (.iload_n 2, 1) := by decide +kernel
theorem dX10_road_12 : decode cX10_road 12 = .ok (.invokestatic 154, 3) := by decide +kernel
theorem dX10_road_15 : decode cX10_road 15 = .ok (.ifCond .ne 5, 3) := by decide +kernel
theorem dX10_road_18 : decode cX10_road 18 = .ok (.iconst (-1), 1) := by decide +kernel
theorem dX10_road_19 : decode cX10_road 19 = .ok (.ireturn, 1) := by decide +kernel
theorem dX10_road_20 : decode cX10_road 20 = .ok (.aload_n 0, 1) := by decide +kernel
theorem dX10_road_21 : decode cX10_road 21 = .ok (.getfield 57, 3) := by decide +kernel
theorem dX10_road_24 : decode cX10_road 24 = .ok (.aload_n 0, 1) := by decide +kernel
theorem dX10_road_25 : decode cX10_road 25 = .ok (.getfield 28, 3) := by decide +kernel
theorem dX10_road_28 : decode cX10_road 28 = .ok (.invokevirtual 157, 3) := by decide +kernel
theorem dX10_road_31 : decode cX10_road 31 = .ok (.aload_n 0, 1) := by decide +kernel
theorem dX10_road_32 : decode cX10_road 32 = .ok (.getfield 57, 3) := by decide +kernel
theorem dX10_road_35 : decode cX10_road 35 = .ok (.iload_n 1, 1) := by decide +kernel
theorem dX10_road_36 : decode cX10_road 36 = .ok (.iload_n 2, 1) := by decide +kernel
theorem dX10_road_37 : decode cX10_road 37 = .ok (.invokevirtual 160, 3) := by decide +kernel
theorem dX10_road_40 : decode cX10_road 40 = .ok (.ifCond .eq 7, 3) := by decide +kernel
theorem dX10_road_43 : decode cX10_road 43 = .ok (.iconst 1, 1) := by decide +kernel
theorem dX10_road_44 : decode cX10_road 44 = .ok (.goto 4, 3) := by decide +kernel
theorem dX10_road_47 : decode cX10_road 47 = .ok (.iconst 0, 1) := by decide +kernel
theorem dX10_road_48 : decode cX10_road 48 = .ok (.ireturn, 1) := by decide +kernel
def fX10_road_0 (x0 : Nat) (x1 : Int32) (x2 : Int32) (w : eW) : Option (Int32 × eW) := (eGR w x0 10 0).bind fun v1 => eBind2 (fX1_hasCell v1 x1 w) fun v3 w2 => if v3 = 0 then (some ((-1 : Int32), w2)) else (eBind2 (fX10_isCard x2 w2) fun v5 w4 => if v5 = 0 then (some ((-1 : Int32), w4)) else ((eGR w4 x0 10 6).bind fun v6 => (eGR w4 x0 10 2).bind fun v7 => (fX6_lay v6 v7 w4).bind fun w8 => (eGR w8 x0 10 6).bind fun v9 => eBind2 (fX6_goes v9 x1 x2 w8) fun v11 w10 => if v11 = 0 then (some ((0 : Int32), w10)) else (some ((1 : Int32), w10))))
set_option maxRecDepth 20000 in
theorem sX10_road_0  (x0 : Nat) (x1 : Int32) (x2 : Int32) (w : eW) (r : Int32 × eW) (h : fX10_road_0 x0 x1 x2 w = some r) : eBN l D cI cZ 3 yX10_road cX10_road 3 (some .int) 0 [(0, .ref x0), (1, .int x1), (2, .int x2)] [] w (some (.int r.1)) r.2 := by
  rw [fX10_road_0] at h
  intro p e s m args below meth c r0 A X
  refine ev_aload_n (pc := 0) X 0 dX10_road_0 rfl rfl ?_
  obtain ⟨v1, hv1, h⟩ := eBi h
  refine ev_getR (pc := 1) X hcX10 (k := 0) (by decide) kfX10_12 dX10_road_1 hv1 ?_
  refine ev_iload_n (pc := 4) X 1 dX10_road_4 rfl rfl ?_
  obtain ⟨v3, w2, hc, h⟩ := eB2 h
  refine ev_callV_i (pc := 5) (As := [.int x1]) (S := []) X hwX1_hasCell klX10_122 hiX1_hasCell hsX1_hasCell (ci := 1) ⟨rfl, rfl⟩ ⟨Nat.le_of_ble_eq_true rfl, Nat.le_of_ble_eq_true rfl⟩ ⟨Nat.le_refl _, Nat.le_refl _⟩ rfl (Nat.le_of_ble_eq_true rfl) dX10_road_5 rfl (mX1_hasCell (l := l) (D := D) (cI := cI) (cZ := cZ) hc).1 (mX1_hasCell hc).2 ?_
  refine ev_if_eq (pc := 8) X 18 dX10_road_8 rfl (fun hc => ?_) (fun hc => ?_)
  · rw [if_pos hc] at h
    refine ev_iconst (pc := 18) (v := (-1 : Int32)) X dX10_road_18 rfl ?_
    obtain rfl := Option.some.inj h
    exact ev_iret (pc := 19) X dX10_road_19
  · rw [if_neg hc] at h
    refine ev_iload_n (pc := 11) X 2 dX10_road_11 rfl rfl ?_
    obtain ⟨v5, w4, hc, h⟩ := eB2 h
    refine ev_callS_i (pc := 12) (As := [.int x2]) (S := []) X hwX10_isCard klX10_154 htX10_isCard ⟨Nat.le_of_ble_eq_true rfl, Nat.le_of_ble_eq_true rfl⟩ ⟨Nat.le_refl _, Nat.le_refl _⟩ rfl (Nat.le_of_ble_eq_true rfl) dX10_road_12 rfl (mX10_isCard hc) ?_
    refine ev_if_ne (pc := 15) X 20 dX10_road_15 rfl (fun hc => ?_) (fun hc => ?_)
    · rw [if_neg hc] at h
      refine ev_aload_n (pc := 20) X 0 dX10_road_20 rfl rfl ?_
      obtain ⟨v6, hv6, h⟩ := eBi h
      refine ev_getR (pc := 21) X hcX10 (k := 6) (by decide) kfX10_57 dX10_road_21 hv6 ?_
      refine ev_aload_n (pc := 24) X 0 dX10_road_24 rfl rfl ?_
      obtain ⟨v7, hv7, h⟩ := eBi h
      refine ev_getR (pc := 25) X hcX10 (k := 2) (by decide) kfX10_28 dX10_road_25 hv7 ?_
      obtain ⟨w8, hc, h⟩ := eBi h
      refine ev_callV_v (pc := 28) (As := [.ref v7]) (S := []) X hwX6_lay klX10_157 hiX6_lay hsX6_lay (ci := 6) ⟨rfl, rfl⟩ ⟨Nat.le_of_ble_eq_true rfl, Nat.le_of_ble_eq_true rfl⟩ ⟨Nat.le_refl _, Nat.le_refl _⟩ rfl (Nat.le_of_ble_eq_true rfl) dX10_road_28 rfl (mX6_lay (l := l) (D := D) (cI := cI) (cZ := cZ) hc).1 (mX6_lay hc).2 ?_
      refine ev_aload_n (pc := 31) X 0 dX10_road_31 rfl rfl ?_
      obtain ⟨v9, hv9, h⟩ := eBi h
      refine ev_getR (pc := 32) X hcX10 (k := 6) (by decide) kfX10_57 dX10_road_32 hv9 ?_
      refine ev_iload_n (pc := 35) X 1 dX10_road_35 rfl rfl ?_
      refine ev_iload_n (pc := 36) X 2 dX10_road_36 rfl rfl ?_
      obtain ⟨v11, w10, hc, h⟩ := eB2 h
      refine ev_callV_i (pc := 37) (As := [.int x1, .int x2]) (S := []) X hwX6_goes klX10_160 hiX6_goes hsX6_goes (ci := 6) ⟨rfl, rfl⟩ ⟨Nat.le_of_ble_eq_true rfl, Nat.le_of_ble_eq_true rfl⟩ ⟨Nat.le_refl _, Nat.le_refl _⟩ rfl (Nat.le_of_ble_eq_true rfl) dX10_road_37 rfl (mX6_goes (l := l) (D := D) (cI := cI) (cZ := cZ) hc).1 (mX6_goes hc).2 ?_
      refine ev_if_eq (pc := 40) X 47 dX10_road_40 rfl (fun hc => ?_) (fun hc => ?_)
      · rw [if_pos hc] at h
        refine ev_iconst (pc := 47) (v := (0 : Int32)) X dX10_road_47 rfl ?_
        obtain rfl := Option.some.inj h
        exact ev_iret (pc := 48) X dX10_road_48
      · rw [if_neg hc] at h
        refine ev_iconst (pc := 43) (v := (1 : Int32)) X dX10_road_43 rfl ?_
        refine ev_goto (pc := 44) X 48 dX10_road_44 rfl ?_
        obtain rfl := Option.some.inj h
        exact ev_iret (pc := 48) X dX10_road_48
    · rw [if_pos hc] at h
      refine ev_iconst (pc := 18) (v := (-1 : Int32)) X dX10_road_18 rfl ?_
      obtain rfl := Option.some.inj h
      exact ev_iret (pc := 19) X dX10_road_19
def fX10_road (a0 : Nat) (a1 : Int32) (a2 : Int32) (w : eW) : Option (Int32 × eW) := bif eO w a0 10 then fX10_road_0 a0 a1 a2 w else none
theorem mX10_road {a0 : Nat} {a1 : Int32} {a2 : Int32} {w : eW} {v : Int32} {w' : eW} (h : fX10_road a0 a1 a2 w = some (v, w')) : eO w a0 10 = true ∧ eMN l D cI cZ 3 yX10_road cX10_road 3 (some .int) [.ref a0, .int a1, .int a2] w (some (.int v)) w' := by
  obtain ⟨h0, h⟩ := eBif h
  exact ⟨h0, eMN_of [(0, .ref a0), (1, .int a1), (2, .int a2)] (plainFor_of_name (by decide)) (fun _ => rfl) (fun _ => Nat.le_of_ble_eq_true rfl) (fun p e s m args below meth c r0 A X => ev_weak (pc := 0) [0, 1, 2] rfl (sX10_road_0 _ _ _ _ _ h p e s m args below meth c r0 A X))⟩
theorem dX10_now_0 : decode cX10_now 0 = .ok (.aload_n 0, 1) := by decide +kernel
theorem dX10_now_1 : decode cX10_now 1 = .ok (.getfield 57, 3) := by decide +kernel
theorem dX10_now_4 : decode cX10_now 4 = .ok (.aload_n 0, 1) := by decide +kernel
theorem dX10_now_5 : decode cX10_now 5 = .ok (.getfield 28, 3) := by decide +kernel
theorem dX10_now_8 : decode cX10_now 8 = .ok (.invokevirtual 157, 3) := by decide +kernel
theorem dX10_now_11 : decode cX10_now 11 = .ok (.iload_n 1, 1) := by decide +kernel
theorem dX10_now_12 : decode cX10_now 12 = .ok (.tableswitch 100 0 6 #[44, 52, 60, 68, 76, 84, 92], 44) := by decide +kernel
theorem dX10_now_56 : decode cX10_now 56 = .ok (.aload_n 0, 1) := by decide +kernel
theorem dX10_now_57 : decode cX10_now 57 = .ok (.getfield 28, 3) := by decide +kernel
theorem dX10_now_60 : decode cX10_now 60 = .ok (.invokevirtual 164, 3) := by decide +kernel
theorem dX10_now_63 : decode cX10_now 63 = .ok (.ireturn, 1) := by decide +kernel
theorem dX10_now_64 : decode cX10_now 64 = .ok (.aload_n 0, 1) := by decide +kernel
theorem dX10_now_65 : decode cX10_now 65 = .ok (.getfield 28, 3) := by decide +kernel
theorem dX10_now_68 : decode cX10_now 68 = .ok (.invokevirtual 165, 3) := by decide +kernel
theorem dX10_now_71 : decode cX10_now 71 = .ok (.ireturn, 1) := by decide +kernel
theorem dX10_now_72 : decode cX10_now 72 = .ok (.aload_n 0, 1) := by decide +kernel
theorem dX10_now_73 : decode cX10_now 73 = .ok (.getfield 57, 3) := by decide +kernel
theorem dX10_now_76 : decode cX10_now 76 = .ok (.invokevirtual 168, 3) := by decide +kernel
theorem dX10_now_79 : decode cX10_now 79 = .ok (.ireturn, 1) := by decide +kernel
theorem dX10_now_80 : decode cX10_now 80 = .ok (.aload_n 0, 1) := by decide +kernel
theorem dX10_now_81 : decode cX10_now 81 = .ok (.getfield 28, 3) := by decide +kernel
theorem dX10_now_84 : decode cX10_now 84 = .ok (.invokevirtual 171, 3) := by decide +kernel
theorem dX10_now_87 : decode cX10_now 87 = .ok (.ireturn, 1) := by decide +kernel
theorem dX10_now_88 : decode cX10_now 88 = .ok (.aload_n 0, 1) := by decide +kernel
theorem dX10_now_89 : decode cX10_now 89 = .ok (.getfield 57, 3) := by decide +kernel
theorem dX10_now_92 : decode cX10_now 92 = .ok (.invokevirtual 174, 3) := by decide +kernel
theorem dX10_now_95 : decode cX10_now 95 = .ok (.ireturn, 1) := by decide +kernel
theorem dX10_now_96 : decode cX10_now 96 = .ok (.aload_n 0, 1) := by decide +kernel
theorem dX10_now_97 : decode cX10_now 97 = .ok (.getfield 75, 3) := by decide +kernel
theorem dX10_now_100 : decode cX10_now 100 = .ok (.invokevirtual 177, 3) := by decide +kernel
theorem dX10_now_103 : decode cX10_now 103 = .ok (.ireturn, 1) := by decide +kernel
theorem dX10_now_104 : decode cX10_now 104 = .ok (.aload_n 0, 1) := by decide +kernel
theorem dX10_now_105 : decode cX10_now 105 = .ok (.getfield 37, 3) := by decide +kernel
theorem dX10_now_108 : decode cX10_now 108 = .ok (.invokevirtual 180, 3) := by decide +kernel
theorem dX10_now_111 : decode cX10_now 111 = .ok (.ireturn, 1) := by decide +kernel
theorem dX10_now_112 : decode cX10_now 112 = .ok (.iconst (-1), 1) := by decide +kernel
theorem dX10_now_113 : decode cX10_now 113 = .ok (.ireturn, 1) := by decide +kernel
def fX10_now_0 (x0 : Nat) (x1 : Int32) (w : eW) : Option (Int32 × eW) := (eGR w x0 10 6).bind fun v1 => (eGR w x0 10 2).bind fun v2 => (fX6_lay v1 v2 w).bind fun w3 => if x1 = (0 : Int32) then ((eGR w3 x0 10 2).bind fun v4 => eBind2 (fX0_size v4 w3) fun v6 w5 => some (v6, w5)) else (if x1 = (1 : Int32) then ((eGR w3 x0 10 2).bind fun v7 => eBind2 (fX0_ells v7 w3) fun v9 w8 => some (v9, w8)) else (if x1 = (2 : Int32) then ((eGR w3 x0 10 6).bind fun v10 => eBind2 (fX6_pieces v10 w3) fun v12 w11 => some (v12, w11)) else (if x1 = (3 : Int32) then ((eGR w3 x0 10 2).bind fun v13 => eBind2 (fX0_toNowhere v13 w3) fun v15 w14 => some (v15, w14)) else (if x1 = (4 : Int32) then ((eGR w3 x0 10 6).bind fun v16 => eBind2 (fX6_steepest v16 w3) fun v18 w17 => some (v18, w17)) else (if x1 = (5 : Int32) then ((eGR w3 x0 10 8).bind fun v19 => eBind2 (fX9_leastSlope v19 w3) fun v21 w20 => some (v21, w20)) else (if x1 = (6 : Int32) then ((eGR w3 x0 10 3).bind fun v22 => eBind2 (fX4_known v22 w3) fun v24 w23 => some (v24, w23)) else (some ((-1 : Int32), w3))))))))
set_option maxRecDepth 20000 in
theorem sX10_now_0  (x0 : Nat) (x1 : Int32) (w : eW) (r : Int32 × eW) (h : fX10_now_0 x0 x1 w = some r) : eBN l D cI cZ 5 yX10_now cX10_now 2 (some .int) 0 [(0, .ref x0), (1, .int x1)] [] w (some (.int r.1)) r.2 := by
  rw [fX10_now_0] at h
  intro p e s m args below meth c r0 A X
  refine ev_aload_n (pc := 0) X 0 dX10_now_0 rfl rfl ?_
  obtain ⟨v1, hv1, h⟩ := eBi h
  refine ev_getR (pc := 1) X hcX10 (k := 6) (by decide) kfX10_57 dX10_now_1 hv1 ?_
  refine ev_aload_n (pc := 4) X 0 dX10_now_4 rfl rfl ?_
  obtain ⟨v2, hv2, h⟩ := eBi h
  refine ev_getR (pc := 5) X hcX10 (k := 2) (by decide) kfX10_28 dX10_now_5 hv2 ?_
  obtain ⟨w3, hc, h⟩ := eBi h
  refine ev_callV_v (pc := 8) (As := [.ref v2]) (S := []) X hwX6_lay klX10_157 hiX6_lay hsX6_lay (ci := 6) ⟨rfl, rfl⟩ ⟨Nat.le_of_ble_eq_true rfl, Nat.le_of_ble_eq_true rfl⟩ ⟨Nat.le_refl _, Nat.le_refl _⟩ rfl (Nat.le_of_ble_eq_true rfl) dX10_now_8 rfl (mX6_lay (l := l) (D := D) (cI := cI) (cZ := cZ) hc).1 (mX6_lay hc).2 ?_
  refine ev_iload_n (pc := 11) X 1 dX10_now_11 rfl rfl ?_
  by_cases hq12_0 : x1 = (0 : Int32)
  · rw [if_pos hq12_0] at h
    refine ev_tableIn (pc := 12) X 56 dX10_now_12 (by rw [hq12_0]; decide) (by rw [hq12_0]; decide) (by rw [hq12_0]; rfl) rfl ?_
    refine ev_aload_n (pc := 56) X 0 dX10_now_56 rfl rfl ?_
    obtain ⟨v4, hv4, h⟩ := eBi h
    refine ev_getR (pc := 57) X hcX10 (k := 2) (by decide) kfX10_28 dX10_now_57 hv4 ?_
    obtain ⟨v6, w5, hc, h⟩ := eB2 h
    refine ev_callV_i (pc := 60) (As := []) (S := []) X hwX0_size klX10_164 hiX0_size hsX0_size (ci := 0) ⟨rfl, rfl⟩ ⟨Nat.le_of_ble_eq_true rfl, Nat.le_of_ble_eq_true rfl⟩ ⟨Nat.le_refl _, Nat.le_refl _⟩ rfl (Nat.le_of_ble_eq_true rfl) dX10_now_60 rfl (mX0_size (l := l) (D := D) (cI := cI) (cZ := cZ) hc).1 (mX0_size hc).2 ?_
    obtain rfl := Option.some.inj h
    exact ev_iret (pc := 63) X dX10_now_63
  · rw [if_neg hq12_0] at h
    by_cases hq12_1 : x1 = (1 : Int32)
    · rw [if_pos hq12_1] at h
      refine ev_tableIn (pc := 12) X 64 dX10_now_12 (by rw [hq12_1]; decide) (by rw [hq12_1]; decide) (by rw [hq12_1]; rfl) rfl ?_
      refine ev_aload_n (pc := 64) X 0 dX10_now_64 rfl rfl ?_
      obtain ⟨v7, hv7, h⟩ := eBi h
      refine ev_getR (pc := 65) X hcX10 (k := 2) (by decide) kfX10_28 dX10_now_65 hv7 ?_
      obtain ⟨v9, w8, hc, h⟩ := eB2 h
      refine ev_callV_i (pc := 68) (As := []) (S := []) X hwX0_ells klX10_165 hiX0_ells hsX0_ells (ci := 0) ⟨rfl, rfl⟩ ⟨Nat.le_of_ble_eq_true rfl, Nat.le_of_ble_eq_true rfl⟩ ⟨Nat.le_refl _, Nat.le_refl _⟩ rfl (Nat.le_of_ble_eq_true rfl) dX10_now_68 rfl (mX0_ells (l := l) (D := D) (cI := cI) (cZ := cZ) hc).1 (mX0_ells hc).2 ?_
      obtain rfl := Option.some.inj h
      exact ev_iret (pc := 71) X dX10_now_71
    · rw [if_neg hq12_1] at h
      by_cases hq12_2 : x1 = (2 : Int32)
      · rw [if_pos hq12_2] at h
        refine ev_tableIn (pc := 12) X 72 dX10_now_12 (by rw [hq12_2]; decide) (by rw [hq12_2]; decide) (by rw [hq12_2]; rfl) rfl ?_
        refine ev_aload_n (pc := 72) X 0 dX10_now_72 rfl rfl ?_
        obtain ⟨v10, hv10, h⟩ := eBi h
        refine ev_getR (pc := 73) X hcX10 (k := 6) (by decide) kfX10_57 dX10_now_73 hv10 ?_
        obtain ⟨v12, w11, hc, h⟩ := eB2 h
        refine ev_callV_i (pc := 76) (As := []) (S := []) X hwX6_pieces klX10_168 hiX6_pieces hsX6_pieces (ci := 6) ⟨rfl, rfl⟩ ⟨Nat.le_of_ble_eq_true rfl, Nat.le_of_ble_eq_true rfl⟩ ⟨Nat.le_refl _, Nat.le_refl _⟩ rfl (Nat.le_of_ble_eq_true rfl) dX10_now_76 rfl (mX6_pieces (l := l) (D := D) (cI := cI) (cZ := cZ) hc).1 (mX6_pieces hc).2 ?_
        obtain rfl := Option.some.inj h
        exact ev_iret (pc := 79) X dX10_now_79
      · rw [if_neg hq12_2] at h
        by_cases hq12_3 : x1 = (3 : Int32)
        · rw [if_pos hq12_3] at h
          refine ev_tableIn (pc := 12) X 80 dX10_now_12 (by rw [hq12_3]; decide) (by rw [hq12_3]; decide) (by rw [hq12_3]; rfl) rfl ?_
          refine ev_aload_n (pc := 80) X 0 dX10_now_80 rfl rfl ?_
          obtain ⟨v13, hv13, h⟩ := eBi h
          refine ev_getR (pc := 81) X hcX10 (k := 2) (by decide) kfX10_28 dX10_now_81 hv13 ?_
          obtain ⟨v15, w14, hc, h⟩ := eB2 h
          refine ev_callV_i (pc := 84) (As := []) (S := []) X hwX0_toNowhere klX10_171 hiX0_toNowhere hsX0_toNowhere (ci := 0) ⟨rfl, rfl⟩ ⟨Nat.le_of_ble_eq_true rfl, Nat.le_of_ble_eq_true rfl⟩ ⟨Nat.le_refl _, Nat.le_refl _⟩ rfl (Nat.le_of_ble_eq_true rfl) dX10_now_84 rfl (mX0_toNowhere (l := l) (D := D) (cI := cI) (cZ := cZ) hc).1 (mX0_toNowhere hc).2 ?_
          obtain rfl := Option.some.inj h
          exact ev_iret (pc := 87) X dX10_now_87
        · rw [if_neg hq12_3] at h
          by_cases hq12_4 : x1 = (4 : Int32)
          · rw [if_pos hq12_4] at h
            refine ev_tableIn (pc := 12) X 88 dX10_now_12 (by rw [hq12_4]; decide) (by rw [hq12_4]; decide) (by rw [hq12_4]; rfl) rfl ?_
            refine ev_aload_n (pc := 88) X 0 dX10_now_88 rfl rfl ?_
            obtain ⟨v16, hv16, h⟩ := eBi h
            refine ev_getR (pc := 89) X hcX10 (k := 6) (by decide) kfX10_57 dX10_now_89 hv16 ?_
            obtain ⟨v18, w17, hc, h⟩ := eB2 h
            refine ev_callV_i (pc := 92) (As := []) (S := []) X hwX6_steepest klX10_174 hiX6_steepest hsX6_steepest (ci := 6) ⟨rfl, rfl⟩ ⟨Nat.le_of_ble_eq_true rfl, Nat.le_of_ble_eq_true rfl⟩ ⟨Nat.le_refl _, Nat.le_refl _⟩ rfl (Nat.le_of_ble_eq_true rfl) dX10_now_92 rfl (mX6_steepest (l := l) (D := D) (cI := cI) (cZ := cZ) hc).1 (mX6_steepest hc).2 ?_
            obtain rfl := Option.some.inj h
            exact ev_iret (pc := 95) X dX10_now_95
          · rw [if_neg hq12_4] at h
            by_cases hq12_5 : x1 = (5 : Int32)
            · rw [if_pos hq12_5] at h
              refine ev_tableIn (pc := 12) X 96 dX10_now_12 (by rw [hq12_5]; decide) (by rw [hq12_5]; decide) (by rw [hq12_5]; rfl) rfl ?_
              refine ev_aload_n (pc := 96) X 0 dX10_now_96 rfl rfl ?_
              obtain ⟨v19, hv19, h⟩ := eBi h
              refine ev_getR (pc := 97) X hcX10 (k := 8) (by decide) kfX10_75 dX10_now_97 hv19 ?_
              obtain ⟨v21, w20, hc, h⟩ := eB2 h
              refine ev_callV_i (pc := 100) (As := []) (S := []) X hwX9_leastSlope klX10_177 hiX9_leastSlope hsX9_leastSlope (ci := 9) ⟨rfl, rfl⟩ ⟨Nat.le_of_ble_eq_true rfl, Nat.le_of_ble_eq_true rfl⟩ ⟨Nat.le_refl _, Nat.le_refl _⟩ rfl (Nat.le_of_ble_eq_true rfl) dX10_now_100 rfl (mX9_leastSlope (l := l) (D := D) (cI := cI) (cZ := cZ) hc).1 (mX9_leastSlope hc).2 ?_
              obtain rfl := Option.some.inj h
              exact ev_iret (pc := 103) X dX10_now_103
            · rw [if_neg hq12_5] at h
              by_cases hq12_6 : x1 = (6 : Int32)
              · rw [if_pos hq12_6] at h
                refine ev_tableIn (pc := 12) X 104 dX10_now_12 (by rw [hq12_6]; decide) (by rw [hq12_6]; decide) (by rw [hq12_6]; rfl) rfl ?_
                refine ev_aload_n (pc := 104) X 0 dX10_now_104 rfl rfl ?_
                obtain ⟨v22, hv22, h⟩ := eBi h
                refine ev_getR (pc := 105) X hcX10 (k := 3) (by decide) kfX10_37 dX10_now_105 hv22 ?_
                obtain ⟨v24, w23, hc, h⟩ := eB2 h
                refine ev_callV_i (pc := 108) (As := []) (S := []) X hwX4_known klX10_180 hiX4_known hsX4_known (ci := 4) ⟨rfl, rfl⟩ ⟨Nat.le_of_ble_eq_true rfl, Nat.le_of_ble_eq_true rfl⟩ ⟨Nat.le_refl _, Nat.le_refl _⟩ rfl (Nat.le_of_ble_eq_true rfl) dX10_now_108 rfl (mX4_known (l := l) (D := D) (cI := cI) (cZ := cZ) hc).1 (mX4_known hc).2 ?_
                obtain rfl := Option.some.inj h
                exact ev_iret (pc := 111) X dX10_now_111
              · rw [if_neg hq12_6] at h
                refine ev_tableOut (pc := 12) X 112 dX10_now_12 (by have a0 := lv_neT hq12_0 (a := 0) (by decide); have a1 := lv_neT hq12_1 (a := 1) (by decide); have a2 := lv_neT hq12_2 (a := 2) (by decide); have a3 := lv_neT hq12_3 (a := 3) (by decide); have a4 := lv_neT hq12_4 (a := 4) (by decide); have a5 := lv_neT hq12_5 (a := 5) (by decide); have a6 := lv_neT hq12_6 (a := 6) (by decide); omega) rfl ?_
                refine ev_iconst (pc := 112) (v := (-1 : Int32)) X dX10_now_112 rfl ?_
                obtain rfl := Option.some.inj h
                exact ev_iret (pc := 113) X dX10_now_113
def fX10_now (a0 : Nat) (a1 : Int32) (w : eW) : Option (Int32 × eW) := bif eO w a0 10 then fX10_now_0 a0 a1 w else none
theorem mX10_now {a0 : Nat} {a1 : Int32} {w : eW} {v : Int32} {w' : eW} (h : fX10_now a0 a1 w = some (v, w')) : eO w a0 10 = true ∧ eMN l D cI cZ 5 yX10_now cX10_now 2 (some .int) [.ref a0, .int a1] w (some (.int v)) w' := by
  obtain ⟨h0, h⟩ := eBif h
  exact ⟨h0, eMN_of [(0, .ref a0), (1, .int a1)] (plainFor_of_name (by decide)) (fun _ => rfl) (fun _ => Nat.le_of_ble_eq_true rfl) (fun p e s m args below meth c r0 A X => ev_weak (pc := 0) [0, 1] rfl (sX10_now_0 _ _ _ _ h p e s m args below meth c r0 A X))⟩
theorem dX10_begins_0 : decode cX10_begins 0 = .ok (.aload_n 0, 1) := by decide +kernel
theorem dX10_begins_1 : decode cX10_begins 1 = .ok (.getfield 12, 3) := by decide +kernel
theorem dX10_begins_4 : decode cX10_begins 4 = .ok (.iload_n 1, 1) := by decide +kernel
theorem dX10_begins_5 : decode cX10_begins 5 = .ok (.invokevirtual 122, 3) := by decide +kernel
theorem dX10_begins_8 : decode cX10_begins 8 = .ok (.ifCond .ne 5, 3) := by decide +kernel
theorem dX10_begins_11 : decode cX10_begins 11 = .ok (.iconst (-1), 1) := by decide +kernel
theorem dX10_begins_12 : decode cX10_begins 12 = .ok (.ireturn, 1) := by decide +kernel
theorem dX10_begins_13 : decode cX10_begins 13 = .ok (.aload_n 0, 1) := by decide +kernel
theorem dX10_begins_14 : decode cX10_begins 14 = .ok (.getfield 28, 3) := by decide +kernel
theorem dX10_begins_17 : decode cX10_begins 17 = .ok (.invokevirtual 164, 3) := by decide +kernel
theorem dX10_begins_20 : decode cX10_begins 20 = .ok (.iconst 4, 1) := by decide +kernel
theorem dX10_begins_21 : decode cX10_begins 21 = .ok (.if_icmp .lt 6, 3) := by decide +kernel
theorem dX10_begins_24 : decode cX10_begins 24 = .ok (.bipush (-3), 2) := by decide +kernel
theorem dX10_begins_26 : decode cX10_begins 26 = .ok (.ireturn, 1) := by decide +kernel
theorem dX10_begins_27 : decode cX10_begins 27 = .ok (.aload_n 0, 1) := by decide +kernel
theorem dX10_begins_28 : decode cX10_begins 28 = .ok (.getfield 37, 3) := by decide +kernel
theorem dX10_begins_31 : decode cX10_begins 31 = .ok (.invokevirtual 183, 3) := by decide +kernel
theorem dX10_begins_34 : decode cX10_begins 34 = .ok (.aload_n 0, 1) := by decide +kernel
theorem dX10_begins_35 : decode cX10_begins 35 = .ok (.getfield 28, 3) := by decide +kernel
theorem dX10_begins_38 : decode cX10_begins 38 = .ok (.iload_n 1, 1) := by decide +kernel
theorem dX10_begins_39 : decode cX10_begins 39 = .ok (.invokevirtual 186, 3) := by decide +kernel
theorem dX10_begins_42 : decode cX10_begins 42 = .ok (.ireturn, 1) := by decide +kernel
def fX10_begins_0 (x0 : Nat) (x1 : Int32) (w : eW) : Option (Int32 × eW) := (eGR w x0 10 0).bind fun v1 => eBind2 (fX1_hasCell v1 x1 w) fun v3 w2 => if v3 = 0 then (some ((-1 : Int32), w2)) else ((eGR w2 x0 10 2).bind fun v4 => eBind2 (fX0_size v4 w2) fun v6 w5 => if v6 < (4 : Int32) then ((eGR w5 x0 10 3).bind fun v7 => (fX4_remember v7 w5).bind fun w8 => (eGR w8 x0 10 2).bind fun v9 => eBind2 (fX0_begin v9 x1 w8) fun v11 w10 => some (v11, w10)) else (some ((-3 : Int32), w5)))
set_option maxRecDepth 20000 in
theorem sX10_begins_0  (x0 : Nat) (x1 : Int32) (w : eW) (r : Int32 × eW) (h : fX10_begins_0 x0 x1 w = some r) : eBN l D cI cZ 3 yX10_begins cX10_begins 2 (some .int) 0 [(0, .ref x0), (1, .int x1)] [] w (some (.int r.1)) r.2 := by
  rw [fX10_begins_0] at h
  intro p e s m args below meth c r0 A X
  refine ev_aload_n (pc := 0) X 0 dX10_begins_0 rfl rfl ?_
  obtain ⟨v1, hv1, h⟩ := eBi h
  refine ev_getR (pc := 1) X hcX10 (k := 0) (by decide) kfX10_12 dX10_begins_1 hv1 ?_
  refine ev_iload_n (pc := 4) X 1 dX10_begins_4 rfl rfl ?_
  obtain ⟨v3, w2, hc, h⟩ := eB2 h
  refine ev_callV_i (pc := 5) (As := [.int x1]) (S := []) X hwX1_hasCell klX10_122 hiX1_hasCell hsX1_hasCell (ci := 1) ⟨rfl, rfl⟩ ⟨Nat.le_of_ble_eq_true rfl, Nat.le_of_ble_eq_true rfl⟩ ⟨Nat.le_refl _, Nat.le_refl _⟩ rfl (Nat.le_of_ble_eq_true rfl) dX10_begins_5 rfl (mX1_hasCell (l := l) (D := D) (cI := cI) (cZ := cZ) hc).1 (mX1_hasCell hc).2 ?_
  refine ev_if_ne (pc := 8) X 13 dX10_begins_8 rfl (fun hc => ?_) (fun hc => ?_)
  · rw [if_neg hc] at h
    refine ev_aload_n (pc := 13) X 0 dX10_begins_13 rfl rfl ?_
    obtain ⟨v4, hv4, h⟩ := eBi h
    refine ev_getR (pc := 14) X hcX10 (k := 2) (by decide) kfX10_28 dX10_begins_14 hv4 ?_
    obtain ⟨v6, w5, hc, h⟩ := eB2 h
    refine ev_callV_i (pc := 17) (As := []) (S := []) X hwX0_size klX10_164 hiX0_size hsX0_size (ci := 0) ⟨rfl, rfl⟩ ⟨Nat.le_of_ble_eq_true rfl, Nat.le_of_ble_eq_true rfl⟩ ⟨Nat.le_refl _, Nat.le_refl _⟩ rfl (Nat.le_of_ble_eq_true rfl) dX10_begins_17 rfl (mX0_size (l := l) (D := D) (cI := cI) (cZ := cZ) hc).1 (mX0_size hc).2 ?_
    refine ev_iconst (pc := 20) (v := (4 : Int32)) X dX10_begins_20 rfl ?_
    refine ev_icmp_lt (pc := 21) X 27 dX10_begins_21 rfl (fun hc => ?_) (fun hc => ?_)
    · rw [if_pos hc] at h
      refine ev_aload_n (pc := 27) X 0 dX10_begins_27 rfl rfl ?_
      obtain ⟨v7, hv7, h⟩ := eBi h
      refine ev_getR (pc := 28) X hcX10 (k := 3) (by decide) kfX10_37 dX10_begins_28 hv7 ?_
      obtain ⟨w8, hc, h⟩ := eBi h
      refine ev_callV_v (pc := 31) (As := []) (S := []) X hwX4_remember klX10_183 hiX4_remember hsX4_remember (ci := 4) ⟨rfl, rfl⟩ ⟨Nat.le_of_ble_eq_true rfl, Nat.le_of_ble_eq_true rfl⟩ ⟨Nat.le_refl _, Nat.le_refl _⟩ rfl (Nat.le_of_ble_eq_true rfl) dX10_begins_31 rfl (mX4_remember (l := l) (D := D) (cI := cI) (cZ := cZ) hc).1 (mX4_remember hc).2 ?_
      refine ev_aload_n (pc := 34) X 0 dX10_begins_34 rfl rfl ?_
      obtain ⟨v9, hv9, h⟩ := eBi h
      refine ev_getR (pc := 35) X hcX10 (k := 2) (by decide) kfX10_28 dX10_begins_35 hv9 ?_
      refine ev_iload_n (pc := 38) X 1 dX10_begins_38 rfl rfl ?_
      obtain ⟨v11, w10, hc, h⟩ := eB2 h
      refine ev_callV_i (pc := 39) (As := [.int x1]) (S := []) X hwX0_begin klX10_186 hiX0_begin hsX0_begin (ci := 0) ⟨rfl, rfl⟩ ⟨Nat.le_of_ble_eq_true rfl, Nat.le_of_ble_eq_true rfl⟩ ⟨Nat.le_refl _, Nat.le_refl _⟩ rfl (Nat.le_of_ble_eq_true rfl) dX10_begins_39 rfl (mX0_begin (l := l) (D := D) (cI := cI) (cZ := cZ) hc).1 (mX0_begin hc).2 ?_
      obtain rfl := Option.some.inj h
      exact ev_iret (pc := 42) X dX10_begins_42
    · rw [if_neg hc] at h
      refine ev_bipush (pc := 24) (v := (-3 : Int32)) X dX10_begins_24 rfl ?_
      obtain rfl := Option.some.inj h
      exact ev_iret (pc := 26) X dX10_begins_26
  · rw [if_pos hc] at h
    refine ev_iconst (pc := 11) (v := (-1 : Int32)) X dX10_begins_11 rfl ?_
    obtain rfl := Option.some.inj h
    exact ev_iret (pc := 12) X dX10_begins_12
def fX10_begins (a0 : Nat) (a1 : Int32) (w : eW) : Option (Int32 × eW) := bif eO w a0 10 then fX10_begins_0 a0 a1 w else none
theorem mX10_begins {a0 : Nat} {a1 : Int32} {w : eW} {v : Int32} {w' : eW} (h : fX10_begins a0 a1 w = some (v, w')) : eO w a0 10 = true ∧ eMN l D cI cZ 3 yX10_begins cX10_begins 2 (some .int) [.ref a0, .int a1] w (some (.int v)) w' := by
  obtain ⟨h0, h⟩ := eBif h
  exact ⟨h0, eMN_of [(0, .ref a0), (1, .int a1)] (plainFor_of_name (by decide)) (fun _ => rfl) (fun _ => Nat.le_of_ble_eq_true rfl) (fun p e s m args below meth c r0 A X => ev_weak (pc := 0) [0, 1] rfl (sX10_begins_0 _ _ _ _ h p e s m args below meth c r0 A X))⟩
theorem dX10_weaves_0 : decode cX10_weaves 0 = .ok (.aload_n 0, 1) := by decide +kernel
theorem dX10_weaves_1 : decode cX10_weaves 1 = .ok (.getfield 28, 3) := by decide +kernel
theorem dX10_weaves_4 : decode cX10_weaves 4 = .ok (.iload_n 1, 1) := by decide +kernel
theorem dX10_weaves_5 : decode cX10_weaves 5 = .ok (.invokevirtual 135, 3) := by decide +kernel
theorem dX10_weaves_8 : decode cX10_weaves 8 = .ok (.ifCond .eq 10, 3) := by decide +kernel
theorem dX10_weaves_11 : decode cX10_weaves 11 = .ok (.iload_n 2, 1) := by decide +kernel
theorem dX10_weaves_12 : decode cX10_weaves 12 = .ok (.invokestatic 154, 3) := by decide +kernel
theorem dX10_weaves_15 : decode cX10_weaves 15 = .ok (.ifCond .ne 5, 3) := by decide +kernel
theorem dX10_weaves_18 : decode cX10_weaves 18 = .ok (.iconst (-1), 1) := by decide +kernel
theorem dX10_weaves_19 : decode cX10_weaves 19 = .ok (.ireturn, 1) := by decide +kernel
theorem dX10_weaves_20 : decode cX10_weaves 20 = .ok (.aload_n 0, 1) := by decide +kernel
theorem dX10_weaves_21 : decode cX10_weaves 21 = .ok (.getfield 12, 3) := by decide +kernel
theorem dX10_weaves_24 : decode cX10_weaves 24 = .ok (.aload_n 0, 1) := by decide +kernel
theorem dX10_weaves_25 : decode cX10_weaves 25 = .ok (.getfield 28, 3) := by decide +kernel
theorem dX10_weaves_28 : decode cX10_weaves 28 = .ok (.iload_n 1, 1) := by decide +kernel
theorem dX10_weaves_29 : decode cX10_weaves 29 = .ok (.invokevirtual 141, 3) := by decide +kernel
theorem dX10_weaves_32 : decode cX10_weaves 32 = .ok (.iload_n 2, 1) := by decide +kernel
theorem dX10_weaves_33 : decode cX10_weaves 33 = .ok (.invokevirtual 189, 3) := by decide +kernel
theorem dX10_weaves_36 : decode cX10_weaves 36 = .ok (.istore_n 3, 1) := by decide +kernel
theorem dX10_weaves_37 : decode cX10_weaves 37 = .ok (.iload_n 3, 1) := by decide +kernel
theorem dX10_weaves_38 : decode cX10_weaves 38 = .ok (.iconst (-1), 1) := by decide +kernel
theorem dX10_weaves_39 : decode cX10_weaves 39 = .ok (.if_icmp .ne 6, 3) := by decide +kernel
theorem dX10_weaves_42 : decode cX10_weaves 42 = .ok (.bipush (-2), 2) := by decide +kernel
theorem dX10_weaves_44 : decode cX10_weaves 44 = .ok (.ireturn, 1) := by decide +kernel
theorem dX10_weaves_45 : decode cX10_weaves 45 = .ok (.aload_n 0, 1) := by decide +kernel
theorem dX10_weaves_46 : decode cX10_weaves 46 = .ok (.getfield 28, 3) := by decide +kernel
theorem dX10_weaves_49 : decode cX10_weaves 49 = .ok (.iload_n 1, 1) := by decide +kernel
theorem dX10_weaves_50 : decode cX10_weaves 50 = .ok (.invokevirtual 144, 3) := by decide +kernel
theorem dX10_weaves_53 : decode cX10_weaves 53 = .ok (.bipush 12, 2) := by decide +kernel
theorem dX10_weaves_55 : decode cX10_weaves 55 = .ok (.if_icmp .lt 6, 3) := by decide +kernel
theorem dX10_weaves_58 : decode cX10_weaves 58 = .ok (.bipush (-3), 2) := by decide +kernel
theorem dX10_weaves_60 : decode cX10_weaves 60 = .ok (.ireturn, 1) := by decide +kernel
theorem dX10_weaves_61 : decode cX10_weaves 61 = .ok (.aload_n 0, 1) := by decide +kernel
theorem dX10_weaves_62 : decode cX10_weaves 62 = .ok (.getfield 37, 3) := by decide +kernel
theorem dX10_weaves_65 : decode cX10_weaves 65 = .ok (.invokevirtual 183, 3) := by decide +kernel
theorem dX10_weaves_68 : decode cX10_weaves 68 = .ok (.aload_n 0, 1) := by decide +kernel
theorem dX10_weaves_69 : decode cX10_weaves 69 = .ok (.getfield 28, 3) := by decide +kernel
theorem dX10_weaves_72 : decode cX10_weaves 72 = .ok (.iload_n 1, 1) := by decide +kernel
theorem dX10_weaves_73 : decode cX10_weaves 73 = .ok (.iload_n 2, 1) := by decide +kernel
theorem dX10_weaves_74 : decode cX10_weaves 74 = .ok (.invokevirtual 192, 3) := by decide +kernel
theorem dX10_weaves_77 : decode cX10_weaves 77 = .ok (.iload_n 3, 1) := by decide +kernel
theorem dX10_weaves_78 : decode cX10_weaves 78 = .ok (.ireturn, 1) := by decide +kernel
def fX10_weaves_0 (x0 : Nat) (x1 : Int32) (x2 : Int32) (w : eW) : Option (Int32 × eW) := (eGR w x0 10 2).bind fun v1 => eBind2 (fX0_has v1 x1 w) fun v3 w2 => if v3 = 0 then (some ((-1 : Int32), w2)) else (eBind2 (fX10_isCard x2 w2) fun v5 w4 => if v5 = 0 then (some ((-1 : Int32), w4)) else ((eGR w4 x0 10 0).bind fun v6 => (eGR w4 x0 10 2).bind fun v7 => eBind2 (fX0_lastCell v7 x1 w4) fun v9 w8 => eBind2 (fX1_cellBy v6 v9 x2 w8) fun v11 w10 => if v11 = (-1 : Int32) then (some ((-2 : Int32), w10)) else ((eGR w10 x0 10 2).bind fun v12 => eBind2 (fX0_length v12 x1 w10) fun v14 w13 => if v14 < (12 : Int32) then ((eGR w13 x0 10 3).bind fun v15 => (fX4_remember v15 w13).bind fun w16 => (eGR w16 x0 10 2).bind fun v17 => (fX0_weave v17 x1 x2 w16).bind fun w18 => some (v11, w18)) else (some ((-3 : Int32), w13)))))
set_option maxRecDepth 20000 in
theorem sX10_weaves_0  (x0 : Nat) (x1 : Int32) (x2 : Int32) (w : eW) (r : Int32 × eW) (h : fX10_weaves_0 x0 x1 x2 w = some r) : eBN l D cI cZ 4 yX10_weaves cX10_weaves 4 (some .int) 0 [(0, .ref x0), (1, .int x1), (2, .int x2)] [] w (some (.int r.1)) r.2 := by
  rw [fX10_weaves_0] at h
  intro p e s m args below meth c r0 A X
  refine ev_aload_n (pc := 0) X 0 dX10_weaves_0 rfl rfl ?_
  obtain ⟨v1, hv1, h⟩ := eBi h
  refine ev_getR (pc := 1) X hcX10 (k := 2) (by decide) kfX10_28 dX10_weaves_1 hv1 ?_
  refine ev_iload_n (pc := 4) X 1 dX10_weaves_4 rfl rfl ?_
  obtain ⟨v3, w2, hc, h⟩ := eB2 h
  refine ev_callV_i (pc := 5) (As := [.int x1]) (S := []) X hwX0_has klX10_135 hiX0_has hsX0_has (ci := 0) ⟨rfl, rfl⟩ ⟨Nat.le_of_ble_eq_true rfl, Nat.le_of_ble_eq_true rfl⟩ ⟨Nat.le_refl _, Nat.le_refl _⟩ rfl (Nat.le_of_ble_eq_true rfl) dX10_weaves_5 rfl (mX0_has (l := l) (D := D) (cI := cI) (cZ := cZ) hc).1 (mX0_has hc).2 ?_
  refine ev_if_eq (pc := 8) X 18 dX10_weaves_8 rfl (fun hc => ?_) (fun hc => ?_)
  · rw [if_pos hc] at h
    refine ev_iconst (pc := 18) (v := (-1 : Int32)) X dX10_weaves_18 rfl ?_
    obtain rfl := Option.some.inj h
    exact ev_iret (pc := 19) X dX10_weaves_19
  · rw [if_neg hc] at h
    refine ev_iload_n (pc := 11) X 2 dX10_weaves_11 rfl rfl ?_
    obtain ⟨v5, w4, hc, h⟩ := eB2 h
    refine ev_callS_i (pc := 12) (As := [.int x2]) (S := []) X hwX10_isCard klX10_154 htX10_isCard ⟨Nat.le_of_ble_eq_true rfl, Nat.le_of_ble_eq_true rfl⟩ ⟨Nat.le_refl _, Nat.le_refl _⟩ rfl (Nat.le_of_ble_eq_true rfl) dX10_weaves_12 rfl (mX10_isCard hc) ?_
    refine ev_if_ne (pc := 15) X 20 dX10_weaves_15 rfl (fun hc => ?_) (fun hc => ?_)
    · rw [if_neg hc] at h
      refine ev_aload_n (pc := 20) X 0 dX10_weaves_20 rfl rfl ?_
      obtain ⟨v6, hv6, h⟩ := eBi h
      refine ev_getR (pc := 21) X hcX10 (k := 0) (by decide) kfX10_12 dX10_weaves_21 hv6 ?_
      refine ev_aload_n (pc := 24) X 0 dX10_weaves_24 rfl rfl ?_
      obtain ⟨v7, hv7, h⟩ := eBi h
      refine ev_getR (pc := 25) X hcX10 (k := 2) (by decide) kfX10_28 dX10_weaves_25 hv7 ?_
      refine ev_iload_n (pc := 28) X 1 dX10_weaves_28 rfl rfl ?_
      obtain ⟨v9, w8, hc, h⟩ := eB2 h
      refine ev_callV_i (pc := 29) (As := [.int x1]) (S := [.ref v6]) X hwX0_lastCell klX10_141 hiX0_lastCell hsX0_lastCell (ci := 0) ⟨rfl, rfl⟩ ⟨Nat.le_of_ble_eq_true rfl, Nat.le_of_ble_eq_true rfl⟩ ⟨Nat.le_refl _, Nat.le_refl _⟩ rfl (Nat.le_of_ble_eq_true rfl) dX10_weaves_29 rfl (mX0_lastCell (l := l) (D := D) (cI := cI) (cZ := cZ) hc).1 (mX0_lastCell hc).2 ?_
      refine ev_iload_n (pc := 32) X 2 dX10_weaves_32 rfl rfl ?_
      obtain ⟨v11, w10, hc, h⟩ := eB2 h
      refine ev_callV_i (pc := 33) (As := [.int v9, .int x2]) (S := []) X hwX1_cellBy klX10_189 hiX1_cellBy hsX1_cellBy (ci := 1) ⟨rfl, rfl⟩ ⟨Nat.le_of_ble_eq_true rfl, Nat.le_of_ble_eq_true rfl⟩ ⟨Nat.le_refl _, Nat.le_refl _⟩ rfl (Nat.le_of_ble_eq_true rfl) dX10_weaves_33 rfl (mX1_cellBy (l := l) (D := D) (cI := cI) (cZ := cZ) hc).1 (mX1_cellBy hc).2 ?_
      refine ev_istore_n (pc := 36) (L' := [(3, .int v11), (0, .ref x0), (1, .int x1), (2, .int x2)]) X dX10_weaves_36 rfl (by decide) rfl ?_
      refine ev_iload_n (pc := 37) X 0 dX10_weaves_37 rfl rfl ?_
      refine ev_iconst (pc := 38) (v := (-1 : Int32)) X dX10_weaves_38 rfl ?_
      refine ev_icmp_ne (pc := 39) X 45 dX10_weaves_39 rfl (fun hc => ?_) (fun hc => ?_)
      · rw [if_neg hc] at h
        refine ev_aload_n (pc := 45) X 1 dX10_weaves_45 rfl rfl ?_
        obtain ⟨v12, hv12, h⟩ := eBi h
        refine ev_getR (pc := 46) X hcX10 (k := 2) (by decide) kfX10_28 dX10_weaves_46 hv12 ?_
        refine ev_iload_n (pc := 49) X 2 dX10_weaves_49 rfl rfl ?_
        obtain ⟨v14, w13, hc, h⟩ := eB2 h
        refine ev_callV_i (pc := 50) (As := [.int x1]) (S := []) X hwX0_length klX10_144 hiX0_length hsX0_length (ci := 0) ⟨rfl, rfl⟩ ⟨Nat.le_of_ble_eq_true rfl, Nat.le_of_ble_eq_true rfl⟩ ⟨Nat.le_refl _, Nat.le_refl _⟩ rfl (Nat.le_of_ble_eq_true rfl) dX10_weaves_50 rfl (mX0_length (l := l) (D := D) (cI := cI) (cZ := cZ) hc).1 (mX0_length hc).2 ?_
        refine ev_bipush (pc := 53) (v := (12 : Int32)) X dX10_weaves_53 rfl ?_
        refine ev_icmp_lt (pc := 55) X 61 dX10_weaves_55 rfl (fun hc => ?_) (fun hc => ?_)
        · rw [if_pos hc] at h
          refine ev_aload_n (pc := 61) X 1 dX10_weaves_61 rfl rfl ?_
          obtain ⟨v15, hv15, h⟩ := eBi h
          refine ev_getR (pc := 62) X hcX10 (k := 3) (by decide) kfX10_37 dX10_weaves_62 hv15 ?_
          obtain ⟨w16, hc, h⟩ := eBi h
          refine ev_callV_v (pc := 65) (As := []) (S := []) X hwX4_remember klX10_183 hiX4_remember hsX4_remember (ci := 4) ⟨rfl, rfl⟩ ⟨Nat.le_of_ble_eq_true rfl, Nat.le_of_ble_eq_true rfl⟩ ⟨Nat.le_refl _, Nat.le_refl _⟩ rfl (Nat.le_of_ble_eq_true rfl) dX10_weaves_65 rfl (mX4_remember (l := l) (D := D) (cI := cI) (cZ := cZ) hc).1 (mX4_remember hc).2 ?_
          refine ev_aload_n (pc := 68) X 1 dX10_weaves_68 rfl rfl ?_
          obtain ⟨v17, hv17, h⟩ := eBi h
          refine ev_getR (pc := 69) X hcX10 (k := 2) (by decide) kfX10_28 dX10_weaves_69 hv17 ?_
          refine ev_iload_n (pc := 72) X 2 dX10_weaves_72 rfl rfl ?_
          refine ev_iload_n (pc := 73) X 3 dX10_weaves_73 rfl rfl ?_
          obtain ⟨w18, hc, h⟩ := eBi h
          refine ev_callV_v (pc := 74) (As := [.int x1, .int x2]) (S := []) X hwX0_weave klX10_192 hiX0_weave hsX0_weave (ci := 0) ⟨rfl, rfl⟩ ⟨Nat.le_of_ble_eq_true rfl, Nat.le_of_ble_eq_true rfl⟩ ⟨Nat.le_refl _, Nat.le_refl _⟩ rfl (Nat.le_of_ble_eq_true rfl) dX10_weaves_74 rfl (mX0_weave (l := l) (D := D) (cI := cI) (cZ := cZ) hc).1 (mX0_weave hc).2 ?_
          refine ev_iload_n (pc := 77) X 0 dX10_weaves_77 rfl rfl ?_
          obtain rfl := Option.some.inj h
          exact ev_iret (pc := 78) X dX10_weaves_78
        · rw [if_neg hc] at h
          refine ev_bipush (pc := 58) (v := (-3 : Int32)) X dX10_weaves_58 rfl ?_
          obtain rfl := Option.some.inj h
          exact ev_iret (pc := 60) X dX10_weaves_60
      · rw [if_pos hc] at h
        refine ev_bipush (pc := 42) (v := (-2 : Int32)) X dX10_weaves_42 rfl ?_
        obtain rfl := Option.some.inj h
        exact ev_iret (pc := 44) X dX10_weaves_44
    · rw [if_pos hc] at h
      refine ev_iconst (pc := 18) (v := (-1 : Int32)) X dX10_weaves_18 rfl ?_
      obtain rfl := Option.some.inj h
      exact ev_iret (pc := 19) X dX10_weaves_19
def fX10_weaves (a0 : Nat) (a1 : Int32) (a2 : Int32) (w : eW) : Option (Int32 × eW) := bif eO w a0 10 then fX10_weaves_0 a0 a1 a2 w else none
theorem mX10_weaves {a0 : Nat} {a1 : Int32} {a2 : Int32} {w : eW} {v : Int32} {w' : eW} (h : fX10_weaves a0 a1 a2 w = some (v, w')) : eO w a0 10 = true ∧ eMN l D cI cZ 4 yX10_weaves cX10_weaves 4 (some .int) [.ref a0, .int a1, .int a2] w (some (.int v)) w' := by
  obtain ⟨h0, h⟩ := eBif h
  exact ⟨h0, eMN_of [(0, .ref a0), (1, .int a1), (2, .int a2)] (plainFor_of_name (by decide)) (fun _ => rfl) (fun _ => Nat.le_of_ble_eq_true rfl) (fun p e s m args below meth c r0 A X => ev_weak (pc := 0) [0, 1, 2] rfl (sX10_weaves_0 _ _ _ _ _ h p e s m args below meth c r0 A X))⟩
theorem dX10_turnAbout_0 : decode cX10_turnAbout 0 = .ok (.aload_n 0, 1) := by decide +kernel
theorem dX10_turnAbout_1 : decode cX10_turnAbout 1 = .ok (.getfield 28, 3) := by decide +kernel
theorem dX10_turnAbout_4 : decode cX10_turnAbout 4 = .ok (.iload_n 1, 1) := by decide +kernel
theorem dX10_turnAbout_5 : decode cX10_turnAbout 5 = .ok (.invokevirtual 135, 3) := by decide +kernel
theorem dX10_turnAbout_8 : decode cX10_turnAbout 8 = .ok (.ifCond .ne 5, 3) := by decide +kernel
theorem dX10_turnAbout_11 : decode cX10_turnAbout 11 = .ok (.iconst (-1), 1) := by decide +kernel
theorem dX10_turnAbout_12 : decode cX10_turnAbout 12 = .ok (.ireturn, 1) := by decide +kernel
theorem dX10_turnAbout_13 : decode cX10_turnAbout 13 = .ok (.aload_n 0, 1) := by decide +kernel
theorem dX10_turnAbout_14 : decode cX10_turnAbout 14 = .ok (.getfield 37, 3) := by decide +kernel
theorem dX10_turnAbout_17 : decode cX10_turnAbout 17 = .ok (.invokevirtual 183, 3) := by decide +kernel
theorem dX10_turnAbout_20 : decode cX10_turnAbout 20 = .ok (.aload_n 0, 1) := by decide +kernel
theorem dX10_turnAbout_21 : decode cX10_turnAbout 21 = .ok (.getfield 28, 3) := by decide +kernel
theorem dX10_turnAbout_24 : decode cX10_turnAbout 24 = .ok (.iload_n 1, 1) := by decide +kernel
theorem dX10_turnAbout_25 : decode cX10_turnAbout 25 = .ok (.invokevirtual 196, 3) := by decide +kernel
theorem dX10_turnAbout_28 : decode cX10_turnAbout 28 = .ok (.aload_n 0, 1) := by decide +kernel
theorem dX10_turnAbout_29 : decode cX10_turnAbout 29 = .ok (.getfield 28, 3) := by decide +kernel
theorem dX10_turnAbout_32 : decode cX10_turnAbout 32 = .ok (.iload_n 1, 1) := by decide +kernel
theorem dX10_turnAbout_33 : decode cX10_turnAbout 33 = .ok (.invokevirtual 138, 3) := by decide +kernel
theorem dX10_turnAbout_36 : decode cX10_turnAbout 36 = .ok (.ireturn, 1) := by decide +kernel
def fX10_turnAbout_0 (x0 : Nat) (x1 : Int32) (w : eW) : Option (Int32 × eW) := (eGR w x0 10 2).bind fun v1 => eBind2 (fX0_has v1 x1 w) fun v3 w2 => if v3 = 0 then (some ((-1 : Int32), w2)) else ((eGR w2 x0 10 3).bind fun v4 => (fX4_remember v4 w2).bind fun w5 => (eGR w5 x0 10 2).bind fun v6 => (fX0_turn v6 x1 w5).bind fun w7 => (eGR w7 x0 10 2).bind fun v8 => eBind2 (fX0_firstCell v8 x1 w7) fun v10 w9 => some (v10, w9))
set_option maxRecDepth 20000 in
theorem sX10_turnAbout_0  (x0 : Nat) (x1 : Int32) (w : eW) (r : Int32 × eW) (h : fX10_turnAbout_0 x0 x1 w = some r) : eBN l D cI cZ 5 yX10_turnAbout cX10_turnAbout 2 (some .int) 0 [(0, .ref x0), (1, .int x1)] [] w (some (.int r.1)) r.2 := by
  rw [fX10_turnAbout_0] at h
  intro p e s m args below meth c r0 A X
  refine ev_aload_n (pc := 0) X 0 dX10_turnAbout_0 rfl rfl ?_
  obtain ⟨v1, hv1, h⟩ := eBi h
  refine ev_getR (pc := 1) X hcX10 (k := 2) (by decide) kfX10_28 dX10_turnAbout_1 hv1 ?_
  refine ev_iload_n (pc := 4) X 1 dX10_turnAbout_4 rfl rfl ?_
  obtain ⟨v3, w2, hc, h⟩ := eB2 h
  refine ev_callV_i (pc := 5) (As := [.int x1]) (S := []) X hwX0_has klX10_135 hiX0_has hsX0_has (ci := 0) ⟨rfl, rfl⟩ ⟨Nat.le_of_ble_eq_true rfl, Nat.le_of_ble_eq_true rfl⟩ ⟨Nat.le_refl _, Nat.le_refl _⟩ rfl (Nat.le_of_ble_eq_true rfl) dX10_turnAbout_5 rfl (mX0_has (l := l) (D := D) (cI := cI) (cZ := cZ) hc).1 (mX0_has hc).2 ?_
  refine ev_if_ne (pc := 8) X 13 dX10_turnAbout_8 rfl (fun hc => ?_) (fun hc => ?_)
  · rw [if_neg hc] at h
    refine ev_aload_n (pc := 13) X 0 dX10_turnAbout_13 rfl rfl ?_
    obtain ⟨v4, hv4, h⟩ := eBi h
    refine ev_getR (pc := 14) X hcX10 (k := 3) (by decide) kfX10_37 dX10_turnAbout_14 hv4 ?_
    obtain ⟨w5, hc, h⟩ := eBi h
    refine ev_callV_v (pc := 17) (As := []) (S := []) X hwX4_remember klX10_183 hiX4_remember hsX4_remember (ci := 4) ⟨rfl, rfl⟩ ⟨Nat.le_of_ble_eq_true rfl, Nat.le_of_ble_eq_true rfl⟩ ⟨Nat.le_refl _, Nat.le_refl _⟩ rfl (Nat.le_of_ble_eq_true rfl) dX10_turnAbout_17 rfl (mX4_remember (l := l) (D := D) (cI := cI) (cZ := cZ) hc).1 (mX4_remember hc).2 ?_
    refine ev_aload_n (pc := 20) X 0 dX10_turnAbout_20 rfl rfl ?_
    obtain ⟨v6, hv6, h⟩ := eBi h
    refine ev_getR (pc := 21) X hcX10 (k := 2) (by decide) kfX10_28 dX10_turnAbout_21 hv6 ?_
    refine ev_iload_n (pc := 24) X 1 dX10_turnAbout_24 rfl rfl ?_
    obtain ⟨w7, hc, h⟩ := eBi h
    refine ev_callV_v (pc := 25) (As := [.int x1]) (S := []) X hwX0_turn klX10_196 hiX0_turn hsX0_turn (ci := 0) ⟨rfl, rfl⟩ ⟨Nat.le_of_ble_eq_true rfl, Nat.le_of_ble_eq_true rfl⟩ ⟨Nat.le_refl _, Nat.le_refl _⟩ rfl (Nat.le_of_ble_eq_true rfl) dX10_turnAbout_25 rfl (mX0_turn (l := l) (D := D) (cI := cI) (cZ := cZ) hc).1 (mX0_turn hc).2 ?_
    refine ev_aload_n (pc := 28) X 0 dX10_turnAbout_28 rfl rfl ?_
    obtain ⟨v8, hv8, h⟩ := eBi h
    refine ev_getR (pc := 29) X hcX10 (k := 2) (by decide) kfX10_28 dX10_turnAbout_29 hv8 ?_
    refine ev_iload_n (pc := 32) X 1 dX10_turnAbout_32 rfl rfl ?_
    obtain ⟨v10, w9, hc, h⟩ := eB2 h
    refine ev_callV_i (pc := 33) (As := [.int x1]) (S := []) X hwX0_firstCell klX10_138 hiX0_firstCell hsX0_firstCell (ci := 0) ⟨rfl, rfl⟩ ⟨Nat.le_of_ble_eq_true rfl, Nat.le_of_ble_eq_true rfl⟩ ⟨Nat.le_refl _, Nat.le_refl _⟩ rfl (Nat.le_of_ble_eq_true rfl) dX10_turnAbout_33 rfl (mX0_firstCell (l := l) (D := D) (cI := cI) (cZ := cZ) hc).1 (mX0_firstCell hc).2 ?_
    obtain rfl := Option.some.inj h
    exact ev_iret (pc := 36) X dX10_turnAbout_36
  · rw [if_pos hc] at h
    refine ev_iconst (pc := 11) (v := (-1 : Int32)) X dX10_turnAbout_11 rfl ?_
    obtain rfl := Option.some.inj h
    exact ev_iret (pc := 12) X dX10_turnAbout_12
def fX10_turnAbout (a0 : Nat) (a1 : Int32) (w : eW) : Option (Int32 × eW) := bif eO w a0 10 then fX10_turnAbout_0 a0 a1 w else none
theorem mX10_turnAbout {a0 : Nat} {a1 : Int32} {w : eW} {v : Int32} {w' : eW} (h : fX10_turnAbout a0 a1 w = some (v, w')) : eO w a0 10 = true ∧ eMN l D cI cZ 5 yX10_turnAbout cX10_turnAbout 2 (some .int) [.ref a0, .int a1] w (some (.int v)) w' := by
  obtain ⟨h0, h⟩ := eBif h
  exact ⟨h0, eMN_of [(0, .ref a0), (1, .int a1)] (plainFor_of_name (by decide)) (fun _ => rfl) (fun _ => Nat.le_of_ble_eq_true rfl) (fun p e s m args below meth c r0 A X => ev_weak (pc := 0) [0, 1] rfl (sX10_turnAbout_0 _ _ _ _ h p e s m args below meth c r0 A X))⟩
theorem dX10_rain_0 : decode cX10_rain 0 = .ok (.aload_n 0, 1) := by decide +kernel
theorem dX10_rain_1 : decode cX10_rain 1 = .ok (.getfield 37, 3) := by decide +kernel
theorem dX10_rain_4 : decode cX10_rain 4 = .ok (.invokevirtual 183, 3) := by decide +kernel
theorem dX10_rain_7 : decode cX10_rain 7 = .ok (.aload_n 0, 1) := by decide +kernel
theorem dX10_rain_8 : decode cX10_rain 8 = .ok (.getfield 28, 3) := by decide +kernel
theorem dX10_rain_11 : decode cX10_rain 11 = .ok (.invokevirtual 199, 3) := by decide +kernel
theorem dX10_rain_14 : decode cX10_rain 14 = .ok (.ireturn, 1) := by decide +kernel
def fX10_rain_0 (x0 : Nat) (w : eW) : Option (Int32 × eW) := (eGR w x0 10 3).bind fun v1 => (fX4_remember v1 w).bind fun w2 => (eGR w2 x0 10 2).bind fun v3 => eBind2 (fX0_fray v3 w2) fun v5 w4 => some (v5, w4)
set_option maxRecDepth 20000 in
theorem sX10_rain_0  (x0 : Nat) (w : eW) (r : Int32 × eW) (h : fX10_rain_0 x0 w = some r) : eBN l D cI cZ 4 yX10_rain cX10_rain 1 (some .int) 0 [(0, .ref x0)] [] w (some (.int r.1)) r.2 := by
  rw [fX10_rain_0] at h
  intro p e s m args below meth c r0 A X
  refine ev_aload_n (pc := 0) X 0 dX10_rain_0 rfl rfl ?_
  obtain ⟨v1, hv1, h⟩ := eBi h
  refine ev_getR (pc := 1) X hcX10 (k := 3) (by decide) kfX10_37 dX10_rain_1 hv1 ?_
  obtain ⟨w2, hc, h⟩ := eBi h
  refine ev_callV_v (pc := 4) (As := []) (S := []) X hwX4_remember klX10_183 hiX4_remember hsX4_remember (ci := 4) ⟨rfl, rfl⟩ ⟨Nat.le_of_ble_eq_true rfl, Nat.le_of_ble_eq_true rfl⟩ ⟨Nat.le_refl _, Nat.le_refl _⟩ rfl (Nat.le_of_ble_eq_true rfl) dX10_rain_4 rfl (mX4_remember (l := l) (D := D) (cI := cI) (cZ := cZ) hc).1 (mX4_remember hc).2 ?_
  refine ev_aload_n (pc := 7) X 0 dX10_rain_7 rfl rfl ?_
  obtain ⟨v3, hv3, h⟩ := eBi h
  refine ev_getR (pc := 8) X hcX10 (k := 2) (by decide) kfX10_28 dX10_rain_8 hv3 ?_
  obtain ⟨v5, w4, hc, h⟩ := eB2 h
  refine ev_callV_i (pc := 11) (As := []) (S := []) X hwX0_fray klX10_199 hiX0_fray hsX0_fray (ci := 0) ⟨rfl, rfl⟩ ⟨Nat.le_of_ble_eq_true rfl, Nat.le_of_ble_eq_true rfl⟩ ⟨Nat.le_refl _, Nat.le_refl _⟩ rfl (Nat.le_of_ble_eq_true rfl) dX10_rain_11 rfl (mX0_fray (l := l) (D := D) (cI := cI) (cZ := cZ) hc).1 (mX0_fray hc).2 ?_
  obtain rfl := Option.some.inj h
  exact ev_iret (pc := 14) X dX10_rain_14
def fX10_rain (a0 : Nat) (w : eW) : Option (Int32 × eW) := bif eO w a0 10 then fX10_rain_0 a0 w else none
theorem mX10_rain {a0 : Nat} {w : eW} {v : Int32} {w' : eW} (h : fX10_rain a0 w = some (v, w')) : eO w a0 10 = true ∧ eMN l D cI cZ 4 yX10_rain cX10_rain 1 (some .int) [.ref a0] w (some (.int v)) w' := by
  obtain ⟨h0, h⟩ := eBif h
  exact ⟨h0, eMN_of [(0, .ref a0)] (plainFor_of_name (by decide)) (fun _ => rfl) (fun _ => Nat.le_of_ble_eq_true rfl) (fun p e s m args below meth c r0 A X => ev_weak (pc := 0) [0] rfl (sX10_rain_0 _ _ _ h p e s m args below meth c r0 A X))⟩
theorem dX10_undo_0 : decode cX10_undo 0 = .ok (.aload_n 0, 1) := by decide +kernel
theorem dX10_undo_1 : decode cX10_undo 1 = .ok (.getfield 37, 3) := by decide +kernel
theorem dX10_undo_4 : decode cX10_undo 4 = .ok (.invokevirtual 202, 3) := by decide +kernel
theorem dX10_undo_7 : decode cX10_undo 7 = .ok (.ifCond .eq 13, 3) := by decide +kernel
theorem dX10_undo_10 : decode cX10_undo 10 = .ok (.aload_n 0, 1) := by decide +kernel
theorem dX10_undo_11 : decode cX10_undo 11 = .ok (.getfield 37, 3) := by decide +kernel
theorem dX10_undo_14 : decode cX10_undo 14 = .ok (.invokevirtual 180, 3) := by decide +kernel
theorem dX10_undo_17 : decode cX10_undo 17 = .ok (.goto 5, 3) := by decide +kernel
theorem dX10_undo_20 : decode cX10_undo 20 = .ok (.bipush (-2), 2) := by decide +kernel
theorem dX10_undo_22 : decode cX10_undo 22 = .ok (.ireturn, 1) := by decide +kernel
def fX10_undo_0 (x0 : Nat) (w : eW) : Option (Int32 × eW) := (eGR w x0 10 3).bind fun v1 => eBind2 (fX4_takeBack v1 w) fun v3 w2 => if v3 = 0 then (some ((-2 : Int32), w2)) else ((eGR w2 x0 10 3).bind fun v4 => eBind2 (fX4_known v4 w2) fun v6 w5 => some (v6, w5))
set_option maxRecDepth 20000 in
theorem sX10_undo_0  (x0 : Nat) (w : eW) (r : Int32 × eW) (h : fX10_undo_0 x0 w = some r) : eBN l D cI cZ 3 yX10_undo cX10_undo 1 (some .int) 0 [(0, .ref x0)] [] w (some (.int r.1)) r.2 := by
  rw [fX10_undo_0] at h
  intro p e s m args below meth c r0 A X
  refine ev_aload_n (pc := 0) X 0 dX10_undo_0 rfl rfl ?_
  obtain ⟨v1, hv1, h⟩ := eBi h
  refine ev_getR (pc := 1) X hcX10 (k := 3) (by decide) kfX10_37 dX10_undo_1 hv1 ?_
  obtain ⟨v3, w2, hc, h⟩ := eB2 h
  refine ev_callV_i (pc := 4) (As := []) (S := []) X hwX4_takeBack klX10_202 hiX4_takeBack hsX4_takeBack (ci := 4) ⟨rfl, rfl⟩ ⟨Nat.le_of_ble_eq_true rfl, Nat.le_of_ble_eq_true rfl⟩ ⟨Nat.le_refl _, Nat.le_refl _⟩ rfl (Nat.le_of_ble_eq_true rfl) dX10_undo_4 rfl (mX4_takeBack (l := l) (D := D) (cI := cI) (cZ := cZ) hc).1 (mX4_takeBack hc).2 ?_
  refine ev_if_eq (pc := 7) X 20 dX10_undo_7 rfl (fun hc => ?_) (fun hc => ?_)
  · rw [if_pos hc] at h
    refine ev_bipush (pc := 20) (v := (-2 : Int32)) X dX10_undo_20 rfl ?_
    obtain rfl := Option.some.inj h
    exact ev_iret (pc := 22) X dX10_undo_22
  · rw [if_neg hc] at h
    refine ev_aload_n (pc := 10) X 0 dX10_undo_10 rfl rfl ?_
    obtain ⟨v4, hv4, h⟩ := eBi h
    refine ev_getR (pc := 11) X hcX10 (k := 3) (by decide) kfX10_37 dX10_undo_11 hv4 ?_
    obtain ⟨v6, w5, hc, h⟩ := eB2 h
    refine ev_callV_i (pc := 14) (As := []) (S := []) X hwX4_known klX10_180 hiX4_known hsX4_known (ci := 4) ⟨rfl, rfl⟩ ⟨Nat.le_of_ble_eq_true rfl, Nat.le_of_ble_eq_true rfl⟩ ⟨Nat.le_refl _, Nat.le_refl _⟩ rfl (Nat.le_of_ble_eq_true rfl) dX10_undo_14 rfl (mX4_known (l := l) (D := D) (cI := cI) (cZ := cZ) hc).1 (mX4_known hc).2 ?_
    refine ev_goto (pc := 17) X 22 dX10_undo_17 rfl ?_
    obtain rfl := Option.some.inj h
    exact ev_iret (pc := 22) X dX10_undo_22
def fX10_undo (a0 : Nat) (w : eW) : Option (Int32 × eW) := bif eO w a0 10 then fX10_undo_0 a0 w else none
theorem mX10_undo {a0 : Nat} {w : eW} {v : Int32} {w' : eW} (h : fX10_undo a0 w = some (v, w')) : eO w a0 10 = true ∧ eMN l D cI cZ 3 yX10_undo cX10_undo 1 (some .int) [.ref a0] w (some (.int v)) w' := by
  obtain ⟨h0, h⟩ := eBif h
  exact ⟨h0, eMN_of [(0, .ref a0)] (plainFor_of_name (by decide)) (fun _ => rfl) (fun _ => Nat.le_of_ble_eq_true rfl) (fun p e s m args below meth c r0 A X => ev_weak (pc := 0) [0] rfl (sX10_undo_0 _ _ _ h p e s m args below meth c r0 A X))⟩
theorem dX10_joined_0 : decode cX10_joined 0 = .ok (.aload_n 0, 1) := by decide +kernel
theorem dX10_joined_1 : decode cX10_joined 1 = .ok (.getfield 12, 3) := by decide +kernel
theorem dX10_joined_4 : decode cX10_joined 4 = .ok (.iload_n 1, 1) := by decide +kernel
theorem dX10_joined_5 : decode cX10_joined 5 = .ok (.invokevirtual 122, 3) := by decide +kernel
theorem dX10_joined_8 : decode cX10_joined 8 = .ok (.ifCond .eq 14, 3) := by decide +kernel
theorem dX10_joined_11 : decode cX10_joined 11 = .ok (.aload_n 0, 1) := by decide +kernel
theorem dX10_joined_12 : decode cX10_joined 12 = .ok (.getfield 12, 3) := by decide +kernel
theorem dX10_joined_15 : decode cX10_joined 15 = .ok (.iload_n 2, 1) := by decide +kernel
theorem dX10_joined_16 : decode cX10_joined 16 = .ok (.invokevirtual 122, 3) := by decide +kernel
theorem dX10_joined_19 : decode cX10_joined 19 = .ok (.ifCond .ne 5, 3) := by decide +kernel
theorem dX10_joined_22 : decode cX10_joined 22 = .ok (.iconst (-1), 1) := by decide +kernel
theorem dX10_joined_23 : decode cX10_joined 23 = .ok (.ireturn, 1) := by decide +kernel
theorem dX10_joined_24 : decode cX10_joined 24 = .ok (.aload_n 0, 1) := by decide +kernel
theorem dX10_joined_25 : decode cX10_joined 25 = .ok (.getfield 57, 3) := by decide +kernel
theorem dX10_joined_28 : decode cX10_joined 28 = .ok (.aload_n 0, 1) := by decide +kernel
theorem dX10_joined_29 : decode cX10_joined 29 = .ok (.getfield 28, 3) := by decide +kernel
theorem dX10_joined_32 : decode cX10_joined 32 = .ok (.invokevirtual 157, 3) := by decide +kernel
theorem dX10_joined_35 : decode cX10_joined 35 = .ok (.aload_n 0, 1) := by decide +kernel
theorem dX10_joined_36 : decode cX10_joined 36 = .ok (.getfield 57, 3) := by decide +kernel
theorem dX10_joined_39 : decode cX10_joined 39 = .ok (.iload_n 1, 1) := by decide +kernel
theorem dX10_joined_40 : decode cX10_joined 40 = .ok (.invokestatic 206, 3) := by decide +kernel
theorem dX10_joined_43 : decode cX10_joined 43 = .ok (.bipush 20, 2) := by decide +kernel
theorem dX10_joined_45 : decode cX10_joined 45 = .ok (.invokevirtual 209, 3) := by decide +kernel
theorem dX10_joined_48 : decode cX10_joined 48 = .ok (.iload_n 2, 1) := by decide +kernel
theorem dX10_joined_49 : decode cX10_joined 49 = .ok (.invokestatic 206, 3) := by decide +kernel
theorem dX10_joined_52 : decode cX10_joined 52 = .ok (.iand, 1) := by decide +kernel
theorem dX10_joined_53 : decode cX10_joined 53 = .ok (.ifCond .eq 7, 3) := by decide +kernel
theorem dX10_joined_56 : decode cX10_joined 56 = .ok (.iconst 1, 1) := by decide +kernel
theorem dX10_joined_57 : decode cX10_joined 57 = .ok (.goto 4, 3) := by decide +kernel
theorem dX10_joined_60 : decode cX10_joined 60 = .ok (.iconst 0, 1) := by decide +kernel
theorem dX10_joined_61 : decode cX10_joined 61 = .ok (.ireturn, 1) := by decide +kernel
def fX10_joined_0 (x0 : Nat) (x1 : Int32) (x2 : Int32) (w : eW) : Option (Int32 × eW) := (eGR w x0 10 0).bind fun v1 => eBind2 (fX1_hasCell v1 x1 w) fun v3 w2 => if v3 = 0 then (some ((-1 : Int32), w2)) else ((eGR w2 x0 10 0).bind fun v4 => eBind2 (fX1_hasCell v4 x2 w2) fun v6 w5 => if v6 = 0 then (some ((-1 : Int32), w5)) else ((eGR w5 x0 10 6).bind fun v7 => (eGR w5 x0 10 2).bind fun v8 => (fX6_lay v7 v8 w5).bind fun w9 => (eGR w9 x0 10 6).bind fun v10 => eBind2 (fX10_bit x1 w9) fun v12 w11 => eBind2 (fX6_reach v10 v12 (20 : Int32) w11) fun v14 w13 => eBind2 (fX10_bit x2 w13) fun v16 w15 => if (v14 &&& v16) = 0 then (some ((0 : Int32), w15)) else (some ((1 : Int32), w15))))
set_option maxRecDepth 20000 in
theorem sX10_joined_0  (x0 : Nat) (x1 : Int32) (x2 : Int32) (w : eW) (r : Int32 × eW) (h : fX10_joined_0 x0 x1 x2 w = some r) : eBN l D cI cZ 3 yX10_joined cX10_joined 3 (some .int) 0 [(0, .ref x0), (1, .int x1), (2, .int x2)] [] w (some (.int r.1)) r.2 := by
  rw [fX10_joined_0] at h
  intro p e s m args below meth c r0 A X
  refine ev_aload_n (pc := 0) X 0 dX10_joined_0 rfl rfl ?_
  obtain ⟨v1, hv1, h⟩ := eBi h
  refine ev_getR (pc := 1) X hcX10 (k := 0) (by decide) kfX10_12 dX10_joined_1 hv1 ?_
  refine ev_iload_n (pc := 4) X 1 dX10_joined_4 rfl rfl ?_
  obtain ⟨v3, w2, hc, h⟩ := eB2 h
  refine ev_callV_i (pc := 5) (As := [.int x1]) (S := []) X hwX1_hasCell klX10_122 hiX1_hasCell hsX1_hasCell (ci := 1) ⟨rfl, rfl⟩ ⟨Nat.le_of_ble_eq_true rfl, Nat.le_of_ble_eq_true rfl⟩ ⟨Nat.le_refl _, Nat.le_refl _⟩ rfl (Nat.le_of_ble_eq_true rfl) dX10_joined_5 rfl (mX1_hasCell (l := l) (D := D) (cI := cI) (cZ := cZ) hc).1 (mX1_hasCell hc).2 ?_
  refine ev_if_eq (pc := 8) X 22 dX10_joined_8 rfl (fun hc => ?_) (fun hc => ?_)
  · rw [if_pos hc] at h
    refine ev_iconst (pc := 22) (v := (-1 : Int32)) X dX10_joined_22 rfl ?_
    obtain rfl := Option.some.inj h
    exact ev_iret (pc := 23) X dX10_joined_23
  · rw [if_neg hc] at h
    refine ev_aload_n (pc := 11) X 0 dX10_joined_11 rfl rfl ?_
    obtain ⟨v4, hv4, h⟩ := eBi h
    refine ev_getR (pc := 12) X hcX10 (k := 0) (by decide) kfX10_12 dX10_joined_12 hv4 ?_
    refine ev_iload_n (pc := 15) X 2 dX10_joined_15 rfl rfl ?_
    obtain ⟨v6, w5, hc, h⟩ := eB2 h
    refine ev_callV_i (pc := 16) (As := [.int x2]) (S := []) X hwX1_hasCell klX10_122 hiX1_hasCell hsX1_hasCell (ci := 1) ⟨rfl, rfl⟩ ⟨Nat.le_of_ble_eq_true rfl, Nat.le_of_ble_eq_true rfl⟩ ⟨Nat.le_refl _, Nat.le_refl _⟩ rfl (Nat.le_of_ble_eq_true rfl) dX10_joined_16 rfl (mX1_hasCell (l := l) (D := D) (cI := cI) (cZ := cZ) hc).1 (mX1_hasCell hc).2 ?_
    refine ev_if_ne (pc := 19) X 24 dX10_joined_19 rfl (fun hc => ?_) (fun hc => ?_)
    · rw [if_neg hc] at h
      refine ev_aload_n (pc := 24) X 0 dX10_joined_24 rfl rfl ?_
      obtain ⟨v7, hv7, h⟩ := eBi h
      refine ev_getR (pc := 25) X hcX10 (k := 6) (by decide) kfX10_57 dX10_joined_25 hv7 ?_
      refine ev_aload_n (pc := 28) X 0 dX10_joined_28 rfl rfl ?_
      obtain ⟨v8, hv8, h⟩ := eBi h
      refine ev_getR (pc := 29) X hcX10 (k := 2) (by decide) kfX10_28 dX10_joined_29 hv8 ?_
      obtain ⟨w9, hc, h⟩ := eBi h
      refine ev_callV_v (pc := 32) (As := [.ref v8]) (S := []) X hwX6_lay klX10_157 hiX6_lay hsX6_lay (ci := 6) ⟨rfl, rfl⟩ ⟨Nat.le_of_ble_eq_true rfl, Nat.le_of_ble_eq_true rfl⟩ ⟨Nat.le_refl _, Nat.le_refl _⟩ rfl (Nat.le_of_ble_eq_true rfl) dX10_joined_32 rfl (mX6_lay (l := l) (D := D) (cI := cI) (cZ := cZ) hc).1 (mX6_lay hc).2 ?_
      refine ev_aload_n (pc := 35) X 0 dX10_joined_35 rfl rfl ?_
      obtain ⟨v10, hv10, h⟩ := eBi h
      refine ev_getR (pc := 36) X hcX10 (k := 6) (by decide) kfX10_57 dX10_joined_36 hv10 ?_
      refine ev_iload_n (pc := 39) X 1 dX10_joined_39 rfl rfl ?_
      obtain ⟨v12, w11, hc, h⟩ := eB2 h
      refine ev_callS_i (pc := 40) (As := [.int x1]) (S := [.ref v10]) X hwX10_bit klX10_206 htX10_bit ⟨Nat.le_of_ble_eq_true rfl, Nat.le_of_ble_eq_true rfl⟩ ⟨Nat.le_refl _, Nat.le_refl _⟩ rfl (Nat.le_of_ble_eq_true rfl) dX10_joined_40 rfl (mX10_bit hc) ?_
      refine ev_bipush (pc := 43) (v := (20 : Int32)) X dX10_joined_43 rfl ?_
      obtain ⟨v14, w13, hc, h⟩ := eB2 h
      refine ev_callV_i (pc := 45) (As := [.int v12, .int (20 : Int32)]) (S := []) X hwX6_reach klX10_209 hiX6_reach hsX6_reach (ci := 6) ⟨rfl, rfl⟩ ⟨Nat.le_of_ble_eq_true rfl, Nat.le_of_ble_eq_true rfl⟩ ⟨Nat.le_refl _, Nat.le_refl _⟩ rfl (Nat.le_of_ble_eq_true rfl) dX10_joined_45 rfl (mX6_reach (l := l) (D := D) (cI := cI) (cZ := cZ) hc).1 (mX6_reach hc).2 ?_
      refine ev_iload_n (pc := 48) X 2 dX10_joined_48 rfl rfl ?_
      obtain ⟨v16, w15, hc, h⟩ := eB2 h
      refine ev_callS_i (pc := 49) (As := [.int x2]) (S := [.int v14]) X hwX10_bit klX10_206 htX10_bit ⟨Nat.le_of_ble_eq_true rfl, Nat.le_of_ble_eq_true rfl⟩ ⟨Nat.le_refl _, Nat.le_refl _⟩ rfl (Nat.le_of_ble_eq_true rfl) dX10_joined_49 rfl (mX10_bit hc) ?_
      refine ev_iand (pc := 52) X dX10_joined_52 ?_
      refine ev_if_eq (pc := 53) X 60 dX10_joined_53 rfl (fun hc => ?_) (fun hc => ?_)
      · rw [if_pos hc] at h
        refine ev_iconst (pc := 60) (v := (0 : Int32)) X dX10_joined_60 rfl ?_
        obtain rfl := Option.some.inj h
        exact ev_iret (pc := 61) X dX10_joined_61
      · rw [if_neg hc] at h
        refine ev_iconst (pc := 56) (v := (1 : Int32)) X dX10_joined_56 rfl ?_
        refine ev_goto (pc := 57) X 61 dX10_joined_57 rfl ?_
        obtain rfl := Option.some.inj h
        exact ev_iret (pc := 61) X dX10_joined_61
    · rw [if_pos hc] at h
      refine ev_iconst (pc := 22) (v := (-1 : Int32)) X dX10_joined_22 rfl ?_
      obtain rfl := Option.some.inj h
      exact ev_iret (pc := 23) X dX10_joined_23
def fX10_joined (a0 : Nat) (a1 : Int32) (a2 : Int32) (w : eW) : Option (Int32 × eW) := bif eO w a0 10 then fX10_joined_0 a0 a1 a2 w else none
theorem mX10_joined {a0 : Nat} {a1 : Int32} {a2 : Int32} {w : eW} {v : Int32} {w' : eW} (h : fX10_joined a0 a1 a2 w = some (v, w')) : eO w a0 10 = true ∧ eMN l D cI cZ 3 yX10_joined cX10_joined 3 (some .int) [.ref a0, .int a1, .int a2] w (some (.int v)) w' := by
  obtain ⟨h0, h⟩ := eBif h
  exact ⟨h0, eMN_of [(0, .ref a0), (1, .int a1), (2, .int a2)] (plainFor_of_name (by decide)) (fun _ => rfl) (fun _ => Nat.le_of_ble_eq_true rfl) (fun p e s m args below meth c r0 A X => ev_weak (pc := 0) [0, 1, 2] rfl (sX10_joined_0 _ _ _ _ _ h p e s m args below meth c r0 A X))⟩
theorem dX10_toWeave_0 : decode cX10_toWeave 0 = .ok (.aload_n 0, 1) := by decide +kernel
theorem dX10_toWeave_1 : decode cX10_toWeave 1 = .ok (.getfield 57, 3) := by decide +kernel
theorem dX10_toWeave_4 : decode cX10_toWeave 4 = .ok (.aload_n 0, 1) := by decide +kernel
theorem dX10_toWeave_5 : decode cX10_toWeave 5 = .ok (.getfield 28, 3) := by decide +kernel
theorem dX10_toWeave_8 : decode cX10_toWeave 8 = .ok (.invokevirtual 157, 3) := by decide +kernel
theorem dX10_toWeave_11 : decode cX10_toWeave 11 = .ok (.aload_n 0, 1) := by decide +kernel
theorem dX10_toWeave_12 : decode cX10_toWeave 12 = .ok (.getfield 75, 3) := by decide +kernel
theorem dX10_toWeave_15 : decode cX10_toWeave 15 = .ok (.invokevirtual 212, 3) := by decide +kernel
theorem dX10_toWeave_18 : decode cX10_toWeave 18 = .ok (.ireturn, 1) := by decide +kernel
def fX10_toWeave_0 (x0 : Nat) (w : eW) : Option (Int32 × eW) := (eGR w x0 10 6).bind fun v1 => (eGR w x0 10 2).bind fun v2 => (fX6_lay v1 v2 w).bind fun w3 => (eGR w3 x0 10 8).bind fun v4 => eBind2 (fX9_fewestElls v4 w3) fun v6 w5 => some (v6, w5)
set_option maxRecDepth 20000 in
theorem sX10_toWeave_0  (x0 : Nat) (w : eW) (r : Int32 × eW) (h : fX10_toWeave_0 x0 w = some r) : eBN l D cI cZ 5 yX10_toWeave cX10_toWeave 1 (some .int) 0 [(0, .ref x0)] [] w (some (.int r.1)) r.2 := by
  rw [fX10_toWeave_0] at h
  intro p e s m args below meth c r0 A X
  refine ev_aload_n (pc := 0) X 0 dX10_toWeave_0 rfl rfl ?_
  obtain ⟨v1, hv1, h⟩ := eBi h
  refine ev_getR (pc := 1) X hcX10 (k := 6) (by decide) kfX10_57 dX10_toWeave_1 hv1 ?_
  refine ev_aload_n (pc := 4) X 0 dX10_toWeave_4 rfl rfl ?_
  obtain ⟨v2, hv2, h⟩ := eBi h
  refine ev_getR (pc := 5) X hcX10 (k := 2) (by decide) kfX10_28 dX10_toWeave_5 hv2 ?_
  obtain ⟨w3, hc, h⟩ := eBi h
  refine ev_callV_v (pc := 8) (As := [.ref v2]) (S := []) X hwX6_lay klX10_157 hiX6_lay hsX6_lay (ci := 6) ⟨rfl, rfl⟩ ⟨Nat.le_of_ble_eq_true rfl, Nat.le_of_ble_eq_true rfl⟩ ⟨Nat.le_refl _, Nat.le_refl _⟩ rfl (Nat.le_of_ble_eq_true rfl) dX10_toWeave_8 rfl (mX6_lay (l := l) (D := D) (cI := cI) (cZ := cZ) hc).1 (mX6_lay hc).2 ?_
  refine ev_aload_n (pc := 11) X 0 dX10_toWeave_11 rfl rfl ?_
  obtain ⟨v4, hv4, h⟩ := eBi h
  refine ev_getR (pc := 12) X hcX10 (k := 8) (by decide) kfX10_75 dX10_toWeave_12 hv4 ?_
  obtain ⟨v6, w5, hc, h⟩ := eB2 h
  refine ev_callV_i (pc := 15) (As := []) (S := []) X hwX9_fewestElls klX10_212 hiX9_fewestElls hsX9_fewestElls (ci := 9) ⟨rfl, rfl⟩ ⟨Nat.le_of_ble_eq_true rfl, Nat.le_of_ble_eq_true rfl⟩ ⟨Nat.le_refl _, Nat.le_refl _⟩ rfl (Nat.le_of_ble_eq_true rfl) dX10_toWeave_15 rfl (mX9_fewestElls (l := l) (D := D) (cI := cI) (cZ := cZ) hc).1 (mX9_fewestElls hc).2 ?_
  obtain rfl := Option.some.inj h
  exact ev_iret (pc := 18) X dX10_toWeave_18
def fX10_toWeave (a0 : Nat) (w : eW) : Option (Int32 × eW) := bif eO w a0 10 then fX10_toWeave_0 a0 w else none
theorem mX10_toWeave {a0 : Nat} {w : eW} {v : Int32} {w' : eW} (h : fX10_toWeave a0 w = some (v, w')) : eO w a0 10 = true ∧ eMN l D cI cZ 5 yX10_toWeave cX10_toWeave 1 (some .int) [.ref a0] w (some (.int v)) w' := by
  obtain ⟨h0, h⟩ := eBif h
  exact ⟨h0, eMN_of [(0, .ref a0)] (plainFor_of_name (by decide)) (fun _ => rfl) (fun _ => Nat.le_of_ble_eq_true rfl) (fun p e s m args below meth c r0 A X => ev_weak (pc := 0) [0] rfl (sX10_toWeave_0 _ _ _ h p e s m args below meth c r0 A X))⟩
theorem dX10_way_0 : decode cX10_way 0 = .ok (.aload_n 0, 1) := by decide +kernel
theorem dX10_way_1 : decode cX10_way 1 = .ok (.getfield 12, 3) := by decide +kernel
theorem dX10_way_4 : decode cX10_way 4 = .ok (.iload_n 1, 1) := by decide +kernel
theorem dX10_way_5 : decode cX10_way 5 = .ok (.invokevirtual 122, 3) := by decide +kernel
theorem dX10_way_8 : decode cX10_way 8 = .ok (.ifCond .eq 14, 3) := by decide +kernel
theorem dX10_way_11 : decode cX10_way 11 = .ok (.aload_n 0, 1) := by decide +kernel
theorem dX10_way_12 : decode cX10_way 12 = .ok (.getfield 12, 3) := by decide +kernel
theorem dX10_way_15 : decode cX10_way 15 = .ok (.iload_n 2, 1) := by decide +kernel
theorem dX10_way_16 : decode cX10_way 16 = .ok (.invokevirtual 122, 3) := by decide +kernel
theorem dX10_way_19 : decode cX10_way 19 = .ok (.ifCond .ne 5, 3) := by decide +kernel
theorem dX10_way_22 : decode cX10_way 22 = .ok (.iconst (-1), 1) := by decide +kernel
theorem dX10_way_23 : decode cX10_way 23 = .ok (.ireturn, 1) := by decide +kernel
theorem dX10_way_24 : decode cX10_way 24 = .ok (.aload_n 0, 1) := by decide +kernel
theorem dX10_way_25 : decode cX10_way 25 = .ok (.getfield 57, 3) := by decide +kernel
theorem dX10_way_28 : decode cX10_way 28 = .ok (.aload_n 0, 1) := by decide +kernel
theorem dX10_way_29 : decode cX10_way 29 = .ok (.getfield 28, 3) := by decide +kernel
theorem dX10_way_32 : decode cX10_way 32 = .ok (.invokevirtual 157, 3) := by decide +kernel
theorem dX10_way_35 : decode cX10_way 35 = .ok (.aload_n 0, 1) := by decide +kernel
theorem dX10_way_36 : decode cX10_way 36 = .ok (.getfield 66, 3) := by decide +kernel
theorem dX10_way_39 : decode cX10_way 39 = .ok (.iload_n 1, 1) := by decide +kernel
theorem dX10_way_40 : decode cX10_way 40 = .ok (.iload_n 2, 1) := by decide +kernel
theorem dX10_way_41 : decode cX10_way 41 = .ok (.invokevirtual 215, 3) := by decide +kernel
theorem dX10_way_44 : decode cX10_way 44 = .ok (.ireturn, 1) := by decide +kernel
def fX10_way_0 (x0 : Nat) (x1 : Int32) (x2 : Int32) (w : eW) : Option (Int32 × eW) := (eGR w x0 10 0).bind fun v1 => eBind2 (fX1_hasCell v1 x1 w) fun v3 w2 => if v3 = 0 then (some ((-1 : Int32), w2)) else ((eGR w2 x0 10 0).bind fun v4 => eBind2 (fX1_hasCell v4 x2 w2) fun v6 w5 => if v6 = 0 then (some ((-1 : Int32), w5)) else ((eGR w5 x0 10 6).bind fun v7 => (eGR w5 x0 10 2).bind fun v8 => (fX6_lay v7 v8 w5).bind fun w9 => (eGR w9 x0 10 7).bind fun v10 => eBind2 (fX8_soonest v10 x1 x2 w9) fun v12 w11 => some (v12, w11)))
set_option maxRecDepth 20000 in
theorem sX10_way_0  (x0 : Nat) (x1 : Int32) (x2 : Int32) (w : eW) (r : Int32 × eW) (h : fX10_way_0 x0 x1 x2 w = some r) : eBN l D cI cZ 6 yX10_way cX10_way 3 (some .int) 0 [(0, .ref x0), (1, .int x1), (2, .int x2)] [] w (some (.int r.1)) r.2 := by
  rw [fX10_way_0] at h
  intro p e s m args below meth c r0 A X
  refine ev_aload_n (pc := 0) X 0 dX10_way_0 rfl rfl ?_
  obtain ⟨v1, hv1, h⟩ := eBi h
  refine ev_getR (pc := 1) X hcX10 (k := 0) (by decide) kfX10_12 dX10_way_1 hv1 ?_
  refine ev_iload_n (pc := 4) X 1 dX10_way_4 rfl rfl ?_
  obtain ⟨v3, w2, hc, h⟩ := eB2 h
  refine ev_callV_i (pc := 5) (As := [.int x1]) (S := []) X hwX1_hasCell klX10_122 hiX1_hasCell hsX1_hasCell (ci := 1) ⟨rfl, rfl⟩ ⟨Nat.le_of_ble_eq_true rfl, Nat.le_of_ble_eq_true rfl⟩ ⟨Nat.le_refl _, Nat.le_refl _⟩ rfl (Nat.le_of_ble_eq_true rfl) dX10_way_5 rfl (mX1_hasCell (l := l) (D := D) (cI := cI) (cZ := cZ) hc).1 (mX1_hasCell hc).2 ?_
  refine ev_if_eq (pc := 8) X 22 dX10_way_8 rfl (fun hc => ?_) (fun hc => ?_)
  · rw [if_pos hc] at h
    refine ev_iconst (pc := 22) (v := (-1 : Int32)) X dX10_way_22 rfl ?_
    obtain rfl := Option.some.inj h
    exact ev_iret (pc := 23) X dX10_way_23
  · rw [if_neg hc] at h
    refine ev_aload_n (pc := 11) X 0 dX10_way_11 rfl rfl ?_
    obtain ⟨v4, hv4, h⟩ := eBi h
    refine ev_getR (pc := 12) X hcX10 (k := 0) (by decide) kfX10_12 dX10_way_12 hv4 ?_
    refine ev_iload_n (pc := 15) X 2 dX10_way_15 rfl rfl ?_
    obtain ⟨v6, w5, hc, h⟩ := eB2 h
    refine ev_callV_i (pc := 16) (As := [.int x2]) (S := []) X hwX1_hasCell klX10_122 hiX1_hasCell hsX1_hasCell (ci := 1) ⟨rfl, rfl⟩ ⟨Nat.le_of_ble_eq_true rfl, Nat.le_of_ble_eq_true rfl⟩ ⟨Nat.le_refl _, Nat.le_refl _⟩ rfl (Nat.le_of_ble_eq_true rfl) dX10_way_16 rfl (mX1_hasCell (l := l) (D := D) (cI := cI) (cZ := cZ) hc).1 (mX1_hasCell hc).2 ?_
    refine ev_if_ne (pc := 19) X 24 dX10_way_19 rfl (fun hc => ?_) (fun hc => ?_)
    · rw [if_neg hc] at h
      refine ev_aload_n (pc := 24) X 0 dX10_way_24 rfl rfl ?_
      obtain ⟨v7, hv7, h⟩ := eBi h
      refine ev_getR (pc := 25) X hcX10 (k := 6) (by decide) kfX10_57 dX10_way_25 hv7 ?_
      refine ev_aload_n (pc := 28) X 0 dX10_way_28 rfl rfl ?_
      obtain ⟨v8, hv8, h⟩ := eBi h
      refine ev_getR (pc := 29) X hcX10 (k := 2) (by decide) kfX10_28 dX10_way_29 hv8 ?_
      obtain ⟨w9, hc, h⟩ := eBi h
      refine ev_callV_v (pc := 32) (As := [.ref v8]) (S := []) X hwX6_lay klX10_157 hiX6_lay hsX6_lay (ci := 6) ⟨rfl, rfl⟩ ⟨Nat.le_of_ble_eq_true rfl, Nat.le_of_ble_eq_true rfl⟩ ⟨Nat.le_refl _, Nat.le_refl _⟩ rfl (Nat.le_of_ble_eq_true rfl) dX10_way_32 rfl (mX6_lay (l := l) (D := D) (cI := cI) (cZ := cZ) hc).1 (mX6_lay hc).2 ?_
      refine ev_aload_n (pc := 35) X 0 dX10_way_35 rfl rfl ?_
      obtain ⟨v10, hv10, h⟩ := eBi h
      refine ev_getR (pc := 36) X hcX10 (k := 7) (by decide) kfX10_66 dX10_way_36 hv10 ?_
      refine ev_iload_n (pc := 39) X 1 dX10_way_39 rfl rfl ?_
      refine ev_iload_n (pc := 40) X 2 dX10_way_40 rfl rfl ?_
      obtain ⟨v12, w11, hc, h⟩ := eB2 h
      refine ev_callV_i (pc := 41) (As := [.int x1, .int x2]) (S := []) X hwX8_soonest klX10_215 hiX8_soonest hsX8_soonest (ci := 8) ⟨rfl, rfl⟩ ⟨Nat.le_of_ble_eq_true rfl, Nat.le_of_ble_eq_true rfl⟩ ⟨Nat.le_refl _, Nat.le_refl _⟩ rfl (Nat.le_of_ble_eq_true rfl) dX10_way_41 rfl (mX8_soonest (l := l) (D := D) (cI := cI) (cZ := cZ) hc).1 (mX8_soonest hc).2 ?_
      obtain rfl := Option.some.inj h
      exact ev_iret (pc := 44) X dX10_way_44
    · rw [if_pos hc] at h
      refine ev_iconst (pc := 22) (v := (-1 : Int32)) X dX10_way_22 rfl ?_
      obtain rfl := Option.some.inj h
      exact ev_iret (pc := 23) X dX10_way_23
def fX10_way (a0 : Nat) (a1 : Int32) (a2 : Int32) (w : eW) : Option (Int32 × eW) := bif eO w a0 10 then fX10_way_0 a0 a1 a2 w else none
theorem mX10_way {a0 : Nat} {a1 : Int32} {a2 : Int32} {w : eW} {v : Int32} {w' : eW} (h : fX10_way a0 a1 a2 w = some (v, w')) : eO w a0 10 = true ∧ eMN l D cI cZ 6 yX10_way cX10_way 3 (some .int) [.ref a0, .int a1, .int a2] w (some (.int v)) w' := by
  obtain ⟨h0, h⟩ := eBif h
  exact ⟨h0, eMN_of [(0, .ref a0), (1, .int a1), (2, .int a2)] (plainFor_of_name (by decide)) (fun _ => rfl) (fun _ => Nat.le_of_ble_eq_true rfl) (fun p e s m args below meth c r0 A X => ev_weak (pc := 0) [0, 1, 2] rfl (sX10_way_0 _ _ _ _ _ h p e s m args below meth c r0 A X))⟩
theorem dX10_darners_0 : decode cX10_darners 0 = .ok (.iload_n 1, 1) := by decide +kernel
theorem dX10_darners_1 : decode cX10_darners 1 = .ok (.ifCond .lt 9, 3) := by decide +kernel
theorem dX10_darners_4 : decode cX10_darners 4 = .ok (.iload_n 1, 1) := by decide +kernel
theorem dX10_darners_5 : decode cX10_darners 5 = .ok (.bipush 20, 2) := by decide +kernel
theorem dX10_darners_7 : decode cX10_darners 7 = .ok (.if_icmp .le 5, 3) := by decide +kernel
theorem dX10_darners_10 : decode cX10_darners 10 = .ok (.iconst (-1), 1) := by decide +kernel
theorem dX10_darners_11 : decode cX10_darners 11 = .ok (.ireturn, 1) := by decide +kernel
theorem dX10_darners_12 : decode cX10_darners 12 = .ok (.aload_n 0, 1) := by decide +kernel
theorem dX10_darners_13 : decode cX10_darners 13 = .ok (.getfield 57, 3) := by decide +kernel
theorem dX10_darners_16 : decode cX10_darners 16 = .ok (.aload_n 0, 1) := by decide +kernel
theorem dX10_darners_17 : decode cX10_darners 17 = .ok (.getfield 28, 3) := by decide +kernel
theorem dX10_darners_20 : decode cX10_darners 20 = .ok (.invokevirtual 157, 3) := by decide +kernel
theorem dX10_darners_23 : decode cX10_darners 23 = .ok (.aload_n 0, 1) := by decide +kernel
theorem dX10_darners_24 : decode cX10_darners 24 = .ok (.getfield 57, 3) := by decide +kernel
theorem dX10_darners_27 : decode cX10_darners 27 = .ok (.iload_n 1, 1) := by decide +kernel
theorem dX10_darners_28 : decode cX10_darners 28 = .ok (.invokevirtual 218, 3) := by decide +kernel
theorem dX10_darners_31 : decode cX10_darners 31 = .ok (.ireturn, 1) := by decide +kernel
def fX10_darners_0 (x0 : Nat) (x1 : Int32) (w : eW) : Option (Int32 × eW) := if x1 < 0 then (some ((-1 : Int32), w)) else (if x1 ≤ (20 : Int32) then ((eGR w x0 10 6).bind fun v1 => (eGR w x0 10 2).bind fun v2 => (fX6_lay v1 v2 w).bind fun w3 => (eGR w3 x0 10 6).bind fun v4 => eBind2 (fX6_fewestDarners v4 x1 w3) fun v6 w5 => some (v6, w5)) else (some ((-1 : Int32), w)))
set_option maxRecDepth 20000 in
theorem sX10_darners_0  (x0 : Nat) (x1 : Int32) (w : eW) (r : Int32 × eW) (h : fX10_darners_0 x0 x1 w = some r) : eBN l D cI cZ 4 yX10_darners cX10_darners 2 (some .int) 0 [(0, .ref x0), (1, .int x1)] [] w (some (.int r.1)) r.2 := by
  rw [fX10_darners_0] at h
  intro p e s m args below meth c r0 A X
  refine ev_iload_n (pc := 0) X 1 dX10_darners_0 rfl rfl ?_
  refine ev_if_lt (pc := 1) X 10 dX10_darners_1 rfl (fun hc => ?_) (fun hc => ?_)
  · rw [if_pos hc] at h
    refine ev_iconst (pc := 10) (v := (-1 : Int32)) X dX10_darners_10 rfl ?_
    obtain rfl := Option.some.inj h
    exact ev_iret (pc := 11) X dX10_darners_11
  · rw [if_neg hc] at h
    refine ev_iload_n (pc := 4) X 1 dX10_darners_4 rfl rfl ?_
    refine ev_bipush (pc := 5) (v := (20 : Int32)) X dX10_darners_5 rfl ?_
    refine ev_icmp_le (pc := 7) X 12 dX10_darners_7 rfl (fun hc => ?_) (fun hc => ?_)
    · rw [if_pos hc] at h
      refine ev_aload_n (pc := 12) X 0 dX10_darners_12 rfl rfl ?_
      obtain ⟨v1, hv1, h⟩ := eBi h
      refine ev_getR (pc := 13) X hcX10 (k := 6) (by decide) kfX10_57 dX10_darners_13 hv1 ?_
      refine ev_aload_n (pc := 16) X 0 dX10_darners_16 rfl rfl ?_
      obtain ⟨v2, hv2, h⟩ := eBi h
      refine ev_getR (pc := 17) X hcX10 (k := 2) (by decide) kfX10_28 dX10_darners_17 hv2 ?_
      obtain ⟨w3, hc, h⟩ := eBi h
      refine ev_callV_v (pc := 20) (As := [.ref v2]) (S := []) X hwX6_lay klX10_157 hiX6_lay hsX6_lay (ci := 6) ⟨rfl, rfl⟩ ⟨Nat.le_of_ble_eq_true rfl, Nat.le_of_ble_eq_true rfl⟩ ⟨Nat.le_refl _, Nat.le_refl _⟩ rfl (Nat.le_of_ble_eq_true rfl) dX10_darners_20 rfl (mX6_lay (l := l) (D := D) (cI := cI) (cZ := cZ) hc).1 (mX6_lay hc).2 ?_
      refine ev_aload_n (pc := 23) X 0 dX10_darners_23 rfl rfl ?_
      obtain ⟨v4, hv4, h⟩ := eBi h
      refine ev_getR (pc := 24) X hcX10 (k := 6) (by decide) kfX10_57 dX10_darners_24 hv4 ?_
      refine ev_iload_n (pc := 27) X 1 dX10_darners_27 rfl rfl ?_
      obtain ⟨v6, w5, hc, h⟩ := eB2 h
      refine ev_callV_i (pc := 28) (As := [.int x1]) (S := []) X hwX6_fewestDarners klX10_218 hiX6_fewestDarners hsX6_fewestDarners (ci := 6) ⟨rfl, rfl⟩ ⟨Nat.le_of_ble_eq_true rfl, Nat.le_of_ble_eq_true rfl⟩ ⟨Nat.le_refl _, Nat.le_refl _⟩ rfl (Nat.le_of_ble_eq_true rfl) dX10_darners_28 rfl (mX6_fewestDarners (l := l) (D := D) (cI := cI) (cZ := cZ) hc).1 (mX6_fewestDarners hc).2 ?_
      obtain rfl := Option.some.inj h
      exact ev_iret (pc := 31) X dX10_darners_31
    · rw [if_neg hc] at h
      refine ev_iconst (pc := 10) (v := (-1 : Int32)) X dX10_darners_10 rfl ?_
      obtain rfl := Option.some.inj h
      exact ev_iret (pc := 11) X dX10_darners_11
def fX10_darners (a0 : Nat) (a1 : Int32) (w : eW) : Option (Int32 × eW) := bif eO w a0 10 then fX10_darners_0 a0 a1 w else none
theorem mX10_darners {a0 : Nat} {a1 : Int32} {w : eW} {v : Int32} {w' : eW} (h : fX10_darners a0 a1 w = some (v, w')) : eO w a0 10 = true ∧ eMN l D cI cZ 4 yX10_darners cX10_darners 2 (some .int) [.ref a0, .int a1] w (some (.int v)) w' := by
  obtain ⟨h0, h⟩ := eBif h
  exact ⟨h0, eMN_of [(0, .ref a0), (1, .int a1)] (plainFor_of_name (by decide)) (fun _ => rfl) (fun _ => Nat.le_of_ble_eq_true rfl) (fun p e s m args below meth c r0 A X => ev_weak (pc := 0) [0, 1] rfl (sX10_darners_0 _ _ _ _ h p e s m args below meth c r0 A X))⟩
theorem dX10_commonDivisor_0 : decode cX10_commonDivisor 0 = .ok (.iload_n 0, 1) := by decide +kernel
theorem dX10_commonDivisor_1 : decode cX10_commonDivisor 1 = .ok (.istore_n 2, 1) := by decide +kernel
theorem dX10_commonDivisor_2 : decode cX10_commonDivisor 2 = .ok (.iload_n 1, 1) := by decide +kernel
theorem dX10_commonDivisor_3 : decode cX10_commonDivisor 3 = .ok (.istore_n 3, 1) := by decide +kernel
theorem dX10_commonDivisor_4 : decode cX10_commonDivisor 4 = .ok (.iconst 0, 1) := by decide +kernel
theorem dX10_commonDivisor_5 : decode cX10_commonDivisor 5 = .ok (.istore 4, 2) := by decide +kernel
theorem dX10_commonDivisor_7 : decode cX10_commonDivisor 7 = .ok (.iload 4, 2) := by decide +kernel
theorem dX10_commonDivisor_9 : decode cX10_commonDivisor 9 = .ok (.bipush 64, 2) := by decide +kernel
theorem dX10_commonDivisor_11 : decode cX10_commonDivisor 11 = .ok (.if_icmp .ge 23, 3) := by decide +kernel
theorem dX10_commonDivisor_14 : decode cX10_commonDivisor 14 = .ok (.iload_n 3, 1) := by decide +kernel
theorem dX10_commonDivisor_15 : decode cX10_commonDivisor 15 = .ok (.ifCond .eq 19, 3) := by decide +kernel
theorem dX10_commonDivisor_18 : decode cX10_commonDivisor 18 = .ok (.iload_n 2, 1) := by decide +kernel
theorem dX10_commonDivisor_19 : decode cX10_commonDivisor 19 = .ok (.iload_n 3, 1) := by decide +kernel
theorem dX10_commonDivisor_20 : decode cX10_commonDivisor 20 = .ok (.irem, 1) := by decide +kernel
theorem dX10_commonDivisor_21 : decode cX10_commonDivisor 21 = .ok (.istore 5, 2) := by decide +kernel
theorem dX10_commonDivisor_23 : decode cX10_commonDivisor 23 = .ok (.iload_n 3, 1) := by decide +kernel
theorem dX10_commonDivisor_24 : decode cX10_commonDivisor 24 = .ok (.istore_n 2, 1) := by decide +kernel
theorem dX10_commonDivisor_25 : decode cX10_commonDivisor 25 = .ok (.iload 5, 2) := by decide +kernel
theorem dX10_commonDivisor_27 : decode cX10_commonDivisor 27 = .ok (.istore_n 3, 1) := by decide +kernel
theorem dX10_commonDivisor_28 : decode cX10_commonDivisor 28 = .ok (.iinc 4 1, 3) := by decide +kernel
theorem dX10_commonDivisor_31 : decode cX10_commonDivisor 31 = .ok (.goto (-24), 3) := by decide +kernel
theorem dX10_commonDivisor_34 : decode cX10_commonDivisor 34 = .ok (.iload_n 2, 1) := by decide +kernel
theorem dX10_commonDivisor_35 : decode cX10_commonDivisor 35 = .ok (.ireturn, 1) := by decide +kernel
def fX10_commonDivisor_7 : Nat → Int32 → Int32 → Int32 → eW → Option (Int32 × eW)
  | 0, _, _, _, _ => none
  | n + 1, x2, x3, x4, w => if (64 : Int32) ≤ x4 then (some (x2, w)) else (if x3 = 0 then (some (x2, w)) else (if x3 = 0 then none else fX10_commonDivisor_7 n x3 (x2 - x2 / x3 * x3) (x4 + (1 : Int32)) w))
set_option maxRecDepth 20000 in
theorem sX10_commonDivisor_7  : ∀ (n : Nat) (x2 : Int32) (x3 : Int32) (x4 : Int32) (w : eW) (r : Int32 × eW), fX10_commonDivisor_7 n x2 x3 x4 w = some r → eBN l D cI cZ 0 yX10_commonDivisor cX10_commonDivisor 6 (some .int) 7 [(2, .int x2), (3, .int x3), (4, .int x4)] [] w (some (.int r.1)) r.2 := by
  intro n
  induction n with
  | zero => intro x2 x3 x4 w r h; exact absurd (show (none : Option (Int32 × eW)) = some r from h) (by simp)
  | succ n ih =>
    intro x2 x3 x4 w r h
    rw [fX10_commonDivisor_7] at h
    intro p e s m args below meth c r0 A X
    refine ev_iload (pc := 7) X 2 dX10_commonDivisor_7 rfl ?_
    refine ev_bipush (pc := 9) (v := (64 : Int32)) X dX10_commonDivisor_9 rfl ?_
    refine ev_icmp_ge (pc := 11) X 34 dX10_commonDivisor_11 rfl (fun hc => ?_) (fun hc => ?_)
    · rw [if_pos hc] at h
      refine ev_iload_n (pc := 34) X 0 dX10_commonDivisor_34 rfl rfl ?_
      obtain rfl := Option.some.inj h
      exact ev_iret (pc := 35) X dX10_commonDivisor_35
    · rw [if_neg hc] at h
      refine ev_iload_n (pc := 14) X 1 dX10_commonDivisor_14 rfl rfl ?_
      refine ev_if_eq (pc := 15) X 34 dX10_commonDivisor_15 rfl (fun hc => ?_) (fun hc => ?_)
      · rw [if_pos hc] at h
        refine ev_iload_n (pc := 34) X 0 dX10_commonDivisor_34 rfl rfl ?_
        obtain rfl := Option.some.inj h
        exact ev_iret (pc := 35) X dX10_commonDivisor_35
      · rw [if_neg hc] at h
        refine ev_iload_n (pc := 18) X 0 dX10_commonDivisor_18 rfl rfl ?_
        refine ev_iload_n (pc := 19) X 1 dX10_commonDivisor_19 rfl rfl ?_
        obtain ⟨hz, h⟩ := eNz h
        refine ev_irem (pc := 20) X dX10_commonDivisor_20 hz ?_
        refine ev_istore (pc := 21) (L' := [(5, .int (x2 - x2 / x3 * x3)), (2, .int x2), (3, .int x3), (4, .int x4)]) X dX10_commonDivisor_21 (by decide) rfl ?_
        refine ev_iload_n (pc := 23) X 2 dX10_commonDivisor_23 rfl rfl ?_
        refine ev_istore_n (pc := 24) (L' := [(2, .int x3), (5, .int (x2 - x2 / x3 * x3)), (3, .int x3), (4, .int x4)]) X dX10_commonDivisor_24 rfl (by decide) rfl ?_
        refine ev_iload (pc := 25) X 1 dX10_commonDivisor_25 rfl ?_
        refine ev_istore_n (pc := 27) (L' := [(3, .int (x2 - x2 / x3 * x3)), (2, .int x3), (5, .int (x2 - x2 / x3 * x3)), (4, .int x4)]) X dX10_commonDivisor_27 rfl (by decide) rfl ?_
        refine ev_iinc (pc := 28) (v := x4 + (1 : Int32)) (L' := [(4, .int (x4 + (1 : Int32))), (3, .int (x2 - x2 / x3 * x3)), (2, .int x3), (5, .int (x2 - x2 / x3 * x3))]) X 3 dX10_commonDivisor_28 rfl rfl (by decide) rfl ?_
        refine ev_goto (pc := 31) X 7 dX10_commonDivisor_31 rfl ?_
        exact ev_weak (pc := 7) [2, 1, 0] rfl (ih _ _ _ _ _ h p e s m args below meth c r0 A X)
def fX10_commonDivisor_0 (x0 : Int32) (x1 : Int32) (w : eW) : Option (Int32 × eW) := fX10_commonDivisor_7 eN x0 x1 (0 : Int32) w
set_option maxRecDepth 20000 in
theorem sX10_commonDivisor_0  (x0 : Int32) (x1 : Int32) (w : eW) (r : Int32 × eW) (h : fX10_commonDivisor_0 x0 x1 w = some r) : eBN l D cI cZ 0 yX10_commonDivisor cX10_commonDivisor 6 (some .int) 0 [(0, .int x0), (1, .int x1)] [] w (some (.int r.1)) r.2 := by
  rw [fX10_commonDivisor_0] at h
  intro p e s m args below meth c r0 A X
  refine ev_iload_n (pc := 0) X 0 dX10_commonDivisor_0 rfl rfl ?_
  refine ev_istore_n (pc := 1) (L' := [(2, .int x0), (0, .int x0), (1, .int x1)]) X dX10_commonDivisor_1 rfl (by decide) rfl ?_
  refine ev_iload_n (pc := 2) X 2 dX10_commonDivisor_2 rfl rfl ?_
  refine ev_istore_n (pc := 3) (L' := [(3, .int x1), (2, .int x0), (0, .int x0), (1, .int x1)]) X dX10_commonDivisor_3 rfl (by decide) rfl ?_
  refine ev_iconst (pc := 4) (v := (0 : Int32)) X dX10_commonDivisor_4 rfl ?_
  refine ev_istore (pc := 5) (L' := [(4, .int (0 : Int32)), (3, .int x1), (2, .int x0), (0, .int x0), (1, .int x1)]) X dX10_commonDivisor_5 (by decide) rfl ?_
  exact ev_weak (pc := 7) [2, 1, 0] rfl (sX10_commonDivisor_7 eN _ _ _ _ _ h p e s m args below meth c r0 A X)
def fX10_commonDivisor (a0 : Int32) (a1 : Int32) (w : eW) : Option (Int32 × eW) := fX10_commonDivisor_0 a0 a1 w
theorem mX10_commonDivisor {a0 : Int32} {a1 : Int32} {w : eW} {v : Int32} {w' : eW} (h : fX10_commonDivisor a0 a1 w = some (v, w')) : eMN l D cI cZ 0 yX10_commonDivisor cX10_commonDivisor 6 (some .int) [.int a0, .int a1] w (some (.int v)) w' :=
  eMN_of [(0, .int a0), (1, .int a1)] (plainFor_of_name (by decide)) (fun _ => rfl) (fun _ => Nat.le_of_ble_eq_true rfl) (fun p e s m args below meth c r0 A X => ev_weak (pc := 0) [0, 1] rfl (sX10_commonDivisor_0 _ _ _ _ h p e s m args below meth c r0 A X))
theorem dX10_odds_0 : decode cX10_odds 0 = .ok (.iload_n 1, 1) := by decide +kernel
theorem dX10_odds_1 : decode cX10_odds 1 = .ok (.ifCond .lt 28, 3) := by decide +kernel
theorem dX10_odds_4 : decode cX10_odds 4 = .ok (.iload_n 1, 1) := by decide +kernel
theorem dX10_odds_5 : decode cX10_odds 5 = .ok (.bipush 10, 2) := by decide +kernel
theorem dX10_odds_7 : decode cX10_odds 7 = .ok (.if_icmp .gt 22, 3) := by decide +kernel
theorem dX10_odds_10 : decode cX10_odds 10 = .ok (.iload_n 2, 1) := by decide +kernel
theorem dX10_odds_11 : decode cX10_odds 11 = .ok (.ifCond .lt 18, 3) := by decide +kernel
theorem dX10_odds_14 : decode cX10_odds 14 = .ok (.iload_n 2, 1) := by decide +kernel
theorem dX10_odds_15 : decode cX10_odds 15 = .ok (.bipush 6, 2) := by decide +kernel
theorem dX10_odds_17 : decode cX10_odds 17 = .ok (.if_icmp .gt 12, 3) := by decide +kernel
theorem dX10_odds_20 : decode cX10_odds 20 = .ok (.iload_n 3, 1) := by decide +kernel
theorem dX10_odds_21 : decode cX10_odds 21 = .ok (.ifCond .lt 8, 3) := by decide +kernel
theorem dX10_odds_24 : decode cX10_odds 24 = .ok (.iload_n 3, 1) := by decide +kernel
theorem dX10_odds_25 : decode cX10_odds 25 = .ok (.iconst 1, 1) := by decide +kernel
theorem dX10_odds_26 : decode cX10_odds 26 = .ok (.if_icmp .le 5, 3) := by decide +kernel
theorem dX10_odds_29 : decode cX10_odds 29 = .ok (.iconst (-1), 1) := by decide +kernel
theorem dX10_odds_30 : decode cX10_odds 30 = .ok (.ireturn, 1) := by decide +kernel
theorem dX10_odds_31 : decode cX10_odds 31 = .ok (.aload_n 0, 1) := by decide +kernel
theorem dX10_odds_32 : decode cX10_odds 32 = .ok (.getfield 82, 3) := by decide +kernel
theorem dX10_odds_35 : decode cX10_odds 35 = .ok (.aload_n 0, 1) := by decide +kernel
theorem dX10_odds_36 : decode cX10_odds 36 = .ok (.getfield 28, 3) := by decide +kernel
theorem dX10_odds_39 : decode cX10_odds 39 = .ok (.iload_n 1, 1) := by decide +kernel
theorem dX10_odds_40 : decode cX10_odds 40 = .ok (.iload_n 2, 1) := by decide +kernel
theorem dX10_odds_41 : decode cX10_odds 41 = .ok (.invokevirtual 221, 3) := by decide +kernel
theorem dX10_odds_44 : decode cX10_odds 44 = .ok (.istore 4, 2) := by decide +kernel
theorem dX10_odds_46 : decode cX10_odds 46 = .ok (.aload_n 0, 1) := by decide +kernel
theorem dX10_odds_47 : decode cX10_odds 47 = .ok (.getfield 82, 3) := by decide +kernel
theorem dX10_odds_50 : decode cX10_odds 50 = .ok (.iload_n 2, 1) := by decide +kernel
theorem dX10_odds_51 : decode cX10_odds 51 = .ok (.invokevirtual 225, 3) := by decide +kernel
theorem dX10_odds_54 : decode cX10_odds 54 = .ok (.istore 5, 2) := by decide +kernel
theorem dX10_odds_56 : decode cX10_odds 56 = .ok (.iload 4, 2) := by decide +kernel
theorem dX10_odds_58 : decode cX10_odds 58 = .ok (.iload 5, 2) := by decide +kernel
theorem dX10_odds_60 : decode cX10_odds 60 = .ok (.invokestatic 228, 3) := by decide +kernel
theorem dX10_odds_63 : decode cX10_odds 63 = .ok (.istore 6, 2) := by decide +kernel
theorem dX10_odds_65 : decode cX10_odds 65 = .ok (.iload_n 3, 1) := by decide +kernel
theorem dX10_odds_66 : decode cX10_odds 66 = .ok (.ifCond .ne 8, 3) := by decide +kernel
theorem dX10_odds_69 : decode cX10_odds 69 = .ok (.iload 4, 2) := by decide +kernel
theorem dX10_odds_71 : decode cX10_odds 71 = .ok (.goto 5, 3) := by decide +kernel
theorem dX10_odds_74 : decode cX10_odds 74 = .ok (.iload 5, 2) := by decide +kernel
theorem dX10_odds_76 : decode cX10_odds 76 = .ok (.istore 7, 2) := by decide +kernel
theorem dX10_odds_78 : decode cX10_odds 78 = .ok (.iload 6, 2) := by decide +kernel
theorem dX10_odds_80 : decode cX10_odds 80 = .ok (.ifCond .le 11, 3) := by decide +kernel
theorem dX10_odds_83 : decode cX10_odds 83 = .ok (.iload 7, 2) := by decide +kernel
theorem dX10_odds_85 : decode cX10_odds 85 = .ok (.iload 6, 2) := by decide +kernel
theorem dX10_odds_87 : decode cX10_odds 87 = .ok (.idiv, 1) := by decide +kernel
theorem dX10_odds_88 : decode cX10_odds 88 = .ok (.goto 5, 3) := by decide +kernel
theorem dX10_odds_91 : decode cX10_odds 91 = .ok (.iload 7, 2) := by decide +kernel
theorem dX10_odds_93 : decode cX10_odds 93 = .ok (.ireturn, 1) := by decide +kernel
def fX10_odds_76 (x6 : Int32) (t0 : Int32) (w : eW) : Option (Int32 × eW) := if x6 ≤ 0 then (some (t0, w)) else (if x6 = 0 then none else some (t0 / x6, w))
set_option maxRecDepth 20000 in
theorem sX10_odds_76  (x6 : Int32) (t0 : Int32) (w : eW) (r : Int32 × eW) (h : fX10_odds_76 x6 t0 w = some r) : eBN l D cI cZ 5 yX10_odds cX10_odds 8 (some .int) 76 [(6, .int x6)] [.int t0] w (some (.int r.1)) r.2 := by
  rw [fX10_odds_76] at h
  intro p e s m args below meth c r0 A X
  refine ev_istore (pc := 76) (L' := [(7, .int t0), (6, .int x6)]) X dX10_odds_76 (by decide) rfl ?_
  refine ev_iload (pc := 78) X 1 dX10_odds_78 rfl ?_
  refine ev_if_le (pc := 80) X 91 dX10_odds_80 rfl (fun hc => ?_) (fun hc => ?_)
  · rw [if_pos hc] at h
    refine ev_iload (pc := 91) X 0 dX10_odds_91 rfl ?_
    obtain rfl := Option.some.inj h
    exact ev_iret (pc := 93) X dX10_odds_93
  · rw [if_neg hc] at h
    refine ev_iload (pc := 83) X 0 dX10_odds_83 rfl ?_
    refine ev_iload (pc := 85) X 1 dX10_odds_85 rfl ?_
    obtain ⟨hz, h⟩ := eNz h
    refine ev_idiv (pc := 87) X dX10_odds_87 hz ?_
    refine ev_goto (pc := 88) X 93 dX10_odds_88 rfl ?_
    obtain rfl := Option.some.inj h
    exact ev_iret (pc := 93) X dX10_odds_93
def fX10_odds_0 (x0 : Nat) (x1 : Int32) (x2 : Int32) (x3 : Int32) (w : eW) : Option (Int32 × eW) := if x1 < 0 then (some ((-1 : Int32), w)) else (if (10 : Int32) < x1 then (some ((-1 : Int32), w)) else (if x2 < 0 then (some ((-1 : Int32), w)) else (if (6 : Int32) < x2 then (some ((-1 : Int32), w)) else (if x3 < 0 then (some ((-1 : Int32), w)) else (if x3 ≤ (1 : Int32) then ((eGR w x0 10 9).bind fun v1 => (eGR w x0 10 2).bind fun v2 => eBind2 (fX3_upperNumber v1 v2 x1 x2 w) fun v4 w3 => (eGR w3 x0 10 9).bind fun v5 => eBind2 (fX3_lowerNumber v5 x2 w3) fun v7 w6 => eBind2 (fX10_commonDivisor v4 v7 w6) fun v9 w8 => if x3 = 0 then (fX10_odds_76 v9 v4 w8) else (fX10_odds_76 v9 v7 w8)) else (some ((-1 : Int32), w)))))))
set_option maxRecDepth 20000 in
theorem sX10_odds_0  (x0 : Nat) (x1 : Int32) (x2 : Int32) (x3 : Int32) (w : eW) (r : Int32 × eW) (h : fX10_odds_0 x0 x1 x2 x3 w = some r) : eBN l D cI cZ 5 yX10_odds cX10_odds 8 (some .int) 0 [(0, .ref x0), (1, .int x1), (2, .int x2), (3, .int x3)] [] w (some (.int r.1)) r.2 := by
  rw [fX10_odds_0] at h
  intro p e s m args below meth c r0 A X
  refine ev_iload_n (pc := 0) X 1 dX10_odds_0 rfl rfl ?_
  refine ev_if_lt (pc := 1) X 29 dX10_odds_1 rfl (fun hc => ?_) (fun hc => ?_)
  · rw [if_pos hc] at h
    refine ev_iconst (pc := 29) (v := (-1 : Int32)) X dX10_odds_29 rfl ?_
    obtain rfl := Option.some.inj h
    exact ev_iret (pc := 30) X dX10_odds_30
  · rw [if_neg hc] at h
    refine ev_iload_n (pc := 4) X 1 dX10_odds_4 rfl rfl ?_
    refine ev_bipush (pc := 5) (v := (10 : Int32)) X dX10_odds_5 rfl ?_
    refine ev_icmp_gt (pc := 7) X 29 dX10_odds_7 rfl (fun hc => ?_) (fun hc => ?_)
    · rw [if_pos hc] at h
      refine ev_iconst (pc := 29) (v := (-1 : Int32)) X dX10_odds_29 rfl ?_
      obtain rfl := Option.some.inj h
      exact ev_iret (pc := 30) X dX10_odds_30
    · rw [if_neg hc] at h
      refine ev_iload_n (pc := 10) X 2 dX10_odds_10 rfl rfl ?_
      refine ev_if_lt (pc := 11) X 29 dX10_odds_11 rfl (fun hc => ?_) (fun hc => ?_)
      · rw [if_pos hc] at h
        refine ev_iconst (pc := 29) (v := (-1 : Int32)) X dX10_odds_29 rfl ?_
        obtain rfl := Option.some.inj h
        exact ev_iret (pc := 30) X dX10_odds_30
      · rw [if_neg hc] at h
        refine ev_iload_n (pc := 14) X 2 dX10_odds_14 rfl rfl ?_
        refine ev_bipush (pc := 15) (v := (6 : Int32)) X dX10_odds_15 rfl ?_
        refine ev_icmp_gt (pc := 17) X 29 dX10_odds_17 rfl (fun hc => ?_) (fun hc => ?_)
        · rw [if_pos hc] at h
          refine ev_iconst (pc := 29) (v := (-1 : Int32)) X dX10_odds_29 rfl ?_
          obtain rfl := Option.some.inj h
          exact ev_iret (pc := 30) X dX10_odds_30
        · rw [if_neg hc] at h
          refine ev_iload_n (pc := 20) X 3 dX10_odds_20 rfl rfl ?_
          refine ev_if_lt (pc := 21) X 29 dX10_odds_21 rfl (fun hc => ?_) (fun hc => ?_)
          · rw [if_pos hc] at h
            refine ev_iconst (pc := 29) (v := (-1 : Int32)) X dX10_odds_29 rfl ?_
            obtain rfl := Option.some.inj h
            exact ev_iret (pc := 30) X dX10_odds_30
          · rw [if_neg hc] at h
            refine ev_iload_n (pc := 24) X 3 dX10_odds_24 rfl rfl ?_
            refine ev_iconst (pc := 25) (v := (1 : Int32)) X dX10_odds_25 rfl ?_
            refine ev_icmp_le (pc := 26) X 31 dX10_odds_26 rfl (fun hc => ?_) (fun hc => ?_)
            · rw [if_pos hc] at h
              refine ev_aload_n (pc := 31) X 0 dX10_odds_31 rfl rfl ?_
              obtain ⟨v1, hv1, h⟩ := eBi h
              refine ev_getR (pc := 32) X hcX10 (k := 9) (by decide) kfX10_82 dX10_odds_32 hv1 ?_
              refine ev_aload_n (pc := 35) X 0 dX10_odds_35 rfl rfl ?_
              obtain ⟨v2, hv2, h⟩ := eBi h
              refine ev_getR (pc := 36) X hcX10 (k := 2) (by decide) kfX10_28 dX10_odds_36 hv2 ?_
              refine ev_iload_n (pc := 39) X 1 dX10_odds_39 rfl rfl ?_
              refine ev_iload_n (pc := 40) X 2 dX10_odds_40 rfl rfl ?_
              obtain ⟨v4, w3, hc, h⟩ := eB2 h
              refine ev_callV_i (pc := 41) (As := [.ref v2, .int x1, .int x2]) (S := []) X hwX3_upperNumber klX10_221 hiX3_upperNumber hsX3_upperNumber (ci := 3) ⟨rfl, rfl⟩ ⟨Nat.le_of_ble_eq_true rfl, Nat.le_of_ble_eq_true rfl⟩ ⟨Nat.le_refl _, Nat.le_refl _⟩ rfl (Nat.le_of_ble_eq_true rfl) dX10_odds_41 rfl (mX3_upperNumber (l := l) (D := D) (cI := cI) (cZ := cZ) hc).1 (mX3_upperNumber hc).2 ?_
              refine ev_istore (pc := 44) (L' := [(4, .int v4), (0, .ref x0), (1, .int x1), (2, .int x2), (3, .int x3)]) X dX10_odds_44 (by decide) rfl ?_
              refine ev_aload_n (pc := 46) X 1 dX10_odds_46 rfl rfl ?_
              obtain ⟨v5, hv5, h⟩ := eBi h
              refine ev_getR (pc := 47) X hcX10 (k := 9) (by decide) kfX10_82 dX10_odds_47 hv5 ?_
              refine ev_iload_n (pc := 50) X 3 dX10_odds_50 rfl rfl ?_
              obtain ⟨v7, w6, hc, h⟩ := eB2 h
              refine ev_callV_i (pc := 51) (As := [.int x2]) (S := []) X hwX3_lowerNumber klX10_225 hiX3_lowerNumber hsX3_lowerNumber (ci := 3) ⟨rfl, rfl⟩ ⟨Nat.le_of_ble_eq_true rfl, Nat.le_of_ble_eq_true rfl⟩ ⟨Nat.le_refl _, Nat.le_refl _⟩ rfl (Nat.le_of_ble_eq_true rfl) dX10_odds_51 rfl (mX3_lowerNumber (l := l) (D := D) (cI := cI) (cZ := cZ) hc).1 (mX3_lowerNumber hc).2 ?_
              refine ev_istore (pc := 54) (L' := [(5, .int v7), (4, .int v4), (0, .ref x0), (1, .int x1), (2, .int x2), (3, .int x3)]) X dX10_odds_54 (by decide) rfl ?_
              refine ev_iload (pc := 56) X 1 dX10_odds_56 rfl ?_
              refine ev_iload (pc := 58) X 0 dX10_odds_58 rfl ?_
              obtain ⟨v9, w8, hc, h⟩ := eB2 h
              refine ev_callS_i (pc := 60) (As := [.int v4, .int v7]) (S := []) X hwX10_commonDivisor klX10_228 htX10_commonDivisor ⟨Nat.le_of_ble_eq_true rfl, Nat.le_of_ble_eq_true rfl⟩ ⟨Nat.le_refl _, Nat.le_refl _⟩ rfl (Nat.le_of_ble_eq_true rfl) dX10_odds_60 rfl (mX10_commonDivisor hc) ?_
              refine ev_istore (pc := 63) (L' := [(6, .int v9), (5, .int v7), (4, .int v4), (0, .ref x0), (1, .int x1), (2, .int x2), (3, .int x3)]) X dX10_odds_63 (by decide) rfl ?_
              refine ev_iload_n (pc := 65) X 6 dX10_odds_65 rfl rfl ?_
              refine ev_if_ne (pc := 66) X 74 dX10_odds_66 rfl (fun hc => ?_) (fun hc => ?_)
              · rw [if_neg hc] at h
                refine ev_iload (pc := 74) X 1 dX10_odds_74 rfl ?_
                exact ev_weak (pc := 76) [0] rfl (sX10_odds_76 _ _ _ _ h p e s m args below meth c r0 A X)
              · rw [if_pos hc] at h
                refine ev_iload (pc := 69) X 2 dX10_odds_69 rfl ?_
                refine ev_goto (pc := 71) X 76 dX10_odds_71 rfl ?_
                exact ev_weak (pc := 76) [0] rfl (sX10_odds_76 _ _ _ _ h p e s m args below meth c r0 A X)
            · rw [if_neg hc] at h
              refine ev_iconst (pc := 29) (v := (-1 : Int32)) X dX10_odds_29 rfl ?_
              obtain rfl := Option.some.inj h
              exact ev_iret (pc := 30) X dX10_odds_30
def fX10_odds (a0 : Nat) (a1 : Int32) (a2 : Int32) (a3 : Int32) (w : eW) : Option (Int32 × eW) := bif eO w a0 10 then fX10_odds_0 a0 a1 a2 a3 w else none
theorem mX10_odds {a0 : Nat} {a1 : Int32} {a2 : Int32} {a3 : Int32} {w : eW} {v : Int32} {w' : eW} (h : fX10_odds a0 a1 a2 a3 w = some (v, w')) : eO w a0 10 = true ∧ eMN l D cI cZ 5 yX10_odds cX10_odds 8 (some .int) [.ref a0, .int a1, .int a2, .int a3] w (some (.int v)) w' := by
  obtain ⟨h0, h⟩ := eBif h
  exact ⟨h0, eMN_of [(0, .ref a0), (1, .int a1), (2, .int a2), (3, .int a3)] (plainFor_of_name (by decide)) (fun _ => rfl) (fun _ => Nat.le_of_ble_eq_true rfl) (fun p e s m args below meth c r0 A X => ev_weak (pc := 0) [0, 1, 2, 3] rfl (sX10_odds_0 _ _ _ _ _ _ h p e s m args below meth c r0 A X))⟩
theorem dX10_wrong_0 : decode cX10_wrong 0 = .ok (.aload_n 0, 1) := by decide +kernel
theorem dX10_wrong_1 : decode cX10_wrong 1 = .ok (.getfield 28, 3) := by decide +kernel
theorem dX10_wrong_4 : decode cX10_wrong 4 = .ok (.iload_n 1, 1) := by decide +kernel
theorem dX10_wrong_5 : decode cX10_wrong 5 = .ok (.invokevirtual 135, 3) := by decide +kernel
theorem dX10_wrong_8 : decode cX10_wrong 8 = .ok (.ifCond .eq 23, 3) := by decide +kernel
theorem dX10_wrong_11 : decode cX10_wrong 11 = .ok (.aload_n 0, 1) := by decide +kernel
theorem dX10_wrong_12 : decode cX10_wrong 12 = .ok (.getfield 12, 3) := by decide +kernel
theorem dX10_wrong_15 : decode cX10_wrong 15 = .ok (.iload_n 2, 1) := by decide +kernel
theorem dX10_wrong_16 : decode cX10_wrong 16 = .ok (.invokevirtual 122, 3) := by decide +kernel
theorem dX10_wrong_19 : decode cX10_wrong 19 = .ok (.ifCond .eq 12, 3) := by decide +kernel
theorem dX10_wrong_22 : decode cX10_wrong 22 = .ok (.iload_n 3, 1) := by decide +kernel
theorem dX10_wrong_23 : decode cX10_wrong 23 = .ok (.ifCond .lt 8, 3) := by decide +kernel
theorem dX10_wrong_26 : decode cX10_wrong 26 = .ok (.iload_n 3, 1) := by decide +kernel
theorem dX10_wrong_27 : decode cX10_wrong 27 = .ok (.iconst 1, 1) := by decide +kernel
theorem dX10_wrong_28 : decode cX10_wrong 28 = .ok (.if_icmp .le 5, 3) := by decide +kernel
theorem dX10_wrong_31 : decode cX10_wrong 31 = .ok (.iconst (-1), 1) := by decide +kernel
theorem dX10_wrong_32 : decode cX10_wrong 32 = .ok (.ireturn, 1) := by decide +kernel
theorem dX10_wrong_33 : decode cX10_wrong 33 = .ok (.aload_n 0, 1) := by decide +kernel
theorem dX10_wrong_34 : decode cX10_wrong 34 = .ok (.getfield 28, 3) := by decide +kernel
theorem dX10_wrong_37 : decode cX10_wrong 37 = .ok (.iload_n 1, 1) := by decide +kernel
theorem dX10_wrong_38 : decode cX10_wrong 38 = .ok (.invokevirtual 144, 3) := by decide +kernel
theorem dX10_wrong_41 : decode cX10_wrong 41 = .ok (.istore 4, 2) := by decide +kernel
theorem dX10_wrong_43 : decode cX10_wrong 43 = .ok (.iconst 0, 1) := by decide +kernel
theorem dX10_wrong_44 : decode cX10_wrong 44 = .ok (.istore 5, 2) := by decide +kernel
theorem dX10_wrong_46 : decode cX10_wrong 46 = .ok (.bipush (-9), 2) := by decide +kernel
theorem dX10_wrong_48 : decode cX10_wrong 48 = .ok (.istore 6, 2) := by decide +kernel
theorem dX10_wrong_50 : decode cX10_wrong 50 = .ok (.iconst 0, 1) := by decide +kernel
theorem dX10_wrong_51 : decode cX10_wrong 51 = .ok (.istore 7, 2) := by decide +kernel
theorem dX10_wrong_53 : decode cX10_wrong 53 = .ok (.iload 7, 2) := by decide +kernel
theorem dX10_wrong_55 : decode cX10_wrong 55 = .ok (.iload 4, 2) := by decide +kernel
theorem dX10_wrong_57 : decode cX10_wrong 57 = .ok (.iconst 4, 1) := by decide +kernel
theorem dX10_wrong_58 : decode cX10_wrong 58 = .ok (.imul, 1) := by decide +kernel
theorem dX10_wrong_59 : decode cX10_wrong 59 = .ok (.if_icmp .ge 42, 3) := by decide +kernel
theorem dX10_wrong_62 : decode cX10_wrong 62 = .ok (.aload_n 0, 1) := by decide +kernel
theorem dX10_wrong_63 : decode cX10_wrong 63 = .ok (.getfield 28, 3) := by decide +kernel
theorem dX10_wrong_66 : decode cX10_wrong 66 = .ok (.iload_n 1, 1) := by decide +kernel
theorem dX10_wrong_67 : decode cX10_wrong 67 = .ok (.iload 7, 2) := by decide +kernel
theorem dX10_wrong_69 : decode cX10_wrong 69 = .ok (.iload 4, 2) := by decide +kernel
theorem dX10_wrong_71 : decode cX10_wrong 71 = .ok (.invokevirtual 231, 3) := by decide +kernel
theorem dX10_wrong_74 : decode cX10_wrong 74 = .ok (.iload_n 2, 1) := by decide +kernel
theorem dX10_wrong_75 : decode cX10_wrong 75 = .ok (.if_icmp .ne 20, 3) := by decide +kernel
theorem dX10_wrong_78 : decode cX10_wrong 78 = .ok (.iload 5, 2) := by decide +kernel
theorem dX10_wrong_80 : decode cX10_wrong 80 = .ok (.ifCond .ne 8, 3) := by decide +kernel
theorem dX10_wrong_83 : decode cX10_wrong 83 = .ok (.iload 7, 2) := by decide +kernel
theorem dX10_wrong_85 : decode cX10_wrong 85 = .ok (.goto 5, 3) := by decide +kernel
theorem dX10_wrong_88 : decode cX10_wrong 88 = .ok (.iload 6, 2) := by decide +kernel
theorem dX10_wrong_90 : decode cX10_wrong 90 = .ok (.istore 6, 2) := by decide +kernel
theorem dX10_wrong_92 : decode cX10_wrong 92 = .ok (.iinc 5 1, 3) := by decide +kernel
theorem dX10_wrong_95 : decode cX10_wrong 95 = .ok (.iinc 7 1, 3) := by decide +kernel
theorem dX10_wrong_98 : decode cX10_wrong 98 = .ok (.goto (-45), 3) := by decide +kernel
theorem dX10_wrong_101 : decode cX10_wrong 101 = .ok (.iload_n 3, 1) := by decide +kernel
theorem dX10_wrong_102 : decode cX10_wrong 102 = .ok (.ifCond .ne 8, 3) := by decide +kernel
theorem dX10_wrong_105 : decode cX10_wrong 105 = .ok (.iload 5, 2) := by decide +kernel
theorem dX10_wrong_107 : decode cX10_wrong 107 = .ok (.goto 5, 3) := by decide +kernel
theorem dX10_wrong_110 : decode cX10_wrong 110 = .ok (.iload 6, 2) := by decide +kernel
theorem dX10_wrong_112 : decode cX10_wrong 112 = .ok (.ireturn, 1) := by decide +kernel
def fX10_wrong_95 (K53 : Nat → Int32 → Int32 → Int32 → Int32 → Int32 → Int32 → Int32 → eW → Option (Int32 × eW)) (x0 : Nat) (x1 : Int32) (x2 : Int32) (x3 : Int32) (x4 : Int32) (x5 : Int32) (x6 : Int32) (x7 : Int32) (w : eW) : Option (Int32 × eW) := K53 x0 x1 x2 x3 x4 x5 x6 (x7 + (1 : Int32)) w
set_option maxRecDepth 20000 in
theorem sX10_wrong_95 {K53 : Nat → Int32 → Int32 → Int32 → Int32 → Int32 → Int32 → Int32 → eW → Option (Int32 × eW)} (hK53 : ∀ (x0 : Nat) (x1 : Int32) (x2 : Int32) (x3 : Int32) (x4 : Int32) (x5 : Int32) (x6 : Int32) (x7 : Int32) (w : eW) (r : Int32 × eW), K53 x0 x1 x2 x3 x4 x5 x6 x7 w = some r → eBN l D cI cZ 4 yX10_wrong cX10_wrong 8 (some .int) 53 [(0, .ref x0), (1, .int x1), (2, .int x2), (3, .int x3), (4, .int x4), (5, .int x5), (6, .int x6), (7, .int x7)] [] w (some (.int r.1)) r.2) (x0 : Nat) (x1 : Int32) (x2 : Int32) (x3 : Int32) (x4 : Int32) (x5 : Int32) (x6 : Int32) (x7 : Int32) (w : eW) (r : Int32 × eW) (h : fX10_wrong_95 K53 x0 x1 x2 x3 x4 x5 x6 x7 w = some r) : eBN l D cI cZ 4 yX10_wrong cX10_wrong 8 (some .int) 95 [(0, .ref x0), (1, .int x1), (2, .int x2), (3, .int x3), (4, .int x4), (5, .int x5), (6, .int x6), (7, .int x7)] [] w (some (.int r.1)) r.2 := by
  rw [fX10_wrong_95] at h
  intro p e s m args below meth c r0 A X
  refine ev_iinc (pc := 95) (v := x7 + (1 : Int32)) (L' := [(7, .int (x7 + (1 : Int32))), (0, .ref x0), (1, .int x1), (2, .int x2), (3, .int x3), (4, .int x4), (5, .int x5), (6, .int x6)]) X 7 dX10_wrong_95 rfl rfl (by decide) rfl ?_
  refine ev_goto (pc := 98) X 53 dX10_wrong_98 rfl ?_
  exact ev_weak (pc := 53) [1, 2, 3, 4, 5, 6, 7, 0] rfl (hK53 _ _ _ _ _ _ _ _ _ _ h p e s m args below meth c r0 A X)
def fX10_wrong_90 (K53 : Nat → Int32 → Int32 → Int32 → Int32 → Int32 → Int32 → Int32 → eW → Option (Int32 × eW)) (x0 : Nat) (x1 : Int32) (x2 : Int32) (x3 : Int32) (x4 : Int32) (x5 : Int32) (x7 : Int32) (t0 : Int32) (w : eW) : Option (Int32 × eW) := fX10_wrong_95 K53 x0 x1 x2 x3 x4 (x5 + (1 : Int32)) t0 x7 w
set_option maxRecDepth 20000 in
theorem sX10_wrong_90 {K53 : Nat → Int32 → Int32 → Int32 → Int32 → Int32 → Int32 → Int32 → eW → Option (Int32 × eW)} (hK53 : ∀ (x0 : Nat) (x1 : Int32) (x2 : Int32) (x3 : Int32) (x4 : Int32) (x5 : Int32) (x6 : Int32) (x7 : Int32) (w : eW) (r : Int32 × eW), K53 x0 x1 x2 x3 x4 x5 x6 x7 w = some r → eBN l D cI cZ 4 yX10_wrong cX10_wrong 8 (some .int) 53 [(0, .ref x0), (1, .int x1), (2, .int x2), (3, .int x3), (4, .int x4), (5, .int x5), (6, .int x6), (7, .int x7)] [] w (some (.int r.1)) r.2) (x0 : Nat) (x1 : Int32) (x2 : Int32) (x3 : Int32) (x4 : Int32) (x5 : Int32) (x7 : Int32) (t0 : Int32) (w : eW) (r : Int32 × eW) (h : fX10_wrong_90 K53 x0 x1 x2 x3 x4 x5 x7 t0 w = some r) : eBN l D cI cZ 4 yX10_wrong cX10_wrong 8 (some .int) 90 [(0, .ref x0), (1, .int x1), (2, .int x2), (3, .int x3), (4, .int x4), (5, .int x5), (7, .int x7)] [.int t0] w (some (.int r.1)) r.2 := by
  rw [fX10_wrong_90] at h
  intro p e s m args below meth c r0 A X
  refine ev_istore (pc := 90) (L' := [(6, .int t0), (0, .ref x0), (1, .int x1), (2, .int x2), (3, .int x3), (4, .int x4), (5, .int x5), (7, .int x7)]) X dX10_wrong_90 (by decide) rfl ?_
  refine ev_iinc (pc := 92) (v := x5 + (1 : Int32)) (L' := [(5, .int (x5 + (1 : Int32))), (6, .int t0), (0, .ref x0), (1, .int x1), (2, .int x2), (3, .int x3), (4, .int x4), (7, .int x7)]) X 6 dX10_wrong_92 rfl rfl (by decide) rfl ?_
  exact ev_weak (pc := 95) [2, 3, 4, 5, 6, 0, 1, 7] rfl (sX10_wrong_95 hK53 _ _ _ _ _ _ _ _ _ _ h p e s m args below meth c r0 A X)
def fX10_wrong_53 : Nat → Nat → Int32 → Int32 → Int32 → Int32 → Int32 → Int32 → Int32 → eW → Option (Int32 × eW)
  | 0, _, _, _, _, _, _, _, _, _ => none
  | n + 1, x0, x1, x2, x3, x4, x5, x6, x7, w => if (x4 * (4 : Int32)) ≤ x7 then (if x3 = 0 then (some (x5, w)) else (some (x6, w))) else ((eGR w x0 10 2).bind fun v1 => eBind2 (fX0_cellIf v1 x1 x7 x4 w) fun v3 w2 => if v3 = x2 then (if x5 = 0 then (fX10_wrong_90 (fX10_wrong_53 n) x0 x1 x2 x3 x4 x5 x7 x7 w2) else (fX10_wrong_90 (fX10_wrong_53 n) x0 x1 x2 x3 x4 x5 x7 x6 w2)) else (fX10_wrong_95 (fX10_wrong_53 n) x0 x1 x2 x3 x4 x5 x6 x7 w2))
set_option maxRecDepth 20000 in
theorem sX10_wrong_53  : ∀ (n : Nat) (x0 : Nat) (x1 : Int32) (x2 : Int32) (x3 : Int32) (x4 : Int32) (x5 : Int32) (x6 : Int32) (x7 : Int32) (w : eW) (r : Int32 × eW), fX10_wrong_53 n x0 x1 x2 x3 x4 x5 x6 x7 w = some r → eBN l D cI cZ 4 yX10_wrong cX10_wrong 8 (some .int) 53 [(0, .ref x0), (1, .int x1), (2, .int x2), (3, .int x3), (4, .int x4), (5, .int x5), (6, .int x6), (7, .int x7)] [] w (some (.int r.1)) r.2 := by
  intro n
  induction n with
  | zero => intro x0 x1 x2 x3 x4 x5 x6 x7 w r h; exact absurd (show (none : Option (Int32 × eW)) = some r from h) (by simp)
  | succ n ih =>
    intro x0 x1 x2 x3 x4 x5 x6 x7 w r h
    rw [fX10_wrong_53] at h
    intro p e s m args below meth c r0 A X
    refine ev_iload (pc := 53) X 7 dX10_wrong_53 rfl ?_
    refine ev_iload (pc := 55) X 4 dX10_wrong_55 rfl ?_
    refine ev_iconst (pc := 57) (v := (4 : Int32)) X dX10_wrong_57 rfl ?_
    refine ev_imul (pc := 58) X dX10_wrong_58 ?_
    refine ev_icmp_ge (pc := 59) X 101 dX10_wrong_59 rfl (fun hc => ?_) (fun hc => ?_)
    · rw [if_pos hc] at h
      refine ev_iload_n (pc := 101) X 3 dX10_wrong_101 rfl rfl ?_
      refine ev_if_ne (pc := 102) X 110 dX10_wrong_102 rfl (fun hc => ?_) (fun hc => ?_)
      · rw [if_neg hc] at h
        refine ev_iload (pc := 110) X 6 dX10_wrong_110 rfl ?_
        obtain rfl := Option.some.inj h
        exact ev_iret (pc := 112) X dX10_wrong_112
      · rw [if_pos hc] at h
        refine ev_iload (pc := 105) X 5 dX10_wrong_105 rfl ?_
        refine ev_goto (pc := 107) X 112 dX10_wrong_107 rfl ?_
        obtain rfl := Option.some.inj h
        exact ev_iret (pc := 112) X dX10_wrong_112
    · rw [if_neg hc] at h
      refine ev_aload_n (pc := 62) X 0 dX10_wrong_62 rfl rfl ?_
      obtain ⟨v1, hv1, h⟩ := eBi h
      refine ev_getR (pc := 63) X hcX10 (k := 2) (by decide) kfX10_28 dX10_wrong_63 hv1 ?_
      refine ev_iload_n (pc := 66) X 1 dX10_wrong_66 rfl rfl ?_
      refine ev_iload (pc := 67) X 7 dX10_wrong_67 rfl ?_
      refine ev_iload (pc := 69) X 4 dX10_wrong_69 rfl ?_
      obtain ⟨v3, w2, hc, h⟩ := eB2 h
      refine ev_callV_i (pc := 71) (As := [.int x1, .int x7, .int x4]) (S := []) X hwX0_cellIf klX10_231 hiX0_cellIf hsX0_cellIf (ci := 0) ⟨rfl, rfl⟩ ⟨Nat.le_of_ble_eq_true rfl, Nat.le_of_ble_eq_true rfl⟩ ⟨Nat.le_refl _, Nat.le_refl _⟩ rfl (Nat.le_of_ble_eq_true rfl) dX10_wrong_71 rfl (mX0_cellIf (l := l) (D := D) (cI := cI) (cZ := cZ) hc).1 (mX0_cellIf hc).2 ?_
      refine ev_iload_n (pc := 74) X 2 dX10_wrong_74 rfl rfl ?_
      refine ev_icmp_ne (pc := 75) X 95 dX10_wrong_75 rfl (fun hc => ?_) (fun hc => ?_)
      · rw [if_neg hc] at h
        exact ev_weak (pc := 95) [0, 1, 2, 3, 4, 5, 6, 7] rfl (sX10_wrong_95 (fun _ _ _ _ _ _ _ _ w r hh => ih _ _ _ _ _ _ _ _ w r hh) _ _ _ _ _ _ _ _ _ _ h p e s m args below meth c r0 A X)
      · rw [if_pos hc] at h
        refine ev_iload (pc := 78) X 5 dX10_wrong_78 rfl ?_
        refine ev_if_ne (pc := 80) X 88 dX10_wrong_80 rfl (fun hc => ?_) (fun hc => ?_)
        · rw [if_neg hc] at h
          refine ev_iload (pc := 88) X 6 dX10_wrong_88 rfl ?_
          exact ev_weak (pc := 90) [0, 1, 2, 3, 4, 5, 7] rfl (sX10_wrong_90 (fun _ _ _ _ _ _ _ _ w r hh => ih _ _ _ _ _ _ _ _ w r hh) _ _ _ _ _ _ _ _ _ _ h p e s m args below meth c r0 A X)
        · rw [if_pos hc] at h
          refine ev_iload (pc := 83) X 7 dX10_wrong_83 rfl ?_
          refine ev_goto (pc := 85) X 90 dX10_wrong_85 rfl ?_
          exact ev_weak (pc := 90) [0, 1, 2, 3, 4, 5, 7] rfl (sX10_wrong_90 (fun _ _ _ _ _ _ _ _ w r hh => ih _ _ _ _ _ _ _ _ w r hh) _ _ _ _ _ _ _ _ _ _ h p e s m args below meth c r0 A X)
def fX10_wrong_0 (x0 : Nat) (x1 : Int32) (x2 : Int32) (x3 : Int32) (w : eW) : Option (Int32 × eW) := (eGR w x0 10 2).bind fun v1 => eBind2 (fX0_has v1 x1 w) fun v3 w2 => if v3 = 0 then (some ((-1 : Int32), w2)) else ((eGR w2 x0 10 0).bind fun v4 => eBind2 (fX1_hasCell v4 x2 w2) fun v6 w5 => if v6 = 0 then (some ((-1 : Int32), w5)) else (if x3 < 0 then (some ((-1 : Int32), w5)) else (if x3 ≤ (1 : Int32) then ((eGR w5 x0 10 2).bind fun v7 => eBind2 (fX0_length v7 x1 w5) fun v9 w8 => fX10_wrong_53 eN x0 x1 x2 x3 v9 (0 : Int32) (-9 : Int32) (0 : Int32) w8) else (some ((-1 : Int32), w5)))))
set_option maxRecDepth 20000 in
theorem sX10_wrong_0  (x0 : Nat) (x1 : Int32) (x2 : Int32) (x3 : Int32) (w : eW) (r : Int32 × eW) (h : fX10_wrong_0 x0 x1 x2 x3 w = some r) : eBN l D cI cZ 4 yX10_wrong cX10_wrong 8 (some .int) 0 [(0, .ref x0), (1, .int x1), (2, .int x2), (3, .int x3)] [] w (some (.int r.1)) r.2 := by
  rw [fX10_wrong_0] at h
  intro p e s m args below meth c r0 A X
  refine ev_aload_n (pc := 0) X 0 dX10_wrong_0 rfl rfl ?_
  obtain ⟨v1, hv1, h⟩ := eBi h
  refine ev_getR (pc := 1) X hcX10 (k := 2) (by decide) kfX10_28 dX10_wrong_1 hv1 ?_
  refine ev_iload_n (pc := 4) X 1 dX10_wrong_4 rfl rfl ?_
  obtain ⟨v3, w2, hc, h⟩ := eB2 h
  refine ev_callV_i (pc := 5) (As := [.int x1]) (S := []) X hwX0_has klX10_135 hiX0_has hsX0_has (ci := 0) ⟨rfl, rfl⟩ ⟨Nat.le_of_ble_eq_true rfl, Nat.le_of_ble_eq_true rfl⟩ ⟨Nat.le_refl _, Nat.le_refl _⟩ rfl (Nat.le_of_ble_eq_true rfl) dX10_wrong_5 rfl (mX0_has (l := l) (D := D) (cI := cI) (cZ := cZ) hc).1 (mX0_has hc).2 ?_
  refine ev_if_eq (pc := 8) X 31 dX10_wrong_8 rfl (fun hc => ?_) (fun hc => ?_)
  · rw [if_pos hc] at h
    refine ev_iconst (pc := 31) (v := (-1 : Int32)) X dX10_wrong_31 rfl ?_
    obtain rfl := Option.some.inj h
    exact ev_iret (pc := 32) X dX10_wrong_32
  · rw [if_neg hc] at h
    refine ev_aload_n (pc := 11) X 0 dX10_wrong_11 rfl rfl ?_
    obtain ⟨v4, hv4, h⟩ := eBi h
    refine ev_getR (pc := 12) X hcX10 (k := 0) (by decide) kfX10_12 dX10_wrong_12 hv4 ?_
    refine ev_iload_n (pc := 15) X 2 dX10_wrong_15 rfl rfl ?_
    obtain ⟨v6, w5, hc, h⟩ := eB2 h
    refine ev_callV_i (pc := 16) (As := [.int x2]) (S := []) X hwX1_hasCell klX10_122 hiX1_hasCell hsX1_hasCell (ci := 1) ⟨rfl, rfl⟩ ⟨Nat.le_of_ble_eq_true rfl, Nat.le_of_ble_eq_true rfl⟩ ⟨Nat.le_refl _, Nat.le_refl _⟩ rfl (Nat.le_of_ble_eq_true rfl) dX10_wrong_16 rfl (mX1_hasCell (l := l) (D := D) (cI := cI) (cZ := cZ) hc).1 (mX1_hasCell hc).2 ?_
    refine ev_if_eq (pc := 19) X 31 dX10_wrong_19 rfl (fun hc => ?_) (fun hc => ?_)
    · rw [if_pos hc] at h
      refine ev_iconst (pc := 31) (v := (-1 : Int32)) X dX10_wrong_31 rfl ?_
      obtain rfl := Option.some.inj h
      exact ev_iret (pc := 32) X dX10_wrong_32
    · rw [if_neg hc] at h
      refine ev_iload_n (pc := 22) X 3 dX10_wrong_22 rfl rfl ?_
      refine ev_if_lt (pc := 23) X 31 dX10_wrong_23 rfl (fun hc => ?_) (fun hc => ?_)
      · rw [if_pos hc] at h
        refine ev_iconst (pc := 31) (v := (-1 : Int32)) X dX10_wrong_31 rfl ?_
        obtain rfl := Option.some.inj h
        exact ev_iret (pc := 32) X dX10_wrong_32
      · rw [if_neg hc] at h
        refine ev_iload_n (pc := 26) X 3 dX10_wrong_26 rfl rfl ?_
        refine ev_iconst (pc := 27) (v := (1 : Int32)) X dX10_wrong_27 rfl ?_
        refine ev_icmp_le (pc := 28) X 33 dX10_wrong_28 rfl (fun hc => ?_) (fun hc => ?_)
        · rw [if_pos hc] at h
          refine ev_aload_n (pc := 33) X 0 dX10_wrong_33 rfl rfl ?_
          obtain ⟨v7, hv7, h⟩ := eBi h
          refine ev_getR (pc := 34) X hcX10 (k := 2) (by decide) kfX10_28 dX10_wrong_34 hv7 ?_
          refine ev_iload_n (pc := 37) X 1 dX10_wrong_37 rfl rfl ?_
          obtain ⟨v9, w8, hc, h⟩ := eB2 h
          refine ev_callV_i (pc := 38) (As := [.int x1]) (S := []) X hwX0_length klX10_144 hiX0_length hsX0_length (ci := 0) ⟨rfl, rfl⟩ ⟨Nat.le_of_ble_eq_true rfl, Nat.le_of_ble_eq_true rfl⟩ ⟨Nat.le_refl _, Nat.le_refl _⟩ rfl (Nat.le_of_ble_eq_true rfl) dX10_wrong_38 rfl (mX0_length (l := l) (D := D) (cI := cI) (cZ := cZ) hc).1 (mX0_length hc).2 ?_
          refine ev_istore (pc := 41) (L' := [(4, .int v9), (0, .ref x0), (1, .int x1), (2, .int x2), (3, .int x3)]) X dX10_wrong_41 (by decide) rfl ?_
          refine ev_iconst (pc := 43) (v := (0 : Int32)) X dX10_wrong_43 rfl ?_
          refine ev_istore (pc := 44) (L' := [(5, .int (0 : Int32)), (4, .int v9), (0, .ref x0), (1, .int x1), (2, .int x2), (3, .int x3)]) X dX10_wrong_44 (by decide) rfl ?_
          refine ev_bipush (pc := 46) (v := (-9 : Int32)) X dX10_wrong_46 rfl ?_
          refine ev_istore (pc := 48) (L' := [(6, .int (-9 : Int32)), (5, .int (0 : Int32)), (4, .int v9), (0, .ref x0), (1, .int x1), (2, .int x2), (3, .int x3)]) X dX10_wrong_48 (by decide) rfl ?_
          refine ev_iconst (pc := 50) (v := (0 : Int32)) X dX10_wrong_50 rfl ?_
          refine ev_istore (pc := 51) (L' := [(7, .int (0 : Int32)), (6, .int (-9 : Int32)), (5, .int (0 : Int32)), (4, .int v9), (0, .ref x0), (1, .int x1), (2, .int x2), (3, .int x3)]) X dX10_wrong_51 (by decide) rfl ?_
          exact ev_weak (pc := 53) [4, 5, 6, 7, 3, 2, 1, 0] rfl (sX10_wrong_53 eN _ _ _ _ _ _ _ _ _ _ h p e s m args below meth c r0 A X)
        · rw [if_neg hc] at h
          refine ev_iconst (pc := 31) (v := (-1 : Int32)) X dX10_wrong_31 rfl ?_
          obtain rfl := Option.some.inj h
          exact ev_iret (pc := 32) X dX10_wrong_32
def fX10_wrong (a0 : Nat) (a1 : Int32) (a2 : Int32) (a3 : Int32) (w : eW) : Option (Int32 × eW) := bif eO w a0 10 then fX10_wrong_0 a0 a1 a2 a3 w else none
theorem mX10_wrong {a0 : Nat} {a1 : Int32} {a2 : Int32} {a3 : Int32} {w : eW} {v : Int32} {w' : eW} (h : fX10_wrong a0 a1 a2 a3 w = some (v, w')) : eO w a0 10 = true ∧ eMN l D cI cZ 4 yX10_wrong cX10_wrong 8 (some .int) [.ref a0, .int a1, .int a2, .int a3] w (some (.int v)) w' := by
  obtain ⟨h0, h⟩ := eBif h
  exact ⟨h0, eMN_of [(0, .ref a0), (1, .int a1), (2, .int a2), (3, .int a3)] (plainFor_of_name (by decide)) (fun _ => rfl) (fun _ => Nat.le_of_ble_eq_true rfl) (fun p e s m args below meth c r0 A X => ev_weak (pc := 0) [0, 1, 2, 3] rfl (sX10_wrong_0 _ _ _ _ _ _ h p e s m args below meth c r0 A X))⟩
theorem dX10_look_0 : decode cX10_look 0 = .ok (.aload_n 0, 1) := by decide +kernel
theorem dX10_look_1 : decode cX10_look 1 = .ok (.getfield 28, 3) := by decide +kernel
theorem dX10_look_4 : decode cX10_look 4 = .ok (.iload_n 1, 1) := by decide +kernel
theorem dX10_look_5 : decode cX10_look 5 = .ok (.invokevirtual 135, 3) := by decide +kernel
theorem dX10_look_8 : decode cX10_look 8 = .ok (.ifCond .eq 20, 3) := by decide +kernel
theorem dX10_look_11 : decode cX10_look 11 = .ok (.iload_n 2, 1) := by decide +kernel
theorem dX10_look_12 : decode cX10_look 12 = .ok (.iconst 1, 1) := by decide +kernel
theorem dX10_look_13 : decode cX10_look 13 = .ok (.if_icmp .lt 15, 3) := by decide +kernel
theorem dX10_look_16 : decode cX10_look 16 = .ok (.iload_n 2, 1) := by decide +kernel
theorem dX10_look_17 : decode cX10_look 17 = .ok (.aload_n 0, 1) := by decide +kernel
theorem dX10_look_18 : decode cX10_look 18 = .ok (.getfield 28, 3) := by decide +kernel
theorem dX10_look_21 : decode cX10_look 21 = .ok (.iload_n 1, 1) := by decide +kernel
theorem dX10_look_22 : decode cX10_look 22 = .ok (.invokevirtual 144, 3) := by decide +kernel
theorem dX10_look_25 : decode cX10_look 25 = .ok (.if_icmp .le 5, 3) := by decide +kernel
theorem dX10_look_28 : decode cX10_look 28 = .ok (.iconst (-1), 1) := by decide +kernel
theorem dX10_look_29 : decode cX10_look 29 = .ok (.ireturn, 1) := by decide +kernel
theorem dX10_look_30 : decode cX10_look 30 = .ok (.iconst 0, 1) := by decide +kernel
theorem dX10_look_31 : decode cX10_look 31 = .ok (.istore_n 3, 1) := by decide +kernel
theorem dX10_look_32 : decode cX10_look 32 = .ok (.iconst 0, 1) := by decide +kernel
theorem dX10_look_33 : decode cX10_look 33 = .ok (.istore 4, 2) := by decide +kernel
theorem dX10_look_35 : decode cX10_look 35 = .ok (.iload 4, 2) := by decide +kernel
theorem dX10_look_37 : decode cX10_look 37 = .ok (.aload_n 0, 1) := by decide +kernel
theorem dX10_look_38 : decode cX10_look 38 = .ok (.getfield 28, 3) := by decide +kernel
theorem dX10_look_41 : decode cX10_look 41 = .ok (.iload_n 1, 1) := by decide +kernel
theorem dX10_look_42 : decode cX10_look 42 = .ok (.invokevirtual 144, 3) := by decide +kernel
theorem dX10_look_45 : decode cX10_look 45 = .ok (.iconst 4, 1) := by decide +kernel
theorem dX10_look_46 : decode cX10_look 46 = .ok (.imul, 1) := by decide +kernel
theorem dX10_look_47 : decode cX10_look 47 = .ok (.if_icmp .ge 40, 3) := by decide +kernel
theorem dX10_look_50 : decode cX10_look 50 = .ok (.aload_n 0, 1) := by decide +kernel
theorem dX10_look_51 : decode cX10_look 51 = .ok (.getfield 28, 3) := by decide +kernel
theorem dX10_look_54 : decode cX10_look 54 = .ok (.iload_n 1, 1) := by decide +kernel
theorem dX10_look_55 : decode cX10_look 55 = .ok (.iload 4, 2) := by decide +kernel
theorem dX10_look_57 : decode cX10_look 57 = .ok (.iload_n 2, 1) := by decide +kernel
theorem dX10_look_58 : decode cX10_look 58 = .ok (.invokevirtual 231, 3) := by decide +kernel
theorem dX10_look_61 : decode cX10_look 61 = .ok (.istore 5, 2) := by decide +kernel
theorem dX10_look_63 : decode cX10_look 63 = .ok (.iload_n 3, 1) := by decide +kernel
theorem dX10_look_64 : decode cX10_look 64 = .ok (.iload 5, 2) := by decide +kernel
theorem dX10_look_66 : decode cX10_look 66 = .ok (.iconst (-1), 1) := by decide +kernel
theorem dX10_look_67 : decode cX10_look 67 = .ok (.if_icmp .ne 7, 3) := by decide +kernel
theorem dX10_look_70 : decode cX10_look 70 = .ok (.iconst 0, 1) := by decide +kernel
theorem dX10_look_71 : decode cX10_look 71 = .ok (.goto 8, 3) := by decide +kernel
theorem dX10_look_74 : decode cX10_look 74 = .ok (.iload 5, 2) := by decide +kernel
theorem dX10_look_76 : decode cX10_look 76 = .ok (.invokestatic 206, 3) := by decide +kernel
theorem dX10_look_79 : decode cX10_look 79 = .ok (.ior, 1) := by decide +kernel
theorem dX10_look_80 : decode cX10_look 80 = .ok (.istore_n 3, 1) := by decide +kernel
theorem dX10_look_81 : decode cX10_look 81 = .ok (.iinc 4 1, 3) := by decide +kernel
theorem dX10_look_84 : decode cX10_look 84 = .ok (.goto (-49), 3) := by decide +kernel
theorem dX10_look_87 : decode cX10_look 87 = .ok (.iload_n 3, 1) := by decide +kernel
theorem dX10_look_88 : decode cX10_look 88 = .ok (.aload_n 0, 1) := by decide +kernel
theorem dX10_look_89 : decode cX10_look 89 = .ok (.getfield 28, 3) := by decide +kernel
theorem dX10_look_92 : decode cX10_look 92 = .ok (.iload_n 1, 1) := by decide +kernel
theorem dX10_look_93 : decode cX10_look 93 = .ok (.iload_n 2, 1) := by decide +kernel
theorem dX10_look_94 : decode cX10_look 94 = .ok (.invokevirtual 235, 3) := by decide +kernel
theorem dX10_look_97 : decode cX10_look 97 = .ok (.invokestatic 206, 3) := by decide +kernel
theorem dX10_look_100 : decode cX10_look 100 = .ok (.iconst (-1), 1) := by decide +kernel
theorem dX10_look_101 : decode cX10_look 101 = .ok (.ixor, 1) := by decide +kernel
theorem dX10_look_102 : decode cX10_look 102 = .ok (.iand, 1) := by decide +kernel
theorem dX10_look_103 : decode cX10_look 103 = .ok (.invokestatic 238, 3) := by decide +kernel
theorem dX10_look_106 : decode cX10_look 106 = .ok (.ireturn, 1) := by decide +kernel
def fX10_look_79 (K35 : Nat → Int32 → Int32 → Int32 → Int32 → eW → Option (Int32 × eW)) (x0 : Nat) (x1 : Int32) (x2 : Int32) (x4 : Int32) (t0 : Int32) (t1 : Int32) (w : eW) : Option (Int32 × eW) := K35 x0 x1 x2 (t0 ||| t1) (x4 + (1 : Int32)) w
set_option maxRecDepth 20000 in
theorem sX10_look_79 {K35 : Nat → Int32 → Int32 → Int32 → Int32 → eW → Option (Int32 × eW)} (hK35 : ∀ (x0 : Nat) (x1 : Int32) (x2 : Int32) (x3 : Int32) (x4 : Int32) (w : eW) (r : Int32 × eW), K35 x0 x1 x2 x3 x4 w = some r → eBN l D cI cZ 4 yX10_look cX10_look 6 (some .int) 35 [(0, .ref x0), (1, .int x1), (2, .int x2), (3, .int x3), (4, .int x4)] [] w (some (.int r.1)) r.2) (x0 : Nat) (x1 : Int32) (x2 : Int32) (x4 : Int32) (t0 : Int32) (t1 : Int32) (w : eW) (r : Int32 × eW) (h : fX10_look_79 K35 x0 x1 x2 x4 t0 t1 w = some r) : eBN l D cI cZ 4 yX10_look cX10_look 6 (some .int) 79 [(0, .ref x0), (1, .int x1), (2, .int x2), (4, .int x4)] [.int t1, .int t0] w (some (.int r.1)) r.2 := by
  rw [fX10_look_79] at h
  intro p e s m args below meth c r0 A X
  refine ev_ior (pc := 79) X dX10_look_79 ?_
  refine ev_istore_n (pc := 80) (L' := [(3, .int (t0 ||| t1)), (0, .ref x0), (1, .int x1), (2, .int x2), (4, .int x4)]) X dX10_look_80 rfl (by decide) rfl ?_
  refine ev_iinc (pc := 81) (v := x4 + (1 : Int32)) (L' := [(4, .int (x4 + (1 : Int32))), (3, .int (t0 ||| t1)), (0, .ref x0), (1, .int x1), (2, .int x2)]) X 4 dX10_look_81 rfl rfl (by decide) rfl ?_
  refine ev_goto (pc := 84) X 35 dX10_look_84 rfl ?_
  exact ev_weak (pc := 35) [2, 3, 4, 1, 0] rfl (hK35 _ _ _ _ _ _ _ h p e s m args below meth c r0 A X)
def fX10_look_35 : Nat → Nat → Int32 → Int32 → Int32 → Int32 → eW → Option (Int32 × eW)
  | 0, _, _, _, _, _, _ => none
  | n + 1, x0, x1, x2, x3, x4, w => (eGR w x0 10 2).bind fun v1 => eBind2 (fX0_length v1 x1 w) fun v3 w2 => if (v3 * (4 : Int32)) ≤ x4 then ((eGR w2 x0 10 2).bind fun v4 => eBind2 (fX0_cellBehind v4 x1 x2 w2) fun v6 w5 => eBind2 (fX10_bit v6 w5) fun v8 w7 => eBind2 (fJ6_bitCount_0f7a4 (x3 &&& (v8 ^^^ (-1 : Int32))) w7) fun v10 w9 => some (v10, w9)) else ((eGR w2 x0 10 2).bind fun v11 => eBind2 (fX0_cellIf v11 x1 x4 x2 w2) fun v13 w12 => if v13 = (-1 : Int32) then (fX10_look_79 (fX10_look_35 n) x0 x1 x2 x4 x3 (0 : Int32) w12) else (eBind2 (fX10_bit v13 w12) fun v15 w14 => fX10_look_79 (fX10_look_35 n) x0 x1 x2 x4 x3 v15 w14))
set_option maxRecDepth 20000 in
theorem sX10_look_35  : ∀ (n : Nat) (x0 : Nat) (x1 : Int32) (x2 : Int32) (x3 : Int32) (x4 : Int32) (w : eW) (r : Int32 × eW), fX10_look_35 n x0 x1 x2 x3 x4 w = some r → eBN l D cI cZ 4 yX10_look cX10_look 6 (some .int) 35 [(0, .ref x0), (1, .int x1), (2, .int x2), (3, .int x3), (4, .int x4)] [] w (some (.int r.1)) r.2 := by
  intro n
  induction n with
  | zero => intro x0 x1 x2 x3 x4 w r h; exact absurd (show (none : Option (Int32 × eW)) = some r from h) (by simp)
  | succ n ih =>
    intro x0 x1 x2 x3 x4 w r h
    rw [fX10_look_35] at h
    intro p e s m args below meth c r0 A X
    refine ev_iload (pc := 35) X 4 dX10_look_35 rfl ?_
    refine ev_aload_n (pc := 37) X 0 dX10_look_37 rfl rfl ?_
    obtain ⟨v1, hv1, h⟩ := eBi h
    refine ev_getR (pc := 38) X hcX10 (k := 2) (by decide) kfX10_28 dX10_look_38 hv1 ?_
    refine ev_iload_n (pc := 41) X 1 dX10_look_41 rfl rfl ?_
    obtain ⟨v3, w2, hc, h⟩ := eB2 h
    refine ev_callV_i (pc := 42) (As := [.int x1]) (S := [.int x4]) X hwX0_length klX10_144 hiX0_length hsX0_length (ci := 0) ⟨rfl, rfl⟩ ⟨Nat.le_of_ble_eq_true rfl, Nat.le_of_ble_eq_true rfl⟩ ⟨Nat.le_refl _, Nat.le_refl _⟩ rfl (Nat.le_of_ble_eq_true rfl) dX10_look_42 rfl (mX0_length (l := l) (D := D) (cI := cI) (cZ := cZ) hc).1 (mX0_length hc).2 ?_
    refine ev_iconst (pc := 45) (v := (4 : Int32)) X dX10_look_45 rfl ?_
    refine ev_imul (pc := 46) X dX10_look_46 ?_
    refine ev_icmp_ge (pc := 47) X 87 dX10_look_47 rfl (fun hc => ?_) (fun hc => ?_)
    · rw [if_pos hc] at h
      refine ev_iload_n (pc := 87) X 3 dX10_look_87 rfl rfl ?_
      refine ev_aload_n (pc := 88) X 0 dX10_look_88 rfl rfl ?_
      obtain ⟨v4, hv4, h⟩ := eBi h
      refine ev_getR (pc := 89) X hcX10 (k := 2) (by decide) kfX10_28 dX10_look_89 hv4 ?_
      refine ev_iload_n (pc := 92) X 1 dX10_look_92 rfl rfl ?_
      refine ev_iload_n (pc := 93) X 2 dX10_look_93 rfl rfl ?_
      obtain ⟨v6, w5, hc, h⟩ := eB2 h
      refine ev_callV_i (pc := 94) (As := [.int x1, .int x2]) (S := [.int x3]) X hwX0_cellBehind klX10_235 hiX0_cellBehind hsX0_cellBehind (ci := 0) ⟨rfl, rfl⟩ ⟨Nat.le_of_ble_eq_true rfl, Nat.le_of_ble_eq_true rfl⟩ ⟨Nat.le_refl _, Nat.le_refl _⟩ rfl (Nat.le_of_ble_eq_true rfl) dX10_look_94 rfl (mX0_cellBehind (l := l) (D := D) (cI := cI) (cZ := cZ) hc).1 (mX0_cellBehind hc).2 ?_
      obtain ⟨v8, w7, hc, h⟩ := eB2 h
      refine ev_callS_i (pc := 97) (As := [.int v6]) (S := [.int x3]) X hwX10_bit klX10_206 htX10_bit ⟨Nat.le_of_ble_eq_true rfl, Nat.le_of_ble_eq_true rfl⟩ ⟨Nat.le_refl _, Nat.le_refl _⟩ rfl (Nat.le_of_ble_eq_true rfl) dX10_look_97 rfl (mX10_bit hc) ?_
      refine ev_iconst (pc := 100) (v := (-1 : Int32)) X dX10_look_100 rfl ?_
      refine ev_ixor (pc := 101) X dX10_look_101 ?_
      refine ev_iand (pc := 102) X dX10_look_102 ?_
      obtain ⟨v10, w9, hc, h⟩ := eB2 h
      refine ev_callS_i (pc := 103) (As := [.int (x3 &&& (v8 ^^^ (-1 : Int32)))]) (S := []) X hwJ6_bitCount_0f7a4 klX10_238 htJ6_bitCount_0f7a4 ⟨Nat.le_of_ble_eq_true rfl, Nat.le_of_ble_eq_true rfl⟩ ⟨Nat.le_refl _, Nat.le_refl _⟩ rfl (Nat.le_of_ble_eq_true rfl) dX10_look_103 rfl (mJ6_bitCount_0f7a4 hc) ?_
      obtain rfl := Option.some.inj h
      exact ev_iret (pc := 106) X dX10_look_106
    · rw [if_neg hc] at h
      refine ev_aload_n (pc := 50) X 0 dX10_look_50 rfl rfl ?_
      obtain ⟨v11, hv11, h⟩ := eBi h
      refine ev_getR (pc := 51) X hcX10 (k := 2) (by decide) kfX10_28 dX10_look_51 hv11 ?_
      refine ev_iload_n (pc := 54) X 1 dX10_look_54 rfl rfl ?_
      refine ev_iload (pc := 55) X 4 dX10_look_55 rfl ?_
      refine ev_iload_n (pc := 57) X 2 dX10_look_57 rfl rfl ?_
      obtain ⟨v13, w12, hc, h⟩ := eB2 h
      refine ev_callV_i (pc := 58) (As := [.int x1, .int x4, .int x2]) (S := []) X hwX0_cellIf klX10_231 hiX0_cellIf hsX0_cellIf (ci := 0) ⟨rfl, rfl⟩ ⟨Nat.le_of_ble_eq_true rfl, Nat.le_of_ble_eq_true rfl⟩ ⟨Nat.le_refl _, Nat.le_refl _⟩ rfl (Nat.le_of_ble_eq_true rfl) dX10_look_58 rfl (mX0_cellIf (l := l) (D := D) (cI := cI) (cZ := cZ) hc).1 (mX0_cellIf hc).2 ?_
      refine ev_istore (pc := 61) (L' := [(5, .int v13), (0, .ref x0), (1, .int x1), (2, .int x2), (3, .int x3), (4, .int x4)]) X dX10_look_61 (by decide) rfl ?_
      refine ev_iload_n (pc := 63) X 4 dX10_look_63 rfl rfl ?_
      refine ev_iload (pc := 64) X 0 dX10_look_64 rfl ?_
      refine ev_iconst (pc := 66) (v := (-1 : Int32)) X dX10_look_66 rfl ?_
      refine ev_icmp_ne (pc := 67) X 74 dX10_look_67 rfl (fun hc => ?_) (fun hc => ?_)
      · rw [if_neg hc] at h
        refine ev_iload (pc := 74) X 0 dX10_look_74 rfl ?_
        obtain ⟨v15, w14, hc, h⟩ := eB2 h
        refine ev_callS_i (pc := 76) (As := [.int v13]) (S := [.int x3]) X hwX10_bit klX10_206 htX10_bit ⟨Nat.le_of_ble_eq_true rfl, Nat.le_of_ble_eq_true rfl⟩ ⟨Nat.le_refl _, Nat.le_refl _⟩ rfl (Nat.le_of_ble_eq_true rfl) dX10_look_76 rfl (mX10_bit hc) ?_
        exact ev_weak (pc := 79) [1, 2, 3, 5] rfl (sX10_look_79 (fun _ _ _ _ _ w r hh => ih _ _ _ _ _ w r hh) _ _ _ _ _ _ _ _ h p e s m args below meth c r0 A X)
      · rw [if_pos hc] at h
        refine ev_iconst (pc := 70) (v := (0 : Int32)) X dX10_look_70 rfl ?_
        refine ev_goto (pc := 71) X 79 dX10_look_71 rfl ?_
        exact ev_weak (pc := 79) [1, 2, 3, 5] rfl (sX10_look_79 (fun _ _ _ _ _ w r hh => ih _ _ _ _ _ w r hh) _ _ _ _ _ _ _ _ h p e s m args below meth c r0 A X)
def fX10_look_0 (x0 : Nat) (x1 : Int32) (x2 : Int32) (w : eW) : Option (Int32 × eW) := (eGR w x0 10 2).bind fun v1 => eBind2 (fX0_has v1 x1 w) fun v3 w2 => if v3 = 0 then (some ((-1 : Int32), w2)) else (if x2 < (1 : Int32) then (some ((-1 : Int32), w2)) else ((eGR w2 x0 10 2).bind fun v4 => eBind2 (fX0_length v4 x1 w2) fun v6 w5 => if x2 ≤ v6 then (fX10_look_35 eN x0 x1 x2 (0 : Int32) (0 : Int32) w5) else (some ((-1 : Int32), w5))))
set_option maxRecDepth 20000 in
theorem sX10_look_0  (x0 : Nat) (x1 : Int32) (x2 : Int32) (w : eW) (r : Int32 × eW) (h : fX10_look_0 x0 x1 x2 w = some r) : eBN l D cI cZ 4 yX10_look cX10_look 6 (some .int) 0 [(0, .ref x0), (1, .int x1), (2, .int x2)] [] w (some (.int r.1)) r.2 := by
  rw [fX10_look_0] at h
  intro p e s m args below meth c r0 A X
  refine ev_aload_n (pc := 0) X 0 dX10_look_0 rfl rfl ?_
  obtain ⟨v1, hv1, h⟩ := eBi h
  refine ev_getR (pc := 1) X hcX10 (k := 2) (by decide) kfX10_28 dX10_look_1 hv1 ?_
  refine ev_iload_n (pc := 4) X 1 dX10_look_4 rfl rfl ?_
  obtain ⟨v3, w2, hc, h⟩ := eB2 h
  refine ev_callV_i (pc := 5) (As := [.int x1]) (S := []) X hwX0_has klX10_135 hiX0_has hsX0_has (ci := 0) ⟨rfl, rfl⟩ ⟨Nat.le_of_ble_eq_true rfl, Nat.le_of_ble_eq_true rfl⟩ ⟨Nat.le_refl _, Nat.le_refl _⟩ rfl (Nat.le_of_ble_eq_true rfl) dX10_look_5 rfl (mX0_has (l := l) (D := D) (cI := cI) (cZ := cZ) hc).1 (mX0_has hc).2 ?_
  refine ev_if_eq (pc := 8) X 28 dX10_look_8 rfl (fun hc => ?_) (fun hc => ?_)
  · rw [if_pos hc] at h
    refine ev_iconst (pc := 28) (v := (-1 : Int32)) X dX10_look_28 rfl ?_
    obtain rfl := Option.some.inj h
    exact ev_iret (pc := 29) X dX10_look_29
  · rw [if_neg hc] at h
    refine ev_iload_n (pc := 11) X 2 dX10_look_11 rfl rfl ?_
    refine ev_iconst (pc := 12) (v := (1 : Int32)) X dX10_look_12 rfl ?_
    refine ev_icmp_lt (pc := 13) X 28 dX10_look_13 rfl (fun hc => ?_) (fun hc => ?_)
    · rw [if_pos hc] at h
      refine ev_iconst (pc := 28) (v := (-1 : Int32)) X dX10_look_28 rfl ?_
      obtain rfl := Option.some.inj h
      exact ev_iret (pc := 29) X dX10_look_29
    · rw [if_neg hc] at h
      refine ev_iload_n (pc := 16) X 2 dX10_look_16 rfl rfl ?_
      refine ev_aload_n (pc := 17) X 0 dX10_look_17 rfl rfl ?_
      obtain ⟨v4, hv4, h⟩ := eBi h
      refine ev_getR (pc := 18) X hcX10 (k := 2) (by decide) kfX10_28 dX10_look_18 hv4 ?_
      refine ev_iload_n (pc := 21) X 1 dX10_look_21 rfl rfl ?_
      obtain ⟨v6, w5, hc, h⟩ := eB2 h
      refine ev_callV_i (pc := 22) (As := [.int x1]) (S := [.int x2]) X hwX0_length klX10_144 hiX0_length hsX0_length (ci := 0) ⟨rfl, rfl⟩ ⟨Nat.le_of_ble_eq_true rfl, Nat.le_of_ble_eq_true rfl⟩ ⟨Nat.le_refl _, Nat.le_refl _⟩ rfl (Nat.le_of_ble_eq_true rfl) dX10_look_22 rfl (mX0_length (l := l) (D := D) (cI := cI) (cZ := cZ) hc).1 (mX0_length hc).2 ?_
      refine ev_icmp_le (pc := 25) X 30 dX10_look_25 rfl (fun hc => ?_) (fun hc => ?_)
      · rw [if_pos hc] at h
        refine ev_iconst (pc := 30) (v := (0 : Int32)) X dX10_look_30 rfl ?_
        refine ev_istore_n (pc := 31) (L' := [(3, .int (0 : Int32)), (0, .ref x0), (1, .int x1), (2, .int x2)]) X dX10_look_31 rfl (by decide) rfl ?_
        refine ev_iconst (pc := 32) (v := (0 : Int32)) X dX10_look_32 rfl ?_
        refine ev_istore (pc := 33) (L' := [(4, .int (0 : Int32)), (3, .int (0 : Int32)), (0, .ref x0), (1, .int x1), (2, .int x2)]) X dX10_look_33 (by decide) rfl ?_
        exact ev_weak (pc := 35) [2, 3, 4, 1, 0] rfl (sX10_look_35 eN _ _ _ _ _ _ _ h p e s m args below meth c r0 A X)
      · rw [if_neg hc] at h
        refine ev_iconst (pc := 28) (v := (-1 : Int32)) X dX10_look_28 rfl ?_
        obtain rfl := Option.some.inj h
        exact ev_iret (pc := 29) X dX10_look_29
def fX10_look (a0 : Nat) (a1 : Int32) (a2 : Int32) (w : eW) : Option (Int32 × eW) := bif eO w a0 10 then fX10_look_0 a0 a1 a2 w else none
theorem mX10_look {a0 : Nat} {a1 : Int32} {a2 : Int32} {w : eW} {v : Int32} {w' : eW} (h : fX10_look a0 a1 a2 w = some (v, w')) : eO w a0 10 = true ∧ eMN l D cI cZ 4 yX10_look cX10_look 6 (some .int) [.ref a0, .int a1, .int a2] w (some (.int v)) w' := by
  obtain ⟨h0, h⟩ := eBif h
  exact ⟨h0, eMN_of [(0, .ref a0), (1, .int a1), (2, .int a2)] (plainFor_of_name (by decide)) (fun _ => rfl) (fun _ => Nat.le_of_ble_eq_true rfl) (fun p e s m args below meth c r0 A X => ev_weak (pc := 0) [0, 1, 2] rfl (sX10_look_0 _ _ _ _ _ h p e s m args below meth c r0 A X))⟩
theorem dX10_rate_0 : decode cX10_rate 0 = .ok (.aload_n 0, 1) := by decide +kernel
theorem dX10_rate_1 : decode cX10_rate 1 = .ok (.getfield 28, 3) := by decide +kernel
theorem dX10_rate_4 : decode cX10_rate 4 = .ok (.iload_n 2, 1) := by decide +kernel
theorem dX10_rate_5 : decode cX10_rate 5 = .ok (.invokevirtual 135, 3) := by decide +kernel
theorem dX10_rate_8 : decode cX10_rate 8 = .ok (.ifCond .ne 6, 3) := by decide +kernel
theorem dX10_rate_11 : decode cX10_rate 11 = .ok (.ldc 243, 2) := by decide +kernel
theorem dX10_rate_13 : decode cX10_rate 13 = .ok (.ireturn, 1) := by decide +kernel
theorem dX10_rate_14 : decode cX10_rate 14 = .ok (.iload_n 1, 1) := by decide +kernel
theorem dX10_rate_15 : decode cX10_rate 15 = .ok (.tableswitch 91 0 5 #[37, 46, 55, 64, 73, 82], 37) := by decide +kernel
theorem dX10_rate_52 : decode cX10_rate 52 = .ok (.aload_n 0, 1) := by decide +kernel
theorem dX10_rate_53 : decode cX10_rate 53 = .ok (.getfield 91, 3) := by decide +kernel
theorem dX10_rate_56 : decode cX10_rate 56 = .ok (.iload_n 2, 1) := by decide +kernel
theorem dX10_rate_57 : decode cX10_rate 57 = .ok (.invokevirtual 244, 3) := by decide +kernel
theorem dX10_rate_60 : decode cX10_rate 60 = .ok (.ireturn, 1) := by decide +kernel
theorem dX10_rate_61 : decode cX10_rate 61 = .ok (.aload_n 0, 1) := by decide +kernel
theorem dX10_rate_62 : decode cX10_rate 62 = .ok (.getfield 91, 3) := by decide +kernel
theorem dX10_rate_65 : decode cX10_rate 65 = .ok (.iload_n 2, 1) := by decide +kernel
theorem dX10_rate_66 : decode cX10_rate 66 = .ok (.invokevirtual 247, 3) := by decide +kernel
theorem dX10_rate_69 : decode cX10_rate 69 = .ok (.ireturn, 1) := by decide +kernel
theorem dX10_rate_70 : decode cX10_rate 70 = .ok (.aload_n 0, 1) := by decide +kernel
theorem dX10_rate_71 : decode cX10_rate 71 = .ok (.getfield 91, 3) := by decide +kernel
theorem dX10_rate_74 : decode cX10_rate 74 = .ok (.iload_n 2, 1) := by decide +kernel
theorem dX10_rate_75 : decode cX10_rate 75 = .ok (.invokevirtual 250, 3) := by decide +kernel
theorem dX10_rate_78 : decode cX10_rate 78 = .ok (.ireturn, 1) := by decide +kernel
theorem dX10_rate_79 : decode cX10_rate 79 = .ok (.aload_n 0, 1) := by decide +kernel
theorem dX10_rate_80 : decode cX10_rate 80 = .ok (.getfield 91, 3) := by decide +kernel
theorem dX10_rate_83 : decode cX10_rate 83 = .ok (.iload_n 2, 1) := by decide +kernel
theorem dX10_rate_84 : decode cX10_rate 84 = .ok (.invokevirtual 253, 3) := by decide +kernel
theorem dX10_rate_87 : decode cX10_rate 87 = .ok (.ireturn, 1) := by decide +kernel
theorem dX10_rate_88 : decode cX10_rate 88 = .ok (.aload_n 0, 1) := by decide +kernel
theorem dX10_rate_89 : decode cX10_rate 89 = .ok (.getfield 91, 3) := by decide +kernel
theorem dX10_rate_92 : decode cX10_rate 92 = .ok (.iload_n 2, 1) := by decide +kernel
theorem dX10_rate_93 : decode cX10_rate 93 = .ok (.invokevirtual 256, 3) := by decide +kernel
theorem dX10_rate_96 : decode cX10_rate 96 = .ok (.ireturn, 1) := by decide +kernel
theorem dX10_rate_97 : decode cX10_rate 97 = .ok (.aload_n 0, 1) := by decide +kernel
theorem dX10_rate_98 : decode cX10_rate 98 = .ok (.getfield 91, 3) := by decide +kernel
theorem dX10_rate_101 : decode cX10_rate 101 = .ok (.iload_n 2, 1) := by decide +kernel
theorem dX10_rate_102 : decode cX10_rate 102 = .ok (.invokevirtual 259, 3) := by decide +kernel
theorem dX10_rate_105 : decode cX10_rate 105 = .ok (.ireturn, 1) := by decide +kernel
theorem dX10_rate_106 : decode cX10_rate 106 = .ok (.ldc 243, 2) := by decide +kernel
theorem dX10_rate_108 : decode cX10_rate 108 = .ok (.ireturn, 1) := by decide +kernel
def fX10_rate_0 (x0 : Nat) (x1 : Int32) (x2 : Int32) (w : eW) : Option (Int32 × eW) := (eGR w x0 10 2).bind fun v1 => eBind2 (fX0_has v1 x2 w) fun v3 w2 => if v3 = 0 then (some ((-1000000 : Int32), w2)) else (if x1 = (0 : Int32) then ((eGR w2 x0 10 10).bind fun v4 => eBind2 (fX5_asBolt v4 x2 w2) fun v6 w5 => some (v6, w5)) else (if x1 = (1 : Int32) then ((eGR w2 x0 10 10).bind fun v7 => eBind2 (fX5_asLane v7 x2 w2) fun v9 w8 => some (v9, w8)) else (if x1 = (2 : Int32) then ((eGR w2 x0 10 10).bind fun v10 => eBind2 (fX5_asToll v10 x2 w2) fun v12 w11 => some (v12, w11)) else (if x1 = (3 : Int32) then ((eGR w2 x0 10 10).bind fun v13 => eBind2 (fX5_asTrack v13 x2 w2) fun v15 w14 => some (v15, w14)) else (if x1 = (4 : Int32) then ((eGR w2 x0 10 10).bind fun v16 => eBind2 (fX5_asMoth v16 x2 w2) fun v18 w17 => some (v18, w17)) else (if x1 = (5 : Int32) then ((eGR w2 x0 10 10).bind fun v19 => eBind2 (fX5_asDream v19 x2 w2) fun v21 w20 => some (v21, w20)) else (some ((-1000000 : Int32), w2))))))))
set_option maxRecDepth 20000 in
theorem sX10_rate_0  (x0 : Nat) (x1 : Int32) (x2 : Int32) (w : eW) (r : Int32 × eW) (h : fX10_rate_0 x0 x1 x2 w = some r) : eBN l D cI cZ 6 yX10_rate cX10_rate 3 (some .int) 0 [(0, .ref x0), (1, .int x1), (2, .int x2)] [] w (some (.int r.1)) r.2 := by
  rw [fX10_rate_0] at h
  intro p e s m args below meth c r0 A X
  refine ev_aload_n (pc := 0) X 0 dX10_rate_0 rfl rfl ?_
  obtain ⟨v1, hv1, h⟩ := eBi h
  refine ev_getR (pc := 1) X hcX10 (k := 2) (by decide) kfX10_28 dX10_rate_1 hv1 ?_
  refine ev_iload_n (pc := 4) X 2 dX10_rate_4 rfl rfl ?_
  obtain ⟨v3, w2, hc, h⟩ := eB2 h
  refine ev_callV_i (pc := 5) (As := [.int x2]) (S := []) X hwX0_has klX10_135 hiX0_has hsX0_has (ci := 0) ⟨rfl, rfl⟩ ⟨Nat.le_of_ble_eq_true rfl, Nat.le_of_ble_eq_true rfl⟩ ⟨Nat.le_refl _, Nat.le_refl _⟩ rfl (Nat.le_of_ble_eq_true rfl) dX10_rate_5 rfl (mX0_has (l := l) (D := D) (cI := cI) (cZ := cZ) hc).1 (mX0_has hc).2 ?_
  refine ev_if_ne (pc := 8) X 14 dX10_rate_8 rfl (fun hc => ?_) (fun hc => ?_)
  · rw [if_neg hc] at h
    refine ev_iload_n (pc := 14) X 1 dX10_rate_14 rfl rfl ?_
    by_cases hq15_0 : x1 = (0 : Int32)
    · rw [if_pos hq15_0] at h
      refine ev_tableIn (pc := 15) X 52 dX10_rate_15 (by rw [hq15_0]; decide) (by rw [hq15_0]; decide) (by rw [hq15_0]; rfl) rfl ?_
      refine ev_aload_n (pc := 52) X 0 dX10_rate_52 rfl rfl ?_
      obtain ⟨v4, hv4, h⟩ := eBi h
      refine ev_getR (pc := 53) X hcX10 (k := 10) (by decide) kfX10_91 dX10_rate_53 hv4 ?_
      refine ev_iload_n (pc := 56) X 2 dX10_rate_56 rfl rfl ?_
      obtain ⟨v6, w5, hc, h⟩ := eB2 h
      refine ev_callV_i (pc := 57) (As := [.int x2]) (S := []) X hwX5_asBolt klX10_244 hiX5_asBolt hsX5_asBolt (ci := 5) ⟨rfl, rfl⟩ ⟨Nat.le_of_ble_eq_true rfl, Nat.le_of_ble_eq_true rfl⟩ ⟨Nat.le_refl _, Nat.le_refl _⟩ rfl (Nat.le_of_ble_eq_true rfl) dX10_rate_57 rfl (mX5_asBolt (l := l) (D := D) (cI := cI) (cZ := cZ) hc).1 (mX5_asBolt hc).2 ?_
      obtain rfl := Option.some.inj h
      exact ev_iret (pc := 60) X dX10_rate_60
    · rw [if_neg hq15_0] at h
      by_cases hq15_1 : x1 = (1 : Int32)
      · rw [if_pos hq15_1] at h
        refine ev_tableIn (pc := 15) X 61 dX10_rate_15 (by rw [hq15_1]; decide) (by rw [hq15_1]; decide) (by rw [hq15_1]; rfl) rfl ?_
        refine ev_aload_n (pc := 61) X 0 dX10_rate_61 rfl rfl ?_
        obtain ⟨v7, hv7, h⟩ := eBi h
        refine ev_getR (pc := 62) X hcX10 (k := 10) (by decide) kfX10_91 dX10_rate_62 hv7 ?_
        refine ev_iload_n (pc := 65) X 2 dX10_rate_65 rfl rfl ?_
        obtain ⟨v9, w8, hc, h⟩ := eB2 h
        refine ev_callV_i (pc := 66) (As := [.int x2]) (S := []) X hwX5_asLane klX10_247 hiX5_asLane hsX5_asLane (ci := 5) ⟨rfl, rfl⟩ ⟨Nat.le_of_ble_eq_true rfl, Nat.le_of_ble_eq_true rfl⟩ ⟨Nat.le_refl _, Nat.le_refl _⟩ rfl (Nat.le_of_ble_eq_true rfl) dX10_rate_66 rfl (mX5_asLane (l := l) (D := D) (cI := cI) (cZ := cZ) hc).1 (mX5_asLane hc).2 ?_
        obtain rfl := Option.some.inj h
        exact ev_iret (pc := 69) X dX10_rate_69
      · rw [if_neg hq15_1] at h
        by_cases hq15_2 : x1 = (2 : Int32)
        · rw [if_pos hq15_2] at h
          refine ev_tableIn (pc := 15) X 70 dX10_rate_15 (by rw [hq15_2]; decide) (by rw [hq15_2]; decide) (by rw [hq15_2]; rfl) rfl ?_
          refine ev_aload_n (pc := 70) X 0 dX10_rate_70 rfl rfl ?_
          obtain ⟨v10, hv10, h⟩ := eBi h
          refine ev_getR (pc := 71) X hcX10 (k := 10) (by decide) kfX10_91 dX10_rate_71 hv10 ?_
          refine ev_iload_n (pc := 74) X 2 dX10_rate_74 rfl rfl ?_
          obtain ⟨v12, w11, hc, h⟩ := eB2 h
          refine ev_callV_i (pc := 75) (As := [.int x2]) (S := []) X hwX5_asToll klX10_250 hiX5_asToll hsX5_asToll (ci := 5) ⟨rfl, rfl⟩ ⟨Nat.le_of_ble_eq_true rfl, Nat.le_of_ble_eq_true rfl⟩ ⟨Nat.le_refl _, Nat.le_refl _⟩ rfl (Nat.le_of_ble_eq_true rfl) dX10_rate_75 rfl (mX5_asToll (l := l) (D := D) (cI := cI) (cZ := cZ) hc).1 (mX5_asToll hc).2 ?_
          obtain rfl := Option.some.inj h
          exact ev_iret (pc := 78) X dX10_rate_78
        · rw [if_neg hq15_2] at h
          by_cases hq15_3 : x1 = (3 : Int32)
          · rw [if_pos hq15_3] at h
            refine ev_tableIn (pc := 15) X 79 dX10_rate_15 (by rw [hq15_3]; decide) (by rw [hq15_3]; decide) (by rw [hq15_3]; rfl) rfl ?_
            refine ev_aload_n (pc := 79) X 0 dX10_rate_79 rfl rfl ?_
            obtain ⟨v13, hv13, h⟩ := eBi h
            refine ev_getR (pc := 80) X hcX10 (k := 10) (by decide) kfX10_91 dX10_rate_80 hv13 ?_
            refine ev_iload_n (pc := 83) X 2 dX10_rate_83 rfl rfl ?_
            obtain ⟨v15, w14, hc, h⟩ := eB2 h
            refine ev_callV_i (pc := 84) (As := [.int x2]) (S := []) X hwX5_asTrack klX10_253 hiX5_asTrack hsX5_asTrack (ci := 5) ⟨rfl, rfl⟩ ⟨Nat.le_of_ble_eq_true rfl, Nat.le_of_ble_eq_true rfl⟩ ⟨Nat.le_refl _, Nat.le_refl _⟩ rfl (Nat.le_of_ble_eq_true rfl) dX10_rate_84 rfl (mX5_asTrack (l := l) (D := D) (cI := cI) (cZ := cZ) hc).1 (mX5_asTrack hc).2 ?_
            obtain rfl := Option.some.inj h
            exact ev_iret (pc := 87) X dX10_rate_87
          · rw [if_neg hq15_3] at h
            by_cases hq15_4 : x1 = (4 : Int32)
            · rw [if_pos hq15_4] at h
              refine ev_tableIn (pc := 15) X 88 dX10_rate_15 (by rw [hq15_4]; decide) (by rw [hq15_4]; decide) (by rw [hq15_4]; rfl) rfl ?_
              refine ev_aload_n (pc := 88) X 0 dX10_rate_88 rfl rfl ?_
              obtain ⟨v16, hv16, h⟩ := eBi h
              refine ev_getR (pc := 89) X hcX10 (k := 10) (by decide) kfX10_91 dX10_rate_89 hv16 ?_
              refine ev_iload_n (pc := 92) X 2 dX10_rate_92 rfl rfl ?_
              obtain ⟨v18, w17, hc, h⟩ := eB2 h
              refine ev_callV_i (pc := 93) (As := [.int x2]) (S := []) X hwX5_asMoth klX10_256 hiX5_asMoth hsX5_asMoth (ci := 5) ⟨rfl, rfl⟩ ⟨Nat.le_of_ble_eq_true rfl, Nat.le_of_ble_eq_true rfl⟩ ⟨Nat.le_refl _, Nat.le_refl _⟩ rfl (Nat.le_of_ble_eq_true rfl) dX10_rate_93 rfl (mX5_asMoth (l := l) (D := D) (cI := cI) (cZ := cZ) hc).1 (mX5_asMoth hc).2 ?_
              obtain rfl := Option.some.inj h
              exact ev_iret (pc := 96) X dX10_rate_96
            · rw [if_neg hq15_4] at h
              by_cases hq15_5 : x1 = (5 : Int32)
              · rw [if_pos hq15_5] at h
                refine ev_tableIn (pc := 15) X 97 dX10_rate_15 (by rw [hq15_5]; decide) (by rw [hq15_5]; decide) (by rw [hq15_5]; rfl) rfl ?_
                refine ev_aload_n (pc := 97) X 0 dX10_rate_97 rfl rfl ?_
                obtain ⟨v19, hv19, h⟩ := eBi h
                refine ev_getR (pc := 98) X hcX10 (k := 10) (by decide) kfX10_91 dX10_rate_98 hv19 ?_
                refine ev_iload_n (pc := 101) X 2 dX10_rate_101 rfl rfl ?_
                obtain ⟨v21, w20, hc, h⟩ := eB2 h
                refine ev_callV_i (pc := 102) (As := [.int x2]) (S := []) X hwX5_asDream klX10_259 hiX5_asDream hsX5_asDream (ci := 5) ⟨rfl, rfl⟩ ⟨Nat.le_of_ble_eq_true rfl, Nat.le_of_ble_eq_true rfl⟩ ⟨Nat.le_refl _, Nat.le_refl _⟩ rfl (Nat.le_of_ble_eq_true rfl) dX10_rate_102 rfl (mX5_asDream (l := l) (D := D) (cI := cI) (cZ := cZ) hc).1 (mX5_asDream hc).2 ?_
                obtain rfl := Option.some.inj h
                exact ev_iret (pc := 105) X dX10_rate_105
              · rw [if_neg hq15_5] at h
                refine ev_tableOut (pc := 15) X 106 dX10_rate_15 (by have a0 := lv_neT hq15_0 (a := 0) (by decide); have a1 := lv_neT hq15_1 (a := 1) (by decide); have a2 := lv_neT hq15_2 (a := 2) (by decide); have a3 := lv_neT hq15_3 (a := 3) (by decide); have a4 := lv_neT hq15_4 (a := 4) (by decide); have a5 := lv_neT hq15_5 (a := 5) (by decide); omega) rfl ?_
                refine ev_ldc (pc := 106) X kkX10_243 dX10_rate_106 ?_
                obtain rfl := Option.some.inj h
                exact ev_iret (pc := 108) X dX10_rate_108
  · rw [if_pos hc] at h
    refine ev_ldc (pc := 11) X kkX10_243 dX10_rate_11 ?_
    obtain rfl := Option.some.inj h
    exact ev_iret (pc := 13) X dX10_rate_13
def fX10_rate (a0 : Nat) (a1 : Int32) (a2 : Int32) (w : eW) : Option (Int32 × eW) := bif eO w a0 10 then fX10_rate_0 a0 a1 a2 w else none
theorem mX10_rate {a0 : Nat} {a1 : Int32} {a2 : Int32} {w : eW} {v : Int32} {w' : eW} (h : fX10_rate a0 a1 a2 w = some (v, w')) : eO w a0 10 = true ∧ eMN l D cI cZ 6 yX10_rate cX10_rate 3 (some .int) [.ref a0, .int a1, .int a2] w (some (.int v)) w' := by
  obtain ⟨h0, h⟩ := eBif h
  exact ⟨h0, eMN_of [(0, .ref a0), (1, .int a1), (2, .int a2)] (plainFor_of_name (by decide)) (fun _ => rfl) (fun _ => Nat.le_of_ble_eq_true rfl) (fun p e s m args below meth c r0 A X => ev_weak (pc := 0) [0, 1, 2] rfl (sX10_rate_0 _ _ _ _ _ h p e s m args below meth c r0 A X))⟩
theorem dX10_isImage_0 : decode cX10_isImage 0 = .ok (.iload_n 0, 1) := by decide +kernel
theorem dX10_isImage_1 : decode cX10_isImage 1 = .ok (.ifCond .lt 12, 3) := by decide +kernel
theorem dX10_isImage_4 : decode cX10_isImage 4 = .ok (.iload_n 0, 1) := by decide +kernel
theorem dX10_isImage_5 : decode cX10_isImage 5 = .ok (.iconst 2, 1) := by decide +kernel
theorem dX10_isImage_6 : decode cX10_isImage 6 = .ok (.if_icmp .ge 7, 3) := by decide +kernel
theorem dX10_isImage_9 : decode cX10_isImage 9 = .ok (.iconst 1, 1) := by decide +kernel
theorem dX10_isImage_10 : decode cX10_isImage 10 = .ok (.goto 4, 3) := by decide +kernel
theorem dX10_isImage_13 : decode cX10_isImage 13 = .ok (.iconst 0, 1) := by decide +kernel
theorem dX10_isImage_14 : decode cX10_isImage 14 = .ok (.ireturn, 1) := by decide +kernel
def fX10_isImage_13  (w : eW) : Option (Int32 × eW) := (eZ (0 : Int32)).bind fun v1 => some (v1, w)
set_option maxRecDepth 20000 in
theorem sX10_isImage_13   (w : eW) (r : Int32 × eW) (h : fX10_isImage_13  w = some r) : eBN l D cI cZ 0 yX10_isImage cX10_isImage 1 (some .boolean) 13 [] [] w (some (.int r.1)) r.2 := by
  rw [fX10_isImage_13] at h
  intro p e s m args below meth c r0 A X
  refine ev_iconst (pc := 13) (v := (0 : Int32)) X dX10_isImage_13 rfl ?_
  obtain ⟨v1, hv1, h⟩ := eBi h
  obtain rfl := Option.some.inj h
  exact ev_zret (pc := 14) X dX10_isImage_14 hv1
def fX10_isImage_0 (x0 : Int32) (w : eW) : Option (Int32 × eW) := if x0 < 0 then (fX10_isImage_13 w) else (if (2 : Int32) ≤ x0 then (fX10_isImage_13 w) else ((eZ (1 : Int32)).bind fun v1 => some (v1, w)))
set_option maxRecDepth 20000 in
theorem sX10_isImage_0  (x0 : Int32) (w : eW) (r : Int32 × eW) (h : fX10_isImage_0 x0 w = some r) : eBN l D cI cZ 0 yX10_isImage cX10_isImage 1 (some .boolean) 0 [(0, .int x0)] [] w (some (.int r.1)) r.2 := by
  rw [fX10_isImage_0] at h
  intro p e s m args below meth c r0 A X
  refine ev_iload_n (pc := 0) X 0 dX10_isImage_0 rfl rfl ?_
  refine ev_if_lt (pc := 1) X 13 dX10_isImage_1 rfl (fun hc => ?_) (fun hc => ?_)
  · rw [if_pos hc] at h
    exact ev_weak (pc := 13) [] rfl (sX10_isImage_13  _ _ h p e s m args below meth c r0 A X)
  · rw [if_neg hc] at h
    refine ev_iload_n (pc := 4) X 0 dX10_isImage_4 rfl rfl ?_
    refine ev_iconst (pc := 5) (v := (2 : Int32)) X dX10_isImage_5 rfl ?_
    refine ev_icmp_ge (pc := 6) X 13 dX10_isImage_6 rfl (fun hc => ?_) (fun hc => ?_)
    · rw [if_pos hc] at h
      exact ev_weak (pc := 13) [] rfl (sX10_isImage_13  _ _ h p e s m args below meth c r0 A X)
    · rw [if_neg hc] at h
      refine ev_iconst (pc := 9) (v := (1 : Int32)) X dX10_isImage_9 rfl ?_
      refine ev_goto (pc := 10) X 14 dX10_isImage_10 rfl ?_
      obtain ⟨v1, hv1, h⟩ := eBi h
      obtain rfl := Option.some.inj h
      exact ev_zret (pc := 14) X dX10_isImage_14 hv1
def fX10_isImage (a0 : Int32) (w : eW) : Option (Int32 × eW) := fX10_isImage_0 a0 w
theorem mX10_isImage {a0 : Int32} {w : eW} {v : Int32} {w' : eW} (h : fX10_isImage a0 w = some (v, w')) : eMN l D cI cZ 0 yX10_isImage cX10_isImage 1 (some .boolean) [.int a0] w (some (.int v)) w' :=
  eMN_of [(0, .int a0)] (plainFor_of_name (by decide)) (fun _ => rfl) (fun _ => Nat.le_of_ble_eq_true rfl) (fun p e s m args below meth c r0 A X => ev_weak (pc := 0) [0] rfl (sX10_isImage_0 _ _ _ h p e s m args below meth c r0 A X))
theorem dX10_keep_0 : decode cX10_keep 0 = .ok (.iload_n 1, 1) := by decide +kernel
theorem dX10_keep_1 : decode cX10_keep 1 = .ok (.invokestatic 262, 3) := by decide +kernel
theorem dX10_keep_4 : decode cX10_keep 4 = .ok (.ifCond .ne 5, 3) := by decide +kernel
theorem dX10_keep_7 : decode cX10_keep 7 = .ok (.iconst (-1), 1) := by decide +kernel
theorem dX10_keep_8 : decode cX10_keep 8 = .ok (.ireturn, 1) := by decide +kernel
theorem dX10_keep_9 : decode cX10_keep 9 = .ok (.aload_n 0, 1) := by decide +kernel
theorem dX10_keep_10 : decode cX10_keep 10 = .ok (.getfield 28, 3) := by decide +kernel
theorem dX10_keep_13 : decode cX10_keep 13 = .ok (.aload_n 0, 1) := by decide +kernel
theorem dX10_keep_14 : decode cX10_keep 14 = .ok (.getfield 46, 3) := by decide +kernel
theorem dX10_keep_17 : decode cX10_keep 17 = .ok (.iload_n 1, 1) := by decide +kernel
theorem dX10_keep_18 : decode cX10_keep 18 = .ok (.invokevirtual 265, 3) := by decide +kernel
theorem dX10_keep_21 : decode cX10_keep 21 = .ok (.aload_n 0, 1) := by decide +kernel
theorem dX10_keep_22 : decode cX10_keep 22 = .ok (.dup, 1) := by decide +kernel
theorem dX10_keep_23 : decode cX10_keep 23 = .ok (.getfield 50, 3) := by decide +kernel
theorem dX10_keep_26 : decode cX10_keep 26 = .ok (.iload_n 1, 1) := by decide +kernel
theorem dX10_keep_27 : decode cX10_keep 27 = .ok (.invokestatic 206, 3) := by decide +kernel
theorem dX10_keep_30 : decode cX10_keep 30 = .ok (.ior, 1) := by decide +kernel
theorem dX10_keep_31 : decode cX10_keep 31 = .ok (.putfield 50, 3) := by decide +kernel
theorem dX10_keep_34 : decode cX10_keep 34 = .ok (.aload_n 0, 1) := by decide +kernel
theorem dX10_keep_35 : decode cX10_keep 35 = .ok (.getfield 28, 3) := by decide +kernel
theorem dX10_keep_38 : decode cX10_keep 38 = .ok (.invokevirtual 164, 3) := by decide +kernel
theorem dX10_keep_41 : decode cX10_keep 41 = .ok (.ireturn, 1) := by decide +kernel
def fX10_keep_0 (x0 : Nat) (x1 : Int32) (w : eW) : Option (Int32 × eW) := eBind2 (fX10_isImage x1 w) fun v2 w1 => if v2 = 0 then (some ((-1 : Int32), w1)) else ((eGR w1 x0 10 2).bind fun v3 => (eGR w1 x0 10 4).bind fun v4 => (fX0_copyTo v3 v4 x1 w1).bind fun w5 => (eGI w5 x0 10 5).bind fun v6 => eBind2 (fX10_bit x1 w5) fun v8 w7 => (eP w7 x0 10 5 (.int (v6 ||| v8))).bind fun w9 => (eGR w9 x0 10 2).bind fun v10 => eBind2 (fX0_size v10 w9) fun v12 w11 => some (v12, w11))
set_option maxRecDepth 20000 in
theorem sX10_keep_0  (x0 : Nat) (x1 : Int32) (w : eW) (r : Int32 × eW) (h : fX10_keep_0 x0 x1 w = some r) : eBN l D cI cZ 2 yX10_keep cX10_keep 2 (some .int) 0 [(0, .ref x0), (1, .int x1)] [] w (some (.int r.1)) r.2 := by
  rw [fX10_keep_0] at h
  intro p e s m args below meth c r0 A X
  refine ev_iload_n (pc := 0) X 1 dX10_keep_0 rfl rfl ?_
  obtain ⟨v2, w1, hc, h⟩ := eB2 h
  refine ev_callS_i (pc := 1) (As := [.int x1]) (S := []) X hwX10_isImage klX10_262 htX10_isImage ⟨Nat.le_of_ble_eq_true rfl, Nat.le_of_ble_eq_true rfl⟩ ⟨Nat.le_refl _, Nat.le_refl _⟩ rfl (Nat.le_of_ble_eq_true rfl) dX10_keep_1 rfl (mX10_isImage hc) ?_
  refine ev_if_ne (pc := 4) X 9 dX10_keep_4 rfl (fun hc => ?_) (fun hc => ?_)
  · rw [if_neg hc] at h
    refine ev_aload_n (pc := 9) X 0 dX10_keep_9 rfl rfl ?_
    obtain ⟨v3, hv3, h⟩ := eBi h
    refine ev_getR (pc := 10) X hcX10 (k := 2) (by decide) kfX10_28 dX10_keep_10 hv3 ?_
    refine ev_aload_n (pc := 13) X 0 dX10_keep_13 rfl rfl ?_
    obtain ⟨v4, hv4, h⟩ := eBi h
    refine ev_getR (pc := 14) X hcX10 (k := 4) (by decide) kfX10_46 dX10_keep_14 hv4 ?_
    refine ev_iload_n (pc := 17) X 1 dX10_keep_17 rfl rfl ?_
    obtain ⟨w5, hc, h⟩ := eBi h
    refine ev_callV_v (pc := 18) (As := [.ref v4, .int x1]) (S := []) X hwX0_copyTo klX10_265 hiX0_copyTo hsX0_copyTo (ci := 0) ⟨rfl, rfl⟩ ⟨Nat.le_of_ble_eq_true rfl, Nat.le_of_ble_eq_true rfl⟩ ⟨Nat.le_refl _, Nat.le_refl _⟩ rfl (Nat.le_of_ble_eq_true rfl) dX10_keep_18 rfl (mX0_copyTo (l := l) (D := D) (cI := cI) (cZ := cZ) hc).1 (mX0_copyTo hc).2 ?_
    refine ev_aload_n (pc := 21) X 0 dX10_keep_21 rfl rfl ?_
    refine ev_dup (pc := 22) X dX10_keep_22 rfl ?_
    obtain ⟨v6, hv6, h⟩ := eBi h
    refine ev_getI (pc := 23) X hcX10 (k := 5) (by decide) kfX10_50 dX10_keep_23 hv6 ?_
    refine ev_iload_n (pc := 26) X 1 dX10_keep_26 rfl rfl ?_
    obtain ⟨v8, w7, hc, h⟩ := eB2 h
    refine ev_callS_i (pc := 27) (As := [.int x1]) (S := [.int v6, .ref x0]) X hwX10_bit klX10_206 htX10_bit ⟨Nat.le_of_ble_eq_true rfl, Nat.le_of_ble_eq_true rfl⟩ ⟨Nat.le_refl _, Nat.le_refl _⟩ rfl (Nat.le_of_ble_eq_true rfl) dX10_keep_27 rfl (mX10_bit hc) ?_
    refine ev_ior (pc := 30) X dX10_keep_30 ?_
    obtain ⟨w9, hw9, h⟩ := eBi h
    refine ev_putI (pc := 31) X hcX10 (k := 5) (by decide) kfX10_50 rfl rfl dX10_keep_31 hw9 ?_
    refine ev_aload_n (pc := 34) X 0 dX10_keep_34 rfl rfl ?_
    obtain ⟨v10, hv10, h⟩ := eBi h
    refine ev_getR (pc := 35) X hcX10 (k := 2) (by decide) kfX10_28 dX10_keep_35 hv10 ?_
    obtain ⟨v12, w11, hc, h⟩ := eB2 h
    refine ev_callV_i (pc := 38) (As := []) (S := []) X hwX0_size klX10_164 hiX0_size hsX0_size (ci := 0) ⟨rfl, rfl⟩ ⟨Nat.le_of_ble_eq_true rfl, Nat.le_of_ble_eq_true rfl⟩ ⟨Nat.le_refl _, Nat.le_refl _⟩ rfl (Nat.le_of_ble_eq_true rfl) dX10_keep_38 rfl (mX0_size (l := l) (D := D) (cI := cI) (cZ := cZ) hc).1 (mX0_size hc).2 ?_
    obtain rfl := Option.some.inj h
    exact ev_iret (pc := 41) X dX10_keep_41
  · rw [if_pos hc] at h
    refine ev_iconst (pc := 7) (v := (-1 : Int32)) X dX10_keep_7 rfl ?_
    obtain rfl := Option.some.inj h
    exact ev_iret (pc := 8) X dX10_keep_8
def fX10_keep (a0 : Nat) (a1 : Int32) (w : eW) : Option (Int32 × eW) := bif eO w a0 10 then fX10_keep_0 a0 a1 w else none
theorem mX10_keep {a0 : Nat} {a1 : Int32} {w : eW} {v : Int32} {w' : eW} (h : fX10_keep a0 a1 w = some (v, w')) : eO w a0 10 = true ∧ eMN l D cI cZ 2 yX10_keep cX10_keep 2 (some .int) [.ref a0, .int a1] w (some (.int v)) w' := by
  obtain ⟨h0, h⟩ := eBif h
  exact ⟨h0, eMN_of [(0, .ref a0), (1, .int a1)] (plainFor_of_name (by decide)) (fun _ => rfl) (fun _ => Nat.le_of_ble_eq_true rfl) (fun p e s m args below meth c r0 A X => ev_weak (pc := 0) [0, 1] rfl (sX10_keep_0 _ _ _ _ h p e s m args below meth c r0 A X))⟩
theorem dX10_back_0 : decode cX10_back 0 = .ok (.iload_n 1, 1) := by decide +kernel
theorem dX10_back_1 : decode cX10_back 1 = .ok (.invokestatic 262, 3) := by decide +kernel
theorem dX10_back_4 : decode cX10_back 4 = .ok (.ifCond .ne 5, 3) := by decide +kernel
theorem dX10_back_7 : decode cX10_back 7 = .ok (.iconst (-1), 1) := by decide +kernel
theorem dX10_back_8 : decode cX10_back 8 = .ok (.ireturn, 1) := by decide +kernel
theorem dX10_back_9 : decode cX10_back 9 = .ok (.aload_n 0, 1) := by decide +kernel
theorem dX10_back_10 : decode cX10_back 10 = .ok (.getfield 50, 3) := by decide +kernel
theorem dX10_back_13 : decode cX10_back 13 = .ok (.iload_n 1, 1) := by decide +kernel
theorem dX10_back_14 : decode cX10_back 14 = .ok (.invokestatic 206, 3) := by decide +kernel
theorem dX10_back_17 : decode cX10_back 17 = .ok (.iand, 1) := by decide +kernel
theorem dX10_back_18 : decode cX10_back 18 = .ok (.ifCond .ne 6, 3) := by decide +kernel
theorem dX10_back_21 : decode cX10_back 21 = .ok (.bipush (-2), 2) := by decide +kernel
theorem dX10_back_23 : decode cX10_back 23 = .ok (.ireturn, 1) := by decide +kernel
theorem dX10_back_24 : decode cX10_back 24 = .ok (.aload_n 0, 1) := by decide +kernel
theorem dX10_back_25 : decode cX10_back 25 = .ok (.getfield 28, 3) := by decide +kernel
theorem dX10_back_28 : decode cX10_back 28 = .ok (.aload_n 0, 1) := by decide +kernel
theorem dX10_back_29 : decode cX10_back 29 = .ok (.getfield 46, 3) := by decide +kernel
theorem dX10_back_32 : decode cX10_back 32 = .ok (.iload_n 1, 1) := by decide +kernel
theorem dX10_back_33 : decode cX10_back 33 = .ok (.invokevirtual 269, 3) := by decide +kernel
theorem dX10_back_36 : decode cX10_back 36 = .ok (.aload_n 0, 1) := by decide +kernel
theorem dX10_back_37 : decode cX10_back 37 = .ok (.getfield 37, 3) := by decide +kernel
theorem dX10_back_40 : decode cX10_back 40 = .ok (.invokevirtual 119, 3) := by decide +kernel
theorem dX10_back_43 : decode cX10_back 43 = .ok (.aload_n 0, 1) := by decide +kernel
theorem dX10_back_44 : decode cX10_back 44 = .ok (.getfield 28, 3) := by decide +kernel
theorem dX10_back_47 : decode cX10_back 47 = .ok (.invokevirtual 164, 3) := by decide +kernel
theorem dX10_back_50 : decode cX10_back 50 = .ok (.ireturn, 1) := by decide +kernel
def fX10_back_0 (x0 : Nat) (x1 : Int32) (w : eW) : Option (Int32 × eW) := eBind2 (fX10_isImage x1 w) fun v2 w1 => if v2 = 0 then (some ((-1 : Int32), w1)) else ((eGI w1 x0 10 5).bind fun v3 => eBind2 (fX10_bit x1 w1) fun v5 w4 => if (v3 &&& v5) = 0 then (some ((-2 : Int32), w4)) else ((eGR w4 x0 10 2).bind fun v6 => (eGR w4 x0 10 4).bind fun v7 => (fX0_copyFrom v6 v7 x1 w4).bind fun w8 => (eGR w8 x0 10 3).bind fun v9 => (fX4_forget v9 w8).bind fun w10 => (eGR w10 x0 10 2).bind fun v11 => eBind2 (fX0_size v11 w10) fun v13 w12 => some (v13, w12)))
set_option maxRecDepth 20000 in
theorem sX10_back_0  (x0 : Nat) (x1 : Int32) (w : eW) (r : Int32 × eW) (h : fX10_back_0 x0 x1 w = some r) : eBN l D cI cZ 2 yX10_back cX10_back 2 (some .int) 0 [(0, .ref x0), (1, .int x1)] [] w (some (.int r.1)) r.2 := by
  rw [fX10_back_0] at h
  intro p e s m args below meth c r0 A X
  refine ev_iload_n (pc := 0) X 1 dX10_back_0 rfl rfl ?_
  obtain ⟨v2, w1, hc, h⟩ := eB2 h
  refine ev_callS_i (pc := 1) (As := [.int x1]) (S := []) X hwX10_isImage klX10_262 htX10_isImage ⟨Nat.le_of_ble_eq_true rfl, Nat.le_of_ble_eq_true rfl⟩ ⟨Nat.le_refl _, Nat.le_refl _⟩ rfl (Nat.le_of_ble_eq_true rfl) dX10_back_1 rfl (mX10_isImage hc) ?_
  refine ev_if_ne (pc := 4) X 9 dX10_back_4 rfl (fun hc => ?_) (fun hc => ?_)
  · rw [if_neg hc] at h
    refine ev_aload_n (pc := 9) X 0 dX10_back_9 rfl rfl ?_
    obtain ⟨v3, hv3, h⟩ := eBi h
    refine ev_getI (pc := 10) X hcX10 (k := 5) (by decide) kfX10_50 dX10_back_10 hv3 ?_
    refine ev_iload_n (pc := 13) X 1 dX10_back_13 rfl rfl ?_
    obtain ⟨v5, w4, hc, h⟩ := eB2 h
    refine ev_callS_i (pc := 14) (As := [.int x1]) (S := [.int v3]) X hwX10_bit klX10_206 htX10_bit ⟨Nat.le_of_ble_eq_true rfl, Nat.le_of_ble_eq_true rfl⟩ ⟨Nat.le_refl _, Nat.le_refl _⟩ rfl (Nat.le_of_ble_eq_true rfl) dX10_back_14 rfl (mX10_bit hc) ?_
    refine ev_iand (pc := 17) X dX10_back_17 ?_
    refine ev_if_ne (pc := 18) X 24 dX10_back_18 rfl (fun hc => ?_) (fun hc => ?_)
    · rw [if_neg hc] at h
      refine ev_aload_n (pc := 24) X 0 dX10_back_24 rfl rfl ?_
      obtain ⟨v6, hv6, h⟩ := eBi h
      refine ev_getR (pc := 25) X hcX10 (k := 2) (by decide) kfX10_28 dX10_back_25 hv6 ?_
      refine ev_aload_n (pc := 28) X 0 dX10_back_28 rfl rfl ?_
      obtain ⟨v7, hv7, h⟩ := eBi h
      refine ev_getR (pc := 29) X hcX10 (k := 4) (by decide) kfX10_46 dX10_back_29 hv7 ?_
      refine ev_iload_n (pc := 32) X 1 dX10_back_32 rfl rfl ?_
      obtain ⟨w8, hc, h⟩ := eBi h
      refine ev_callV_v (pc := 33) (As := [.ref v7, .int x1]) (S := []) X hwX0_copyFrom klX10_269 hiX0_copyFrom hsX0_copyFrom (ci := 0) ⟨rfl, rfl⟩ ⟨Nat.le_of_ble_eq_true rfl, Nat.le_of_ble_eq_true rfl⟩ ⟨Nat.le_refl _, Nat.le_refl _⟩ rfl (Nat.le_of_ble_eq_true rfl) dX10_back_33 rfl (mX0_copyFrom (l := l) (D := D) (cI := cI) (cZ := cZ) hc).1 (mX0_copyFrom hc).2 ?_
      refine ev_aload_n (pc := 36) X 0 dX10_back_36 rfl rfl ?_
      obtain ⟨v9, hv9, h⟩ := eBi h
      refine ev_getR (pc := 37) X hcX10 (k := 3) (by decide) kfX10_37 dX10_back_37 hv9 ?_
      obtain ⟨w10, hc, h⟩ := eBi h
      refine ev_callV_v (pc := 40) (As := []) (S := []) X hwX4_forget klX10_119 hiX4_forget hsX4_forget (ci := 4) ⟨rfl, rfl⟩ ⟨Nat.le_of_ble_eq_true rfl, Nat.le_of_ble_eq_true rfl⟩ ⟨Nat.le_refl _, Nat.le_refl _⟩ rfl (Nat.le_of_ble_eq_true rfl) dX10_back_40 rfl (mX4_forget (l := l) (D := D) (cI := cI) (cZ := cZ) hc).1 (mX4_forget hc).2 ?_
      refine ev_aload_n (pc := 43) X 0 dX10_back_43 rfl rfl ?_
      obtain ⟨v11, hv11, h⟩ := eBi h
      refine ev_getR (pc := 44) X hcX10 (k := 2) (by decide) kfX10_28 dX10_back_44 hv11 ?_
      obtain ⟨v13, w12, hc, h⟩ := eB2 h
      refine ev_callV_i (pc := 47) (As := []) (S := []) X hwX0_size klX10_164 hiX0_size hsX0_size (ci := 0) ⟨rfl, rfl⟩ ⟨Nat.le_of_ble_eq_true rfl, Nat.le_of_ble_eq_true rfl⟩ ⟨Nat.le_refl _, Nat.le_refl _⟩ rfl (Nat.le_of_ble_eq_true rfl) dX10_back_47 rfl (mX0_size (l := l) (D := D) (cI := cI) (cZ := cZ) hc).1 (mX0_size hc).2 ?_
      obtain rfl := Option.some.inj h
      exact ev_iret (pc := 50) X dX10_back_50
    · rw [if_pos hc] at h
      refine ev_bipush (pc := 21) (v := (-2 : Int32)) X dX10_back_21 rfl ?_
      obtain rfl := Option.some.inj h
      exact ev_iret (pc := 23) X dX10_back_23
  · rw [if_pos hc] at h
    refine ev_iconst (pc := 7) (v := (-1 : Int32)) X dX10_back_7 rfl ?_
    obtain rfl := Option.some.inj h
    exact ev_iret (pc := 8) X dX10_back_8
def fX10_back (a0 : Nat) (a1 : Int32) (w : eW) : Option (Int32 × eW) := bif eO w a0 10 then fX10_back_0 a0 a1 w else none
theorem mX10_back {a0 : Nat} {a1 : Int32} {w : eW} {v : Int32} {w' : eW} (h : fX10_back a0 a1 w = some (v, w')) : eO w a0 10 = true ∧ eMN l D cI cZ 2 yX10_back cX10_back 2 (some .int) [.ref a0, .int a1] w (some (.int v)) w' := by
  obtain ⟨h0, h⟩ := eBif h
  exact ⟨h0, eMN_of [(0, .ref a0), (1, .int a1)] (plainFor_of_name (by decide)) (fun _ => rfl) (fun _ => Nat.le_of_ble_eq_true rfl) (fun p e s m args below meth c r0 A X => ev_weak (pc := 0) [0, 1] rfl (sX10_back_0 _ _ _ _ h p e s m args below meth c r0 A X))⟩
theorem dX10_count_0 : decode cX10_count 0 = .ok (.iload_n 1, 1) := by decide +kernel
theorem dX10_count_1 : decode cX10_count 1 = .ok (.tableswitch 75 0 4 #[35, 43, 51, 59, 67], 35) := by decide +kernel
theorem dX10_count_36 : decode cX10_count 36 = .ok (.aload_n 0, 1) := by decide +kernel
theorem dX10_count_37 : decode cX10_count 37 = .ok (.getfield 12, 3) := by decide +kernel
theorem dX10_count_40 : decode cX10_count 40 = .ok (.invokevirtual 272, 3) := by decide +kernel
theorem dX10_count_43 : decode cX10_count 43 = .ok (.ireturn, 1) := by decide +kernel
theorem dX10_count_44 : decode cX10_count 44 = .ok (.aload_n 0, 1) := by decide +kernel
theorem dX10_count_45 : decode cX10_count 45 = .ok (.getfield 12, 3) := by decide +kernel
theorem dX10_count_48 : decode cX10_count 48 = .ok (.invokevirtual 275, 3) := by decide +kernel
theorem dX10_count_51 : decode cX10_count 51 = .ok (.ireturn, 1) := by decide +kernel
theorem dX10_count_52 : decode cX10_count 52 = .ok (.aload_n 0, 1) := by decide +kernel
theorem dX10_count_53 : decode cX10_count 53 = .ok (.getfield 12, 3) := by decide +kernel
theorem dX10_count_56 : decode cX10_count 56 = .ok (.invokevirtual 129, 3) := by decide +kernel
theorem dX10_count_59 : decode cX10_count 59 = .ok (.ireturn, 1) := by decide +kernel
theorem dX10_count_60 : decode cX10_count 60 = .ok (.aload_n 0, 1) := by decide +kernel
theorem dX10_count_61 : decode cX10_count 61 = .ok (.getfield 12, 3) := by decide +kernel
theorem dX10_count_64 : decode cX10_count 64 = .ok (.invokevirtual 278, 3) := by decide +kernel
theorem dX10_count_67 : decode cX10_count 67 = .ok (.ireturn, 1) := by decide +kernel
theorem dX10_count_68 : decode cX10_count 68 = .ok (.aload_n 0, 1) := by decide +kernel
theorem dX10_count_69 : decode cX10_count 69 = .ok (.getfield 19, 3) := by decide +kernel
theorem dX10_count_72 : decode cX10_count 72 = .ok (.invokevirtual 99, 3) := by decide +kernel
theorem dX10_count_75 : decode cX10_count 75 = .ok (.ireturn, 1) := by decide +kernel
theorem dX10_count_76 : decode cX10_count 76 = .ok (.iconst (-1), 1) := by decide +kernel
theorem dX10_count_77 : decode cX10_count 77 = .ok (.ireturn, 1) := by decide +kernel
def fX10_count_0 (x0 : Nat) (x1 : Int32) (w : eW) : Option (Int32 × eW) := if x1 = (0 : Int32) then ((eGR w x0 10 0).bind fun v1 => eBind2 (fX1_wide v1 w) fun v3 w2 => some (v3, w2)) else (if x1 = (1 : Int32) then ((eGR w x0 10 0).bind fun v4 => eBind2 (fX1_deep v4 w) fun v6 w5 => some (v6, w5)) else (if x1 = (2 : Int32) then ((eGR w x0 10 0).bind fun v7 => eBind2 (fX1_towns v7 w) fun v9 w8 => some (v9, w8)) else (if x1 = (3 : Int32) then ((eGR w x0 10 0).bind fun v10 => eBind2 (fX1_slope v10 w) fun v12 w11 => some (v12, w11)) else (if x1 = (4 : Int32) then ((eGR w x0 10 1).bind fun v13 => eBind2 (fX2_size v13 w) fun v15 w14 => some (v15, w14)) else (some ((-1 : Int32), w))))))
set_option maxRecDepth 20000 in
theorem sX10_count_0  (x0 : Nat) (x1 : Int32) (w : eW) (r : Int32 × eW) (h : fX10_count_0 x0 x1 w = some r) : eBN l D cI cZ 1 yX10_count cX10_count 2 (some .int) 0 [(0, .ref x0), (1, .int x1)] [] w (some (.int r.1)) r.2 := by
  rw [fX10_count_0] at h
  intro p e s m args below meth c r0 A X
  refine ev_iload_n (pc := 0) X 1 dX10_count_0 rfl rfl ?_
  by_cases hq1_0 : x1 = (0 : Int32)
  · rw [if_pos hq1_0] at h
    refine ev_tableIn (pc := 1) X 36 dX10_count_1 (by rw [hq1_0]; decide) (by rw [hq1_0]; decide) (by rw [hq1_0]; rfl) rfl ?_
    refine ev_aload_n (pc := 36) X 0 dX10_count_36 rfl rfl ?_
    obtain ⟨v1, hv1, h⟩ := eBi h
    refine ev_getR (pc := 37) X hcX10 (k := 0) (by decide) kfX10_12 dX10_count_37 hv1 ?_
    obtain ⟨v3, w2, hc, h⟩ := eB2 h
    refine ev_callV_i (pc := 40) (As := []) (S := []) X hwX1_wide klX10_272 hiX1_wide hsX1_wide (ci := 1) ⟨rfl, rfl⟩ ⟨Nat.le_of_ble_eq_true rfl, Nat.le_of_ble_eq_true rfl⟩ ⟨Nat.le_refl _, Nat.le_refl _⟩ rfl (Nat.le_of_ble_eq_true rfl) dX10_count_40 rfl (mX1_wide (l := l) (D := D) (cI := cI) (cZ := cZ) hc).1 (mX1_wide hc).2 ?_
    obtain rfl := Option.some.inj h
    exact ev_iret (pc := 43) X dX10_count_43
  · rw [if_neg hq1_0] at h
    by_cases hq1_1 : x1 = (1 : Int32)
    · rw [if_pos hq1_1] at h
      refine ev_tableIn (pc := 1) X 44 dX10_count_1 (by rw [hq1_1]; decide) (by rw [hq1_1]; decide) (by rw [hq1_1]; rfl) rfl ?_
      refine ev_aload_n (pc := 44) X 0 dX10_count_44 rfl rfl ?_
      obtain ⟨v4, hv4, h⟩ := eBi h
      refine ev_getR (pc := 45) X hcX10 (k := 0) (by decide) kfX10_12 dX10_count_45 hv4 ?_
      obtain ⟨v6, w5, hc, h⟩ := eB2 h
      refine ev_callV_i (pc := 48) (As := []) (S := []) X hwX1_deep klX10_275 hiX1_deep hsX1_deep (ci := 1) ⟨rfl, rfl⟩ ⟨Nat.le_of_ble_eq_true rfl, Nat.le_of_ble_eq_true rfl⟩ ⟨Nat.le_refl _, Nat.le_refl _⟩ rfl (Nat.le_of_ble_eq_true rfl) dX10_count_48 rfl (mX1_deep (l := l) (D := D) (cI := cI) (cZ := cZ) hc).1 (mX1_deep hc).2 ?_
      obtain rfl := Option.some.inj h
      exact ev_iret (pc := 51) X dX10_count_51
    · rw [if_neg hq1_1] at h
      by_cases hq1_2 : x1 = (2 : Int32)
      · rw [if_pos hq1_2] at h
        refine ev_tableIn (pc := 1) X 52 dX10_count_1 (by rw [hq1_2]; decide) (by rw [hq1_2]; decide) (by rw [hq1_2]; rfl) rfl ?_
        refine ev_aload_n (pc := 52) X 0 dX10_count_52 rfl rfl ?_
        obtain ⟨v7, hv7, h⟩ := eBi h
        refine ev_getR (pc := 53) X hcX10 (k := 0) (by decide) kfX10_12 dX10_count_53 hv7 ?_
        obtain ⟨v9, w8, hc, h⟩ := eB2 h
        refine ev_callV_i (pc := 56) (As := []) (S := []) X hwX1_towns klX10_129 hiX1_towns hsX1_towns (ci := 1) ⟨rfl, rfl⟩ ⟨Nat.le_of_ble_eq_true rfl, Nat.le_of_ble_eq_true rfl⟩ ⟨Nat.le_refl _, Nat.le_refl _⟩ rfl (Nat.le_of_ble_eq_true rfl) dX10_count_56 rfl (mX1_towns (l := l) (D := D) (cI := cI) (cZ := cZ) hc).1 (mX1_towns hc).2 ?_
        obtain rfl := Option.some.inj h
        exact ev_iret (pc := 59) X dX10_count_59
      · rw [if_neg hq1_2] at h
        by_cases hq1_3 : x1 = (3 : Int32)
        · rw [if_pos hq1_3] at h
          refine ev_tableIn (pc := 1) X 60 dX10_count_1 (by rw [hq1_3]; decide) (by rw [hq1_3]; decide) (by rw [hq1_3]; rfl) rfl ?_
          refine ev_aload_n (pc := 60) X 0 dX10_count_60 rfl rfl ?_
          obtain ⟨v10, hv10, h⟩ := eBi h
          refine ev_getR (pc := 61) X hcX10 (k := 0) (by decide) kfX10_12 dX10_count_61 hv10 ?_
          obtain ⟨v12, w11, hc, h⟩ := eB2 h
          refine ev_callV_i (pc := 64) (As := []) (S := []) X hwX1_slope klX10_278 hiX1_slope hsX1_slope (ci := 1) ⟨rfl, rfl⟩ ⟨Nat.le_of_ble_eq_true rfl, Nat.le_of_ble_eq_true rfl⟩ ⟨Nat.le_refl _, Nat.le_refl _⟩ rfl (Nat.le_of_ble_eq_true rfl) dX10_count_64 rfl (mX1_slope (l := l) (D := D) (cI := cI) (cZ := cZ) hc).1 (mX1_slope hc).2 ?_
          obtain rfl := Option.some.inj h
          exact ev_iret (pc := 67) X dX10_count_67
        · rw [if_neg hq1_3] at h
          by_cases hq1_4 : x1 = (4 : Int32)
          · rw [if_pos hq1_4] at h
            refine ev_tableIn (pc := 1) X 68 dX10_count_1 (by rw [hq1_4]; decide) (by rw [hq1_4]; decide) (by rw [hq1_4]; rfl) rfl ?_
            refine ev_aload_n (pc := 68) X 0 dX10_count_68 rfl rfl ?_
            obtain ⟨v13, hv13, h⟩ := eBi h
            refine ev_getR (pc := 69) X hcX10 (k := 1) (by decide) kfX10_19 dX10_count_69 hv13 ?_
            obtain ⟨v15, w14, hc, h⟩ := eB2 h
            refine ev_callV_i (pc := 72) (As := []) (S := []) X hwX2_size klX10_99 hiX2_size hsX2_size (ci := 2) ⟨rfl, rfl⟩ ⟨Nat.le_of_ble_eq_true rfl, Nat.le_of_ble_eq_true rfl⟩ ⟨Nat.le_refl _, Nat.le_refl _⟩ rfl (Nat.le_of_ble_eq_true rfl) dX10_count_72 rfl (mX2_size (l := l) (D := D) (cI := cI) (cZ := cZ) hc).1 (mX2_size hc).2 ?_
            obtain rfl := Option.some.inj h
            exact ev_iret (pc := 75) X dX10_count_75
          · rw [if_neg hq1_4] at h
            refine ev_tableOut (pc := 1) X 76 dX10_count_1 (by have a0 := lv_neT hq1_0 (a := 0) (by decide); have a1 := lv_neT hq1_1 (a := 1) (by decide); have a2 := lv_neT hq1_2 (a := 2) (by decide); have a3 := lv_neT hq1_3 (a := 3) (by decide); have a4 := lv_neT hq1_4 (a := 4) (by decide); omega) rfl ?_
            refine ev_iconst (pc := 76) (v := (-1 : Int32)) X dX10_count_76 rfl ?_
            obtain rfl := Option.some.inj h
            exact ev_iret (pc := 77) X dX10_count_77
def fX10_count (a0 : Nat) (a1 : Int32) (w : eW) : Option (Int32 × eW) := bif eO w a0 10 then fX10_count_0 a0 a1 w else none
theorem mX10_count {a0 : Nat} {a1 : Int32} {w : eW} {v : Int32} {w' : eW} (h : fX10_count a0 a1 w = some (v, w')) : eO w a0 10 = true ∧ eMN l D cI cZ 1 yX10_count cX10_count 2 (some .int) [.ref a0, .int a1] w (some (.int v)) w' := by
  obtain ⟨h0, h⟩ := eBif h
  exact ⟨h0, eMN_of [(0, .ref a0), (1, .int a1)] (plainFor_of_name (by decide)) (fun _ => rfl) (fun _ => Nat.le_of_ble_eq_true rfl) (fun p e s m args below meth c r0 A X => ev_weak (pc := 0) [0, 1] rfl (sX10_count_0 _ _ _ _ h p e s m args below meth c r0 A X))⟩
theorem dX10_trace_0 : decode cX10_trace 0 = .ok (.aload_n 0, 1) := by decide +kernel
theorem dX10_trace_1 : decode cX10_trace 1 = .ok (.getfield 91, 3) := by decide +kernel
theorem dX10_trace_4 : decode cX10_trace 4 = .ok (.invokevirtual 281, 3) := by decide +kernel
theorem dX10_trace_7 : decode cX10_trace 7 = .ok (.lreturn, 1) := by decide +kernel
def fX10_trace_0 (x0 : Nat) (w : eW) : Option (Int64 × eW) := (eGR w x0 10 10).bind fun v1 => eBind2 (fX5_traced v1 w) fun v3 w2 => some (v3, w2)
set_option maxRecDepth 20000 in
theorem sX10_trace_0  (x0 : Nat) (w : eW) (r : Int64 × eW) (h : fX10_trace_0 x0 w = some r) : eBN l D cI cZ 1 yX10_trace cX10_trace 1 (some .long) 0 [(0, .ref x0)] [] w (some (.long r.1)) r.2 := by
  rw [fX10_trace_0] at h
  intro p e s m args below meth c r0 A X
  refine ev_aload_n (pc := 0) X 0 dX10_trace_0 rfl rfl ?_
  obtain ⟨v1, hv1, h⟩ := eBi h
  refine ev_getR (pc := 1) X hcX10 (k := 10) (by decide) kfX10_91 dX10_trace_1 hv1 ?_
  obtain ⟨v3, w2, hc, h⟩ := eB2 h
  refine ev_callV_l (pc := 4) (As := []) (S := []) X hwX5_traced klX10_281 hiX5_traced hsX5_traced (ci := 5) ⟨rfl, rfl⟩ ⟨Nat.le_of_ble_eq_true rfl, Nat.le_of_ble_eq_true rfl⟩ ⟨Nat.le_refl _, Nat.le_refl _⟩ rfl (Nat.le_of_ble_eq_true rfl) dX10_trace_4 rfl (mX5_traced (l := l) (D := D) (cI := cI) (cZ := cZ) hc).1 (mX5_traced hc).2 ?_
  obtain rfl := Option.some.inj h
  exact ev_lret (pc := 7) X dX10_trace_7
def fX10_trace (a0 : Nat) (w : eW) : Option (Int64 × eW) := bif eO w a0 10 then fX10_trace_0 a0 w else none
theorem mX10_trace {a0 : Nat} {w : eW} {v : Int64} {w' : eW} (h : fX10_trace a0 w = some (v, w')) : eO w a0 10 = true ∧ eMN l D cI cZ 1 yX10_trace cX10_trace 1 (some .long) [.ref a0] w (some (.long v)) w' := by
  obtain ⟨h0, h⟩ := eBif h
  exact ⟨h0, eMN_of [(0, .ref a0)] (plainFor_of_name (by decide)) (fun _ => rfl) (fun _ => Nat.le_of_ble_eq_true rfl) (fun p e s m args below meth c r0 A X => ev_weak (pc := 0) [0] rfl (sX10_trace_0 _ _ _ h p e s m args below meth c r0 A X))⟩
end GEN
