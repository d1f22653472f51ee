section GEN
variable {l : Launch} {D : va_G} {cI cZ : ClassId}
theorem dX0_removeAll_0 : decode cX0_removeAll 0 = .ok (.aload_n 0, 1) := by decide +kernel
theorem dX0_removeAll_1 : decode cX0_removeAll 1 = .ok (.getfield 16, 3) := by decide +kernel
theorem dX0_removeAll_4 : decode cX0_removeAll 4 = .ok (.iconst 0, 1) := by decide +kernel
theorem dX0_removeAll_5 : decode cX0_removeAll 5 = .ok (.iconst 0, 1) := by decide +kernel
theorem dX0_removeAll_6 : decode cX0_removeAll 6 = .ok (.invokevirtual 24, 3) := by decide +kernel
theorem dX0_removeAll_9 : decode cX0_removeAll 9 = .ok (.return_, 1) := by decide +kernel
def fX0_removeAll_0 (x0 : Nat) (w : eW) : Option (eW) := (eGR w x0 0 1).bind fun v1 => (fX7_put v1 (0 : Int32) (0 : Int32) w).bind fun w2 => some w2
set_option maxRecDepth 20000 in
theorem sX0_removeAll_0  (x0 : Nat) (w : eW) (r : eW) (h : fX0_removeAll_0 x0 w = some r) : eBN l D cI cZ 1 yX0_removeAll cX0_removeAll 1 none 0 [(0, .ref x0)] [] w none r := by
  rw [fX0_removeAll_0] at h
  intro p e s m args below meth c r0 A X
  refine ev_aload_n (pc := 0) X 0 dX0_removeAll_0 rfl rfl ?_
  obtain ⟨v1, hv1, h⟩ := eBi h
  refine ev_getR (pc := 1) X hcX0 (k := 1) (by decide) kfX0_16 dX0_removeAll_1 hv1 ?_
  refine ev_iconst (pc := 4) (v := (0 : Int32)) X dX0_removeAll_4 rfl ?_
  refine ev_iconst (pc := 5) (v := (0 : Int32)) X dX0_removeAll_5 rfl ?_
  obtain ⟨w2, hc, h⟩ := eBi h
  refine ev_callV_v (pc := 6) (As := [.int (0 : Int32), .int (0 : Int32)]) (S := []) X hwX7_put klX0_24 hiX7_put hsX7_put (ci := 7) ⟨rfl, rfl⟩ ⟨Nat.le_of_ble_eq_true rfl, Nat.le_of_ble_eq_true rfl⟩ ⟨Nat.le_refl _, Nat.le_refl _⟩ rfl (Nat.le_of_ble_eq_true rfl) dX0_removeAll_6 rfl (mX7_put (l := l) (D := D) (cI := cI) (cZ := cZ) hc).1 (mX7_put hc).2 ?_
  obtain rfl := Option.some.inj h
  exact ev_vret (pc := 9) X dX0_removeAll_9
def fX0_removeAll (a0 : Nat) (w : eW) : Option (eW) := bif eO w a0 0 then fX0_removeAll_0 a0 w else none
theorem mX0_removeAll {a0 : Nat} {w : eW} {w' : eW} (h : fX0_removeAll a0 w = some w') : eO w a0 0 = true ∧ eMN l D cI cZ 1 yX0_removeAll cX0_removeAll 1 none [.ref a0] w none w' := by
  obtain ⟨h0, h⟩ := eBif h
  exact ⟨h0, eMN_of [(0, .ref a0)] (plainFor_of_name (by decide)) (fun _ => rfl) (fun _ => Nat.le_of_ble_eq_true rfl) (fun p e s m args below meth c r0 A X => ev_weak (pc := 0) [0] rfl (sX0_removeAll_0 _ _ _ h p e s m args below meth c r0 A X))⟩
theorem dX0_copyTo_0 : decode cX0_copyTo 0 = .ok (.iconst 0, 1) := by decide +kernel
theorem dX0_copyTo_1 : decode cX0_copyTo 1 = .ok (.istore_n 3, 1) := by decide +kernel
theorem dX0_copyTo_2 : decode cX0_copyTo 2 = .ok (.iload_n 3, 1) := by decide +kernel
theorem dX0_copyTo_3 : decode cX0_copyTo 3 = .ok (.bipush 57, 2) := by decide +kernel
theorem dX0_copyTo_5 : decode cX0_copyTo 5 = .ok (.if_icmp .ge 27, 3) := by decide +kernel
theorem dX0_copyTo_8 : decode cX0_copyTo 8 = .ok (.aload_n 1, 1) := by decide +kernel
theorem dX0_copyTo_9 : decode cX0_copyTo 9 = .ok (.iload_n 2, 1) := by decide +kernel
theorem dX0_copyTo_10 : decode cX0_copyTo 10 = .ok (.bipush 57, 2) := by decide +kernel
theorem dX0_copyTo_12 : decode cX0_copyTo 12 = .ok (.imul, 1) := by decide +kernel
theorem dX0_copyTo_13 : decode cX0_copyTo 13 = .ok (.iload_n 3, 1) := by decide +kernel
theorem dX0_copyTo_14 : decode cX0_copyTo 14 = .ok (.iadd, 1) := by decide +kernel
theorem dX0_copyTo_15 : decode cX0_copyTo 15 = .ok (.aload_n 0, 1) := by decide +kernel
theorem dX0_copyTo_16 : decode cX0_copyTo 16 = .ok (.getfield 16, 3) := by decide +kernel
theorem dX0_copyTo_19 : decode cX0_copyTo 19 = .ok (.iload_n 3, 1) := by decide +kernel
theorem dX0_copyTo_20 : decode cX0_copyTo 20 = .ok (.invokevirtual 32, 3) := by decide +kernel
theorem dX0_copyTo_23 : decode cX0_copyTo 23 = .ok (.invokevirtual 24, 3) := by decide +kernel
theorem dX0_copyTo_26 : decode cX0_copyTo 26 = .ok (.iinc 3 1, 3) := by decide +kernel
theorem dX0_copyTo_29 : decode cX0_copyTo 29 = .ok (.goto (-27), 3) := by decide +kernel
theorem dX0_copyTo_32 : decode cX0_copyTo 32 = .ok (.return_, 1) := by decide +kernel
def fX0_copyTo_2 : Nat → Nat → Nat → Int32 → Int32 → eW → Option (eW)
  | 0, _, _, _, _, _ => none
  | n + 1, x0, x1, x2, x3, w => if (57 : Int32) ≤ x3 then (some w) else ((eGR w x0 0 1).bind fun v1 => eBind2 (fX7_get v1 x3 w) fun v3 w2 => (fX7_put x1 ((x2 * (57 : Int32)) + x3) v3 w2).bind fun w4 => fX0_copyTo_2 n x0 x1 x2 (x3 + (1 : Int32)) w4)
set_option maxRecDepth 20000 in
theorem sX0_copyTo_2  : ∀ (n : Nat) (x0 : Nat) (x1 : Nat) (x2 : Int32) (x3 : Int32) (w : eW) (r : eW), fX0_copyTo_2 n x0 x1 x2 x3 w = some r → eBN l D cI cZ 1 yX0_copyTo cX0_copyTo 4 none 2 [(0, .ref x0), (1, .ref x1), (2, .int x2), (3, .int x3)] [] w none r := by
  intro n
  induction n with
  | zero => intro x0 x1 x2 x3 w r h; exact absurd (show (none : Option (eW)) = some r from h) (by simp)
  | succ n ih =>
    intro x0 x1 x2 x3 w r h
    rw [fX0_copyTo_2] at h
    intro p e s m args below meth c r0 A X
    refine ev_iload_n (pc := 2) X 3 dX0_copyTo_2 rfl rfl ?_
    refine ev_bipush (pc := 3) (v := (57 : Int32)) X dX0_copyTo_3 rfl ?_
    refine ev_icmp_ge (pc := 5) X 32 dX0_copyTo_5 rfl (fun hc => ?_) (fun hc => ?_)
    · rw [if_pos hc] at h
      obtain rfl := Option.some.inj h
      exact ev_vret (pc := 32) X dX0_copyTo_32
    · rw [if_neg hc] at h
      refine ev_aload_n (pc := 8) X 1 dX0_copyTo_8 rfl rfl ?_
      refine ev_iload_n (pc := 9) X 2 dX0_copyTo_9 rfl rfl ?_
      refine ev_bipush (pc := 10) (v := (57 : Int32)) X dX0_copyTo_10 rfl ?_
      refine ev_imul (pc := 12) X dX0_copyTo_12 ?_
      refine ev_iload_n (pc := 13) X 3 dX0_copyTo_13 rfl rfl ?_
      refine ev_iadd (pc := 14) X dX0_copyTo_14 ?_
      refine ev_aload_n (pc := 15) X 0 dX0_copyTo_15 rfl rfl ?_
      obtain ⟨v1, hv1, h⟩ := eBi h
      refine ev_getR (pc := 16) X hcX0 (k := 1) (by decide) kfX0_16 dX0_copyTo_16 hv1 ?_
      refine ev_iload_n (pc := 19) X 3 dX0_copyTo_19 rfl rfl ?_
      obtain ⟨v3, w2, hc, h⟩ := eB2 h
      refine ev_callV_i (pc := 20) (As := [.int x3]) (S := [.int ((x2 * (57 : Int32)) + x3), .ref x1]) X hwX7_get klX0_32 hiX7_get hsX7_get (ci := 7) ⟨rfl, rfl⟩ ⟨Nat.le_of_ble_eq_true rfl, Nat.le_of_ble_eq_true rfl⟩ ⟨Nat.le_refl _, Nat.le_refl _⟩ rfl (Nat.le_of_ble_eq_true rfl) dX0_copyTo_20 rfl (mX7_get (l := l) (D := D) (cI := cI) (cZ := cZ) hc).1 (mX7_get hc).2 ?_
      obtain ⟨w4, hc, h⟩ := eBi h
      refine ev_callV_v (pc := 23) (As := [.int ((x2 * (57 : Int32)) + x3), .int v3]) (S := []) X hwX7_put klX0_24 hiX7_put hsX7_put (ci := 7) ⟨rfl, rfl⟩ ⟨Nat.le_of_ble_eq_true rfl, Nat.le_of_ble_eq_true rfl⟩ ⟨Nat.le_refl _, Nat.le_refl _⟩ rfl (Nat.le_of_ble_eq_true rfl) dX0_copyTo_23 rfl (mX7_put (l := l) (D := D) (cI := cI) (cZ := cZ) hc).1 (mX7_put hc).2 ?_
      refine ev_iinc (pc := 26) (v := x3 + (1 : Int32)) (L' := [(3, .int (x3 + (1 : Int32))), (0, .ref x0), (1, .ref x1), (2, .int x2)]) X 3 dX0_copyTo_26 rfl rfl (by decide) rfl ?_
      refine ev_goto (pc := 29) X 2 dX0_copyTo_29 rfl ?_
      exact ev_weak (pc := 2) [1, 2, 3, 0] rfl (ih _ _ _ _ _ _ h p e s m args below meth c r0 A X)
def fX0_copyTo_0 (x0 : Nat) (x1 : Nat) (x2 : Int32) (w : eW) : Option (eW) := fX0_copyTo_2 eN x0 x1 x2 (0 : Int32) w
set_option maxRecDepth 20000 in
theorem sX0_copyTo_0  (x0 : Nat) (x1 : Nat) (x2 : Int32) (w : eW) (r : eW) (h : fX0_copyTo_0 x0 x1 x2 w = some r) : eBN l D cI cZ 1 yX0_copyTo cX0_copyTo 4 none 0 [(0, .ref x0), (1, .ref x1), (2, .int x2)] [] w none r := by
  rw [fX0_copyTo_0] at h
  intro p e s m args below meth c r0 A X
  refine ev_iconst (pc := 0) (v := (0 : Int32)) X dX0_copyTo_0 rfl ?_
  refine ev_istore_n (pc := 1) (L' := [(3, .int (0 : Int32)), (0, .ref x0), (1, .ref x1), (2, .int x2)]) X dX0_copyTo_1 rfl (by decide) rfl ?_
  exact ev_weak (pc := 2) [1, 2, 3, 0] rfl (sX0_copyTo_2 eN _ _ _ _ _ _ h p e s m args below meth c r0 A X)
def fX0_copyTo (a0 : Nat) (a1 : Nat) (a2 : Int32) (w : eW) : Option (eW) := bif eO w a0 0 then fX0_copyTo_0 a0 a1 a2 w else none
theorem mX0_copyTo {a0 : Nat} {a1 : Nat} {a2 : Int32} {w : eW} {w' : eW} (h : fX0_copyTo a0 a1 a2 w = some w') : eO w a0 0 = true ∧ eMN l D cI cZ 1 yX0_copyTo cX0_copyTo 4 none [.ref a0, .ref a1, .int a2] w none w' := by
  obtain ⟨h0, h⟩ := eBif h
  exact ⟨h0, eMN_of [(0, .ref a0), (1, .ref a1), (2, .int a2)] (plainFor_of_name (by decide)) (fun _ => rfl) (fun _ => Nat.le_of_ble_eq_true rfl) (fun p e s m args below meth c r0 A X => ev_weak (pc := 0) [0, 1, 2] rfl (sX0_copyTo_0 _ _ _ _ _ h p e s m args below meth c r0 A X))⟩
theorem dX0_become_0 : decode cX0_become 0 = .ok (.aload_n 1, 1) := by decide +kernel
theorem dX0_become_1 : decode cX0_become 1 = .ok (.aload_n 0, 1) := by decide +kernel
theorem dX0_become_2 : decode cX0_become 2 = .ok (.getfield 16, 3) := by decide +kernel
theorem dX0_become_5 : decode cX0_become 5 = .ok (.iconst 0, 1) := by decide +kernel
theorem dX0_become_6 : decode cX0_become 6 = .ok (.invokevirtual 28, 3) := by decide +kernel
theorem dX0_become_9 : decode cX0_become 9 = .ok (.return_, 1) := by decide +kernel
def fX0_become_0 (x0 : Nat) (x1 : Nat) (w : eW) : Option (eW) := (eGR w x0 0 1).bind fun v1 => (fX0_copyTo x1 v1 (0 : Int32) w).bind fun w2 => some w2
set_option maxRecDepth 20000 in
theorem sX0_become_0  (x0 : Nat) (x1 : Nat) (w : eW) (r : eW) (h : fX0_become_0 x0 x1 w = some r) : eBN l D cI cZ 2 yX0_become cX0_become 2 none 0 [(0, .ref x0), (1, .ref x1)] [] w none r := by
  rw [fX0_become_0] at h
  intro p e s m args below meth c r0 A X
  refine ev_aload_n (pc := 0) X 1 dX0_become_0 rfl rfl ?_
  refine ev_aload_n (pc := 1) X 0 dX0_become_1 rfl rfl ?_
  obtain ⟨v1, hv1, h⟩ := eBi h
  refine ev_getR (pc := 2) X hcX0 (k := 1) (by decide) kfX0_16 dX0_become_2 hv1 ?_
  refine ev_iconst (pc := 5) (v := (0 : Int32)) X dX0_become_5 rfl ?_
  obtain ⟨w2, hc, h⟩ := eBi h
  refine ev_callV_v (pc := 6) (As := [.ref v1, .int (0 : Int32)]) (S := []) X hwX0_copyTo klX0_28 hiX0_copyTo hsX0_copyTo (ci := 0) ⟨rfl, rfl⟩ ⟨Nat.le_of_ble_eq_true rfl, Nat.le_of_ble_eq_true rfl⟩ ⟨Nat.le_refl _, Nat.le_refl _⟩ rfl (Nat.le_of_ble_eq_true rfl) dX0_become_6 rfl (mX0_copyTo (l := l) (D := D) (cI := cI) (cZ := cZ) hc).1 (mX0_copyTo hc).2 ?_
  obtain rfl := Option.some.inj h
  exact ev_vret (pc := 9) X dX0_become_9
def fX0_become (a0 : Nat) (a1 : Nat) (w : eW) : Option (eW) := bif eO w a0 0 then fX0_become_0 a0 a1 w else none
theorem mX0_become {a0 : Nat} {a1 : Nat} {w : eW} {w' : eW} (h : fX0_become a0 a1 w = some w') : eO w a0 0 = true ∧ eMN l D cI cZ 2 yX0_become cX0_become 2 none [.ref a0, .ref a1] w none w' := by
  obtain ⟨h0, h⟩ := eBif h
  exact ⟨h0, eMN_of [(0, .ref a0), (1, .ref a1)] (plainFor_of_name (by decide)) (fun _ => rfl) (fun _ => Nat.le_of_ble_eq_true rfl) (fun p e s m args below meth c r0 A X => ev_weak (pc := 0) [0, 1] rfl (sX0_become_0 _ _ _ _ h p e s m args below meth c r0 A X))⟩
theorem dX0_copyFrom_0 : decode cX0_copyFrom 0 = .ok (.iconst 0, 1) := by decide +kernel
theorem dX0_copyFrom_1 : decode cX0_copyFrom 1 = .ok (.istore_n 3, 1) := by decide +kernel
theorem dX0_copyFrom_2 : decode cX0_copyFrom 2 = .ok (.iload_n 3, 1) := by decide +kernel
theorem dX0_copyFrom_3 : decode cX0_copyFrom 3 = .ok (.bipush 57, 2) := by decide +kernel
theorem dX0_copyFrom_5 : decode cX0_copyFrom 5 = .ok (.if_icmp .ge 27, 3) := by decide +kernel
theorem dX0_copyFrom_8 : decode cX0_copyFrom 8 = .ok (.aload_n 0, 1) := by decide +kernel
theorem dX0_copyFrom_9 : decode cX0_copyFrom 9 = .ok (.getfield 16, 3) := by decide +kernel
theorem dX0_copyFrom_12 : decode cX0_copyFrom 12 = .ok (.iload_n 3, 1) := by decide +kernel
theorem dX0_copyFrom_13 : decode cX0_copyFrom 13 = .ok (.aload_n 1, 1) := by decide +kernel
theorem dX0_copyFrom_14 : decode cX0_copyFrom 14 = .ok (.iload_n 2, 1) := by decide +kernel
theorem dX0_copyFrom_15 : decode cX0_copyFrom 15 = .ok (.bipush 57, 2) := by decide +kernel
theorem dX0_copyFrom_17 : decode cX0_copyFrom 17 = .ok (.imul, 1) := by decide +kernel
theorem dX0_copyFrom_18 : decode cX0_copyFrom 18 = .ok (.iload_n 3, 1) := by decide +kernel
theorem dX0_copyFrom_19 : decode cX0_copyFrom 19 = .ok (.iadd, 1) := by decide +kernel
theorem dX0_copyFrom_20 : decode cX0_copyFrom 20 = .ok (.invokevirtual 32, 3) := by decide +kernel
theorem dX0_copyFrom_23 : decode cX0_copyFrom 23 = .ok (.invokevirtual 24, 3) := by decide +kernel
theorem dX0_copyFrom_26 : decode cX0_copyFrom 26 = .ok (.iinc 3 1, 3) := by decide +kernel
theorem dX0_copyFrom_29 : decode cX0_copyFrom 29 = .ok (.goto (-27), 3) := by decide +kernel
theorem dX0_copyFrom_32 : decode cX0_copyFrom 32 = .ok (.return_, 1) := by decide +kernel
def fX0_copyFrom_2 : Nat → Nat → Nat → Int32 → Int32 → eW → Option (eW)
  | 0, _, _, _, _, _ => none
  | n + 1, x0, x1, x2, x3, w => if (57 : Int32) ≤ x3 then (some w) else ((eGR w x0 0 1).bind fun v1 => eBind2 (fX7_get x1 ((x2 * (57 : Int32)) + x3) w) fun v3 w2 => (fX7_put v1 x3 v3 w2).bind fun w4 => fX0_copyFrom_2 n x0 x1 x2 (x3 + (1 : Int32)) w4)
set_option maxRecDepth 20000 in
theorem sX0_copyFrom_2  : ∀ (n : Nat) (x0 : Nat) (x1 : Nat) (x2 : Int32) (x3 : Int32) (w : eW) (r : eW), fX0_copyFrom_2 n x0 x1 x2 x3 w = some r → eBN l D cI cZ 1 yX0_copyFrom cX0_copyFrom 4 none 2 [(0, .ref x0), (1, .ref x1), (2, .int x2), (3, .int x3)] [] w none r := by
  intro n
  induction n with
  | zero => intro x0 x1 x2 x3 w r h; exact absurd (show (none : Option (eW)) = some r from h) (by simp)
  | succ n ih =>
    intro x0 x1 x2 x3 w r h
    rw [fX0_copyFrom_2] at h
    intro p e s m args below meth c r0 A X
    refine ev_iload_n (pc := 2) X 3 dX0_copyFrom_2 rfl rfl ?_
    refine ev_bipush (pc := 3) (v := (57 : Int32)) X dX0_copyFrom_3 rfl ?_
    refine ev_icmp_ge (pc := 5) X 32 dX0_copyFrom_5 rfl (fun hc => ?_) (fun hc => ?_)
    · rw [if_pos hc] at h
      obtain rfl := Option.some.inj h
      exact ev_vret (pc := 32) X dX0_copyFrom_32
    · rw [if_neg hc] at h
      refine ev_aload_n (pc := 8) X 0 dX0_copyFrom_8 rfl rfl ?_
      obtain ⟨v1, hv1, h⟩ := eBi h
      refine ev_getR (pc := 9) X hcX0 (k := 1) (by decide) kfX0_16 dX0_copyFrom_9 hv1 ?_
      refine ev_iload_n (pc := 12) X 3 dX0_copyFrom_12 rfl rfl ?_
      refine ev_aload_n (pc := 13) X 1 dX0_copyFrom_13 rfl rfl ?_
      refine ev_iload_n (pc := 14) X 2 dX0_copyFrom_14 rfl rfl ?_
      refine ev_bipush (pc := 15) (v := (57 : Int32)) X dX0_copyFrom_15 rfl ?_
      refine ev_imul (pc := 17) X dX0_copyFrom_17 ?_
      refine ev_iload_n (pc := 18) X 3 dX0_copyFrom_18 rfl rfl ?_
      refine ev_iadd (pc := 19) X dX0_copyFrom_19 ?_
      obtain ⟨v3, w2, hc, h⟩ := eB2 h
      refine ev_callV_i (pc := 20) (As := [.int ((x2 * (57 : Int32)) + x3)]) (S := [.int x3, .ref v1]) X hwX7_get klX0_32 hiX7_get hsX7_get (ci := 7) ⟨rfl, rfl⟩ ⟨Nat.le_of_ble_eq_true rfl, Nat.le_of_ble_eq_true rfl⟩ ⟨Nat.le_refl _, Nat.le_refl _⟩ rfl (Nat.le_of_ble_eq_true rfl) dX0_copyFrom_20 rfl (mX7_get (l := l) (D := D) (cI := cI) (cZ := cZ) hc).1 (mX7_get hc).2 ?_
      obtain ⟨w4, hc, h⟩ := eBi h
      refine ev_callV_v (pc := 23) (As := [.int x3, .int v3]) (S := []) X hwX7_put klX0_24 hiX7_put hsX7_put (ci := 7) ⟨rfl, rfl⟩ ⟨Nat.le_of_ble_eq_true rfl, Nat.le_of_ble_eq_true rfl⟩ ⟨Nat.le_refl _, Nat.le_refl _⟩ rfl (Nat.le_of_ble_eq_true rfl) dX0_copyFrom_23 rfl (mX7_put (l := l) (D := D) (cI := cI) (cZ := cZ) hc).1 (mX7_put hc).2 ?_
      refine ev_iinc (pc := 26) (v := x3 + (1 : Int32)) (L' := [(3, .int (x3 + (1 : Int32))), (0, .ref x0), (1, .ref x1), (2, .int x2)]) X 3 dX0_copyFrom_26 rfl rfl (by decide) rfl ?_
      refine ev_goto (pc := 29) X 2 dX0_copyFrom_29 rfl ?_
      exact ev_weak (pc := 2) [1, 2, 3, 0] rfl (ih _ _ _ _ _ _ h p e s m args below meth c r0 A X)
def fX0_copyFrom_0 (x0 : Nat) (x1 : Nat) (x2 : Int32) (w : eW) : Option (eW) := fX0_copyFrom_2 eN x0 x1 x2 (0 : Int32) w
set_option maxRecDepth 20000 in
theorem sX0_copyFrom_0  (x0 : Nat) (x1 : Nat) (x2 : Int32) (w : eW) (r : eW) (h : fX0_copyFrom_0 x0 x1 x2 w = some r) : eBN l D cI cZ 1 yX0_copyFrom cX0_copyFrom 4 none 0 [(0, .ref x0), (1, .ref x1), (2, .int x2)] [] w none r := by
  rw [fX0_copyFrom_0] at h
  intro p e s m args below meth c r0 A X
  refine ev_iconst (pc := 0) (v := (0 : Int32)) X dX0_copyFrom_0 rfl ?_
  refine ev_istore_n (pc := 1) (L' := [(3, .int (0 : Int32)), (0, .ref x0), (1, .ref x1), (2, .int x2)]) X dX0_copyFrom_1 rfl (by decide) rfl ?_
  exact ev_weak (pc := 2) [1, 2, 3, 0] rfl (sX0_copyFrom_2 eN _ _ _ _ _ _ h p e s m args below meth c r0 A X)
def fX0_copyFrom (a0 : Nat) (a1 : Nat) (a2 : Int32) (w : eW) : Option (eW) := bif eO w a0 0 then fX0_copyFrom_0 a0 a1 a2 w else none
theorem mX0_copyFrom {a0 : Nat} {a1 : Nat} {a2 : Int32} {w : eW} {w' : eW} (h : fX0_copyFrom a0 a1 a2 w = some w') : eO w a0 0 = true ∧ eMN l D cI cZ 1 yX0_copyFrom cX0_copyFrom 4 none [.ref a0, .ref a1, .int a2] w none w' := by
  obtain ⟨h0, h⟩ := eBif h
  exact ⟨h0, eMN_of [(0, .ref a0), (1, .ref a1), (2, .int a2)] (plainFor_of_name (by decide)) (fun _ => rfl) (fun _ => Nat.le_of_ble_eq_true rfl) (fun p e s m args below meth c r0 A X => ev_weak (pc := 0) [0, 1, 2] rfl (sX0_copyFrom_0 _ _ _ _ _ h p e s m args below meth c r0 A X))⟩
theorem dX0_size_0 : decode cX0_size 0 = .ok (.aload_n 0, 1) := by decide +kernel
theorem dX0_size_1 : decode cX0_size 1 = .ok (.getfield 16, 3) := by decide +kernel
theorem dX0_size_4 : decode cX0_size 4 = .ok (.iconst 0, 1) := by decide +kernel
theorem dX0_size_5 : decode cX0_size 5 = .ok (.invokevirtual 32, 3) := by decide +kernel
theorem dX0_size_8 : decode cX0_size 8 = .ok (.ireturn, 1) := by decide +kernel
def fX0_size_0 (x0 : Nat) (w : eW) : Option (Int32 × eW) := (eGR w x0 0 1).bind fun v1 => eBind2 (fX7_get v1 (0 : Int32) w) fun v3 w2 => some (v3, w2)
set_option maxRecDepth 20000 in
theorem sX0_size_0  (x0 : Nat) (w : eW) (r : Int32 × eW) (h : fX0_size_0 x0 w = some r) : eBN l D cI cZ 1 yX0_size cX0_size 1 (some .int) 0 [(0, .ref x0)] [] w (some (.int r.1)) r.2 := by
  rw [fX0_size_0] at h
  intro p e s m args below meth c r0 A X
  refine ev_aload_n (pc := 0) X 0 dX0_size_0 rfl rfl ?_
  obtain ⟨v1, hv1, h⟩ := eBi h
  refine ev_getR (pc := 1) X hcX0 (k := 1) (by decide) kfX0_16 dX0_size_1 hv1 ?_
  refine ev_iconst (pc := 4) (v := (0 : Int32)) X dX0_size_4 rfl ?_
  obtain ⟨v3, w2, hc, h⟩ := eB2 h
  refine ev_callV_i (pc := 5) (As := [.int (0 : Int32)]) (S := []) X hwX7_get klX0_32 hiX7_get hsX7_get (ci := 7) ⟨rfl, rfl⟩ ⟨Nat.le_of_ble_eq_true rfl, Nat.le_of_ble_eq_true rfl⟩ ⟨Nat.le_refl _, Nat.le_refl _⟩ rfl (Nat.le_of_ble_eq_true rfl) dX0_size_5 rfl (mX7_get (l := l) (D := D) (cI := cI) (cZ := cZ) hc).1 (mX7_get hc).2 ?_
  obtain rfl := Option.some.inj h
  exact ev_iret (pc := 8) X dX0_size_8
def fX0_size (a0 : Nat) (w : eW) : Option (Int32 × eW) := bif eO w a0 0 then fX0_size_0 a0 w else none
theorem mX0_size {a0 : Nat} {w : eW} {v : Int32} {w' : eW} (h : fX0_size a0 w = some (v, w')) : eO w a0 0 = true ∧ eMN l D cI cZ 1 yX0_size cX0_size 1 (some .int) [.ref a0] w (some (.int v)) w' := by
  obtain ⟨h0, h⟩ := eBif h
  exact ⟨h0, eMN_of [(0, .ref a0)] (plainFor_of_name (by decide)) (fun _ => rfl) (fun _ => Nat.le_of_ble_eq_true rfl) (fun p e s m args below meth c r0 A X => ev_weak (pc := 0) [0] rfl (sX0_size_0 _ _ _ h p e s m args below meth c r0 A X))⟩
theorem dX0_has_0 : decode cX0_has 0 = .ok (.iload_n 1, 1) := by decide +kernel
theorem dX0_has_1 : decode cX0_has 1 = .ok (.ifCond .lt 15, 3) := by decide +kernel
theorem dX0_has_4 : decode cX0_has 4 = .ok (.iload_n 1, 1) := by decide +kernel
theorem dX0_has_5 : decode cX0_has 5 = .ok (.aload_n 0, 1) := by decide +kernel
theorem dX0_has_6 : decode cX0_has 6 = .ok (.invokevirtual 36, 3) := by decide +kernel
theorem dX0_has_9 : decode cX0_has 9 = .ok (.if_icmp .ge 7, 3) := by decide +kernel
theorem dX0_has_12 : decode cX0_has 12 = .ok (.iconst 1, 1) := by decide +kernel
theorem dX0_has_13 : decode cX0_has 13 = .ok (.goto 4, 3) := by decide +kernel
theorem dX0_has_16 : decode cX0_has 16 = .ok (.iconst 0, 1) := by decide +kernel
theorem dX0_has_17 : decode cX0_has 17 = .ok (.ireturn, 1) := by decide +kernel
def fX0_has_16  (w : eW) : Option (Int32 × eW) := (eZ (0 : Int32)).bind fun v1 => some (v1, w)
set_option maxRecDepth 20000 in
theorem sX0_has_16   (w : eW) (r : Int32 × eW) (h : fX0_has_16  w = some r) : eBN l D cI cZ 2 yX0_has cX0_has 2 (some .boolean) 16 [] [] w (some (.int r.1)) r.2 := by
  rw [fX0_has_16] at h
  intro p e s m args below meth c r0 A X
  refine ev_iconst (pc := 16) (v := (0 : Int32)) X dX0_has_16 rfl ?_
  obtain ⟨v1, hv1, h⟩ := eBi h
  obtain rfl := Option.some.inj h
  exact ev_zret (pc := 17) X dX0_has_17 hv1
def fX0_has_0 (x0 : Nat) (x1 : Int32) (w : eW) : Option (Int32 × eW) := if x1 < 0 then (fX0_has_16 w) else (eBind2 (fX0_size x0 w) fun v2 w1 => if v2 ≤ x1 then (fX0_has_16 w1) else ((eZ (1 : Int32)).bind fun v3 => some (v3, w1)))
set_option maxRecDepth 20000 in
theorem sX0_has_0  (x0 : Nat) (x1 : Int32) (w : eW) (r : Int32 × eW) (h : fX0_has_0 x0 x1 w = some r) : eBN l D cI cZ 2 yX0_has cX0_has 2 (some .boolean) 0 [(0, .ref x0), (1, .int x1)] [] w (some (.int r.1)) r.2 := by
  rw [fX0_has_0] at h
  intro p e s m args below meth c r0 A X
  refine ev_iload_n (pc := 0) X 1 dX0_has_0 rfl rfl ?_
  refine ev_if_lt (pc := 1) X 16 dX0_has_1 rfl (fun hc => ?_) (fun hc => ?_)
  · rw [if_pos hc] at h
    exact ev_weak (pc := 16) [] rfl (sX0_has_16  _ _ h p e s m args below meth c r0 A X)
  · rw [if_neg hc] at h
    refine ev_iload_n (pc := 4) X 1 dX0_has_4 rfl rfl ?_
    refine ev_aload_n (pc := 5) X 0 dX0_has_5 rfl rfl ?_
    obtain ⟨v2, w1, hc, h⟩ := eB2 h
    refine ev_callV_i (pc := 6) (As := []) (S := [.int x1]) X hwX0_size klX0_36 hiX0_size hsX0_size (ci := 0) ⟨rfl, rfl⟩ ⟨Nat.le_of_ble_eq_true rfl, Nat.le_of_ble_eq_true rfl⟩ ⟨Nat.le_refl _, Nat.le_refl _⟩ rfl (Nat.le_of_ble_eq_true rfl) dX0_has_6 rfl (mX0_size (l := l) (D := D) (cI := cI) (cZ := cZ) hc).1 (mX0_size hc).2 ?_
    refine ev_icmp_ge (pc := 9) X 16 dX0_has_9 rfl (fun hc => ?_) (fun hc => ?_)
    · rw [if_pos hc] at h
      exact ev_weak (pc := 16) [] rfl (sX0_has_16  _ _ h p e s m args below meth c r0 A X)
    · rw [if_neg hc] at h
      refine ev_iconst (pc := 12) (v := (1 : Int32)) X dX0_has_12 rfl ?_
      refine ev_goto (pc := 13) X 17 dX0_has_13 rfl ?_
      obtain ⟨v3, hv3, h⟩ := eBi h
      obtain rfl := Option.some.inj h
      exact ev_zret (pc := 17) X dX0_has_17 hv3
def fX0_has (a0 : Nat) (a1 : Int32) (w : eW) : Option (Int32 × eW) := bif eO w a0 0 then fX0_has_0 a0 a1 w else none
theorem mX0_has {a0 : Nat} {a1 : Int32} {w : eW} {v : Int32} {w' : eW} (h : fX0_has a0 a1 w = some (v, w')) : eO w a0 0 = true ∧ eMN l D cI cZ 2 yX0_has cX0_has 2 (some .boolean) [.ref a0, .int a1] w (some (.int v)) w' := by
  obtain ⟨h0, h⟩ := eBif h
  exact ⟨h0, eMN_of [(0, .ref a0), (1, .int a1)] (plainFor_of_name (by decide)) (fun _ => rfl) (fun _ => Nat.le_of_ble_eq_true rfl) (fun p e s m args below meth c r0 A X => ev_weak (pc := 0) [0, 1] rfl (sX0_has_0 _ _ _ _ h p e s m args below meth c r0 A X))⟩
theorem dX0_placeOf_0 : decode cX0_placeOf 0 = .ok (.iconst 1, 1) := by decide +kernel
theorem dX0_placeOf_1 : decode cX0_placeOf 1 = .ok (.iload_n 0, 1) := by decide +kernel
theorem dX0_placeOf_2 : decode cX0_placeOf 2 = .ok (.bipush 14, 2) := by decide +kernel
theorem dX0_placeOf_4 : decode cX0_placeOf 4 = .ok (.imul, 1) := by decide +kernel
theorem dX0_placeOf_5 : decode cX0_placeOf 5 = .ok (.iadd, 1) := by decide +kernel
theorem dX0_placeOf_6 : decode cX0_placeOf 6 = .ok (.ireturn, 1) := by decide +kernel
def fX0_placeOf_0 (x0 : Int32) (w : eW) : Option (Int32 × eW) := some ((1 : Int32) + (x0 * (14 : Int32)), w)
set_option maxRecDepth 20000 in
theorem sX0_placeOf_0  (x0 : Int32) (w : eW) (r : Int32 × eW) (h : fX0_placeOf_0 x0 w = some r) : eBN l D cI cZ 0 yX0_placeOf cX0_placeOf 1 (some .int) 0 [(0, .int x0)] [] w (some (.int r.1)) r.2 := by
  rw [fX0_placeOf_0] at h
  intro p e s m args below meth c r0 A X
  refine ev_iconst (pc := 0) (v := (1 : Int32)) X dX0_placeOf_0 rfl ?_
  refine ev_iload_n (pc := 1) X 0 dX0_placeOf_1 rfl rfl ?_
  refine ev_bipush (pc := 2) (v := (14 : Int32)) X dX0_placeOf_2 rfl ?_
  refine ev_imul (pc := 4) X dX0_placeOf_4 ?_
  refine ev_iadd (pc := 5) X dX0_placeOf_5 ?_
  obtain rfl := Option.some.inj h
  exact ev_iret (pc := 6) X dX0_placeOf_6
def fX0_placeOf (a0 : Int32) (w : eW) : Option (Int32 × eW) := fX0_placeOf_0 a0 w
theorem mX0_placeOf {a0 : Int32} {w : eW} {v : Int32} {w' : eW} (h : fX0_placeOf a0 w = some (v, w')) : eMN l D cI cZ 0 yX0_placeOf cX0_placeOf 1 (some .int) [.int a0] w (some (.int v)) w' :=
  eMN_of [(0, .int a0)] (plainFor_of_name (by decide)) (fun _ => rfl) (fun _ => Nat.le_of_ble_eq_true rfl) (fun p e s m args below meth c r0 A X => ev_weak (pc := 0) [0] rfl (sX0_placeOf_0 _ _ _ h p e s m args below meth c r0 A X))
theorem dX0_firstCell_0 : decode cX0_firstCell 0 = .ok (.aload_n 0, 1) := by decide +kernel
theorem dX0_firstCell_1 : decode cX0_firstCell 1 = .ok (.getfield 16, 3) := by decide +kernel
theorem dX0_firstCell_4 : decode cX0_firstCell 4 = .ok (.iload_n 1, 1) := by decide +kernel
theorem dX0_firstCell_5 : decode cX0_firstCell 5 = .ok (.invokestatic 40, 3) := by decide +kernel
theorem dX0_firstCell_8 : decode cX0_firstCell 8 = .ok (.iconst 0, 1) := by decide +kernel
theorem dX0_firstCell_9 : decode cX0_firstCell 9 = .ok (.iadd, 1) := by decide +kernel
theorem dX0_firstCell_10 : decode cX0_firstCell 10 = .ok (.invokevirtual 32, 3) := by decide +kernel
theorem dX0_firstCell_13 : decode cX0_firstCell 13 = .ok (.ireturn, 1) := by decide +kernel
def fX0_firstCell_0 (x0 : Nat) (x1 : Int32) (w : eW) : Option (Int32 × eW) := (eGR w x0 0 1).bind fun v1 => eBind2 (fX0_placeOf x1 w) fun v3 w2 => eBind2 (fX7_get v1 (v3 + (0 : Int32)) w2) fun v5 w4 => some (v5, w4)
set_option maxRecDepth 20000 in
theorem sX0_firstCell_0  (x0 : Nat) (x1 : Int32) (w : eW) (r : Int32 × eW) (h : fX0_firstCell_0 x0 x1 w = some r) : eBN l D cI cZ 1 yX0_firstCell cX0_firstCell 2 (some .int) 0 [(0, .ref x0), (1, .int x1)] [] w (some (.int r.1)) r.2 := by
  rw [fX0_firstCell_0] at h
  intro p e s m args below meth c r0 A X
  refine ev_aload_n (pc := 0) X 0 dX0_firstCell_0 rfl rfl ?_
  obtain ⟨v1, hv1, h⟩ := eBi h
  refine ev_getR (pc := 1) X hcX0 (k := 1) (by decide) kfX0_16 dX0_firstCell_1 hv1 ?_
  refine ev_iload_n (pc := 4) X 1 dX0_firstCell_4 rfl rfl ?_
  obtain ⟨v3, w2, hc, h⟩ := eB2 h
  refine ev_callS_i (pc := 5) (As := [.int x1]) (S := [.ref v1]) X hwX0_placeOf klX0_40 htX0_placeOf ⟨Nat.le_of_ble_eq_true rfl, Nat.le_of_ble_eq_true rfl⟩ ⟨Nat.le_refl _, Nat.le_refl _⟩ rfl (Nat.le_of_ble_eq_true rfl) dX0_firstCell_5 rfl (mX0_placeOf hc) ?_
  refine ev_iconst (pc := 8) (v := (0 : Int32)) X dX0_firstCell_8 rfl ?_
  refine ev_iadd (pc := 9) X dX0_firstCell_9 ?_
  obtain ⟨v5, w4, hc, h⟩ := eB2 h
  refine ev_callV_i (pc := 10) (As := [.int (v3 + (0 : Int32))]) (S := []) X hwX7_get klX0_32 hiX7_get hsX7_get (ci := 7) ⟨rfl, rfl⟩ ⟨Nat.le_of_ble_eq_true rfl, Nat.le_of_ble_eq_true rfl⟩ ⟨Nat.le_refl _, Nat.le_refl _⟩ rfl (Nat.le_of_ble_eq_true rfl) dX0_firstCell_10 rfl (mX7_get (l := l) (D := D) (cI := cI) (cZ := cZ) hc).1 (mX7_get hc).2 ?_
  obtain rfl := Option.some.inj h
  exact ev_iret (pc := 13) X dX0_firstCell_13
def fX0_firstCell (a0 : Nat) (a1 : Int32) (w : eW) : Option (Int32 × eW) := bif eO w a0 0 then fX0_firstCell_0 a0 a1 w else none
theorem mX0_firstCell {a0 : Nat} {a1 : Int32} {w : eW} {v : Int32} {w' : eW} (h : fX0_firstCell a0 a1 w = some (v, w')) : eO w a0 0 = true ∧ eMN l D cI cZ 1 yX0_firstCell cX0_firstCell 2 (some .int) [.ref a0, .int a1] w (some (.int v)) w' := by
  obtain ⟨h0, h⟩ := eBif h
  exact ⟨h0, eMN_of [(0, .ref a0), (1, .int a1)] (plainFor_of_name (by decide)) (fun _ => rfl) (fun _ => Nat.le_of_ble_eq_true rfl) (fun p e s m args below meth c r0 A X => ev_weak (pc := 0) [0, 1] rfl (sX0_firstCell_0 _ _ _ _ h p e s m args below meth c r0 A X))⟩
theorem dX0_length_0 : decode cX0_length 0 = .ok (.aload_n 0, 1) := by decide +kernel
theorem dX0_length_1 : decode cX0_length 1 = .ok (.getfield 16, 3) := by decide +kernel
theorem dX0_length_4 : decode cX0_length 4 = .ok (.iload_n 1, 1) := by decide +kernel
theorem dX0_length_5 : decode cX0_length 5 = .ok (.invokestatic 40, 3) := by decide +kernel
theorem dX0_length_8 : decode cX0_length 8 = .ok (.iconst 1, 1) := by decide +kernel
theorem dX0_length_9 : decode cX0_length 9 = .ok (.iadd, 1) := by decide +kernel
theorem dX0_length_10 : decode cX0_length 10 = .ok (.invokevirtual 32, 3) := by decide +kernel
theorem dX0_length_13 : decode cX0_length 13 = .ok (.ireturn, 1) := by decide +kernel
def fX0_length_0 (x0 : Nat) (x1 : Int32) (w : eW) : Option (Int32 × eW) := (eGR w x0 0 1).bind fun v1 => eBind2 (fX0_placeOf x1 w) fun v3 w2 => eBind2 (fX7_get v1 (v3 + (1 : Int32)) w2) fun v5 w4 => some (v5, w4)
set_option maxRecDepth 20000 in
theorem sX0_length_0  (x0 : Nat) (x1 : Int32) (w : eW) (r : Int32 × eW) (h : fX0_length_0 x0 x1 w = some r) : eBN l D cI cZ 1 yX0_length cX0_length 2 (some .int) 0 [(0, .ref x0), (1, .int x1)] [] w (some (.int r.1)) r.2 := by
  rw [fX0_length_0] at h
  intro p e s m args below meth c r0 A X
  refine ev_aload_n (pc := 0) X 0 dX0_length_0 rfl rfl ?_
  obtain ⟨v1, hv1, h⟩ := eBi h
  refine ev_getR (pc := 1) X hcX0 (k := 1) (by decide) kfX0_16 dX0_length_1 hv1 ?_
  refine ev_iload_n (pc := 4) X 1 dX0_length_4 rfl rfl ?_
  obtain ⟨v3, w2, hc, h⟩ := eB2 h
  refine ev_callS_i (pc := 5) (As := [.int x1]) (S := [.ref v1]) X hwX0_placeOf klX0_40 htX0_placeOf ⟨Nat.le_of_ble_eq_true rfl, Nat.le_of_ble_eq_true rfl⟩ ⟨Nat.le_refl _, Nat.le_refl _⟩ rfl (Nat.le_of_ble_eq_true rfl) dX0_length_5 rfl (mX0_placeOf hc) ?_
  refine ev_iconst (pc := 8) (v := (1 : Int32)) X dX0_length_8 rfl ?_
  refine ev_iadd (pc := 9) X dX0_length_9 ?_
  obtain ⟨v5, w4, hc, h⟩ := eB2 h
  refine ev_callV_i (pc := 10) (As := [.int (v3 + (1 : Int32))]) (S := []) X hwX7_get klX0_32 hiX7_get hsX7_get (ci := 7) ⟨rfl, rfl⟩ ⟨Nat.le_of_ble_eq_true rfl, Nat.le_of_ble_eq_true rfl⟩ ⟨Nat.le_refl _, Nat.le_refl _⟩ rfl (Nat.le_of_ble_eq_true rfl) dX0_length_10 rfl (mX7_get (l := l) (D := D) (cI := cI) (cZ := cZ) hc).1 (mX7_get hc).2 ?_
  obtain rfl := Option.some.inj h
  exact ev_iret (pc := 13) X dX0_length_13
def fX0_length (a0 : Nat) (a1 : Int32) (w : eW) : Option (Int32 × eW) := bif eO w a0 0 then fX0_length_0 a0 a1 w else none
theorem mX0_length {a0 : Nat} {a1 : Int32} {w : eW} {v : Int32} {w' : eW} (h : fX0_length a0 a1 w = some (v, w')) : eO w a0 0 = true ∧ eMN l D cI cZ 1 yX0_length cX0_length 2 (some .int) [.ref a0, .int a1] w (some (.int v)) w' := by
  obtain ⟨h0, h⟩ := eBif h
  exact ⟨h0, eMN_of [(0, .ref a0), (1, .int a1)] (plainFor_of_name (by decide)) (fun _ => rfl) (fun _ => Nat.le_of_ble_eq_true rfl) (fun p e s m args below meth c r0 A X => ev_weak (pc := 0) [0, 1] rfl (sX0_length_0 _ _ _ _ h p e s m args below meth c r0 A X))⟩
theorem dX0_cardAt_0 : decode cX0_cardAt 0 = .ok (.aload_n 0, 1) := by decide +kernel
theorem dX0_cardAt_1 : decode cX0_cardAt 1 = .ok (.getfield 16, 3) := by decide +kernel
theorem dX0_cardAt_4 : decode cX0_cardAt 4 = .ok (.iload_n 1, 1) := by decide +kernel
theorem dX0_cardAt_5 : decode cX0_cardAt 5 = .ok (.invokestatic 40, 3) := by decide +kernel
theorem dX0_cardAt_8 : decode cX0_cardAt 8 = .ok (.iconst 2, 1) := by decide +kernel
theorem dX0_cardAt_9 : decode cX0_cardAt 9 = .ok (.iadd, 1) := by decide +kernel
theorem dX0_cardAt_10 : decode cX0_cardAt 10 = .ok (.iload_n 2, 1) := by decide +kernel
theorem dX0_cardAt_11 : decode cX0_cardAt 11 = .ok (.iadd, 1) := by decide +kernel
theorem dX0_cardAt_12 : decode cX0_cardAt 12 = .ok (.invokevirtual 32, 3) := by decide +kernel
theorem dX0_cardAt_15 : decode cX0_cardAt 15 = .ok (.ireturn, 1) := by decide +kernel
def fX0_cardAt_0 (x0 : Nat) (x1 : Int32) (x2 : Int32) (w : eW) : Option (Int32 × eW) := (eGR w x0 0 1).bind fun v1 => eBind2 (fX0_placeOf x1 w) fun v3 w2 => eBind2 (fX7_get v1 ((v3 + (2 : Int32)) + x2) w2) fun v5 w4 => some (v5, w4)
set_option maxRecDepth 20000 in
theorem sX0_cardAt_0  (x0 : Nat) (x1 : Int32) (x2 : Int32) (w : eW) (r : Int32 × eW) (h : fX0_cardAt_0 x0 x1 x2 w = some r) : eBN l D cI cZ 1 yX0_cardAt cX0_cardAt 3 (some .int) 0 [(0, .ref x0), (1, .int x1), (2, .int x2)] [] w (some (.int r.1)) r.2 := by
  rw [fX0_cardAt_0] at h
  intro p e s m args below meth c r0 A X
  refine ev_aload_n (pc := 0) X 0 dX0_cardAt_0 rfl rfl ?_
  obtain ⟨v1, hv1, h⟩ := eBi h
  refine ev_getR (pc := 1) X hcX0 (k := 1) (by decide) kfX0_16 dX0_cardAt_1 hv1 ?_
  refine ev_iload_n (pc := 4) X 1 dX0_cardAt_4 rfl rfl ?_
  obtain ⟨v3, w2, hc, h⟩ := eB2 h
  refine ev_callS_i (pc := 5) (As := [.int x1]) (S := [.ref v1]) X hwX0_placeOf klX0_40 htX0_placeOf ⟨Nat.le_of_ble_eq_true rfl, Nat.le_of_ble_eq_true rfl⟩ ⟨Nat.le_refl _, Nat.le_refl _⟩ rfl (Nat.le_of_ble_eq_true rfl) dX0_cardAt_5 rfl (mX0_placeOf hc) ?_
  refine ev_iconst (pc := 8) (v := (2 : Int32)) X dX0_cardAt_8 rfl ?_
  refine ev_iadd (pc := 9) X dX0_cardAt_9 ?_
  refine ev_iload_n (pc := 10) X 2 dX0_cardAt_10 rfl rfl ?_
  refine ev_iadd (pc := 11) X dX0_cardAt_11 ?_
  obtain ⟨v5, w4, hc, h⟩ := eB2 h
  refine ev_callV_i (pc := 12) (As := [.int ((v3 + (2 : Int32)) + x2)]) (S := []) X hwX7_get klX0_32 hiX7_get hsX7_get (ci := 7) ⟨rfl, rfl⟩ ⟨Nat.le_of_ble_eq_true rfl, Nat.le_of_ble_eq_true rfl⟩ ⟨Nat.le_refl _, Nat.le_refl _⟩ rfl (Nat.le_of_ble_eq_true rfl) dX0_cardAt_12 rfl (mX7_get (l := l) (D := D) (cI := cI) (cZ := cZ) hc).1 (mX7_get hc).2 ?_
  obtain rfl := Option.some.inj h
  exact ev_iret (pc := 15) X dX0_cardAt_15
def fX0_cardAt (a0 : Nat) (a1 : Int32) (a2 : Int32) (w : eW) : Option (Int32 × eW) := bif eO w a0 0 then fX0_cardAt_0 a0 a1 a2 w else none
theorem mX0_cardAt {a0 : Nat} {a1 : Int32} {a2 : Int32} {w : eW} {v : Int32} {w' : eW} (h : fX0_cardAt a0 a1 a2 w = some (v, w')) : eO w a0 0 = true ∧ eMN l D cI cZ 1 yX0_cardAt cX0_cardAt 3 (some .int) [.ref a0, .int a1, .int a2] w (some (.int v)) w' := by
  obtain ⟨h0, h⟩ := eBif h
  exact ⟨h0, eMN_of [(0, .ref a0), (1, .int a1), (2, .int a2)] (plainFor_of_name (by decide)) (fun _ => rfl) (fun _ => Nat.le_of_ble_eq_true rfl) (fun p e s m args below meth c r0 A X => ev_weak (pc := 0) [0, 1, 2] rfl (sX0_cardAt_0 _ _ _ _ _ h p e s m args below meth c r0 A X))⟩
theorem dX0_cellBehind_0 : decode cX0_cellBehind 0 = .ok (.aload_n 0, 1) := by decide +kernel
theorem dX0_cellBehind_1 : decode cX0_cellBehind 1 = .ok (.iload_n 1, 1) := by decide +kernel
theorem dX0_cellBehind_2 : decode cX0_cellBehind 2 = .ok (.invokevirtual 50, 3) := by decide +kernel
theorem dX0_cellBehind_5 : decode cX0_cellBehind 5 = .ok (.istore_n 3, 1) := by decide +kernel
theorem dX0_cellBehind_6 : decode cX0_cellBehind 6 = .ok (.iconst 0, 1) := by decide +kernel
theorem dX0_cellBehind_7 : decode cX0_cellBehind 7 = .ok (.istore 4, 2) := by decide +kernel
theorem dX0_cellBehind_9 : decode cX0_cellBehind 9 = .ok (.iload 4, 2) := by decide +kernel
theorem dX0_cellBehind_11 : decode cX0_cellBehind 11 = .ok (.iload_n 2, 1) := by decide +kernel
theorem dX0_cellBehind_12 : decode cX0_cellBehind 12 = .ok (.if_icmp .ge 25, 3) := by decide +kernel
theorem dX0_cellBehind_15 : decode cX0_cellBehind 15 = .ok (.aload_n 0, 1) := by decide +kernel
theorem dX0_cellBehind_16 : decode cX0_cellBehind 16 = .ok (.getfield 20, 3) := by decide +kernel
theorem dX0_cellBehind_19 : decode cX0_cellBehind 19 = .ok (.iload_n 3, 1) := by decide +kernel
theorem dX0_cellBehind_20 : decode cX0_cellBehind 20 = .ok (.aload_n 0, 1) := by decide +kernel
theorem dX0_cellBehind_21 : decode cX0_cellBehind 21 = .ok (.iload_n 1, 1) := by decide +kernel
theorem dX0_cellBehind_22 : decode cX0_cellBehind 22 = .ok (.iload 4, 2) := by decide +kernel
theorem dX0_cellBehind_24 : decode cX0_cellBehind 24 = .ok (.invokevirtual 53, 3) := by decide +kernel
theorem dX0_cellBehind_27 : decode cX0_cellBehind 27 = .ok (.invokevirtual 56, 3) := by decide +kernel
theorem dX0_cellBehind_30 : decode cX0_cellBehind 30 = .ok (.istore_n 3, 1) := by decide +kernel
theorem dX0_cellBehind_31 : decode cX0_cellBehind 31 = .ok (.iinc 4 1, 3) := by decide +kernel
theorem dX0_cellBehind_34 : decode cX0_cellBehind 34 = .ok (.goto (-25), 3) := by decide +kernel
theorem dX0_cellBehind_37 : decode cX0_cellBehind 37 = .ok (.iload_n 3, 1) := by decide +kernel
theorem dX0_cellBehind_38 : decode cX0_cellBehind 38 = .ok (.ireturn, 1) := by decide +kernel
def fX0_cellBehind_9 : Nat → Nat → Int32 → Int32 → Int32 → Int32 → eW → Option (Int32 × eW)
  | 0, _, _, _, _, _, _ => none
  | n + 1, x0, x1, x2, x3, x4, w => if x2 ≤ x4 then (some (x3, w)) else ((eGR w x0 0 0).bind fun v1 => eBind2 (fX0_cardAt x0 x1 x4 w) fun v3 w2 => eBind2 (fX1_neighbour v1 x3 v3 w2) fun v5 w4 => fX0_cellBehind_9 n x0 x1 x2 v5 (x4 + (1 : Int32)) w4)
set_option maxRecDepth 20000 in
theorem sX0_cellBehind_9  : ∀ (n : Nat) (x0 : Nat) (x1 : Int32) (x2 : Int32) (x3 : Int32) (x4 : Int32) (w : eW) (r : Int32 × eW), fX0_cellBehind_9 n x0 x1 x2 x3 x4 w = some r → eBN l D cI cZ 2 yX0_cellBehind cX0_cellBehind 5 (some .int) 9 [(0, .ref x0), (1, .int x1), (2, .int x2), (3, .int x3), (4, .int x4)] [] w (some (.int r.1)) r.2 := by
  intro n
  induction n with
  | zero => intro x0 x1 x2 x3 x4 w r h; exact absurd (show (none : Option (Int32 × eW)) = some r from h) (by simp)
  | succ n ih =>
    intro x0 x1 x2 x3 x4 w r h
    rw [fX0_cellBehind_9] at h
    intro p e s m args below meth c r0 A X
    refine ev_iload (pc := 9) X 4 dX0_cellBehind_9 rfl ?_
    refine ev_iload_n (pc := 11) X 2 dX0_cellBehind_11 rfl rfl ?_
    refine ev_icmp_ge (pc := 12) X 37 dX0_cellBehind_12 rfl (fun hc => ?_) (fun hc => ?_)
    · rw [if_pos hc] at h
      refine ev_iload_n (pc := 37) X 3 dX0_cellBehind_37 rfl rfl ?_
      obtain rfl := Option.some.inj h
      exact ev_iret (pc := 38) X dX0_cellBehind_38
    · rw [if_neg hc] at h
      refine ev_aload_n (pc := 15) X 0 dX0_cellBehind_15 rfl rfl ?_
      obtain ⟨v1, hv1, h⟩ := eBi h
      refine ev_getR (pc := 16) X hcX0 (k := 0) (by decide) kfX0_20 dX0_cellBehind_16 hv1 ?_
      refine ev_iload_n (pc := 19) X 3 dX0_cellBehind_19 rfl rfl ?_
      refine ev_aload_n (pc := 20) X 0 dX0_cellBehind_20 rfl rfl ?_
      refine ev_iload_n (pc := 21) X 1 dX0_cellBehind_21 rfl rfl ?_
      refine ev_iload (pc := 22) X 4 dX0_cellBehind_22 rfl ?_
      obtain ⟨v3, w2, hc, h⟩ := eB2 h
      refine ev_callV_i (pc := 24) (As := [.int x1, .int x4]) (S := [.int x3, .ref v1]) X hwX0_cardAt klX0_53 hiX0_cardAt hsX0_cardAt (ci := 0) ⟨rfl, rfl⟩ ⟨Nat.le_of_ble_eq_true rfl, Nat.le_of_ble_eq_true rfl⟩ ⟨Nat.le_refl _, Nat.le_refl _⟩ rfl (Nat.le_of_ble_eq_true rfl) dX0_cellBehind_24 rfl (mX0_cardAt (l := l) (D := D) (cI := cI) (cZ := cZ) hc).1 (mX0_cardAt hc).2 ?_
      obtain ⟨v5, w4, hc, h⟩ := eB2 h
      refine ev_callV_i (pc := 27) (As := [.int x3, .int v3]) (S := []) X hwX1_neighbour klX0_56 hiX1_neighbour hsX1_neighbour (ci := 1) ⟨rfl, rfl⟩ ⟨Nat.le_of_ble_eq_true rfl, Nat.le_of_ble_eq_true rfl⟩ ⟨Nat.le_refl _, Nat.le_refl _⟩ rfl (Nat.le_of_ble_eq_true rfl) dX0_cellBehind_27 rfl (mX1_neighbour (l := l) (D := D) (cI := cI) (cZ := cZ) hc).1 (mX1_neighbour hc).2 ?_
      refine ev_istore_n (pc := 30) (L' := [(3, .int v5), (0, .ref x0), (1, .int x1), (2, .int x2), (4, .int x4)]) X dX0_cellBehind_30 rfl (by decide) rfl ?_
      refine ev_iinc (pc := 31) (v := x4 + (1 : Int32)) (L' := [(4, .int (x4 + (1 : Int32))), (3, .int v5), (0, .ref x0), (1, .int x1), (2, .int x2)]) X 4 dX0_cellBehind_31 rfl rfl (by decide) rfl ?_
      refine ev_goto (pc := 34) X 9 dX0_cellBehind_34 rfl ?_
      exact ev_weak (pc := 9) [2, 3, 4, 1, 0] rfl (ih _ _ _ _ _ _ _ h p e s m args below meth c r0 A X)
def fX0_cellBehind_0 (x0 : Nat) (x1 : Int32) (x2 : Int32) (w : eW) : Option (Int32 × eW) := eBind2 (fX0_firstCell x0 x1 w) fun v2 w1 => fX0_cellBehind_9 eN x0 x1 x2 v2 (0 : Int32) w1
set_option maxRecDepth 20000 in
theorem sX0_cellBehind_0  (x0 : Nat) (x1 : Int32) (x2 : Int32) (w : eW) (r : Int32 × eW) (h : fX0_cellBehind_0 x0 x1 x2 w = some r) : eBN l D cI cZ 2 yX0_cellBehind cX0_cellBehind 5 (some .int) 0 [(0, .ref x0), (1, .int x1), (2, .int x2)] [] w (some (.int r.1)) r.2 := by
  rw [fX0_cellBehind_0] at h
  intro p e s m args below meth c r0 A X
  refine ev_aload_n (pc := 0) X 0 dX0_cellBehind_0 rfl rfl ?_
  refine ev_iload_n (pc := 1) X 1 dX0_cellBehind_1 rfl rfl ?_
  obtain ⟨v2, w1, hc, h⟩ := eB2 h
  refine ev_callV_i (pc := 2) (As := [.int x1]) (S := []) X hwX0_firstCell klX0_50 hiX0_firstCell hsX0_firstCell (ci := 0) ⟨rfl, rfl⟩ ⟨Nat.le_of_ble_eq_true rfl, Nat.le_of_ble_eq_true rfl⟩ ⟨Nat.le_refl _, Nat.le_refl _⟩ rfl (Nat.le_of_ble_eq_true rfl) dX0_cellBehind_2 rfl (mX0_firstCell (l := l) (D := D) (cI := cI) (cZ := cZ) hc).1 (mX0_firstCell hc).2 ?_
  refine ev_istore_n (pc := 5) (L' := [(3, .int v2), (0, .ref x0), (1, .int x1), (2, .int x2)]) X dX0_cellBehind_5 rfl (by decide) rfl ?_
  refine ev_iconst (pc := 6) (v := (0 : Int32)) X dX0_cellBehind_6 rfl ?_
  refine ev_istore (pc := 7) (L' := [(4, .int (0 : Int32)), (3, .int v2), (0, .ref x0), (1, .int x1), (2, .int x2)]) X dX0_cellBehind_7 (by decide) rfl ?_
  exact ev_weak (pc := 9) [2, 3, 4, 1, 0] rfl (sX0_cellBehind_9 eN _ _ _ _ _ _ _ h p e s m args below meth c r0 A X)
def fX0_cellBehind (a0 : Nat) (a1 : Int32) (a2 : Int32) (w : eW) : Option (Int32 × eW) := bif eO w a0 0 then fX0_cellBehind_0 a0 a1 a2 w else none
theorem mX0_cellBehind {a0 : Nat} {a1 : Int32} {a2 : Int32} {w : eW} {v : Int32} {w' : eW} (h : fX0_cellBehind a0 a1 a2 w = some (v, w')) : eO w a0 0 = true ∧ eMN l D cI cZ 2 yX0_cellBehind cX0_cellBehind 5 (some .int) [.ref a0, .int a1, .int a2] w (some (.int v)) w' := by
  obtain ⟨h0, h⟩ := eBif h
  exact ⟨h0, eMN_of [(0, .ref a0), (1, .int a1), (2, .int a2)] (plainFor_of_name (by decide)) (fun _ => rfl) (fun _ => Nat.le_of_ble_eq_true rfl) (fun p e s m args below meth c r0 A X => ev_weak (pc := 0) [0, 1, 2] rfl (sX0_cellBehind_0 _ _ _ _ _ h p e s m args below meth c r0 A X))⟩
theorem dX0_lastCell_0 : decode cX0_lastCell 0 = .ok (.aload_n 0, 1) := by decide +kernel
theorem dX0_lastCell_1 : decode cX0_lastCell 1 = .ok (.iload_n 1, 1) := by decide +kernel
theorem dX0_lastCell_2 : decode cX0_lastCell 2 = .ok (.aload_n 0, 1) := by decide +kernel
theorem dX0_lastCell_3 : decode cX0_lastCell 3 = .ok (.iload_n 1, 1) := by decide +kernel
theorem dX0_lastCell_4 : decode cX0_lastCell 4 = .ok (.invokevirtual 43, 3) := by decide +kernel
theorem dX0_lastCell_7 : decode cX0_lastCell 7 = .ok (.invokevirtual 46, 3) := by decide +kernel
theorem dX0_lastCell_10 : decode cX0_lastCell 10 = .ok (.ireturn, 1) := by decide +kernel
def fX0_lastCell_0 (x0 : Nat) (x1 : Int32) (w : eW) : Option (Int32 × eW) := eBind2 (fX0_length x0 x1 w) fun v2 w1 => eBind2 (fX0_cellBehind x0 x1 v2 w1) fun v4 w3 => some (v4, w3)
set_option maxRecDepth 20000 in
theorem sX0_lastCell_0  (x0 : Nat) (x1 : Int32) (w : eW) (r : Int32 × eW) (h : fX0_lastCell_0 x0 x1 w = some r) : eBN l D cI cZ 3 yX0_lastCell cX0_lastCell 2 (some .int) 0 [(0, .ref x0), (1, .int x1)] [] w (some (.int r.1)) r.2 := by
  rw [fX0_lastCell_0] at h
  intro p e s m args below meth c r0 A X
  refine ev_aload_n (pc := 0) X 0 dX0_lastCell_0 rfl rfl ?_
  refine ev_iload_n (pc := 1) X 1 dX0_lastCell_1 rfl rfl ?_
  refine ev_aload_n (pc := 2) X 0 dX0_lastCell_2 rfl rfl ?_
  refine ev_iload_n (pc := 3) X 1 dX0_lastCell_3 rfl rfl ?_
  obtain ⟨v2, w1, hc, h⟩ := eB2 h
  refine ev_callV_i (pc := 4) (As := [.int x1]) (S := [.int x1, .ref x0]) X hwX0_length klX0_43 hiX0_length hsX0_length (ci := 0) ⟨rfl, rfl⟩ ⟨Nat.le_of_ble_eq_true rfl, Nat.le_of_ble_eq_true rfl⟩ ⟨Nat.le_refl _, Nat.le_refl _⟩ rfl (Nat.le_of_ble_eq_true rfl) dX0_lastCell_4 rfl (mX0_length (l := l) (D := D) (cI := cI) (cZ := cZ) hc).1 (mX0_length hc).2 ?_
  obtain ⟨v4, w3, hc, h⟩ := eB2 h
  refine ev_callV_i (pc := 7) (As := [.int x1, .int v2]) (S := []) X hwX0_cellBehind klX0_46 hiX0_cellBehind hsX0_cellBehind (ci := 0) ⟨rfl, rfl⟩ ⟨Nat.le_of_ble_eq_true rfl, Nat.le_of_ble_eq_true rfl⟩ ⟨Nat.le_refl _, Nat.le_refl _⟩ rfl (Nat.le_of_ble_eq_true rfl) dX0_lastCell_7 rfl (mX0_cellBehind (l := l) (D := D) (cI := cI) (cZ := cZ) hc).1 (mX0_cellBehind hc).2 ?_
  obtain rfl := Option.some.inj h
  exact ev_iret (pc := 10) X dX0_lastCell_10
def fX0_lastCell (a0 : Nat) (a1 : Int32) (w : eW) : Option (Int32 × eW) := bif eO w a0 0 then fX0_lastCell_0 a0 a1 w else none
theorem mX0_lastCell {a0 : Nat} {a1 : Int32} {w : eW} {v : Int32} {w' : eW} (h : fX0_lastCell a0 a1 w = some (v, w')) : eO w a0 0 = true ∧ eMN l D cI cZ 3 yX0_lastCell cX0_lastCell 2 (some .int) [.ref a0, .int a1] w (some (.int v)) w' := by
  obtain ⟨h0, h⟩ := eBif h
  exact ⟨h0, eMN_of [(0, .ref a0), (1, .int a1)] (plainFor_of_name (by decide)) (fun _ => rfl) (fun _ => Nat.le_of_ble_eq_true rfl) (fun p e s m args below meth c r0 A X => ev_weak (pc := 0) [0, 1] rfl (sX0_lastCell_0 _ _ _ _ h p e s m args below meth c r0 A X))⟩
theorem dX0_cellIf_0 : decode cX0_cellIf 0 = .ok (.iload_n 2, 1) := by decide +kernel
theorem dX0_cellIf_1 : decode cX0_cellIf 1 = .ok (.iconst 4, 1) := by decide +kernel
theorem dX0_cellIf_2 : decode cX0_cellIf 2 = .ok (.idiv, 1) := by decide +kernel
theorem dX0_cellIf_3 : decode cX0_cellIf 3 = .ok (.istore 4, 2) := by decide +kernel
theorem dX0_cellIf_5 : decode cX0_cellIf 5 = .ok (.iload_n 2, 1) := by decide +kernel
theorem dX0_cellIf_6 : decode cX0_cellIf 6 = .ok (.iconst 4, 1) := by decide +kernel
theorem dX0_cellIf_7 : decode cX0_cellIf 7 = .ok (.irem, 1) := by decide +kernel
theorem dX0_cellIf_8 : decode cX0_cellIf 8 = .ok (.istore 5, 2) := by decide +kernel
theorem dX0_cellIf_10 : decode cX0_cellIf 10 = .ok (.aload_n 0, 1) := by decide +kernel
theorem dX0_cellIf_11 : decode cX0_cellIf 11 = .ok (.iload_n 1, 1) := by decide +kernel
theorem dX0_cellIf_12 : decode cX0_cellIf 12 = .ok (.iload 4, 2) := by decide +kernel
theorem dX0_cellIf_14 : decode cX0_cellIf 14 = .ok (.invokevirtual 53, 3) := by decide +kernel
theorem dX0_cellIf_17 : decode cX0_cellIf 17 = .ok (.iload 5, 2) := by decide +kernel
theorem dX0_cellIf_19 : decode cX0_cellIf 19 = .ok (.if_icmp .ne 5, 3) := by decide +kernel
theorem dX0_cellIf_22 : decode cX0_cellIf 22 = .ok (.iconst (-1), 1) := by decide +kernel
theorem dX0_cellIf_23 : decode cX0_cellIf 23 = .ok (.ireturn, 1) := by decide +kernel
theorem dX0_cellIf_24 : decode cX0_cellIf 24 = .ok (.aload_n 0, 1) := by decide +kernel
theorem dX0_cellIf_25 : decode cX0_cellIf 25 = .ok (.iload_n 1, 1) := by decide +kernel
theorem dX0_cellIf_26 : decode cX0_cellIf 26 = .ok (.invokevirtual 50, 3) := by decide +kernel
theorem dX0_cellIf_29 : decode cX0_cellIf 29 = .ok (.istore 6, 2) := by decide +kernel
theorem dX0_cellIf_31 : decode cX0_cellIf 31 = .ok (.iload 6, 2) := by decide +kernel
theorem dX0_cellIf_33 : decode cX0_cellIf 33 = .ok (.istore 7, 2) := by decide +kernel
theorem dX0_cellIf_35 : decode cX0_cellIf 35 = .ok (.iconst 0, 1) := by decide +kernel
theorem dX0_cellIf_36 : decode cX0_cellIf 36 = .ok (.istore 8, 2) := by decide +kernel
theorem dX0_cellIf_38 : decode cX0_cellIf 38 = .ok (.iload 8, 2) := by decide +kernel
theorem dX0_cellIf_40 : decode cX0_cellIf 40 = .ok (.aload_n 0, 1) := by decide +kernel
theorem dX0_cellIf_41 : decode cX0_cellIf 41 = .ok (.iload_n 1, 1) := by decide +kernel
theorem dX0_cellIf_42 : decode cX0_cellIf 42 = .ok (.invokevirtual 43, 3) := by decide +kernel
theorem dX0_cellIf_45 : decode cX0_cellIf 45 = .ok (.if_icmp .ge 62, 3) := by decide +kernel
theorem dX0_cellIf_48 : decode cX0_cellIf 48 = .ok (.aload_n 0, 1) := by decide +kernel
theorem dX0_cellIf_49 : decode cX0_cellIf 49 = .ok (.getfield 20, 3) := by decide +kernel
theorem dX0_cellIf_52 : decode cX0_cellIf 52 = .ok (.iload 6, 2) := by decide +kernel
theorem dX0_cellIf_54 : decode cX0_cellIf 54 = .ok (.iload 8, 2) := by decide +kernel
theorem dX0_cellIf_56 : decode cX0_cellIf 56 = .ok (.iload 4, 2) := by decide +kernel
theorem dX0_cellIf_58 : decode cX0_cellIf 58 = .ok (.if_icmp .ne 8, 3) := by decide +kernel
theorem dX0_cellIf_61 : decode cX0_cellIf 61 = .ok (.iload 5, 2) := by decide +kernel
theorem dX0_cellIf_63 : decode cX0_cellIf 63 = .ok (.goto 10, 3) := by decide +kernel
theorem dX0_cellIf_66 : decode cX0_cellIf 66 = .ok (.aload_n 0, 1) := by decide +kernel
theorem dX0_cellIf_67 : decode cX0_cellIf 67 = .ok (.iload_n 1, 1) := by decide +kernel
theorem dX0_cellIf_68 : decode cX0_cellIf 68 = .ok (.iload 8, 2) := by decide +kernel
theorem dX0_cellIf_70 : decode cX0_cellIf 70 = .ok (.invokevirtual 53, 3) := by decide +kernel
theorem dX0_cellIf_73 : decode cX0_cellIf 73 = .ok (.invokevirtual 61, 3) := by decide +kernel
theorem dX0_cellIf_76 : decode cX0_cellIf 76 = .ok (.istore 6, 2) := by decide +kernel
theorem dX0_cellIf_78 : decode cX0_cellIf 78 = .ok (.iload 6, 2) := by decide +kernel
theorem dX0_cellIf_80 : decode cX0_cellIf 80 = .ok (.iconst (-1), 1) := by decide +kernel
theorem dX0_cellIf_81 : decode cX0_cellIf 81 = .ok (.if_icmp .ne 5, 3) := by decide +kernel
theorem dX0_cellIf_84 : decode cX0_cellIf 84 = .ok (.iconst (-1), 1) := by decide +kernel
theorem dX0_cellIf_85 : decode cX0_cellIf 85 = .ok (.ireturn, 1) := by decide +kernel
theorem dX0_cellIf_86 : decode cX0_cellIf 86 = .ok (.iload 8, 2) := by decide +kernel
theorem dX0_cellIf_88 : decode cX0_cellIf 88 = .ok (.iload_n 3, 1) := by decide +kernel
theorem dX0_cellIf_89 : decode cX0_cellIf 89 = .ok (.if_icmp .ge 8, 3) := by decide +kernel
theorem dX0_cellIf_92 : decode cX0_cellIf 92 = .ok (.iload 6, 2) := by decide +kernel
theorem dX0_cellIf_94 : decode cX0_cellIf 94 = .ok (.goto 5, 3) := by decide +kernel
theorem dX0_cellIf_97 : decode cX0_cellIf 97 = .ok (.iload 7, 2) := by decide +kernel
theorem dX0_cellIf_99 : decode cX0_cellIf 99 = .ok (.istore 7, 2) := by decide +kernel
theorem dX0_cellIf_101 : decode cX0_cellIf 101 = .ok (.iinc 8 1, 3) := by decide +kernel
theorem dX0_cellIf_104 : decode cX0_cellIf 104 = .ok (.goto (-66), 3) := by decide +kernel
theorem dX0_cellIf_107 : decode cX0_cellIf 107 = .ok (.iload 7, 2) := by decide +kernel
theorem dX0_cellIf_109 : decode cX0_cellIf 109 = .ok (.ireturn, 1) := by decide +kernel
def fX0_cellIf_99 (K38 : Nat → Int32 → Int32 → Int32 → Int32 → Int32 → Int32 → Int32 → eW → Option (Int32 × eW)) (x0 : Nat) (x1 : Int32) (x3 : Int32) (x4 : Int32) (x5 : Int32) (x6 : Int32) (x8 : Int32) (t0 : Int32) (w : eW) : Option (Int32 × eW) := K38 x0 x1 x3 x4 x5 x6 t0 (x8 + (1 : Int32)) w
set_option maxRecDepth 20000 in
theorem sX0_cellIf_99 {K38 : Nat → Int32 → Int32 → Int32 → Int32 → Int32 → Int32 → Int32 → eW → Option (Int32 × eW)} (hK38 : ∀ (x0 : Nat) (x1 : Int32) (x3 : Int32) (x4 : Int32) (x5 : Int32) (x6 : Int32) (x7 : Int32) (x8 : Int32) (w : eW) (r : Int32 × eW), K38 x0 x1 x3 x4 x5 x6 x7 x8 w = some r → eBN l D cI cZ 3 yX0_cellIf cX0_cellIf 9 (some .int) 38 [(0, .ref x0), (1, .int x1), (3, .int x3), (4, .int x4), (5, .int x5), (6, .int x6), (7, .int x7), (8, .int x8)] [] w (some (.int r.1)) r.2) (x0 : Nat) (x1 : Int32) (x3 : Int32) (x4 : Int32) (x5 : Int32) (x6 : Int32) (x8 : Int32) (t0 : Int32) (w : eW) (r : Int32 × eW) (h : fX0_cellIf_99 K38 x0 x1 x3 x4 x5 x6 x8 t0 w = some r) : eBN l D cI cZ 3 yX0_cellIf cX0_cellIf 9 (some .int) 99 [(0, .ref x0), (1, .int x1), (3, .int x3), (4, .int x4), (5, .int x5), (6, .int x6), (8, .int x8)] [.int t0] w (some (.int r.1)) r.2 := by
  rw [fX0_cellIf_99] at h
  intro p e s m args below meth c r0 A X
  refine ev_istore (pc := 99) (L' := [(7, .int t0), (0, .ref x0), (1, .int x1), (3, .int x3), (4, .int x4), (5, .int x5), (6, .int x6), (8, .int x8)]) X dX0_cellIf_99 (by decide) rfl ?_
  refine ev_iinc (pc := 101) (v := x8 + (1 : Int32)) (L' := [(8, .int (x8 + (1 : Int32))), (7, .int t0), (0, .ref x0), (1, .int x1), (3, .int x3), (4, .int x4), (5, .int x5), (6, .int x6)]) X 7 dX0_cellIf_101 rfl rfl (by decide) rfl ?_
  refine ev_goto (pc := 104) X 38 dX0_cellIf_104 rfl ?_
  exact ev_weak (pc := 38) [2, 3, 4, 5, 6, 7, 1, 0] rfl (hK38 _ _ _ _ _ _ _ _ _ _ h p e s m args below meth c r0 A X)
def fX0_cellIf_73 (K38 : Nat → Int32 → Int32 → Int32 → Int32 → Int32 → Int32 → Int32 → eW → Option (Int32 × eW)) (x0 : Nat) (x1 : Int32) (x3 : Int32) (x4 : Int32) (x5 : Int32) (x7 : Int32) (x8 : Int32) (t0 : Nat) (t1 : Int32) (t2 : Int32) (w : eW) : Option (Int32 × eW) := eBind2 (fX1_cellBy t0 t1 t2 w) fun v2 w1 => if v2 = (-1 : Int32) then (some ((-1 : Int32), w1)) else (if x3 ≤ x8 then (fX0_cellIf_99 K38 x0 x1 x3 x4 x5 v2 x8 x7 w1) else (fX0_cellIf_99 K38 x0 x1 x3 x4 x5 v2 x8 v2 w1))
set_option maxRecDepth 20000 in
theorem sX0_cellIf_73 {K38 : Nat → Int32 → Int32 → Int32 → Int32 → Int32 → Int32 → Int32 → eW → Option (Int32 × eW)} (hK38 : ∀ (x0 : Nat) (x1 : Int32) (x3 : Int32) (x4 : Int32) (x5 : Int32) (x6 : Int32) (x7 : Int32) (x8 : Int32) (w : eW) (r : Int32 × eW), K38 x0 x1 x3 x4 x5 x6 x7 x8 w = some r → eBN l D cI cZ 3 yX0_cellIf cX0_cellIf 9 (some .int) 38 [(0, .ref x0), (1, .int x1), (3, .int x3), (4, .int x4), (5, .int x5), (6, .int x6), (7, .int x7), (8, .int x8)] [] w (some (.int r.1)) r.2) (x0 : Nat) (x1 : Int32) (x3 : Int32) (x4 : Int32) (x5 : Int32) (x7 : Int32) (x8 : Int32) (t0 : Nat) (t1 : Int32) (t2 : Int32) (w : eW) (r : Int32 × eW) (h : fX0_cellIf_73 K38 x0 x1 x3 x4 x5 x7 x8 t0 t1 t2 w = some r) : eBN l D cI cZ 3 yX0_cellIf cX0_cellIf 9 (some .int) 73 [(0, .ref x0), (1, .int x1), (3, .int x3), (4, .int x4), (5, .int x5), (7, .int x7), (8, .int x8)] [.int t2, .int t1, .ref t0] w (some (.int r.1)) r.2 := by
  rw [fX0_cellIf_73] at h
  intro p e s m args below meth c r0 A X
  obtain ⟨v2, w1, hc, h⟩ := eB2 h
  refine ev_callV_i (pc := 73) (As := [.int t1, .int t2]) (S := []) X hwX1_cellBy klX0_61 hiX1_cellBy hsX1_cellBy (ci := 1) ⟨rfl, rfl⟩ ⟨Nat.le_of_ble_eq_true rfl, Nat.le_of_ble_eq_true rfl⟩ ⟨Nat.le_refl _, Nat.le_refl _⟩ rfl (Nat.le_of_ble_eq_true rfl) dX0_cellIf_73 rfl (mX1_cellBy (l := l) (D := D) (cI := cI) (cZ := cZ) hc).1 (mX1_cellBy hc).2 ?_
  refine ev_istore (pc := 76) (L' := [(6, .int v2), (0, .ref x0), (1, .int x1), (3, .int x3), (4, .int x4), (5, .int x5), (7, .int x7), (8, .int x8)]) X dX0_cellIf_76 (by decide) rfl ?_
  refine ev_iload (pc := 78) X 0 dX0_cellIf_78 rfl ?_
  refine ev_iconst (pc := 80) (v := (-1 : Int32)) X dX0_cellIf_80 rfl ?_
  refine ev_icmp_ne (pc := 81) X 86 dX0_cellIf_81 rfl (fun hc => ?_) (fun hc => ?_)
  · rw [if_neg hc] at h
    refine ev_iload (pc := 86) X 7 dX0_cellIf_86 rfl ?_
    refine ev_iload_n (pc := 88) X 3 dX0_cellIf_88 rfl rfl ?_
    refine ev_icmp_ge (pc := 89) X 97 dX0_cellIf_89 rfl (fun hc => ?_) (fun hc => ?_)
    · rw [if_pos hc] at h
      refine ev_iload (pc := 97) X 6 dX0_cellIf_97 rfl ?_
      exact ev_weak (pc := 99) [1, 2, 3, 4, 5, 0, 7] rfl (sX0_cellIf_99 hK38 _ _ _ _ _ _ _ _ _ _ h p e s m args below meth c r0 A X)
    · rw [if_neg hc] at h
      refine ev_iload (pc := 92) X 0 dX0_cellIf_92 rfl ?_
      refine ev_goto (pc := 94) X 99 dX0_cellIf_94 rfl ?_
      exact ev_weak (pc := 99) [1, 2, 3, 4, 5, 0, 7] rfl (sX0_cellIf_99 hK38 _ _ _ _ _ _ _ _ _ _ h p e s m args below meth c r0 A X)
  · rw [if_pos hc] at h
    refine ev_iconst (pc := 84) (v := (-1 : Int32)) X dX0_cellIf_84 rfl ?_
    obtain rfl := Option.some.inj h
    exact ev_iret (pc := 85) X dX0_cellIf_85
def fX0_cellIf_38 : Nat → Nat → Int32 → Int32 → Int32 → Int32 → Int32 → Int32 → Int32 → eW → Option (Int32 × eW)
  | 0, _, _, _, _, _, _, _, _, _ => none
  | n + 1, x0, x1, x3, x4, x5, x6, x7, x8, w => eBind2 (fX0_length x0 x1 w) fun v2 w1 => if v2 ≤ x8 then (some (x7, w1)) else ((eGR w1 x0 0 0).bind fun v3 => if x8 = x4 then (fX0_cellIf_73 (fX0_cellIf_38 n) x0 x1 x3 x4 x5 x7 x8 v3 x6 x5 w1) else (eBind2 (fX0_cardAt x0 x1 x8 w1) fun v5 w4 => fX0_cellIf_73 (fX0_cellIf_38 n) x0 x1 x3 x4 x5 x7 x8 v3 x6 v5 w4))
set_option maxRecDepth 20000 in
theorem sX0_cellIf_38  : ∀ (n : Nat) (x0 : Nat) (x1 : Int32) (x3 : Int32) (x4 : Int32) (x5 : Int32) (x6 : Int32) (x7 : Int32) (x8 : Int32) (w : eW) (r : Int32 × eW), fX0_cellIf_38 n x0 x1 x3 x4 x5 x6 x7 x8 w = some r → eBN l D cI cZ 3 yX0_cellIf cX0_cellIf 9 (some .int) 38 [(0, .ref x0), (1, .int x1), (3, .int x3), (4, .int x4), (5, .int x5), (6, .int x6), (7, .int x7), (8, .int x8)] [] w (some (.int r.1)) r.2 := by
  intro n
  induction n with
  | zero => intro x0 x1 x3 x4 x5 x6 x7 x8 w r h; exact absurd (show (none : Option (Int32 × eW)) = some r from h) (by simp)
  | succ n ih =>
    intro x0 x1 x3 x4 x5 x6 x7 x8 w r h
    rw [fX0_cellIf_38] at h
    intro p e s m args below meth c r0 A X
    refine ev_iload (pc := 38) X 7 dX0_cellIf_38 rfl ?_
    refine ev_aload_n (pc := 40) X 0 dX0_cellIf_40 rfl rfl ?_
    refine ev_iload_n (pc := 41) X 1 dX0_cellIf_41 rfl rfl ?_
    obtain ⟨v2, w1, hc, h⟩ := eB2 h
    refine ev_callV_i (pc := 42) (As := [.int x1]) (S := [.int x8]) X hwX0_length klX0_43 hiX0_length hsX0_length (ci := 0) ⟨rfl, rfl⟩ ⟨Nat.le_of_ble_eq_true rfl, Nat.le_of_ble_eq_true rfl⟩ ⟨Nat.le_refl _, Nat.le_refl _⟩ rfl (Nat.le_of_ble_eq_true rfl) dX0_cellIf_42 rfl (mX0_length (l := l) (D := D) (cI := cI) (cZ := cZ) hc).1 (mX0_length hc).2 ?_
    refine ev_icmp_ge (pc := 45) X 107 dX0_cellIf_45 rfl (fun hc => ?_) (fun hc => ?_)
    · rw [if_pos hc] at h
      refine ev_iload (pc := 107) X 6 dX0_cellIf_107 rfl ?_
      obtain rfl := Option.some.inj h
      exact ev_iret (pc := 109) X dX0_cellIf_109
    · rw [if_neg hc] at h
      refine ev_aload_n (pc := 48) X 0 dX0_cellIf_48 rfl rfl ?_
      obtain ⟨v3, hv3, h⟩ := eBi h
      refine ev_getR (pc := 49) X hcX0 (k := 0) (by decide) kfX0_20 dX0_cellIf_49 hv3 ?_
      refine ev_iload (pc := 52) X 5 dX0_cellIf_52 rfl ?_
      refine ev_iload (pc := 54) X 7 dX0_cellIf_54 rfl ?_
      refine ev_iload (pc := 56) X 3 dX0_cellIf_56 rfl ?_
      refine ev_icmp_ne (pc := 58) X 66 dX0_cellIf_58 rfl (fun hc => ?_) (fun hc => ?_)
      · rw [if_neg hc] at h
        refine ev_aload_n (pc := 66) X 0 dX0_cellIf_66 rfl rfl ?_
        refine ev_iload_n (pc := 67) X 1 dX0_cellIf_67 rfl rfl ?_
        refine ev_iload (pc := 68) X 7 dX0_cellIf_68 rfl ?_
        obtain ⟨v5, w4, hc, h⟩ := eB2 h
        refine ev_callV_i (pc := 70) (As := [.int x1, .int x8]) (S := [.int x6, .ref v3]) X hwX0_cardAt klX0_53 hiX0_cardAt hsX0_cardAt (ci := 0) ⟨rfl, rfl⟩ ⟨Nat.le_of_ble_eq_true rfl, Nat.le_of_ble_eq_true rfl⟩ ⟨Nat.le_refl _, Nat.le_refl _⟩ rfl (Nat.le_of_ble_eq_true rfl) dX0_cellIf_70 rfl (mX0_cardAt (l := l) (D := D) (cI := cI) (cZ := cZ) hc).1 (mX0_cardAt hc).2 ?_
        exact ev_weak (pc := 73) [0, 1, 2, 3, 4, 6, 7] rfl (sX0_cellIf_73 (fun _ _ _ _ _ _ _ _ w r hh => ih _ _ _ _ _ _ _ _ w r hh) _ _ _ _ _ _ _ _ _ _ _ _ h p e s m args below meth c r0 A X)
      · rw [if_pos hc] at h
        refine ev_iload (pc := 61) X 4 dX0_cellIf_61 rfl ?_
        refine ev_goto (pc := 63) X 73 dX0_cellIf_63 rfl ?_
        exact ev_weak (pc := 73) [0, 1, 2, 3, 4, 6, 7] rfl (sX0_cellIf_73 (fun _ _ _ _ _ _ _ _ w r hh => ih _ _ _ _ _ _ _ _ w r hh) _ _ _ _ _ _ _ _ _ _ _ _ h p e s m args below meth c r0 A X)
def fX0_cellIf_0 (x0 : Nat) (x1 : Int32) (x2 : Int32) (x3 : Int32) (w : eW) : Option (Int32 × eW) := if (4 : Int32) = 0 then none else if (4 : Int32) = 0 then none else eBind2 (fX0_cardAt x0 x1 (x2 / (4 : Int32)) w) fun v2 w1 => if v2 = (x2 - x2 / (4 : Int32) * (4 : Int32)) then (some ((-1 : Int32), w1)) else (eBind2 (fX0_firstCell x0 x1 w1) fun v4 w3 => fX0_cellIf_38 eN x0 x1 x3 (x2 / (4 : Int32)) (x2 - x2 / (4 : Int32) * (4 : Int32)) v4 v4 (0 : Int32) w3)
set_option maxRecDepth 20000 in
theorem sX0_cellIf_0  (x0 : Nat) (x1 : Int32) (x2 : Int32) (x3 : Int32) (w : eW) (r : Int32 × eW) (h : fX0_cellIf_0 x0 x1 x2 x3 w = some r) : eBN l D cI cZ 3 yX0_cellIf cX0_cellIf 9 (some .int) 0 [(0, .ref x0), (1, .int x1), (2, .int x2), (3, .int x3)] [] w (some (.int r.1)) r.2 := by
  rw [fX0_cellIf_0] at h
  intro p e s m args below meth c r0 A X
  refine ev_iload_n (pc := 0) X 2 dX0_cellIf_0 rfl rfl ?_
  refine ev_iconst (pc := 1) (v := (4 : Int32)) X dX0_cellIf_1 rfl ?_
  obtain ⟨hz, h⟩ := eNz h
  refine ev_idiv (pc := 2) X dX0_cellIf_2 hz ?_
  refine ev_istore (pc := 3) (L' := [(4, .int (x2 / (4 : Int32))), (0, .ref x0), (1, .int x1), (2, .int x2), (3, .int x3)]) X dX0_cellIf_3 (by decide) rfl ?_
  refine ev_iload_n (pc := 5) X 3 dX0_cellIf_5 rfl rfl ?_
  refine ev_iconst (pc := 6) (v := (4 : Int32)) X dX0_cellIf_6 rfl ?_
  obtain ⟨hz, h⟩ := eNz h
  refine ev_irem (pc := 7) X dX0_cellIf_7 hz ?_
  refine ev_istore (pc := 8) (L' := [(5, .int (x2 - x2 / (4 : Int32) * (4 : Int32))), (4, .int (x2 / (4 : Int32))), (0, .ref x0), (1, .int x1), (2, .int x2), (3, .int x3)]) X dX0_cellIf_8 (by decide) rfl ?_
  refine ev_aload_n (pc := 10) X 2 dX0_cellIf_10 rfl rfl ?_
  refine ev_iload_n (pc := 11) X 3 dX0_cellIf_11 rfl rfl ?_
  refine ev_iload (pc := 12) X 1 dX0_cellIf_12 rfl ?_
  obtain ⟨v2, w1, hc, h⟩ := eB2 h
  refine ev_callV_i (pc := 14) (As := [.int x1, .int (x2 / (4 : Int32))]) (S := []) X hwX0_cardAt klX0_53 hiX0_cardAt hsX0_cardAt (ci := 0) ⟨rfl, rfl⟩ ⟨Nat.le_of_ble_eq_true rfl, Nat.le_of_ble_eq_true rfl⟩ ⟨Nat.le_refl _, Nat.le_refl _⟩ rfl (Nat.le_of_ble_eq_true rfl) dX0_cellIf_14 rfl (mX0_cardAt (l := l) (D := D) (cI := cI) (cZ := cZ) hc).1 (mX0_cardAt hc).2 ?_
  refine ev_iload (pc := 17) X 0 dX0_cellIf_17 rfl ?_
  refine ev_icmp_ne (pc := 19) X 24 dX0_cellIf_19 rfl (fun hc => ?_) (fun hc => ?_)
  · rw [if_neg hc] at h
    refine ev_aload_n (pc := 24) X 2 dX0_cellIf_24 rfl rfl ?_
    refine ev_iload_n (pc := 25) X 3 dX0_cellIf_25 rfl rfl ?_
    obtain ⟨v4, w3, hc, h⟩ := eB2 h
    refine ev_callV_i (pc := 26) (As := [.int x1]) (S := []) X hwX0_firstCell klX0_50 hiX0_firstCell hsX0_firstCell (ci := 0) ⟨rfl, rfl⟩ ⟨Nat.le_of_ble_eq_true rfl, Nat.le_of_ble_eq_true rfl⟩ ⟨Nat.le_refl _, Nat.le_refl _⟩ rfl (Nat.le_of_ble_eq_true rfl) dX0_cellIf_26 rfl (mX0_firstCell (l := l) (D := D) (cI := cI) (cZ := cZ) hc).1 (mX0_firstCell hc).2 ?_
    refine ev_istore (pc := 29) (L' := [(6, .int v4), (5, .int (x2 - x2 / (4 : Int32) * (4 : Int32))), (4, .int (x2 / (4 : Int32))), (0, .ref x0), (1, .int x1), (2, .int x2), (3, .int x3)]) X dX0_cellIf_29 (by decide) rfl ?_
    refine ev_iload (pc := 31) X 0 dX0_cellIf_31 rfl ?_
    refine ev_istore (pc := 33) (L' := [(7, .int v4), (6, .int v4), (5, .int (x2 - x2 / (4 : Int32) * (4 : Int32))), (4, .int (x2 / (4 : Int32))), (0, .ref x0), (1, .int x1), (2, .int x2), (3, .int x3)]) X dX0_cellIf_33 (by decide) rfl ?_
    refine ev_iconst (pc := 35) (v := (0 : Int32)) X dX0_cellIf_35 rfl ?_
    refine ev_istore (pc := 36) (L' := [(8, .int (0 : Int32)), (7, .int v4), (6, .int v4), (5, .int (x2 - x2 / (4 : Int32) * (4 : Int32))), (4, .int (x2 / (4 : Int32))), (0, .ref x0), (1, .int x1), (2, .int x2), (3, .int x3)]) X dX0_cellIf_36 (by decide) rfl ?_
    exact ev_weak (pc := 38) [5, 6, 8, 4, 3, 2, 1, 0] rfl (sX0_cellIf_38 eN _ _ _ _ _ _ _ _ _ _ h p e s m args below meth c r0 A X)
  · rw [if_pos hc] at h
    refine ev_iconst (pc := 22) (v := (-1 : Int32)) X dX0_cellIf_22 rfl ?_
    obtain rfl := Option.some.inj h
    exact ev_iret (pc := 23) X dX0_cellIf_23
def fX0_cellIf (a0 : Nat) (a1 : Int32) (a2 : Int32) (a3 : Int32) (w : eW) : Option (Int32 × eW) := bif eO w a0 0 then fX0_cellIf_0 a0 a1 a2 a3 w else none
theorem mX0_cellIf {a0 : Nat} {a1 : Int32} {a2 : Int32} {a3 : Int32} {w : eW} {v : Int32} {w' : eW} (h : fX0_cellIf a0 a1 a2 a3 w = some (v, w')) : eO w a0 0 = true ∧ eMN l D cI cZ 3 yX0_cellIf cX0_cellIf 9 (some .int) [.ref a0, .int a1, .int a2, .int a3] w (some (.int v)) w' := by
  obtain ⟨h0, h⟩ := eBif h
  exact ⟨h0, eMN_of [(0, .ref a0), (1, .int a1), (2, .int a2), (3, .int a3)] (plainFor_of_name (by decide)) (fun _ => rfl) (fun _ => Nat.le_of_ble_eq_true rfl) (fun p e s m args below meth c r0 A X => ev_weak (pc := 0) [0, 1, 2, 3] rfl (sX0_cellIf_0 _ _ _ _ _ _ h p e s m args below meth c r0 A X))⟩
theorem dX0_begin_0 : decode cX0_begin 0 = .ok (.aload_n 0, 1) := by decide +kernel
theorem dX0_begin_1 : decode cX0_begin 1 = .ok (.invokevirtual 36, 3) := by decide +kernel
theorem dX0_begin_4 : decode cX0_begin 4 = .ok (.istore_n 2, 1) := by decide +kernel
theorem dX0_begin_5 : decode cX0_begin 5 = .ok (.aload_n 0, 1) := by decide +kernel
theorem dX0_begin_6 : decode cX0_begin 6 = .ok (.getfield 16, 3) := by decide +kernel
theorem dX0_begin_9 : decode cX0_begin 9 = .ok (.iload_n 2, 1) := by decide +kernel
theorem dX0_begin_10 : decode cX0_begin 10 = .ok (.invokestatic 40, 3) := by decide +kernel
theorem dX0_begin_13 : decode cX0_begin 13 = .ok (.iconst 0, 1) := by decide +kernel
theorem dX0_begin_14 : decode cX0_begin 14 = .ok (.iadd, 1) := by decide +kernel
theorem dX0_begin_15 : decode cX0_begin 15 = .ok (.iload_n 1, 1) := by decide +kernel
theorem dX0_begin_16 : decode cX0_begin 16 = .ok (.invokevirtual 24, 3) := by decide +kernel
theorem dX0_begin_19 : decode cX0_begin 19 = .ok (.aload_n 0, 1) := by decide +kernel
theorem dX0_begin_20 : decode cX0_begin 20 = .ok (.getfield 16, 3) := by decide +kernel
theorem dX0_begin_23 : decode cX0_begin 23 = .ok (.iload_n 2, 1) := by decide +kernel
theorem dX0_begin_24 : decode cX0_begin 24 = .ok (.invokestatic 40, 3) := by decide +kernel
theorem dX0_begin_27 : decode cX0_begin 27 = .ok (.iconst 1, 1) := by decide +kernel
theorem dX0_begin_28 : decode cX0_begin 28 = .ok (.iadd, 1) := by decide +kernel
theorem dX0_begin_29 : decode cX0_begin 29 = .ok (.iconst 0, 1) := by decide +kernel
theorem dX0_begin_30 : decode cX0_begin 30 = .ok (.invokevirtual 24, 3) := by decide +kernel
theorem dX0_begin_33 : decode cX0_begin 33 = .ok (.aload_n 0, 1) := by decide +kernel
theorem dX0_begin_34 : decode cX0_begin 34 = .ok (.getfield 16, 3) := by decide +kernel
theorem dX0_begin_37 : decode cX0_begin 37 = .ok (.iconst 0, 1) := by decide +kernel
theorem dX0_begin_38 : decode cX0_begin 38 = .ok (.iload_n 2, 1) := by decide +kernel
theorem dX0_begin_39 : decode cX0_begin 39 = .ok (.iconst 1, 1) := by decide +kernel
theorem dX0_begin_40 : decode cX0_begin 40 = .ok (.iadd, 1) := by decide +kernel
theorem dX0_begin_41 : decode cX0_begin 41 = .ok (.invokevirtual 24, 3) := by decide +kernel
theorem dX0_begin_44 : decode cX0_begin 44 = .ok (.iload_n 2, 1) := by decide +kernel
theorem dX0_begin_45 : decode cX0_begin 45 = .ok (.ireturn, 1) := by decide +kernel
def fX0_begin_0 (x0 : Nat) (x1 : Int32) (w : eW) : Option (Int32 × eW) := eBind2 (fX0_size x0 w) fun v2 w1 => (eGR w1 x0 0 1).bind fun v3 => eBind2 (fX0_placeOf v2 w1) fun v5 w4 => (fX7_put v3 (v5 + (0 : Int32)) x1 w4).bind fun w6 => (eGR w6 x0 0 1).bind fun v7 => eBind2 (fX0_placeOf v2 w6) fun v9 w8 => (fX7_put v7 (v9 + (1 : Int32)) (0 : Int32) w8).bind fun w10 => (eGR w10 x0 0 1).bind fun v11 => (fX7_put v11 (0 : Int32) (v2 + (1 : Int32)) w10).bind fun w12 => some (v2, w12)
set_option maxRecDepth 20000 in
theorem sX0_begin_0  (x0 : Nat) (x1 : Int32) (w : eW) (r : Int32 × eW) (h : fX0_begin_0 x0 x1 w = some r) : eBN l D cI cZ 2 yX0_begin cX0_begin 3 (some .int) 0 [(0, .ref x0), (1, .int x1)] [] w (some (.int r.1)) r.2 := by
  rw [fX0_begin_0] at h
  intro p e s m args below meth c r0 A X
  refine ev_aload_n (pc := 0) X 0 dX0_begin_0 rfl rfl ?_
  obtain ⟨v2, w1, hc, h⟩ := eB2 h
  refine ev_callV_i (pc := 1) (As := []) (S := []) X hwX0_size klX0_36 hiX0_size hsX0_size (ci := 0) ⟨rfl, rfl⟩ ⟨Nat.le_of_ble_eq_true rfl, Nat.le_of_ble_eq_true rfl⟩ ⟨Nat.le_refl _, Nat.le_refl _⟩ rfl (Nat.le_of_ble_eq_true rfl) dX0_begin_1 rfl (mX0_size (l := l) (D := D) (cI := cI) (cZ := cZ) hc).1 (mX0_size hc).2 ?_
  refine ev_istore_n (pc := 4) (L' := [(2, .int v2), (0, .ref x0), (1, .int x1)]) X dX0_begin_4 rfl (by decide) rfl ?_
  refine ev_aload_n (pc := 5) X 1 dX0_begin_5 rfl rfl ?_
  obtain ⟨v3, hv3, h⟩ := eBi h
  refine ev_getR (pc := 6) X hcX0 (k := 1) (by decide) kfX0_16 dX0_begin_6 hv3 ?_
  refine ev_iload_n (pc := 9) X 0 dX0_begin_9 rfl rfl ?_
  obtain ⟨v5, w4, hc, h⟩ := eB2 h
  refine ev_callS_i (pc := 10) (As := [.int v2]) (S := [.ref v3]) X hwX0_placeOf klX0_40 htX0_placeOf ⟨Nat.le_of_ble_eq_true rfl, Nat.le_of_ble_eq_true rfl⟩ ⟨Nat.le_refl _, Nat.le_refl _⟩ rfl (Nat.le_of_ble_eq_true rfl) dX0_begin_10 rfl (mX0_placeOf hc) ?_
  refine ev_iconst (pc := 13) (v := (0 : Int32)) X dX0_begin_13 rfl ?_
  refine ev_iadd (pc := 14) X dX0_begin_14 ?_
  refine ev_iload_n (pc := 15) X 2 dX0_begin_15 rfl rfl ?_
  obtain ⟨w6, hc, h⟩ := eBi h
  refine ev_callV_v (pc := 16) (As := [.int (v5 + (0 : Int32)), .int x1]) (S := []) X hwX7_put klX0_24 hiX7_put hsX7_put (ci := 7) ⟨rfl, rfl⟩ ⟨Nat.le_of_ble_eq_true rfl, Nat.le_of_ble_eq_true rfl⟩ ⟨Nat.le_refl _, Nat.le_refl _⟩ rfl (Nat.le_of_ble_eq_true rfl) dX0_begin_16 rfl (mX7_put (l := l) (D := D) (cI := cI) (cZ := cZ) hc).1 (mX7_put hc).2 ?_
  refine ev_aload_n (pc := 19) X 1 dX0_begin_19 rfl rfl ?_
  obtain ⟨v7, hv7, h⟩ := eBi h
  refine ev_getR (pc := 20) X hcX0 (k := 1) (by decide) kfX0_16 dX0_begin_20 hv7 ?_
  refine ev_iload_n (pc := 23) X 0 dX0_begin_23 rfl rfl ?_
  obtain ⟨v9, w8, hc, h⟩ := eB2 h
  refine ev_callS_i (pc := 24) (As := [.int v2]) (S := [.ref v7]) X hwX0_placeOf klX0_40 htX0_placeOf ⟨Nat.le_of_ble_eq_true rfl, Nat.le_of_ble_eq_true rfl⟩ ⟨Nat.le_refl _, Nat.le_refl _⟩ rfl (Nat.le_of_ble_eq_true rfl) dX0_begin_24 rfl (mX0_placeOf hc) ?_
  refine ev_iconst (pc := 27) (v := (1 : Int32)) X dX0_begin_27 rfl ?_
  refine ev_iadd (pc := 28) X dX0_begin_28 ?_
  refine ev_iconst (pc := 29) (v := (0 : Int32)) X dX0_begin_29 rfl ?_
  obtain ⟨w10, hc, h⟩ := eBi h
  refine ev_callV_v (pc := 30) (As := [.int (v9 + (1 : Int32)), .int (0 : Int32)]) (S := []) X hwX7_put klX0_24 hiX7_put hsX7_put (ci := 7) ⟨rfl, rfl⟩ ⟨Nat.le_of_ble_eq_true rfl, Nat.le_of_ble_eq_true rfl⟩ ⟨Nat.le_refl _, Nat.le_refl _⟩ rfl (Nat.le_of_ble_eq_true rfl) dX0_begin_30 rfl (mX7_put (l := l) (D := D) (cI := cI) (cZ := cZ) hc).1 (mX7_put hc).2 ?_
  refine ev_aload_n (pc := 33) X 1 dX0_begin_33 rfl rfl ?_
  obtain ⟨v11, hv11, h⟩ := eBi h
  refine ev_getR (pc := 34) X hcX0 (k := 1) (by decide) kfX0_16 dX0_begin_34 hv11 ?_
  refine ev_iconst (pc := 37) (v := (0 : Int32)) X dX0_begin_37 rfl ?_
  refine ev_iload_n (pc := 38) X 0 dX0_begin_38 rfl rfl ?_
  refine ev_iconst (pc := 39) (v := (1 : Int32)) X dX0_begin_39 rfl ?_
  refine ev_iadd (pc := 40) X dX0_begin_40 ?_
  obtain ⟨w12, hc, h⟩ := eBi h
  refine ev_callV_v (pc := 41) (As := [.int (0 : Int32), .int (v2 + (1 : Int32))]) (S := []) X hwX7_put klX0_24 hiX7_put hsX7_put (ci := 7) ⟨rfl, rfl⟩ ⟨Nat.le_of_ble_eq_true rfl, Nat.le_of_ble_eq_true rfl⟩ ⟨Nat.le_refl _, Nat.le_refl _⟩ rfl (Nat.le_of_ble_eq_true rfl) dX0_begin_41 rfl (mX7_put (l := l) (D := D) (cI := cI) (cZ := cZ) hc).1 (mX7_put hc).2 ?_
  refine ev_iload_n (pc := 44) X 0 dX0_begin_44 rfl rfl ?_
  obtain rfl := Option.some.inj h
  exact ev_iret (pc := 45) X dX0_begin_45
def fX0_begin (a0 : Nat) (a1 : Int32) (w : eW) : Option (Int32 × eW) := bif eO w a0 0 then fX0_begin_0 a0 a1 w else none
theorem mX0_begin {a0 : Nat} {a1 : Int32} {w : eW} {v : Int32} {w' : eW} (h : fX0_begin a0 a1 w = some (v, w')) : eO w a0 0 = true ∧ eMN l D cI cZ 2 yX0_begin cX0_begin 3 (some .int) [.ref a0, .int a1] w (some (.int v)) w' := by
  obtain ⟨h0, h⟩ := eBif h
  exact ⟨h0, eMN_of [(0, .ref a0), (1, .int a1)] (plainFor_of_name (by decide)) (fun _ => rfl) (fun _ => Nat.le_of_ble_eq_true rfl) (fun p e s m args below meth c r0 A X => ev_weak (pc := 0) [0, 1] rfl (sX0_begin_0 _ _ _ _ h p e s m args below meth c r0 A X))⟩
theorem dX0_weave_0 : decode cX0_weave 0 = .ok (.aload_n 0, 1) := by decide +kernel
theorem dX0_weave_1 : decode cX0_weave 1 = .ok (.iload_n 1, 1) := by decide +kernel
theorem dX0_weave_2 : decode cX0_weave 2 = .ok (.invokevirtual 43, 3) := by decide +kernel
theorem dX0_weave_5 : decode cX0_weave 5 = .ok (.istore_n 3, 1) := by decide +kernel
theorem dX0_weave_6 : decode cX0_weave 6 = .ok (.aload_n 0, 1) := by decide +kernel
theorem dX0_weave_7 : decode cX0_weave 7 = .ok (.getfield 16, 3) := by decide +kernel
theorem dX0_weave_10 : decode cX0_weave 10 = .ok (.iload_n 1, 1) := by decide +kernel
theorem dX0_weave_11 : decode cX0_weave 11 = .ok (.invokestatic 40, 3) := by decide +kernel
theorem dX0_weave_14 : decode cX0_weave 14 = .ok (.iconst 2, 1) := by decide +kernel
theorem dX0_weave_15 : decode cX0_weave 15 = .ok (.iadd, 1) := by decide +kernel
theorem dX0_weave_16 : decode cX0_weave 16 = .ok (.iload_n 3, 1) := by decide +kernel
theorem dX0_weave_17 : decode cX0_weave 17 = .ok (.iadd, 1) := by decide +kernel
theorem dX0_weave_18 : decode cX0_weave 18 = .ok (.iload_n 2, 1) := by decide +kernel
theorem dX0_weave_19 : decode cX0_weave 19 = .ok (.invokevirtual 24, 3) := by decide +kernel
theorem dX0_weave_22 : decode cX0_weave 22 = .ok (.aload_n 0, 1) := by decide +kernel
theorem dX0_weave_23 : decode cX0_weave 23 = .ok (.getfield 16, 3) := by decide +kernel
theorem dX0_weave_26 : decode cX0_weave 26 = .ok (.iload_n 1, 1) := by decide +kernel
theorem dX0_weave_27 : decode cX0_weave 27 = .ok (.invokestatic 40, 3) := by decide +kernel
theorem dX0_weave_30 : decode cX0_weave 30 = .ok (.iconst 1, 1) := by decide +kernel
theorem dX0_weave_31 : decode cX0_weave 31 = .ok (.iadd, 1) := by decide +kernel
theorem dX0_weave_32 : decode cX0_weave 32 = .ok (.iload_n 3, 1) := by decide +kernel
theorem dX0_weave_33 : decode cX0_weave 33 = .ok (.iconst 1, 1) := by decide +kernel
theorem dX0_weave_34 : decode cX0_weave 34 = .ok (.iadd, 1) := by decide +kernel
theorem dX0_weave_35 : decode cX0_weave 35 = .ok (.invokevirtual 24, 3) := by decide +kernel
theorem dX0_weave_38 : decode cX0_weave 38 = .ok (.return_, 1) := by decide +kernel
def fX0_weave_0 (x0 : Nat) (x1 : Int32) (x2 : Int32) (w : eW) : Option (eW) := eBind2 (fX0_length x0 x1 w) fun v2 w1 => (eGR w1 x0 0 1).bind fun v3 => eBind2 (fX0_placeOf x1 w1) fun v5 w4 => (fX7_put v3 ((v5 + (2 : Int32)) + v2) x2 w4).bind fun w6 => (eGR w6 x0 0 1).bind fun v7 => eBind2 (fX0_placeOf x1 w6) fun v9 w8 => (fX7_put v7 (v9 + (1 : Int32)) (v2 + (1 : Int32)) w8).bind fun w10 => some w10
set_option maxRecDepth 20000 in
theorem sX0_weave_0  (x0 : Nat) (x1 : Int32) (x2 : Int32) (w : eW) (r : eW) (h : fX0_weave_0 x0 x1 x2 w = some r) : eBN l D cI cZ 2 yX0_weave cX0_weave 4 none 0 [(0, .ref x0), (1, .int x1), (2, .int x2)] [] w none r := by
  rw [fX0_weave_0] at h
  intro p e s m args below meth c r0 A X
  refine ev_aload_n (pc := 0) X 0 dX0_weave_0 rfl rfl ?_
  refine ev_iload_n (pc := 1) X 1 dX0_weave_1 rfl rfl ?_
  obtain ⟨v2, w1, hc, h⟩ := eB2 h
  refine ev_callV_i (pc := 2) (As := [.int x1]) (S := []) X hwX0_length klX0_43 hiX0_length hsX0_length (ci := 0) ⟨rfl, rfl⟩ ⟨Nat.le_of_ble_eq_true rfl, Nat.le_of_ble_eq_true rfl⟩ ⟨Nat.le_refl _, Nat.le_refl _⟩ rfl (Nat.le_of_ble_eq_true rfl) dX0_weave_2 rfl (mX0_length (l := l) (D := D) (cI := cI) (cZ := cZ) hc).1 (mX0_length hc).2 ?_
  refine ev_istore_n (pc := 5) (L' := [(3, .int v2), (0, .ref x0), (1, .int x1), (2, .int x2)]) X dX0_weave_5 rfl (by decide) rfl ?_
  refine ev_aload_n (pc := 6) X 1 dX0_weave_6 rfl rfl ?_
  obtain ⟨v3, hv3, h⟩ := eBi h
  refine ev_getR (pc := 7) X hcX0 (k := 1) (by decide) kfX0_16 dX0_weave_7 hv3 ?_
  refine ev_iload_n (pc := 10) X 2 dX0_weave_10 rfl rfl ?_
  obtain ⟨v5, w4, hc, h⟩ := eB2 h
  refine ev_callS_i (pc := 11) (As := [.int x1]) (S := [.ref v3]) X hwX0_placeOf klX0_40 htX0_placeOf ⟨Nat.le_of_ble_eq_true rfl, Nat.le_of_ble_eq_true rfl⟩ ⟨Nat.le_refl _, Nat.le_refl _⟩ rfl (Nat.le_of_ble_eq_true rfl) dX0_weave_11 rfl (mX0_placeOf hc) ?_
  refine ev_iconst (pc := 14) (v := (2 : Int32)) X dX0_weave_14 rfl ?_
  refine ev_iadd (pc := 15) X dX0_weave_15 ?_
  refine ev_iload_n (pc := 16) X 0 dX0_weave_16 rfl rfl ?_
  refine ev_iadd (pc := 17) X dX0_weave_17 ?_
  refine ev_iload_n (pc := 18) X 3 dX0_weave_18 rfl rfl ?_
  obtain ⟨w6, hc, h⟩ := eBi h
  refine ev_callV_v (pc := 19) (As := [.int ((v5 + (2 : Int32)) + v2), .int x2]) (S := []) X hwX7_put klX0_24 hiX7_put hsX7_put (ci := 7) ⟨rfl, rfl⟩ ⟨Nat.le_of_ble_eq_true rfl, Nat.le_of_ble_eq_true rfl⟩ ⟨Nat.le_refl _, Nat.le_refl _⟩ rfl (Nat.le_of_ble_eq_true rfl) dX0_weave_19 rfl (mX7_put (l := l) (D := D) (cI := cI) (cZ := cZ) hc).1 (mX7_put hc).2 ?_
  refine ev_aload_n (pc := 22) X 1 dX0_weave_22 rfl rfl ?_
  obtain ⟨v7, hv7, h⟩ := eBi h
  refine ev_getR (pc := 23) X hcX0 (k := 1) (by decide) kfX0_16 dX0_weave_23 hv7 ?_
  refine ev_iload_n (pc := 26) X 2 dX0_weave_26 rfl rfl ?_
  obtain ⟨v9, w8, hc, h⟩ := eB2 h
  refine ev_callS_i (pc := 27) (As := [.int x1]) (S := [.ref v7]) X hwX0_placeOf klX0_40 htX0_placeOf ⟨Nat.le_of_ble_eq_true rfl, Nat.le_of_ble_eq_true rfl⟩ ⟨Nat.le_refl _, Nat.le_refl _⟩ rfl (Nat.le_of_ble_eq_true rfl) dX0_weave_27 rfl (mX0_placeOf hc) ?_
  refine ev_iconst (pc := 30) (v := (1 : Int32)) X dX0_weave_30 rfl ?_
  refine ev_iadd (pc := 31) X dX0_weave_31 ?_
  refine ev_iload_n (pc := 32) X 0 dX0_weave_32 rfl rfl ?_
  refine ev_iconst (pc := 33) (v := (1 : Int32)) X dX0_weave_33 rfl ?_
  refine ev_iadd (pc := 34) X dX0_weave_34 ?_
  obtain ⟨w10, hc, h⟩ := eBi h
  refine ev_callV_v (pc := 35) (As := [.int (v9 + (1 : Int32)), .int (v2 + (1 : Int32))]) (S := []) X hwX7_put klX0_24 hiX7_put hsX7_put (ci := 7) ⟨rfl, rfl⟩ ⟨Nat.le_of_ble_eq_true rfl, Nat.le_of_ble_eq_true rfl⟩ ⟨Nat.le_refl _, Nat.le_refl _⟩ rfl (Nat.le_of_ble_eq_true rfl) dX0_weave_35 rfl (mX7_put (l := l) (D := D) (cI := cI) (cZ := cZ) hc).1 (mX7_put hc).2 ?_
  obtain rfl := Option.some.inj h
  exact ev_vret (pc := 38) X dX0_weave_38
def fX0_weave (a0 : Nat) (a1 : Int32) (a2 : Int32) (w : eW) : Option (eW) := bif eO w a0 0 then fX0_weave_0 a0 a1 a2 w else none
theorem mX0_weave {a0 : Nat} {a1 : Int32} {a2 : Int32} {w : eW} {w' : eW} (h : fX0_weave a0 a1 a2 w = some w') : eO w a0 0 = true ∧ eMN l D cI cZ 2 yX0_weave cX0_weave 4 none [.ref a0, .int a1, .int a2] w none w' := by
  obtain ⟨h0, h⟩ := eBif h
  exact ⟨h0, eMN_of [(0, .ref a0), (1, .int a1), (2, .int a2)] (plainFor_of_name (by decide)) (fun _ => rfl) (fun _ => Nat.le_of_ble_eq_true rfl) (fun p e s m args below meth c r0 A X => ev_weak (pc := 0) [0, 1, 2] rfl (sX0_weave_0 _ _ _ _ _ h p e s m args below meth c r0 A X))⟩
theorem dX0_opposite_0 : decode cX0_opposite 0 = .ok (.iload_n 0, 1) := by decide +kernel
theorem dX0_opposite_1 : decode cX0_opposite 1 = .ok (.iconst 2, 1) := by decide +kernel
theorem dX0_opposite_2 : decode cX0_opposite 2 = .ok (.iadd, 1) := by decide +kernel
theorem dX0_opposite_3 : decode cX0_opposite 3 = .ok (.iconst 4, 1) := by decide +kernel
theorem dX0_opposite_4 : decode cX0_opposite 4 = .ok (.irem, 1) := by decide +kernel
theorem dX0_opposite_5 : decode cX0_opposite 5 = .ok (.ireturn, 1) := by decide +kernel
def fX0_opposite_0 (x0 : Int32) (w : eW) : Option (Int32 × eW) := if (4 : Int32) = 0 then none else some ((x0 + (2 : Int32)) - (x0 + (2 : Int32)) / (4 : Int32) * (4 : Int32), w)
set_option maxRecDepth 20000 in
theorem sX0_opposite_0  (x0 : Int32) (w : eW) (r : Int32 × eW) (h : fX0_opposite_0 x0 w = some r) : eBN l D cI cZ 0 yX0_opposite cX0_opposite 1 (some .int) 0 [(0, .int x0)] [] w (some (.int r.1)) r.2 := by
  rw [fX0_opposite_0] at h
  intro p e s m args below meth c r0 A X
  refine ev_iload_n (pc := 0) X 0 dX0_opposite_0 rfl rfl ?_
  refine ev_iconst (pc := 1) (v := (2 : Int32)) X dX0_opposite_1 rfl ?_
  refine ev_iadd (pc := 2) X dX0_opposite_2 ?_
  refine ev_iconst (pc := 3) (v := (4 : Int32)) X dX0_opposite_3 rfl ?_
  obtain ⟨hz, h⟩ := eNz h
  refine ev_irem (pc := 4) X dX0_opposite_4 hz ?_
  obtain rfl := Option.some.inj h
  exact ev_iret (pc := 5) X dX0_opposite_5
def fX0_opposite (a0 : Int32) (w : eW) : Option (Int32 × eW) := fX0_opposite_0 a0 w
theorem mX0_opposite {a0 : Int32} {w : eW} {v : Int32} {w' : eW} (h : fX0_opposite a0 w = some (v, w')) : eMN l D cI cZ 0 yX0_opposite cX0_opposite 1 (some .int) [.int a0] w (some (.int v)) w' :=
  eMN_of [(0, .int a0)] (plainFor_of_name (by decide)) (fun _ => rfl) (fun _ => Nat.le_of_ble_eq_true rfl) (fun p e s m args below meth c r0 A X => ev_weak (pc := 0) [0] rfl (sX0_opposite_0 _ _ _ h p e s m args below meth c r0 A X))
theorem dX0_turn_0 : decode cX0_turn 0 = .ok (.iload_n 1, 1) := by decide +kernel
theorem dX0_turn_1 : decode cX0_turn 1 = .ok (.invokestatic 40, 3) := by decide +kernel
theorem dX0_turn_4 : decode cX0_turn 4 = .ok (.iconst 2, 1) := by decide +kernel
theorem dX0_turn_5 : decode cX0_turn 5 = .ok (.iadd, 1) := by decide +kernel
theorem dX0_turn_6 : decode cX0_turn 6 = .ok (.istore_n 2, 1) := by decide +kernel
theorem dX0_turn_7 : decode cX0_turn 7 = .ok (.aload_n 0, 1) := by decide +kernel
theorem dX0_turn_8 : decode cX0_turn 8 = .ok (.getfield 16, 3) := by decide +kernel
theorem dX0_turn_11 : decode cX0_turn 11 = .ok (.iload_n 1, 1) := by decide +kernel
theorem dX0_turn_12 : decode cX0_turn 12 = .ok (.invokestatic 40, 3) := by decide +kernel
theorem dX0_turn_15 : decode cX0_turn 15 = .ok (.iconst 0, 1) := by decide +kernel
theorem dX0_turn_16 : decode cX0_turn 16 = .ok (.iadd, 1) := by decide +kernel
theorem dX0_turn_17 : decode cX0_turn 17 = .ok (.aload_n 0, 1) := by decide +kernel
theorem dX0_turn_18 : decode cX0_turn 18 = .ok (.iload_n 1, 1) := by decide +kernel
theorem dX0_turn_19 : decode cX0_turn 19 = .ok (.invokevirtual 64, 3) := by decide +kernel
theorem dX0_turn_22 : decode cX0_turn 22 = .ok (.invokevirtual 24, 3) := by decide +kernel
theorem dX0_turn_25 : decode cX0_turn 25 = .ok (.iconst 0, 1) := by decide +kernel
theorem dX0_turn_26 : decode cX0_turn 26 = .ok (.istore_n 3, 1) := by decide +kernel
theorem dX0_turn_27 : decode cX0_turn 27 = .ok (.aload_n 0, 1) := by decide +kernel
theorem dX0_turn_28 : decode cX0_turn 28 = .ok (.iload_n 1, 1) := by decide +kernel
theorem dX0_turn_29 : decode cX0_turn 29 = .ok (.invokevirtual 43, 3) := by decide +kernel
theorem dX0_turn_32 : decode cX0_turn 32 = .ok (.iconst 1, 1) := by decide +kernel
theorem dX0_turn_33 : decode cX0_turn 33 = .ok (.isub, 1) := by decide +kernel
theorem dX0_turn_34 : decode cX0_turn 34 = .ok (.istore 4, 2) := by decide +kernel
theorem dX0_turn_36 : decode cX0_turn 36 = .ok (.iload_n 3, 1) := by decide +kernel
theorem dX0_turn_37 : decode cX0_turn 37 = .ok (.iload 4, 2) := by decide +kernel
theorem dX0_turn_39 : decode cX0_turn 39 = .ok (.if_icmp .gt 68, 3) := by decide +kernel
theorem dX0_turn_42 : decode cX0_turn 42 = .ok (.aload_n 0, 1) := by decide +kernel
theorem dX0_turn_43 : decode cX0_turn 43 = .ok (.getfield 16, 3) := by decide +kernel
theorem dX0_turn_46 : decode cX0_turn 46 = .ok (.iload_n 2, 1) := by decide +kernel
theorem dX0_turn_47 : decode cX0_turn 47 = .ok (.iload_n 3, 1) := by decide +kernel
theorem dX0_turn_48 : decode cX0_turn 48 = .ok (.iadd, 1) := by decide +kernel
theorem dX0_turn_49 : decode cX0_turn 49 = .ok (.invokevirtual 32, 3) := by decide +kernel
theorem dX0_turn_52 : decode cX0_turn 52 = .ok (.istore 5, 2) := by decide +kernel
theorem dX0_turn_54 : decode cX0_turn 54 = .ok (.aload_n 0, 1) := by decide +kernel
theorem dX0_turn_55 : decode cX0_turn 55 = .ok (.getfield 16, 3) := by decide +kernel
theorem dX0_turn_58 : decode cX0_turn 58 = .ok (.iload_n 2, 1) := by decide +kernel
theorem dX0_turn_59 : decode cX0_turn 59 = .ok (.iload 4, 2) := by decide +kernel
theorem dX0_turn_61 : decode cX0_turn 61 = .ok (.iadd, 1) := by decide +kernel
theorem dX0_turn_62 : decode cX0_turn 62 = .ok (.invokevirtual 32, 3) := by decide +kernel
theorem dX0_turn_65 : decode cX0_turn 65 = .ok (.istore 6, 2) := by decide +kernel
theorem dX0_turn_67 : decode cX0_turn 67 = .ok (.aload_n 0, 1) := by decide +kernel
theorem dX0_turn_68 : decode cX0_turn 68 = .ok (.getfield 16, 3) := by decide +kernel
theorem dX0_turn_71 : decode cX0_turn 71 = .ok (.iload_n 2, 1) := by decide +kernel
theorem dX0_turn_72 : decode cX0_turn 72 = .ok (.iload_n 3, 1) := by decide +kernel
theorem dX0_turn_73 : decode cX0_turn 73 = .ok (.iadd, 1) := by decide +kernel
theorem dX0_turn_74 : decode cX0_turn 74 = .ok (.iload 6, 2) := by decide +kernel
theorem dX0_turn_76 : decode cX0_turn 76 = .ok (.invokestatic 67, 3) := by decide +kernel
theorem dX0_turn_79 : decode cX0_turn 79 = .ok (.invokevirtual 24, 3) := by decide +kernel
theorem dX0_turn_82 : decode cX0_turn 82 = .ok (.aload_n 0, 1) := by decide +kernel
theorem dX0_turn_83 : decode cX0_turn 83 = .ok (.getfield 16, 3) := by decide +kernel
theorem dX0_turn_86 : decode cX0_turn 86 = .ok (.iload_n 2, 1) := by decide +kernel
theorem dX0_turn_87 : decode cX0_turn 87 = .ok (.iload 4, 2) := by decide +kernel
theorem dX0_turn_89 : decode cX0_turn 89 = .ok (.iadd, 1) := by decide +kernel
theorem dX0_turn_90 : decode cX0_turn 90 = .ok (.iload 5, 2) := by decide +kernel
theorem dX0_turn_92 : decode cX0_turn 92 = .ok (.invokestatic 67, 3) := by decide +kernel
theorem dX0_turn_95 : decode cX0_turn 95 = .ok (.invokevirtual 24, 3) := by decide +kernel
theorem dX0_turn_98 : decode cX0_turn 98 = .ok (.iinc 3 1, 3) := by decide +kernel
theorem dX0_turn_101 : decode cX0_turn 101 = .ok (.iinc 4 (-1), 3) := by decide +kernel
theorem dX0_turn_104 : decode cX0_turn 104 = .ok (.goto (-68), 3) := by decide +kernel
theorem dX0_turn_107 : decode cX0_turn 107 = .ok (.return_, 1) := by decide +kernel
def fX0_turn_36 : Nat → Nat → Int32 → Int32 → Int32 → eW → Option (eW)
  | 0, _, _, _, _, _ => none
  | n + 1, x0, x2, x3, x4, w => if x4 < x3 then (some w) else ((eGR w x0 0 1).bind fun v1 => eBind2 (fX7_get v1 (x2 + x3) w) fun v3 w2 => (eGR w2 x0 0 1).bind fun v4 => eBind2 (fX7_get v4 (x2 + x4) w2) fun v6 w5 => (eGR w5 x0 0 1).bind fun v7 => eBind2 (fX0_opposite v6 w5) fun v9 w8 => (fX7_put v7 (x2 + x3) v9 w8).bind fun w10 => (eGR w10 x0 0 1).bind fun v11 => eBind2 (fX0_opposite v3 w10) fun v13 w12 => (fX7_put v11 (x2 + x4) v13 w12).bind fun w14 => fX0_turn_36 n x0 x2 (x3 + (1 : Int32)) (x4 + (-1 : Int32)) w14)
set_option maxRecDepth 20000 in
theorem sX0_turn_36  : ∀ (n : Nat) (x0 : Nat) (x2 : Int32) (x3 : Int32) (x4 : Int32) (w : eW) (r : eW), fX0_turn_36 n x0 x2 x3 x4 w = some r → eBN l D cI cZ 4 yX0_turn cX0_turn 7 none 36 [(0, .ref x0), (2, .int x2), (3, .int x3), (4, .int x4)] [] w none r := by
  intro n
  induction n with
  | zero => intro x0 x2 x3 x4 w r h; exact absurd (show (none : Option (eW)) = some r from h) (by simp)
  | succ n ih =>
    intro x0 x2 x3 x4 w r h
    rw [fX0_turn_36] at h
    intro p e s m args below meth c r0 A X
    refine ev_iload_n (pc := 36) X 2 dX0_turn_36 rfl rfl ?_
    refine ev_iload (pc := 37) X 3 dX0_turn_37 rfl ?_
    refine ev_icmp_gt (pc := 39) X 107 dX0_turn_39 rfl (fun hc => ?_) (fun hc => ?_)
    · rw [if_pos hc] at h
      obtain rfl := Option.some.inj h
      exact ev_vret (pc := 107) X dX0_turn_107
    · rw [if_neg hc] at h
      refine ev_aload_n (pc := 42) X 0 dX0_turn_42 rfl rfl ?_
      obtain ⟨v1, hv1, h⟩ := eBi h
      refine ev_getR (pc := 43) X hcX0 (k := 1) (by decide) kfX0_16 dX0_turn_43 hv1 ?_
      refine ev_iload_n (pc := 46) X 1 dX0_turn_46 rfl rfl ?_
      refine ev_iload_n (pc := 47) X 2 dX0_turn_47 rfl rfl ?_
      refine ev_iadd (pc := 48) X dX0_turn_48 ?_
      obtain ⟨v3, w2, hc, h⟩ := eB2 h
      refine ev_callV_i (pc := 49) (As := [.int (x2 + x3)]) (S := []) X hwX7_get klX0_32 hiX7_get hsX7_get (ci := 7) ⟨rfl, rfl⟩ ⟨Nat.le_of_ble_eq_true rfl, Nat.le_of_ble_eq_true rfl⟩ ⟨Nat.le_refl _, Nat.le_refl _⟩ rfl (Nat.le_of_ble_eq_true rfl) dX0_turn_49 rfl (mX7_get (l := l) (D := D) (cI := cI) (cZ := cZ) hc).1 (mX7_get hc).2 ?_
      refine ev_istore (pc := 52) (L' := [(5, .int v3), (0, .ref x0), (2, .int x2), (3, .int x3), (4, .int x4)]) X dX0_turn_52 (by decide) rfl ?_
      refine ev_aload_n (pc := 54) X 1 dX0_turn_54 rfl rfl ?_
      obtain ⟨v4, hv4, h⟩ := eBi h
      refine ev_getR (pc := 55) X hcX0 (k := 1) (by decide) kfX0_16 dX0_turn_55 hv4 ?_
      refine ev_iload_n (pc := 58) X 2 dX0_turn_58 rfl rfl ?_
      refine ev_iload (pc := 59) X 4 dX0_turn_59 rfl ?_
      refine ev_iadd (pc := 61) X dX0_turn_61 ?_
      obtain ⟨v6, w5, hc, h⟩ := eB2 h
      refine ev_callV_i (pc := 62) (As := [.int (x2 + x4)]) (S := []) X hwX7_get klX0_32 hiX7_get hsX7_get (ci := 7) ⟨rfl, rfl⟩ ⟨Nat.le_of_ble_eq_true rfl, Nat.le_of_ble_eq_true rfl⟩ ⟨Nat.le_refl _, Nat.le_refl _⟩ rfl (Nat.le_of_ble_eq_true rfl) dX0_turn_62 rfl (mX7_get (l := l) (D := D) (cI := cI) (cZ := cZ) hc).1 (mX7_get hc).2 ?_
      refine ev_istore (pc := 65) (L' := [(6, .int v6), (5, .int v3), (0, .ref x0), (2, .int x2), (3, .int x3), (4, .int x4)]) X dX0_turn_65 (by decide) rfl ?_
      refine ev_aload_n (pc := 67) X 2 dX0_turn_67 rfl rfl ?_
      obtain ⟨v7, hv7, h⟩ := eBi h
      refine ev_getR (pc := 68) X hcX0 (k := 1) (by decide) kfX0_16 dX0_turn_68 hv7 ?_
      refine ev_iload_n (pc := 71) X 3 dX0_turn_71 rfl rfl ?_
      refine ev_iload_n (pc := 72) X 4 dX0_turn_72 rfl rfl ?_
      refine ev_iadd (pc := 73) X dX0_turn_73 ?_
      refine ev_iload (pc := 74) X 0 dX0_turn_74 rfl ?_
      obtain ⟨v9, w8, hc, h⟩ := eB2 h
      refine ev_callS_i (pc := 76) (As := [.int v6]) (S := [.int (x2 + x3), .ref v7]) X hwX0_opposite klX0_67 htX0_opposite ⟨Nat.le_of_ble_eq_true rfl, Nat.le_of_ble_eq_true rfl⟩ ⟨Nat.le_refl _, Nat.le_refl _⟩ rfl (Nat.le_of_ble_eq_true rfl) dX0_turn_76 rfl (mX0_opposite hc) ?_
      obtain ⟨w10, hc, h⟩ := eBi h
      refine ev_callV_v (pc := 79) (As := [.int (x2 + x3), .int v9]) (S := []) X hwX7_put klX0_24 hiX7_put hsX7_put (ci := 7) ⟨rfl, rfl⟩ ⟨Nat.le_of_ble_eq_true rfl, Nat.le_of_ble_eq_true rfl⟩ ⟨Nat.le_refl _, Nat.le_refl _⟩ rfl (Nat.le_of_ble_eq_true rfl) dX0_turn_79 rfl (mX7_put (l := l) (D := D) (cI := cI) (cZ := cZ) hc).1 (mX7_put hc).2 ?_
      refine ev_aload_n (pc := 82) X 2 dX0_turn_82 rfl rfl ?_
      obtain ⟨v11, hv11, h⟩ := eBi h
      refine ev_getR (pc := 83) X hcX0 (k := 1) (by decide) kfX0_16 dX0_turn_83 hv11 ?_
      refine ev_iload_n (pc := 86) X 3 dX0_turn_86 rfl rfl ?_
      refine ev_iload (pc := 87) X 5 dX0_turn_87 rfl ?_
      refine ev_iadd (pc := 89) X dX0_turn_89 ?_
      refine ev_iload (pc := 90) X 1 dX0_turn_90 rfl ?_
      obtain ⟨v13, w12, hc, h⟩ := eB2 h
      refine ev_callS_i (pc := 92) (As := [.int v3]) (S := [.int (x2 + x4), .ref v11]) X hwX0_opposite klX0_67 htX0_opposite ⟨Nat.le_of_ble_eq_true rfl, Nat.le_of_ble_eq_true rfl⟩ ⟨Nat.le_refl _, Nat.le_refl _⟩ rfl (Nat.le_of_ble_eq_true rfl) dX0_turn_92 rfl (mX0_opposite hc) ?_
      obtain ⟨w14, hc, h⟩ := eBi h
      refine ev_callV_v (pc := 95) (As := [.int (x2 + x4), .int v13]) (S := []) X hwX7_put klX0_24 hiX7_put hsX7_put (ci := 7) ⟨rfl, rfl⟩ ⟨Nat.le_of_ble_eq_true rfl, Nat.le_of_ble_eq_true rfl⟩ ⟨Nat.le_refl _, Nat.le_refl _⟩ rfl (Nat.le_of_ble_eq_true rfl) dX0_turn_95 rfl (mX7_put (l := l) (D := D) (cI := cI) (cZ := cZ) hc).1 (mX7_put hc).2 ?_
      refine ev_iinc (pc := 98) (v := x3 + (1 : Int32)) (L' := [(3, .int (x3 + (1 : Int32))), (6, .int v6), (5, .int v3), (0, .ref x0), (2, .int x2), (4, .int x4)]) X 4 dX0_turn_98 rfl rfl (by decide) rfl ?_
      refine ev_iinc (pc := 101) (v := x4 + (-1 : Int32)) (L' := [(4, .int (x4 + (-1 : Int32))), (3, .int (x3 + (1 : Int32))), (6, .int v6), (5, .int v3), (0, .ref x0), (2, .int x2)]) X 5 dX0_turn_101 rfl rfl (by decide) rfl ?_
      refine ev_goto (pc := 104) X 36 dX0_turn_104 rfl ?_
      exact ev_weak (pc := 36) [4, 5, 1, 0] rfl (ih _ _ _ _ _ _ h p e s m args below meth c r0 A X)
def fX0_turn_0 (x0 : Nat) (x1 : Int32) (w : eW) : Option (eW) := eBind2 (fX0_placeOf x1 w) fun v2 w1 => (eGR w1 x0 0 1).bind fun v3 => eBind2 (fX0_placeOf x1 w1) fun v5 w4 => eBind2 (fX0_lastCell x0 x1 w4) fun v7 w6 => (fX7_put v3 (v5 + (0 : Int32)) v7 w6).bind fun w8 => eBind2 (fX0_length x0 x1 w8) fun v10 w9 => fX0_turn_36 eN x0 (v2 + (2 : Int32)) (0 : Int32) (v10 - (1 : Int32)) w9
set_option maxRecDepth 20000 in
theorem sX0_turn_0  (x0 : Nat) (x1 : Int32) (w : eW) (r : eW) (h : fX0_turn_0 x0 x1 w = some r) : eBN l D cI cZ 4 yX0_turn cX0_turn 7 none 0 [(0, .ref x0), (1, .int x1)] [] w none r := by
  rw [fX0_turn_0] at h
  intro p e s m args below meth c r0 A X
  refine ev_iload_n (pc := 0) X 1 dX0_turn_0 rfl rfl ?_
  obtain ⟨v2, w1, hc, h⟩ := eB2 h
  refine ev_callS_i (pc := 1) (As := [.int x1]) (S := []) X hwX0_placeOf klX0_40 htX0_placeOf ⟨Nat.le_of_ble_eq_true rfl, Nat.le_of_ble_eq_true rfl⟩ ⟨Nat.le_refl _, Nat.le_refl _⟩ rfl (Nat.le_of_ble_eq_true rfl) dX0_turn_1 rfl (mX0_placeOf hc) ?_
  refine ev_iconst (pc := 4) (v := (2 : Int32)) X dX0_turn_4 rfl ?_
  refine ev_iadd (pc := 5) X dX0_turn_5 ?_
  refine ev_istore_n (pc := 6) (L' := [(2, .int (v2 + (2 : Int32))), (0, .ref x0), (1, .int x1)]) X dX0_turn_6 rfl (by decide) rfl ?_
  refine ev_aload_n (pc := 7) X 1 dX0_turn_7 rfl rfl ?_
  obtain ⟨v3, hv3, h⟩ := eBi h
  refine ev_getR (pc := 8) X hcX0 (k := 1) (by decide) kfX0_16 dX0_turn_8 hv3 ?_
  refine ev_iload_n (pc := 11) X 2 dX0_turn_11 rfl rfl ?_
  obtain ⟨v5, w4, hc, h⟩ := eB2 h
  refine ev_callS_i (pc := 12) (As := [.int x1]) (S := [.ref v3]) X hwX0_placeOf klX0_40 htX0_placeOf ⟨Nat.le_of_ble_eq_true rfl, Nat.le_of_ble_eq_true rfl⟩ ⟨Nat.le_refl _, Nat.le_refl _⟩ rfl (Nat.le_of_ble_eq_true rfl) dX0_turn_12 rfl (mX0_placeOf hc) ?_
  refine ev_iconst (pc := 15) (v := (0 : Int32)) X dX0_turn_15 rfl ?_
  refine ev_iadd (pc := 16) X dX0_turn_16 ?_
  refine ev_aload_n (pc := 17) X 1 dX0_turn_17 rfl rfl ?_
  refine ev_iload_n (pc := 18) X 2 dX0_turn_18 rfl rfl ?_
  obtain ⟨v7, w6, hc, h⟩ := eB2 h
  refine ev_callV_i (pc := 19) (As := [.int x1]) (S := [.int (v5 + (0 : Int32)), .ref v3]) X hwX0_lastCell klX0_64 hiX0_lastCell hsX0_lastCell (ci := 0) ⟨rfl, rfl⟩ ⟨Nat.le_of_ble_eq_true rfl, Nat.le_of_ble_eq_true rfl⟩ ⟨Nat.le_refl _, Nat.le_refl _⟩ rfl (Nat.le_of_ble_eq_true rfl) dX0_turn_19 rfl (mX0_lastCell (l := l) (D := D) (cI := cI) (cZ := cZ) hc).1 (mX0_lastCell hc).2 ?_
  obtain ⟨w8, hc, h⟩ := eBi h
  refine ev_callV_v (pc := 22) (As := [.int (v5 + (0 : Int32)), .int v7]) (S := []) X hwX7_put klX0_24 hiX7_put hsX7_put (ci := 7) ⟨rfl, rfl⟩ ⟨Nat.le_of_ble_eq_true rfl, Nat.le_of_ble_eq_true rfl⟩ ⟨Nat.le_refl _, Nat.le_refl _⟩ rfl (Nat.le_of_ble_eq_true rfl) dX0_turn_22 rfl (mX7_put (l := l) (D := D) (cI := cI) (cZ := cZ) hc).1 (mX7_put hc).2 ?_
  refine ev_iconst (pc := 25) (v := (0 : Int32)) X dX0_turn_25 rfl ?_
  refine ev_istore_n (pc := 26) (L' := [(3, .int (0 : Int32)), (2, .int (v2 + (2 : Int32))), (0, .ref x0), (1, .int x1)]) X dX0_turn_26 rfl (by decide) rfl ?_
  refine ev_aload_n (pc := 27) X 2 dX0_turn_27 rfl rfl ?_
  refine ev_iload_n (pc := 28) X 3 dX0_turn_28 rfl rfl ?_
  obtain ⟨v10, w9, hc, h⟩ := eB2 h
  refine ev_callV_i (pc := 29) (As := [.int x1]) (S := []) X hwX0_length klX0_43 hiX0_length hsX0_length (ci := 0) ⟨rfl, rfl⟩ ⟨Nat.le_of_ble_eq_true rfl, Nat.le_of_ble_eq_true rfl⟩ ⟨Nat.le_refl _, Nat.le_refl _⟩ rfl (Nat.le_of_ble_eq_true rfl) dX0_turn_29 rfl (mX0_length (l := l) (D := D) (cI := cI) (cZ := cZ) hc).1 (mX0_length hc).2 ?_
  refine ev_iconst (pc := 32) (v := (1 : Int32)) X dX0_turn_32 rfl ?_
  refine ev_isub (pc := 33) X dX0_turn_33 ?_
  refine ev_istore (pc := 34) (L' := [(4, .int (v10 - (1 : Int32))), (3, .int (0 : Int32)), (2, .int (v2 + (2 : Int32))), (0, .ref x0), (1, .int x1)]) X dX0_turn_34 (by decide) rfl ?_
  exact ev_weak (pc := 36) [3, 2, 1, 0] rfl (sX0_turn_36 eN _ _ _ _ _ _ h p e s m args below meth c r0 A X)
def fX0_turn (a0 : Nat) (a1 : Int32) (w : eW) : Option (eW) := bif eO w a0 0 then fX0_turn_0 a0 a1 w else none
theorem mX0_turn {a0 : Nat} {a1 : Int32} {w : eW} {w' : eW} (h : fX0_turn a0 a1 w = some w') : eO w a0 0 = true ∧ eMN l D cI cZ 4 yX0_turn cX0_turn 7 none [.ref a0, .int a1] w none w' := by
  obtain ⟨h0, h⟩ := eBif h
  exact ⟨h0, eMN_of [(0, .ref a0), (1, .int a1)] (plainFor_of_name (by decide)) (fun _ => rfl) (fun _ => Nat.le_of_ble_eq_true rfl) (fun p e s m args below meth c r0 A X => ev_weak (pc := 0) [0, 1] rfl (sX0_turn_0 _ _ _ _ h p e s m args below meth c r0 A X))⟩
theorem dX0_fray_0 : decode cX0_fray 0 = .ok (.iconst 0, 1) := by decide +kernel
theorem dX0_fray_1 : decode cX0_fray 1 = .ok (.istore_n 1, 1) := by decide +kernel
theorem dX0_fray_2 : decode cX0_fray 2 = .ok (.iconst 0, 1) := by decide +kernel
theorem dX0_fray_3 : decode cX0_fray 3 = .ok (.istore_n 2, 1) := by decide +kernel
theorem dX0_fray_4 : decode cX0_fray 4 = .ok (.iload_n 2, 1) := by decide +kernel
theorem dX0_fray_5 : decode cX0_fray 5 = .ok (.aload_n 0, 1) := by decide +kernel
theorem dX0_fray_6 : decode cX0_fray 6 = .ok (.invokevirtual 36, 3) := by decide +kernel
theorem dX0_fray_9 : decode cX0_fray 9 = .ok (.if_icmp .ge 54, 3) := by decide +kernel
theorem dX0_fray_12 : decode cX0_fray 12 = .ok (.aload_n 0, 1) := by decide +kernel
theorem dX0_fray_13 : decode cX0_fray 13 = .ok (.iload_n 2, 1) := by decide +kernel
theorem dX0_fray_14 : decode cX0_fray 14 = .ok (.invokevirtual 43, 3) := by decide +kernel
theorem dX0_fray_17 : decode cX0_fray 17 = .ok (.istore_n 3, 1) := by decide +kernel
theorem dX0_fray_18 : decode cX0_fray 18 = .ok (.iload_n 3, 1) := by decide +kernel
theorem dX0_fray_19 : decode cX0_fray 19 = .ok (.ifCond .le 38, 3) := by decide +kernel
theorem dX0_fray_22 : decode cX0_fray 22 = .ok (.aload_n 0, 1) := by decide +kernel
theorem dX0_fray_23 : decode cX0_fray 23 = .ok (.getfield 20, 3) := by decide +kernel
theorem dX0_fray_26 : decode cX0_fray 26 = .ok (.aload_n 0, 1) := by decide +kernel
theorem dX0_fray_27 : decode cX0_fray 27 = .ok (.iload_n 2, 1) := by decide +kernel
theorem dX0_fray_28 : decode cX0_fray 28 = .ok (.iload_n 3, 1) := by decide +kernel
theorem dX0_fray_29 : decode cX0_fray 29 = .ok (.invokevirtual 46, 3) := by decide +kernel
theorem dX0_fray_32 : decode cX0_fray 32 = .ok (.invokevirtual 70, 3) := by decide +kernel
theorem dX0_fray_35 : decode cX0_fray 35 = .ok (.ifCond .ne 22, 3) := by decide +kernel
theorem dX0_fray_38 : decode cX0_fray 38 = .ok (.aload_n 0, 1) := by decide +kernel
theorem dX0_fray_39 : decode cX0_fray 39 = .ok (.getfield 16, 3) := by decide +kernel
theorem dX0_fray_42 : decode cX0_fray 42 = .ok (.iload_n 2, 1) := by decide +kernel
theorem dX0_fray_43 : decode cX0_fray 43 = .ok (.invokestatic 40, 3) := by decide +kernel
theorem dX0_fray_46 : decode cX0_fray 46 = .ok (.iconst 1, 1) := by decide +kernel
theorem dX0_fray_47 : decode cX0_fray 47 = .ok (.iadd, 1) := by decide +kernel
theorem dX0_fray_48 : decode cX0_fray 48 = .ok (.iload_n 3, 1) := by decide +kernel
theorem dX0_fray_49 : decode cX0_fray 49 = .ok (.iconst 1, 1) := by decide +kernel
theorem dX0_fray_50 : decode cX0_fray 50 = .ok (.isub, 1) := by decide +kernel
theorem dX0_fray_51 : decode cX0_fray 51 = .ok (.invokevirtual 24, 3) := by decide +kernel
theorem dX0_fray_54 : decode cX0_fray 54 = .ok (.iinc 1 1, 3) := by decide +kernel
theorem dX0_fray_57 : decode cX0_fray 57 = .ok (.iinc 2 1, 3) := by decide +kernel
theorem dX0_fray_60 : decode cX0_fray 60 = .ok (.goto (-56), 3) := by decide +kernel
theorem dX0_fray_63 : decode cX0_fray 63 = .ok (.iload_n 1, 1) := by decide +kernel
theorem dX0_fray_64 : decode cX0_fray 64 = .ok (.ireturn, 1) := by decide +kernel
def fX0_fray_57 (K4 : Nat → Int32 → Int32 → eW → Option (Int32 × eW)) (x0 : Nat) (x1 : Int32) (x2 : Int32) (w : eW) : Option (Int32 × eW) := K4 x0 x1 (x2 + (1 : Int32)) w
set_option maxRecDepth 20000 in
theorem sX0_fray_57 {K4 : Nat → Int32 → Int32 → eW → Option (Int32 × eW)} (hK4 : ∀ (x0 : Nat) (x1 : Int32) (x2 : Int32) (w : eW) (r : Int32 × eW), K4 x0 x1 x2 w = some r → eBN l D cI cZ 3 yX0_fray cX0_fray 4 (some .int) 4 [(0, .ref x0), (1, .int x1), (2, .int x2)] [] w (some (.int r.1)) r.2) (x0 : Nat) (x1 : Int32) (x2 : Int32) (w : eW) (r : Int32 × eW) (h : fX0_fray_57 K4 x0 x1 x2 w = some r) : eBN l D cI cZ 3 yX0_fray cX0_fray 4 (some .int) 57 [(0, .ref x0), (1, .int x1), (2, .int x2)] [] w (some (.int r.1)) r.2 := by
  rw [fX0_fray_57] at h
  intro p e s m args below meth c r0 A X
  refine ev_iinc (pc := 57) (v := x2 + (1 : Int32)) (L' := [(2, .int (x2 + (1 : Int32))), (0, .ref x0), (1, .int x1)]) X 2 dX0_fray_57 rfl rfl (by decide) rfl ?_
  refine ev_goto (pc := 60) X 4 dX0_fray_60 rfl ?_
  exact ev_weak (pc := 4) [1, 2, 0] rfl (hK4 _ _ _ _ _ h p e s m args below meth c r0 A X)
def fX0_fray_4 : Nat → Nat → Int32 → Int32 → eW → Option (Int32 × eW)
  | 0, _, _, _, _ => none
  | n + 1, x0, x1, x2, w => eBind2 (fX0_size x0 w) fun v2 w1 => if v2 ≤ x2 then (some (x1, w1)) else (eBind2 (fX0_length x0 x2 w1) fun v4 w3 => if v4 ≤ 0 then (fX0_fray_57 (fX0_fray_4 n) x0 x1 x2 w3) else ((eGR w3 x0 0 0).bind fun v5 => eBind2 (fX0_cellBehind x0 x2 v4 w3) fun v7 w6 => eBind2 (fX1_isTown v5 v7 w6) fun v9 w8 => if v9 = 0 then ((eGR w8 x0 0 1).bind fun v10 => eBind2 (fX0_placeOf x2 w8) fun v12 w11 => (fX7_put v10 (v12 + (1 : Int32)) (v4 - (1 : Int32)) w11).bind fun w13 => fX0_fray_57 (fX0_fray_4 n) x0 (x1 + (1 : Int32)) x2 w13) else (fX0_fray_57 (fX0_fray_4 n) x0 x1 x2 w8)))
set_option maxRecDepth 20000 in
theorem sX0_fray_4  : ∀ (n : Nat) (x0 : Nat) (x1 : Int32) (x2 : Int32) (w : eW) (r : Int32 × eW), fX0_fray_4 n x0 x1 x2 w = some r → eBN l D cI cZ 3 yX0_fray cX0_fray 4 (some .int) 4 [(0, .ref x0), (1, .int x1), (2, .int x2)] [] w (some (.int r.1)) r.2 := by
  intro n
  induction n with
  | zero => intro x0 x1 x2 w r h; exact absurd (show (none : Option (Int32 × eW)) = some r from h) (by simp)
  | succ n ih =>
    intro x0 x1 x2 w r h
    rw [fX0_fray_4] at h
    intro p e s m args below meth c r0 A X
    refine ev_iload_n (pc := 4) X 2 dX0_fray_4 rfl rfl ?_
    refine ev_aload_n (pc := 5) X 0 dX0_fray_5 rfl rfl ?_
    obtain ⟨v2, w1, hc, h⟩ := eB2 h
    refine ev_callV_i (pc := 6) (As := []) (S := [.int x2]) X hwX0_size klX0_36 hiX0_size hsX0_size (ci := 0) ⟨rfl, rfl⟩ ⟨Nat.le_of_ble_eq_true rfl, Nat.le_of_ble_eq_true rfl⟩ ⟨Nat.le_refl _, Nat.le_refl _⟩ rfl (Nat.le_of_ble_eq_true rfl) dX0_fray_6 rfl (mX0_size (l := l) (D := D) (cI := cI) (cZ := cZ) hc).1 (mX0_size hc).2 ?_
    refine ev_icmp_ge (pc := 9) X 63 dX0_fray_9 rfl (fun hc => ?_) (fun hc => ?_)
    · rw [if_pos hc] at h
      refine ev_iload_n (pc := 63) X 1 dX0_fray_63 rfl rfl ?_
      obtain rfl := Option.some.inj h
      exact ev_iret (pc := 64) X dX0_fray_64
    · rw [if_neg hc] at h
      refine ev_aload_n (pc := 12) X 0 dX0_fray_12 rfl rfl ?_
      refine ev_iload_n (pc := 13) X 2 dX0_fray_13 rfl rfl ?_
      obtain ⟨v4, w3, hc, h⟩ := eB2 h
      refine ev_callV_i (pc := 14) (As := [.int x2]) (S := []) X hwX0_length klX0_43 hiX0_length hsX0_length (ci := 0) ⟨rfl, rfl⟩ ⟨Nat.le_of_ble_eq_true rfl, Nat.le_of_ble_eq_true rfl⟩ ⟨Nat.le_refl _, Nat.le_refl _⟩ rfl (Nat.le_of_ble_eq_true rfl) dX0_fray_14 rfl (mX0_length (l := l) (D := D) (cI := cI) (cZ := cZ) hc).1 (mX0_length hc).2 ?_
      refine ev_istore_n (pc := 17) (L' := [(3, .int v4), (0, .ref x0), (1, .int x1), (2, .int x2)]) X dX0_fray_17 rfl (by decide) rfl ?_
      refine ev_iload_n (pc := 18) X 0 dX0_fray_18 rfl rfl ?_
      refine ev_if_le (pc := 19) X 57 dX0_fray_19 rfl (fun hc => ?_) (fun hc => ?_)
      · rw [if_pos hc] at h
        exact ev_weak (pc := 57) [1, 2, 3] rfl (sX0_fray_57 (fun _ _ _ w r hh => ih _ _ _ w r hh) _ _ _ _ _ h p e s m args below meth c r0 A X)
      · rw [if_neg hc] at h
        refine ev_aload_n (pc := 22) X 1 dX0_fray_22 rfl rfl ?_
        obtain ⟨v5, hv5, h⟩ := eBi h
        refine ev_getR (pc := 23) X hcX0 (k := 0) (by decide) kfX0_20 dX0_fray_23 hv5 ?_
        refine ev_aload_n (pc := 26) X 1 dX0_fray_26 rfl rfl ?_
        refine ev_iload_n (pc := 27) X 3 dX0_fray_27 rfl rfl ?_
        refine ev_iload_n (pc := 28) X 0 dX0_fray_28 rfl rfl ?_
        obtain ⟨v7, w6, hc, h⟩ := eB2 h
        refine ev_callV_i (pc := 29) (As := [.int x2, .int v4]) (S := [.ref v5]) X hwX0_cellBehind klX0_46 hiX0_cellBehind hsX0_cellBehind (ci := 0) ⟨rfl, rfl⟩ ⟨Nat.le_of_ble_eq_true rfl, Nat.le_of_ble_eq_true rfl⟩ ⟨Nat.le_refl _, Nat.le_refl _⟩ rfl (Nat.le_of_ble_eq_true rfl) dX0_fray_29 rfl (mX0_cellBehind (l := l) (D := D) (cI := cI) (cZ := cZ) hc).1 (mX0_cellBehind hc).2 ?_
        obtain ⟨v9, w8, hc, h⟩ := eB2 h
        refine ev_callV_i (pc := 32) (As := [.int v7]) (S := []) X hwX1_isTown klX0_70 hiX1_isTown hsX1_isTown (ci := 1) ⟨rfl, rfl⟩ ⟨Nat.le_of_ble_eq_true rfl, Nat.le_of_ble_eq_true rfl⟩ ⟨Nat.le_refl _, Nat.le_refl _⟩ rfl (Nat.le_of_ble_eq_true rfl) dX0_fray_32 rfl (mX1_isTown (l := l) (D := D) (cI := cI) (cZ := cZ) hc).1 (mX1_isTown hc).2 ?_
        refine ev_if_ne (pc := 35) X 57 dX0_fray_35 rfl (fun hc => ?_) (fun hc => ?_)
        · rw [if_neg hc] at h
          exact ev_weak (pc := 57) [1, 2, 3] rfl (sX0_fray_57 (fun _ _ _ w r hh => ih _ _ _ w r hh) _ _ _ _ _ h p e s m args below meth c r0 A X)
        · rw [if_pos hc] at h
          refine ev_aload_n (pc := 38) X 1 dX0_fray_38 rfl rfl ?_
          obtain ⟨v10, hv10, h⟩ := eBi h
          refine ev_getR (pc := 39) X hcX0 (k := 1) (by decide) kfX0_16 dX0_fray_39 hv10 ?_
          refine ev_iload_n (pc := 42) X 3 dX0_fray_42 rfl rfl ?_
          obtain ⟨v12, w11, hc, h⟩ := eB2 h
          refine ev_callS_i (pc := 43) (As := [.int x2]) (S := [.ref v10]) X hwX0_placeOf klX0_40 htX0_placeOf ⟨Nat.le_of_ble_eq_true rfl, Nat.le_of_ble_eq_true rfl⟩ ⟨Nat.le_refl _, Nat.le_refl _⟩ rfl (Nat.le_of_ble_eq_true rfl) dX0_fray_43 rfl (mX0_placeOf hc) ?_
          refine ev_iconst (pc := 46) (v := (1 : Int32)) X dX0_fray_46 rfl ?_
          refine ev_iadd (pc := 47) X dX0_fray_47 ?_
          refine ev_iload_n (pc := 48) X 0 dX0_fray_48 rfl rfl ?_
          refine ev_iconst (pc := 49) (v := (1 : Int32)) X dX0_fray_49 rfl ?_
          refine ev_isub (pc := 50) X dX0_fray_50 ?_
          obtain ⟨w13, hc, h⟩ := eBi h
          refine ev_callV_v (pc := 51) (As := [.int (v12 + (1 : Int32)), .int (v4 - (1 : Int32))]) (S := []) X hwX7_put klX0_24 hiX7_put hsX7_put (ci := 7) ⟨rfl, rfl⟩ ⟨Nat.le_of_ble_eq_true rfl, Nat.le_of_ble_eq_true rfl⟩ ⟨Nat.le_refl _, Nat.le_refl _⟩ rfl (Nat.le_of_ble_eq_true rfl) dX0_fray_51 rfl (mX7_put (l := l) (D := D) (cI := cI) (cZ := cZ) hc).1 (mX7_put hc).2 ?_
          refine ev_iinc (pc := 54) (v := x1 + (1 : Int32)) (L' := [(1, .int (x1 + (1 : Int32))), (3, .int v4), (0, .ref x0), (2, .int x2)]) X 2 dX0_fray_54 rfl rfl (by decide) rfl ?_
          exact ev_weak (pc := 57) [2, 0, 3] rfl (sX0_fray_57 (fun _ _ _ w r hh => ih _ _ _ w r hh) _ _ _ _ _ h p e s m args below meth c r0 A X)
def fX0_fray_0 (x0 : Nat) (w : eW) : Option (Int32 × eW) := fX0_fray_4 eN x0 (0 : Int32) (0 : Int32) w
set_option maxRecDepth 20000 in
theorem sX0_fray_0  (x0 : Nat) (w : eW) (r : Int32 × eW) (h : fX0_fray_0 x0 w = some r) : eBN l D cI cZ 3 yX0_fray cX0_fray 4 (some .int) 0 [(0, .ref x0)] [] w (some (.int r.1)) r.2 := by
  rw [fX0_fray_0] at h
  intro p e s m args below meth c r0 A X
  refine ev_iconst (pc := 0) (v := (0 : Int32)) X dX0_fray_0 rfl ?_
  refine ev_istore_n (pc := 1) (L' := [(1, .int (0 : Int32)), (0, .ref x0)]) X dX0_fray_1 rfl (by decide) rfl ?_
  refine ev_iconst (pc := 2) (v := (0 : Int32)) X dX0_fray_2 rfl ?_
  refine ev_istore_n (pc := 3) (L' := [(2, .int (0 : Int32)), (1, .int (0 : Int32)), (0, .ref x0)]) X dX0_fray_3 rfl (by decide) rfl ?_
  exact ev_weak (pc := 4) [2, 1, 0] rfl (sX0_fray_4 eN _ _ _ _ _ h p e s m args below meth c r0 A X)
def fX0_fray (a0 : Nat) (w : eW) : Option (Int32 × eW) := bif eO w a0 0 then fX0_fray_0 a0 w else none
theorem mX0_fray {a0 : Nat} {w : eW} {v : Int32} {w' : eW} (h : fX0_fray a0 w = some (v, w')) : eO w a0 0 = true ∧ eMN l D cI cZ 3 yX0_fray cX0_fray 4 (some .int) [.ref a0] w (some (.int v)) w' := by
  obtain ⟨h0, h⟩ := eBif h
  exact ⟨h0, eMN_of [(0, .ref a0)] (plainFor_of_name (by decide)) (fun _ => rfl) (fun _ => Nat.le_of_ble_eq_true rfl) (fun p e s m args below meth c r0 A X => ev_weak (pc := 0) [0] rfl (sX0_fray_0 _ _ _ h p e s m args below meth c r0 A X))⟩
theorem dX0_ells_0 : decode cX0_ells 0 = .ok (.iconst 0, 1) := by decide +kernel
theorem dX0_ells_1 : decode cX0_ells 1 = .ok (.istore_n 1, 1) := by decide +kernel
theorem dX0_ells_2 : decode cX0_ells 2 = .ok (.iconst 0, 1) := by decide +kernel
theorem dX0_ells_3 : decode cX0_ells 3 = .ok (.istore_n 2, 1) := by decide +kernel
theorem dX0_ells_4 : decode cX0_ells 4 = .ok (.iload_n 2, 1) := by decide +kernel
theorem dX0_ells_5 : decode cX0_ells 5 = .ok (.aload_n 0, 1) := by decide +kernel
theorem dX0_ells_6 : decode cX0_ells 6 = .ok (.invokevirtual 36, 3) := by decide +kernel
theorem dX0_ells_9 : decode cX0_ells 9 = .ok (.if_icmp .ge 17, 3) := by decide +kernel
theorem dX0_ells_12 : decode cX0_ells 12 = .ok (.iload_n 1, 1) := by decide +kernel
theorem dX0_ells_13 : decode cX0_ells 13 = .ok (.aload_n 0, 1) := by decide +kernel
theorem dX0_ells_14 : decode cX0_ells 14 = .ok (.iload_n 2, 1) := by decide +kernel
theorem dX0_ells_15 : decode cX0_ells 15 = .ok (.invokevirtual 43, 3) := by decide +kernel
theorem dX0_ells_18 : decode cX0_ells 18 = .ok (.iadd, 1) := by decide +kernel
theorem dX0_ells_19 : decode cX0_ells 19 = .ok (.istore_n 1, 1) := by decide +kernel
theorem dX0_ells_20 : decode cX0_ells 20 = .ok (.iinc 2 1, 3) := by decide +kernel
theorem dX0_ells_23 : decode cX0_ells 23 = .ok (.goto (-19), 3) := by decide +kernel
theorem dX0_ells_26 : decode cX0_ells 26 = .ok (.iload_n 1, 1) := by decide +kernel
theorem dX0_ells_27 : decode cX0_ells 27 = .ok (.ireturn, 1) := by decide +kernel
def fX0_ells_4 : Nat → Nat → Int32 → Int32 → eW → Option (Int32 × eW)
  | 0, _, _, _, _ => none
  | n + 1, x0, x1, x2, w => eBind2 (fX0_size x0 w) fun v2 w1 => if v2 ≤ x2 then (some (x1, w1)) else (eBind2 (fX0_length x0 x2 w1) fun v4 w3 => fX0_ells_4 n x0 (x1 + v4) (x2 + (1 : Int32)) w3)
set_option maxRecDepth 20000 in
theorem sX0_ells_4  : ∀ (n : Nat) (x0 : Nat) (x1 : Int32) (x2 : Int32) (w : eW) (r : Int32 × eW), fX0_ells_4 n x0 x1 x2 w = some r → eBN l D cI cZ 2 yX0_ells cX0_ells 3 (some .int) 4 [(0, .ref x0), (1, .int x1), (2, .int x2)] [] w (some (.int r.1)) r.2 := by
  intro n
  induction n with
  | zero => intro x0 x1 x2 w r h; exact absurd (show (none : Option (Int32 × eW)) = some r from h) (by simp)
  | succ n ih =>
    intro x0 x1 x2 w r h
    rw [fX0_ells_4] at h
    intro p e s m args below meth c r0 A X
    refine ev_iload_n (pc := 4) X 2 dX0_ells_4 rfl rfl ?_
    refine ev_aload_n (pc := 5) X 0 dX0_ells_5 rfl rfl ?_
    obtain ⟨v2, w1, hc, h⟩ := eB2 h
    refine ev_callV_i (pc := 6) (As := []) (S := [.int x2]) X hwX0_size klX0_36 hiX0_size hsX0_size (ci := 0) ⟨rfl, rfl⟩ ⟨Nat.le_of_ble_eq_true rfl, Nat.le_of_ble_eq_true rfl⟩ ⟨Nat.le_refl _, Nat.le_refl _⟩ rfl (Nat.le_of_ble_eq_true rfl) dX0_ells_6 rfl (mX0_size (l := l) (D := D) (cI := cI) (cZ := cZ) hc).1 (mX0_size hc).2 ?_
    refine ev_icmp_ge (pc := 9) X 26 dX0_ells_9 rfl (fun hc => ?_) (fun hc => ?_)
    · rw [if_pos hc] at h
      refine ev_iload_n (pc := 26) X 1 dX0_ells_26 rfl rfl ?_
      obtain rfl := Option.some.inj h
      exact ev_iret (pc := 27) X dX0_ells_27
    · rw [if_neg hc] at h
      refine ev_iload_n (pc := 12) X 1 dX0_ells_12 rfl rfl ?_
      refine ev_aload_n (pc := 13) X 0 dX0_ells_13 rfl rfl ?_
      refine ev_iload_n (pc := 14) X 2 dX0_ells_14 rfl rfl ?_
      obtain ⟨v4, w3, hc, h⟩ := eB2 h
      refine ev_callV_i (pc := 15) (As := [.int x2]) (S := [.int x1]) X hwX0_length klX0_43 hiX0_length hsX0_length (ci := 0) ⟨rfl, rfl⟩ ⟨Nat.le_of_ble_eq_true rfl, Nat.le_of_ble_eq_true rfl⟩ ⟨Nat.le_refl _, Nat.le_refl _⟩ rfl (Nat.le_of_ble_eq_true rfl) dX0_ells_15 rfl (mX0_length (l := l) (D := D) (cI := cI) (cZ := cZ) hc).1 (mX0_length hc).2 ?_
      refine ev_iadd (pc := 18) X dX0_ells_18 ?_
      refine ev_istore_n (pc := 19) (L' := [(1, .int (x1 + v4)), (0, .ref x0), (2, .int x2)]) X dX0_ells_19 rfl (by decide) rfl ?_
      refine ev_iinc (pc := 20) (v := x2 + (1 : Int32)) (L' := [(2, .int (x2 + (1 : Int32))), (1, .int (x1 + v4)), (0, .ref x0)]) X 2 dX0_ells_20 rfl rfl (by decide) rfl ?_
      refine ev_goto (pc := 23) X 4 dX0_ells_23 rfl ?_
      exact ev_weak (pc := 4) [2, 1, 0] rfl (ih _ _ _ _ _ h p e s m args below meth c r0 A X)
def fX0_ells_0 (x0 : Nat) (w : eW) : Option (Int32 × eW) := fX0_ells_4 eN x0 (0 : Int32) (0 : Int32) w
set_option maxRecDepth 20000 in
theorem sX0_ells_0  (x0 : Nat) (w : eW) (r : Int32 × eW) (h : fX0_ells_0 x0 w = some r) : eBN l D cI cZ 2 yX0_ells cX0_ells 3 (some .int) 0 [(0, .ref x0)] [] w (some (.int r.1)) r.2 := by
  rw [fX0_ells_0] at h
  intro p e s m args below meth c r0 A X
  refine ev_iconst (pc := 0) (v := (0 : Int32)) X dX0_ells_0 rfl ?_
  refine ev_istore_n (pc := 1) (L' := [(1, .int (0 : Int32)), (0, .ref x0)]) X dX0_ells_1 rfl (by decide) rfl ?_
  refine ev_iconst (pc := 2) (v := (0 : Int32)) X dX0_ells_2 rfl ?_
  refine ev_istore_n (pc := 3) (L' := [(2, .int (0 : Int32)), (1, .int (0 : Int32)), (0, .ref x0)]) X dX0_ells_3 rfl (by decide) rfl ?_
  exact ev_weak (pc := 4) [2, 1, 0] rfl (sX0_ells_4 eN _ _ _ _ _ h p e s m args below meth c r0 A X)
def fX0_ells (a0 : Nat) (w : eW) : Option (Int32 × eW) := bif eO w a0 0 then fX0_ells_0 a0 w else none
theorem mX0_ells {a0 : Nat} {w : eW} {v : Int32} {w' : eW} (h : fX0_ells a0 w = some (v, w')) : eO w a0 0 = true ∧ eMN l D cI cZ 2 yX0_ells cX0_ells 3 (some .int) [.ref a0] w (some (.int v)) w' := by
  obtain ⟨h0, h⟩ := eBif h
  exact ⟨h0, eMN_of [(0, .ref a0)] (plainFor_of_name (by decide)) (fun _ => rfl) (fun _ => Nat.le_of_ble_eq_true rfl) (fun p e s m args below meth c r0 A X => ev_weak (pc := 0) [0] rfl (sX0_ells_0 _ _ _ h p e s m args below meth c r0 A X))⟩
theorem dX0_climb_0 : decode cX0_climb 0 = .ok (.iconst 0, 1) := by decide +kernel
theorem dX0_climb_1 : decode cX0_climb 1 = .ok (.istore_n 2, 1) := by decide +kernel
theorem dX0_climb_2 : decode cX0_climb 2 = .ok (.aload_n 0, 1) := by decide +kernel
theorem dX0_climb_3 : decode cX0_climb 3 = .ok (.iload_n 1, 1) := by decide +kernel
theorem dX0_climb_4 : decode cX0_climb 4 = .ok (.invokevirtual 50, 3) := by decide +kernel
theorem dX0_climb_7 : decode cX0_climb 7 = .ok (.istore_n 3, 1) := by decide +kernel
theorem dX0_climb_8 : decode cX0_climb 8 = .ok (.iconst 0, 1) := by decide +kernel
theorem dX0_climb_9 : decode cX0_climb 9 = .ok (.istore 4, 2) := by decide +kernel
theorem dX0_climb_11 : decode cX0_climb 11 = .ok (.iload 4, 2) := by decide +kernel
theorem dX0_climb_13 : decode cX0_climb 13 = .ok (.aload_n 0, 1) := by decide +kernel
theorem dX0_climb_14 : decode cX0_climb 14 = .ok (.iload_n 1, 1) := by decide +kernel
theorem dX0_climb_15 : decode cX0_climb 15 = .ok (.invokevirtual 43, 3) := by decide +kernel
theorem dX0_climb_18 : decode cX0_climb 18 = .ok (.if_icmp .ge 46, 3) := by decide +kernel
theorem dX0_climb_21 : decode cX0_climb 21 = .ok (.aload_n 0, 1) := by decide +kernel
theorem dX0_climb_22 : decode cX0_climb 22 = .ok (.getfield 20, 3) := by decide +kernel
theorem dX0_climb_25 : decode cX0_climb 25 = .ok (.iload_n 3, 1) := by decide +kernel
theorem dX0_climb_26 : decode cX0_climb 26 = .ok (.aload_n 0, 1) := by decide +kernel
theorem dX0_climb_27 : decode cX0_climb 27 = .ok (.iload_n 1, 1) := by decide +kernel
theorem dX0_climb_28 : decode cX0_climb 28 = .ok (.iload 4, 2) := by decide +kernel
theorem dX0_climb_30 : decode cX0_climb 30 = .ok (.invokevirtual 53, 3) := by decide +kernel
theorem dX0_climb_33 : decode cX0_climb 33 = .ok (.invokevirtual 56, 3) := by decide +kernel
theorem dX0_climb_36 : decode cX0_climb 36 = .ok (.istore 5, 2) := by decide +kernel
theorem dX0_climb_38 : decode cX0_climb 38 = .ok (.iload_n 2, 1) := by decide +kernel
theorem dX0_climb_39 : decode cX0_climb 39 = .ok (.aload_n 0, 1) := by decide +kernel
theorem dX0_climb_40 : decode cX0_climb 40 = .ok (.getfield 20, 3) := by decide +kernel
theorem dX0_climb_43 : decode cX0_climb 43 = .ok (.iload_n 3, 1) := by decide +kernel
theorem dX0_climb_44 : decode cX0_climb 44 = .ok (.iload 5, 2) := by decide +kernel
theorem dX0_climb_46 : decode cX0_climb 46 = .ok (.invokevirtual 74, 3) := by decide +kernel
theorem dX0_climb_49 : decode cX0_climb 49 = .ok (.iconst 0, 1) := by decide +kernel
theorem dX0_climb_50 : decode cX0_climb 50 = .ok (.invokestatic 77, 3) := by decide +kernel
theorem dX0_climb_53 : decode cX0_climb 53 = .ok (.iadd, 1) := by decide +kernel
theorem dX0_climb_54 : decode cX0_climb 54 = .ok (.istore_n 2, 1) := by decide +kernel
theorem dX0_climb_55 : decode cX0_climb 55 = .ok (.iload 5, 2) := by decide +kernel
theorem dX0_climb_57 : decode cX0_climb 57 = .ok (.istore_n 3, 1) := by decide +kernel
theorem dX0_climb_58 : decode cX0_climb 58 = .ok (.iinc 4 1, 3) := by decide +kernel
theorem dX0_climb_61 : decode cX0_climb 61 = .ok (.goto (-50), 3) := by decide +kernel
theorem dX0_climb_64 : decode cX0_climb 64 = .ok (.iload_n 2, 1) := by decide +kernel
theorem dX0_climb_65 : decode cX0_climb 65 = .ok (.ireturn, 1) := by decide +kernel
def fX0_climb_11 : Nat → Nat → Int32 → Int32 → Int32 → Int32 → eW → Option (Int32 × eW)
  | 0, _, _, _, _, _, _ => none
  | n + 1, x0, x1, x2, x3, x4, w => eBind2 (fX0_length x0 x1 w) fun v2 w1 => if v2 ≤ x4 then (some (x2, w1)) else ((eGR w1 x0 0 0).bind fun v3 => eBind2 (fX0_cardAt x0 x1 x4 w1) fun v5 w4 => eBind2 (fX1_neighbour v3 x3 v5 w4) fun v7 w6 => (eGR w6 x0 0 0).bind fun v8 => eBind2 (fX1_step v8 x3 v7 w6) fun v10 w9 => eBind2 (fJ9_max_7cf53 v10 (0 : Int32) w9) fun v12 w11 => fX0_climb_11 n x0 x1 (x2 + v12) v7 (x4 + (1 : Int32)) w11)
set_option maxRecDepth 20000 in
theorem sX0_climb_11  : ∀ (n : Nat) (x0 : Nat) (x1 : Int32) (x2 : Int32) (x3 : Int32) (x4 : Int32) (w : eW) (r : Int32 × eW), fX0_climb_11 n x0 x1 x2 x3 x4 w = some r → eBN l D cI cZ 2 yX0_climb cX0_climb 6 (some .int) 11 [(0, .ref x0), (1, .int x1), (2, .int x2), (3, .int x3), (4, .int x4)] [] w (some (.int r.1)) r.2 := by
  intro n
  induction n with
  | zero => intro x0 x1 x2 x3 x4 w r h; exact absurd (show (none : Option (Int32 × eW)) = some r from h) (by simp)
  | succ n ih =>
    intro x0 x1 x2 x3 x4 w r h
    rw [fX0_climb_11] at h
    intro p e s m args below meth c r0 A X
    refine ev_iload (pc := 11) X 4 dX0_climb_11 rfl ?_
    refine ev_aload_n (pc := 13) X 0 dX0_climb_13 rfl rfl ?_
    refine ev_iload_n (pc := 14) X 1 dX0_climb_14 rfl rfl ?_
    obtain ⟨v2, w1, hc, h⟩ := eB2 h
    refine ev_callV_i (pc := 15) (As := [.int x1]) (S := [.int x4]) X hwX0_length klX0_43 hiX0_length hsX0_length (ci := 0) ⟨rfl, rfl⟩ ⟨Nat.le_of_ble_eq_true rfl, Nat.le_of_ble_eq_true rfl⟩ ⟨Nat.le_refl _, Nat.le_refl _⟩ rfl (Nat.le_of_ble_eq_true rfl) dX0_climb_15 rfl (mX0_length (l := l) (D := D) (cI := cI) (cZ := cZ) hc).1 (mX0_length hc).2 ?_
    refine ev_icmp_ge (pc := 18) X 64 dX0_climb_18 rfl (fun hc => ?_) (fun hc => ?_)
    · rw [if_pos hc] at h
      refine ev_iload_n (pc := 64) X 2 dX0_climb_64 rfl rfl ?_
      obtain rfl := Option.some.inj h
      exact ev_iret (pc := 65) X dX0_climb_65
    · rw [if_neg hc] at h
      refine ev_aload_n (pc := 21) X 0 dX0_climb_21 rfl rfl ?_
      obtain ⟨v3, hv3, h⟩ := eBi h
      refine ev_getR (pc := 22) X hcX0 (k := 0) (by decide) kfX0_20 dX0_climb_22 hv3 ?_
      refine ev_iload_n (pc := 25) X 3 dX0_climb_25 rfl rfl ?_
      refine ev_aload_n (pc := 26) X 0 dX0_climb_26 rfl rfl ?_
      refine ev_iload_n (pc := 27) X 1 dX0_climb_27 rfl rfl ?_
      refine ev_iload (pc := 28) X 4 dX0_climb_28 rfl ?_
      obtain ⟨v5, w4, hc, h⟩ := eB2 h
      refine ev_callV_i (pc := 30) (As := [.int x1, .int x4]) (S := [.int x3, .ref v3]) X hwX0_cardAt klX0_53 hiX0_cardAt hsX0_cardAt (ci := 0) ⟨rfl, rfl⟩ ⟨Nat.le_of_ble_eq_true rfl, Nat.le_of_ble_eq_true rfl⟩ ⟨Nat.le_refl _, Nat.le_refl _⟩ rfl (Nat.le_of_ble_eq_true rfl) dX0_climb_30 rfl (mX0_cardAt (l := l) (D := D) (cI := cI) (cZ := cZ) hc).1 (mX0_cardAt hc).2 ?_
      obtain ⟨v7, w6, hc, h⟩ := eB2 h
      refine ev_callV_i (pc := 33) (As := [.int x3, .int v5]) (S := []) X hwX1_neighbour klX0_56 hiX1_neighbour hsX1_neighbour (ci := 1) ⟨rfl, rfl⟩ ⟨Nat.le_of_ble_eq_true rfl, Nat.le_of_ble_eq_true rfl⟩ ⟨Nat.le_refl _, Nat.le_refl _⟩ rfl (Nat.le_of_ble_eq_true rfl) dX0_climb_33 rfl (mX1_neighbour (l := l) (D := D) (cI := cI) (cZ := cZ) hc).1 (mX1_neighbour hc).2 ?_
      refine ev_istore (pc := 36) (L' := [(5, .int v7), (0, .ref x0), (1, .int x1), (2, .int x2), (3, .int x3), (4, .int x4)]) X dX0_climb_36 (by decide) rfl ?_
      refine ev_iload_n (pc := 38) X 3 dX0_climb_38 rfl rfl ?_
      refine ev_aload_n (pc := 39) X 1 dX0_climb_39 rfl rfl ?_
      obtain ⟨v8, hv8, h⟩ := eBi h
      refine ev_getR (pc := 40) X hcX0 (k := 0) (by decide) kfX0_20 dX0_climb_40 hv8 ?_
      refine ev_iload_n (pc := 43) X 4 dX0_climb_43 rfl rfl ?_
      refine ev_iload (pc := 44) X 0 dX0_climb_44 rfl ?_
      obtain ⟨v10, w9, hc, h⟩ := eB2 h
      refine ev_callV_i (pc := 46) (As := [.int x3, .int v7]) (S := [.int x2]) X hwX1_step klX0_74 hiX1_step hsX1_step (ci := 1) ⟨rfl, rfl⟩ ⟨Nat.le_of_ble_eq_true rfl, Nat.le_of_ble_eq_true rfl⟩ ⟨Nat.le_refl _, Nat.le_refl _⟩ rfl (Nat.le_of_ble_eq_true rfl) dX0_climb_46 rfl (mX1_step (l := l) (D := D) (cI := cI) (cZ := cZ) hc).1 (mX1_step hc).2 ?_
      refine ev_iconst (pc := 49) (v := (0 : Int32)) X dX0_climb_49 rfl ?_
      obtain ⟨v12, w11, hc, h⟩ := eB2 h
      refine ev_callS_i (pc := 50) (As := [.int v10, .int (0 : Int32)]) (S := [.int x2]) X hwJ9_max_7cf53 klX0_77 htJ9_max_7cf53 ⟨Nat.le_of_ble_eq_true rfl, Nat.le_of_ble_eq_true rfl⟩ ⟨Nat.le_refl _, Nat.le_refl _⟩ rfl (Nat.le_of_ble_eq_true rfl) dX0_climb_50 rfl (mJ9_max_7cf53 hc) ?_
      refine ev_iadd (pc := 53) X dX0_climb_53 ?_
      refine ev_istore_n (pc := 54) (L' := [(2, .int (x2 + v12)), (5, .int v7), (0, .ref x0), (1, .int x1), (3, .int x3), (4, .int x4)]) X dX0_climb_54 rfl (by decide) rfl ?_
      refine ev_iload (pc := 55) X 1 dX0_climb_55 rfl ?_
      refine ev_istore_n (pc := 57) (L' := [(3, .int v7), (2, .int (x2 + v12)), (5, .int v7), (0, .ref x0), (1, .int x1), (4, .int x4)]) X dX0_climb_57 rfl (by decide) rfl ?_
      refine ev_iinc (pc := 58) (v := x4 + (1 : Int32)) (L' := [(4, .int (x4 + (1 : Int32))), (3, .int v7), (2, .int (x2 + v12)), (5, .int v7), (0, .ref x0), (1, .int x1)]) X 5 dX0_climb_58 rfl rfl (by decide) rfl ?_
      refine ev_goto (pc := 61) X 11 dX0_climb_61 rfl ?_
      exact ev_weak (pc := 11) [4, 5, 2, 1, 0] rfl (ih _ _ _ _ _ _ _ h p e s m args below meth c r0 A X)
def fX0_climb_0 (x0 : Nat) (x1 : Int32) (w : eW) : Option (Int32 × eW) := eBind2 (fX0_firstCell x0 x1 w) fun v2 w1 => fX0_climb_11 eN x0 x1 (0 : Int32) v2 (0 : Int32) w1
set_option maxRecDepth 20000 in
theorem sX0_climb_0  (x0 : Nat) (x1 : Int32) (w : eW) (r : Int32 × eW) (h : fX0_climb_0 x0 x1 w = some r) : eBN l D cI cZ 2 yX0_climb cX0_climb 6 (some .int) 0 [(0, .ref x0), (1, .int x1)] [] w (some (.int r.1)) r.2 := by
  rw [fX0_climb_0] at h
  intro p e s m args below meth c r0 A X
  refine ev_iconst (pc := 0) (v := (0 : Int32)) X dX0_climb_0 rfl ?_
  refine ev_istore_n (pc := 1) (L' := [(2, .int (0 : Int32)), (0, .ref x0), (1, .int x1)]) X dX0_climb_1 rfl (by decide) rfl ?_
  refine ev_aload_n (pc := 2) X 1 dX0_climb_2 rfl rfl ?_
  refine ev_iload_n (pc := 3) X 2 dX0_climb_3 rfl rfl ?_
  obtain ⟨v2, w1, hc, h⟩ := eB2 h
  refine ev_callV_i (pc := 4) (As := [.int x1]) (S := []) X hwX0_firstCell klX0_50 hiX0_firstCell hsX0_firstCell (ci := 0) ⟨rfl, rfl⟩ ⟨Nat.le_of_ble_eq_true rfl, Nat.le_of_ble_eq_true rfl⟩ ⟨Nat.le_refl _, Nat.le_refl _⟩ rfl (Nat.le_of_ble_eq_true rfl) dX0_climb_4 rfl (mX0_firstCell (l := l) (D := D) (cI := cI) (cZ := cZ) hc).1 (mX0_firstCell hc).2 ?_
  refine ev_istore_n (pc := 7) (L' := [(3, .int v2), (2, .int (0 : Int32)), (0, .ref x0), (1, .int x1)]) X dX0_climb_7 rfl (by decide) rfl ?_
  refine ev_iconst (pc := 8) (v := (0 : Int32)) X dX0_climb_8 rfl ?_
  refine ev_istore (pc := 9) (L' := [(4, .int (0 : Int32)), (3, .int v2), (2, .int (0 : Int32)), (0, .ref x0), (1, .int x1)]) X dX0_climb_9 (by decide) rfl ?_
  exact ev_weak (pc := 11) [3, 4, 2, 1, 0] rfl (sX0_climb_11 eN _ _ _ _ _ _ _ h p e s m args below meth c r0 A X)
def fX0_climb (a0 : Nat) (a1 : Int32) (w : eW) : Option (Int32 × eW) := bif eO w a0 0 then fX0_climb_0 a0 a1 w else none
theorem mX0_climb {a0 : Nat} {a1 : Int32} {w : eW} {v : Int32} {w' : eW} (h : fX0_climb a0 a1 w = some (v, w')) : eO w a0 0 = true ∧ eMN l D cI cZ 2 yX0_climb cX0_climb 6 (some .int) [.ref a0, .int a1] w (some (.int v)) w' := by
  obtain ⟨h0, h⟩ := eBif h
  exact ⟨h0, eMN_of [(0, .ref a0), (1, .int a1)] (plainFor_of_name (by decide)) (fun _ => rfl) (fun _ => Nat.le_of_ble_eq_true rfl) (fun p e s m args below meth c r0 A X => ev_weak (pc := 0) [0, 1] rfl (sX0_climb_0 _ _ _ _ h p e s m args below meth c r0 A X))⟩
theorem dX0_touchesTown_0 : decode cX0_touchesTown 0 = .ok (.aload_n 0, 1) := by decide +kernel
theorem dX0_touchesTown_1 : decode cX0_touchesTown 1 = .ok (.iload_n 1, 1) := by decide +kernel
theorem dX0_touchesTown_2 : decode cX0_touchesTown 2 = .ok (.invokevirtual 50, 3) := by decide +kernel
theorem dX0_touchesTown_5 : decode cX0_touchesTown 5 = .ok (.istore_n 2, 1) := by decide +kernel
theorem dX0_touchesTown_6 : decode cX0_touchesTown 6 = .ok (.aload_n 0, 1) := by decide +kernel
theorem dX0_touchesTown_7 : decode cX0_touchesTown 7 = .ok (.getfield 20, 3) := by decide +kernel
theorem dX0_touchesTown_10 : decode cX0_touchesTown 10 = .ok (.iload_n 2, 1) := by decide +kernel
theorem dX0_touchesTown_11 : decode cX0_touchesTown 11 = .ok (.invokevirtual 70, 3) := by decide +kernel
theorem dX0_touchesTown_14 : decode cX0_touchesTown 14 = .ok (.istore_n 3, 1) := by decide +kernel
theorem dX0_touchesTown_15 : decode cX0_touchesTown 15 = .ok (.iconst 0, 1) := by decide +kernel
theorem dX0_touchesTown_16 : decode cX0_touchesTown 16 = .ok (.istore 4, 2) := by decide +kernel
theorem dX0_touchesTown_18 : decode cX0_touchesTown 18 = .ok (.iload 4, 2) := by decide +kernel
theorem dX0_touchesTown_20 : decode cX0_touchesTown 20 = .ok (.aload_n 0, 1) := by decide +kernel
theorem dX0_touchesTown_21 : decode cX0_touchesTown 21 = .ok (.iload_n 1, 1) := by decide +kernel
theorem dX0_touchesTown_22 : decode cX0_touchesTown 22 = .ok (.invokevirtual 43, 3) := by decide +kernel
theorem dX0_touchesTown_25 : decode cX0_touchesTown 25 = .ok (.if_icmp .ge 38, 3) := by decide +kernel
theorem dX0_touchesTown_28 : decode cX0_touchesTown 28 = .ok (.iload_n 3, 1) := by decide +kernel
theorem dX0_touchesTown_29 : decode cX0_touchesTown 29 = .ok (.ifCond .ne 34, 3) := by decide +kernel
theorem dX0_touchesTown_32 : decode cX0_touchesTown 32 = .ok (.aload_n 0, 1) := by decide +kernel
theorem dX0_touchesTown_33 : decode cX0_touchesTown 33 = .ok (.getfield 20, 3) := by decide +kernel
theorem dX0_touchesTown_36 : decode cX0_touchesTown 36 = .ok (.iload_n 2, 1) := by decide +kernel
theorem dX0_touchesTown_37 : decode cX0_touchesTown 37 = .ok (.aload_n 0, 1) := by decide +kernel
theorem dX0_touchesTown_38 : decode cX0_touchesTown 38 = .ok (.iload_n 1, 1) := by decide +kernel
theorem dX0_touchesTown_39 : decode cX0_touchesTown 39 = .ok (.iload 4, 2) := by decide +kernel
theorem dX0_touchesTown_41 : decode cX0_touchesTown 41 = .ok (.invokevirtual 53, 3) := by decide +kernel
theorem dX0_touchesTown_44 : decode cX0_touchesTown 44 = .ok (.invokevirtual 56, 3) := by decide +kernel
theorem dX0_touchesTown_47 : decode cX0_touchesTown 47 = .ok (.istore_n 2, 1) := by decide +kernel
theorem dX0_touchesTown_48 : decode cX0_touchesTown 48 = .ok (.aload_n 0, 1) := by decide +kernel
theorem dX0_touchesTown_49 : decode cX0_touchesTown 49 = .ok (.getfield 20, 3) := by decide +kernel
theorem dX0_touchesTown_52 : decode cX0_touchesTown 52 = .ok (.iload_n 2, 1) := by decide +kernel
theorem dX0_touchesTown_53 : decode cX0_touchesTown 53 = .ok (.invokevirtual 70, 3) := by decide +kernel
theorem dX0_touchesTown_56 : decode cX0_touchesTown 56 = .ok (.istore_n 3, 1) := by decide +kernel
theorem dX0_touchesTown_57 : decode cX0_touchesTown 57 = .ok (.iinc 4 1, 3) := by decide +kernel
theorem dX0_touchesTown_60 : decode cX0_touchesTown 60 = .ok (.goto (-42), 3) := by decide +kernel
theorem dX0_touchesTown_63 : decode cX0_touchesTown 63 = .ok (.iload_n 3, 1) := by decide +kernel
theorem dX0_touchesTown_64 : decode cX0_touchesTown 64 = .ok (.ireturn, 1) := by decide +kernel
def fX0_touchesTown_18 : Nat → Nat → Int32 → Int32 → Int32 → Int32 → eW → Option (Int32 × eW)
  | 0, _, _, _, _, _, _ => none
  | n + 1, x0, x1, x2, x3, x4, w => eBind2 (fX0_length x0 x1 w) fun v2 w1 => if v2 ≤ x4 then ((eZ x3).bind fun v3 => some (v3, w1)) else (if x3 = 0 then ((eGR w1 x0 0 0).bind fun v5 => eBind2 (fX0_cardAt x0 x1 x4 w1) fun v7 w6 => eBind2 (fX1_neighbour v5 x2 v7 w6) fun v9 w8 => (eGR w8 x0 0 0).bind fun v10 => eBind2 (fX1_isTown v10 v9 w8) fun v12 w11 => fX0_touchesTown_18 n x0 x1 v9 v12 (x4 + (1 : Int32)) w11) else ((eZ x3).bind fun v4 => some (v4, w1)))
set_option maxRecDepth 20000 in
theorem sX0_touchesTown_18  : ∀ (n : Nat) (x0 : Nat) (x1 : Int32) (x2 : Int32) (x3 : Int32) (x4 : Int32) (w : eW) (r : Int32 × eW), fX0_touchesTown_18 n x0 x1 x2 x3 x4 w = some r → eBN l D cI cZ 3 yX0_touchesTown cX0_touchesTown 5 (some .boolean) 18 [(0, .ref x0), (1, .int x1), (2, .int x2), (3, .int x3), (4, .int x4)] [] w (some (.int r.1)) r.2 := by
  intro n
  induction n with
  | zero => intro x0 x1 x2 x3 x4 w r h; exact absurd (show (none : Option (Int32 × eW)) = some r from h) (by simp)
  | succ n ih =>
    intro x0 x1 x2 x3 x4 w r h
    rw [fX0_touchesTown_18] at h
    intro p e s m args below meth c r0 A X
    refine ev_iload (pc := 18) X 4 dX0_touchesTown_18 rfl ?_
    refine ev_aload_n (pc := 20) X 0 dX0_touchesTown_20 rfl rfl ?_
    refine ev_iload_n (pc := 21) X 1 dX0_touchesTown_21 rfl rfl ?_
    obtain ⟨v2, w1, hc, h⟩ := eB2 h
    refine ev_callV_i (pc := 22) (As := [.int x1]) (S := [.int x4]) X hwX0_length klX0_43 hiX0_length hsX0_length (ci := 0) ⟨rfl, rfl⟩ ⟨Nat.le_of_ble_eq_true rfl, Nat.le_of_ble_eq_true rfl⟩ ⟨Nat.le_refl _, Nat.le_refl _⟩ rfl (Nat.le_of_ble_eq_true rfl) dX0_touchesTown_22 rfl (mX0_length (l := l) (D := D) (cI := cI) (cZ := cZ) hc).1 (mX0_length hc).2 ?_
    refine ev_icmp_ge (pc := 25) X 63 dX0_touchesTown_25 rfl (fun hc => ?_) (fun hc => ?_)
    · rw [if_pos hc] at h
      refine ev_iload_n (pc := 63) X 3 dX0_touchesTown_63 rfl rfl ?_
      obtain ⟨v3, hv3, h⟩ := eBi h
      obtain rfl := Option.some.inj h
      exact ev_zret (pc := 64) X dX0_touchesTown_64 hv3
    · rw [if_neg hc] at h
      refine ev_iload_n (pc := 28) X 3 dX0_touchesTown_28 rfl rfl ?_
      refine ev_if_ne (pc := 29) X 63 dX0_touchesTown_29 rfl (fun hc => ?_) (fun hc => ?_)
      · rw [if_neg hc] at h
        refine ev_iload_n (pc := 63) X 3 dX0_touchesTown_63 rfl rfl ?_
        obtain ⟨v4, hv4, h⟩ := eBi h
        obtain rfl := Option.some.inj h
        exact ev_zret (pc := 64) X dX0_touchesTown_64 hv4
      · rw [if_pos hc] at h
        refine ev_aload_n (pc := 32) X 0 dX0_touchesTown_32 rfl rfl ?_
        obtain ⟨v5, hv5, h⟩ := eBi h
        refine ev_getR (pc := 33) X hcX0 (k := 0) (by decide) kfX0_20 dX0_touchesTown_33 hv5 ?_
        refine ev_iload_n (pc := 36) X 2 dX0_touchesTown_36 rfl rfl ?_
        refine ev_aload_n (pc := 37) X 0 dX0_touchesTown_37 rfl rfl ?_
        refine ev_iload_n (pc := 38) X 1 dX0_touchesTown_38 rfl rfl ?_
        refine ev_iload (pc := 39) X 4 dX0_touchesTown_39 rfl ?_
        obtain ⟨v7, w6, hc, h⟩ := eB2 h
        refine ev_callV_i (pc := 41) (As := [.int x1, .int x4]) (S := [.int x2, .ref v5]) X hwX0_cardAt klX0_53 hiX0_cardAt hsX0_cardAt (ci := 0) ⟨rfl, rfl⟩ ⟨Nat.le_of_ble_eq_true rfl, Nat.le_of_ble_eq_true rfl⟩ ⟨Nat.le_refl _, Nat.le_refl _⟩ rfl (Nat.le_of_ble_eq_true rfl) dX0_touchesTown_41 rfl (mX0_cardAt (l := l) (D := D) (cI := cI) (cZ := cZ) hc).1 (mX0_cardAt hc).2 ?_
        obtain ⟨v9, w8, hc, h⟩ := eB2 h
        refine ev_callV_i (pc := 44) (As := [.int x2, .int v7]) (S := []) X hwX1_neighbour klX0_56 hiX1_neighbour hsX1_neighbour (ci := 1) ⟨rfl, rfl⟩ ⟨Nat.le_of_ble_eq_true rfl, Nat.le_of_ble_eq_true rfl⟩ ⟨Nat.le_refl _, Nat.le_refl _⟩ rfl (Nat.le_of_ble_eq_true rfl) dX0_touchesTown_44 rfl (mX1_neighbour (l := l) (D := D) (cI := cI) (cZ := cZ) hc).1 (mX1_neighbour hc).2 ?_
        refine ev_istore_n (pc := 47) (L' := [(2, .int v9), (0, .ref x0), (1, .int x1), (3, .int x3), (4, .int x4)]) X dX0_touchesTown_47 rfl (by decide) rfl ?_
        refine ev_aload_n (pc := 48) X 1 dX0_touchesTown_48 rfl rfl ?_
        obtain ⟨v10, hv10, h⟩ := eBi h
        refine ev_getR (pc := 49) X hcX0 (k := 0) (by decide) kfX0_20 dX0_touchesTown_49 hv10 ?_
        refine ev_iload_n (pc := 52) X 0 dX0_touchesTown_52 rfl rfl ?_
        obtain ⟨v12, w11, hc, h⟩ := eB2 h
        refine ev_callV_i (pc := 53) (As := [.int v9]) (S := []) X hwX1_isTown klX0_70 hiX1_isTown hsX1_isTown (ci := 1) ⟨rfl, rfl⟩ ⟨Nat.le_of_ble_eq_true rfl, Nat.le_of_ble_eq_true rfl⟩ ⟨Nat.le_refl _, Nat.le_refl _⟩ rfl (Nat.le_of_ble_eq_true rfl) dX0_touchesTown_53 rfl (mX1_isTown (l := l) (D := D) (cI := cI) (cZ := cZ) hc).1 (mX1_isTown hc).2 ?_
        refine ev_istore_n (pc := 56) (L' := [(3, .int v12), (2, .int v9), (0, .ref x0), (1, .int x1), (4, .int x4)]) X dX0_touchesTown_56 rfl (by decide) rfl ?_
        refine ev_iinc (pc := 57) (v := x4 + (1 : Int32)) (L' := [(4, .int (x4 + (1 : Int32))), (3, .int v12), (2, .int v9), (0, .ref x0), (1, .int x1)]) X 4 dX0_touchesTown_57 rfl rfl (by decide) rfl ?_
        refine ev_goto (pc := 60) X 18 dX0_touchesTown_60 rfl ?_
        exact ev_weak (pc := 18) [3, 4, 2, 1, 0] rfl (ih _ _ _ _ _ _ _ h p e s m args below meth c r0 A X)
def fX0_touchesTown_0 (x0 : Nat) (x1 : Int32) (w : eW) : Option (Int32 × eW) := eBind2 (fX0_firstCell x0 x1 w) fun v2 w1 => (eGR w1 x0 0 0).bind fun v3 => eBind2 (fX1_isTown v3 v2 w1) fun v5 w4 => fX0_touchesTown_18 eN x0 x1 v2 v5 (0 : Int32) w4
set_option maxRecDepth 20000 in
theorem sX0_touchesTown_0  (x0 : Nat) (x1 : Int32) (w : eW) (r : Int32 × eW) (h : fX0_touchesTown_0 x0 x1 w = some r) : eBN l D cI cZ 3 yX0_touchesTown cX0_touchesTown 5 (some .boolean) 0 [(0, .ref x0), (1, .int x1)] [] w (some (.int r.1)) r.2 := by
  rw [fX0_touchesTown_0] at h
  intro p e s m args below meth c r0 A X
  refine ev_aload_n (pc := 0) X 0 dX0_touchesTown_0 rfl rfl ?_
  refine ev_iload_n (pc := 1) X 1 dX0_touchesTown_1 rfl rfl ?_
  obtain ⟨v2, w1, hc, h⟩ := eB2 h
  refine ev_callV_i (pc := 2) (As := [.int x1]) (S := []) X hwX0_firstCell klX0_50 hiX0_firstCell hsX0_firstCell (ci := 0) ⟨rfl, rfl⟩ ⟨Nat.le_of_ble_eq_true rfl, Nat.le_of_ble_eq_true rfl⟩ ⟨Nat.le_refl _, Nat.le_refl _⟩ rfl (Nat.le_of_ble_eq_true rfl) dX0_touchesTown_2 rfl (mX0_firstCell (l := l) (D := D) (cI := cI) (cZ := cZ) hc).1 (mX0_firstCell hc).2 ?_
  refine ev_istore_n (pc := 5) (L' := [(2, .int v2), (0, .ref x0), (1, .int x1)]) X dX0_touchesTown_5 rfl (by decide) rfl ?_
  refine ev_aload_n (pc := 6) X 1 dX0_touchesTown_6 rfl rfl ?_
  obtain ⟨v3, hv3, h⟩ := eBi h
  refine ev_getR (pc := 7) X hcX0 (k := 0) (by decide) kfX0_20 dX0_touchesTown_7 hv3 ?_
  refine ev_iload_n (pc := 10) X 0 dX0_touchesTown_10 rfl rfl ?_
  obtain ⟨v5, w4, hc, h⟩ := eB2 h
  refine ev_callV_i (pc := 11) (As := [.int v2]) (S := []) X hwX1_isTown klX0_70 hiX1_isTown hsX1_isTown (ci := 1) ⟨rfl, rfl⟩ ⟨Nat.le_of_ble_eq_true rfl, Nat.le_of_ble_eq_true rfl⟩ ⟨Nat.le_refl _, Nat.le_refl _⟩ rfl (Nat.le_of_ble_eq_true rfl) dX0_touchesTown_11 rfl (mX1_isTown (l := l) (D := D) (cI := cI) (cZ := cZ) hc).1 (mX1_isTown hc).2 ?_
  refine ev_istore_n (pc := 14) (L' := [(3, .int v5), (2, .int v2), (0, .ref x0), (1, .int x1)]) X dX0_touchesTown_14 rfl (by decide) rfl ?_
  refine ev_iconst (pc := 15) (v := (0 : Int32)) X dX0_touchesTown_15 rfl ?_
  refine ev_istore (pc := 16) (L' := [(4, .int (0 : Int32)), (3, .int v5), (2, .int v2), (0, .ref x0), (1, .int x1)]) X dX0_touchesTown_16 (by decide) rfl ?_
  exact ev_weak (pc := 18) [3, 4, 2, 1, 0] rfl (sX0_touchesTown_18 eN _ _ _ _ _ _ _ h p e s m args below meth c r0 A X)
def fX0_touchesTown (a0 : Nat) (a1 : Int32) (w : eW) : Option (Int32 × eW) := bif eO w a0 0 then fX0_touchesTown_0 a0 a1 w else none
theorem mX0_touchesTown {a0 : Nat} {a1 : Int32} {w : eW} {v : Int32} {w' : eW} (h : fX0_touchesTown a0 a1 w = some (v, w')) : eO w a0 0 = true ∧ eMN l D cI cZ 3 yX0_touchesTown cX0_touchesTown 5 (some .boolean) [.ref a0, .int a1] w (some (.int v)) w' := by
  obtain ⟨h0, h⟩ := eBif h
  exact ⟨h0, eMN_of [(0, .ref a0), (1, .int a1)] (plainFor_of_name (by decide)) (fun _ => rfl) (fun _ => Nat.le_of_ble_eq_true rfl) (fun p e s m args below meth c r0 A X => ev_weak (pc := 0) [0, 1] rfl (sX0_touchesTown_0 _ _ _ _ h p e s m args below meth c r0 A X))⟩
theorem dX0_toNowhere_0 : decode cX0_toNowhere 0 = .ok (.iconst 0, 1) := by decide +kernel
theorem dX0_toNowhere_1 : decode cX0_toNowhere 1 = .ok (.istore_n 1, 1) := by decide +kernel
theorem dX0_toNowhere_2 : decode cX0_toNowhere 2 = .ok (.iconst 0, 1) := by decide +kernel
theorem dX0_toNowhere_3 : decode cX0_toNowhere 3 = .ok (.istore_n 2, 1) := by decide +kernel
theorem dX0_toNowhere_4 : decode cX0_toNowhere 4 = .ok (.iload_n 2, 1) := by decide +kernel
theorem dX0_toNowhere_5 : decode cX0_toNowhere 5 = .ok (.aload_n 0, 1) := by decide +kernel
theorem dX0_toNowhere_6 : decode cX0_toNowhere 6 = .ok (.invokevirtual 36, 3) := by decide +kernel
theorem dX0_toNowhere_9 : decode cX0_toNowhere 9 = .ok (.if_icmp .ge 32, 3) := by decide +kernel
theorem dX0_toNowhere_12 : decode cX0_toNowhere 12 = .ok (.aload_n 0, 1) := by decide +kernel
theorem dX0_toNowhere_13 : decode cX0_toNowhere 13 = .ok (.iload_n 2, 1) := by decide +kernel
theorem dX0_toNowhere_14 : decode cX0_toNowhere 14 = .ok (.invokevirtual 43, 3) := by decide +kernel
theorem dX0_toNowhere_17 : decode cX0_toNowhere 17 = .ok (.ifCond .le 18, 3) := by decide +kernel
theorem dX0_toNowhere_20 : decode cX0_toNowhere 20 = .ok (.aload_n 0, 1) := by decide +kernel
theorem dX0_toNowhere_21 : decode cX0_toNowhere 21 = .ok (.iload_n 2, 1) := by decide +kernel
theorem dX0_toNowhere_22 : decode cX0_toNowhere 22 = .ok (.invokevirtual 82, 3) := by decide +kernel
theorem dX0_toNowhere_25 : decode cX0_toNowhere 25 = .ok (.ifCond .ne 10, 3) := by decide +kernel
theorem dX0_toNowhere_28 : decode cX0_toNowhere 28 = .ok (.iload_n 1, 1) := by decide +kernel
theorem dX0_toNowhere_29 : decode cX0_toNowhere 29 = .ok (.iload_n 2, 1) := by decide +kernel
theorem dX0_toNowhere_30 : decode cX0_toNowhere 30 = .ok (.invokestatic 85, 3) := by decide +kernel
theorem dX0_toNowhere_33 : decode cX0_toNowhere 33 = .ok (.ior, 1) := by decide +kernel
theorem dX0_toNowhere_34 : decode cX0_toNowhere 34 = .ok (.istore_n 1, 1) := by decide +kernel
theorem dX0_toNowhere_35 : decode cX0_toNowhere 35 = .ok (.iinc 2 1, 3) := by decide +kernel
theorem dX0_toNowhere_38 : decode cX0_toNowhere 38 = .ok (.goto (-34), 3) := by decide +kernel
theorem dX0_toNowhere_41 : decode cX0_toNowhere 41 = .ok (.iload_n 1, 1) := by decide +kernel
theorem dX0_toNowhere_42 : decode cX0_toNowhere 42 = .ok (.ireturn, 1) := by decide +kernel
def fX0_toNowhere_35 (K4 : Nat → Int32 → Int32 → eW → Option (Int32 × eW)) (x0 : Nat) (x1 : Int32) (x2 : Int32) (w : eW) : Option (Int32 × eW) := K4 x0 x1 (x2 + (1 : Int32)) w
set_option maxRecDepth 20000 in
theorem sX0_toNowhere_35 {K4 : Nat → Int32 → Int32 → eW → Option (Int32 × eW)} (hK4 : ∀ (x0 : Nat) (x1 : Int32) (x2 : Int32) (w : eW) (r : Int32 × eW), K4 x0 x1 x2 w = some r → eBN l D cI cZ 4 yX0_toNowhere cX0_toNowhere 3 (some .int) 4 [(0, .ref x0), (1, .int x1), (2, .int x2)] [] w (some (.int r.1)) r.2) (x0 : Nat) (x1 : Int32) (x2 : Int32) (w : eW) (r : Int32 × eW) (h : fX0_toNowhere_35 K4 x0 x1 x2 w = some r) : eBN l D cI cZ 4 yX0_toNowhere cX0_toNowhere 3 (some .int) 35 [(0, .ref x0), (1, .int x1), (2, .int x2)] [] w (some (.int r.1)) r.2 := by
  rw [fX0_toNowhere_35] at h
  intro p e s m args below meth c r0 A X
  refine ev_iinc (pc := 35) (v := x2 + (1 : Int32)) (L' := [(2, .int (x2 + (1 : Int32))), (0, .ref x0), (1, .int x1)]) X 2 dX0_toNowhere_35 rfl rfl (by decide) rfl ?_
  refine ev_goto (pc := 38) X 4 dX0_toNowhere_38 rfl ?_
  exact ev_weak (pc := 4) [1, 2, 0] rfl (hK4 _ _ _ _ _ h p e s m args below meth c r0 A X)
def fX0_toNowhere_4 : Nat → Nat → Int32 → Int32 → eW → Option (Int32 × eW)
  | 0, _, _, _, _ => none
  | n + 1, x0, x1, x2, w => eBind2 (fX0_size x0 w) fun v2 w1 => if v2 ≤ x2 then (some (x1, w1)) else (eBind2 (fX0_length x0 x2 w1) fun v4 w3 => if v4 ≤ 0 then (fX0_toNowhere_35 (fX0_toNowhere_4 n) x0 x1 x2 w3) else (eBind2 (fX0_touchesTown x0 x2 w3) fun v6 w5 => if v6 = 0 then (eBind2 (fX10_bit x2 w5) fun v8 w7 => fX0_toNowhere_35 (fX0_toNowhere_4 n) x0 (x1 ||| v8) x2 w7) else (fX0_toNowhere_35 (fX0_toNowhere_4 n) x0 x1 x2 w5)))
set_option maxRecDepth 20000 in
theorem sX0_toNowhere_4  : ∀ (n : Nat) (x0 : Nat) (x1 : Int32) (x2 : Int32) (w : eW) (r : Int32 × eW), fX0_toNowhere_4 n x0 x1 x2 w = some r → eBN l D cI cZ 4 yX0_toNowhere cX0_toNowhere 3 (some .int) 4 [(0, .ref x0), (1, .int x1), (2, .int x2)] [] w (some (.int r.1)) r.2 := by
  intro n
  induction n with
  | zero => intro x0 x1 x2 w r h; exact absurd (show (none : Option (Int32 × eW)) = some r from h) (by simp)
  | succ n ih =>
    intro x0 x1 x2 w r h
    rw [fX0_toNowhere_4] at h
    intro p e s m args below meth c r0 A X
    refine ev_iload_n (pc := 4) X 2 dX0_toNowhere_4 rfl rfl ?_
    refine ev_aload_n (pc := 5) X 0 dX0_toNowhere_5 rfl rfl ?_
    obtain ⟨v2, w1, hc, h⟩ := eB2 h
    refine ev_callV_i (pc := 6) (As := []) (S := [.int x2]) X hwX0_size klX0_36 hiX0_size hsX0_size (ci := 0) ⟨rfl, rfl⟩ ⟨Nat.le_of_ble_eq_true rfl, Nat.le_of_ble_eq_true rfl⟩ ⟨Nat.le_refl _, Nat.le_refl _⟩ rfl (Nat.le_of_ble_eq_true rfl) dX0_toNowhere_6 rfl (mX0_size (l := l) (D := D) (cI := cI) (cZ := cZ) hc).1 (mX0_size hc).2 ?_
    refine ev_icmp_ge (pc := 9) X 41 dX0_toNowhere_9 rfl (fun hc => ?_) (fun hc => ?_)
    · rw [if_pos hc] at h
      refine ev_iload_n (pc := 41) X 1 dX0_toNowhere_41 rfl rfl ?_
      obtain rfl := Option.some.inj h
      exact ev_iret (pc := 42) X dX0_toNowhere_42
    · rw [if_neg hc] at h
      refine ev_aload_n (pc := 12) X 0 dX0_toNowhere_12 rfl rfl ?_
      refine ev_iload_n (pc := 13) X 2 dX0_toNowhere_13 rfl rfl ?_
      obtain ⟨v4, w3, hc, h⟩ := eB2 h
      refine ev_callV_i (pc := 14) (As := [.int x2]) (S := []) X hwX0_length klX0_43 hiX0_length hsX0_length (ci := 0) ⟨rfl, rfl⟩ ⟨Nat.le_of_ble_eq_true rfl, Nat.le_of_ble_eq_true rfl⟩ ⟨Nat.le_refl _, Nat.le_refl _⟩ rfl (Nat.le_of_ble_eq_true rfl) dX0_toNowhere_14 rfl (mX0_length (l := l) (D := D) (cI := cI) (cZ := cZ) hc).1 (mX0_length hc).2 ?_
      refine ev_if_le (pc := 17) X 35 dX0_toNowhere_17 rfl (fun hc => ?_) (fun hc => ?_)
      · rw [if_pos hc] at h
        exact ev_weak (pc := 35) [0, 1, 2] rfl (sX0_toNowhere_35 (fun _ _ _ w r hh => ih _ _ _ w r hh) _ _ _ _ _ h p e s m args below meth c r0 A X)
      · rw [if_neg hc] at h
        refine ev_aload_n (pc := 20) X 0 dX0_toNowhere_20 rfl rfl ?_
        refine ev_iload_n (pc := 21) X 2 dX0_toNowhere_21 rfl rfl ?_
        obtain ⟨v6, w5, hc, h⟩ := eB2 h
        refine ev_callV_i (pc := 22) (As := [.int x2]) (S := []) X hwX0_touchesTown klX0_82 hiX0_touchesTown hsX0_touchesTown (ci := 0) ⟨rfl, rfl⟩ ⟨Nat.le_of_ble_eq_true rfl, Nat.le_of_ble_eq_true rfl⟩ ⟨Nat.le_refl _, Nat.le_refl _⟩ rfl (Nat.le_of_ble_eq_true rfl) dX0_toNowhere_22 rfl (mX0_touchesTown (l := l) (D := D) (cI := cI) (cZ := cZ) hc).1 (mX0_touchesTown hc).2 ?_
        refine ev_if_ne (pc := 25) X 35 dX0_toNowhere_25 rfl (fun hc => ?_) (fun hc => ?_)
        · rw [if_neg hc] at h
          exact ev_weak (pc := 35) [0, 1, 2] rfl (sX0_toNowhere_35 (fun _ _ _ w r hh => ih _ _ _ w r hh) _ _ _ _ _ h p e s m args below meth c r0 A X)
        · rw [if_pos hc] at h
          refine ev_iload_n (pc := 28) X 1 dX0_toNowhere_28 rfl rfl ?_
          refine ev_iload_n (pc := 29) X 2 dX0_toNowhere_29 rfl rfl ?_
          obtain ⟨v8, w7, hc, h⟩ := eB2 h
          refine ev_callSN_i (pc := 30) (As := [.int x2]) (S := [.int x1]) X hwX10_bit knX0_85 htX10_bit ⟨Nat.le_of_ble_eq_true rfl, Nat.le_of_ble_eq_true rfl⟩ ⟨Nat.le_refl _, Nat.le_refl _⟩ rfl (Nat.le_of_ble_eq_true rfl) dX0_toNowhere_30 rfl (mX10_bit hc) ?_
          refine ev_ior (pc := 33) X dX0_toNowhere_33 ?_
          refine ev_istore_n (pc := 34) (L' := [(1, .int (x1 ||| v8)), (0, .ref x0), (2, .int x2)]) X dX0_toNowhere_34 rfl (by decide) rfl ?_
          exact ev_weak (pc := 35) [1, 0, 2] rfl (sX0_toNowhere_35 (fun _ _ _ w r hh => ih _ _ _ w r hh) _ _ _ _ _ h p e s m args below meth c r0 A X)
def fX0_toNowhere_0 (x0 : Nat) (w : eW) : Option (Int32 × eW) := fX0_toNowhere_4 eN x0 (0 : Int32) (0 : Int32) w
set_option maxRecDepth 20000 in
theorem sX0_toNowhere_0  (x0 : Nat) (w : eW) (r : Int32 × eW) (h : fX0_toNowhere_0 x0 w = some r) : eBN l D cI cZ 4 yX0_toNowhere cX0_toNowhere 3 (some .int) 0 [(0, .ref x0)] [] w (some (.int r.1)) r.2 := by
  rw [fX0_toNowhere_0] at h
  intro p e s m args below meth c r0 A X
  refine ev_iconst (pc := 0) (v := (0 : Int32)) X dX0_toNowhere_0 rfl ?_
  refine ev_istore_n (pc := 1) (L' := [(1, .int (0 : Int32)), (0, .ref x0)]) X dX0_toNowhere_1 rfl (by decide) rfl ?_
  refine ev_iconst (pc := 2) (v := (0 : Int32)) X dX0_toNowhere_2 rfl ?_
  refine ev_istore_n (pc := 3) (L' := [(2, .int (0 : Int32)), (1, .int (0 : Int32)), (0, .ref x0)]) X dX0_toNowhere_3 rfl (by decide) rfl ?_
  exact ev_weak (pc := 4) [2, 1, 0] rfl (sX0_toNowhere_4 eN _ _ _ _ _ h p e s m args below meth c r0 A X)
def fX0_toNowhere (a0 : Nat) (w : eW) : Option (Int32 × eW) := bif eO w a0 0 then fX0_toNowhere_0 a0 w else none
theorem mX0_toNowhere {a0 : Nat} {w : eW} {v : Int32} {w' : eW} (h : fX0_toNowhere a0 w = some (v, w')) : eO w a0 0 = true ∧ eMN l D cI cZ 4 yX0_toNowhere cX0_toNowhere 3 (some .int) [.ref a0] w (some (.int v)) w' := by
  obtain ⟨h0, h⟩ := eBif h
  exact ⟨h0, eMN_of [(0, .ref a0)] (plainFor_of_name (by decide)) (fun _ => rfl) (fun _ => Nat.le_of_ble_eq_true rfl) (fun p e s m args below meth c r0 A X => ev_weak (pc := 0) [0] rfl (sX0_toNowhere_0 _ _ _ h p e s m args below meth c r0 A X))⟩
theorem dX0_seams_0 : decode cX0_seams 0 = .ok (.iconst 0, 1) := by decide +kernel
theorem dX0_seams_1 : decode cX0_seams 1 = .ok (.istore_n 1, 1) := by decide +kernel
theorem dX0_seams_2 : decode cX0_seams 2 = .ok (.iconst 0, 1) := by decide +kernel
theorem dX0_seams_3 : decode cX0_seams 3 = .ok (.istore_n 2, 1) := by decide +kernel
theorem dX0_seams_4 : decode cX0_seams 4 = .ok (.iconst 0, 1) := by decide +kernel
theorem dX0_seams_5 : decode cX0_seams 5 = .ok (.istore_n 3, 1) := by decide +kernel
theorem dX0_seams_6 : decode cX0_seams 6 = .ok (.iload_n 3, 1) := by decide +kernel
theorem dX0_seams_7 : decode cX0_seams 7 = .ok (.aload_n 0, 1) := by decide +kernel
theorem dX0_seams_8 : decode cX0_seams 8 = .ok (.invokevirtual 36, 3) := by decide +kernel
theorem dX0_seams_11 : decode cX0_seams 11 = .ok (.if_icmp .ge 52, 3) := by decide +kernel
theorem dX0_seams_14 : decode cX0_seams 14 = .ok (.aload_n 0, 1) := by decide +kernel
theorem dX0_seams_15 : decode cX0_seams 15 = .ok (.iload_n 3, 1) := by decide +kernel
theorem dX0_seams_16 : decode cX0_seams 16 = .ok (.invokevirtual 43, 3) := by decide +kernel
theorem dX0_seams_19 : decode cX0_seams 19 = .ok (.ifCond .le 23, 3) := by decide +kernel
theorem dX0_seams_22 : decode cX0_seams 22 = .ok (.aload_n 0, 1) := by decide +kernel
theorem dX0_seams_23 : decode cX0_seams 23 = .ok (.iload_n 3, 1) := by decide +kernel
theorem dX0_seams_24 : decode cX0_seams 24 = .ok (.invokevirtual 50, 3) := by decide +kernel
theorem dX0_seams_27 : decode cX0_seams 27 = .ok (.invokestatic 85, 3) := by decide +kernel
theorem dX0_seams_30 : decode cX0_seams 30 = .ok (.aload_n 0, 1) := by decide +kernel
theorem dX0_seams_31 : decode cX0_seams 31 = .ok (.iload_n 3, 1) := by decide +kernel
theorem dX0_seams_32 : decode cX0_seams 32 = .ok (.invokevirtual 64, 3) := by decide +kernel
theorem dX0_seams_35 : decode cX0_seams 35 = .ok (.invokestatic 85, 3) := by decide +kernel
theorem dX0_seams_38 : decode cX0_seams 38 = .ok (.ior, 1) := by decide +kernel
theorem dX0_seams_39 : decode cX0_seams 39 = .ok (.goto 4, 3) := by decide +kernel
theorem dX0_seams_42 : decode cX0_seams 42 = .ok (.iconst 0, 1) := by decide +kernel
theorem dX0_seams_43 : decode cX0_seams 43 = .ok (.istore 4, 2) := by decide +kernel
theorem dX0_seams_45 : decode cX0_seams 45 = .ok (.iload_n 2, 1) := by decide +kernel
theorem dX0_seams_46 : decode cX0_seams 46 = .ok (.iload_n 1, 1) := by decide +kernel
theorem dX0_seams_47 : decode cX0_seams 47 = .ok (.iload 4, 2) := by decide +kernel
theorem dX0_seams_49 : decode cX0_seams 49 = .ok (.iand, 1) := by decide +kernel
theorem dX0_seams_50 : decode cX0_seams 50 = .ok (.ior, 1) := by decide +kernel
theorem dX0_seams_51 : decode cX0_seams 51 = .ok (.istore_n 2, 1) := by decide +kernel
theorem dX0_seams_52 : decode cX0_seams 52 = .ok (.iload_n 1, 1) := by decide +kernel
theorem dX0_seams_53 : decode cX0_seams 53 = .ok (.iload 4, 2) := by decide +kernel
theorem dX0_seams_55 : decode cX0_seams 55 = .ok (.ior, 1) := by decide +kernel
theorem dX0_seams_56 : decode cX0_seams 56 = .ok (.istore_n 1, 1) := by decide +kernel
theorem dX0_seams_57 : decode cX0_seams 57 = .ok (.iinc 3 1, 3) := by decide +kernel
theorem dX0_seams_60 : decode cX0_seams 60 = .ok (.goto (-54), 3) := by decide +kernel
theorem dX0_seams_63 : decode cX0_seams 63 = .ok (.iload_n 2, 1) := by decide +kernel
theorem dX0_seams_64 : decode cX0_seams 64 = .ok (.ireturn, 1) := by decide +kernel
def fX0_seams_43 (K6 : Nat → Int32 → Int32 → Int32 → eW → Option (Int32 × eW)) (x0 : Nat) (x1 : Int32) (x2 : Int32) (x3 : Int32) (t0 : Int32) (w : eW) : Option (Int32 × eW) := K6 x0 (x1 ||| t0) (x2 ||| (x1 &&& t0)) (x3 + (1 : Int32)) w
set_option maxRecDepth 20000 in
theorem sX0_seams_43 {K6 : Nat → Int32 → Int32 → Int32 → eW → Option (Int32 × eW)} (hK6 : ∀ (x0 : Nat) (x1 : Int32) (x2 : Int32) (x3 : Int32) (w : eW) (r : Int32 × eW), K6 x0 x1 x2 x3 w = some r → eBN l D cI cZ 4 yX0_seams cX0_seams 5 (some .int) 6 [(0, .ref x0), (1, .int x1), (2, .int x2), (3, .int x3)] [] w (some (.int r.1)) r.2) (x0 : Nat) (x1 : Int32) (x2 : Int32) (x3 : Int32) (t0 : Int32) (w : eW) (r : Int32 × eW) (h : fX0_seams_43 K6 x0 x1 x2 x3 t0 w = some r) : eBN l D cI cZ 4 yX0_seams cX0_seams 5 (some .int) 43 [(0, .ref x0), (1, .int x1), (2, .int x2), (3, .int x3)] [.int t0] w (some (.int r.1)) r.2 := by
  rw [fX0_seams_43] at h
  intro p e s m args below meth c r0 A X
  refine ev_istore (pc := 43) (L' := [(4, .int t0), (0, .ref x0), (1, .int x1), (2, .int x2), (3, .int x3)]) X dX0_seams_43 (by decide) rfl ?_
  refine ev_iload_n (pc := 45) X 3 dX0_seams_45 rfl rfl ?_
  refine ev_iload_n (pc := 46) X 2 dX0_seams_46 rfl rfl ?_
  refine ev_iload (pc := 47) X 0 dX0_seams_47 rfl ?_
  refine ev_iand (pc := 49) X dX0_seams_49 ?_
  refine ev_ior (pc := 50) X dX0_seams_50 ?_
  refine ev_istore_n (pc := 51) (L' := [(2, .int (x2 ||| (x1 &&& t0))), (4, .int t0), (0, .ref x0), (1, .int x1), (3, .int x3)]) X dX0_seams_51 rfl (by decide) rfl ?_
  refine ev_iload_n (pc := 52) X 3 dX0_seams_52 rfl rfl ?_
  refine ev_iload (pc := 53) X 1 dX0_seams_53 rfl ?_
  refine ev_ior (pc := 55) X dX0_seams_55 ?_
  refine ev_istore_n (pc := 56) (L' := [(1, .int (x1 ||| t0)), (2, .int (x2 ||| (x1 &&& t0))), (4, .int t0), (0, .ref x0), (3, .int x3)]) X dX0_seams_56 rfl (by decide) rfl ?_
  refine ev_iinc (pc := 57) (v := x3 + (1 : Int32)) (L' := [(3, .int (x3 + (1 : Int32))), (1, .int (x1 ||| t0)), (2, .int (x2 ||| (x1 &&& t0))), (4, .int t0), (0, .ref x0)]) X 4 dX0_seams_57 rfl rfl (by decide) rfl ?_
  refine ev_goto (pc := 60) X 6 dX0_seams_60 rfl ?_
  exact ev_weak (pc := 6) [4, 1, 2, 0] rfl (hK6 _ _ _ _ _ _ h p e s m args below meth c r0 A X)
def fX0_seams_6 : Nat → Nat → Int32 → Int32 → Int32 → eW → Option (Int32 × eW)
  | 0, _, _, _, _, _ => none
  | n + 1, x0, x1, x2, x3, w => eBind2 (fX0_size x0 w) fun v2 w1 => if v2 ≤ x3 then (some (x2, w1)) else (eBind2 (fX0_length x0 x3 w1) fun v4 w3 => if v4 ≤ 0 then (fX0_seams_43 (fX0_seams_6 n) x0 x1 x2 x3 (0 : Int32) w3) else (eBind2 (fX0_firstCell x0 x3 w3) fun v6 w5 => eBind2 (fX10_bit v6 w5) fun v8 w7 => eBind2 (fX0_lastCell x0 x3 w7) fun v10 w9 => eBind2 (fX10_bit v10 w9) fun v12 w11 => fX0_seams_43 (fX0_seams_6 n) x0 x1 x2 x3 (v8 ||| v12) w11))
set_option maxRecDepth 20000 in
theorem sX0_seams_6  : ∀ (n : Nat) (x0 : Nat) (x1 : Int32) (x2 : Int32) (x3 : Int32) (w : eW) (r : Int32 × eW), fX0_seams_6 n x0 x1 x2 x3 w = some r → eBN l D cI cZ 4 yX0_seams cX0_seams 5 (some .int) 6 [(0, .ref x0), (1, .int x1), (2, .int x2), (3, .int x3)] [] w (some (.int r.1)) r.2 := by
  intro n
  induction n with
  | zero => intro x0 x1 x2 x3 w r h; exact absurd (show (none : Option (Int32 × eW)) = some r from h) (by simp)
  | succ n ih =>
    intro x0 x1 x2 x3 w r h
    rw [fX0_seams_6] at h
    intro p e s m args below meth c r0 A X
    refine ev_iload_n (pc := 6) X 3 dX0_seams_6 rfl rfl ?_
    refine ev_aload_n (pc := 7) X 0 dX0_seams_7 rfl rfl ?_
    obtain ⟨v2, w1, hc, h⟩ := eB2 h
    refine ev_callV_i (pc := 8) (As := []) (S := [.int x3]) X hwX0_size klX0_36 hiX0_size hsX0_size (ci := 0) ⟨rfl, rfl⟩ ⟨Nat.le_of_ble_eq_true rfl, Nat.le_of_ble_eq_true rfl⟩ ⟨Nat.le_refl _, Nat.le_refl _⟩ rfl (Nat.le_of_ble_eq_true rfl) dX0_seams_8 rfl (mX0_size (l := l) (D := D) (cI := cI) (cZ := cZ) hc).1 (mX0_size hc).2 ?_
    refine ev_icmp_ge (pc := 11) X 63 dX0_seams_11 rfl (fun hc => ?_) (fun hc => ?_)
    · rw [if_pos hc] at h
      refine ev_iload_n (pc := 63) X 2 dX0_seams_63 rfl rfl ?_
      obtain rfl := Option.some.inj h
      exact ev_iret (pc := 64) X dX0_seams_64
    · rw [if_neg hc] at h
      refine ev_aload_n (pc := 14) X 0 dX0_seams_14 rfl rfl ?_
      refine ev_iload_n (pc := 15) X 3 dX0_seams_15 rfl rfl ?_
      obtain ⟨v4, w3, hc, h⟩ := eB2 h
      refine ev_callV_i (pc := 16) (As := [.int x3]) (S := []) X hwX0_length klX0_43 hiX0_length hsX0_length (ci := 0) ⟨rfl, rfl⟩ ⟨Nat.le_of_ble_eq_true rfl, Nat.le_of_ble_eq_true rfl⟩ ⟨Nat.le_refl _, Nat.le_refl _⟩ rfl (Nat.le_of_ble_eq_true rfl) dX0_seams_16 rfl (mX0_length (l := l) (D := D) (cI := cI) (cZ := cZ) hc).1 (mX0_length hc).2 ?_
      refine ev_if_le (pc := 19) X 42 dX0_seams_19 rfl (fun hc => ?_) (fun hc => ?_)
      · rw [if_pos hc] at h
        refine ev_iconst (pc := 42) (v := (0 : Int32)) X dX0_seams_42 rfl ?_
        exact ev_weak (pc := 43) [0, 1, 2, 3] rfl (sX0_seams_43 (fun _ _ _ _ w r hh => ih _ _ _ _ w r hh) _ _ _ _ _ _ _ h p e s m args below meth c r0 A X)
      · rw [if_neg hc] at h
        refine ev_aload_n (pc := 22) X 0 dX0_seams_22 rfl rfl ?_
        refine ev_iload_n (pc := 23) X 3 dX0_seams_23 rfl rfl ?_
        obtain ⟨v6, w5, hc, h⟩ := eB2 h
        refine ev_callV_i (pc := 24) (As := [.int x3]) (S := []) X hwX0_firstCell klX0_50 hiX0_firstCell hsX0_firstCell (ci := 0) ⟨rfl, rfl⟩ ⟨Nat.le_of_ble_eq_true rfl, Nat.le_of_ble_eq_true rfl⟩ ⟨Nat.le_refl _, Nat.le_refl _⟩ rfl (Nat.le_of_ble_eq_true rfl) dX0_seams_24 rfl (mX0_firstCell (l := l) (D := D) (cI := cI) (cZ := cZ) hc).1 (mX0_firstCell hc).2 ?_
        obtain ⟨v8, w7, hc, h⟩ := eB2 h
        refine ev_callSN_i (pc := 27) (As := [.int v6]) (S := []) X hwX10_bit knX0_85 htX10_bit ⟨Nat.le_of_ble_eq_true rfl, Nat.le_of_ble_eq_true rfl⟩ ⟨Nat.le_refl _, Nat.le_refl _⟩ rfl (Nat.le_of_ble_eq_true rfl) dX0_seams_27 rfl (mX10_bit hc) ?_
        refine ev_aload_n (pc := 30) X 0 dX0_seams_30 rfl rfl ?_
        refine ev_iload_n (pc := 31) X 3 dX0_seams_31 rfl rfl ?_
        obtain ⟨v10, w9, hc, h⟩ := eB2 h
        refine ev_callV_i (pc := 32) (As := [.int x3]) (S := [.int v8]) X hwX0_lastCell klX0_64 hiX0_lastCell hsX0_lastCell (ci := 0) ⟨rfl, rfl⟩ ⟨Nat.le_of_ble_eq_true rfl, Nat.le_of_ble_eq_true rfl⟩ ⟨Nat.le_refl _, Nat.le_refl _⟩ rfl (Nat.le_of_ble_eq_true rfl) dX0_seams_32 rfl (mX0_lastCell (l := l) (D := D) (cI := cI) (cZ := cZ) hc).1 (mX0_lastCell hc).2 ?_
        obtain ⟨v12, w11, hc, h⟩ := eB2 h
        refine ev_callSN_i (pc := 35) (As := [.int v10]) (S := [.int v8]) X hwX10_bit knX0_85 htX10_bit ⟨Nat.le_of_ble_eq_true rfl, Nat.le_of_ble_eq_true rfl⟩ ⟨Nat.le_refl _, Nat.le_refl _⟩ rfl (Nat.le_of_ble_eq_true rfl) dX0_seams_35 rfl (mX10_bit hc) ?_
        refine ev_ior (pc := 38) X dX0_seams_38 ?_
        refine ev_goto (pc := 39) X 43 dX0_seams_39 rfl ?_
        exact ev_weak (pc := 43) [0, 1, 2, 3] rfl (sX0_seams_43 (fun _ _ _ _ w r hh => ih _ _ _ _ w r hh) _ _ _ _ _ _ _ h p e s m args below meth c r0 A X)
def fX0_seams_0 (x0 : Nat) (w : eW) : Option (Int32 × eW) := fX0_seams_6 eN x0 (0 : Int32) (0 : Int32) (0 : Int32) w
set_option maxRecDepth 20000 in
theorem sX0_seams_0  (x0 : Nat) (w : eW) (r : Int32 × eW) (h : fX0_seams_0 x0 w = some r) : eBN l D cI cZ 4 yX0_seams cX0_seams 5 (some .int) 0 [(0, .ref x0)] [] w (some (.int r.1)) r.2 := by
  rw [fX0_seams_0] at h
  intro p e s m args below meth c r0 A X
  refine ev_iconst (pc := 0) (v := (0 : Int32)) X dX0_seams_0 rfl ?_
  refine ev_istore_n (pc := 1) (L' := [(1, .int (0 : Int32)), (0, .ref x0)]) X dX0_seams_1 rfl (by decide) rfl ?_
  refine ev_iconst (pc := 2) (v := (0 : Int32)) X dX0_seams_2 rfl ?_
  refine ev_istore_n (pc := 3) (L' := [(2, .int (0 : Int32)), (1, .int (0 : Int32)), (0, .ref x0)]) X dX0_seams_3 rfl (by decide) rfl ?_
  refine ev_iconst (pc := 4) (v := (0 : Int32)) X dX0_seams_4 rfl ?_
  refine ev_istore_n (pc := 5) (L' := [(3, .int (0 : Int32)), (2, .int (0 : Int32)), (1, .int (0 : Int32)), (0, .ref x0)]) X dX0_seams_5 rfl (by decide) rfl ?_
  exact ev_weak (pc := 6) [3, 2, 1, 0] rfl (sX0_seams_6 eN _ _ _ _ _ _ h p e s m args below meth c r0 A X)
def fX0_seams (a0 : Nat) (w : eW) : Option (Int32 × eW) := bif eO w a0 0 then fX0_seams_0 a0 w else none
theorem mX0_seams {a0 : Nat} {w : eW} {v : Int32} {w' : eW} (h : fX0_seams a0 w = some (v, w')) : eO w a0 0 = true ∧ eMN l D cI cZ 4 yX0_seams cX0_seams 5 (some .int) [.ref a0] w (some (.int v)) w' := by
  obtain ⟨h0, h⟩ := eBif h
  exact ⟨h0, eMN_of [(0, .ref a0)] (plainFor_of_name (by decide)) (fun _ => rfl) (fun _ => Nat.le_of_ble_eq_true rfl) (fun p e s m args below meth c r0 A X => ev_weak (pc := 0) [0] rfl (sX0_seams_0 _ _ _ h p e s m args below meth c r0 A X))⟩
theorem dX2_size_0 : decode cX2_size 0 = .ok (.aload_n 0, 1) := by decide +kernel
theorem dX2_size_1 : decode cX2_size 1 = .ok (.getfield 20, 3) := by decide +kernel
theorem dX2_size_4 : decode cX2_size 4 = .ok (.ireturn, 1) := by decide +kernel
def fX2_size_0 (x0 : Nat) (w : eW) : Option (Int32 × eW) := (eGI w x0 2 1).bind fun v1 => some (v1, w)
set_option maxRecDepth 20000 in
theorem sX2_size_0  (x0 : Nat) (w : eW) (r : Int32 × eW) (h : fX2_size_0 x0 w = some r) : eBN l D cI cZ 0 yX2_size cX2_size 1 (some .int) 0 [(0, .ref x0)] [] w (some (.int r.1)) r.2 := by
  rw [fX2_size_0] at h
  intro p e s m args below meth c r0 A X
  refine ev_aload_n (pc := 0) X 0 dX2_size_0 rfl rfl ?_
  obtain ⟨v1, hv1, h⟩ := eBi h
  refine ev_getI (pc := 1) X hcX2 (k := 1) (by decide) kfX2_20 dX2_size_1 hv1 ?_
  obtain rfl := Option.some.inj h
  exact ev_iret (pc := 4) X dX2_size_4
def fX2_size (a0 : Nat) (w : eW) : Option (Int32 × eW) := bif eO w a0 2 then fX2_size_0 a0 w else none
theorem mX2_size {a0 : Nat} {w : eW} {v : Int32} {w' : eW} (h : fX2_size a0 w = some (v, w')) : eO w a0 2 = true ∧ eMN l D cI cZ 0 yX2_size cX2_size 1 (some .int) [.ref a0] w (some (.int v)) w' := by
  obtain ⟨h0, h⟩ := eBif h
  exact ⟨h0, eMN_of [(0, .ref a0)] (plainFor_of_name (by decide)) (fun _ => rfl) (fun _ => Nat.le_of_ble_eq_true rfl) (fun p e s m args below meth c r0 A X => ev_weak (pc := 0) [0] rfl (sX2_size_0 _ _ _ h p e s m args below meth c r0 A X))⟩
theorem dX2_told_0 : decode cX2_told 0 = .ok (.aload_n 0, 1) := by decide +kernel
theorem dX2_told_1 : decode cX2_told 1 = .ok (.getfield 27, 3) := by decide +kernel
theorem dX2_told_4 : decode cX2_told 4 = .ok (.areturn, 1) := by decide +kernel
def fX2_told_0 (x0 : Nat) (w : eW) : Option (Nat × eW) := (eGR w x0 2 2).bind fun v1 => some (v1, w)
set_option maxRecDepth 20000 in
theorem sX2_told_0  (x0 : Nat) (w : eW) (r : Nat × eW) (h : fX2_told_0 x0 w = some r) : eBN l D cI cZ 0 yX2_told cX2_told 1 (some (.object "WovenRoads$Land")) 0 [(0, .ref x0)] [] w (some (.ref r.1)) r.2 := by
  rw [fX2_told_0] at h
  intro p e s m args below meth c r0 A X
  refine ev_aload_n (pc := 0) X 0 dX2_told_0 rfl rfl ?_
  obtain ⟨v1, hv1, h⟩ := eBi h
  refine ev_getR (pc := 1) X hcX2 (k := 2) (by decide) kfX2_27 dX2_told_1 hv1 ?_
  obtain rfl := Option.some.inj h
  exact ev_aret (pc := 4) X dX2_told_4
def fX2_told (a0 : Nat) (w : eW) : Option (Nat × eW) := bif eO w a0 2 then fX2_told_0 a0 w else none
theorem mX2_told {a0 : Nat} {w : eW} {v : Nat} {w' : eW} (h : fX2_told a0 w = some (v, w')) : eO w a0 2 = true ∧ eMN l D cI cZ 0 yX2_told cX2_told 1 (some (.object "WovenRoads$Land")) [.ref a0] w (some (.ref v)) w' := by
  obtain ⟨h0, h⟩ := eBif h
  exact ⟨h0, eMN_of [(0, .ref a0)] (plainFor_of_name (by decide)) (fun _ => rfl) (fun _ => Nat.le_of_ble_eq_true rfl) (fun p e s m args below meth c r0 A X => ev_weak (pc := 0) [0] rfl (sX2_told_0 _ _ _ h p e s m args below meth c r0 A X))⟩
theorem dX2_add_0 : decode cX2_add 0 = .ok (.aload_n 0, 1) := by decide +kernel
theorem dX2_add_1 : decode cX2_add 1 = .ok (.getfield 20, 3) := by decide +kernel
theorem dX2_add_4 : decode cX2_add 4 = .ok (.sipush 200, 3) := by decide +kernel
theorem dX2_add_7 : decode cX2_add 7 = .ok (.if_icmp .lt 5, 3) := by decide +kernel
theorem dX2_add_10 : decode cX2_add 10 = .ok (.iconst 0, 1) := by decide +kernel
theorem dX2_add_11 : decode cX2_add 11 = .ok (.ireturn, 1) := by decide +kernel
theorem dX2_add_12 : decode cX2_add 12 = .ok (.aload_n 0, 1) := by decide +kernel
theorem dX2_add_13 : decode cX2_add 13 = .ok (.getfield 14, 3) := by decide +kernel
theorem dX2_add_16 : decode cX2_add 16 = .ok (.aload_n 0, 1) := by decide +kernel
theorem dX2_add_17 : decode cX2_add 17 = .ok (.getfield 20, 3) := by decide +kernel
theorem dX2_add_20 : decode cX2_add 20 = .ok (.iload_n 1, 1) := by decide +kernel
theorem dX2_add_21 : decode cX2_add 21 = .ok (.invokevirtual 31, 3) := by decide +kernel
theorem dX2_add_24 : decode cX2_add 24 = .ok (.aload_n 0, 1) := by decide +kernel
theorem dX2_add_25 : decode cX2_add 25 = .ok (.dup, 1) := by decide +kernel
theorem dX2_add_26 : decode cX2_add 26 = .ok (.getfield 20, 3) := by decide +kernel
theorem dX2_add_29 : decode cX2_add 29 = .ok (.iconst 1, 1) := by decide +kernel
theorem dX2_add_30 : decode cX2_add 30 = .ok (.iadd, 1) := by decide +kernel
theorem dX2_add_31 : decode cX2_add 31 = .ok (.putfield 20, 3) := by decide +kernel
theorem dX2_add_34 : decode cX2_add 34 = .ok (.iconst 1, 1) := by decide +kernel
theorem dX2_add_35 : decode cX2_add 35 = .ok (.ireturn, 1) := by decide +kernel
def fX2_add_0 (x0 : Nat) (x1 : Int32) (w : eW) : Option (Int32 × eW) := (eGI w x0 2 1).bind fun v1 => if v1 < (200 : Int32) then ((eGR w x0 2 0).bind fun v2 => (eGI w x0 2 1).bind fun v3 => (fX7_put v2 v3 x1 w).bind fun w4 => (eGI w4 x0 2 1).bind fun v5 => (eP w4 x0 2 1 (.int (v5 + (1 : Int32)))).bind fun w6 => (eZ (1 : Int32)).bind fun v7 => some (v7, w6)) else ((eZ (0 : Int32)).bind fun v8 => some (v8, w))
set_option maxRecDepth 20000 in
theorem sX2_add_0  (x0 : Nat) (x1 : Int32) (w : eW) (r : Int32 × eW) (h : fX2_add_0 x0 x1 w = some r) : eBN l D cI cZ 1 yX2_add cX2_add 2 (some .boolean) 0 [(0, .ref x0), (1, .int x1)] [] w (some (.int r.1)) r.2 := by
  rw [fX2_add_0] at h
  intro p e s m args below meth c r0 A X
  refine ev_aload_n (pc := 0) X 0 dX2_add_0 rfl rfl ?_
  obtain ⟨v1, hv1, h⟩ := eBi h
  refine ev_getI (pc := 1) X hcX2 (k := 1) (by decide) kfX2_20 dX2_add_1 hv1 ?_
  refine ev_sipush (pc := 4) (v := (200 : Int32)) X dX2_add_4 rfl ?_
  refine ev_icmp_lt (pc := 7) X 12 dX2_add_7 rfl (fun hc => ?_) (fun hc => ?_)
  · rw [if_pos hc] at h
    refine ev_aload_n (pc := 12) X 0 dX2_add_12 rfl rfl ?_
    obtain ⟨v2, hv2, h⟩ := eBi h
    refine ev_getR (pc := 13) X hcX2 (k := 0) (by decide) kfX2_14 dX2_add_13 hv2 ?_
    refine ev_aload_n (pc := 16) X 0 dX2_add_16 rfl rfl ?_
    obtain ⟨v3, hv3, h⟩ := eBi h
    refine ev_getI (pc := 17) X hcX2 (k := 1) (by decide) kfX2_20 dX2_add_17 hv3 ?_
    refine ev_iload_n (pc := 20) X 1 dX2_add_20 rfl rfl ?_
    obtain ⟨w4, hc, h⟩ := eBi h
    refine ev_callV_v (pc := 21) (As := [.int v3, .int x1]) (S := []) X hwX7_put klX2_31 hiX7_put hsX7_put (ci := 7) ⟨rfl, rfl⟩ ⟨Nat.le_of_ble_eq_true rfl, Nat.le_of_ble_eq_true rfl⟩ ⟨Nat.le_refl _, Nat.le_refl _⟩ rfl (Nat.le_of_ble_eq_true rfl) dX2_add_21 rfl (mX7_put (l := l) (D := D) (cI := cI) (cZ := cZ) hc).1 (mX7_put hc).2 ?_
    refine ev_aload_n (pc := 24) X 0 dX2_add_24 rfl rfl ?_
    refine ev_dup (pc := 25) X dX2_add_25 rfl ?_
    obtain ⟨v5, hv5, h⟩ := eBi h
    refine ev_getI (pc := 26) X hcX2 (k := 1) (by decide) kfX2_20 dX2_add_26 hv5 ?_
    refine ev_iconst (pc := 29) (v := (1 : Int32)) X dX2_add_29 rfl ?_
    refine ev_iadd (pc := 30) X dX2_add_30 ?_
    obtain ⟨w6, hw6, h⟩ := eBi h
    refine ev_putI (pc := 31) X hcX2 (k := 1) (by decide) kfX2_20 rfl rfl dX2_add_31 hw6 ?_
    refine ev_iconst (pc := 34) (v := (1 : Int32)) X dX2_add_34 rfl ?_
    obtain ⟨v7, hv7, h⟩ := eBi h
    obtain rfl := Option.some.inj h
    exact ev_zret (pc := 35) X dX2_add_35 hv7
  · rw [if_neg hc] at h
    refine ev_iconst (pc := 10) (v := (0 : Int32)) X dX2_add_10 rfl ?_
    obtain ⟨v8, hv8, h⟩ := eBi h
    obtain rfl := Option.some.inj h
    exact ev_zret (pc := 11) X dX2_add_11 hv8
def fX2_add (a0 : Nat) (a1 : Int32) (w : eW) : Option (Int32 × eW) := bif eO w a0 2 then fX2_add_0 a0 a1 w else none
theorem mX2_add {a0 : Nat} {a1 : Int32} {w : eW} {v : Int32} {w' : eW} (h : fX2_add a0 a1 w = some (v, w')) : eO w a0 2 = true ∧ eMN l D cI cZ 1 yX2_add cX2_add 2 (some .boolean) [.ref a0, .int a1] w (some (.int v)) w' := by
  obtain ⟨h0, h⟩ := eBif h
  exact ⟨h0, eMN_of [(0, .ref a0), (1, .int a1)] (plainFor_of_name (by decide)) (fun _ => rfl) (fun _ => Nat.le_of_ble_eq_true rfl) (fun p e s m args below meth c r0 A X => ev_weak (pc := 0) [0, 1] rfl (sX2_add_0 _ _ _ _ h p e s m args below meth c r0 A X))⟩
theorem dX2_empty_0 : decode cX2_empty 0 = .ok (.aload_n 0, 1) := by decide +kernel
theorem dX2_empty_1 : decode cX2_empty 1 = .ok (.iconst 0, 1) := by decide +kernel
theorem dX2_empty_2 : decode cX2_empty 2 = .ok (.putfield 20, 3) := by decide +kernel
theorem dX2_empty_5 : decode cX2_empty 5 = .ok (.return_, 1) := by decide +kernel
def fX2_empty_0 (x0 : Nat) (w : eW) : Option (eW) := (eP w x0 2 1 (.int (0 : Int32))).bind fun w1 => some w1
set_option maxRecDepth 20000 in
theorem sX2_empty_0  (x0 : Nat) (w : eW) (r : eW) (h : fX2_empty_0 x0 w = some r) : eBN l D cI cZ 0 yX2_empty cX2_empty 1 none 0 [(0, .ref x0)] [] w none r := by
  rw [fX2_empty_0] at h
  intro p e s m args below meth c r0 A X
  refine ev_aload_n (pc := 0) X 0 dX2_empty_0 rfl rfl ?_
  refine ev_iconst (pc := 1) (v := (0 : Int32)) X dX2_empty_1 rfl ?_
  obtain ⟨w1, hw1, h⟩ := eBi h
  refine ev_putI (pc := 2) X hcX2 (k := 1) (by decide) kfX2_20 rfl rfl dX2_empty_2 hw1 ?_
  obtain rfl := Option.some.inj h
  exact ev_vret (pc := 5) X dX2_empty_5
def fX2_empty (a0 : Nat) (w : eW) : Option (eW) := bif eO w a0 2 then fX2_empty_0 a0 w else none
theorem mX2_empty {a0 : Nat} {w : eW} {w' : eW} (h : fX2_empty a0 w = some w') : eO w a0 2 = true ∧ eMN l D cI cZ 0 yX2_empty cX2_empty 1 none [.ref a0] w none w' := by
  obtain ⟨h0, h⟩ := eBif h
  exact ⟨h0, eMN_of [(0, .ref a0)] (plainFor_of_name (by decide)) (fun _ => rfl) (fun _ => Nat.le_of_ble_eq_true rfl) (fun p e s m args below meth c r0 A X => ev_weak (pc := 0) [0] rfl (sX2_empty_0 _ _ _ h p e s m args below meth c r0 A X))⟩
theorem dX2_isDigit_0 : decode cX2_isDigit 0 = .ok (.iload_n 0, 1) := by decide +kernel
theorem dX2_isDigit_1 : decode cX2_isDigit 1 = .ok (.bipush 48, 2) := by decide +kernel
theorem dX2_isDigit_3 : decode cX2_isDigit 3 = .ok (.if_icmp .lt 13, 3) := by decide +kernel
theorem dX2_isDigit_6 : decode cX2_isDigit 6 = .ok (.iload_n 0, 1) := by decide +kernel
theorem dX2_isDigit_7 : decode cX2_isDigit 7 = .ok (.bipush 57, 2) := by decide +kernel
theorem dX2_isDigit_9 : decode cX2_isDigit 9 = .ok (.if_icmp .gt 7, 3) := by decide +kernel
theorem dX2_isDigit_12 : decode cX2_isDigit 12 = .ok (.iconst 1, 1) := by decide +kernel
theorem dX2_isDigit_13 : decode cX2_isDigit 13 = .ok (.goto 4, 3) := by decide +kernel
theorem dX2_isDigit_16 : decode cX2_isDigit 16 = .ok (.iconst 0, 1) := by decide +kernel
theorem dX2_isDigit_17 : decode cX2_isDigit 17 = .ok (.ireturn, 1) := by decide +kernel
def fX2_isDigit_16  (w : eW) : Option (Int32 × eW) := (eZ (0 : Int32)).bind fun v1 => some (v1, w)
set_option maxRecDepth 20000 in
theorem sX2_isDigit_16   (w : eW) (r : Int32 × eW) (h : fX2_isDigit_16  w = some r) : eBN l D cI cZ 0 yX2_isDigit cX2_isDigit 1 (some .boolean) 16 [] [] w (some (.int r.1)) r.2 := by
  rw [fX2_isDigit_16] at h
  intro p e s m args below meth c r0 A X
  refine ev_iconst (pc := 16) (v := (0 : Int32)) X dX2_isDigit_16 rfl ?_
  obtain ⟨v1, hv1, h⟩ := eBi h
  obtain rfl := Option.some.inj h
  exact ev_zret (pc := 17) X dX2_isDigit_17 hv1
def fX2_isDigit_0 (x0 : Int32) (w : eW) : Option (Int32 × eW) := if x0 < (48 : Int32) then (fX2_isDigit_16 w) else (if (57 : Int32) < x0 then (fX2_isDigit_16 w) else ((eZ (1 : Int32)).bind fun v1 => some (v1, w)))
set_option maxRecDepth 20000 in
theorem sX2_isDigit_0  (x0 : Int32) (w : eW) (r : Int32 × eW) (h : fX2_isDigit_0 x0 w = some r) : eBN l D cI cZ 0 yX2_isDigit cX2_isDigit 1 (some .boolean) 0 [(0, .int x0)] [] w (some (.int r.1)) r.2 := by
  rw [fX2_isDigit_0] at h
  intro p e s m args below meth c r0 A X
  refine ev_iload_n (pc := 0) X 0 dX2_isDigit_0 rfl rfl ?_
  refine ev_bipush (pc := 1) (v := (48 : Int32)) X dX2_isDigit_1 rfl ?_
  refine ev_icmp_lt (pc := 3) X 16 dX2_isDigit_3 rfl (fun hc => ?_) (fun hc => ?_)
  · rw [if_pos hc] at h
    exact ev_weak (pc := 16) [] rfl (sX2_isDigit_16  _ _ h p e s m args below meth c r0 A X)
  · rw [if_neg hc] at h
    refine ev_iload_n (pc := 6) X 0 dX2_isDigit_6 rfl rfl ?_
    refine ev_bipush (pc := 7) (v := (57 : Int32)) X dX2_isDigit_7 rfl ?_
    refine ev_icmp_gt (pc := 9) X 16 dX2_isDigit_9 rfl (fun hc => ?_) (fun hc => ?_)
    · rw [if_pos hc] at h
      exact ev_weak (pc := 16) [] rfl (sX2_isDigit_16  _ _ h p e s m args below meth c r0 A X)
    · rw [if_neg hc] at h
      refine ev_iconst (pc := 12) (v := (1 : Int32)) X dX2_isDigit_12 rfl ?_
      refine ev_goto (pc := 13) X 17 dX2_isDigit_13 rfl ?_
      obtain ⟨v1, hv1, h⟩ := eBi h
      obtain rfl := Option.some.inj h
      exact ev_zret (pc := 17) X dX2_isDigit_17 hv1
def fX2_isDigit (a0 : Int32) (w : eW) : Option (Int32 × eW) := fX2_isDigit_0 a0 w
theorem mX2_isDigit {a0 : Int32} {w : eW} {v : Int32} {w' : eW} (h : fX2_isDigit a0 w = some (v, w')) : eMN l D cI cZ 0 yX2_isDigit cX2_isDigit 1 (some .boolean) [.int a0] w (some (.int v)) w' :=
  eMN_of [(0, .int a0)] (plainFor_of_name (by decide)) (fun _ => rfl) (fun _ => Nat.le_of_ble_eq_true rfl) (fun p e s m args below meth c r0 A X => ev_weak (pc := 0) [0] rfl (sX2_isDigit_0 _ _ _ h p e s m args below meth c r0 A X))
theorem dX2_nextToken_0 : decode cX2_nextToken 0 = .ok (.aload_n 0, 1) := by decide +kernel
theorem dX2_nextToken_1 : decode cX2_nextToken 1 = .ok (.getfield 45, 3) := by decide +kernel
theorem dX2_nextToken_4 : decode cX2_nextToken 4 = .ok (.aload_n 0, 1) := by decide +kernel
theorem dX2_nextToken_5 : decode cX2_nextToken 5 = .ok (.getfield 20, 3) := by decide +kernel
theorem dX2_nextToken_8 : decode cX2_nextToken 8 = .ok (.if_icmp .ge 32, 3) := by decide +kernel
theorem dX2_nextToken_11 : decode cX2_nextToken 11 = .ok (.aload_n 0, 1) := by decide +kernel
theorem dX2_nextToken_12 : decode cX2_nextToken 12 = .ok (.getfield 14, 3) := by decide +kernel
theorem dX2_nextToken_15 : decode cX2_nextToken 15 = .ok (.aload_n 0, 1) := by decide +kernel
theorem dX2_nextToken_16 : decode cX2_nextToken 16 = .ok (.getfield 45, 3) := by decide +kernel
theorem dX2_nextToken_19 : decode cX2_nextToken 19 = .ok (.invokevirtual 106, 3) := by decide +kernel
theorem dX2_nextToken_22 : decode cX2_nextToken 22 = .ok (.bipush 32, 2) := by decide +kernel
theorem dX2_nextToken_24 : decode cX2_nextToken 24 = .ok (.if_icmp .ne 16, 3) := by decide +kernel
theorem dX2_nextToken_27 : decode cX2_nextToken 27 = .ok (.aload_n 0, 1) := by decide +kernel
theorem dX2_nextToken_28 : decode cX2_nextToken 28 = .ok (.dup, 1) := by decide +kernel
theorem dX2_nextToken_29 : decode cX2_nextToken 29 = .ok (.getfield 45, 3) := by decide +kernel
theorem dX2_nextToken_32 : decode cX2_nextToken 32 = .ok (.iconst 1, 1) := by decide +kernel
theorem dX2_nextToken_33 : decode cX2_nextToken 33 = .ok (.iadd, 1) := by decide +kernel
theorem dX2_nextToken_34 : decode cX2_nextToken 34 = .ok (.putfield 45, 3) := by decide +kernel
theorem dX2_nextToken_37 : decode cX2_nextToken 37 = .ok (.goto (-37), 3) := by decide +kernel
theorem dX2_nextToken_40 : decode cX2_nextToken 40 = .ok (.aload_n 0, 1) := by decide +kernel
theorem dX2_nextToken_41 : decode cX2_nextToken 41 = .ok (.aload_n 0, 1) := by decide +kernel
theorem dX2_nextToken_42 : decode cX2_nextToken 42 = .ok (.getfield 45, 3) := by decide +kernel
theorem dX2_nextToken_45 : decode cX2_nextToken 45 = .ok (.putfield 58, 3) := by decide +kernel
theorem dX2_nextToken_48 : decode cX2_nextToken 48 = .ok (.aload_n 0, 1) := by decide +kernel
theorem dX2_nextToken_49 : decode cX2_nextToken 49 = .ok (.iconst 0, 1) := by decide +kernel
theorem dX2_nextToken_50 : decode cX2_nextToken 50 = .ok (.putfield 81, 3) := by decide +kernel
theorem dX2_nextToken_53 : decode cX2_nextToken 53 = .ok (.aload_n 0, 1) := by decide +kernel
theorem dX2_nextToken_54 : decode cX2_nextToken 54 = .ok (.getfield 45, 3) := by decide +kernel
theorem dX2_nextToken_57 : decode cX2_nextToken 57 = .ok (.aload_n 0, 1) := by decide +kernel
theorem dX2_nextToken_58 : decode cX2_nextToken 58 = .ok (.getfield 20, 3) := by decide +kernel
theorem dX2_nextToken_61 : decode cX2_nextToken 61 = .ok (.if_icmp .ge 64, 3) := by decide +kernel
theorem dX2_nextToken_64 : decode cX2_nextToken 64 = .ok (.aload_n 0, 1) := by decide +kernel
theorem dX2_nextToken_65 : decode cX2_nextToken 65 = .ok (.getfield 14, 3) := by decide +kernel
theorem dX2_nextToken_68 : decode cX2_nextToken 68 = .ok (.aload_n 0, 1) := by decide +kernel
theorem dX2_nextToken_69 : decode cX2_nextToken 69 = .ok (.getfield 45, 3) := by decide +kernel
theorem dX2_nextToken_72 : decode cX2_nextToken 72 = .ok (.invokevirtual 106, 3) := by decide +kernel
theorem dX2_nextToken_75 : decode cX2_nextToken 75 = .ok (.invokestatic 110, 3) := by decide +kernel
theorem dX2_nextToken_78 : decode cX2_nextToken 78 = .ok (.ifCond .eq 47, 3) := by decide +kernel
theorem dX2_nextToken_81 : decode cX2_nextToken 81 = .ok (.aload_n 0, 1) := by decide +kernel
theorem dX2_nextToken_82 : decode cX2_nextToken 82 = .ok (.aload_n 0, 1) := by decide +kernel
theorem dX2_nextToken_83 : decode cX2_nextToken 83 = .ok (.getfield 81, 3) := by decide +kernel
theorem dX2_nextToken_86 : decode cX2_nextToken 86 = .ok (.bipush 10, 2) := by decide +kernel
theorem dX2_nextToken_88 : decode cX2_nextToken 88 = .ok (.imul, 1) := by decide +kernel
theorem dX2_nextToken_89 : decode cX2_nextToken 89 = .ok (.aload_n 0, 1) := by decide +kernel
theorem dX2_nextToken_90 : decode cX2_nextToken 90 = .ok (.getfield 14, 3) := by decide +kernel
theorem dX2_nextToken_93 : decode cX2_nextToken 93 = .ok (.aload_n 0, 1) := by decide +kernel
theorem dX2_nextToken_94 : decode cX2_nextToken 94 = .ok (.getfield 45, 3) := by decide +kernel
theorem dX2_nextToken_97 : decode cX2_nextToken 97 = .ok (.invokevirtual 106, 3) := by decide +kernel
theorem dX2_nextToken_100 : decode cX2_nextToken 100 = .ok (.iadd, 1) := by decide +kernel
theorem dX2_nextToken_101 : decode cX2_nextToken 101 = .ok (.bipush 48, 2) := by decide +kernel
theorem dX2_nextToken_103 : decode cX2_nextToken 103 = .ok (.isub, 1) := by decide +kernel
theorem dX2_nextToken_104 : decode cX2_nextToken 104 = .ok (.bipush 100, 2) := by decide +kernel
theorem dX2_nextToken_106 : decode cX2_nextToken 106 = .ok (.invokestatic 113, 3) := by decide +kernel
theorem dX2_nextToken_109 : decode cX2_nextToken 109 = .ok (.putfield 81, 3) := by decide +kernel
theorem dX2_nextToken_112 : decode cX2_nextToken 112 = .ok (.aload_n 0, 1) := by decide +kernel
theorem dX2_nextToken_113 : decode cX2_nextToken 113 = .ok (.dup, 1) := by decide +kernel
theorem dX2_nextToken_114 : decode cX2_nextToken 114 = .ok (.getfield 45, 3) := by decide +kernel
theorem dX2_nextToken_117 : decode cX2_nextToken 117 = .ok (.iconst 1, 1) := by decide +kernel
theorem dX2_nextToken_118 : decode cX2_nextToken 118 = .ok (.iadd, 1) := by decide +kernel
theorem dX2_nextToken_119 : decode cX2_nextToken 119 = .ok (.putfield 45, 3) := by decide +kernel
theorem dX2_nextToken_122 : decode cX2_nextToken 122 = .ok (.goto (-69), 3) := by decide +kernel
theorem dX2_nextToken_125 : decode cX2_nextToken 125 = .ok (.aload_n 0, 1) := by decide +kernel
theorem dX2_nextToken_126 : decode cX2_nextToken 126 = .ok (.getfield 45, 3) := by decide +kernel
theorem dX2_nextToken_129 : decode cX2_nextToken 129 = .ok (.aload_n 0, 1) := by decide +kernel
theorem dX2_nextToken_130 : decode cX2_nextToken 130 = .ok (.getfield 58, 3) := by decide +kernel
theorem dX2_nextToken_133 : decode cX2_nextToken 133 = .ok (.isub, 1) := by decide +kernel
theorem dX2_nextToken_134 : decode cX2_nextToken 134 = .ok (.istore_n 1, 1) := by decide +kernel
theorem dX2_nextToken_135 : decode cX2_nextToken 135 = .ok (.iload_n 1, 1) := by decide +kernel
theorem dX2_nextToken_136 : decode cX2_nextToken 136 = .ok (.ifCond .le 57, 3) := by decide +kernel
theorem dX2_nextToken_139 : decode cX2_nextToken 139 = .ok (.iload_n 1, 1) := by decide +kernel
theorem dX2_nextToken_140 : decode cX2_nextToken 140 = .ok (.iconst 1, 1) := by decide +kernel
theorem dX2_nextToken_141 : decode cX2_nextToken 141 = .ok (.if_icmp .le 23, 3) := by decide +kernel
theorem dX2_nextToken_144 : decode cX2_nextToken 144 = .ok (.aload_n 0, 1) := by decide +kernel
theorem dX2_nextToken_145 : decode cX2_nextToken 145 = .ok (.getfield 14, 3) := by decide +kernel
theorem dX2_nextToken_148 : decode cX2_nextToken 148 = .ok (.aload_n 0, 1) := by decide +kernel
theorem dX2_nextToken_149 : decode cX2_nextToken 149 = .ok (.getfield 58, 3) := by decide +kernel
theorem dX2_nextToken_152 : decode cX2_nextToken 152 = .ok (.invokevirtual 106, 3) := by decide +kernel
theorem dX2_nextToken_155 : decode cX2_nextToken 155 = .ok (.bipush 48, 2) := by decide +kernel
theorem dX2_nextToken_157 : decode cX2_nextToken 157 = .ok (.if_icmp .ne 7, 3) := by decide +kernel
theorem dX2_nextToken_160 : decode cX2_nextToken 160 = .ok (.iconst 1, 1) := by decide +kernel
theorem dX2_nextToken_161 : decode cX2_nextToken 161 = .ok (.goto 4, 3) := by decide +kernel
theorem dX2_nextToken_164 : decode cX2_nextToken 164 = .ok (.iconst 0, 1) := by decide +kernel
theorem dX2_nextToken_165 : decode cX2_nextToken 165 = .ok (.istore_n 2, 1) := by decide +kernel
theorem dX2_nextToken_166 : decode cX2_nextToken 166 = .ok (.aload_n 0, 1) := by decide +kernel
theorem dX2_nextToken_167 : decode cX2_nextToken 167 = .ok (.iload_n 2, 1) := by decide +kernel
theorem dX2_nextToken_168 : decode cX2_nextToken 168 = .ok (.ifCond .ne 12, 3) := by decide +kernel
theorem dX2_nextToken_171 : decode cX2_nextToken 171 = .ok (.aload_n 0, 1) := by decide +kernel
theorem dX2_nextToken_172 : decode cX2_nextToken 172 = .ok (.getfield 81, 3) := by decide +kernel
theorem dX2_nextToken_175 : decode cX2_nextToken 175 = .ok (.bipush 99, 2) := by decide +kernel
theorem dX2_nextToken_177 : decode cX2_nextToken 177 = .ok (.if_icmp .le 8, 3) := by decide +kernel
theorem dX2_nextToken_180 : decode cX2_nextToken 180 = .ok (.bipush (-3), 2) := by decide +kernel
theorem dX2_nextToken_182 : decode cX2_nextToken 182 = .ok (.goto 5, 3) := by decide +kernel
theorem dX2_nextToken_185 : decode cX2_nextToken 185 = .ok (.bipush (-2), 2) := by decide +kernel
theorem dX2_nextToken_187 : decode cX2_nextToken 187 = .ok (.putfield 51, 3) := by decide +kernel
theorem dX2_nextToken_190 : decode cX2_nextToken 190 = .ok (.goto 47, 3) := by decide +kernel
theorem dX2_nextToken_193 : decode cX2_nextToken 193 = .ok (.aload_n 0, 1) := by decide +kernel
theorem dX2_nextToken_194 : decode cX2_nextToken 194 = .ok (.getfield 45, 3) := by decide +kernel
theorem dX2_nextToken_197 : decode cX2_nextToken 197 = .ok (.aload_n 0, 1) := by decide +kernel
theorem dX2_nextToken_198 : decode cX2_nextToken 198 = .ok (.getfield 20, 3) := by decide +kernel
theorem dX2_nextToken_201 : decode cX2_nextToken 201 = .ok (.if_icmp .ge 31, 3) := by decide +kernel
theorem dX2_nextToken_204 : decode cX2_nextToken 204 = .ok (.aload_n 0, 1) := by decide +kernel
theorem dX2_nextToken_205 : decode cX2_nextToken 205 = .ok (.aload_n 0, 1) := by decide +kernel
theorem dX2_nextToken_206 : decode cX2_nextToken 206 = .ok (.getfield 14, 3) := by decide +kernel
theorem dX2_nextToken_209 : decode cX2_nextToken 209 = .ok (.aload_n 0, 1) := by decide +kernel
theorem dX2_nextToken_210 : decode cX2_nextToken 210 = .ok (.getfield 45, 3) := by decide +kernel
theorem dX2_nextToken_213 : decode cX2_nextToken 213 = .ok (.invokevirtual 106, 3) := by decide +kernel
theorem dX2_nextToken_216 : decode cX2_nextToken 216 = .ok (.putfield 51, 3) := by decide +kernel
theorem dX2_nextToken_219 : decode cX2_nextToken 219 = .ok (.aload_n 0, 1) := by decide +kernel
theorem dX2_nextToken_220 : decode cX2_nextToken 220 = .ok (.dup, 1) := by decide +kernel
theorem dX2_nextToken_221 : decode cX2_nextToken 221 = .ok (.getfield 45, 3) := by decide +kernel
theorem dX2_nextToken_224 : decode cX2_nextToken 224 = .ok (.iconst 1, 1) := by decide +kernel
theorem dX2_nextToken_225 : decode cX2_nextToken 225 = .ok (.iadd, 1) := by decide +kernel
theorem dX2_nextToken_226 : decode cX2_nextToken 226 = .ok (.putfield 45, 3) := by decide +kernel
theorem dX2_nextToken_229 : decode cX2_nextToken 229 = .ok (.goto 8, 3) := by decide +kernel
theorem dX2_nextToken_232 : decode cX2_nextToken 232 = .ok (.aload_n 0, 1) := by decide +kernel
theorem dX2_nextToken_233 : decode cX2_nextToken 233 = .ok (.iconst (-1), 1) := by decide +kernel
theorem dX2_nextToken_234 : decode cX2_nextToken 234 = .ok (.putfield 51, 3) := by decide +kernel
theorem dX2_nextToken_237 : decode cX2_nextToken 237 = .ok (.return_, 1) := by decide +kernel
def fX2_nextToken_187 (t0 : Nat) (t1 : Int32) (w : eW) : Option (eW) := (eP w t0 2 6 (.int t1)).bind fun w1 => some w1
set_option maxRecDepth 20000 in
theorem sX2_nextToken_187  (t0 : Nat) (t1 : Int32) (w : eW) (r : eW) (h : fX2_nextToken_187 t0 t1 w = some r) : eBN l D cI cZ 1 yX2_nextToken cX2_nextToken 3 none 187 [] [.int t1, .ref t0] w none r := by
  rw [fX2_nextToken_187] at h
  intro p e s m args below meth c r0 A X
  obtain ⟨w1, hw1, h⟩ := eBi h
  refine ev_putI (pc := 187) X hcX2 (k := 6) (by decide) kfX2_51 rfl rfl dX2_nextToken_187 hw1 ?_
  refine ev_goto (pc := 190) X 237 dX2_nextToken_190 rfl ?_
  obtain rfl := Option.some.inj h
  exact ev_vret (pc := 237) X dX2_nextToken_237
def fX2_nextToken_180 (t0 : Nat) (w : eW) : Option (eW) := fX2_nextToken_187 t0 (-3 : Int32) w
set_option maxRecDepth 20000 in
theorem sX2_nextToken_180  (t0 : Nat) (w : eW) (r : eW) (h : fX2_nextToken_180 t0 w = some r) : eBN l D cI cZ 1 yX2_nextToken cX2_nextToken 3 none 180 [] [.ref t0] w none r := by
  rw [fX2_nextToken_180] at h
  intro p e s m args below meth c r0 A X
  refine ev_bipush (pc := 180) (v := (-3 : Int32)) X dX2_nextToken_180 rfl ?_
  refine ev_goto (pc := 182) X 187 dX2_nextToken_182 rfl ?_
  exact ev_weak (pc := 187) [] rfl (sX2_nextToken_187 _ _ _ _ h p e s m args below meth c r0 A X)
def fX2_nextToken_165 (x0 : Nat) (t0 : Int32) (w : eW) : Option (eW) := if t0 = 0 then ((eGI w x0 2 8).bind fun v1 => if v1 ≤ (99 : Int32) then (fX2_nextToken_187 x0 (-2 : Int32) w) else (fX2_nextToken_180 x0 w)) else (fX2_nextToken_180 x0 w)
set_option maxRecDepth 20000 in
theorem sX2_nextToken_165  (x0 : Nat) (t0 : Int32) (w : eW) (r : eW) (h : fX2_nextToken_165 x0 t0 w = some r) : eBN l D cI cZ 1 yX2_nextToken cX2_nextToken 3 none 165 [(0, .ref x0)] [.int t0] w none r := by
  rw [fX2_nextToken_165] at h
  intro p e s m args below meth c r0 A X
  refine ev_istore_n (pc := 165) (L' := [(2, .int t0), (0, .ref x0)]) X dX2_nextToken_165 rfl (by decide) rfl ?_
  refine ev_aload_n (pc := 166) X 1 dX2_nextToken_166 rfl rfl ?_
  refine ev_iload_n (pc := 167) X 0 dX2_nextToken_167 rfl rfl ?_
  refine ev_if_ne (pc := 168) X 180 dX2_nextToken_168 rfl (fun hc => ?_) (fun hc => ?_)
  · rw [if_neg hc] at h
    exact ev_weak (pc := 180) [] rfl (sX2_nextToken_180 _ _ _ h p e s m args below meth c r0 A X)
  · rw [if_pos hc] at h
    refine ev_aload_n (pc := 171) X 1 dX2_nextToken_171 rfl rfl ?_
    obtain ⟨v1, hv1, h⟩ := eBi h
    refine ev_getI (pc := 172) X hcX2 (k := 8) (by decide) kfX2_81 dX2_nextToken_172 hv1 ?_
    refine ev_bipush (pc := 175) (v := (99 : Int32)) X dX2_nextToken_175 rfl ?_
    refine ev_icmp_le (pc := 177) X 185 dX2_nextToken_177 rfl (fun hc => ?_) (fun hc => ?_)
    · rw [if_pos hc] at h
      refine ev_bipush (pc := 185) (v := (-2 : Int32)) X dX2_nextToken_185 rfl ?_
      exact ev_weak (pc := 187) [] rfl (sX2_nextToken_187 _ _ _ _ h p e s m args below meth c r0 A X)
    · rw [if_neg hc] at h
      exact ev_weak (pc := 180) [] rfl (sX2_nextToken_180 _ _ _ h p e s m args below meth c r0 A X)
def fX2_nextToken_164 (x0 : Nat) (w : eW) : Option (eW) := fX2_nextToken_165 x0 (0 : Int32) w
set_option maxRecDepth 20000 in
theorem sX2_nextToken_164  (x0 : Nat) (w : eW) (r : eW) (h : fX2_nextToken_164 x0 w = some r) : eBN l D cI cZ 1 yX2_nextToken cX2_nextToken 3 none 164 [(0, .ref x0)] [] w none r := by
  rw [fX2_nextToken_164] at h
  intro p e s m args below meth c r0 A X
  refine ev_iconst (pc := 164) (v := (0 : Int32)) X dX2_nextToken_164 rfl ?_
  exact ev_weak (pc := 165) [0] rfl (sX2_nextToken_165 _ _ _ _ h p e s m args below meth c r0 A X)
def fX2_nextToken_125 (x0 : Nat) (w : eW) : Option (eW) := (eGI w x0 2 5).bind fun v1 => (eGI w x0 2 7).bind fun v2 => if (v1 - v2) ≤ 0 then ((eGI w x0 2 5).bind fun v3 => (eGI w x0 2 1).bind fun v4 => if v4 ≤ v3 then ((eP w x0 2 6 (.int (-1 : Int32))).bind fun w5 => some w5) else ((eGR w x0 2 0).bind fun v6 => (eGI w x0 2 5).bind fun v7 => eBind2 (fX7_get v6 v7 w) fun v9 w8 => (eP w8 x0 2 6 (.int v9)).bind fun w10 => (eGI w10 x0 2 5).bind fun v11 => (eP w10 x0 2 5 (.int (v11 + (1 : Int32)))).bind fun w12 => some w12)) else (if (v1 - v2) ≤ (1 : Int32) then (fX2_nextToken_164 x0 w) else ((eGR w x0 2 0).bind fun v13 => (eGI w x0 2 7).bind fun v14 => eBind2 (fX7_get v13 v14 w) fun v16 w15 => if v16 = (48 : Int32) then (fX2_nextToken_165 x0 (1 : Int32) w15) else (fX2_nextToken_164 x0 w15)))
set_option maxRecDepth 20000 in
theorem sX2_nextToken_125  (x0 : Nat) (w : eW) (r : eW) (h : fX2_nextToken_125 x0 w = some r) : eBN l D cI cZ 1 yX2_nextToken cX2_nextToken 3 none 125 [(0, .ref x0)] [] w none r := by
  rw [fX2_nextToken_125] at h
  intro p e s m args below meth c r0 A X
  refine ev_aload_n (pc := 125) X 0 dX2_nextToken_125 rfl rfl ?_
  obtain ⟨v1, hv1, h⟩ := eBi h
  refine ev_getI (pc := 126) X hcX2 (k := 5) (by decide) kfX2_45 dX2_nextToken_126 hv1 ?_
  refine ev_aload_n (pc := 129) X 0 dX2_nextToken_129 rfl rfl ?_
  obtain ⟨v2, hv2, h⟩ := eBi h
  refine ev_getI (pc := 130) X hcX2 (k := 7) (by decide) kfX2_58 dX2_nextToken_130 hv2 ?_
  refine ev_isub (pc := 133) X dX2_nextToken_133 ?_
  refine ev_istore_n (pc := 134) (L' := [(1, .int (v1 - v2)), (0, .ref x0)]) X dX2_nextToken_134 rfl (by decide) rfl ?_
  refine ev_iload_n (pc := 135) X 0 dX2_nextToken_135 rfl rfl ?_
  refine ev_if_le (pc := 136) X 193 dX2_nextToken_136 rfl (fun hc => ?_) (fun hc => ?_)
  · rw [if_pos hc] at h
    refine ev_aload_n (pc := 193) X 1 dX2_nextToken_193 rfl rfl ?_
    obtain ⟨v3, hv3, h⟩ := eBi h
    refine ev_getI (pc := 194) X hcX2 (k := 5) (by decide) kfX2_45 dX2_nextToken_194 hv3 ?_
    refine ev_aload_n (pc := 197) X 1 dX2_nextToken_197 rfl rfl ?_
    obtain ⟨v4, hv4, h⟩ := eBi h
    refine ev_getI (pc := 198) X hcX2 (k := 1) (by decide) kfX2_20 dX2_nextToken_198 hv4 ?_
    refine ev_icmp_ge (pc := 201) X 232 dX2_nextToken_201 rfl (fun hc => ?_) (fun hc => ?_)
    · rw [if_pos hc] at h
      refine ev_aload_n (pc := 232) X 1 dX2_nextToken_232 rfl rfl ?_
      refine ev_iconst (pc := 233) (v := (-1 : Int32)) X dX2_nextToken_233 rfl ?_
      obtain ⟨w5, hw5, h⟩ := eBi h
      refine ev_putI (pc := 234) X hcX2 (k := 6) (by decide) kfX2_51 rfl rfl dX2_nextToken_234 hw5 ?_
      obtain rfl := Option.some.inj h
      exact ev_vret (pc := 237) X dX2_nextToken_237
    · rw [if_neg hc] at h
      refine ev_aload_n (pc := 204) X 1 dX2_nextToken_204 rfl rfl ?_
      refine ev_aload_n (pc := 205) X 1 dX2_nextToken_205 rfl rfl ?_
      obtain ⟨v6, hv6, h⟩ := eBi h
      refine ev_getR (pc := 206) X hcX2 (k := 0) (by decide) kfX2_14 dX2_nextToken_206 hv6 ?_
      refine ev_aload_n (pc := 209) X 1 dX2_nextToken_209 rfl rfl ?_
      obtain ⟨v7, hv7, h⟩ := eBi h
      refine ev_getI (pc := 210) X hcX2 (k := 5) (by decide) kfX2_45 dX2_nextToken_210 hv7 ?_
      obtain ⟨v9, w8, hc, h⟩ := eB2 h
      refine ev_callV_i (pc := 213) (As := [.int v7]) (S := [.ref x0]) X hwX7_get klX2_106 hiX7_get hsX7_get (ci := 7) ⟨rfl, rfl⟩ ⟨Nat.le_of_ble_eq_true rfl, Nat.le_of_ble_eq_true rfl⟩ ⟨Nat.le_refl _, Nat.le_refl _⟩ rfl (Nat.le_of_ble_eq_true rfl) dX2_nextToken_213 rfl (mX7_get (l := l) (D := D) (cI := cI) (cZ := cZ) hc).1 (mX7_get hc).2 ?_
      obtain ⟨w10, hw10, h⟩ := eBi h
      refine ev_putI (pc := 216) X hcX2 (k := 6) (by decide) kfX2_51 rfl rfl dX2_nextToken_216 hw10 ?_
      refine ev_aload_n (pc := 219) X 1 dX2_nextToken_219 rfl rfl ?_
      refine ev_dup (pc := 220) X dX2_nextToken_220 rfl ?_
      obtain ⟨v11, hv11, h⟩ := eBi h
      refine ev_getI (pc := 221) X hcX2 (k := 5) (by decide) kfX2_45 dX2_nextToken_221 hv11 ?_
      refine ev_iconst (pc := 224) (v := (1 : Int32)) X dX2_nextToken_224 rfl ?_
      refine ev_iadd (pc := 225) X dX2_nextToken_225 ?_
      obtain ⟨w12, hw12, h⟩ := eBi h
      refine ev_putI (pc := 226) X hcX2 (k := 5) (by decide) kfX2_45 rfl rfl dX2_nextToken_226 hw12 ?_
      refine ev_goto (pc := 229) X 237 dX2_nextToken_229 rfl ?_
      obtain rfl := Option.some.inj h
      exact ev_vret (pc := 237) X dX2_nextToken_237
  · rw [if_neg hc] at h
    refine ev_iload_n (pc := 139) X 0 dX2_nextToken_139 rfl rfl ?_
    refine ev_iconst (pc := 140) (v := (1 : Int32)) X dX2_nextToken_140 rfl ?_
    refine ev_icmp_le (pc := 141) X 164 dX2_nextToken_141 rfl (fun hc => ?_) (fun hc => ?_)
    · rw [if_pos hc] at h
      exact ev_weak (pc := 164) [1] rfl (sX2_nextToken_164 _ _ _ h p e s m args below meth c r0 A X)
    · rw [if_neg hc] at h
      refine ev_aload_n (pc := 144) X 1 dX2_nextToken_144 rfl rfl ?_
      obtain ⟨v13, hv13, h⟩ := eBi h
      refine ev_getR (pc := 145) X hcX2 (k := 0) (by decide) kfX2_14 dX2_nextToken_145 hv13 ?_
      refine ev_aload_n (pc := 148) X 1 dX2_nextToken_148 rfl rfl ?_
      obtain ⟨v14, hv14, h⟩ := eBi h
      refine ev_getI (pc := 149) X hcX2 (k := 7) (by decide) kfX2_58 dX2_nextToken_149 hv14 ?_
      obtain ⟨v16, w15, hc, h⟩ := eB2 h
      refine ev_callV_i (pc := 152) (As := [.int v14]) (S := []) X hwX7_get klX2_106 hiX7_get hsX7_get (ci := 7) ⟨rfl, rfl⟩ ⟨Nat.le_of_ble_eq_true rfl, Nat.le_of_ble_eq_true rfl⟩ ⟨Nat.le_refl _, Nat.le_refl _⟩ rfl (Nat.le_of_ble_eq_true rfl) dX2_nextToken_152 rfl (mX7_get (l := l) (D := D) (cI := cI) (cZ := cZ) hc).1 (mX7_get hc).2 ?_
      refine ev_bipush (pc := 155) (v := (48 : Int32)) X dX2_nextToken_155 rfl ?_
      refine ev_icmp_ne (pc := 157) X 164 dX2_nextToken_157 rfl (fun hc => ?_) (fun hc => ?_)
      · rw [if_neg hc] at h
        exact ev_weak (pc := 164) [1] rfl (sX2_nextToken_164 _ _ _ h p e s m args below meth c r0 A X)
      · rw [if_pos hc] at h
        refine ev_iconst (pc := 160) (v := (1 : Int32)) X dX2_nextToken_160 rfl ?_
        refine ev_goto (pc := 161) X 165 dX2_nextToken_161 rfl ?_
        exact ev_weak (pc := 165) [1] rfl (sX2_nextToken_165 _ _ _ _ h p e s m args below meth c r0 A X)
def fX2_nextToken_53 : Nat → Nat → eW → Option (eW)
  | 0, _, _ => none
  | n + 1, x0, w => (eGI w x0 2 5).bind fun v1 => (eGI w x0 2 1).bind fun v2 => if v2 ≤ v1 then (fX2_nextToken_125 x0 w) else ((eGR w x0 2 0).bind fun v3 => (eGI w x0 2 5).bind fun v4 => eBind2 (fX7_get v3 v4 w) fun v6 w5 => eBind2 (fX2_isDigit v6 w5) fun v8 w7 => if v8 = 0 then (fX2_nextToken_125 x0 w7) else ((eGI w7 x0 2 8).bind fun v9 => (eGR w7 x0 2 0).bind fun v10 => (eGI w7 x0 2 5).bind fun v11 => eBind2 (fX7_get v10 v11 w7) fun v13 w12 => eBind2 (fJ9_min_7cf53 (((v9 * (10 : Int32)) + v13) - (48 : Int32)) (100 : Int32) w12) fun v15 w14 => (eP w14 x0 2 8 (.int v15)).bind fun w16 => (eGI w16 x0 2 5).bind fun v17 => (eP w16 x0 2 5 (.int (v17 + (1 : Int32)))).bind fun w18 => fX2_nextToken_53 n x0 w18))
set_option maxRecDepth 20000 in
theorem sX2_nextToken_53  : ∀ (n : Nat) (x0 : Nat) (w : eW) (r : eW), fX2_nextToken_53 n x0 w = some r → eBN l D cI cZ 1 yX2_nextToken cX2_nextToken 3 none 53 [(0, .ref x0)] [] w none r := by
  intro n
  induction n with
  | zero => intro x0 w r h; exact absurd (show (none : Option (eW)) = some r from h) (by simp)
  | succ n ih =>
    intro x0 w r h
    rw [fX2_nextToken_53] at h
    intro p e s m args below meth c r0 A X
    refine ev_aload_n (pc := 53) X 0 dX2_nextToken_53 rfl rfl ?_
    obtain ⟨v1, hv1, h⟩ := eBi h
    refine ev_getI (pc := 54) X hcX2 (k := 5) (by decide) kfX2_45 dX2_nextToken_54 hv1 ?_
    refine ev_aload_n (pc := 57) X 0 dX2_nextToken_57 rfl rfl ?_
    obtain ⟨v2, hv2, h⟩ := eBi h
    refine ev_getI (pc := 58) X hcX2 (k := 1) (by decide) kfX2_20 dX2_nextToken_58 hv2 ?_
    refine ev_icmp_ge (pc := 61) X 125 dX2_nextToken_61 rfl (fun hc => ?_) (fun hc => ?_)
    · rw [if_pos hc] at h
      exact ev_weak (pc := 125) [0] rfl (sX2_nextToken_125 _ _ _ h p e s m args below meth c r0 A X)
    · rw [if_neg hc] at h
      refine ev_aload_n (pc := 64) X 0 dX2_nextToken_64 rfl rfl ?_
      obtain ⟨v3, hv3, h⟩ := eBi h
      refine ev_getR (pc := 65) X hcX2 (k := 0) (by decide) kfX2_14 dX2_nextToken_65 hv3 ?_
      refine ev_aload_n (pc := 68) X 0 dX2_nextToken_68 rfl rfl ?_
      obtain ⟨v4, hv4, h⟩ := eBi h
      refine ev_getI (pc := 69) X hcX2 (k := 5) (by decide) kfX2_45 dX2_nextToken_69 hv4 ?_
      obtain ⟨v6, w5, hc, h⟩ := eB2 h
      refine ev_callV_i (pc := 72) (As := [.int v4]) (S := []) X hwX7_get klX2_106 hiX7_get hsX7_get (ci := 7) ⟨rfl, rfl⟩ ⟨Nat.le_of_ble_eq_true rfl, Nat.le_of_ble_eq_true rfl⟩ ⟨Nat.le_refl _, Nat.le_refl _⟩ rfl (Nat.le_of_ble_eq_true rfl) dX2_nextToken_72 rfl (mX7_get (l := l) (D := D) (cI := cI) (cZ := cZ) hc).1 (mX7_get hc).2 ?_
      obtain ⟨v8, w7, hc, h⟩ := eB2 h
      refine ev_callS_i (pc := 75) (As := [.int v6]) (S := []) X hwX2_isDigit klX2_110 htX2_isDigit ⟨Nat.le_of_ble_eq_true rfl, Nat.le_of_ble_eq_true rfl⟩ ⟨Nat.le_refl _, Nat.le_refl _⟩ rfl (Nat.le_of_ble_eq_true rfl) dX2_nextToken_75 rfl (mX2_isDigit hc) ?_
      refine ev_if_eq (pc := 78) X 125 dX2_nextToken_78 rfl (fun hc => ?_) (fun hc => ?_)
      · rw [if_pos hc] at h
        exact ev_weak (pc := 125) [0] rfl (sX2_nextToken_125 _ _ _ h p e s m args below meth c r0 A X)
      · rw [if_neg hc] at h
        refine ev_aload_n (pc := 81) X 0 dX2_nextToken_81 rfl rfl ?_
        refine ev_aload_n (pc := 82) X 0 dX2_nextToken_82 rfl rfl ?_
        obtain ⟨v9, hv9, h⟩ := eBi h
        refine ev_getI (pc := 83) X hcX2 (k := 8) (by decide) kfX2_81 dX2_nextToken_83 hv9 ?_
        refine ev_bipush (pc := 86) (v := (10 : Int32)) X dX2_nextToken_86 rfl ?_
        refine ev_imul (pc := 88) X dX2_nextToken_88 ?_
        refine ev_aload_n (pc := 89) X 0 dX2_nextToken_89 rfl rfl ?_
        obtain ⟨v10, hv10, h⟩ := eBi h
        refine ev_getR (pc := 90) X hcX2 (k := 0) (by decide) kfX2_14 dX2_nextToken_90 hv10 ?_
        refine ev_aload_n (pc := 93) X 0 dX2_nextToken_93 rfl rfl ?_
        obtain ⟨v11, hv11, h⟩ := eBi h
        refine ev_getI (pc := 94) X hcX2 (k := 5) (by decide) kfX2_45 dX2_nextToken_94 hv11 ?_
        obtain ⟨v13, w12, hc, h⟩ := eB2 h
        refine ev_callV_i (pc := 97) (As := [.int v11]) (S := [.int (v9 * (10 : Int32)), .ref x0]) X hwX7_get klX2_106 hiX7_get hsX7_get (ci := 7) ⟨rfl, rfl⟩ ⟨Nat.le_of_ble_eq_true rfl, Nat.le_of_ble_eq_true rfl⟩ ⟨Nat.le_refl _, Nat.le_refl _⟩ rfl (Nat.le_of_ble_eq_true rfl) dX2_nextToken_97 rfl (mX7_get (l := l) (D := D) (cI := cI) (cZ := cZ) hc).1 (mX7_get hc).2 ?_
        refine ev_iadd (pc := 100) X dX2_nextToken_100 ?_
        refine ev_bipush (pc := 101) (v := (48 : Int32)) X dX2_nextToken_101 rfl ?_
        refine ev_isub (pc := 103) X dX2_nextToken_103 ?_
        refine ev_bipush (pc := 104) (v := (100 : Int32)) X dX2_nextToken_104 rfl ?_
        obtain ⟨v15, w14, hc, h⟩ := eB2 h
        refine ev_callS_i (pc := 106) (As := [.int (((v9 * (10 : Int32)) + v13) - (48 : Int32)), .int (100 : Int32)]) (S := [.ref x0]) X hwJ9_min_7cf53 klX2_113 htJ9_min_7cf53 ⟨Nat.le_of_ble_eq_true rfl, Nat.le_of_ble_eq_true rfl⟩ ⟨Nat.le_refl _, Nat.le_refl _⟩ rfl (Nat.le_of_ble_eq_true rfl) dX2_nextToken_106 rfl (mJ9_min_7cf53 hc) ?_
        obtain ⟨w16, hw16, h⟩ := eBi h
        refine ev_putI (pc := 109) X hcX2 (k := 8) (by decide) kfX2_81 rfl rfl dX2_nextToken_109 hw16 ?_
        refine ev_aload_n (pc := 112) X 0 dX2_nextToken_112 rfl rfl ?_
        refine ev_dup (pc := 113) X dX2_nextToken_113 rfl ?_
        obtain ⟨v17, hv17, h⟩ := eBi h
        refine ev_getI (pc := 114) X hcX2 (k := 5) (by decide) kfX2_45 dX2_nextToken_114 hv17 ?_
        refine ev_iconst (pc := 117) (v := (1 : Int32)) X dX2_nextToken_117 rfl ?_
        refine ev_iadd (pc := 118) X dX2_nextToken_118 ?_
        obtain ⟨w18, hw18, h⟩ := eBi h
        refine ev_putI (pc := 119) X hcX2 (k := 5) (by decide) kfX2_45 rfl rfl dX2_nextToken_119 hw18 ?_
        refine ev_goto (pc := 122) X 53 dX2_nextToken_122 rfl ?_
        exact ev_weak (pc := 53) [0] rfl (ih _ _ _ h p e s m args below meth c r0 A X)
def fX2_nextToken_40 (x0 : Nat) (w : eW) : Option (eW) := (eGI w x0 2 5).bind fun v1 => (eP w x0 2 7 (.int v1)).bind fun w2 => (eP w2 x0 2 8 (.int (0 : Int32))).bind fun w3 => fX2_nextToken_53 eN x0 w3
set_option maxRecDepth 20000 in
theorem sX2_nextToken_40  (x0 : Nat) (w : eW) (r : eW) (h : fX2_nextToken_40 x0 w = some r) : eBN l D cI cZ 1 yX2_nextToken cX2_nextToken 3 none 40 [(0, .ref x0)] [] w none r := by
  rw [fX2_nextToken_40] at h
  intro p e s m args below meth c r0 A X
  refine ev_aload_n (pc := 40) X 0 dX2_nextToken_40 rfl rfl ?_
  refine ev_aload_n (pc := 41) X 0 dX2_nextToken_41 rfl rfl ?_
  obtain ⟨v1, hv1, h⟩ := eBi h
  refine ev_getI (pc := 42) X hcX2 (k := 5) (by decide) kfX2_45 dX2_nextToken_42 hv1 ?_
  obtain ⟨w2, hw2, h⟩ := eBi h
  refine ev_putI (pc := 45) X hcX2 (k := 7) (by decide) kfX2_58 rfl rfl dX2_nextToken_45 hw2 ?_
  refine ev_aload_n (pc := 48) X 0 dX2_nextToken_48 rfl rfl ?_
  refine ev_iconst (pc := 49) (v := (0 : Int32)) X dX2_nextToken_49 rfl ?_
  obtain ⟨w3, hw3, h⟩ := eBi h
  refine ev_putI (pc := 50) X hcX2 (k := 8) (by decide) kfX2_81 rfl rfl dX2_nextToken_50 hw3 ?_
  exact ev_weak (pc := 53) [0] rfl (sX2_nextToken_53 eN _ _ _ h p e s m args below meth c r0 A X)
def fX2_nextToken_0 : Nat → Nat → eW → Option (eW)
  | 0, _, _ => none
  | n + 1, x0, w => (eGI w x0 2 5).bind fun v1 => (eGI w x0 2 1).bind fun v2 => if v2 ≤ v1 then (fX2_nextToken_40 x0 w) else ((eGR w x0 2 0).bind fun v3 => (eGI w x0 2 5).bind fun v4 => eBind2 (fX7_get v3 v4 w) fun v6 w5 => if v6 = (32 : Int32) then ((eGI w5 x0 2 5).bind fun v7 => (eP w5 x0 2 5 (.int (v7 + (1 : Int32)))).bind fun w8 => fX2_nextToken_0 n x0 w8) else (fX2_nextToken_40 x0 w5))
set_option maxRecDepth 20000 in
theorem sX2_nextToken_0  : ∀ (n : Nat) (x0 : Nat) (w : eW) (r : eW), fX2_nextToken_0 n x0 w = some r → eBN l D cI cZ 1 yX2_nextToken cX2_nextToken 3 none 0 [(0, .ref x0)] [] w none r := by
  intro n
  induction n with
  | zero => intro x0 w r h; exact absurd (show (none : Option (eW)) = some r from h) (by simp)
  | succ n ih =>
    intro x0 w r h
    rw [fX2_nextToken_0] at h
    intro p e s m args below meth c r0 A X
    refine ev_aload_n (pc := 0) X 0 dX2_nextToken_0 rfl rfl ?_
    obtain ⟨v1, hv1, h⟩ := eBi h
    refine ev_getI (pc := 1) X hcX2 (k := 5) (by decide) kfX2_45 dX2_nextToken_1 hv1 ?_
    refine ev_aload_n (pc := 4) X 0 dX2_nextToken_4 rfl rfl ?_
    obtain ⟨v2, hv2, h⟩ := eBi h
    refine ev_getI (pc := 5) X hcX2 (k := 1) (by decide) kfX2_20 dX2_nextToken_5 hv2 ?_
    refine ev_icmp_ge (pc := 8) X 40 dX2_nextToken_8 rfl (fun hc => ?_) (fun hc => ?_)
    · rw [if_pos hc] at h
      exact ev_weak (pc := 40) [0] rfl (sX2_nextToken_40 _ _ _ h p e s m args below meth c r0 A X)
    · rw [if_neg hc] at h
      refine ev_aload_n (pc := 11) X 0 dX2_nextToken_11 rfl rfl ?_
      obtain ⟨v3, hv3, h⟩ := eBi h
      refine ev_getR (pc := 12) X hcX2 (k := 0) (by decide) kfX2_14 dX2_nextToken_12 hv3 ?_
      refine ev_aload_n (pc := 15) X 0 dX2_nextToken_15 rfl rfl ?_
      obtain ⟨v4, hv4, h⟩ := eBi h
      refine ev_getI (pc := 16) X hcX2 (k := 5) (by decide) kfX2_45 dX2_nextToken_16 hv4 ?_
      obtain ⟨v6, w5, hc, h⟩ := eB2 h
      refine ev_callV_i (pc := 19) (As := [.int v4]) (S := []) X hwX7_get klX2_106 hiX7_get hsX7_get (ci := 7) ⟨rfl, rfl⟩ ⟨Nat.le_of_ble_eq_true rfl, Nat.le_of_ble_eq_true rfl⟩ ⟨Nat.le_refl _, Nat.le_refl _⟩ rfl (Nat.le_of_ble_eq_true rfl) dX2_nextToken_19 rfl (mX7_get (l := l) (D := D) (cI := cI) (cZ := cZ) hc).1 (mX7_get hc).2 ?_
      refine ev_bipush (pc := 22) (v := (32 : Int32)) X dX2_nextToken_22 rfl ?_
      refine ev_icmp_ne (pc := 24) X 40 dX2_nextToken_24 rfl (fun hc => ?_) (fun hc => ?_)
      · rw [if_neg hc] at h
        exact ev_weak (pc := 40) [0] rfl (sX2_nextToken_40 _ _ _ h p e s m args below meth c r0 A X)
      · rw [if_pos hc] at h
        refine ev_aload_n (pc := 27) X 0 dX2_nextToken_27 rfl rfl ?_
        refine ev_dup (pc := 28) X dX2_nextToken_28 rfl ?_
        obtain ⟨v7, hv7, h⟩ := eBi h
        refine ev_getI (pc := 29) X hcX2 (k := 5) (by decide) kfX2_45 dX2_nextToken_29 hv7 ?_
        refine ev_iconst (pc := 32) (v := (1 : Int32)) X dX2_nextToken_32 rfl ?_
        refine ev_iadd (pc := 33) X dX2_nextToken_33 ?_
        obtain ⟨w8, hw8, h⟩ := eBi h
        refine ev_putI (pc := 34) X hcX2 (k := 5) (by decide) kfX2_45 rfl rfl dX2_nextToken_34 hw8 ?_
        refine ev_goto (pc := 37) X 0 dX2_nextToken_37 rfl ?_
        exact ev_weak (pc := 0) [0] rfl (ih _ _ _ h p e s m args below meth c r0 A X)
def fX2_nextToken (a0 : Nat) (w : eW) : Option (eW) := bif eO w a0 2 then fX2_nextToken_0 eN a0 w else none
theorem mX2_nextToken {a0 : Nat} {w : eW} {w' : eW} (h : fX2_nextToken a0 w = some w') : eO w a0 2 = true ∧ eMN l D cI cZ 1 yX2_nextToken cX2_nextToken 3 none [.ref a0] w none w' := by
  obtain ⟨h0, h⟩ := eBif h
  exact ⟨h0, eMN_of [(0, .ref a0)] (plainFor_of_name (by decide)) (fun _ => rfl) (fun _ => Nat.le_of_ble_eq_true rfl) (fun p e s m args below meth c r0 A X => ev_weak (pc := 0) [0] rfl (sX2_nextToken_0 eN _ _ _ h p e s m args below meth c r0 A X))⟩
theorem dX2_readNumber_0 : decode cX2_readNumber 0 = .ok (.aload_n 0, 1) := by decide +kernel
theorem dX2_readNumber_1 : decode cX2_readNumber 1 = .ok (.invokevirtual 48, 3) := by decide +kernel
theorem dX2_readNumber_4 : decode cX2_readNumber 4 = .ok (.aload_n 0, 1) := by decide +kernel
theorem dX2_readNumber_5 : decode cX2_readNumber 5 = .ok (.getfield 51, 3) := by decide +kernel
theorem dX2_readNumber_8 : decode cX2_readNumber 8 = .ok (.bipush (-2), 2) := by decide +kernel
theorem dX2_readNumber_10 : decode cX2_readNumber 10 = .ok (.if_icmp .ne 23, 3) := by decide +kernel
theorem dX2_readNumber_13 : decode cX2_readNumber 13 = .ok (.aload_n 0, 1) := by decide +kernel
theorem dX2_readNumber_14 : decode cX2_readNumber 14 = .ok (.getfield 81, 3) := by decide +kernel
theorem dX2_readNumber_17 : decode cX2_readNumber 17 = .ok (.iload_n 1, 1) := by decide +kernel
theorem dX2_readNumber_18 : decode cX2_readNumber 18 = .ok (.if_icmp .lt 15, 3) := by decide +kernel
theorem dX2_readNumber_21 : decode cX2_readNumber 21 = .ok (.aload_n 0, 1) := by decide +kernel
theorem dX2_readNumber_22 : decode cX2_readNumber 22 = .ok (.getfield 81, 3) := by decide +kernel
theorem dX2_readNumber_25 : decode cX2_readNumber 25 = .ok (.iload_n 2, 1) := by decide +kernel
theorem dX2_readNumber_26 : decode cX2_readNumber 26 = .ok (.if_icmp .gt 7, 3) := by decide +kernel
theorem dX2_readNumber_29 : decode cX2_readNumber 29 = .ok (.iconst 1, 1) := by decide +kernel
theorem dX2_readNumber_30 : decode cX2_readNumber 30 = .ok (.goto 4, 3) := by decide +kernel
theorem dX2_readNumber_33 : decode cX2_readNumber 33 = .ok (.iconst 0, 1) := by decide +kernel
theorem dX2_readNumber_34 : decode cX2_readNumber 34 = .ok (.ireturn, 1) := by decide +kernel
def fX2_readNumber_33  (w : eW) : Option (Int32 × eW) := (eZ (0 : Int32)).bind fun v1 => some (v1, w)
set_option maxRecDepth 20000 in
theorem sX2_readNumber_33   (w : eW) (r : Int32 × eW) (h : fX2_readNumber_33  w = some r) : eBN l D cI cZ 2 yX2_readNumber cX2_readNumber 3 (some .boolean) 33 [] [] w (some (.int r.1)) r.2 := by
  rw [fX2_readNumber_33] at h
  intro p e s m args below meth c r0 A X
  refine ev_iconst (pc := 33) (v := (0 : Int32)) X dX2_readNumber_33 rfl ?_
  obtain ⟨v1, hv1, h⟩ := eBi h
  obtain rfl := Option.some.inj h
  exact ev_zret (pc := 34) X dX2_readNumber_34 hv1
def fX2_readNumber_0 (x0 : Nat) (x1 : Int32) (x2 : Int32) (w : eW) : Option (Int32 × eW) := (fX2_nextToken x0 w).bind fun w1 => (eGI w1 x0 2 6).bind fun v2 => if v2 = (-2 : Int32) then ((eGI w1 x0 2 8).bind fun v3 => if v3 < x1 then (fX2_readNumber_33 w1) else ((eGI w1 x0 2 8).bind fun v4 => if x2 < v4 then (fX2_readNumber_33 w1) else ((eZ (1 : Int32)).bind fun v5 => some (v5, w1)))) else (fX2_readNumber_33 w1)
set_option maxRecDepth 20000 in
theorem sX2_readNumber_0  (x0 : Nat) (x1 : Int32) (x2 : Int32) (w : eW) (r : Int32 × eW) (h : fX2_readNumber_0 x0 x1 x2 w = some r) : eBN l D cI cZ 2 yX2_readNumber cX2_readNumber 3 (some .boolean) 0 [(0, .ref x0), (1, .int x1), (2, .int x2)] [] w (some (.int r.1)) r.2 := by
  rw [fX2_readNumber_0] at h
  intro p e s m args below meth c r0 A X
  refine ev_aload_n (pc := 0) X 0 dX2_readNumber_0 rfl rfl ?_
  obtain ⟨w1, hc, h⟩ := eBi h
  refine ev_callV_v (pc := 1) (As := []) (S := []) X hwX2_nextToken klX2_48 hiX2_nextToken hsX2_nextToken (ci := 2) ⟨rfl, rfl⟩ ⟨Nat.le_of_ble_eq_true rfl, Nat.le_of_ble_eq_true rfl⟩ ⟨Nat.le_refl _, Nat.le_refl _⟩ rfl (Nat.le_of_ble_eq_true rfl) dX2_readNumber_1 rfl (mX2_nextToken (l := l) (D := D) (cI := cI) (cZ := cZ) hc).1 (mX2_nextToken hc).2 ?_
  refine ev_aload_n (pc := 4) X 0 dX2_readNumber_4 rfl rfl ?_
  obtain ⟨v2, hv2, h⟩ := eBi h
  refine ev_getI (pc := 5) X hcX2 (k := 6) (by decide) kfX2_51 dX2_readNumber_5 hv2 ?_
  refine ev_bipush (pc := 8) (v := (-2 : Int32)) X dX2_readNumber_8 rfl ?_
  refine ev_icmp_ne (pc := 10) X 33 dX2_readNumber_10 rfl (fun hc => ?_) (fun hc => ?_)
  · rw [if_neg hc] at h
    exact ev_weak (pc := 33) [] rfl (sX2_readNumber_33  _ _ h p e s m args below meth c r0 A X)
  · rw [if_pos hc] at h
    refine ev_aload_n (pc := 13) X 0 dX2_readNumber_13 rfl rfl ?_
    obtain ⟨v3, hv3, h⟩ := eBi h
    refine ev_getI (pc := 14) X hcX2 (k := 8) (by decide) kfX2_81 dX2_readNumber_14 hv3 ?_
    refine ev_iload_n (pc := 17) X 1 dX2_readNumber_17 rfl rfl ?_
    refine ev_icmp_lt (pc := 18) X 33 dX2_readNumber_18 rfl (fun hc => ?_) (fun hc => ?_)
    · rw [if_pos hc] at h
      exact ev_weak (pc := 33) [] rfl (sX2_readNumber_33  _ _ h p e s m args below meth c r0 A X)
    · rw [if_neg hc] at h
      refine ev_aload_n (pc := 21) X 0 dX2_readNumber_21 rfl rfl ?_
      obtain ⟨v4, hv4, h⟩ := eBi h
      refine ev_getI (pc := 22) X hcX2 (k := 8) (by decide) kfX2_81 dX2_readNumber_22 hv4 ?_
      refine ev_iload_n (pc := 25) X 2 dX2_readNumber_25 rfl rfl ?_
      refine ev_icmp_gt (pc := 26) X 33 dX2_readNumber_26 rfl (fun hc => ?_) (fun hc => ?_)
      · rw [if_pos hc] at h
        exact ev_weak (pc := 33) [] rfl (sX2_readNumber_33  _ _ h p e s m args below meth c r0 A X)
      · rw [if_neg hc] at h
        refine ev_iconst (pc := 29) (v := (1 : Int32)) X dX2_readNumber_29 rfl ?_
        refine ev_goto (pc := 30) X 34 dX2_readNumber_30 rfl ?_
        obtain ⟨v5, hv5, h⟩ := eBi h
        obtain rfl := Option.some.inj h
        exact ev_zret (pc := 34) X dX2_readNumber_34 hv5
def fX2_readNumber (a0 : Nat) (a1 : Int32) (a2 : Int32) (w : eW) : Option (Int32 × eW) := bif eO w a0 2 then fX2_readNumber_0 a0 a1 a2 w else none
theorem mX2_readNumber {a0 : Nat} {a1 : Int32} {a2 : Int32} {w : eW} {v : Int32} {w' : eW} (h : fX2_readNumber a0 a1 a2 w = some (v, w')) : eO w a0 2 = true ∧ eMN l D cI cZ 2 yX2_readNumber cX2_readNumber 3 (some .boolean) [.ref a0, .int a1, .int a2] w (some (.int v)) w' := by
  obtain ⟨h0, h⟩ := eBif h
  exact ⟨h0, eMN_of [(0, .ref a0), (1, .int a1), (2, .int a2)] (plainFor_of_name (by decide)) (fun _ => rfl) (fun _ => Nat.le_of_ble_eq_true rfl) (fun p e s m args below meth c r0 A X => ev_weak (pc := 0) [0, 1, 2] rfl (sX2_readNumber_0 _ _ _ _ _ h p e s m args below meth c r0 A X))⟩
theorem dX2_readItemEnd_0 : decode cX2_readItemEnd 0 = .ok (.aload_n 0, 1) := by decide +kernel
theorem dX2_readItemEnd_1 : decode cX2_readItemEnd 1 = .ok (.invokevirtual 48, 3) := by decide +kernel
theorem dX2_readItemEnd_4 : decode cX2_readItemEnd 4 = .ok (.aload_n 0, 1) := by decide +kernel
theorem dX2_readItemEnd_5 : decode cX2_readItemEnd 5 = .ok (.getfield 51, 3) := by decide +kernel
theorem dX2_readItemEnd_8 : decode cX2_readItemEnd 8 = .ok (.bipush 59, 2) := by decide +kernel
theorem dX2_readItemEnd_10 : decode cX2_readItemEnd 10 = .ok (.if_icmp .ne 7, 3) := by decide +kernel
theorem dX2_readItemEnd_13 : decode cX2_readItemEnd 13 = .ok (.iconst 1, 1) := by decide +kernel
theorem dX2_readItemEnd_14 : decode cX2_readItemEnd 14 = .ok (.goto 4, 3) := by decide +kernel
theorem dX2_readItemEnd_17 : decode cX2_readItemEnd 17 = .ok (.iconst 0, 1) := by decide +kernel
theorem dX2_readItemEnd_18 : decode cX2_readItemEnd 18 = .ok (.ireturn, 1) := by decide +kernel
def fX2_readItemEnd_0 (x0 : Nat) (w : eW) : Option (Int32 × eW) := (fX2_nextToken x0 w).bind fun w1 => (eGI w1 x0 2 6).bind fun v2 => if v2 = (59 : Int32) then ((eZ (1 : Int32)).bind fun v4 => some (v4, w1)) else ((eZ (0 : Int32)).bind fun v3 => some (v3, w1))
set_option maxRecDepth 20000 in
theorem sX2_readItemEnd_0  (x0 : Nat) (w : eW) (r : Int32 × eW) (h : fX2_readItemEnd_0 x0 w = some r) : eBN l D cI cZ 2 yX2_readItemEnd cX2_readItemEnd 1 (some .boolean) 0 [(0, .ref x0)] [] w (some (.int r.1)) r.2 := by
  rw [fX2_readItemEnd_0] at h
  intro p e s m args below meth c r0 A X
  refine ev_aload_n (pc := 0) X 0 dX2_readItemEnd_0 rfl rfl ?_
  obtain ⟨w1, hc, h⟩ := eBi h
  refine ev_callV_v (pc := 1) (As := []) (S := []) X hwX2_nextToken klX2_48 hiX2_nextToken hsX2_nextToken (ci := 2) ⟨rfl, rfl⟩ ⟨Nat.le_of_ble_eq_true rfl, Nat.le_of_ble_eq_true rfl⟩ ⟨Nat.le_refl _, Nat.le_refl _⟩ rfl (Nat.le_of_ble_eq_true rfl) dX2_readItemEnd_1 rfl (mX2_nextToken (l := l) (D := D) (cI := cI) (cZ := cZ) hc).1 (mX2_nextToken hc).2 ?_
  refine ev_aload_n (pc := 4) X 0 dX2_readItemEnd_4 rfl rfl ?_
  obtain ⟨v2, hv2, h⟩ := eBi h
  refine ev_getI (pc := 5) X hcX2 (k := 6) (by decide) kfX2_51 dX2_readItemEnd_5 hv2 ?_
  refine ev_bipush (pc := 8) (v := (59 : Int32)) X dX2_readItemEnd_8 rfl ?_
  refine ev_icmp_ne (pc := 10) X 17 dX2_readItemEnd_10 rfl (fun hc => ?_) (fun hc => ?_)
  · rw [if_neg hc] at h
    refine ev_iconst (pc := 17) (v := (0 : Int32)) X dX2_readItemEnd_17 rfl ?_
    obtain ⟨v3, hv3, h⟩ := eBi h
    obtain rfl := Option.some.inj h
    exact ev_zret (pc := 18) X dX2_readItemEnd_18 hv3
  · rw [if_pos hc] at h
    refine ev_iconst (pc := 13) (v := (1 : Int32)) X dX2_readItemEnd_13 rfl ?_
    refine ev_goto (pc := 14) X 18 dX2_readItemEnd_14 rfl ?_
    obtain ⟨v4, hv4, h⟩ := eBi h
    obtain rfl := Option.some.inj h
    exact ev_zret (pc := 18) X dX2_readItemEnd_18 hv4
def fX2_readItemEnd (a0 : Nat) (w : eW) : Option (Int32 × eW) := bif eO w a0 2 then fX2_readItemEnd_0 a0 w else none
theorem mX2_readItemEnd {a0 : Nat} {w : eW} {v : Int32} {w' : eW} (h : fX2_readItemEnd a0 w = some (v, w')) : eO w a0 2 = true ∧ eMN l D cI cZ 2 yX2_readItemEnd cX2_readItemEnd 1 (some .boolean) [.ref a0] w (some (.int v)) w' := by
  obtain ⟨h0, h⟩ := eBif h
  exact ⟨h0, eMN_of [(0, .ref a0)] (plainFor_of_name (by decide)) (fun _ => rfl) (fun _ => Nat.le_of_ble_eq_true rfl) (fun p e s m args below meth c r0 A X => ev_weak (pc := 0) [0] rfl (sX2_readItemEnd_0 _ _ _ h p e s m args below meth c r0 A X))⟩
theorem dX2_readSize_0 : decode cX2_readSize 0 = .ok (.aload_n 0, 1) := by decide +kernel
theorem dX2_readSize_1 : decode cX2_readSize 1 = .ok (.iconst 2, 1) := by decide +kernel
theorem dX2_readSize_2 : decode cX2_readSize 2 = .ok (.iconst 5, 1) := by decide +kernel
theorem dX2_readSize_3 : decode cX2_readSize 3 = .ok (.invokevirtual 77, 3) := by decide +kernel
theorem dX2_readSize_6 : decode cX2_readSize 6 = .ok (.ifCond .ne 5, 3) := by decide +kernel
theorem dX2_readSize_9 : decode cX2_readSize 9 = .ok (.iconst 0, 1) := by decide +kernel
theorem dX2_readSize_10 : decode cX2_readSize 10 = .ok (.ireturn, 1) := by decide +kernel
theorem dX2_readSize_11 : decode cX2_readSize 11 = .ok (.aload_n 0, 1) := by decide +kernel
theorem dX2_readSize_12 : decode cX2_readSize 12 = .ok (.getfield 81, 3) := by decide +kernel
theorem dX2_readSize_15 : decode cX2_readSize 15 = .ok (.istore_n 1, 1) := by decide +kernel
theorem dX2_readSize_16 : decode cX2_readSize 16 = .ok (.aload_n 0, 1) := by decide +kernel
theorem dX2_readSize_17 : decode cX2_readSize 17 = .ok (.iconst 2, 1) := by decide +kernel
theorem dX2_readSize_18 : decode cX2_readSize 18 = .ok (.iconst 4, 1) := by decide +kernel
theorem dX2_readSize_19 : decode cX2_readSize 19 = .ok (.invokevirtual 77, 3) := by decide +kernel
theorem dX2_readSize_22 : decode cX2_readSize 22 = .ok (.ifCond .ne 5, 3) := by decide +kernel
theorem dX2_readSize_25 : decode cX2_readSize 25 = .ok (.iconst 0, 1) := by decide +kernel
theorem dX2_readSize_26 : decode cX2_readSize 26 = .ok (.ireturn, 1) := by decide +kernel
theorem dX2_readSize_27 : decode cX2_readSize 27 = .ok (.aload_n 0, 1) := by decide +kernel
theorem dX2_readSize_28 : decode cX2_readSize 28 = .ok (.getfield 27, 3) := by decide +kernel
theorem dX2_readSize_31 : decode cX2_readSize 31 = .ok (.iload_n 1, 1) := by decide +kernel
theorem dX2_readSize_32 : decode cX2_readSize 32 = .ok (.aload_n 0, 1) := by decide +kernel
theorem dX2_readSize_33 : decode cX2_readSize 33 = .ok (.getfield 81, 3) := by decide +kernel
theorem dX2_readSize_36 : decode cX2_readSize 36 = .ok (.invokevirtual 84, 3) := by decide +kernel
theorem dX2_readSize_39 : decode cX2_readSize 39 = .ok (.aload_n 0, 1) := by decide +kernel
theorem dX2_readSize_40 : decode cX2_readSize 40 = .ok (.invokevirtual 87, 3) := by decide +kernel
theorem dX2_readSize_43 : decode cX2_readSize 43 = .ok (.ireturn, 1) := by decide +kernel
def fX2_readSize_0 (x0 : Nat) (w : eW) : Option (Int32 × eW) := eBind2 (fX2_readNumber x0 (2 : Int32) (5 : Int32) w) fun v2 w1 => if v2 = 0 then ((eZ (0 : Int32)).bind fun v13 => some (v13, w1)) else ((eGI w1 x0 2 8).bind fun v3 => eBind2 (fX2_readNumber x0 (2 : Int32) (4 : Int32) w1) fun v5 w4 => if v5 = 0 then ((eZ (0 : Int32)).bind fun v12 => some (v12, w4)) else ((eGR w4 x0 2 2).bind fun v6 => (eGI w4 x0 2 8).bind fun v7 => (fX1_setSize v6 v3 v7 w4).bind fun w8 => eBind2 (fX2_readItemEnd x0 w8) fun v10 w9 => (eZ v10).bind fun v11 => some (v11, w9)))
set_option maxRecDepth 20000 in
theorem sX2_readSize_0  (x0 : Nat) (w : eW) (r : Int32 × eW) (h : fX2_readSize_0 x0 w = some r) : eBN l D cI cZ 3 yX2_readSize cX2_readSize 2 (some .boolean) 0 [(0, .ref x0)] [] w (some (.int r.1)) r.2 := by
  rw [fX2_readSize_0] at h
  intro p e s m args below meth c r0 A X
  refine ev_aload_n (pc := 0) X 0 dX2_readSize_0 rfl rfl ?_
  refine ev_iconst (pc := 1) (v := (2 : Int32)) X dX2_readSize_1 rfl ?_
  refine ev_iconst (pc := 2) (v := (5 : Int32)) X dX2_readSize_2 rfl ?_
  obtain ⟨v2, w1, hc, h⟩ := eB2 h
  refine ev_callV_i (pc := 3) (As := [.int (2 : Int32), .int (5 : Int32)]) (S := []) X hwX2_readNumber klX2_77 hiX2_readNumber hsX2_readNumber (ci := 2) ⟨rfl, rfl⟩ ⟨Nat.le_of_ble_eq_true rfl, Nat.le_of_ble_eq_true rfl⟩ ⟨Nat.le_refl _, Nat.le_refl _⟩ rfl (Nat.le_of_ble_eq_true rfl) dX2_readSize_3 rfl (mX2_readNumber (l := l) (D := D) (cI := cI) (cZ := cZ) hc).1 (mX2_readNumber hc).2 ?_
  refine ev_if_ne (pc := 6) X 11 dX2_readSize_6 rfl (fun hc => ?_) (fun hc => ?_)
  · rw [if_neg hc] at h
    refine ev_aload_n (pc := 11) X 0 dX2_readSize_11 rfl rfl ?_
    obtain ⟨v3, hv3, h⟩ := eBi h
    refine ev_getI (pc := 12) X hcX2 (k := 8) (by decide) kfX2_81 dX2_readSize_12 hv3 ?_
    refine ev_istore_n (pc := 15) (L' := [(1, .int v3), (0, .ref x0)]) X dX2_readSize_15 rfl (by decide) rfl ?_
    refine ev_aload_n (pc := 16) X 1 dX2_readSize_16 rfl rfl ?_
    refine ev_iconst (pc := 17) (v := (2 : Int32)) X dX2_readSize_17 rfl ?_
    refine ev_iconst (pc := 18) (v := (4 : Int32)) X dX2_readSize_18 rfl ?_
    obtain ⟨v5, w4, hc, h⟩ := eB2 h
    refine ev_callV_i (pc := 19) (As := [.int (2 : Int32), .int (4 : Int32)]) (S := []) X hwX2_readNumber klX2_77 hiX2_readNumber hsX2_readNumber (ci := 2) ⟨rfl, rfl⟩ ⟨Nat.le_of_ble_eq_true rfl, Nat.le_of_ble_eq_true rfl⟩ ⟨Nat.le_refl _, Nat.le_refl _⟩ rfl (Nat.le_of_ble_eq_true rfl) dX2_readSize_19 rfl (mX2_readNumber (l := l) (D := D) (cI := cI) (cZ := cZ) hc).1 (mX2_readNumber hc).2 ?_
    refine ev_if_ne (pc := 22) X 27 dX2_readSize_22 rfl (fun hc => ?_) (fun hc => ?_)
    · rw [if_neg hc] at h
      refine ev_aload_n (pc := 27) X 1 dX2_readSize_27 rfl rfl ?_
      obtain ⟨v6, hv6, h⟩ := eBi h
      refine ev_getR (pc := 28) X hcX2 (k := 2) (by decide) kfX2_27 dX2_readSize_28 hv6 ?_
      refine ev_iload_n (pc := 31) X 0 dX2_readSize_31 rfl rfl ?_
      refine ev_aload_n (pc := 32) X 1 dX2_readSize_32 rfl rfl ?_
      obtain ⟨v7, hv7, h⟩ := eBi h
      refine ev_getI (pc := 33) X hcX2 (k := 8) (by decide) kfX2_81 dX2_readSize_33 hv7 ?_
      obtain ⟨w8, hc, h⟩ := eBi h
      refine ev_callV_v (pc := 36) (As := [.int v3, .int v7]) (S := []) X hwX1_setSize klX2_84 hiX1_setSize hsX1_setSize (ci := 1) ⟨rfl, rfl⟩ ⟨Nat.le_of_ble_eq_true rfl, Nat.le_of_ble_eq_true rfl⟩ ⟨Nat.le_refl _, Nat.le_refl _⟩ rfl (Nat.le_of_ble_eq_true rfl) dX2_readSize_36 rfl (mX1_setSize (l := l) (D := D) (cI := cI) (cZ := cZ) hc).1 (mX1_setSize hc).2 ?_
      refine ev_aload_n (pc := 39) X 1 dX2_readSize_39 rfl rfl ?_
      obtain ⟨v10, w9, hc, h⟩ := eB2 h
      refine ev_callV_i (pc := 40) (As := []) (S := []) X hwX2_readItemEnd klX2_87 hiX2_readItemEnd hsX2_readItemEnd (ci := 2) ⟨rfl, rfl⟩ ⟨Nat.le_of_ble_eq_true rfl, Nat.le_of_ble_eq_true rfl⟩ ⟨Nat.le_refl _, Nat.le_refl _⟩ rfl (Nat.le_of_ble_eq_true rfl) dX2_readSize_40 rfl (mX2_readItemEnd (l := l) (D := D) (cI := cI) (cZ := cZ) hc).1 (mX2_readItemEnd hc).2 ?_
      obtain ⟨v11, hv11, h⟩ := eBi h
      obtain rfl := Option.some.inj h
      exact ev_zret (pc := 43) X dX2_readSize_43 hv11
    · rw [if_pos hc] at h
      refine ev_iconst (pc := 25) (v := (0 : Int32)) X dX2_readSize_25 rfl ?_
      obtain ⟨v12, hv12, h⟩ := eBi h
      obtain rfl := Option.some.inj h
      exact ev_zret (pc := 26) X dX2_readSize_26 hv12
  · rw [if_pos hc] at h
    refine ev_iconst (pc := 9) (v := (0 : Int32)) X dX2_readSize_9 rfl ?_
    obtain ⟨v13, hv13, h⟩ := eBi h
    obtain rfl := Option.some.inj h
    exact ev_zret (pc := 10) X dX2_readSize_10 hv13
def fX2_readSize (a0 : Nat) (w : eW) : Option (Int32 × eW) := bif eO w a0 2 then fX2_readSize_0 a0 w else none
theorem mX2_readSize {a0 : Nat} {w : eW} {v : Int32} {w' : eW} (h : fX2_readSize a0 w = some (v, w')) : eO w a0 2 = true ∧ eMN l D cI cZ 3 yX2_readSize cX2_readSize 2 (some .boolean) [.ref a0] w (some (.int v)) w' := by
  obtain ⟨h0, h⟩ := eBif h
  exact ⟨h0, eMN_of [(0, .ref a0)] (plainFor_of_name (by decide)) (fun _ => rfl) (fun _ => Nat.le_of_ble_eq_true rfl) (fun p e s m args below meth c r0 A X => ev_weak (pc := 0) [0] rfl (sX2_readSize_0 _ _ _ h p e s m args below meth c r0 A X))⟩
theorem dX2_readHeight_0 : decode cX2_readHeight 0 = .ok (.aload_n 0, 1) := by decide +kernel
theorem dX2_readHeight_1 : decode cX2_readHeight 1 = .ok (.iconst 0, 1) := by decide +kernel
theorem dX2_readHeight_2 : decode cX2_readHeight 2 = .ok (.aload_n 0, 1) := by decide +kernel
theorem dX2_readHeight_3 : decode cX2_readHeight 3 = .ok (.getfield 27, 3) := by decide +kernel
theorem dX2_readHeight_6 : decode cX2_readHeight 6 = .ok (.invokevirtual 90, 3) := by decide +kernel
theorem dX2_readHeight_9 : decode cX2_readHeight 9 = .ok (.iconst 1, 1) := by decide +kernel
theorem dX2_readHeight_10 : decode cX2_readHeight 10 = .ok (.isub, 1) := by decide +kernel
theorem dX2_readHeight_11 : decode cX2_readHeight 11 = .ok (.invokevirtual 77, 3) := by decide +kernel
theorem dX2_readHeight_14 : decode cX2_readHeight 14 = .ok (.ifCond .ne 5, 3) := by decide +kernel
theorem dX2_readHeight_17 : decode cX2_readHeight 17 = .ok (.iconst 0, 1) := by decide +kernel
theorem dX2_readHeight_18 : decode cX2_readHeight 18 = .ok (.ireturn, 1) := by decide +kernel
theorem dX2_readHeight_19 : decode cX2_readHeight 19 = .ok (.aload_n 0, 1) := by decide +kernel
theorem dX2_readHeight_20 : decode cX2_readHeight 20 = .ok (.getfield 81, 3) := by decide +kernel
theorem dX2_readHeight_23 : decode cX2_readHeight 23 = .ok (.istore_n 1, 1) := by decide +kernel
theorem dX2_readHeight_24 : decode cX2_readHeight 24 = .ok (.aload_n 0, 1) := by decide +kernel
theorem dX2_readHeight_25 : decode cX2_readHeight 25 = .ok (.iconst 0, 1) := by decide +kernel
theorem dX2_readHeight_26 : decode cX2_readHeight 26 = .ok (.bipush 9, 2) := by decide +kernel
theorem dX2_readHeight_28 : decode cX2_readHeight 28 = .ok (.invokevirtual 77, 3) := by decide +kernel
theorem dX2_readHeight_31 : decode cX2_readHeight 31 = .ok (.ifCond .ne 5, 3) := by decide +kernel
theorem dX2_readHeight_34 : decode cX2_readHeight 34 = .ok (.iconst 0, 1) := by decide +kernel
theorem dX2_readHeight_35 : decode cX2_readHeight 35 = .ok (.ireturn, 1) := by decide +kernel
theorem dX2_readHeight_36 : decode cX2_readHeight 36 = .ok (.aload_n 0, 1) := by decide +kernel
theorem dX2_readHeight_37 : decode cX2_readHeight 37 = .ok (.getfield 27, 3) := by decide +kernel
theorem dX2_readHeight_40 : decode cX2_readHeight 40 = .ok (.iload_n 1, 1) := by decide +kernel
theorem dX2_readHeight_41 : decode cX2_readHeight 41 = .ok (.aload_n 0, 1) := by decide +kernel
theorem dX2_readHeight_42 : decode cX2_readHeight 42 = .ok (.getfield 81, 3) := by decide +kernel
theorem dX2_readHeight_45 : decode cX2_readHeight 45 = .ok (.invokevirtual 93, 3) := by decide +kernel
theorem dX2_readHeight_48 : decode cX2_readHeight 48 = .ok (.aload_n 0, 1) := by decide +kernel
theorem dX2_readHeight_49 : decode cX2_readHeight 49 = .ok (.invokevirtual 87, 3) := by decide +kernel
theorem dX2_readHeight_52 : decode cX2_readHeight 52 = .ok (.ireturn, 1) := by decide +kernel
def fX2_readHeight_0 (x0 : Nat) (w : eW) : Option (Int32 × eW) := (eGR w x0 2 2).bind fun v1 => eBind2 (fX1_cells v1 w) fun v3 w2 => eBind2 (fX2_readNumber x0 (0 : Int32) (v3 - (1 : Int32)) w2) fun v5 w4 => if v5 = 0 then ((eZ (0 : Int32)).bind fun v16 => some (v16, w4)) else ((eGI w4 x0 2 8).bind fun v6 => eBind2 (fX2_readNumber x0 (0 : Int32) (9 : Int32) w4) fun v8 w7 => if v8 = 0 then ((eZ (0 : Int32)).bind fun v15 => some (v15, w7)) else ((eGR w7 x0 2 2).bind fun v9 => (eGI w7 x0 2 8).bind fun v10 => (fX1_setHeight v9 v6 v10 w7).bind fun w11 => eBind2 (fX2_readItemEnd x0 w11) fun v13 w12 => (eZ v13).bind fun v14 => some (v14, w12)))
set_option maxRecDepth 20000 in
theorem sX2_readHeight_0  (x0 : Nat) (w : eW) (r : Int32 × eW) (h : fX2_readHeight_0 x0 w = some r) : eBN l D cI cZ 3 yX2_readHeight cX2_readHeight 2 (some .boolean) 0 [(0, .ref x0)] [] w (some (.int r.1)) r.2 := by
  rw [fX2_readHeight_0] at h
  intro p e s m args below meth c r0 A X
  refine ev_aload_n (pc := 0) X 0 dX2_readHeight_0 rfl rfl ?_
  refine ev_iconst (pc := 1) (v := (0 : Int32)) X dX2_readHeight_1 rfl ?_
  refine ev_aload_n (pc := 2) X 0 dX2_readHeight_2 rfl rfl ?_
  obtain ⟨v1, hv1, h⟩ := eBi h
  refine ev_getR (pc := 3) X hcX2 (k := 2) (by decide) kfX2_27 dX2_readHeight_3 hv1 ?_
  obtain ⟨v3, w2, hc, h⟩ := eB2 h
  refine ev_callV_i (pc := 6) (As := []) (S := [.int (0 : Int32), .ref x0]) X hwX1_cells klX2_90 hiX1_cells hsX1_cells (ci := 1) ⟨rfl, rfl⟩ ⟨Nat.le_of_ble_eq_true rfl, Nat.le_of_ble_eq_true rfl⟩ ⟨Nat.le_refl _, Nat.le_refl _⟩ rfl (Nat.le_of_ble_eq_true rfl) dX2_readHeight_6 rfl (mX1_cells (l := l) (D := D) (cI := cI) (cZ := cZ) hc).1 (mX1_cells hc).2 ?_
  refine ev_iconst (pc := 9) (v := (1 : Int32)) X dX2_readHeight_9 rfl ?_
  refine ev_isub (pc := 10) X dX2_readHeight_10 ?_
  obtain ⟨v5, w4, hc, h⟩ := eB2 h
  refine ev_callV_i (pc := 11) (As := [.int (0 : Int32), .int (v3 - (1 : Int32))]) (S := []) X hwX2_readNumber klX2_77 hiX2_readNumber hsX2_readNumber (ci := 2) ⟨rfl, rfl⟩ ⟨Nat.le_of_ble_eq_true rfl, Nat.le_of_ble_eq_true rfl⟩ ⟨Nat.le_refl _, Nat.le_refl _⟩ rfl (Nat.le_of_ble_eq_true rfl) dX2_readHeight_11 rfl (mX2_readNumber (l := l) (D := D) (cI := cI) (cZ := cZ) hc).1 (mX2_readNumber hc).2 ?_
  refine ev_if_ne (pc := 14) X 19 dX2_readHeight_14 rfl (fun hc => ?_) (fun hc => ?_)
  · rw [if_neg hc] at h
    refine ev_aload_n (pc := 19) X 0 dX2_readHeight_19 rfl rfl ?_
    obtain ⟨v6, hv6, h⟩ := eBi h
    refine ev_getI (pc := 20) X hcX2 (k := 8) (by decide) kfX2_81 dX2_readHeight_20 hv6 ?_
    refine ev_istore_n (pc := 23) (L' := [(1, .int v6), (0, .ref x0)]) X dX2_readHeight_23 rfl (by decide) rfl ?_
    refine ev_aload_n (pc := 24) X 1 dX2_readHeight_24 rfl rfl ?_
    refine ev_iconst (pc := 25) (v := (0 : Int32)) X dX2_readHeight_25 rfl ?_
    refine ev_bipush (pc := 26) (v := (9 : Int32)) X dX2_readHeight_26 rfl ?_
    obtain ⟨v8, w7, hc, h⟩ := eB2 h
    refine ev_callV_i (pc := 28) (As := [.int (0 : Int32), .int (9 : Int32)]) (S := []) X hwX2_readNumber klX2_77 hiX2_readNumber hsX2_readNumber (ci := 2) ⟨rfl, rfl⟩ ⟨Nat.le_of_ble_eq_true rfl, Nat.le_of_ble_eq_true rfl⟩ ⟨Nat.le_refl _, Nat.le_refl _⟩ rfl (Nat.le_of_ble_eq_true rfl) dX2_readHeight_28 rfl (mX2_readNumber (l := l) (D := D) (cI := cI) (cZ := cZ) hc).1 (mX2_readNumber hc).2 ?_
    refine ev_if_ne (pc := 31) X 36 dX2_readHeight_31 rfl (fun hc => ?_) (fun hc => ?_)
    · rw [if_neg hc] at h
      refine ev_aload_n (pc := 36) X 1 dX2_readHeight_36 rfl rfl ?_
      obtain ⟨v9, hv9, h⟩ := eBi h
      refine ev_getR (pc := 37) X hcX2 (k := 2) (by decide) kfX2_27 dX2_readHeight_37 hv9 ?_
      refine ev_iload_n (pc := 40) X 0 dX2_readHeight_40 rfl rfl ?_
      refine ev_aload_n (pc := 41) X 1 dX2_readHeight_41 rfl rfl ?_
      obtain ⟨v10, hv10, h⟩ := eBi h
      refine ev_getI (pc := 42) X hcX2 (k := 8) (by decide) kfX2_81 dX2_readHeight_42 hv10 ?_
      obtain ⟨w11, hc, h⟩ := eBi h
      refine ev_callV_v (pc := 45) (As := [.int v6, .int v10]) (S := []) X hwX1_setHeight klX2_93 hiX1_setHeight hsX1_setHeight (ci := 1) ⟨rfl, rfl⟩ ⟨Nat.le_of_ble_eq_true rfl, Nat.le_of_ble_eq_true rfl⟩ ⟨Nat.le_refl _, Nat.le_refl _⟩ rfl (Nat.le_of_ble_eq_true rfl) dX2_readHeight_45 rfl (mX1_setHeight (l := l) (D := D) (cI := cI) (cZ := cZ) hc).1 (mX1_setHeight hc).2 ?_
      refine ev_aload_n (pc := 48) X 1 dX2_readHeight_48 rfl rfl ?_
      obtain ⟨v13, w12, hc, h⟩ := eB2 h
      refine ev_callV_i (pc := 49) (As := []) (S := []) X hwX2_readItemEnd klX2_87 hiX2_readItemEnd hsX2_readItemEnd (ci := 2) ⟨rfl, rfl⟩ ⟨Nat.le_of_ble_eq_true rfl, Nat.le_of_ble_eq_true rfl⟩ ⟨Nat.le_refl _, Nat.le_refl _⟩ rfl (Nat.le_of_ble_eq_true rfl) dX2_readHeight_49 rfl (mX2_readItemEnd (l := l) (D := D) (cI := cI) (cZ := cZ) hc).1 (mX2_readItemEnd hc).2 ?_
      obtain ⟨v14, hv14, h⟩ := eBi h
      obtain rfl := Option.some.inj h
      exact ev_zret (pc := 52) X dX2_readHeight_52 hv14
    · rw [if_pos hc] at h
      refine ev_iconst (pc := 34) (v := (0 : Int32)) X dX2_readHeight_34 rfl ?_
      obtain ⟨v15, hv15, h⟩ := eBi h
      obtain rfl := Option.some.inj h
      exact ev_zret (pc := 35) X dX2_readHeight_35 hv15
  · rw [if_pos hc] at h
    refine ev_iconst (pc := 17) (v := (0 : Int32)) X dX2_readHeight_17 rfl ?_
    obtain ⟨v16, hv16, h⟩ := eBi h
    obtain rfl := Option.some.inj h
    exact ev_zret (pc := 18) X dX2_readHeight_18 hv16
def fX2_readHeight (a0 : Nat) (w : eW) : Option (Int32 × eW) := bif eO w a0 2 then fX2_readHeight_0 a0 w else none
theorem mX2_readHeight {a0 : Nat} {w : eW} {v : Int32} {w' : eW} (h : fX2_readHeight a0 w = some (v, w')) : eO w a0 2 = true ∧ eMN l D cI cZ 3 yX2_readHeight cX2_readHeight 2 (some .boolean) [.ref a0] w (some (.int v)) w' := by
  obtain ⟨h0, h⟩ := eBif h
  exact ⟨h0, eMN_of [(0, .ref a0)] (plainFor_of_name (by decide)) (fun _ => rfl) (fun _ => Nat.le_of_ble_eq_true rfl) (fun p e s m args below meth c r0 A X => ev_weak (pc := 0) [0] rfl (sX2_readHeight_0 _ _ _ h p e s m args below meth c r0 A X))⟩
theorem dX2_readTown_0 : decode cX2_readTown 0 = .ok (.aload_n 0, 1) := by decide +kernel
theorem dX2_readTown_1 : decode cX2_readTown 1 = .ok (.iconst 0, 1) := by decide +kernel
theorem dX2_readTown_2 : decode cX2_readTown 2 = .ok (.aload_n 0, 1) := by decide +kernel
theorem dX2_readTown_3 : decode cX2_readTown 3 = .ok (.getfield 27, 3) := by decide +kernel
theorem dX2_readTown_6 : decode cX2_readTown 6 = .ok (.invokevirtual 90, 3) := by decide +kernel
theorem dX2_readTown_9 : decode cX2_readTown 9 = .ok (.iconst 1, 1) := by decide +kernel
theorem dX2_readTown_10 : decode cX2_readTown 10 = .ok (.isub, 1) := by decide +kernel
theorem dX2_readTown_11 : decode cX2_readTown 11 = .ok (.invokevirtual 77, 3) := by decide +kernel
theorem dX2_readTown_14 : decode cX2_readTown 14 = .ok (.ifCond .eq 17, 3) := by decide +kernel
theorem dX2_readTown_17 : decode cX2_readTown 17 = .ok (.aload_n 0, 1) := by decide +kernel
theorem dX2_readTown_18 : decode cX2_readTown 18 = .ok (.getfield 27, 3) := by decide +kernel
theorem dX2_readTown_21 : decode cX2_readTown 21 = .ok (.aload_n 0, 1) := by decide +kernel
theorem dX2_readTown_22 : decode cX2_readTown 22 = .ok (.getfield 81, 3) := by decide +kernel
theorem dX2_readTown_25 : decode cX2_readTown 25 = .ok (.invokevirtual 96, 3) := by decide +kernel
theorem dX2_readTown_28 : decode cX2_readTown 28 = .ok (.ifCond .eq 5, 3) := by decide +kernel
theorem dX2_readTown_31 : decode cX2_readTown 31 = .ok (.iconst 0, 1) := by decide +kernel
theorem dX2_readTown_32 : decode cX2_readTown 32 = .ok (.ireturn, 1) := by decide +kernel
theorem dX2_readTown_33 : decode cX2_readTown 33 = .ok (.aload_n 0, 1) := by decide +kernel
theorem dX2_readTown_34 : decode cX2_readTown 34 = .ok (.getfield 27, 3) := by decide +kernel
theorem dX2_readTown_37 : decode cX2_readTown 37 = .ok (.aload_n 0, 1) := by decide +kernel
theorem dX2_readTown_38 : decode cX2_readTown 38 = .ok (.getfield 81, 3) := by decide +kernel
theorem dX2_readTown_41 : decode cX2_readTown 41 = .ok (.invokevirtual 100, 3) := by decide +kernel
theorem dX2_readTown_44 : decode cX2_readTown 44 = .ok (.aload_n 0, 1) := by decide +kernel
theorem dX2_readTown_45 : decode cX2_readTown 45 = .ok (.invokevirtual 87, 3) := by decide +kernel
theorem dX2_readTown_48 : decode cX2_readTown 48 = .ok (.ireturn, 1) := by decide +kernel
def fX2_readTown_0 (x0 : Nat) (w : eW) : Option (Int32 × eW) := (eGR w x0 2 2).bind fun v1 => eBind2 (fX1_cells v1 w) fun v3 w2 => eBind2 (fX2_readNumber x0 (0 : Int32) (v3 - (1 : Int32)) w2) fun v5 w4 => if v5 = 0 then ((eZ (0 : Int32)).bind fun v6 => some (v6, w4)) else ((eGR w4 x0 2 2).bind fun v7 => (eGI w4 x0 2 8).bind fun v8 => eBind2 (fX1_isTown v7 v8 w4) fun v10 w9 => if v10 = 0 then ((eGR w9 x0 2 2).bind fun v11 => (eGI w9 x0 2 8).bind fun v12 => (fX1_addTown v11 v12 w9).bind fun w13 => eBind2 (fX2_readItemEnd x0 w13) fun v15 w14 => (eZ v15).bind fun v16 => some (v16, w14)) else ((eZ (0 : Int32)).bind fun v17 => some (v17, w9)))
set_option maxRecDepth 20000 in
theorem sX2_readTown_0  (x0 : Nat) (w : eW) (r : Int32 × eW) (h : fX2_readTown_0 x0 w = some r) : eBN l D cI cZ 3 yX2_readTown cX2_readTown 1 (some .boolean) 0 [(0, .ref x0)] [] w (some (.int r.1)) r.2 := by
  rw [fX2_readTown_0] at h
  intro p e s m args below meth c r0 A X
  refine ev_aload_n (pc := 0) X 0 dX2_readTown_0 rfl rfl ?_
  refine ev_iconst (pc := 1) (v := (0 : Int32)) X dX2_readTown_1 rfl ?_
  refine ev_aload_n (pc := 2) X 0 dX2_readTown_2 rfl rfl ?_
  obtain ⟨v1, hv1, h⟩ := eBi h
  refine ev_getR (pc := 3) X hcX2 (k := 2) (by decide) kfX2_27 dX2_readTown_3 hv1 ?_
  obtain ⟨v3, w2, hc, h⟩ := eB2 h
  refine ev_callV_i (pc := 6) (As := []) (S := [.int (0 : Int32), .ref x0]) X hwX1_cells klX2_90 hiX1_cells hsX1_cells (ci := 1) ⟨rfl, rfl⟩ ⟨Nat.le_of_ble_eq_true rfl, Nat.le_of_ble_eq_true rfl⟩ ⟨Nat.le_refl _, Nat.le_refl _⟩ rfl (Nat.le_of_ble_eq_true rfl) dX2_readTown_6 rfl (mX1_cells (l := l) (D := D) (cI := cI) (cZ := cZ) hc).1 (mX1_cells hc).2 ?_
  refine ev_iconst (pc := 9) (v := (1 : Int32)) X dX2_readTown_9 rfl ?_
  refine ev_isub (pc := 10) X dX2_readTown_10 ?_
  obtain ⟨v5, w4, hc, h⟩ := eB2 h
  refine ev_callV_i (pc := 11) (As := [.int (0 : Int32), .int (v3 - (1 : Int32))]) (S := []) X hwX2_readNumber klX2_77 hiX2_readNumber hsX2_readNumber (ci := 2) ⟨rfl, rfl⟩ ⟨Nat.le_of_ble_eq_true rfl, Nat.le_of_ble_eq_true rfl⟩ ⟨Nat.le_refl _, Nat.le_refl _⟩ rfl (Nat.le_of_ble_eq_true rfl) dX2_readTown_11 rfl (mX2_readNumber (l := l) (D := D) (cI := cI) (cZ := cZ) hc).1 (mX2_readNumber hc).2 ?_
  refine ev_if_eq (pc := 14) X 31 dX2_readTown_14 rfl (fun hc => ?_) (fun hc => ?_)
  · rw [if_pos hc] at h
    refine ev_iconst (pc := 31) (v := (0 : Int32)) X dX2_readTown_31 rfl ?_
    obtain ⟨v6, hv6, h⟩ := eBi h
    obtain rfl := Option.some.inj h
    exact ev_zret (pc := 32) X dX2_readTown_32 hv6
  · rw [if_neg hc] at h
    refine ev_aload_n (pc := 17) X 0 dX2_readTown_17 rfl rfl ?_
    obtain ⟨v7, hv7, h⟩ := eBi h
    refine ev_getR (pc := 18) X hcX2 (k := 2) (by decide) kfX2_27 dX2_readTown_18 hv7 ?_
    refine ev_aload_n (pc := 21) X 0 dX2_readTown_21 rfl rfl ?_
    obtain ⟨v8, hv8, h⟩ := eBi h
    refine ev_getI (pc := 22) X hcX2 (k := 8) (by decide) kfX2_81 dX2_readTown_22 hv8 ?_
    obtain ⟨v10, w9, hc, h⟩ := eB2 h
    refine ev_callV_i (pc := 25) (As := [.int v8]) (S := []) X hwX1_isTown klX2_96 hiX1_isTown hsX1_isTown (ci := 1) ⟨rfl, rfl⟩ ⟨Nat.le_of_ble_eq_true rfl, Nat.le_of_ble_eq_true rfl⟩ ⟨Nat.le_refl _, Nat.le_refl _⟩ rfl (Nat.le_of_ble_eq_true rfl) dX2_readTown_25 rfl (mX1_isTown (l := l) (D := D) (cI := cI) (cZ := cZ) hc).1 (mX1_isTown hc).2 ?_
    refine ev_if_eq (pc := 28) X 33 dX2_readTown_28 rfl (fun hc => ?_) (fun hc => ?_)
    · rw [if_pos hc] at h
      refine ev_aload_n (pc := 33) X 0 dX2_readTown_33 rfl rfl ?_
      obtain ⟨v11, hv11, h⟩ := eBi h
      refine ev_getR (pc := 34) X hcX2 (k := 2) (by decide) kfX2_27 dX2_readTown_34 hv11 ?_
      refine ev_aload_n (pc := 37) X 0 dX2_readTown_37 rfl rfl ?_
      obtain ⟨v12, hv12, h⟩ := eBi h
      refine ev_getI (pc := 38) X hcX2 (k := 8) (by decide) kfX2_81 dX2_readTown_38 hv12 ?_
      obtain ⟨w13, hc, h⟩ := eBi h
      refine ev_callV_v (pc := 41) (As := [.int v12]) (S := []) X hwX1_addTown klX2_100 hiX1_addTown hsX1_addTown (ci := 1) ⟨rfl, rfl⟩ ⟨Nat.le_of_ble_eq_true rfl, Nat.le_of_ble_eq_true rfl⟩ ⟨Nat.le_refl _, Nat.le_refl _⟩ rfl (Nat.le_of_ble_eq_true rfl) dX2_readTown_41 rfl (mX1_addTown (l := l) (D := D) (cI := cI) (cZ := cZ) hc).1 (mX1_addTown hc).2 ?_
      refine ev_aload_n (pc := 44) X 0 dX2_readTown_44 rfl rfl ?_
      obtain ⟨v15, w14, hc, h⟩ := eB2 h
      refine ev_callV_i (pc := 45) (As := []) (S := []) X hwX2_readItemEnd klX2_87 hiX2_readItemEnd hsX2_readItemEnd (ci := 2) ⟨rfl, rfl⟩ ⟨Nat.le_of_ble_eq_true rfl, Nat.le_of_ble_eq_true rfl⟩ ⟨Nat.le_refl _, Nat.le_refl _⟩ rfl (Nat.le_of_ble_eq_true rfl) dX2_readTown_45 rfl (mX2_readItemEnd (l := l) (D := D) (cI := cI) (cZ := cZ) hc).1 (mX2_readItemEnd hc).2 ?_
      obtain ⟨v16, hv16, h⟩ := eBi h
      obtain rfl := Option.some.inj h
      exact ev_zret (pc := 48) X dX2_readTown_48 hv16
    · rw [if_neg hc] at h
      refine ev_iconst (pc := 31) (v := (0 : Int32)) X dX2_readTown_31 rfl ?_
      obtain ⟨v17, hv17, h⟩ := eBi h
      obtain rfl := Option.some.inj h
      exact ev_zret (pc := 32) X dX2_readTown_32 hv17
def fX2_readTown (a0 : Nat) (w : eW) : Option (Int32 × eW) := bif eO w a0 2 then fX2_readTown_0 a0 w else none
theorem mX2_readTown {a0 : Nat} {w : eW} {v : Int32} {w' : eW} (h : fX2_readTown a0 w = some (v, w')) : eO w a0 2 = true ∧ eMN l D cI cZ 3 yX2_readTown cX2_readTown 1 (some .boolean) [.ref a0] w (some (.int v)) w' := by
  obtain ⟨h0, h⟩ := eBif h
  exact ⟨h0, eMN_of [(0, .ref a0)] (plainFor_of_name (by decide)) (fun _ => rfl) (fun _ => Nat.le_of_ble_eq_true rfl) (fun p e s m args below meth c r0 A X => ev_weak (pc := 0) [0] rfl (sX2_readTown_0 _ _ _ h p e s m args below meth c r0 A X))⟩
theorem dX2_readSlope_0 : decode cX2_readSlope 0 = .ok (.aload_n 0, 1) := by decide +kernel
theorem dX2_readSlope_1 : decode cX2_readSlope 1 = .ok (.iconst 0, 1) := by decide +kernel
theorem dX2_readSlope_2 : decode cX2_readSlope 2 = .ok (.bipush 9, 2) := by decide +kernel
theorem dX2_readSlope_4 : decode cX2_readSlope 4 = .ok (.invokevirtual 77, 3) := by decide +kernel
theorem dX2_readSlope_7 : decode cX2_readSlope 7 = .ok (.ifCond .ne 5, 3) := by decide +kernel
theorem dX2_readSlope_10 : decode cX2_readSlope 10 = .ok (.iconst 0, 1) := by decide +kernel
theorem dX2_readSlope_11 : decode cX2_readSlope 11 = .ok (.ireturn, 1) := by decide +kernel
theorem dX2_readSlope_12 : decode cX2_readSlope 12 = .ok (.aload_n 0, 1) := by decide +kernel
theorem dX2_readSlope_13 : decode cX2_readSlope 13 = .ok (.getfield 27, 3) := by decide +kernel
theorem dX2_readSlope_16 : decode cX2_readSlope 16 = .ok (.aload_n 0, 1) := by decide +kernel
theorem dX2_readSlope_17 : decode cX2_readSlope 17 = .ok (.getfield 81, 3) := by decide +kernel
theorem dX2_readSlope_20 : decode cX2_readSlope 20 = .ok (.invokevirtual 103, 3) := by decide +kernel
theorem dX2_readSlope_23 : decode cX2_readSlope 23 = .ok (.aload_n 0, 1) := by decide +kernel
theorem dX2_readSlope_24 : decode cX2_readSlope 24 = .ok (.iconst 1, 1) := by decide +kernel
theorem dX2_readSlope_25 : decode cX2_readSlope 25 = .ok (.putfield 41, 3) := by decide +kernel
theorem dX2_readSlope_28 : decode cX2_readSlope 28 = .ok (.aload_n 0, 1) := by decide +kernel
theorem dX2_readSlope_29 : decode cX2_readSlope 29 = .ok (.invokevirtual 87, 3) := by decide +kernel
theorem dX2_readSlope_32 : decode cX2_readSlope 32 = .ok (.ireturn, 1) := by decide +kernel
def fX2_readSlope_0 (x0 : Nat) (w : eW) : Option (Int32 × eW) := eBind2 (fX2_readNumber x0 (0 : Int32) (9 : Int32) w) fun v2 w1 => if v2 = 0 then ((eZ (0 : Int32)).bind fun v11 => some (v11, w1)) else ((eGR w1 x0 2 2).bind fun v3 => (eGI w1 x0 2 8).bind fun v4 => (fX1_setSlope v3 v4 w1).bind fun w5 => (eZ (1 : Int32)).bind fun v7 => (eP w5 x0 2 4 (.int v7)).bind fun w6 => eBind2 (fX2_readItemEnd x0 w6) fun v9 w8 => (eZ v9).bind fun v10 => some (v10, w8))
set_option maxRecDepth 20000 in
theorem sX2_readSlope_0  (x0 : Nat) (w : eW) (r : Int32 × eW) (h : fX2_readSlope_0 x0 w = some r) : eBN l D cI cZ 3 yX2_readSlope cX2_readSlope 1 (some .boolean) 0 [(0, .ref x0)] [] w (some (.int r.1)) r.2 := by
  rw [fX2_readSlope_0] at h
  intro p e s m args below meth c r0 A X
  refine ev_aload_n (pc := 0) X 0 dX2_readSlope_0 rfl rfl ?_
  refine ev_iconst (pc := 1) (v := (0 : Int32)) X dX2_readSlope_1 rfl ?_
  refine ev_bipush (pc := 2) (v := (9 : Int32)) X dX2_readSlope_2 rfl ?_
  obtain ⟨v2, w1, hc, h⟩ := eB2 h
  refine ev_callV_i (pc := 4) (As := [.int (0 : Int32), .int (9 : Int32)]) (S := []) X hwX2_readNumber klX2_77 hiX2_readNumber hsX2_readNumber (ci := 2) ⟨rfl, rfl⟩ ⟨Nat.le_of_ble_eq_true rfl, Nat.le_of_ble_eq_true rfl⟩ ⟨Nat.le_refl _, Nat.le_refl _⟩ rfl (Nat.le_of_ble_eq_true rfl) dX2_readSlope_4 rfl (mX2_readNumber (l := l) (D := D) (cI := cI) (cZ := cZ) hc).1 (mX2_readNumber hc).2 ?_
  refine ev_if_ne (pc := 7) X 12 dX2_readSlope_7 rfl (fun hc => ?_) (fun hc => ?_)
  · rw [if_neg hc] at h
    refine ev_aload_n (pc := 12) X 0 dX2_readSlope_12 rfl rfl ?_
    obtain ⟨v3, hv3, h⟩ := eBi h
    refine ev_getR (pc := 13) X hcX2 (k := 2) (by decide) kfX2_27 dX2_readSlope_13 hv3 ?_
    refine ev_aload_n (pc := 16) X 0 dX2_readSlope_16 rfl rfl ?_
    obtain ⟨v4, hv4, h⟩ := eBi h
    refine ev_getI (pc := 17) X hcX2 (k := 8) (by decide) kfX2_81 dX2_readSlope_17 hv4 ?_
    obtain ⟨w5, hc, h⟩ := eBi h
    refine ev_callV_v (pc := 20) (As := [.int v4]) (S := []) X hwX1_setSlope klX2_103 hiX1_setSlope hsX1_setSlope (ci := 1) ⟨rfl, rfl⟩ ⟨Nat.le_of_ble_eq_true rfl, Nat.le_of_ble_eq_true rfl⟩ ⟨Nat.le_refl _, Nat.le_refl _⟩ rfl (Nat.le_of_ble_eq_true rfl) dX2_readSlope_20 rfl (mX1_setSlope (l := l) (D := D) (cI := cI) (cZ := cZ) hc).1 (mX1_setSlope hc).2 ?_
    refine ev_aload_n (pc := 23) X 0 dX2_readSlope_23 rfl rfl ?_
    refine ev_iconst (pc := 24) (v := (1 : Int32)) X dX2_readSlope_24 rfl ?_
    obtain ⟨v7, hv7, h⟩ := eBi h
    obtain ⟨w6, hw6, h⟩ := eBi h
    refine ev_putZ (pc := 25) X hcX2 (k := 4) (by decide) kfX2_41 rfl rfl dX2_readSlope_25 hv7 hw6 ?_
    refine ev_aload_n (pc := 28) X 0 dX2_readSlope_28 rfl rfl ?_
    obtain ⟨v9, w8, hc, h⟩ := eB2 h
    refine ev_callV_i (pc := 29) (As := []) (S := []) X hwX2_readItemEnd klX2_87 hiX2_readItemEnd hsX2_readItemEnd (ci := 2) ⟨rfl, rfl⟩ ⟨Nat.le_of_ble_eq_true rfl, Nat.le_of_ble_eq_true rfl⟩ ⟨Nat.le_refl _, Nat.le_refl _⟩ rfl (Nat.le_of_ble_eq_true rfl) dX2_readSlope_29 rfl (mX2_readItemEnd (l := l) (D := D) (cI := cI) (cZ := cZ) hc).1 (mX2_readItemEnd hc).2 ?_
    obtain ⟨v10, hv10, h⟩ := eBi h
    obtain rfl := Option.some.inj h
    exact ev_zret (pc := 32) X dX2_readSlope_32 hv10
  · rw [if_pos hc] at h
    refine ev_iconst (pc := 10) (v := (0 : Int32)) X dX2_readSlope_10 rfl ?_
    obtain ⟨v11, hv11, h⟩ := eBi h
    obtain rfl := Option.some.inj h
    exact ev_zret (pc := 11) X dX2_readSlope_11 hv11
def fX2_readSlope (a0 : Nat) (w : eW) : Option (Int32 × eW) := bif eO w a0 2 then fX2_readSlope_0 a0 w else none
theorem mX2_readSlope {a0 : Nat} {w : eW} {v : Int32} {w' : eW} (h : fX2_readSlope a0 w = some (v, w')) : eO w a0 2 = true ∧ eMN l D cI cZ 3 yX2_readSlope cX2_readSlope 1 (some .boolean) [.ref a0] w (some (.int v)) w' := by
  obtain ⟨h0, h⟩ := eBif h
  exact ⟨h0, eMN_of [(0, .ref a0)] (plainFor_of_name (by decide)) (fun _ => rfl) (fun _ => Nat.le_of_ble_eq_true rfl) (fun p e s m args below meth c r0 A X => ev_weak (pc := 0) [0] rfl (sX2_readSlope_0 _ _ _ h p e s m args below meth c r0 A X))⟩
theorem dX2_readItem_0 : decode cX2_readItem 0 = .ok (.aload_n 0, 1) := by decide +kernel
theorem dX2_readItem_1 : decode cX2_readItem 1 = .ok (.getfield 51, 3) := by decide +kernel
theorem dX2_readItem_4 : decode cX2_readItem 4 = .ok (.lookupswitch 113 #[(103, 44), (104, 64), (109, 93), (116, 69)], 44) := by decide +kernel
theorem dX2_readItem_48 : decode cX2_readItem 48 = .ok (.aload_n 0, 1) := by decide +kernel
theorem dX2_readItem_49 : decode cX2_readItem 49 = .ok (.getfield 38, 3) := by decide +kernel
theorem dX2_readItem_52 : decode cX2_readItem 52 = .ok (.ifCond .ne 14, 3) := by decide +kernel
theorem dX2_readItem_55 : decode cX2_readItem 55 = .ok (.aload_n 0, 1) := by decide +kernel
theorem dX2_readItem_56 : decode cX2_readItem 56 = .ok (.invokevirtual 61, 3) := by decide +kernel
theorem dX2_readItem_59 : decode cX2_readItem 59 = .ok (.ifCond .eq 7, 3) := by decide +kernel
theorem dX2_readItem_62 : decode cX2_readItem 62 = .ok (.iconst 1, 1) := by decide +kernel
theorem dX2_readItem_63 : decode cX2_readItem 63 = .ok (.goto 4, 3) := by decide +kernel
theorem dX2_readItem_66 : decode cX2_readItem 66 = .ok (.iconst 0, 1) := by decide +kernel
theorem dX2_readItem_67 : decode cX2_readItem 67 = .ok (.ireturn, 1) := by decide +kernel
theorem dX2_readItem_68 : decode cX2_readItem 68 = .ok (.aload_n 0, 1) := by decide +kernel
theorem dX2_readItem_69 : decode cX2_readItem 69 = .ok (.invokevirtual 64, 3) := by decide +kernel
theorem dX2_readItem_72 : decode cX2_readItem 72 = .ok (.ireturn, 1) := by decide +kernel
theorem dX2_readItem_73 : decode cX2_readItem 73 = .ok (.aload_n 0, 1) := by decide +kernel
theorem dX2_readItem_74 : decode cX2_readItem 74 = .ok (.getfield 27, 3) := by decide +kernel
theorem dX2_readItem_77 : decode cX2_readItem 77 = .ok (.invokevirtual 67, 3) := by decide +kernel
theorem dX2_readItem_80 : decode cX2_readItem 80 = .ok (.iconst 4, 1) := by decide +kernel
theorem dX2_readItem_81 : decode cX2_readItem 81 = .ok (.if_icmp .ge 14, 3) := by decide +kernel
theorem dX2_readItem_84 : decode cX2_readItem 84 = .ok (.aload_n 0, 1) := by decide +kernel
theorem dX2_readItem_85 : decode cX2_readItem 85 = .ok (.invokevirtual 71, 3) := by decide +kernel
theorem dX2_readItem_88 : decode cX2_readItem 88 = .ok (.ifCond .eq 7, 3) := by decide +kernel
theorem dX2_readItem_91 : decode cX2_readItem 91 = .ok (.iconst 1, 1) := by decide +kernel
theorem dX2_readItem_92 : decode cX2_readItem 92 = .ok (.goto 4, 3) := by decide +kernel
theorem dX2_readItem_95 : decode cX2_readItem 95 = .ok (.iconst 0, 1) := by decide +kernel
theorem dX2_readItem_96 : decode cX2_readItem 96 = .ok (.ireturn, 1) := by decide +kernel
theorem dX2_readItem_97 : decode cX2_readItem 97 = .ok (.aload_n 0, 1) := by decide +kernel
theorem dX2_readItem_98 : decode cX2_readItem 98 = .ok (.getfield 41, 3) := by decide +kernel
theorem dX2_readItem_101 : decode cX2_readItem 101 = .ok (.ifCond .ne 14, 3) := by decide +kernel
theorem dX2_readItem_104 : decode cX2_readItem 104 = .ok (.aload_n 0, 1) := by decide +kernel
theorem dX2_readItem_105 : decode cX2_readItem 105 = .ok (.invokevirtual 74, 3) := by decide +kernel
theorem dX2_readItem_108 : decode cX2_readItem 108 = .ok (.ifCond .eq 7, 3) := by decide +kernel
theorem dX2_readItem_111 : decode cX2_readItem 111 = .ok (.iconst 1, 1) := by decide +kernel
theorem dX2_readItem_112 : decode cX2_readItem 112 = .ok (.goto 4, 3) := by decide +kernel
theorem dX2_readItem_115 : decode cX2_readItem 115 = .ok (.iconst 0, 1) := by decide +kernel
theorem dX2_readItem_116 : decode cX2_readItem 116 = .ok (.ireturn, 1) := by decide +kernel
theorem dX2_readItem_117 : decode cX2_readItem 117 = .ok (.iconst 0, 1) := by decide +kernel
theorem dX2_readItem_118 : decode cX2_readItem 118 = .ok (.ireturn, 1) := by decide +kernel
def fX2_readItem_66  (w : eW) : Option (Int32 × eW) := (eZ (0 : Int32)).bind fun v1 => some (v1, w)
set_option maxRecDepth 20000 in
theorem sX2_readItem_66   (w : eW) (r : Int32 × eW) (h : fX2_readItem_66  w = some r) : eBN l D cI cZ 4 yX2_readItem cX2_readItem 1 (some .boolean) 66 [] [] w (some (.int r.1)) r.2 := by
  rw [fX2_readItem_66] at h
  intro p e s m args below meth c r0 A X
  refine ev_iconst (pc := 66) (v := (0 : Int32)) X dX2_readItem_66 rfl ?_
  obtain ⟨v1, hv1, h⟩ := eBi h
  obtain rfl := Option.some.inj h
  exact ev_zret (pc := 67) X dX2_readItem_67 hv1
def fX2_readItem_95  (w : eW) : Option (Int32 × eW) := (eZ (0 : Int32)).bind fun v1 => some (v1, w)
set_option maxRecDepth 20000 in
theorem sX2_readItem_95   (w : eW) (r : Int32 × eW) (h : fX2_readItem_95  w = some r) : eBN l D cI cZ 4 yX2_readItem cX2_readItem 1 (some .boolean) 95 [] [] w (some (.int r.1)) r.2 := by
  rw [fX2_readItem_95] at h
  intro p e s m args below meth c r0 A X
  refine ev_iconst (pc := 95) (v := (0 : Int32)) X dX2_readItem_95 rfl ?_
  obtain ⟨v1, hv1, h⟩ := eBi h
  obtain rfl := Option.some.inj h
  exact ev_zret (pc := 96) X dX2_readItem_96 hv1
def fX2_readItem_115  (w : eW) : Option (Int32 × eW) := (eZ (0 : Int32)).bind fun v1 => some (v1, w)
set_option maxRecDepth 20000 in
theorem sX2_readItem_115   (w : eW) (r : Int32 × eW) (h : fX2_readItem_115  w = some r) : eBN l D cI cZ 4 yX2_readItem cX2_readItem 1 (some .boolean) 115 [] [] w (some (.int r.1)) r.2 := by
  rw [fX2_readItem_115] at h
  intro p e s m args below meth c r0 A X
  refine ev_iconst (pc := 115) (v := (0 : Int32)) X dX2_readItem_115 rfl ?_
  obtain ⟨v1, hv1, h⟩ := eBi h
  obtain rfl := Option.some.inj h
  exact ev_zret (pc := 116) X dX2_readItem_116 hv1
def fX2_readItem_0 (x0 : Nat) (w : eW) : Option (Int32 × eW) := (eGI w x0 2 6).bind fun v1 => if v1 = (103 : Int32) then ((eGI w x0 2 3).bind fun v2 => if v2 = 0 then (eBind2 (fX2_readSize x0 w) fun v4 w3 => if v4 = 0 then (fX2_readItem_66 w3) else ((eZ (1 : Int32)).bind fun v5 => some (v5, w3))) else (fX2_readItem_66 w)) else (if v1 = (104 : Int32) then (eBind2 (fX2_readHeight x0 w) fun v7 w6 => (eZ v7).bind fun v8 => some (v8, w6)) else (if v1 = (109 : Int32) then ((eGI w x0 2 4).bind fun v9 => if v9 = 0 then (eBind2 (fX2_readSlope x0 w) fun v11 w10 => if v11 = 0 then (fX2_readItem_115 w10) else ((eZ (1 : Int32)).bind fun v12 => some (v12, w10))) else (fX2_readItem_115 w)) else (if v1 = (116 : Int32) then ((eGR w x0 2 2).bind fun v13 => eBind2 (fX1_towns v13 w) fun v15 w14 => if (4 : Int32) ≤ v15 then (fX2_readItem_95 w14) else (eBind2 (fX2_readTown x0 w14) fun v17 w16 => if v17 = 0 then (fX2_readItem_95 w16) else ((eZ (1 : Int32)).bind fun v18 => some (v18, w16)))) else ((eZ (0 : Int32)).bind fun v19 => some (v19, w)))))
set_option maxRecDepth 20000 in
theorem sX2_readItem_0  (x0 : Nat) (w : eW) (r : Int32 × eW) (h : fX2_readItem_0 x0 w = some r) : eBN l D cI cZ 4 yX2_readItem cX2_readItem 1 (some .boolean) 0 [(0, .ref x0)] [] w (some (.int r.1)) r.2 := by
  rw [fX2_readItem_0] at h
  intro p e s m args below meth c r0 A X
  refine ev_aload_n (pc := 0) X 0 dX2_readItem_0 rfl rfl ?_
  obtain ⟨v1, hv1, h⟩ := eBi h
  refine ev_getI (pc := 1) X hcX2 (k := 6) (by decide) kfX2_51 dX2_readItem_1 hv1 ?_
  by_cases hq4_0 : v1 = (103 : Int32)
  · rw [if_pos hq4_0] at h
    refine ev_lookup (pc := 4) (off := 44) X 48 dX2_readItem_4 (by decide) (by rw [hq4_0]; first | done | rfl) rfl ?_
    refine ev_aload_n (pc := 48) X 0 dX2_readItem_48 rfl rfl ?_
    obtain ⟨v2, hv2, h⟩ := eBi h
    refine ev_getI (pc := 49) X hcX2 (k := 3) (by decide) kfX2_38 dX2_readItem_49 hv2 ?_
    refine ev_if_ne (pc := 52) X 66 dX2_readItem_52 rfl (fun hc => ?_) (fun hc => ?_)
    · rw [if_neg hc] at h
      exact ev_weak (pc := 66) [] rfl (sX2_readItem_66  _ _ h p e s m args below meth c r0 A X)
    · rw [if_pos hc] at h
      refine ev_aload_n (pc := 55) X 0 dX2_readItem_55 rfl rfl ?_
      obtain ⟨v4, w3, hc, h⟩ := eB2 h
      refine ev_callV_i (pc := 56) (As := []) (S := []) X hwX2_readSize klX2_61 hiX2_readSize hsX2_readSize (ci := 2) ⟨rfl, rfl⟩ ⟨Nat.le_of_ble_eq_true rfl, Nat.le_of_ble_eq_true rfl⟩ ⟨Nat.le_refl _, Nat.le_refl _⟩ rfl (Nat.le_of_ble_eq_true rfl) dX2_readItem_56 rfl (mX2_readSize (l := l) (D := D) (cI := cI) (cZ := cZ) hc).1 (mX2_readSize hc).2 ?_
      refine ev_if_eq (pc := 59) X 66 dX2_readItem_59 rfl (fun hc => ?_) (fun hc => ?_)
      · rw [if_pos hc] at h
        exact ev_weak (pc := 66) [] rfl (sX2_readItem_66  _ _ h p e s m args below meth c r0 A X)
      · rw [if_neg hc] at h
        refine ev_iconst (pc := 62) (v := (1 : Int32)) X dX2_readItem_62 rfl ?_
        refine ev_goto (pc := 63) X 67 dX2_readItem_63 rfl ?_
        obtain ⟨v5, hv5, h⟩ := eBi h
        obtain rfl := Option.some.inj h
        exact ev_zret (pc := 67) X dX2_readItem_67 hv5
  · rw [if_neg hq4_0] at h
    by_cases hq4_1 : v1 = (104 : Int32)
    · rw [if_pos hq4_1] at h
      refine ev_lookup (pc := 4) (off := 64) X 68 dX2_readItem_4 (by decide) (by rw [hq4_1]; first | done | rfl) rfl ?_
      refine ev_aload_n (pc := 68) X 0 dX2_readItem_68 rfl rfl ?_
      obtain ⟨v7, w6, hc, h⟩ := eB2 h
      refine ev_callV_i (pc := 69) (As := []) (S := []) X hwX2_readHeight klX2_64 hiX2_readHeight hsX2_readHeight (ci := 2) ⟨rfl, rfl⟩ ⟨Nat.le_of_ble_eq_true rfl, Nat.le_of_ble_eq_true rfl⟩ ⟨Nat.le_refl _, Nat.le_refl _⟩ rfl (Nat.le_of_ble_eq_true rfl) dX2_readItem_69 rfl (mX2_readHeight (l := l) (D := D) (cI := cI) (cZ := cZ) hc).1 (mX2_readHeight hc).2 ?_
      obtain ⟨v8, hv8, h⟩ := eBi h
      obtain rfl := Option.some.inj h
      exact ev_zret (pc := 72) X dX2_readItem_72 hv8
    · rw [if_neg hq4_1] at h
      by_cases hq4_2 : v1 = (109 : Int32)
      · rw [if_pos hq4_2] at h
        refine ev_lookup (pc := 4) (off := 93) X 97 dX2_readItem_4 (by decide) (by rw [hq4_2]; first | done | rfl) rfl ?_
        refine ev_aload_n (pc := 97) X 0 dX2_readItem_97 rfl rfl ?_
        obtain ⟨v9, hv9, h⟩ := eBi h
        refine ev_getI (pc := 98) X hcX2 (k := 4) (by decide) kfX2_41 dX2_readItem_98 hv9 ?_
        refine ev_if_ne (pc := 101) X 115 dX2_readItem_101 rfl (fun hc => ?_) (fun hc => ?_)
        · rw [if_neg hc] at h
          exact ev_weak (pc := 115) [] rfl (sX2_readItem_115  _ _ h p e s m args below meth c r0 A X)
        · rw [if_pos hc] at h
          refine ev_aload_n (pc := 104) X 0 dX2_readItem_104 rfl rfl ?_
          obtain ⟨v11, w10, hc, h⟩ := eB2 h
          refine ev_callV_i (pc := 105) (As := []) (S := []) X hwX2_readSlope klX2_74 hiX2_readSlope hsX2_readSlope (ci := 2) ⟨rfl, rfl⟩ ⟨Nat.le_of_ble_eq_true rfl, Nat.le_of_ble_eq_true rfl⟩ ⟨Nat.le_refl _, Nat.le_refl _⟩ rfl (Nat.le_of_ble_eq_true rfl) dX2_readItem_105 rfl (mX2_readSlope (l := l) (D := D) (cI := cI) (cZ := cZ) hc).1 (mX2_readSlope hc).2 ?_
          refine ev_if_eq (pc := 108) X 115 dX2_readItem_108 rfl (fun hc => ?_) (fun hc => ?_)
          · rw [if_pos hc] at h
            exact ev_weak (pc := 115) [] rfl (sX2_readItem_115  _ _ h p e s m args below meth c r0 A X)
          · rw [if_neg hc] at h
            refine ev_iconst (pc := 111) (v := (1 : Int32)) X dX2_readItem_111 rfl ?_
            refine ev_goto (pc := 112) X 116 dX2_readItem_112 rfl ?_
            obtain ⟨v12, hv12, h⟩ := eBi h
            obtain rfl := Option.some.inj h
            exact ev_zret (pc := 116) X dX2_readItem_116 hv12
      · rw [if_neg hq4_2] at h
        by_cases hq4_3 : v1 = (116 : Int32)
        · rw [if_pos hq4_3] at h
          refine ev_lookup (pc := 4) (off := 69) X 73 dX2_readItem_4 (by decide) (by rw [hq4_3]; first | done | rfl) rfl ?_
          refine ev_aload_n (pc := 73) X 0 dX2_readItem_73 rfl rfl ?_
          obtain ⟨v13, hv13, h⟩ := eBi h
          refine ev_getR (pc := 74) X hcX2 (k := 2) (by decide) kfX2_27 dX2_readItem_74 hv13 ?_
          obtain ⟨v15, w14, hc, h⟩ := eB2 h
          refine ev_callV_i (pc := 77) (As := []) (S := []) X hwX1_towns klX2_67 hiX1_towns hsX1_towns (ci := 1) ⟨rfl, rfl⟩ ⟨Nat.le_of_ble_eq_true rfl, Nat.le_of_ble_eq_true rfl⟩ ⟨Nat.le_refl _, Nat.le_refl _⟩ rfl (Nat.le_of_ble_eq_true rfl) dX2_readItem_77 rfl (mX1_towns (l := l) (D := D) (cI := cI) (cZ := cZ) hc).1 (mX1_towns hc).2 ?_
          refine ev_iconst (pc := 80) (v := (4 : Int32)) X dX2_readItem_80 rfl ?_
          refine ev_icmp_ge (pc := 81) X 95 dX2_readItem_81 rfl (fun hc => ?_) (fun hc => ?_)
          · rw [if_pos hc] at h
            exact ev_weak (pc := 95) [] rfl (sX2_readItem_95  _ _ h p e s m args below meth c r0 A X)
          · rw [if_neg hc] at h
            refine ev_aload_n (pc := 84) X 0 dX2_readItem_84 rfl rfl ?_
            obtain ⟨v17, w16, hc, h⟩ := eB2 h
            refine ev_callV_i (pc := 85) (As := []) (S := []) X hwX2_readTown klX2_71 hiX2_readTown hsX2_readTown (ci := 2) ⟨rfl, rfl⟩ ⟨Nat.le_of_ble_eq_true rfl, Nat.le_of_ble_eq_true rfl⟩ ⟨Nat.le_refl _, Nat.le_refl _⟩ rfl (Nat.le_of_ble_eq_true rfl) dX2_readItem_85 rfl (mX2_readTown (l := l) (D := D) (cI := cI) (cZ := cZ) hc).1 (mX2_readTown hc).2 ?_
            refine ev_if_eq (pc := 88) X 95 dX2_readItem_88 rfl (fun hc => ?_) (fun hc => ?_)
            · rw [if_pos hc] at h
              exact ev_weak (pc := 95) [] rfl (sX2_readItem_95  _ _ h p e s m args below meth c r0 A X)
            · rw [if_neg hc] at h
              refine ev_iconst (pc := 91) (v := (1 : Int32)) X dX2_readItem_91 rfl ?_
              refine ev_goto (pc := 92) X 96 dX2_readItem_92 rfl ?_
              obtain ⟨v18, hv18, h⟩ := eBi h
              obtain rfl := Option.some.inj h
              exact ev_zret (pc := 96) X dX2_readItem_96 hv18
        · rw [if_neg hq4_3] at h
          refine ev_lookup (pc := 4) (off := 113) X 117 dX2_readItem_4 (by decide) (by rw [lv_osw hq4_0 (by decide)]; rw [lv_osw hq4_1 (by decide)]; rw [lv_osw hq4_2 (by decide)]; rw [lv_osw hq4_3 (by decide)]; first | done | rfl) rfl ?_
          refine ev_iconst (pc := 117) (v := (0 : Int32)) X dX2_readItem_117 rfl ?_
          obtain ⟨v19, hv19, h⟩ := eBi h
          obtain rfl := Option.some.inj h
          exact ev_zret (pc := 118) X dX2_readItem_118 hv19
def fX2_readItem (a0 : Nat) (w : eW) : Option (Int32 × eW) := bif eO w a0 2 then fX2_readItem_0 a0 w else none
theorem mX2_readItem {a0 : Nat} {w : eW} {v : Int32} {w' : eW} (h : fX2_readItem a0 w = some (v, w')) : eO w a0 2 = true ∧ eMN l D cI cZ 4 yX2_readItem cX2_readItem 1 (some .boolean) [.ref a0] w (some (.int v)) w' := by
  obtain ⟨h0, h⟩ := eBif h
  exact ⟨h0, eMN_of [(0, .ref a0)] (plainFor_of_name (by decide)) (fun _ => rfl) (fun _ => Nat.le_of_ble_eq_true rfl) (fun p e s m args below meth c r0 A X => ev_weak (pc := 0) [0] rfl (sX2_readItem_0 _ _ _ h p e s m args below meth c r0 A X))⟩
theorem dX2_read_0 : decode cX2_read 0 = .ok (.aload_n 0, 1) := by decide +kernel
theorem dX2_read_1 : decode cX2_read 1 = .ok (.getfield 27, 3) := by decide +kernel
theorem dX2_read_4 : decode cX2_read 4 = .ok (.invokevirtual 35, 3) := by decide +kernel
theorem dX2_read_7 : decode cX2_read 7 = .ok (.aload_n 0, 1) := by decide +kernel
theorem dX2_read_8 : decode cX2_read 8 = .ok (.iconst 0, 1) := by decide +kernel
theorem dX2_read_9 : decode cX2_read 9 = .ok (.putfield 38, 3) := by decide +kernel
theorem dX2_read_12 : decode cX2_read 12 = .ok (.aload_n 0, 1) := by decide +kernel
theorem dX2_read_13 : decode cX2_read 13 = .ok (.iconst 0, 1) := by decide +kernel
theorem dX2_read_14 : decode cX2_read 14 = .ok (.putfield 41, 3) := by decide +kernel
theorem dX2_read_17 : decode cX2_read 17 = .ok (.aload_n 0, 1) := by decide +kernel
theorem dX2_read_18 : decode cX2_read 18 = .ok (.iconst 0, 1) := by decide +kernel
theorem dX2_read_19 : decode cX2_read 19 = .ok (.putfield 45, 3) := by decide +kernel
theorem dX2_read_22 : decode cX2_read 22 = .ok (.aload_n 0, 1) := by decide +kernel
theorem dX2_read_23 : decode cX2_read 23 = .ok (.invokevirtual 48, 3) := by decide +kernel
theorem dX2_read_26 : decode cX2_read 26 = .ok (.aload_n 0, 1) := by decide +kernel
theorem dX2_read_27 : decode cX2_read 27 = .ok (.getfield 51, 3) := by decide +kernel
theorem dX2_read_30 : decode cX2_read 30 = .ok (.iconst (-1), 1) := by decide +kernel
theorem dX2_read_31 : decode cX2_read 31 = .ok (.if_icmp .eq 45, 3) := by decide +kernel
theorem dX2_read_34 : decode cX2_read 34 = .ok (.aload_n 0, 1) := by decide +kernel
theorem dX2_read_35 : decode cX2_read 35 = .ok (.getfield 38, 3) := by decide +kernel
theorem dX2_read_38 : decode cX2_read 38 = .ok (.sipush 200, 3) := by decide +kernel
theorem dX2_read_41 : decode cX2_read 41 = .ok (.if_icmp .ge 35, 3) := by decide +kernel
theorem dX2_read_44 : decode cX2_read 44 = .ok (.aload_n 0, 1) := by decide +kernel
theorem dX2_read_45 : decode cX2_read 45 = .ok (.invokevirtual 54, 3) := by decide +kernel
theorem dX2_read_48 : decode cX2_read 48 = .ok (.ifCond .ne 11, 3) := by decide +kernel
theorem dX2_read_51 : decode cX2_read 51 = .ok (.bipush (-10), 2) := by decide +kernel
theorem dX2_read_53 : decode cX2_read 53 = .ok (.aload_n 0, 1) := by decide +kernel
theorem dX2_read_54 : decode cX2_read 54 = .ok (.getfield 58, 3) := by decide +kernel
theorem dX2_read_57 : decode cX2_read 57 = .ok (.isub, 1) := by decide +kernel
theorem dX2_read_58 : decode cX2_read 58 = .ok (.ireturn, 1) := by decide +kernel
theorem dX2_read_59 : decode cX2_read 59 = .ok (.aload_n 0, 1) := by decide +kernel
theorem dX2_read_60 : decode cX2_read 60 = .ok (.dup, 1) := by decide +kernel
theorem dX2_read_61 : decode cX2_read 61 = .ok (.getfield 38, 3) := by decide +kernel
theorem dX2_read_64 : decode cX2_read 64 = .ok (.iconst 1, 1) := by decide +kernel
theorem dX2_read_65 : decode cX2_read 65 = .ok (.iadd, 1) := by decide +kernel
theorem dX2_read_66 : decode cX2_read 66 = .ok (.putfield 38, 3) := by decide +kernel
theorem dX2_read_69 : decode cX2_read 69 = .ok (.aload_n 0, 1) := by decide +kernel
theorem dX2_read_70 : decode cX2_read 70 = .ok (.invokevirtual 48, 3) := by decide +kernel
theorem dX2_read_73 : decode cX2_read 73 = .ok (.goto (-47), 3) := by decide +kernel
theorem dX2_read_76 : decode cX2_read 76 = .ok (.aload_n 0, 1) := by decide +kernel
theorem dX2_read_77 : decode cX2_read 77 = .ok (.getfield 38, 3) := by decide +kernel
theorem dX2_read_80 : decode cX2_read 80 = .ok (.ireturn, 1) := by decide +kernel
def fX2_read_76 (x0 : Nat) (w : eW) : Option (Int32 × eW) := (eGI w x0 2 3).bind fun v1 => some (v1, w)
set_option maxRecDepth 20000 in
theorem sX2_read_76  (x0 : Nat) (w : eW) (r : Int32 × eW) (h : fX2_read_76 x0 w = some r) : eBN l D cI cZ 5 yX2_read cX2_read 1 (some .int) 76 [(0, .ref x0)] [] w (some (.int r.1)) r.2 := by
  rw [fX2_read_76] at h
  intro p e s m args below meth c r0 A X
  refine ev_aload_n (pc := 76) X 0 dX2_read_76 rfl rfl ?_
  obtain ⟨v1, hv1, h⟩ := eBi h
  refine ev_getI (pc := 77) X hcX2 (k := 3) (by decide) kfX2_38 dX2_read_77 hv1 ?_
  obtain rfl := Option.some.inj h
  exact ev_iret (pc := 80) X dX2_read_80
def fX2_read_26 : Nat → Nat → eW → Option (Int32 × eW)
  | 0, _, _ => none
  | n + 1, x0, w => (eGI w x0 2 6).bind fun v1 => if v1 = (-1 : Int32) then (fX2_read_76 x0 w) else ((eGI w x0 2 3).bind fun v2 => if (200 : Int32) ≤ v2 then (fX2_read_76 x0 w) else (eBind2 (fX2_readItem x0 w) fun v4 w3 => if v4 = 0 then ((eGI w3 x0 2 7).bind fun v8 => some ((-10 : Int32) - v8, w3)) else ((eGI w3 x0 2 3).bind fun v5 => (eP w3 x0 2 3 (.int (v5 + (1 : Int32)))).bind fun w6 => (fX2_nextToken x0 w6).bind fun w7 => fX2_read_26 n x0 w7)))
set_option maxRecDepth 20000 in
theorem sX2_read_26  : ∀ (n : Nat) (x0 : Nat) (w : eW) (r : Int32 × eW), fX2_read_26 n x0 w = some r → eBN l D cI cZ 5 yX2_read cX2_read 1 (some .int) 26 [(0, .ref x0)] [] w (some (.int r.1)) r.2 := by
  intro n
  induction n with
  | zero => intro x0 w r h; exact absurd (show (none : Option (Int32 × eW)) = some r from h) (by simp)
  | succ n ih =>
    intro x0 w r h
    rw [fX2_read_26] at h
    intro p e s m args below meth c r0 A X
    refine ev_aload_n (pc := 26) X 0 dX2_read_26 rfl rfl ?_
    obtain ⟨v1, hv1, h⟩ := eBi h
    refine ev_getI (pc := 27) X hcX2 (k := 6) (by decide) kfX2_51 dX2_read_27 hv1 ?_
    refine ev_iconst (pc := 30) (v := (-1 : Int32)) X dX2_read_30 rfl ?_
    refine ev_icmp_eq (pc := 31) X 76 dX2_read_31 rfl (fun hc => ?_) (fun hc => ?_)
    · rw [if_pos hc] at h
      exact ev_weak (pc := 76) [0] rfl (sX2_read_76 _ _ _ h p e s m args below meth c r0 A X)
    · rw [if_neg hc] at h
      refine ev_aload_n (pc := 34) X 0 dX2_read_34 rfl rfl ?_
      obtain ⟨v2, hv2, h⟩ := eBi h
      refine ev_getI (pc := 35) X hcX2 (k := 3) (by decide) kfX2_38 dX2_read_35 hv2 ?_
      refine ev_sipush (pc := 38) (v := (200 : Int32)) X dX2_read_38 rfl ?_
      refine ev_icmp_ge (pc := 41) X 76 dX2_read_41 rfl (fun hc => ?_) (fun hc => ?_)
      · rw [if_pos hc] at h
        exact ev_weak (pc := 76) [0] rfl (sX2_read_76 _ _ _ h p e s m args below meth c r0 A X)
      · rw [if_neg hc] at h
        refine ev_aload_n (pc := 44) X 0 dX2_read_44 rfl rfl ?_
        obtain ⟨v4, w3, hc, h⟩ := eB2 h
        refine ev_callV_i (pc := 45) (As := []) (S := []) X hwX2_readItem klX2_54 hiX2_readItem hsX2_readItem (ci := 2) ⟨rfl, rfl⟩ ⟨Nat.le_of_ble_eq_true rfl, Nat.le_of_ble_eq_true rfl⟩ ⟨Nat.le_refl _, Nat.le_refl _⟩ rfl (Nat.le_of_ble_eq_true rfl) dX2_read_45 rfl (mX2_readItem (l := l) (D := D) (cI := cI) (cZ := cZ) hc).1 (mX2_readItem hc).2 ?_
        refine ev_if_ne (pc := 48) X 59 dX2_read_48 rfl (fun hc => ?_) (fun hc => ?_)
        · rw [if_neg hc] at h
          refine ev_aload_n (pc := 59) X 0 dX2_read_59 rfl rfl ?_
          refine ev_dup (pc := 60) X dX2_read_60 rfl ?_
          obtain ⟨v5, hv5, h⟩ := eBi h
          refine ev_getI (pc := 61) X hcX2 (k := 3) (by decide) kfX2_38 dX2_read_61 hv5 ?_
          refine ev_iconst (pc := 64) (v := (1 : Int32)) X dX2_read_64 rfl ?_
          refine ev_iadd (pc := 65) X dX2_read_65 ?_
          obtain ⟨w6, hw6, h⟩ := eBi h
          refine ev_putI (pc := 66) X hcX2 (k := 3) (by decide) kfX2_38 rfl rfl dX2_read_66 hw6 ?_
          refine ev_aload_n (pc := 69) X 0 dX2_read_69 rfl rfl ?_
          obtain ⟨w7, hc, h⟩ := eBi h
          refine ev_callV_v (pc := 70) (As := []) (S := []) X hwX2_nextToken klX2_48 hiX2_nextToken hsX2_nextToken (ci := 2) ⟨rfl, rfl⟩ ⟨Nat.le_of_ble_eq_true rfl, Nat.le_of_ble_eq_true rfl⟩ ⟨Nat.le_refl _, Nat.le_refl _⟩ rfl (Nat.le_of_ble_eq_true rfl) dX2_read_70 rfl (mX2_nextToken (l := l) (D := D) (cI := cI) (cZ := cZ) hc).1 (mX2_nextToken hc).2 ?_
          refine ev_goto (pc := 73) X 26 dX2_read_73 rfl ?_
          exact ev_weak (pc := 26) [0] rfl (ih _ _ _ h p e s m args below meth c r0 A X)
        · rw [if_pos hc] at h
          refine ev_bipush (pc := 51) (v := (-10 : Int32)) X dX2_read_51 rfl ?_
          refine ev_aload_n (pc := 53) X 0 dX2_read_53 rfl rfl ?_
          obtain ⟨v8, hv8, h⟩ := eBi h
          refine ev_getI (pc := 54) X hcX2 (k := 7) (by decide) kfX2_58 dX2_read_54 hv8 ?_
          refine ev_isub (pc := 57) X dX2_read_57 ?_
          obtain rfl := Option.some.inj h
          exact ev_iret (pc := 58) X dX2_read_58
def fX2_read_0 (x0 : Nat) (w : eW) : Option (Int32 × eW) := (eGR w x0 2 2).bind fun v1 => (fX1_becomeFirst v1 w).bind fun w2 => (eP w2 x0 2 3 (.int (0 : Int32))).bind fun w3 => (eZ (0 : Int32)).bind fun v5 => (eP w3 x0 2 4 (.int v5)).bind fun w4 => (eP w4 x0 2 5 (.int (0 : Int32))).bind fun w6 => (fX2_nextToken x0 w6).bind fun w7 => fX2_read_26 eN x0 w7
set_option maxRecDepth 20000 in
theorem sX2_read_0  (x0 : Nat) (w : eW) (r : Int32 × eW) (h : fX2_read_0 x0 w = some r) : eBN l D cI cZ 5 yX2_read cX2_read 1 (some .int) 0 [(0, .ref x0)] [] w (some (.int r.1)) r.2 := by
  rw [fX2_read_0] at h
  intro p e s m args below meth c r0 A X
  refine ev_aload_n (pc := 0) X 0 dX2_read_0 rfl rfl ?_
  obtain ⟨v1, hv1, h⟩ := eBi h
  refine ev_getR (pc := 1) X hcX2 (k := 2) (by decide) kfX2_27 dX2_read_1 hv1 ?_
  obtain ⟨w2, hc, h⟩ := eBi h
  refine ev_callV_v (pc := 4) (As := []) (S := []) X hwX1_becomeFirst klX2_35 hiX1_becomeFirst hsX1_becomeFirst (ci := 1) ⟨rfl, rfl⟩ ⟨Nat.le_of_ble_eq_true rfl, Nat.le_of_ble_eq_true rfl⟩ ⟨Nat.le_refl _, Nat.le_refl _⟩ rfl (Nat.le_of_ble_eq_true rfl) dX2_read_4 rfl (mX1_becomeFirst (l := l) (D := D) (cI := cI) (cZ := cZ) hc).1 (mX1_becomeFirst hc).2 ?_
  refine ev_aload_n (pc := 7) X 0 dX2_read_7 rfl rfl ?_
  refine ev_iconst (pc := 8) (v := (0 : Int32)) X dX2_read_8 rfl ?_
  obtain ⟨w3, hw3, h⟩ := eBi h
  refine ev_putI (pc := 9) X hcX2 (k := 3) (by decide) kfX2_38 rfl rfl dX2_read_9 hw3 ?_
  refine ev_aload_n (pc := 12) X 0 dX2_read_12 rfl rfl ?_
  refine ev_iconst (pc := 13) (v := (0 : Int32)) X dX2_read_13 rfl ?_
  obtain ⟨v5, hv5, h⟩ := eBi h
  obtain ⟨w4, hw4, h⟩ := eBi h
  refine ev_putZ (pc := 14) X hcX2 (k := 4) (by decide) kfX2_41 rfl rfl dX2_read_14 hv5 hw4 ?_
  refine ev_aload_n (pc := 17) X 0 dX2_read_17 rfl rfl ?_
  refine ev_iconst (pc := 18) (v := (0 : Int32)) X dX2_read_18 rfl ?_
  obtain ⟨w6, hw6, h⟩ := eBi h
  refine ev_putI (pc := 19) X hcX2 (k := 5) (by decide) kfX2_45 rfl rfl dX2_read_19 hw6 ?_
  refine ev_aload_n (pc := 22) X 0 dX2_read_22 rfl rfl ?_
  obtain ⟨w7, hc, h⟩ := eBi h
  refine ev_callV_v (pc := 23) (As := []) (S := []) X hwX2_nextToken klX2_48 hiX2_nextToken hsX2_nextToken (ci := 2) ⟨rfl, rfl⟩ ⟨Nat.le_of_ble_eq_true rfl, Nat.le_of_ble_eq_true rfl⟩ ⟨Nat.le_refl _, Nat.le_refl _⟩ rfl (Nat.le_of_ble_eq_true rfl) dX2_read_23 rfl (mX2_nextToken (l := l) (D := D) (cI := cI) (cZ := cZ) hc).1 (mX2_nextToken hc).2 ?_
  exact ev_weak (pc := 26) [0] rfl (sX2_read_26 eN _ _ _ h p e s m args below meth c r0 A X)
def fX2_read (a0 : Nat) (w : eW) : Option (Int32 × eW) := bif eO w a0 2 then fX2_read_0 a0 w else none
theorem mX2_read {a0 : Nat} {w : eW} {v : Int32} {w' : eW} (h : fX2_read a0 w = some (v, w')) : eO w a0 2 = true ∧ eMN l D cI cZ 5 yX2_read cX2_read 1 (some .int) [.ref a0] w (some (.int v)) w' := by
  obtain ⟨h0, h⟩ := eBif h
  exact ⟨h0, eMN_of [(0, .ref a0)] (plainFor_of_name (by decide)) (fun _ => rfl) (fun _ => Nat.le_of_ble_eq_true rfl) (fun p e s m args below meth c r0 A X => ev_weak (pc := 0) [0] rfl (sX2_read_0 _ _ _ h p e s m args below meth c r0 A X))⟩
theorem dX4_known_0 : decode cX4_known 0 = .ok (.aload_n 0, 1) := by decide +kernel
theorem dX4_known_1 : decode cX4_known 1 = .ok (.getfield 26, 3) := by decide +kernel
theorem dX4_known_4 : decode cX4_known 4 = .ok (.ireturn, 1) := by decide +kernel
def fX4_known_0 (x0 : Nat) (w : eW) : Option (Int32 × eW) := (eGI w x0 4 3).bind fun v1 => some (v1, w)
set_option maxRecDepth 20000 in
theorem sX4_known_0  (x0 : Nat) (w : eW) (r : Int32 × eW) (h : fX4_known_0 x0 w = some r) : eBN l D cI cZ 0 yX4_known cX4_known 1 (some .int) 0 [(0, .ref x0)] [] w (some (.int r.1)) r.2 := by
  rw [fX4_known_0] at h
  intro p e s m args below meth c r0 A X
  refine ev_aload_n (pc := 0) X 0 dX4_known_0 rfl rfl ?_
  obtain ⟨v1, hv1, h⟩ := eBi h
  refine ev_getI (pc := 1) X hcX4 (k := 3) (by decide) kfX4_26 dX4_known_1 hv1 ?_
  obtain rfl := Option.some.inj h
  exact ev_iret (pc := 4) X dX4_known_4
def fX4_known (a0 : Nat) (w : eW) : Option (Int32 × eW) := bif eO w a0 4 then fX4_known_0 a0 w else none
theorem mX4_known {a0 : Nat} {w : eW} {v : Int32} {w' : eW} (h : fX4_known a0 w = some (v, w')) : eO w a0 4 = true ∧ eMN l D cI cZ 0 yX4_known cX4_known 1 (some .int) [.ref a0] w (some (.int v)) w' := by
  obtain ⟨h0, h⟩ := eBif h
  exact ⟨h0, eMN_of [(0, .ref a0)] (plainFor_of_name (by decide)) (fun _ => rfl) (fun _ => Nat.le_of_ble_eq_true rfl) (fun p e s m args below meth c r0 A X => ev_weak (pc := 0) [0] rfl (sX4_known_0 _ _ _ h p e s m args below meth c r0 A X))⟩
theorem dX4_forget_0 : decode cX4_forget 0 = .ok (.aload_n 0, 1) := by decide +kernel
theorem dX4_forget_1 : decode cX4_forget 1 = .ok (.iconst 0, 1) := by decide +kernel
theorem dX4_forget_2 : decode cX4_forget 2 = .ok (.putfield 26, 3) := by decide +kernel
theorem dX4_forget_5 : decode cX4_forget 5 = .ok (.return_, 1) := by decide +kernel
def fX4_forget_0 (x0 : Nat) (w : eW) : Option (eW) := (eP w x0 4 3 (.int (0 : Int32))).bind fun w1 => some w1
set_option maxRecDepth 20000 in
theorem sX4_forget_0  (x0 : Nat) (w : eW) (r : eW) (h : fX4_forget_0 x0 w = some r) : eBN l D cI cZ 0 yX4_forget cX4_forget 1 none 0 [(0, .ref x0)] [] w none r := by
  rw [fX4_forget_0] at h
  intro p e s m args below meth c r0 A X
  refine ev_aload_n (pc := 0) X 0 dX4_forget_0 rfl rfl ?_
  refine ev_iconst (pc := 1) (v := (0 : Int32)) X dX4_forget_1 rfl ?_
  obtain ⟨w1, hw1, h⟩ := eBi h
  refine ev_putI (pc := 2) X hcX4 (k := 3) (by decide) kfX4_26 rfl rfl dX4_forget_2 hw1 ?_
  obtain rfl := Option.some.inj h
  exact ev_vret (pc := 5) X dX4_forget_5
def fX4_forget (a0 : Nat) (w : eW) : Option (eW) := bif eO w a0 4 then fX4_forget_0 a0 w else none
theorem mX4_forget {a0 : Nat} {w : eW} {w' : eW} (h : fX4_forget a0 w = some w') : eO w a0 4 = true ∧ eMN l D cI cZ 0 yX4_forget cX4_forget 1 none [.ref a0] w none w' := by
  obtain ⟨h0, h⟩ := eBif h
  exact ⟨h0, eMN_of [(0, .ref a0)] (plainFor_of_name (by decide)) (fun _ => rfl) (fun _ => Nat.le_of_ble_eq_true rfl) (fun p e s m args below meth c r0 A X => ev_weak (pc := 0) [0] rfl (sX4_forget_0 _ _ _ h p e s m args below meth c r0 A X))⟩
theorem dX4_remember_0 : decode cX4_remember 0 = .ok (.aload_n 0, 1) := by decide +kernel
theorem dX4_remember_1 : decode cX4_remember 1 = .ok (.getfield 29, 3) := by decide +kernel
theorem dX4_remember_4 : decode cX4_remember 4 = .ok (.aload_n 0, 1) := by decide +kernel
theorem dX4_remember_5 : decode cX4_remember 5 = .ok (.getfield 16, 3) := by decide +kernel
theorem dX4_remember_8 : decode cX4_remember 8 = .ok (.aload_n 0, 1) := by decide +kernel
theorem dX4_remember_9 : decode cX4_remember 9 = .ok (.getfield 22, 3) := by decide +kernel
theorem dX4_remember_12 : decode cX4_remember 12 = .ok (.invokevirtual 33, 3) := by decide +kernel
theorem dX4_remember_15 : decode cX4_remember 15 = .ok (.aload_n 0, 1) := by decide +kernel
theorem dX4_remember_16 : decode cX4_remember 16 = .ok (.aload_n 0, 1) := by decide +kernel
theorem dX4_remember_17 : decode cX4_remember 17 = .ok (.getfield 22, 3) := by decide +kernel
theorem dX4_remember_20 : decode cX4_remember 20 = .ok (.iconst 1, 1) := by decide +kernel
theorem dX4_remember_21 : decode cX4_remember 21 = .ok (.iadd, 1) := by decide +kernel
theorem dX4_remember_22 : decode cX4_remember 22 = .ok (.bipush 10, 2) := by decide +kernel
theorem dX4_remember_24 : decode cX4_remember 24 = .ok (.irem, 1) := by decide +kernel
theorem dX4_remember_25 : decode cX4_remember 25 = .ok (.putfield 22, 3) := by decide +kernel
theorem dX4_remember_28 : decode cX4_remember 28 = .ok (.aload_n 0, 1) := by decide +kernel
theorem dX4_remember_29 : decode cX4_remember 29 = .ok (.aload_n 0, 1) := by decide +kernel
theorem dX4_remember_30 : decode cX4_remember 30 = .ok (.getfield 26, 3) := by decide +kernel
theorem dX4_remember_33 : decode cX4_remember 33 = .ok (.iconst 1, 1) := by decide +kernel
theorem dX4_remember_34 : decode cX4_remember 34 = .ok (.iadd, 1) := by decide +kernel
theorem dX4_remember_35 : decode cX4_remember 35 = .ok (.bipush 10, 2) := by decide +kernel
theorem dX4_remember_37 : decode cX4_remember 37 = .ok (.invokestatic 37, 3) := by decide +kernel
theorem dX4_remember_40 : decode cX4_remember 40 = .ok (.putfield 26, 3) := by decide +kernel
theorem dX4_remember_43 : decode cX4_remember 43 = .ok (.return_, 1) := by decide +kernel
def fX4_remember_0 (x0 : Nat) (w : eW) : Option (eW) := (eGR w x0 4 0).bind fun v1 => (eGR w x0 4 1).bind fun v2 => (eGI w x0 4 2).bind fun v3 => (fX0_copyTo v1 v2 v3 w).bind fun w4 => (eGI w4 x0 4 2).bind fun v5 => if (10 : Int32) = 0 then none else (eP w4 x0 4 2 (.int ((v5 + (1 : Int32)) - (v5 + (1 : Int32)) / (10 : Int32) * (10 : Int32)))).bind fun w6 => (eGI w6 x0 4 3).bind fun v7 => eBind2 (fJ9_min_7cf53 (v7 + (1 : Int32)) (10 : Int32) w6) fun v9 w8 => (eP w8 x0 4 3 (.int v9)).bind fun w10 => some w10
set_option maxRecDepth 20000 in
theorem sX4_remember_0  (x0 : Nat) (w : eW) (r : eW) (h : fX4_remember_0 x0 w = some r) : eBN l D cI cZ 2 yX4_remember cX4_remember 1 none 0 [(0, .ref x0)] [] w none r := by
  rw [fX4_remember_0] at h
  intro p e s m args below meth c r0 A X
  refine ev_aload_n (pc := 0) X 0 dX4_remember_0 rfl rfl ?_
  obtain ⟨v1, hv1, h⟩ := eBi h
  refine ev_getR (pc := 1) X hcX4 (k := 0) (by decide) kfX4_29 dX4_remember_1 hv1 ?_
  refine ev_aload_n (pc := 4) X 0 dX4_remember_4 rfl rfl ?_
  obtain ⟨v2, hv2, h⟩ := eBi h
  refine ev_getR (pc := 5) X hcX4 (k := 1) (by decide) kfX4_16 dX4_remember_5 hv2 ?_
  refine ev_aload_n (pc := 8) X 0 dX4_remember_8 rfl rfl ?_
  obtain ⟨v3, hv3, h⟩ := eBi h
  refine ev_getI (pc := 9) X hcX4 (k := 2) (by decide) kfX4_22 dX4_remember_9 hv3 ?_
  obtain ⟨w4, hc, h⟩ := eBi h
  refine ev_callV_v (pc := 12) (As := [.ref v2, .int v3]) (S := []) X hwX0_copyTo klX4_33 hiX0_copyTo hsX0_copyTo (ci := 0) ⟨rfl, rfl⟩ ⟨Nat.le_of_ble_eq_true rfl, Nat.le_of_ble_eq_true rfl⟩ ⟨Nat.le_refl _, Nat.le_refl _⟩ rfl (Nat.le_of_ble_eq_true rfl) dX4_remember_12 rfl (mX0_copyTo (l := l) (D := D) (cI := cI) (cZ := cZ) hc).1 (mX0_copyTo hc).2 ?_
  refine ev_aload_n (pc := 15) X 0 dX4_remember_15 rfl rfl ?_
  refine ev_aload_n (pc := 16) X 0 dX4_remember_16 rfl rfl ?_
  obtain ⟨v5, hv5, h⟩ := eBi h
  refine ev_getI (pc := 17) X hcX4 (k := 2) (by decide) kfX4_22 dX4_remember_17 hv5 ?_
  refine ev_iconst (pc := 20) (v := (1 : Int32)) X dX4_remember_20 rfl ?_
  refine ev_iadd (pc := 21) X dX4_remember_21 ?_
  refine ev_bipush (pc := 22) (v := (10 : Int32)) X dX4_remember_22 rfl ?_
  obtain ⟨hz, h⟩ := eNz h
  refine ev_irem (pc := 24) X dX4_remember_24 hz ?_
  obtain ⟨w6, hw6, h⟩ := eBi h
  refine ev_putI (pc := 25) X hcX4 (k := 2) (by decide) kfX4_22 rfl rfl dX4_remember_25 hw6 ?_
  refine ev_aload_n (pc := 28) X 0 dX4_remember_28 rfl rfl ?_
  refine ev_aload_n (pc := 29) X 0 dX4_remember_29 rfl rfl ?_
  obtain ⟨v7, hv7, h⟩ := eBi h
  refine ev_getI (pc := 30) X hcX4 (k := 3) (by decide) kfX4_26 dX4_remember_30 hv7 ?_
  refine ev_iconst (pc := 33) (v := (1 : Int32)) X dX4_remember_33 rfl ?_
  refine ev_iadd (pc := 34) X dX4_remember_34 ?_
  refine ev_bipush (pc := 35) (v := (10 : Int32)) X dX4_remember_35 rfl ?_
  obtain ⟨v9, w8, hc, h⟩ := eB2 h
  refine ev_callS_i (pc := 37) (As := [.int (v7 + (1 : Int32)), .int (10 : Int32)]) (S := [.ref x0]) X hwJ9_min_7cf53 klX4_37 htJ9_min_7cf53 ⟨Nat.le_of_ble_eq_true rfl, Nat.le_of_ble_eq_true rfl⟩ ⟨Nat.le_refl _, Nat.le_refl _⟩ rfl (Nat.le_of_ble_eq_true rfl) dX4_remember_37 rfl (mJ9_min_7cf53 hc) ?_
  obtain ⟨w10, hw10, h⟩ := eBi h
  refine ev_putI (pc := 40) X hcX4 (k := 3) (by decide) kfX4_26 rfl rfl dX4_remember_40 hw10 ?_
  obtain rfl := Option.some.inj h
  exact ev_vret (pc := 43) X dX4_remember_43
def fX4_remember (a0 : Nat) (w : eW) : Option (eW) := bif eO w a0 4 then fX4_remember_0 a0 w else none
theorem mX4_remember {a0 : Nat} {w : eW} {w' : eW} (h : fX4_remember a0 w = some w') : eO w a0 4 = true ∧ eMN l D cI cZ 2 yX4_remember cX4_remember 1 none [.ref a0] w none w' := by
  obtain ⟨h0, h⟩ := eBif h
  exact ⟨h0, eMN_of [(0, .ref a0)] (plainFor_of_name (by decide)) (fun _ => rfl) (fun _ => Nat.le_of_ble_eq_true rfl) (fun p e s m args below meth c r0 A X => ev_weak (pc := 0) [0] rfl (sX4_remember_0 _ _ _ h p e s m args below meth c r0 A X))⟩
theorem dX4_takeBack_0 : decode cX4_takeBack 0 = .ok (.aload_n 0, 1) := by decide +kernel
theorem dX4_takeBack_1 : decode cX4_takeBack 1 = .ok (.getfield 26, 3) := by decide +kernel
theorem dX4_takeBack_4 : decode cX4_takeBack 4 = .ok (.ifCond .ne 5, 3) := by decide +kernel
theorem dX4_takeBack_7 : decode cX4_takeBack 7 = .ok (.iconst 0, 1) := by decide +kernel
theorem dX4_takeBack_8 : decode cX4_takeBack 8 = .ok (.ireturn, 1) := by decide +kernel
theorem dX4_takeBack_9 : decode cX4_takeBack 9 = .ok (.aload_n 0, 1) := by decide +kernel
theorem dX4_takeBack_10 : decode cX4_takeBack 10 = .ok (.aload_n 0, 1) := by decide +kernel
theorem dX4_takeBack_11 : decode cX4_takeBack 11 = .ok (.getfield 22, 3) := by decide +kernel
theorem dX4_takeBack_14 : decode cX4_takeBack 14 = .ok (.bipush 10, 2) := by decide +kernel
theorem dX4_takeBack_16 : decode cX4_takeBack 16 = .ok (.iadd, 1) := by decide +kernel
theorem dX4_takeBack_17 : decode cX4_takeBack 17 = .ok (.iconst 1, 1) := by decide +kernel
theorem dX4_takeBack_18 : decode cX4_takeBack 18 = .ok (.isub, 1) := by decide +kernel
theorem dX4_takeBack_19 : decode cX4_takeBack 19 = .ok (.bipush 10, 2) := by decide +kernel
theorem dX4_takeBack_21 : decode cX4_takeBack 21 = .ok (.irem, 1) := by decide +kernel
theorem dX4_takeBack_22 : decode cX4_takeBack 22 = .ok (.putfield 22, 3) := by decide +kernel
theorem dX4_takeBack_25 : decode cX4_takeBack 25 = .ok (.aload_n 0, 1) := by decide +kernel
theorem dX4_takeBack_26 : decode cX4_takeBack 26 = .ok (.dup, 1) := by decide +kernel
theorem dX4_takeBack_27 : decode cX4_takeBack 27 = .ok (.getfield 26, 3) := by decide +kernel
theorem dX4_takeBack_30 : decode cX4_takeBack 30 = .ok (.iconst 1, 1) := by decide +kernel
theorem dX4_takeBack_31 : decode cX4_takeBack 31 = .ok (.isub, 1) := by decide +kernel
theorem dX4_takeBack_32 : decode cX4_takeBack 32 = .ok (.putfield 26, 3) := by decide +kernel
theorem dX4_takeBack_35 : decode cX4_takeBack 35 = .ok (.aload_n 0, 1) := by decide +kernel
theorem dX4_takeBack_36 : decode cX4_takeBack 36 = .ok (.getfield 29, 3) := by decide +kernel
theorem dX4_takeBack_39 : decode cX4_takeBack 39 = .ok (.aload_n 0, 1) := by decide +kernel
theorem dX4_takeBack_40 : decode cX4_takeBack 40 = .ok (.getfield 16, 3) := by decide +kernel
theorem dX4_takeBack_43 : decode cX4_takeBack 43 = .ok (.aload_n 0, 1) := by decide +kernel
theorem dX4_takeBack_44 : decode cX4_takeBack 44 = .ok (.getfield 22, 3) := by decide +kernel
theorem dX4_takeBack_47 : decode cX4_takeBack 47 = .ok (.invokevirtual 43, 3) := by decide +kernel
theorem dX4_takeBack_50 : decode cX4_takeBack 50 = .ok (.iconst 1, 1) := by decide +kernel
theorem dX4_takeBack_51 : decode cX4_takeBack 51 = .ok (.ireturn, 1) := by decide +kernel
def fX4_takeBack_0 (x0 : Nat) (w : eW) : Option (Int32 × eW) := (eGI w x0 4 3).bind fun v1 => if v1 = 0 then ((eZ (0 : Int32)).bind fun v11 => some (v11, w)) else ((eGI w x0 4 2).bind fun v2 => if (10 : Int32) = 0 then none else (eP w x0 4 2 (.int (((v2 + (10 : Int32)) - (1 : Int32)) - ((v2 + (10 : Int32)) - (1 : Int32)) / (10 : Int32) * (10 : Int32)))).bind fun w3 => (eGI w3 x0 4 3).bind fun v4 => (eP w3 x0 4 3 (.int (v4 - (1 : Int32)))).bind fun w5 => (eGR w5 x0 4 0).bind fun v6 => (eGR w5 x0 4 1).bind fun v7 => (eGI w5 x0 4 2).bind fun v8 => (fX0_copyFrom v6 v7 v8 w5).bind fun w9 => (eZ (1 : Int32)).bind fun v10 => some (v10, w9))
set_option maxRecDepth 20000 in
theorem sX4_takeBack_0  (x0 : Nat) (w : eW) (r : Int32 × eW) (h : fX4_takeBack_0 x0 w = some r) : eBN l D cI cZ 2 yX4_takeBack cX4_takeBack 1 (some .boolean) 0 [(0, .ref x0)] [] w (some (.int r.1)) r.2 := by
  rw [fX4_takeBack_0] at h
  intro p e s m args below meth c r0 A X
  refine ev_aload_n (pc := 0) X 0 dX4_takeBack_0 rfl rfl ?_
  obtain ⟨v1, hv1, h⟩ := eBi h
  refine ev_getI (pc := 1) X hcX4 (k := 3) (by decide) kfX4_26 dX4_takeBack_1 hv1 ?_
  refine ev_if_ne (pc := 4) X 9 dX4_takeBack_4 rfl (fun hc => ?_) (fun hc => ?_)
  · rw [if_neg hc] at h
    refine ev_aload_n (pc := 9) X 0 dX4_takeBack_9 rfl rfl ?_
    refine ev_aload_n (pc := 10) X 0 dX4_takeBack_10 rfl rfl ?_
    obtain ⟨v2, hv2, h⟩ := eBi h
    refine ev_getI (pc := 11) X hcX4 (k := 2) (by decide) kfX4_22 dX4_takeBack_11 hv2 ?_
    refine ev_bipush (pc := 14) (v := (10 : Int32)) X dX4_takeBack_14 rfl ?_
    refine ev_iadd (pc := 16) X dX4_takeBack_16 ?_
    refine ev_iconst (pc := 17) (v := (1 : Int32)) X dX4_takeBack_17 rfl ?_
    refine ev_isub (pc := 18) X dX4_takeBack_18 ?_
    refine ev_bipush (pc := 19) (v := (10 : Int32)) X dX4_takeBack_19 rfl ?_
    obtain ⟨hz, h⟩ := eNz h
    refine ev_irem (pc := 21) X dX4_takeBack_21 hz ?_
    obtain ⟨w3, hw3, h⟩ := eBi h
    refine ev_putI (pc := 22) X hcX4 (k := 2) (by decide) kfX4_22 rfl rfl dX4_takeBack_22 hw3 ?_
    refine ev_aload_n (pc := 25) X 0 dX4_takeBack_25 rfl rfl ?_
    refine ev_dup (pc := 26) X dX4_takeBack_26 rfl ?_
    obtain ⟨v4, hv4, h⟩ := eBi h
    refine ev_getI (pc := 27) X hcX4 (k := 3) (by decide) kfX4_26 dX4_takeBack_27 hv4 ?_
    refine ev_iconst (pc := 30) (v := (1 : Int32)) X dX4_takeBack_30 rfl ?_
    refine ev_isub (pc := 31) X dX4_takeBack_31 ?_
    obtain ⟨w5, hw5, h⟩ := eBi h
    refine ev_putI (pc := 32) X hcX4 (k := 3) (by decide) kfX4_26 rfl rfl dX4_takeBack_32 hw5 ?_
    refine ev_aload_n (pc := 35) X 0 dX4_takeBack_35 rfl rfl ?_
    obtain ⟨v6, hv6, h⟩ := eBi h
    refine ev_getR (pc := 36) X hcX4 (k := 0) (by decide) kfX4_29 dX4_takeBack_36 hv6 ?_
    refine ev_aload_n (pc := 39) X 0 dX4_takeBack_39 rfl rfl ?_
    obtain ⟨v7, hv7, h⟩ := eBi h
    refine ev_getR (pc := 40) X hcX4 (k := 1) (by decide) kfX4_16 dX4_takeBack_40 hv7 ?_
    refine ev_aload_n (pc := 43) X 0 dX4_takeBack_43 rfl rfl ?_
    obtain ⟨v8, hv8, h⟩ := eBi h
    refine ev_getI (pc := 44) X hcX4 (k := 2) (by decide) kfX4_22 dX4_takeBack_44 hv8 ?_
    obtain ⟨w9, hc, h⟩ := eBi h
    refine ev_callV_v (pc := 47) (As := [.ref v7, .int v8]) (S := []) X hwX0_copyFrom klX4_43 hiX0_copyFrom hsX0_copyFrom (ci := 0) ⟨rfl, rfl⟩ ⟨Nat.le_of_ble_eq_true rfl, Nat.le_of_ble_eq_true rfl⟩ ⟨Nat.le_refl _, Nat.le_refl _⟩ rfl (Nat.le_of_ble_eq_true rfl) dX4_takeBack_47 rfl (mX0_copyFrom (l := l) (D := D) (cI := cI) (cZ := cZ) hc).1 (mX0_copyFrom hc).2 ?_
    refine ev_iconst (pc := 50) (v := (1 : Int32)) X dX4_takeBack_50 rfl ?_
    obtain ⟨v10, hv10, h⟩ := eBi h
    obtain rfl := Option.some.inj h
    exact ev_zret (pc := 51) X dX4_takeBack_51 hv10
  · rw [if_pos hc] at h
    refine ev_iconst (pc := 7) (v := (0 : Int32)) X dX4_takeBack_7 rfl ?_
    obtain ⟨v11, hv11, h⟩ := eBi h
    obtain rfl := Option.some.inj h
    exact ev_zret (pc := 8) X dX4_takeBack_8 hv11
def fX4_takeBack (a0 : Nat) (w : eW) : Option (Int32 × eW) := bif eO w a0 4 then fX4_takeBack_0 a0 w else none
theorem mX4_takeBack {a0 : Nat} {w : eW} {v : Int32} {w' : eW} (h : fX4_takeBack a0 w = some (v, w')) : eO w a0 4 = true ∧ eMN l D cI cZ 2 yX4_takeBack cX4_takeBack 1 (some .boolean) [.ref a0] w (some (.int v)) w' := by
  obtain ⟨h0, h⟩ := eBif h
  exact ⟨h0, eMN_of [(0, .ref a0)] (plainFor_of_name (by decide)) (fun _ => rfl) (fun _ => Nat.le_of_ble_eq_true rfl) (fun p e s m args below meth c r0 A X => ev_weak (pc := 0) [0] rfl (sX4_takeBack_0 _ _ _ h p e s m args below meth c r0 A X))⟩
end GEN
