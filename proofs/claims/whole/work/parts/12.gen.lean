section GEN
variable {l : Launch} {D : va_G} {cI cZ : ClassId}
theorem dX3_lowerNumber_0 : decode cX3_lowerNumber 0 = .ok (.iconst 1, 1) := by decide +kernel
theorem dX3_lowerNumber_1 : decode cX3_lowerNumber 1 = .ok (.istore_n 2, 1) := by decide +kernel
theorem dX3_lowerNumber_2 : decode cX3_lowerNumber 2 = .ok (.iconst 0, 1) := by decide +kernel
theorem dX3_lowerNumber_3 : decode cX3_lowerNumber 3 = .ok (.istore_n 3, 1) := by decide +kernel
theorem dX3_lowerNumber_4 : decode cX3_lowerNumber 4 = .ok (.iload_n 3, 1) := by decide +kernel
theorem dX3_lowerNumber_5 : decode cX3_lowerNumber 5 = .ok (.iload_n 1, 1) := by decide +kernel
theorem dX3_lowerNumber_6 : decode cX3_lowerNumber 6 = .ok (.if_icmp .ge 14, 3) := by decide +kernel
theorem dX3_lowerNumber_9 : decode cX3_lowerNumber 9 = .ok (.iload_n 2, 1) := by decide +kernel
theorem dX3_lowerNumber_10 : decode cX3_lowerNumber 10 = .ok (.bipush 10, 2) := by decide +kernel
theorem dX3_lowerNumber_12 : decode cX3_lowerNumber 12 = .ok (.imul, 1) := by decide +kernel
theorem dX3_lowerNumber_13 : decode cX3_lowerNumber 13 = .ok (.istore_n 2, 1) := by decide +kernel
theorem dX3_lowerNumber_14 : decode cX3_lowerNumber 14 = .ok (.iinc 3 1, 3) := by decide +kernel
theorem dX3_lowerNumber_17 : decode cX3_lowerNumber 17 = .ok (.goto (-13), 3) := by decide +kernel
theorem dX3_lowerNumber_20 : decode cX3_lowerNumber 20 = .ok (.iload_n 2, 1) := by decide +kernel
theorem dX3_lowerNumber_21 : decode cX3_lowerNumber 21 = .ok (.ireturn, 1) := by decide +kernel
def fX3_lowerNumber_4 : Nat → Int32 → Int32 → Int32 → eW → Option (Int32 × eW)
  | 0, _, _, _, _ => none
  | n + 1, x1, x2, x3, w => if x1 ≤ x3 then (some (x2, w)) else (fX3_lowerNumber_4 n x1 (x2 * (10 : Int32)) (x3 + (1 : Int32)) w)
set_option maxRecDepth 20000 in
theorem sX3_lowerNumber_4  : ∀ (n : Nat) (x1 : Int32) (x2 : Int32) (x3 : Int32) (w : eW) (r : Int32 × eW), fX3_lowerNumber_4 n x1 x2 x3 w = some r → eBN l D cI cZ 0 yX3_lowerNumber cX3_lowerNumber 4 (some .int) 4 [(1, .int x1), (2, .int x2), (3, .int x3)] [] w (some (.int r.1)) r.2 := by
  intro n
  induction n with
  | zero => intro x1 x2 x3 w r h; exact absurd (show (none : Option (Int32 × eW)) = some r from h) (by simp)
  | succ n ih =>
    intro x1 x2 x3 w r h
    rw [fX3_lowerNumber_4] at h
    intro p e s m args below meth c r0 A X
    refine ev_iload_n (pc := 4) X 2 dX3_lowerNumber_4 rfl rfl ?_
    refine ev_iload_n (pc := 5) X 0 dX3_lowerNumber_5 rfl rfl ?_
    refine ev_icmp_ge (pc := 6) X 20 dX3_lowerNumber_6 rfl (fun hc => ?_) (fun hc => ?_)
    · rw [if_pos hc] at h
      refine ev_iload_n (pc := 20) X 1 dX3_lowerNumber_20 rfl rfl ?_
      obtain rfl := Option.some.inj h
      exact ev_iret (pc := 21) X dX3_lowerNumber_21
    · rw [if_neg hc] at h
      refine ev_iload_n (pc := 9) X 1 dX3_lowerNumber_9 rfl rfl ?_
      refine ev_bipush (pc := 10) (v := (10 : Int32)) X dX3_lowerNumber_10 rfl ?_
      refine ev_imul (pc := 12) X dX3_lowerNumber_12 ?_
      refine ev_istore_n (pc := 13) (L' := [(2, .int (x2 * (10 : Int32))), (1, .int x1), (3, .int x3)]) X dX3_lowerNumber_13 rfl (by decide) rfl ?_
      refine ev_iinc (pc := 14) (v := x3 + (1 : Int32)) (L' := [(3, .int (x3 + (1 : Int32))), (2, .int (x2 * (10 : Int32))), (1, .int x1)]) X 2 dX3_lowerNumber_14 rfl rfl (by decide) rfl ?_
      refine ev_goto (pc := 17) X 4 dX3_lowerNumber_17 rfl ?_
      exact ev_weak (pc := 4) [2, 1, 0] rfl (ih _ _ _ _ _ h p e s m args below meth c r0 A X)
def fX3_lowerNumber_0 (x1 : Int32) (w : eW) : Option (Int32 × eW) := fX3_lowerNumber_4 eN x1 (1 : Int32) (0 : Int32) w
set_option maxRecDepth 20000 in
theorem sX3_lowerNumber_0  (x1 : Int32) (w : eW) (r : Int32 × eW) (h : fX3_lowerNumber_0 x1 w = some r) : eBN l D cI cZ 0 yX3_lowerNumber cX3_lowerNumber 4 (some .int) 0 [(1, .int x1)] [] w (some (.int r.1)) r.2 := by
  rw [fX3_lowerNumber_0] at h
  intro p e s m args below meth c r0 A X
  refine ev_iconst (pc := 0) (v := (1 : Int32)) X dX3_lowerNumber_0 rfl ?_
  refine ev_istore_n (pc := 1) (L' := [(2, .int (1 : Int32)), (1, .int x1)]) X dX3_lowerNumber_1 rfl (by decide) rfl ?_
  refine ev_iconst (pc := 2) (v := (0 : Int32)) X dX3_lowerNumber_2 rfl ?_
  refine ev_istore_n (pc := 3) (L' := [(3, .int (0 : Int32)), (2, .int (1 : Int32)), (1, .int x1)]) X dX3_lowerNumber_3 rfl (by decide) rfl ?_
  exact ev_weak (pc := 4) [2, 1, 0] rfl (sX3_lowerNumber_4 eN _ _ _ _ _ h p e s m args below meth c r0 A X)
def fX3_lowerNumber (a0 : Nat) (a1 : Int32) (w : eW) : Option (Int32 × eW) := bif eO w a0 3 then fX3_lowerNumber_0 a1 w else none
theorem mX3_lowerNumber {a0 : Nat} {a1 : Int32} {w : eW} {v : Int32} {w' : eW} (h : fX3_lowerNumber a0 a1 w = some (v, w')) : eO w a0 3 = true ∧ eMN l D cI cZ 0 yX3_lowerNumber cX3_lowerNumber 4 (some .int) [.ref a0, .int a1] w (some (.int v)) w' := by
  obtain ⟨h0, h⟩ := eBif h
  exact ⟨h0, eMN_of [(0, .ref a0), (1, .int a1)] (plainFor_of_name (by decide)) (fun _ => rfl) (fun _ => Nat.le_of_ble_eq_true rfl) (fun p e s m args below meth c r0 A X => ev_weak (pc := 0) [1] rfl (sX3_lowerNumber_0 _ _ _ h p e s m args below meth c r0 A X))⟩
theorem dX3_foretell_0 : decode cX3_foretell 0 = .ok (.aload_n 0, 1) := by decide +kernel
theorem dX3_foretell_1 : decode cX3_foretell 1 = .ok (.getfield 14, 3) := by decide +kernel
theorem dX3_foretell_4 : decode cX3_foretell 4 = .ok (.iconst 0, 1) := by decide +kernel
theorem dX3_foretell_5 : decode cX3_foretell 5 = .ok (.invokevirtual 58, 3) := by decide +kernel
theorem dX3_foretell_8 : decode cX3_foretell 8 = .ok (.aload_n 0, 1) := by decide +kernel
theorem dX3_foretell_9 : decode cX3_foretell 9 = .ok (.getfield 14, 3) := by decide +kernel
theorem dX3_foretell_12 : decode cX3_foretell 12 = .ok (.iconst 0, 1) := by decide +kernel
theorem dX3_foretell_13 : decode cX3_foretell 13 = .ok (.iconst 1, 1) := by decide +kernel
theorem dX3_foretell_14 : decode cX3_foretell 14 = .ok (.invokevirtual 61, 3) := by decide +kernel
theorem dX3_foretell_17 : decode cX3_foretell 17 = .ok (.iconst 1, 1) := by decide +kernel
theorem dX3_foretell_18 : decode cX3_foretell 18 = .ok (.istore_n 3, 1) := by decide +kernel
theorem dX3_foretell_19 : decode cX3_foretell 19 = .ok (.iload_n 3, 1) := by decide +kernel
theorem dX3_foretell_20 : decode cX3_foretell 20 = .ok (.iload_n 2, 1) := by decide +kernel
theorem dX3_foretell_21 : decode cX3_foretell 21 = .ok (.if_icmp .gt 77, 3) := by decide +kernel
theorem dX3_foretell_24 : decode cX3_foretell 24 = .ok (.iload_n 3, 1) := by decide +kernel
theorem dX3_foretell_25 : decode cX3_foretell 25 = .ok (.istore 4, 2) := by decide +kernel
theorem dX3_foretell_27 : decode cX3_foretell 27 = .ok (.iload 4, 2) := by decide +kernel
theorem dX3_foretell_29 : decode cX3_foretell 29 = .ok (.ifCond .lt 63, 3) := by decide +kernel
theorem dX3_foretell_32 : decode cX3_foretell 32 = .ok (.aload_n 0, 1) := by decide +kernel
theorem dX3_foretell_33 : decode cX3_foretell 33 = .ok (.getfield 14, 3) := by decide +kernel
theorem dX3_foretell_36 : decode cX3_foretell 36 = .ok (.iload 4, 2) := by decide +kernel
theorem dX3_foretell_38 : decode cX3_foretell 38 = .ok (.invokevirtual 51, 3) := by decide +kernel
theorem dX3_foretell_41 : decode cX3_foretell 41 = .ok (.bipush 10, 2) := by decide +kernel
theorem dX3_foretell_43 : decode cX3_foretell 43 = .ok (.iload_n 1, 1) := by decide +kernel
theorem dX3_foretell_44 : decode cX3_foretell 44 = .ok (.isub, 1) := by decide +kernel
theorem dX3_foretell_45 : decode cX3_foretell 45 = .ok (.imul, 1) := by decide +kernel
theorem dX3_foretell_46 : decode cX3_foretell 46 = .ok (.istore 5, 2) := by decide +kernel
theorem dX3_foretell_48 : decode cX3_foretell 48 = .ok (.iload 4, 2) := by decide +kernel
theorem dX3_foretell_50 : decode cX3_foretell 50 = .ok (.ifCond .le 19, 3) := by decide +kernel
theorem dX3_foretell_53 : decode cX3_foretell 53 = .ok (.aload_n 0, 1) := by decide +kernel
theorem dX3_foretell_54 : decode cX3_foretell 54 = .ok (.getfield 14, 3) := by decide +kernel
theorem dX3_foretell_57 : decode cX3_foretell 57 = .ok (.iload 4, 2) := by decide +kernel
theorem dX3_foretell_59 : decode cX3_foretell 59 = .ok (.iconst 1, 1) := by decide +kernel
theorem dX3_foretell_60 : decode cX3_foretell 60 = .ok (.isub, 1) := by decide +kernel
theorem dX3_foretell_61 : decode cX3_foretell 61 = .ok (.invokevirtual 51, 3) := by decide +kernel
theorem dX3_foretell_64 : decode cX3_foretell 64 = .ok (.iload_n 1, 1) := by decide +kernel
theorem dX3_foretell_65 : decode cX3_foretell 65 = .ok (.imul, 1) := by decide +kernel
theorem dX3_foretell_66 : decode cX3_foretell 66 = .ok (.goto 4, 3) := by decide +kernel
theorem dX3_foretell_69 : decode cX3_foretell 69 = .ok (.iconst 0, 1) := by decide +kernel
theorem dX3_foretell_70 : decode cX3_foretell 70 = .ok (.istore 6, 2) := by decide +kernel
theorem dX3_foretell_72 : decode cX3_foretell 72 = .ok (.aload_n 0, 1) := by decide +kernel
theorem dX3_foretell_73 : decode cX3_foretell 73 = .ok (.getfield 14, 3) := by decide +kernel
theorem dX3_foretell_76 : decode cX3_foretell 76 = .ok (.iload 4, 2) := by decide +kernel
theorem dX3_foretell_78 : decode cX3_foretell 78 = .ok (.iload 5, 2) := by decide +kernel
theorem dX3_foretell_80 : decode cX3_foretell 80 = .ok (.iload 6, 2) := by decide +kernel
theorem dX3_foretell_82 : decode cX3_foretell 82 = .ok (.iadd, 1) := by decide +kernel
theorem dX3_foretell_83 : decode cX3_foretell 83 = .ok (.invokevirtual 61, 3) := by decide +kernel
theorem dX3_foretell_86 : decode cX3_foretell 86 = .ok (.iinc 4 (-1), 3) := by decide +kernel
theorem dX3_foretell_89 : decode cX3_foretell 89 = .ok (.goto (-62), 3) := by decide +kernel
theorem dX3_foretell_92 : decode cX3_foretell 92 = .ok (.iinc 3 1, 3) := by decide +kernel
theorem dX3_foretell_95 : decode cX3_foretell 95 = .ok (.goto (-76), 3) := by decide +kernel
theorem dX3_foretell_98 : decode cX3_foretell 98 = .ok (.return_, 1) := by decide +kernel
def fX3_foretell_70 (K19 : Nat → Int32 → Int32 → Int32 → eW → Option (eW)) (K27 : Nat → Int32 → Int32 → Int32 → Int32 → eW → Option (eW)) (x0 : Nat) (x1 : Int32) (x2 : Int32) (x3 : Int32) (x4 : Int32) (x5 : Int32) (t0 : Int32) (w : eW) : Option (eW) := (eGR w x0 3 2).bind fun v1 => (fX7_put v1 x4 (x5 + t0) w).bind fun w2 => K27 x0 x1 x2 x3 (x4 + (-1 : Int32)) w2
set_option maxRecDepth 20000 in
theorem sX3_foretell_70 {K19 : Nat → Int32 → Int32 → Int32 → eW → Option (eW)} {K27 : Nat → Int32 → Int32 → Int32 → Int32 → eW → Option (eW)} (hK19 : ∀ (x0 : Nat) (x1 : Int32) (x2 : Int32) (x3 : Int32) (w : eW) (r : eW), K19 x0 x1 x2 x3 w = some r → eBN l D cI cZ 1 yX3_foretell cX3_foretell 7 none 19 [(0, .ref x0), (1, .int x1), (2, .int x2), (3, .int x3)] [] w none r) (hK27 : ∀ (x0 : Nat) (x1 : Int32) (x2 : Int32) (x3 : Int32) (x4 : Int32) (w : eW) (r : eW), K27 x0 x1 x2 x3 x4 w = some r → eBN l D cI cZ 1 yX3_foretell cX3_foretell 7 none 27 [(0, .ref x0), (1, .int x1), (2, .int x2), (3, .int x3), (4, .int x4)] [] w none r) (x0 : Nat) (x1 : Int32) (x2 : Int32) (x3 : Int32) (x4 : Int32) (x5 : Int32) (t0 : Int32) (w : eW) (r : eW) (h : fX3_foretell_70 K19 K27 x0 x1 x2 x3 x4 x5 t0 w = some r) : eBN l D cI cZ 1 yX3_foretell cX3_foretell 7 none 70 [(0, .ref x0), (1, .int x1), (2, .int x2), (3, .int x3), (4, .int x4), (5, .int x5)] [.int t0] w none r := by
  rw [fX3_foretell_70] at h
  intro p e s m args below meth c r0 A X
  refine ev_istore (pc := 70) (L' := [(6, .int t0), (0, .ref x0), (1, .int x1), (2, .int x2), (3, .int x3), (4, .int x4), (5, .int x5)]) X dX3_foretell_70 (by decide) rfl ?_
  refine ev_aload_n (pc := 72) X 1 dX3_foretell_72 rfl rfl ?_
  obtain ⟨v1, hv1, h⟩ := eBi h
  refine ev_getR (pc := 73) X hcX3 (k := 2) (by decide) kfX3_14 dX3_foretell_73 hv1 ?_
  refine ev_iload (pc := 76) X 5 dX3_foretell_76 rfl ?_
  refine ev_iload (pc := 78) X 6 dX3_foretell_78 rfl ?_
  refine ev_iload (pc := 80) X 0 dX3_foretell_80 rfl ?_
  refine ev_iadd (pc := 82) X dX3_foretell_82 ?_
  obtain ⟨w2, hc, h⟩ := eBi h
  refine ev_callV_v (pc := 83) (As := [.int x4, .int (x5 + t0)]) (S := []) X hwX7_put klX3_61 hiX7_put hsX7_put (ci := 7) ⟨rfl, rfl⟩ ⟨Nat.le_of_ble_eq_true rfl, Nat.le_of_ble_eq_true rfl⟩ ⟨Nat.le_refl _, Nat.le_refl _⟩ rfl (Nat.le_of_ble_eq_true rfl) dX3_foretell_83 rfl (mX7_put (l := l) (D := D) (cI := cI) (cZ := cZ) hc).1 (mX7_put hc).2 ?_
  refine ev_iinc (pc := 86) (v := x4 + (-1 : Int32)) (L' := [(4, .int (x4 + (-1 : Int32))), (6, .int t0), (0, .ref x0), (1, .int x1), (2, .int x2), (3, .int x3), (5, .int x5)]) X 5 dX3_foretell_86 rfl rfl (by decide) rfl ?_
  refine ev_goto (pc := 89) X 27 dX3_foretell_89 rfl ?_
  exact ev_weak (pc := 27) [2, 3, 4, 5, 0] rfl (hK27 _ _ _ _ _ _ _ h p e s m args below meth c r0 A X)
def fX3_foretell_27 (K19 : Nat → Int32 → Int32 → Int32 → eW → Option (eW)) : Nat → Nat → Int32 → Int32 → Int32 → Int32 → eW → Option (eW)
  | 0, _, _, _, _, _, _ => none
  | n + 1, x0, x1, x2, x3, x4, w => if x4 < 0 then (K19 x0 x1 x2 (x3 + (1 : Int32)) w) else ((eGR w x0 3 2).bind fun v1 => eBind2 (fX7_get v1 x4 w) fun v3 w2 => if x4 ≤ 0 then (fX3_foretell_70 K19 (fX3_foretell_27 K19 n) x0 x1 x2 x3 x4 (v3 * ((10 : Int32) - x1)) (0 : Int32) w2) else ((eGR w2 x0 3 2).bind fun v4 => eBind2 (fX7_get v4 (x4 - (1 : Int32)) w2) fun v6 w5 => fX3_foretell_70 K19 (fX3_foretell_27 K19 n) x0 x1 x2 x3 x4 (v3 * ((10 : Int32) - x1)) (v6 * x1) w5))
set_option maxRecDepth 20000 in
theorem sX3_foretell_27 {K19 : Nat → Int32 → Int32 → Int32 → eW → Option (eW)} (hK19 : ∀ (x0 : Nat) (x1 : Int32) (x2 : Int32) (x3 : Int32) (w : eW) (r : eW), K19 x0 x1 x2 x3 w = some r → eBN l D cI cZ 1 yX3_foretell cX3_foretell 7 none 19 [(0, .ref x0), (1, .int x1), (2, .int x2), (3, .int x3)] [] w none r) : ∀ (n : Nat) (x0 : Nat) (x1 : Int32) (x2 : Int32) (x3 : Int32) (x4 : Int32) (w : eW) (r : eW), fX3_foretell_27 K19 n x0 x1 x2 x3 x4 w = some r → eBN l D cI cZ 1 yX3_foretell cX3_foretell 7 none 27 [(0, .ref x0), (1, .int x1), (2, .int x2), (3, .int x3), (4, .int x4)] [] w none r := by
  intro n
  induction n with
  | zero => intro x0 x1 x2 x3 x4 w r h; exact absurd (show (none : Option (eW)) = some r from h) (by simp)
  | succ n ih =>
    intro x0 x1 x2 x3 x4 w r h
    rw [fX3_foretell_27] at h
    intro p e s m args below meth c r0 A X
    refine ev_iload (pc := 27) X 4 dX3_foretell_27 rfl ?_
    refine ev_if_lt (pc := 29) X 92 dX3_foretell_29 rfl (fun hc => ?_) (fun hc => ?_)
    · rw [if_pos hc] at h
      refine ev_iinc (pc := 92) (v := x3 + (1 : Int32)) (L' := [(3, .int (x3 + (1 : Int32))), (0, .ref x0), (1, .int x1), (2, .int x2), (4, .int x4)]) X 3 dX3_foretell_92 rfl rfl (by decide) rfl ?_
      refine ev_goto (pc := 95) X 19 dX3_foretell_95 rfl ?_
      exact ev_weak (pc := 19) [1, 2, 3, 0] rfl (hK19 _ _ _ _ _ _ h p e s m args below meth c r0 A X)
    · rw [if_neg hc] at h
      refine ev_aload_n (pc := 32) X 0 dX3_foretell_32 rfl rfl ?_
      obtain ⟨v1, hv1, h⟩ := eBi h
      refine ev_getR (pc := 33) X hcX3 (k := 2) (by decide) kfX3_14 dX3_foretell_33 hv1 ?_
      refine ev_iload (pc := 36) X 4 dX3_foretell_36 rfl ?_
      obtain ⟨v3, w2, hc, h⟩ := eB2 h
      refine ev_callV_i (pc := 38) (As := [.int x4]) (S := []) X hwX7_get klX3_51 hiX7_get hsX7_get (ci := 7) ⟨rfl, rfl⟩ ⟨Nat.le_of_ble_eq_true rfl, Nat.le_of_ble_eq_true rfl⟩ ⟨Nat.le_refl _, Nat.le_refl _⟩ rfl (Nat.le_of_ble_eq_true rfl) dX3_foretell_38 rfl (mX7_get (l := l) (D := D) (cI := cI) (cZ := cZ) hc).1 (mX7_get hc).2 ?_
      refine ev_bipush (pc := 41) (v := (10 : Int32)) X dX3_foretell_41 rfl ?_
      refine ev_iload_n (pc := 43) X 1 dX3_foretell_43 rfl rfl ?_
      refine ev_isub (pc := 44) X dX3_foretell_44 ?_
      refine ev_imul (pc := 45) X dX3_foretell_45 ?_
      refine ev_istore (pc := 46) (L' := [(5, .int (v3 * ((10 : Int32) - x1))), (0, .ref x0), (1, .int x1), (2, .int x2), (3, .int x3), (4, .int x4)]) X dX3_foretell_46 (by decide) rfl ?_
      refine ev_iload (pc := 48) X 5 dX3_foretell_48 rfl ?_
      refine ev_if_le (pc := 50) X 69 dX3_foretell_50 rfl (fun hc => ?_) (fun hc => ?_)
      · rw [if_pos hc] at h
        refine ev_iconst (pc := 69) (v := (0 : Int32)) X dX3_foretell_69 rfl ?_
        exact ev_weak (pc := 70) [1, 2, 3, 4, 5, 0] rfl (sX3_foretell_70 hK19 (fun _ _ _ _ _ w r hh => ih _ _ _ _ _ w r hh) _ _ _ _ _ _ _ _ _ h p e s m args below meth c r0 A X)
      · rw [if_neg hc] at h
        refine ev_aload_n (pc := 53) X 1 dX3_foretell_53 rfl rfl ?_
        obtain ⟨v4, hv4, h⟩ := eBi h
        refine ev_getR (pc := 54) X hcX3 (k := 2) (by decide) kfX3_14 dX3_foretell_54 hv4 ?_
        refine ev_iload (pc := 57) X 5 dX3_foretell_57 rfl ?_
        refine ev_iconst (pc := 59) (v := (1 : Int32)) X dX3_foretell_59 rfl ?_
        refine ev_isub (pc := 60) X dX3_foretell_60 ?_
        obtain ⟨v6, w5, hc, h⟩ := eB2 h
        refine ev_callV_i (pc := 61) (As := [.int (x4 - (1 : Int32))]) (S := []) X hwX7_get klX3_51 hiX7_get hsX7_get (ci := 7) ⟨rfl, rfl⟩ ⟨Nat.le_of_ble_eq_true rfl, Nat.le_of_ble_eq_true rfl⟩ ⟨Nat.le_refl _, Nat.le_refl _⟩ rfl (Nat.le_of_ble_eq_true rfl) dX3_foretell_61 rfl (mX7_get (l := l) (D := D) (cI := cI) (cZ := cZ) hc).1 (mX7_get hc).2 ?_
        refine ev_iload_n (pc := 64) X 2 dX3_foretell_64 rfl rfl ?_
        refine ev_imul (pc := 65) X dX3_foretell_65 ?_
        refine ev_goto (pc := 66) X 70 dX3_foretell_66 rfl ?_
        exact ev_weak (pc := 70) [1, 2, 3, 4, 5, 0] rfl (sX3_foretell_70 hK19 (fun _ _ _ _ _ w r hh => ih _ _ _ _ _ w r hh) _ _ _ _ _ _ _ _ _ h p e s m args below meth c r0 A X)
def fX3_foretell_19 : Nat → Nat → Int32 → Int32 → Int32 → eW → Option (eW)
  | 0, _, _, _, _, _ => none
  | n + 1, x0, x1, x2, x3, w => if x2 < x3 then (some w) else (fX3_foretell_27 (fX3_foretell_19 n) eN x0 x1 x2 x3 x3 w)
set_option maxRecDepth 20000 in
theorem sX3_foretell_19  : ∀ (n : Nat) (x0 : Nat) (x1 : Int32) (x2 : Int32) (x3 : Int32) (w : eW) (r : eW), fX3_foretell_19 n x0 x1 x2 x3 w = some r → eBN l D cI cZ 1 yX3_foretell cX3_foretell 7 none 19 [(0, .ref x0), (1, .int x1), (2, .int x2), (3, .int x3)] [] w none r := by
  intro n
  induction n with
  | zero => intro x0 x1 x2 x3 w r h; exact absurd (show (none : Option (eW)) = some r from h) (by simp)
  | succ n ih =>
    intro x0 x1 x2 x3 w r h
    rw [fX3_foretell_19] at h
    intro p e s m args below meth c r0 A X
    refine ev_iload_n (pc := 19) X 3 dX3_foretell_19 rfl rfl ?_
    refine ev_iload_n (pc := 20) X 2 dX3_foretell_20 rfl rfl ?_
    refine ev_icmp_gt (pc := 21) X 98 dX3_foretell_21 rfl (fun hc => ?_) (fun hc => ?_)
    · rw [if_pos hc] at h
      obtain rfl := Option.some.inj h
      exact ev_vret (pc := 98) X dX3_foretell_98
    · rw [if_neg hc] at h
      refine ev_iload_n (pc := 24) X 3 dX3_foretell_24 rfl rfl ?_
      refine ev_istore (pc := 25) (L' := [(4, .int x3), (0, .ref x0), (1, .int x1), (2, .int x2), (3, .int x3)]) X dX3_foretell_25 (by decide) rfl ?_
      exact ev_weak (pc := 27) [1, 2, 3, 4, 0] rfl (sX3_foretell_27 (fun _ _ _ _ w r hh => ih _ _ _ _ w r hh) eN _ _ _ _ _ _ _ h p e s m args below meth c r0 A X)
def fX3_foretell_0 (x0 : Nat) (x1 : Int32) (x2 : Int32) (w : eW) : Option (eW) := (eGR w x0 3 2).bind fun v1 => (fX7_fill v1 (0 : Int32) w).bind fun w2 => (eGR w2 x0 3 2).bind fun v3 => (fX7_put v3 (0 : Int32) (1 : Int32) w2).bind fun w4 => fX3_foretell_19 eN x0 x1 x2 (1 : Int32) w4
set_option maxRecDepth 20000 in
theorem sX3_foretell_0  (x0 : Nat) (x1 : Int32) (x2 : Int32) (w : eW) (r : eW) (h : fX3_foretell_0 x0 x1 x2 w = some r) : eBN l D cI cZ 1 yX3_foretell cX3_foretell 7 none 0 [(0, .ref x0), (1, .int x1), (2, .int x2)] [] w none r := by
  rw [fX3_foretell_0] at h
  intro p e s m args below meth c r0 A X
  refine ev_aload_n (pc := 0) X 0 dX3_foretell_0 rfl rfl ?_
  obtain ⟨v1, hv1, h⟩ := eBi h
  refine ev_getR (pc := 1) X hcX3 (k := 2) (by decide) kfX3_14 dX3_foretell_1 hv1 ?_
  refine ev_iconst (pc := 4) (v := (0 : Int32)) X dX3_foretell_4 rfl ?_
  obtain ⟨w2, hc, h⟩ := eBi h
  refine ev_callV_v (pc := 5) (As := [.int (0 : Int32)]) (S := []) X hwX7_fill klX3_58 hiX7_fill hsX7_fill (ci := 7) ⟨rfl, rfl⟩ ⟨Nat.le_of_ble_eq_true rfl, Nat.le_of_ble_eq_true rfl⟩ ⟨Nat.le_refl _, Nat.le_refl _⟩ rfl (Nat.le_of_ble_eq_true rfl) dX3_foretell_5 rfl (mX7_fill (l := l) (D := D) (cI := cI) (cZ := cZ) hc).1 (mX7_fill hc).2 ?_
  refine ev_aload_n (pc := 8) X 0 dX3_foretell_8 rfl rfl ?_
  obtain ⟨v3, hv3, h⟩ := eBi h
  refine ev_getR (pc := 9) X hcX3 (k := 2) (by decide) kfX3_14 dX3_foretell_9 hv3 ?_
  refine ev_iconst (pc := 12) (v := (0 : Int32)) X dX3_foretell_12 rfl ?_
  refine ev_iconst (pc := 13) (v := (1 : Int32)) X dX3_foretell_13 rfl ?_
  obtain ⟨w4, hc, h⟩ := eBi h
  refine ev_callV_v (pc := 14) (As := [.int (0 : Int32), .int (1 : Int32)]) (S := []) X hwX7_put klX3_61 hiX7_put hsX7_put (ci := 7) ⟨rfl, rfl⟩ ⟨Nat.le_of_ble_eq_true rfl, Nat.le_of_ble_eq_true rfl⟩ ⟨Nat.le_refl _, Nat.le_refl _⟩ rfl (Nat.le_of_ble_eq_true rfl) dX3_foretell_14 rfl (mX7_put (l := l) (D := D) (cI := cI) (cZ := cZ) hc).1 (mX7_put hc).2 ?_
  refine ev_iconst (pc := 17) (v := (1 : Int32)) X dX3_foretell_17 rfl ?_
  refine ev_istore_n (pc := 18) (L' := [(3, .int (1 : Int32)), (0, .ref x0), (1, .int x1), (2, .int x2)]) X dX3_foretell_18 rfl (by decide) rfl ?_
  exact ev_weak (pc := 19) [1, 2, 3, 0] rfl (sX3_foretell_19 eN _ _ _ _ _ _ h p e s m args below meth c r0 A X)
def fX3_foretell (a0 : Nat) (a1 : Int32) (a2 : Int32) (w : eW) : Option (eW) := bif eO w a0 3 then fX3_foretell_0 a0 a1 a2 w else none
theorem mX3_foretell {a0 : Nat} {a1 : Int32} {a2 : Int32} {w : eW} {w' : eW} (h : fX3_foretell a0 a1 a2 w = some w') : eO w a0 3 = true ∧ eMN l D cI cZ 1 yX3_foretell cX3_foretell 7 none [.ref a0, .int a1, .int a2] w none w' := by
  obtain ⟨h0, h⟩ := eBif h
  exact ⟨h0, eMN_of [(0, .ref a0), (1, .int a1), (2, .int a2)] (plainFor_of_name (by decide)) (fun _ => rfl) (fun _ => Nat.le_of_ble_eq_true rfl) (fun p e s m args below meth c r0 A X => ev_weak (pc := 0) [0, 1, 2] rfl (sX3_foretell_0 _ _ _ _ _ h p e s m args below meth c r0 A X))⟩
theorem dX6_layBetween_0 : decode cX6_layBetween 0 = .ok (.iload_n 2, 1) := by decide +kernel
theorem dX6_layBetween_1 : decode cX6_layBetween 1 = .ok (.iload_n 1, 1) := by decide +kernel
theorem dX6_layBetween_2 : decode cX6_layBetween 2 = .ok (.iconst 1, 1) := by decide +kernel
theorem dX6_layBetween_3 : decode cX6_layBetween 3 = .ok (.iadd, 1) := by decide +kernel
theorem dX6_layBetween_4 : decode cX6_layBetween 4 = .ok (.if_icmp .ne 19, 3) := by decide +kernel
theorem dX6_layBetween_7 : decode cX6_layBetween 7 = .ok (.aload_n 0, 1) := by decide +kernel
theorem dX6_layBetween_8 : decode cX6_layBetween 8 = .ok (.dup, 1) := by decide +kernel
theorem dX6_layBetween_9 : decode cX6_layBetween 9 = .ok (.getfield 9, 3) := by decide +kernel
theorem dX6_layBetween_12 : decode cX6_layBetween 12 = .ok (.iload_n 1, 1) := by decide +kernel
theorem dX6_layBetween_13 : decode cX6_layBetween 13 = .ok (.invokestatic 65, 3) := by decide +kernel
theorem dX6_layBetween_16 : decode cX6_layBetween 16 = .ok (.ior, 1) := by decide +kernel
theorem dX6_layBetween_17 : decode cX6_layBetween 17 = .ok (.putfield 9, 3) := by decide +kernel
theorem dX6_layBetween_20 : decode cX6_layBetween 20 = .ok (.goto 16, 3) := by decide +kernel
theorem dX6_layBetween_23 : decode cX6_layBetween 23 = .ok (.aload_n 0, 1) := by decide +kernel
theorem dX6_layBetween_24 : decode cX6_layBetween 24 = .ok (.dup, 1) := by decide +kernel
theorem dX6_layBetween_25 : decode cX6_layBetween 25 = .ok (.getfield 15, 3) := by decide +kernel
theorem dX6_layBetween_28 : decode cX6_layBetween 28 = .ok (.iload_n 1, 1) := by decide +kernel
theorem dX6_layBetween_29 : decode cX6_layBetween 29 = .ok (.invokestatic 65, 3) := by decide +kernel
theorem dX6_layBetween_32 : decode cX6_layBetween 32 = .ok (.ior, 1) := by decide +kernel
theorem dX6_layBetween_33 : decode cX6_layBetween 33 = .ok (.putfield 15, 3) := by decide +kernel
theorem dX6_layBetween_36 : decode cX6_layBetween 36 = .ok (.return_, 1) := by decide +kernel
def fX6_layBetween_0 (x0 : Nat) (x1 : Int32) (x2 : Int32) (w : eW) : Option (eW) := if x2 = (x1 + (1 : Int32)) then ((eGI w x0 6 1).bind fun v5 => eBind2 (fX10_bit x1 w) fun v7 w6 => (eP w6 x0 6 1 (.int (v5 ||| v7))).bind fun w8 => some w8) else ((eGI w x0 6 2).bind fun v1 => eBind2 (fX10_bit x1 w) fun v3 w2 => (eP w2 x0 6 2 (.int (v1 ||| v3))).bind fun w4 => some w4)
set_option maxRecDepth 20000 in
theorem sX6_layBetween_0  (x0 : Nat) (x1 : Int32) (x2 : Int32) (w : eW) (r : eW) (h : fX6_layBetween_0 x0 x1 x2 w = some r) : eBN l D cI cZ 1 yX6_layBetween cX6_layBetween 3 none 0 [(0, .ref x0), (1, .int x1), (2, .int x2)] [] w none r := by
  rw [fX6_layBetween_0] at h
  intro p e s m args below meth c r0 A X
  refine ev_iload_n (pc := 0) X 2 dX6_layBetween_0 rfl rfl ?_
  refine ev_iload_n (pc := 1) X 1 dX6_layBetween_1 rfl rfl ?_
  refine ev_iconst (pc := 2) (v := (1 : Int32)) X dX6_layBetween_2 rfl ?_
  refine ev_iadd (pc := 3) X dX6_layBetween_3 ?_
  refine ev_icmp_ne (pc := 4) X 23 dX6_layBetween_4 rfl (fun hc => ?_) (fun hc => ?_)
  · rw [if_neg hc] at h
    refine ev_aload_n (pc := 23) X 0 dX6_layBetween_23 rfl rfl ?_
    refine ev_dup (pc := 24) X dX6_layBetween_24 rfl ?_
    obtain ⟨v1, hv1, h⟩ := eBi h
    refine ev_getI (pc := 25) X hcX6 (k := 2) (by decide) kfX6_15 dX6_layBetween_25 hv1 ?_
    refine ev_iload_n (pc := 28) X 1 dX6_layBetween_28 rfl rfl ?_
    obtain ⟨v3, w2, hc, h⟩ := eB2 h
    refine ev_callSN_i (pc := 29) (As := [.int x1]) (S := [.int v1, .ref x0]) X hwX10_bit knX6_65 htX10_bit ⟨Nat.le_of_ble_eq_true rfl, Nat.le_of_ble_eq_true rfl⟩ ⟨Nat.le_refl _, Nat.le_refl _⟩ rfl (Nat.le_of_ble_eq_true rfl) dX6_layBetween_29 rfl (mX10_bit hc) ?_
    refine ev_ior (pc := 32) X dX6_layBetween_32 ?_
    obtain ⟨w4, hw4, h⟩ := eBi h
    refine ev_putI (pc := 33) X hcX6 (k := 2) (by decide) kfX6_15 rfl rfl dX6_layBetween_33 hw4 ?_
    obtain rfl := Option.some.inj h
    exact ev_vret (pc := 36) X dX6_layBetween_36
  · rw [if_pos hc] at h
    refine ev_aload_n (pc := 7) X 0 dX6_layBetween_7 rfl rfl ?_
    refine ev_dup (pc := 8) X dX6_layBetween_8 rfl ?_
    obtain ⟨v5, hv5, h⟩ := eBi h
    refine ev_getI (pc := 9) X hcX6 (k := 1) (by decide) kfX6_9 dX6_layBetween_9 hv5 ?_
    refine ev_iload_n (pc := 12) X 1 dX6_layBetween_12 rfl rfl ?_
    obtain ⟨v7, w6, hc, h⟩ := eB2 h
    refine ev_callSN_i (pc := 13) (As := [.int x1]) (S := [.int v5, .ref x0]) X hwX10_bit knX6_65 htX10_bit ⟨Nat.le_of_ble_eq_true rfl, Nat.le_of_ble_eq_true rfl⟩ ⟨Nat.le_refl _, Nat.le_refl _⟩ rfl (Nat.le_of_ble_eq_true rfl) dX6_layBetween_13 rfl (mX10_bit hc) ?_
    refine ev_ior (pc := 16) X dX6_layBetween_16 ?_
    obtain ⟨w8, hw8, h⟩ := eBi h
    refine ev_putI (pc := 17) X hcX6 (k := 1) (by decide) kfX6_9 rfl rfl dX6_layBetween_17 hw8 ?_
    refine ev_goto (pc := 20) X 36 dX6_layBetween_20 rfl ?_
    obtain rfl := Option.some.inj h
    exact ev_vret (pc := 36) X dX6_layBetween_36
def fX6_layBetween (a0 : Nat) (a1 : Int32) (a2 : Int32) (w : eW) : Option (eW) := bif eO w a0 6 then fX6_layBetween_0 a0 a1 a2 w else none
theorem mX6_layBetween {a0 : Nat} {a1 : Int32} {a2 : Int32} {w : eW} {w' : eW} (h : fX6_layBetween a0 a1 a2 w = some w') : eO w a0 6 = true ∧ eMN l D cI cZ 1 yX6_layBetween cX6_layBetween 3 none [.ref a0, .int a1, .int a2] w none w' := by
  obtain ⟨h0, h⟩ := eBif h
  exact ⟨h0, eMN_of [(0, .ref a0), (1, .int a1), (2, .int a2)] (plainFor_of_name (by decide)) (fun _ => rfl) (fun _ => Nat.le_of_ble_eq_true rfl) (fun p e s m args below meth c r0 A X => ev_weak (pc := 0) [0, 1, 2] rfl (sX6_layBetween_0 _ _ _ _ _ h p e s m args below meth c r0 A X))⟩
theorem dX6_lay_0 : decode cX6_lay 0 = .ok (.aload_n 0, 1) := by decide +kernel
theorem dX6_lay_1 : decode cX6_lay 1 = .ok (.iconst 0, 1) := by decide +kernel
theorem dX6_lay_2 : decode cX6_lay 2 = .ok (.putfield 9, 3) := by decide +kernel
theorem dX6_lay_5 : decode cX6_lay 5 = .ok (.aload_n 0, 1) := by decide +kernel
theorem dX6_lay_6 : decode cX6_lay 6 = .ok (.iconst 0, 1) := by decide +kernel
theorem dX6_lay_7 : decode cX6_lay 7 = .ok (.putfield 15, 3) := by decide +kernel
theorem dX6_lay_10 : decode cX6_lay 10 = .ok (.iconst 0, 1) := by decide +kernel
theorem dX6_lay_11 : decode cX6_lay 11 = .ok (.istore_n 2, 1) := by decide +kernel
theorem dX6_lay_12 : decode cX6_lay 12 = .ok (.iload_n 2, 1) := by decide +kernel
theorem dX6_lay_13 : decode cX6_lay 13 = .ok (.aload_n 1, 1) := by decide +kernel
theorem dX6_lay_14 : decode cX6_lay 14 = .ok (.invokevirtual 22, 3) := by decide +kernel
theorem dX6_lay_17 : decode cX6_lay 17 = .ok (.if_icmp .ge 70, 3) := by decide +kernel
theorem dX6_lay_20 : decode cX6_lay 20 = .ok (.aload_n 1, 1) := by decide +kernel
theorem dX6_lay_21 : decode cX6_lay 21 = .ok (.iload_n 2, 1) := by decide +kernel
theorem dX6_lay_22 : decode cX6_lay 22 = .ok (.invokevirtual 28, 3) := by decide +kernel
theorem dX6_lay_25 : decode cX6_lay 25 = .ok (.istore_n 3, 1) := by decide +kernel
theorem dX6_lay_26 : decode cX6_lay 26 = .ok (.iconst 0, 1) := by decide +kernel
theorem dX6_lay_27 : decode cX6_lay 27 = .ok (.istore 4, 2) := by decide +kernel
theorem dX6_lay_29 : decode cX6_lay 29 = .ok (.iload 4, 2) := by decide +kernel
theorem dX6_lay_31 : decode cX6_lay 31 = .ok (.aload_n 1, 1) := by decide +kernel
theorem dX6_lay_32 : decode cX6_lay 32 = .ok (.iload_n 2, 1) := by decide +kernel
theorem dX6_lay_33 : decode cX6_lay 33 = .ok (.invokevirtual 32, 3) := by decide +kernel
theorem dX6_lay_36 : decode cX6_lay 36 = .ok (.if_icmp .ge 45, 3) := by decide +kernel
theorem dX6_lay_39 : decode cX6_lay 39 = .ok (.aload_n 0, 1) := by decide +kernel
theorem dX6_lay_40 : decode cX6_lay 40 = .ok (.getfield 18, 3) := by decide +kernel
theorem dX6_lay_43 : decode cX6_lay 43 = .ok (.iload_n 3, 1) := by decide +kernel
theorem dX6_lay_44 : decode cX6_lay 44 = .ok (.aload_n 1, 1) := by decide +kernel
theorem dX6_lay_45 : decode cX6_lay 45 = .ok (.iload_n 2, 1) := by decide +kernel
theorem dX6_lay_46 : decode cX6_lay 46 = .ok (.iload 4, 2) := by decide +kernel
theorem dX6_lay_48 : decode cX6_lay 48 = .ok (.invokevirtual 35, 3) := by decide +kernel
theorem dX6_lay_51 : decode cX6_lay 51 = .ok (.invokevirtual 39, 3) := by decide +kernel
theorem dX6_lay_54 : decode cX6_lay 54 = .ok (.istore 5, 2) := by decide +kernel
theorem dX6_lay_56 : decode cX6_lay 56 = .ok (.aload_n 0, 1) := by decide +kernel
theorem dX6_lay_57 : decode cX6_lay 57 = .ok (.iload_n 3, 1) := by decide +kernel
theorem dX6_lay_58 : decode cX6_lay 58 = .ok (.iload 5, 2) := by decide +kernel
theorem dX6_lay_60 : decode cX6_lay 60 = .ok (.invokestatic 44, 3) := by decide +kernel
theorem dX6_lay_63 : decode cX6_lay 63 = .ok (.iload_n 3, 1) := by decide +kernel
theorem dX6_lay_64 : decode cX6_lay 64 = .ok (.iload 5, 2) := by decide +kernel
theorem dX6_lay_66 : decode cX6_lay 66 = .ok (.invokestatic 49, 3) := by decide +kernel
theorem dX6_lay_69 : decode cX6_lay 69 = .ok (.invokevirtual 52, 3) := by decide +kernel
theorem dX6_lay_72 : decode cX6_lay 72 = .ok (.iload 5, 2) := by decide +kernel
theorem dX6_lay_74 : decode cX6_lay 74 = .ok (.istore_n 3, 1) := by decide +kernel
theorem dX6_lay_75 : decode cX6_lay 75 = .ok (.iinc 4 1, 3) := by decide +kernel
theorem dX6_lay_78 : decode cX6_lay 78 = .ok (.goto (-49), 3) := by decide +kernel
theorem dX6_lay_81 : decode cX6_lay 81 = .ok (.iinc 2 1, 3) := by decide +kernel
theorem dX6_lay_84 : decode cX6_lay 84 = .ok (.goto (-72), 3) := by decide +kernel
theorem dX6_lay_87 : decode cX6_lay 87 = .ok (.return_, 1) := by decide +kernel
def fX6_lay_29 (K12 : Nat → Nat → Int32 → eW → Option (eW)) : Nat → Nat → Nat → Int32 → Int32 → Int32 → eW → Option (eW)
  | 0, _, _, _, _, _, _ => none
  | n + 1, x0, x1, x2, x3, x4, w => eBind2 (fX0_length x1 x2 w) fun v2 w1 => if v2 ≤ x4 then (K12 x0 x1 (x2 + (1 : Int32)) w1) else ((eGR w1 x0 6 0).bind fun v3 => eBind2 (fX0_cardAt x1 x2 x4 w1) fun v5 w4 => eBind2 (fX1_neighbour v3 x3 v5 w4) fun v7 w6 => eBind2 (fJ9_min_7cf53 x3 v7 w6) fun v9 w8 => eBind2 (fJ9_max_7cf53 x3 v7 w8) fun v11 w10 => (fX6_layBetween x0 v9 v11 w10).bind fun w12 => fX6_lay_29 K12 n x0 x1 x2 v7 (x4 + (1 : Int32)) w12)
set_option maxRecDepth 20000 in
theorem sX6_lay_29 {K12 : Nat → Nat → Int32 → eW → Option (eW)} (hK12 : ∀ (x0 : Nat) (x1 : Nat) (x2 : Int32) (w : eW) (r : eW), K12 x0 x1 x2 w = some r → eBN l D cI cZ 2 yX6_lay cX6_lay 6 none 12 [(0, .ref x0), (1, .ref x1), (2, .int x2)] [] w none r) : ∀ (n : Nat) (x0 : Nat) (x1 : Nat) (x2 : Int32) (x3 : Int32) (x4 : Int32) (w : eW) (r : eW), fX6_lay_29 K12 n x0 x1 x2 x3 x4 w = some r → eBN l D cI cZ 2 yX6_lay cX6_lay 6 none 29 [(0, .ref x0), (1, .ref x1), (2, .int x2), (3, .int x3), (4, .int x4)] [] w none r := by
  intro n
  induction n with
  | zero => intro x0 x1 x2 x3 x4 w r h; exact absurd (show (none : Option (eW)) = some r from h) (by simp)
  | succ n ih =>
    intro x0 x1 x2 x3 x4 w r h
    rw [fX6_lay_29] at h
    intro p e s m args below meth c r0 A X
    refine ev_iload (pc := 29) X 4 dX6_lay_29 rfl ?_
    refine ev_aload_n (pc := 31) X 1 dX6_lay_31 rfl rfl ?_
    refine ev_iload_n (pc := 32) X 2 dX6_lay_32 rfl rfl ?_
    obtain ⟨v2, w1, hc, h⟩ := eB2 h
    refine ev_callV_i (pc := 33) (As := [.int x2]) (S := [.int x4]) X hwX0_length klX6_32 hiX0_length hsX0_length (ci := 0) ⟨rfl, rfl⟩ ⟨Nat.le_of_ble_eq_true rfl, Nat.le_of_ble_eq_true rfl⟩ ⟨Nat.le_refl _, Nat.le_refl _⟩ rfl (Nat.le_of_ble_eq_true rfl) dX6_lay_33 rfl (mX0_length (l := l) (D := D) (cI := cI) (cZ := cZ) hc).1 (mX0_length hc).2 ?_
    refine ev_icmp_ge (pc := 36) X 81 dX6_lay_36 rfl (fun hc => ?_) (fun hc => ?_)
    · rw [if_pos hc] at h
      refine ev_iinc (pc := 81) (v := x2 + (1 : Int32)) (L' := [(2, .int (x2 + (1 : Int32))), (0, .ref x0), (1, .ref x1), (3, .int x3), (4, .int x4)]) X 2 dX6_lay_81 rfl rfl (by decide) rfl ?_
      refine ev_goto (pc := 84) X 12 dX6_lay_84 rfl ?_
      exact ev_weak (pc := 12) [1, 2, 0] rfl (hK12 _ _ _ _ _ h p e s m args below meth c r0 A X)
    · rw [if_neg hc] at h
      refine ev_aload_n (pc := 39) X 0 dX6_lay_39 rfl rfl ?_
      obtain ⟨v3, hv3, h⟩ := eBi h
      refine ev_getR (pc := 40) X hcX6 (k := 0) (by decide) kfX6_18 dX6_lay_40 hv3 ?_
      refine ev_iload_n (pc := 43) X 3 dX6_lay_43 rfl rfl ?_
      refine ev_aload_n (pc := 44) X 1 dX6_lay_44 rfl rfl ?_
      refine ev_iload_n (pc := 45) X 2 dX6_lay_45 rfl rfl ?_
      refine ev_iload (pc := 46) X 4 dX6_lay_46 rfl ?_
      obtain ⟨v5, w4, hc, h⟩ := eB2 h
      refine ev_callV_i (pc := 48) (As := [.int x2, .int x4]) (S := [.int x3, .ref v3]) X hwX0_cardAt klX6_35 hiX0_cardAt hsX0_cardAt (ci := 0) ⟨rfl, rfl⟩ ⟨Nat.le_of_ble_eq_true rfl, Nat.le_of_ble_eq_true rfl⟩ ⟨Nat.le_refl _, Nat.le_refl _⟩ rfl (Nat.le_of_ble_eq_true rfl) dX6_lay_48 rfl (mX0_cardAt (l := l) (D := D) (cI := cI) (cZ := cZ) hc).1 (mX0_cardAt hc).2 ?_
      obtain ⟨v7, w6, hc, h⟩ := eB2 h
      refine ev_callV_i (pc := 51) (As := [.int x3, .int v5]) (S := []) X hwX1_neighbour klX6_39 hiX1_neighbour hsX1_neighbour (ci := 1) ⟨rfl, rfl⟩ ⟨Nat.le_of_ble_eq_true rfl, Nat.le_of_ble_eq_true rfl⟩ ⟨Nat.le_refl _, Nat.le_refl _⟩ rfl (Nat.le_of_ble_eq_true rfl) dX6_lay_51 rfl (mX1_neighbour (l := l) (D := D) (cI := cI) (cZ := cZ) hc).1 (mX1_neighbour hc).2 ?_
      refine ev_istore (pc := 54) (L' := [(5, .int v7), (0, .ref x0), (1, .ref x1), (2, .int x2), (3, .int x3), (4, .int x4)]) X dX6_lay_54 (by decide) rfl ?_
      refine ev_aload_n (pc := 56) X 1 dX6_lay_56 rfl rfl ?_
      refine ev_iload_n (pc := 57) X 4 dX6_lay_57 rfl rfl ?_
      refine ev_iload (pc := 58) X 0 dX6_lay_58 rfl ?_
      obtain ⟨v9, w8, hc, h⟩ := eB2 h
      refine ev_callS_i (pc := 60) (As := [.int x3, .int v7]) (S := [.ref x0]) X hwJ9_min_7cf53 klX6_44 htJ9_min_7cf53 ⟨Nat.le_of_ble_eq_true rfl, Nat.le_of_ble_eq_true rfl⟩ ⟨Nat.le_refl _, Nat.le_refl _⟩ rfl (Nat.le_of_ble_eq_true rfl) dX6_lay_60 rfl (mJ9_min_7cf53 hc) ?_
      refine ev_iload_n (pc := 63) X 4 dX6_lay_63 rfl rfl ?_
      refine ev_iload (pc := 64) X 0 dX6_lay_64 rfl ?_
      obtain ⟨v11, w10, hc, h⟩ := eB2 h
      refine ev_callS_i (pc := 66) (As := [.int x3, .int v7]) (S := [.int v9, .ref x0]) X hwJ9_max_7cf53 klX6_49 htJ9_max_7cf53 ⟨Nat.le_of_ble_eq_true rfl, Nat.le_of_ble_eq_true rfl⟩ ⟨Nat.le_refl _, Nat.le_refl _⟩ rfl (Nat.le_of_ble_eq_true rfl) dX6_lay_66 rfl (mJ9_max_7cf53 hc) ?_
      obtain ⟨w12, hc, h⟩ := eBi h
      refine ev_callV_v (pc := 69) (As := [.int v9, .int v11]) (S := []) X hwX6_layBetween klX6_52 hiX6_layBetween hsX6_layBetween (ci := 6) ⟨rfl, rfl⟩ ⟨Nat.le_of_ble_eq_true rfl, Nat.le_of_ble_eq_true rfl⟩ ⟨Nat.le_refl _, Nat.le_refl _⟩ rfl (Nat.le_of_ble_eq_true rfl) dX6_lay_69 rfl (mX6_layBetween (l := l) (D := D) (cI := cI) (cZ := cZ) hc).1 (mX6_layBetween hc).2 ?_
      refine ev_iload (pc := 72) X 0 dX6_lay_72 rfl ?_
      refine ev_istore_n (pc := 74) (L' := [(3, .int v7), (5, .int v7), (0, .ref x0), (1, .ref x1), (2, .int x2), (4, .int x4)]) X dX6_lay_74 rfl (by decide) rfl ?_
      refine ev_iinc (pc := 75) (v := x4 + (1 : Int32)) (L' := [(4, .int (x4 + (1 : Int32))), (3, .int v7), (5, .int v7), (0, .ref x0), (1, .ref x1), (2, .int x2)]) X 5 dX6_lay_75 rfl rfl (by decide) rfl ?_
      refine ev_goto (pc := 78) X 29 dX6_lay_78 rfl ?_
      exact ev_weak (pc := 29) [3, 4, 5, 1, 0] rfl (ih _ _ _ _ _ _ _ h p e s m args below meth c r0 A X)
def fX6_lay_12 : Nat → Nat → Nat → Int32 → eW → Option (eW)
  | 0, _, _, _, _ => none
  | n + 1, x0, x1, x2, w => eBind2 (fX0_size x1 w) fun v2 w1 => if v2 ≤ x2 then (some w1) else (eBind2 (fX0_firstCell x1 x2 w1) fun v4 w3 => fX6_lay_29 (fX6_lay_12 n) eN x0 x1 x2 v4 (0 : Int32) w3)
set_option maxRecDepth 20000 in
theorem sX6_lay_12  : ∀ (n : Nat) (x0 : Nat) (x1 : Nat) (x2 : Int32) (w : eW) (r : eW), fX6_lay_12 n x0 x1 x2 w = some r → eBN l D cI cZ 2 yX6_lay cX6_lay 6 none 12 [(0, .ref x0), (1, .ref x1), (2, .int x2)] [] w none r := by
  intro n
  induction n with
  | zero => intro x0 x1 x2 w r h; exact absurd (show (none : Option (eW)) = some r from h) (by simp)
  | succ n ih =>
    intro x0 x1 x2 w r h
    rw [fX6_lay_12] at h
    intro p e s m args below meth c r0 A X
    refine ev_iload_n (pc := 12) X 2 dX6_lay_12 rfl rfl ?_
    refine ev_aload_n (pc := 13) X 1 dX6_lay_13 rfl rfl ?_
    obtain ⟨v2, w1, hc, h⟩ := eB2 h
    refine ev_callV_i (pc := 14) (As := []) (S := [.int x2]) X hwX0_size klX6_22 hiX0_size hsX0_size (ci := 0) ⟨rfl, rfl⟩ ⟨Nat.le_of_ble_eq_true rfl, Nat.le_of_ble_eq_true rfl⟩ ⟨Nat.le_refl _, Nat.le_refl _⟩ rfl (Nat.le_of_ble_eq_true rfl) dX6_lay_14 rfl (mX0_size (l := l) (D := D) (cI := cI) (cZ := cZ) hc).1 (mX0_size hc).2 ?_
    refine ev_icmp_ge (pc := 17) X 87 dX6_lay_17 rfl (fun hc => ?_) (fun hc => ?_)
    · rw [if_pos hc] at h
      obtain rfl := Option.some.inj h
      exact ev_vret (pc := 87) X dX6_lay_87
    · rw [if_neg hc] at h
      refine ev_aload_n (pc := 20) X 1 dX6_lay_20 rfl rfl ?_
      refine ev_iload_n (pc := 21) X 2 dX6_lay_21 rfl rfl ?_
      obtain ⟨v4, w3, hc, h⟩ := eB2 h
      refine ev_callV_i (pc := 22) (As := [.int x2]) (S := []) X hwX0_firstCell klX6_28 hiX0_firstCell hsX0_firstCell (ci := 0) ⟨rfl, rfl⟩ ⟨Nat.le_of_ble_eq_true rfl, Nat.le_of_ble_eq_true rfl⟩ ⟨Nat.le_refl _, Nat.le_refl _⟩ rfl (Nat.le_of_ble_eq_true rfl) dX6_lay_22 rfl (mX0_firstCell (l := l) (D := D) (cI := cI) (cZ := cZ) hc).1 (mX0_firstCell hc).2 ?_
      refine ev_istore_n (pc := 25) (L' := [(3, .int v4), (0, .ref x0), (1, .ref x1), (2, .int x2)]) X dX6_lay_25 rfl (by decide) rfl ?_
      refine ev_iconst (pc := 26) (v := (0 : Int32)) X dX6_lay_26 rfl ?_
      refine ev_istore (pc := 27) (L' := [(4, .int (0 : Int32)), (3, .int v4), (0, .ref x0), (1, .ref x1), (2, .int x2)]) X dX6_lay_27 (by decide) rfl ?_
      exact ev_weak (pc := 29) [2, 3, 4, 1, 0] rfl (sX6_lay_29 (fun _ _ _ w r hh => ih _ _ _ w r hh) eN _ _ _ _ _ _ _ h p e s m args below meth c r0 A X)
def fX6_lay_0 (x0 : Nat) (x1 : Nat) (w : eW) : Option (eW) := (eP w x0 6 1 (.int (0 : Int32))).bind fun w1 => (eP w1 x0 6 2 (.int (0 : Int32))).bind fun w2 => fX6_lay_12 eN x0 x1 (0 : Int32) w2
set_option maxRecDepth 20000 in
theorem sX6_lay_0  (x0 : Nat) (x1 : Nat) (w : eW) (r : eW) (h : fX6_lay_0 x0 x1 w = some r) : eBN l D cI cZ 2 yX6_lay cX6_lay 6 none 0 [(0, .ref x0), (1, .ref x1)] [] w none r := by
  rw [fX6_lay_0] at h
  intro p e s m args below meth c r0 A X
  refine ev_aload_n (pc := 0) X 0 dX6_lay_0 rfl rfl ?_
  refine ev_iconst (pc := 1) (v := (0 : Int32)) X dX6_lay_1 rfl ?_
  obtain ⟨w1, hw1, h⟩ := eBi h
  refine ev_putI (pc := 2) X hcX6 (k := 1) (by decide) kfX6_9 rfl rfl dX6_lay_2 hw1 ?_
  refine ev_aload_n (pc := 5) X 0 dX6_lay_5 rfl rfl ?_
  refine ev_iconst (pc := 6) (v := (0 : Int32)) X dX6_lay_6 rfl ?_
  obtain ⟨w2, hw2, h⟩ := eBi h
  refine ev_putI (pc := 7) X hcX6 (k := 2) (by decide) kfX6_15 rfl rfl dX6_lay_7 hw2 ?_
  refine ev_iconst (pc := 10) (v := (0 : Int32)) X dX6_lay_10 rfl ?_
  refine ev_istore_n (pc := 11) (L' := [(2, .int (0 : Int32)), (0, .ref x0), (1, .ref x1)]) X dX6_lay_11 rfl (by decide) rfl ?_
  exact ev_weak (pc := 12) [1, 2, 0] rfl (sX6_lay_12 eN _ _ _ _ _ h p e s m args below meth c r0 A X)
def fX6_lay (a0 : Nat) (a1 : Nat) (w : eW) : Option (eW) := bif eO w a0 6 then fX6_lay_0 a0 a1 w else none
theorem mX6_lay {a0 : Nat} {a1 : Nat} {w : eW} {w' : eW} (h : fX6_lay a0 a1 w = some w') : eO w a0 6 = true ∧ eMN l D cI cZ 2 yX6_lay cX6_lay 6 none [.ref a0, .ref a1] w none w' := by
  obtain ⟨h0, h⟩ := eBif h
  exact ⟨h0, eMN_of [(0, .ref a0), (1, .ref a1)] (plainFor_of_name (by decide)) (fun _ => rfl) (fun _ => Nat.le_of_ble_eq_true rfl) (fun p e s m args below meth c r0 A X => ev_weak (pc := 0) [0, 1] rfl (sX6_lay_0 _ _ _ _ h p e s m args below meth c r0 A X))⟩
theorem dX6_spread_0 : decode cX6_spread 0 = .ok (.aload_n 0, 1) := by decide +kernel
theorem dX6_spread_1 : decode cX6_spread 1 = .ok (.getfield 18, 3) := by decide +kernel
theorem dX6_spread_4 : decode cX6_spread 4 = .ok (.invokevirtual 68, 3) := by decide +kernel
theorem dX6_spread_7 : decode cX6_spread 7 = .ok (.istore_n 2, 1) := by decide +kernel
theorem dX6_spread_8 : decode cX6_spread 8 = .ok (.iload_n 1, 1) := by decide +kernel
theorem dX6_spread_9 : decode cX6_spread 9 = .ok (.aload_n 0, 1) := by decide +kernel
theorem dX6_spread_10 : decode cX6_spread 10 = .ok (.getfield 9, 3) := by decide +kernel
theorem dX6_spread_13 : decode cX6_spread 13 = .ok (.iand, 1) := by decide +kernel
theorem dX6_spread_14 : decode cX6_spread 14 = .ok (.iconst 1, 1) := by decide +kernel
theorem dX6_spread_15 : decode cX6_spread 15 = .ok (.ishl, 1) := by decide +kernel
theorem dX6_spread_16 : decode cX6_spread 16 = .ok (.iload_n 1, 1) := by decide +kernel
theorem dX6_spread_17 : decode cX6_spread 17 = .ok (.iconst 1, 1) := by decide +kernel
theorem dX6_spread_18 : decode cX6_spread 18 = .ok (.ishr, 1) := by decide +kernel
theorem dX6_spread_19 : decode cX6_spread 19 = .ok (.aload_n 0, 1) := by decide +kernel
theorem dX6_spread_20 : decode cX6_spread 20 = .ok (.getfield 9, 3) := by decide +kernel
theorem dX6_spread_23 : decode cX6_spread 23 = .ok (.iand, 1) := by decide +kernel
theorem dX6_spread_24 : decode cX6_spread 24 = .ok (.ior, 1) := by decide +kernel
theorem dX6_spread_25 : decode cX6_spread 25 = .ok (.istore_n 3, 1) := by decide +kernel
theorem dX6_spread_26 : decode cX6_spread 26 = .ok (.iload_n 1, 1) := by decide +kernel
theorem dX6_spread_27 : decode cX6_spread 27 = .ok (.aload_n 0, 1) := by decide +kernel
theorem dX6_spread_28 : decode cX6_spread 28 = .ok (.getfield 15, 3) := by decide +kernel
theorem dX6_spread_31 : decode cX6_spread 31 = .ok (.iand, 1) := by decide +kernel
theorem dX6_spread_32 : decode cX6_spread 32 = .ok (.iload_n 2, 1) := by decide +kernel
theorem dX6_spread_33 : decode cX6_spread 33 = .ok (.ishl, 1) := by decide +kernel
theorem dX6_spread_34 : decode cX6_spread 34 = .ok (.iload_n 1, 1) := by decide +kernel
theorem dX6_spread_35 : decode cX6_spread 35 = .ok (.iload_n 2, 1) := by decide +kernel
theorem dX6_spread_36 : decode cX6_spread 36 = .ok (.ishr, 1) := by decide +kernel
theorem dX6_spread_37 : decode cX6_spread 37 = .ok (.aload_n 0, 1) := by decide +kernel
theorem dX6_spread_38 : decode cX6_spread 38 = .ok (.getfield 15, 3) := by decide +kernel
theorem dX6_spread_41 : decode cX6_spread 41 = .ok (.iand, 1) := by decide +kernel
theorem dX6_spread_42 : decode cX6_spread 42 = .ok (.ior, 1) := by decide +kernel
theorem dX6_spread_43 : decode cX6_spread 43 = .ok (.istore 4, 2) := by decide +kernel
theorem dX6_spread_45 : decode cX6_spread 45 = .ok (.iload_n 1, 1) := by decide +kernel
theorem dX6_spread_46 : decode cX6_spread 46 = .ok (.iload_n 3, 1) := by decide +kernel
theorem dX6_spread_47 : decode cX6_spread 47 = .ok (.ior, 1) := by decide +kernel
theorem dX6_spread_48 : decode cX6_spread 48 = .ok (.iload 4, 2) := by decide +kernel
theorem dX6_spread_50 : decode cX6_spread 50 = .ok (.ior, 1) := by decide +kernel
theorem dX6_spread_51 : decode cX6_spread 51 = .ok (.ireturn, 1) := by decide +kernel
def fX6_spread_0 (x0 : Nat) (x1 : Int32) (w : eW) : Option (Int32 × eW) := (eGR w x0 6 0).bind fun v1 => eBind2 (fX1_wide v1 w) fun v3 w2 => (eGI w2 x0 6 1).bind fun v4 => (eGI w2 x0 6 1).bind fun v5 => (eGI w2 x0 6 2).bind fun v6 => (eGI w2 x0 6 2).bind fun v7 => some ((x1 ||| (((x1 &&& v4) <<< ((1 : Int32) &&& 31)) ||| ((x1 >>> ((1 : Int32) &&& 31)) &&& v5))) ||| (((x1 &&& v6) <<< (v3 &&& 31)) ||| ((x1 >>> (v3 &&& 31)) &&& v7)), w2)
set_option maxRecDepth 20000 in
theorem sX6_spread_0  (x0 : Nat) (x1 : Int32) (w : eW) (r : Int32 × eW) (h : fX6_spread_0 x0 x1 w = some r) : eBN l D cI cZ 1 yX6_spread cX6_spread 5 (some .int) 0 [(0, .ref x0), (1, .int x1)] [] w (some (.int r.1)) r.2 := by
  rw [fX6_spread_0] at h
  intro p e s m args below meth c r0 A X
  refine ev_aload_n (pc := 0) X 0 dX6_spread_0 rfl rfl ?_
  obtain ⟨v1, hv1, h⟩ := eBi h
  refine ev_getR (pc := 1) X hcX6 (k := 0) (by decide) kfX6_18 dX6_spread_1 hv1 ?_
  obtain ⟨v3, w2, hc, h⟩ := eB2 h
  refine ev_callV_i (pc := 4) (As := []) (S := []) X hwX1_wide klX6_68 hiX1_wide hsX1_wide (ci := 1) ⟨rfl, rfl⟩ ⟨Nat.le_of_ble_eq_true rfl, Nat.le_of_ble_eq_true rfl⟩ ⟨Nat.le_refl _, Nat.le_refl _⟩ rfl (Nat.le_of_ble_eq_true rfl) dX6_spread_4 rfl (mX1_wide (l := l) (D := D) (cI := cI) (cZ := cZ) hc).1 (mX1_wide hc).2 ?_
  refine ev_istore_n (pc := 7) (L' := [(2, .int v3), (0, .ref x0), (1, .int x1)]) X dX6_spread_7 rfl (by decide) rfl ?_
  refine ev_iload_n (pc := 8) X 2 dX6_spread_8 rfl rfl ?_
  refine ev_aload_n (pc := 9) X 1 dX6_spread_9 rfl rfl ?_
  obtain ⟨v4, hv4, h⟩ := eBi h
  refine ev_getI (pc := 10) X hcX6 (k := 1) (by decide) kfX6_9 dX6_spread_10 hv4 ?_
  refine ev_iand (pc := 13) X dX6_spread_13 ?_
  refine ev_iconst (pc := 14) (v := (1 : Int32)) X dX6_spread_14 rfl ?_
  refine ev_ishl (pc := 15) X dX6_spread_15 ?_
  refine ev_iload_n (pc := 16) X 2 dX6_spread_16 rfl rfl ?_
  refine ev_iconst (pc := 17) (v := (1 : Int32)) X dX6_spread_17 rfl ?_
  refine ev_ishr (pc := 18) X dX6_spread_18 ?_
  refine ev_aload_n (pc := 19) X 1 dX6_spread_19 rfl rfl ?_
  obtain ⟨v5, hv5, h⟩ := eBi h
  refine ev_getI (pc := 20) X hcX6 (k := 1) (by decide) kfX6_9 dX6_spread_20 hv5 ?_
  refine ev_iand (pc := 23) X dX6_spread_23 ?_
  refine ev_ior (pc := 24) X dX6_spread_24 ?_
  refine ev_istore_n (pc := 25) (L' := [(3, .int (((x1 &&& v4) <<< ((1 : Int32) &&& 31)) ||| ((x1 >>> ((1 : Int32) &&& 31)) &&& v5))), (2, .int v3), (0, .ref x0), (1, .int x1)]) X dX6_spread_25 rfl (by decide) rfl ?_
  refine ev_iload_n (pc := 26) X 3 dX6_spread_26 rfl rfl ?_
  refine ev_aload_n (pc := 27) X 2 dX6_spread_27 rfl rfl ?_
  obtain ⟨v6, hv6, h⟩ := eBi h
  refine ev_getI (pc := 28) X hcX6 (k := 2) (by decide) kfX6_15 dX6_spread_28 hv6 ?_
  refine ev_iand (pc := 31) X dX6_spread_31 ?_
  refine ev_iload_n (pc := 32) X 1 dX6_spread_32 rfl rfl ?_
  refine ev_ishl (pc := 33) X dX6_spread_33 ?_
  refine ev_iload_n (pc := 34) X 3 dX6_spread_34 rfl rfl ?_
  refine ev_iload_n (pc := 35) X 1 dX6_spread_35 rfl rfl ?_
  refine ev_ishr (pc := 36) X dX6_spread_36 ?_
  refine ev_aload_n (pc := 37) X 2 dX6_spread_37 rfl rfl ?_
  obtain ⟨v7, hv7, h⟩ := eBi h
  refine ev_getI (pc := 38) X hcX6 (k := 2) (by decide) kfX6_15 dX6_spread_38 hv7 ?_
  refine ev_iand (pc := 41) X dX6_spread_41 ?_
  refine ev_ior (pc := 42) X dX6_spread_42 ?_
  refine ev_istore (pc := 43) (L' := [(4, .int (((x1 &&& v6) <<< (v3 &&& 31)) ||| ((x1 >>> (v3 &&& 31)) &&& v7))), (3, .int (((x1 &&& v4) <<< ((1 : Int32) &&& 31)) ||| ((x1 >>> ((1 : Int32) &&& 31)) &&& v5))), (2, .int v3), (0, .ref x0), (1, .int x1)]) X dX6_spread_43 (by decide) rfl ?_
  refine ev_iload_n (pc := 45) X 4 dX6_spread_45 rfl rfl ?_
  refine ev_iload_n (pc := 46) X 1 dX6_spread_46 rfl rfl ?_
  refine ev_ior (pc := 47) X dX6_spread_47 ?_
  refine ev_iload (pc := 48) X 0 dX6_spread_48 rfl ?_
  refine ev_ior (pc := 50) X dX6_spread_50 ?_
  obtain rfl := Option.some.inj h
  exact ev_iret (pc := 51) X dX6_spread_51
def fX6_spread (a0 : Nat) (a1 : Int32) (w : eW) : Option (Int32 × eW) := bif eO w a0 6 then fX6_spread_0 a0 a1 w else none
theorem mX6_spread {a0 : Nat} {a1 : Int32} {w : eW} {v : Int32} {w' : eW} (h : fX6_spread a0 a1 w = some (v, w')) : eO w a0 6 = true ∧ eMN l D cI cZ 1 yX6_spread cX6_spread 5 (some .int) [.ref a0, .int a1] w (some (.int v)) w' := by
  obtain ⟨h0, h⟩ := eBif h
  exact ⟨h0, eMN_of [(0, .ref a0), (1, .int a1)] (plainFor_of_name (by decide)) (fun _ => rfl) (fun _ => Nat.le_of_ble_eq_true rfl) (fun p e s m args below meth c r0 A X => ev_weak (pc := 0) [0, 1] rfl (sX6_spread_0 _ _ _ _ h p e s m args below meth c r0 A X))⟩
theorem dX6_reach_0 : decode cX6_reach 0 = .ok (.iload_n 1, 1) := by decide +kernel
theorem dX6_reach_1 : decode cX6_reach 1 = .ok (.istore_n 3, 1) := by decide +kernel
theorem dX6_reach_2 : decode cX6_reach 2 = .ok (.iconst 0, 1) := by decide +kernel
theorem dX6_reach_3 : decode cX6_reach 3 = .ok (.istore 4, 2) := by decide +kernel
theorem dX6_reach_5 : decode cX6_reach 5 = .ok (.iconst 0, 1) := by decide +kernel
theorem dX6_reach_6 : decode cX6_reach 6 = .ok (.istore 5, 2) := by decide +kernel
theorem dX6_reach_8 : decode cX6_reach 8 = .ok (.iload 5, 2) := by decide +kernel
theorem dX6_reach_10 : decode cX6_reach 10 = .ok (.iload_n 2, 1) := by decide +kernel
theorem dX6_reach_11 : decode cX6_reach 11 = .ok (.if_icmp .ge 24, 3) := by decide +kernel
theorem dX6_reach_14 : decode cX6_reach 14 = .ok (.iload_n 3, 1) := by decide +kernel
theorem dX6_reach_15 : decode cX6_reach 15 = .ok (.iload 4, 2) := by decide +kernel
theorem dX6_reach_17 : decode cX6_reach 17 = .ok (.if_icmp .eq 18, 3) := by decide +kernel
theorem dX6_reach_20 : decode cX6_reach 20 = .ok (.iload_n 3, 1) := by decide +kernel
theorem dX6_reach_21 : decode cX6_reach 21 = .ok (.istore 4, 2) := by decide +kernel
theorem dX6_reach_23 : decode cX6_reach 23 = .ok (.aload_n 0, 1) := by decide +kernel
theorem dX6_reach_24 : decode cX6_reach 24 = .ok (.iload_n 3, 1) := by decide +kernel
theorem dX6_reach_25 : decode cX6_reach 25 = .ok (.invokevirtual 71, 3) := by decide +kernel
theorem dX6_reach_28 : decode cX6_reach 28 = .ok (.istore_n 3, 1) := by decide +kernel
theorem dX6_reach_29 : decode cX6_reach 29 = .ok (.iinc 5 1, 3) := by decide +kernel
theorem dX6_reach_32 : decode cX6_reach 32 = .ok (.goto (-24), 3) := by decide +kernel
theorem dX6_reach_35 : decode cX6_reach 35 = .ok (.iload_n 3, 1) := by decide +kernel
theorem dX6_reach_36 : decode cX6_reach 36 = .ok (.ireturn, 1) := by decide +kernel
def fX6_reach_8 : Nat → Nat → Int32 → Int32 → Int32 → Int32 → eW → Option (Int32 × eW)
  | 0, _, _, _, _, _, _ => none
  | n + 1, x0, x2, x3, x4, x5, w => if x2 ≤ x5 then (some (x3, w)) else (if x3 = x4 then (some (x3, w)) else (eBind2 (fX6_spread x0 x3 w) fun v2 w1 => fX6_reach_8 n x0 x2 v2 x3 (x5 + (1 : Int32)) w1))
set_option maxRecDepth 20000 in
theorem sX6_reach_8  : ∀ (n : Nat) (x0 : Nat) (x2 : Int32) (x3 : Int32) (x4 : Int32) (x5 : Int32) (w : eW) (r : Int32 × eW), fX6_reach_8 n x0 x2 x3 x4 x5 w = some r → eBN l D cI cZ 2 yX6_reach cX6_reach 6 (some .int) 8 [(0, .ref x0), (2, .int x2), (3, .int x3), (4, .int x4), (5, .int x5)] [] w (some (.int r.1)) r.2 := by
  intro n
  induction n with
  | zero => intro x0 x2 x3 x4 x5 w r h; exact absurd (show (none : Option (Int32 × eW)) = some r from h) (by simp)
  | succ n ih =>
    intro x0 x2 x3 x4 x5 w r h
    rw [fX6_reach_8] at h
    intro p e s m args below meth c r0 A X
    refine ev_iload (pc := 8) X 4 dX6_reach_8 rfl ?_
    refine ev_iload_n (pc := 10) X 1 dX6_reach_10 rfl rfl ?_
    refine ev_icmp_ge (pc := 11) X 35 dX6_reach_11 rfl (fun hc => ?_) (fun hc => ?_)
    · rw [if_pos hc] at h
      refine ev_iload_n (pc := 35) X 2 dX6_reach_35 rfl rfl ?_
      obtain rfl := Option.some.inj h
      exact ev_iret (pc := 36) X dX6_reach_36
    · rw [if_neg hc] at h
      refine ev_iload_n (pc := 14) X 2 dX6_reach_14 rfl rfl ?_
      refine ev_iload (pc := 15) X 3 dX6_reach_15 rfl ?_
      refine ev_icmp_eq (pc := 17) X 35 dX6_reach_17 rfl (fun hc => ?_) (fun hc => ?_)
      · rw [if_pos hc] at h
        refine ev_iload_n (pc := 35) X 2 dX6_reach_35 rfl rfl ?_
        obtain rfl := Option.some.inj h
        exact ev_iret (pc := 36) X dX6_reach_36
      · rw [if_neg hc] at h
        refine ev_iload_n (pc := 20) X 2 dX6_reach_20 rfl rfl ?_
        refine ev_istore (pc := 21) (L' := [(4, .int x3), (0, .ref x0), (2, .int x2), (3, .int x3), (5, .int x5)]) X dX6_reach_21 (by decide) rfl ?_
        refine ev_aload_n (pc := 23) X 1 dX6_reach_23 rfl rfl ?_
        refine ev_iload_n (pc := 24) X 3 dX6_reach_24 rfl rfl ?_
        obtain ⟨v2, w1, hc, h⟩ := eB2 h
        refine ev_callV_i (pc := 25) (As := [.int x3]) (S := []) X hwX6_spread klX6_71 hiX6_spread hsX6_spread (ci := 6) ⟨rfl, rfl⟩ ⟨Nat.le_of_ble_eq_true rfl, Nat.le_of_ble_eq_true rfl⟩ ⟨Nat.le_refl _, Nat.le_refl _⟩ rfl (Nat.le_of_ble_eq_true rfl) dX6_reach_25 rfl (mX6_spread (l := l) (D := D) (cI := cI) (cZ := cZ) hc).1 (mX6_spread hc).2 ?_
        refine ev_istore_n (pc := 28) (L' := [(3, .int v2), (4, .int x3), (0, .ref x0), (2, .int x2), (5, .int x5)]) X dX6_reach_28 rfl (by decide) rfl ?_
        refine ev_iinc (pc := 29) (v := x5 + (1 : Int32)) (L' := [(5, .int (x5 + (1 : Int32))), (3, .int v2), (4, .int x3), (0, .ref x0), (2, .int x2)]) X 4 dX6_reach_29 rfl rfl (by decide) rfl ?_
        refine ev_goto (pc := 32) X 8 dX6_reach_32 rfl ?_
        exact ev_weak (pc := 8) [3, 4, 1, 2, 0] rfl (ih _ _ _ _ _ _ _ h p e s m args below meth c r0 A X)
def fX6_reach_0 (x0 : Nat) (x1 : Int32) (x2 : Int32) (w : eW) : Option (Int32 × eW) := fX6_reach_8 eN x0 x2 x1 (0 : Int32) (0 : Int32) w
set_option maxRecDepth 20000 in
theorem sX6_reach_0  (x0 : Nat) (x1 : Int32) (x2 : Int32) (w : eW) (r : Int32 × eW) (h : fX6_reach_0 x0 x1 x2 w = some r) : eBN l D cI cZ 2 yX6_reach cX6_reach 6 (some .int) 0 [(0, .ref x0), (1, .int x1), (2, .int x2)] [] w (some (.int r.1)) r.2 := by
  rw [fX6_reach_0] at h
  intro p e s m args below meth c r0 A X
  refine ev_iload_n (pc := 0) X 1 dX6_reach_0 rfl rfl ?_
  refine ev_istore_n (pc := 1) (L' := [(3, .int x1), (0, .ref x0), (1, .int x1), (2, .int x2)]) X dX6_reach_1 rfl (by decide) rfl ?_
  refine ev_iconst (pc := 2) (v := (0 : Int32)) X dX6_reach_2 rfl ?_
  refine ev_istore (pc := 3) (L' := [(4, .int (0 : Int32)), (3, .int x1), (0, .ref x0), (1, .int x1), (2, .int x2)]) X dX6_reach_3 (by decide) rfl ?_
  refine ev_iconst (pc := 5) (v := (0 : Int32)) X dX6_reach_5 rfl ?_
  refine ev_istore (pc := 6) (L' := [(5, .int (0 : Int32)), (4, .int (0 : Int32)), (3, .int x1), (0, .ref x0), (1, .int x1), (2, .int x2)]) X dX6_reach_6 (by decide) rfl ?_
  exact ev_weak (pc := 8) [3, 5, 2, 1, 0] rfl (sX6_reach_8 eN _ _ _ _ _ _ _ h p e s m args below meth c r0 A X)
def fX6_reach (a0 : Nat) (a1 : Int32) (a2 : Int32) (w : eW) : Option (Int32 × eW) := bif eO w a0 6 then fX6_reach_0 a0 a1 a2 w else none
theorem mX6_reach {a0 : Nat} {a1 : Int32} {a2 : Int32} {w : eW} {v : Int32} {w' : eW} (h : fX6_reach a0 a1 a2 w = some (v, w')) : eO w a0 6 = true ∧ eMN l D cI cZ 2 yX6_reach cX6_reach 6 (some .int) [.ref a0, .int a1, .int a2] w (some (.int v)) w' := by
  obtain ⟨h0, h⟩ := eBif h
  exact ⟨h0, eMN_of [(0, .ref a0), (1, .int a1), (2, .int a2)] (plainFor_of_name (by decide)) (fun _ => rfl) (fun _ => Nat.le_of_ble_eq_true rfl) (fun p e s m args below meth c r0 A X => ev_weak (pc := 0) [0, 1, 2] rfl (sX6_reach_0 _ _ _ _ _ h p e s m args below meth c r0 A X))⟩
theorem dX6_pieces_0 : decode cX6_pieces 0 = .ok (.iconst 0, 1) := by decide +kernel
theorem dX6_pieces_1 : decode cX6_pieces 1 = .ok (.istore_n 1, 1) := by decide +kernel
theorem dX6_pieces_2 : decode cX6_pieces 2 = .ok (.iconst 0, 1) := by decide +kernel
theorem dX6_pieces_3 : decode cX6_pieces 3 = .ok (.istore_n 2, 1) := by decide +kernel
theorem dX6_pieces_4 : decode cX6_pieces 4 = .ok (.iconst 0, 1) := by decide +kernel
theorem dX6_pieces_5 : decode cX6_pieces 5 = .ok (.istore_n 3, 1) := by decide +kernel
theorem dX6_pieces_6 : decode cX6_pieces 6 = .ok (.iload_n 3, 1) := by decide +kernel
theorem dX6_pieces_7 : decode cX6_pieces 7 = .ok (.aload_n 0, 1) := by decide +kernel
theorem dX6_pieces_8 : decode cX6_pieces 8 = .ok (.getfield 18, 3) := by decide +kernel
theorem dX6_pieces_11 : decode cX6_pieces 11 = .ok (.invokevirtual 74, 3) := by decide +kernel
theorem dX6_pieces_14 : decode cX6_pieces 14 = .ok (.if_icmp .ge 43, 3) := by decide +kernel
theorem dX6_pieces_17 : decode cX6_pieces 17 = .ok (.aload_n 0, 1) := by decide +kernel
theorem dX6_pieces_18 : decode cX6_pieces 18 = .ok (.getfield 18, 3) := by decide +kernel
theorem dX6_pieces_21 : decode cX6_pieces 21 = .ok (.iload_n 3, 1) := by decide +kernel
theorem dX6_pieces_22 : decode cX6_pieces 22 = .ok (.invokevirtual 77, 3) := by decide +kernel
theorem dX6_pieces_25 : decode cX6_pieces 25 = .ok (.invokestatic 65, 3) := by decide +kernel
theorem dX6_pieces_28 : decode cX6_pieces 28 = .ok (.istore 4, 2) := by decide +kernel
theorem dX6_pieces_30 : decode cX6_pieces 30 = .ok (.iload_n 2, 1) := by decide +kernel
theorem dX6_pieces_31 : decode cX6_pieces 31 = .ok (.iload 4, 2) := by decide +kernel
theorem dX6_pieces_33 : decode cX6_pieces 33 = .ok (.iand, 1) := by decide +kernel
theorem dX6_pieces_34 : decode cX6_pieces 34 = .ok (.ifCond .ne 17, 3) := by decide +kernel
theorem dX6_pieces_37 : decode cX6_pieces 37 = .ok (.iinc 1 1, 3) := by decide +kernel
theorem dX6_pieces_40 : decode cX6_pieces 40 = .ok (.iload_n 2, 1) := by decide +kernel
theorem dX6_pieces_41 : decode cX6_pieces 41 = .ok (.aload_n 0, 1) := by decide +kernel
theorem dX6_pieces_42 : decode cX6_pieces 42 = .ok (.iload 4, 2) := by decide +kernel
theorem dX6_pieces_44 : decode cX6_pieces 44 = .ok (.bipush 20, 2) := by decide +kernel
theorem dX6_pieces_46 : decode cX6_pieces 46 = .ok (.invokevirtual 80, 3) := by decide +kernel
theorem dX6_pieces_49 : decode cX6_pieces 49 = .ok (.ior, 1) := by decide +kernel
theorem dX6_pieces_50 : decode cX6_pieces 50 = .ok (.istore_n 2, 1) := by decide +kernel
theorem dX6_pieces_51 : decode cX6_pieces 51 = .ok (.iinc 3 1, 3) := by decide +kernel
theorem dX6_pieces_54 : decode cX6_pieces 54 = .ok (.goto (-48), 3) := by decide +kernel
theorem dX6_pieces_57 : decode cX6_pieces 57 = .ok (.iload_n 1, 1) := by decide +kernel
theorem dX6_pieces_58 : decode cX6_pieces 58 = .ok (.ireturn, 1) := by decide +kernel
def fX6_pieces_51 (K6 : Nat → Int32 → Int32 → Int32 → eW → Option (Int32 × eW)) (x0 : Nat) (x1 : Int32) (x2 : Int32) (x3 : Int32) (w : eW) : Option (Int32 × eW) := K6 x0 x1 x2 (x3 + (1 : Int32)) w
set_option maxRecDepth 20000 in
theorem sX6_pieces_51 {K6 : Nat → Int32 → Int32 → Int32 → eW → Option (Int32 × eW)} (hK6 : ∀ (x0 : Nat) (x1 : Int32) (x2 : Int32) (x3 : Int32) (w : eW) (r : Int32 × eW), K6 x0 x1 x2 x3 w = some r → eBN l D cI cZ 3 yX6_pieces cX6_pieces 5 (some .int) 6 [(0, .ref x0), (1, .int x1), (2, .int x2), (3, .int x3)] [] w (some (.int r.1)) r.2) (x0 : Nat) (x1 : Int32) (x2 : Int32) (x3 : Int32) (w : eW) (r : Int32 × eW) (h : fX6_pieces_51 K6 x0 x1 x2 x3 w = some r) : eBN l D cI cZ 3 yX6_pieces cX6_pieces 5 (some .int) 51 [(0, .ref x0), (1, .int x1), (2, .int x2), (3, .int x3)] [] w (some (.int r.1)) r.2 := by
  rw [fX6_pieces_51] at h
  intro p e s m args below meth c r0 A X
  refine ev_iinc (pc := 51) (v := x3 + (1 : Int32)) (L' := [(3, .int (x3 + (1 : Int32))), (0, .ref x0), (1, .int x1), (2, .int x2)]) X 3 dX6_pieces_51 rfl rfl (by decide) rfl ?_
  refine ev_goto (pc := 54) X 6 dX6_pieces_54 rfl ?_
  exact ev_weak (pc := 6) [1, 2, 3, 0] rfl (hK6 _ _ _ _ _ _ h p e s m args below meth c r0 A X)
def fX6_pieces_6 : Nat → Nat → Int32 → Int32 → Int32 → eW → Option (Int32 × eW)
  | 0, _, _, _, _, _ => none
  | n + 1, x0, x1, x2, x3, w => (eGR w x0 6 0).bind fun v1 => eBind2 (fX1_towns v1 w) fun v3 w2 => if v3 ≤ x3 then (some (x1, w2)) else ((eGR w2 x0 6 0).bind fun v4 => eBind2 (fX1_townCell v4 x3 w2) fun v6 w5 => eBind2 (fX10_bit v6 w5) fun v8 w7 => if (x2 &&& v8) = 0 then (eBind2 (fX6_reach x0 v8 (20 : Int32) w7) fun v10 w9 => fX6_pieces_51 (fX6_pieces_6 n) x0 (x1 + (1 : Int32)) (x2 ||| v10) x3 w9) else (fX6_pieces_51 (fX6_pieces_6 n) x0 x1 x2 x3 w7))
set_option maxRecDepth 20000 in
theorem sX6_pieces_6  : ∀ (n : Nat) (x0 : Nat) (x1 : Int32) (x2 : Int32) (x3 : Int32) (w : eW) (r : Int32 × eW), fX6_pieces_6 n x0 x1 x2 x3 w = some r → eBN l D cI cZ 3 yX6_pieces cX6_pieces 5 (some .int) 6 [(0, .ref x0), (1, .int x1), (2, .int x2), (3, .int x3)] [] w (some (.int r.1)) r.2 := by
  intro n
  induction n with
  | zero => intro x0 x1 x2 x3 w r h; exact absurd (show (none : Option (Int32 × eW)) = some r from h) (by simp)
  | succ n ih =>
    intro x0 x1 x2 x3 w r h
    rw [fX6_pieces_6] at h
    intro p e s m args below meth c r0 A X
    refine ev_iload_n (pc := 6) X 3 dX6_pieces_6 rfl rfl ?_
    refine ev_aload_n (pc := 7) X 0 dX6_pieces_7 rfl rfl ?_
    obtain ⟨v1, hv1, h⟩ := eBi h
    refine ev_getR (pc := 8) X hcX6 (k := 0) (by decide) kfX6_18 dX6_pieces_8 hv1 ?_
    obtain ⟨v3, w2, hc, h⟩ := eB2 h
    refine ev_callV_i (pc := 11) (As := []) (S := [.int x3]) X hwX1_towns klX6_74 hiX1_towns hsX1_towns (ci := 1) ⟨rfl, rfl⟩ ⟨Nat.le_of_ble_eq_true rfl, Nat.le_of_ble_eq_true rfl⟩ ⟨Nat.le_refl _, Nat.le_refl _⟩ rfl (Nat.le_of_ble_eq_true rfl) dX6_pieces_11 rfl (mX1_towns (l := l) (D := D) (cI := cI) (cZ := cZ) hc).1 (mX1_towns hc).2 ?_
    refine ev_icmp_ge (pc := 14) X 57 dX6_pieces_14 rfl (fun hc => ?_) (fun hc => ?_)
    · rw [if_pos hc] at h
      refine ev_iload_n (pc := 57) X 1 dX6_pieces_57 rfl rfl ?_
      obtain rfl := Option.some.inj h
      exact ev_iret (pc := 58) X dX6_pieces_58
    · rw [if_neg hc] at h
      refine ev_aload_n (pc := 17) X 0 dX6_pieces_17 rfl rfl ?_
      obtain ⟨v4, hv4, h⟩ := eBi h
      refine ev_getR (pc := 18) X hcX6 (k := 0) (by decide) kfX6_18 dX6_pieces_18 hv4 ?_
      refine ev_iload_n (pc := 21) X 3 dX6_pieces_21 rfl rfl ?_
      obtain ⟨v6, w5, hc, h⟩ := eB2 h
      refine ev_callV_i (pc := 22) (As := [.int x3]) (S := []) X hwX1_townCell klX6_77 hiX1_townCell hsX1_townCell (ci := 1) ⟨rfl, rfl⟩ ⟨Nat.le_of_ble_eq_true rfl, Nat.le_of_ble_eq_true rfl⟩ ⟨Nat.le_refl _, Nat.le_refl _⟩ rfl (Nat.le_of_ble_eq_true rfl) dX6_pieces_22 rfl (mX1_townCell (l := l) (D := D) (cI := cI) (cZ := cZ) hc).1 (mX1_townCell hc).2 ?_
      obtain ⟨v8, w7, hc, h⟩ := eB2 h
      refine ev_callSN_i (pc := 25) (As := [.int v6]) (S := []) X hwX10_bit knX6_65 htX10_bit ⟨Nat.le_of_ble_eq_true rfl, Nat.le_of_ble_eq_true rfl⟩ ⟨Nat.le_refl _, Nat.le_refl _⟩ rfl (Nat.le_of_ble_eq_true rfl) dX6_pieces_25 rfl (mX10_bit hc) ?_
      refine ev_istore (pc := 28) (L' := [(4, .int v8), (0, .ref x0), (1, .int x1), (2, .int x2), (3, .int x3)]) X dX6_pieces_28 (by decide) rfl ?_
      refine ev_iload_n (pc := 30) X 3 dX6_pieces_30 rfl rfl ?_
      refine ev_iload (pc := 31) X 0 dX6_pieces_31 rfl ?_
      refine ev_iand (pc := 33) X dX6_pieces_33 ?_
      refine ev_if_ne (pc := 34) X 51 dX6_pieces_34 rfl (fun hc => ?_) (fun hc => ?_)
      · rw [if_neg hc] at h
        exact ev_weak (pc := 51) [1, 2, 3, 4] rfl (sX6_pieces_51 (fun _ _ _ _ w r hh => ih _ _ _ _ w r hh) _ _ _ _ _ _ h p e s m args below meth c r0 A X)
      · rw [if_pos hc] at h
        refine ev_iinc (pc := 37) (v := x1 + (1 : Int32)) (L' := [(1, .int (x1 + (1 : Int32))), (4, .int v8), (0, .ref x0), (2, .int x2), (3, .int x3)]) X 2 dX6_pieces_37 rfl rfl (by decide) rfl ?_
        refine ev_iload_n (pc := 40) X 3 dX6_pieces_40 rfl rfl ?_
        refine ev_aload_n (pc := 41) X 2 dX6_pieces_41 rfl rfl ?_
        refine ev_iload (pc := 42) X 1 dX6_pieces_42 rfl ?_
        refine ev_bipush (pc := 44) (v := (20 : Int32)) X dX6_pieces_44 rfl ?_
        obtain ⟨v10, w9, hc, h⟩ := eB2 h
        refine ev_callV_i (pc := 46) (As := [.int v8, .int (20 : Int32)]) (S := [.int x2]) X hwX6_reach klX6_80 hiX6_reach hsX6_reach (ci := 6) ⟨rfl, rfl⟩ ⟨Nat.le_of_ble_eq_true rfl, Nat.le_of_ble_eq_true rfl⟩ ⟨Nat.le_refl _, Nat.le_refl _⟩ rfl (Nat.le_of_ble_eq_true rfl) dX6_pieces_46 rfl (mX6_reach (l := l) (D := D) (cI := cI) (cZ := cZ) hc).1 (mX6_reach hc).2 ?_
        refine ev_ior (pc := 49) X dX6_pieces_49 ?_
        refine ev_istore_n (pc := 50) (L' := [(2, .int (x2 ||| v10)), (1, .int (x1 + (1 : Int32))), (4, .int v8), (0, .ref x0), (3, .int x3)]) X dX6_pieces_50 rfl (by decide) rfl ?_
        exact ev_weak (pc := 51) [3, 1, 0, 4] rfl (sX6_pieces_51 (fun _ _ _ _ w r hh => ih _ _ _ _ w r hh) _ _ _ _ _ _ h p e s m args below meth c r0 A X)
def fX6_pieces_0 (x0 : Nat) (w : eW) : Option (Int32 × eW) := fX6_pieces_6 eN x0 (0 : Int32) (0 : Int32) (0 : Int32) w
set_option maxRecDepth 20000 in
theorem sX6_pieces_0  (x0 : Nat) (w : eW) (r : Int32 × eW) (h : fX6_pieces_0 x0 w = some r) : eBN l D cI cZ 3 yX6_pieces cX6_pieces 5 (some .int) 0 [(0, .ref x0)] [] w (some (.int r.1)) r.2 := by
  rw [fX6_pieces_0] at h
  intro p e s m args below meth c r0 A X
  refine ev_iconst (pc := 0) (v := (0 : Int32)) X dX6_pieces_0 rfl ?_
  refine ev_istore_n (pc := 1) (L' := [(1, .int (0 : Int32)), (0, .ref x0)]) X dX6_pieces_1 rfl (by decide) rfl ?_
  refine ev_iconst (pc := 2) (v := (0 : Int32)) X dX6_pieces_2 rfl ?_
  refine ev_istore_n (pc := 3) (L' := [(2, .int (0 : Int32)), (1, .int (0 : Int32)), (0, .ref x0)]) X dX6_pieces_3 rfl (by decide) rfl ?_
  refine ev_iconst (pc := 4) (v := (0 : Int32)) X dX6_pieces_4 rfl ?_
  refine ev_istore_n (pc := 5) (L' := [(3, .int (0 : Int32)), (2, .int (0 : Int32)), (1, .int (0 : Int32)), (0, .ref x0)]) X dX6_pieces_5 rfl (by decide) rfl ?_
  exact ev_weak (pc := 6) [3, 2, 1, 0] rfl (sX6_pieces_6 eN _ _ _ _ _ _ h p e s m args below meth c r0 A X)
def fX6_pieces (a0 : Nat) (w : eW) : Option (Int32 × eW) := bif eO w a0 6 then fX6_pieces_0 a0 w else none
theorem mX6_pieces {a0 : Nat} {w : eW} {v : Int32} {w' : eW} (h : fX6_pieces a0 w = some (v, w')) : eO w a0 6 = true ∧ eMN l D cI cZ 3 yX6_pieces cX6_pieces 5 (some .int) [.ref a0] w (some (.int v)) w' := by
  obtain ⟨h0, h⟩ := eBif h
  exact ⟨h0, eMN_of [(0, .ref a0)] (plainFor_of_name (by decide)) (fun _ => rfl) (fun _ => Nat.le_of_ble_eq_true rfl) (fun p e s m args below meth c r0 A X => ev_weak (pc := 0) [0] rfl (sX6_pieces_0 _ _ _ h p e s m args below meth c r0 A X))⟩
theorem dX3_upperNumber_0 : decode cX3_upperNumber 0 = .ok (.aload_n 0, 1) := by decide +kernel
theorem dX3_upperNumber_1 : decode cX3_upperNumber 1 = .ok (.iload_n 2, 1) := by decide +kernel
theorem dX3_upperNumber_2 : decode cX3_upperNumber 2 = .ok (.iload_n 3, 1) := by decide +kernel
theorem dX3_upperNumber_3 : decode cX3_upperNumber 3 = .ok (.invokevirtual 36, 3) := by decide +kernel
theorem dX3_upperNumber_6 : decode cX3_upperNumber 6 = .ok (.aload_n 0, 1) := by decide +kernel
theorem dX3_upperNumber_7 : decode cX3_upperNumber 7 = .ok (.getfield 25, 3) := by decide +kernel
theorem dX3_upperNumber_10 : decode cX3_upperNumber 10 = .ok (.aload_n 1, 1) := by decide +kernel
theorem dX3_upperNumber_11 : decode cX3_upperNumber 11 = .ok (.invokevirtual 40, 3) := by decide +kernel
theorem dX3_upperNumber_14 : decode cX3_upperNumber 14 = .ok (.iconst 0, 1) := by decide +kernel
theorem dX3_upperNumber_15 : decode cX3_upperNumber 15 = .ok (.istore 4, 2) := by decide +kernel
theorem dX3_upperNumber_17 : decode cX3_upperNumber 17 = .ok (.iconst 0, 1) := by decide +kernel
theorem dX3_upperNumber_18 : decode cX3_upperNumber 18 = .ok (.istore 5, 2) := by decide +kernel
theorem dX3_upperNumber_20 : decode cX3_upperNumber 20 = .ok (.iload 5, 2) := by decide +kernel
theorem dX3_upperNumber_22 : decode cX3_upperNumber 22 = .ok (.iload_n 3, 1) := by decide +kernel
theorem dX3_upperNumber_23 : decode cX3_upperNumber 23 = .ok (.if_icmp .gt 53, 3) := by decide +kernel
theorem dX3_upperNumber_26 : decode cX3_upperNumber 26 = .ok (.aload_n 0, 1) := by decide +kernel
theorem dX3_upperNumber_27 : decode cX3_upperNumber 27 = .ok (.getfield 32, 3) := by decide +kernel
theorem dX3_upperNumber_30 : decode cX3_upperNumber 30 = .ok (.aload_n 0, 1) := by decide +kernel
theorem dX3_upperNumber_31 : decode cX3_upperNumber 31 = .ok (.getfield 25, 3) := by decide +kernel
theorem dX3_upperNumber_34 : decode cX3_upperNumber 34 = .ok (.invokevirtual 44, 3) := by decide +kernel
theorem dX3_upperNumber_37 : decode cX3_upperNumber 37 = .ok (.aload_n 0, 1) := by decide +kernel
theorem dX3_upperNumber_38 : decode cX3_upperNumber 38 = .ok (.getfield 32, 3) := by decide +kernel
theorem dX3_upperNumber_41 : decode cX3_upperNumber 41 = .ok (.invokevirtual 47, 3) := by decide +kernel
theorem dX3_upperNumber_44 : decode cX3_upperNumber 44 = .ok (.iconst 1, 1) := by decide +kernel
theorem dX3_upperNumber_45 : decode cX3_upperNumber 45 = .ok (.if_icmp .gt 17, 3) := by decide +kernel
theorem dX3_upperNumber_48 : decode cX3_upperNumber 48 = .ok (.iload 4, 2) := by decide +kernel
theorem dX3_upperNumber_50 : decode cX3_upperNumber 50 = .ok (.aload_n 0, 1) := by decide +kernel
theorem dX3_upperNumber_51 : decode cX3_upperNumber 51 = .ok (.getfield 14, 3) := by decide +kernel
theorem dX3_upperNumber_54 : decode cX3_upperNumber 54 = .ok (.iload 5, 2) := by decide +kernel
theorem dX3_upperNumber_56 : decode cX3_upperNumber 56 = .ok (.invokevirtual 51, 3) := by decide +kernel
theorem dX3_upperNumber_59 : decode cX3_upperNumber 59 = .ok (.iadd, 1) := by decide +kernel
theorem dX3_upperNumber_60 : decode cX3_upperNumber 60 = .ok (.istore 4, 2) := by decide +kernel
theorem dX3_upperNumber_62 : decode cX3_upperNumber 62 = .ok (.aload_n 0, 1) := by decide +kernel
theorem dX3_upperNumber_63 : decode cX3_upperNumber 63 = .ok (.getfield 25, 3) := by decide +kernel
theorem dX3_upperNumber_66 : decode cX3_upperNumber 66 = .ok (.invokevirtual 55, 3) := by decide +kernel
theorem dX3_upperNumber_69 : decode cX3_upperNumber 69 = .ok (.pop, 1) := by decide +kernel
theorem dX3_upperNumber_70 : decode cX3_upperNumber 70 = .ok (.iinc 5 1, 3) := by decide +kernel
theorem dX3_upperNumber_73 : decode cX3_upperNumber 73 = .ok (.goto (-53), 3) := by decide +kernel
theorem dX3_upperNumber_76 : decode cX3_upperNumber 76 = .ok (.iload 4, 2) := by decide +kernel
theorem dX3_upperNumber_78 : decode cX3_upperNumber 78 = .ok (.ireturn, 1) := by decide +kernel
def fX3_upperNumber_62 (K20 : Nat → Int32 → Int32 → Int32 → eW → Option (Int32 × eW)) (x0 : Nat) (x3 : Int32) (x4 : Int32) (x5 : Int32) (w : eW) : Option (Int32 × eW) := (eGR w x0 3 0).bind fun v1 => eBind2 (fX0_fray v1 w) fun v3 w2 => K20 x0 x3 x4 (x5 + (1 : Int32)) w2
set_option maxRecDepth 20000 in
theorem sX3_upperNumber_62 {K20 : Nat → Int32 → Int32 → Int32 → eW → Option (Int32 × eW)} (hK20 : ∀ (x0 : Nat) (x3 : Int32) (x4 : Int32) (x5 : Int32) (w : eW) (r : Int32 × eW), K20 x0 x3 x4 x5 w = some r → eBN l D cI cZ 4 yX3_upperNumber cX3_upperNumber 6 (some .int) 20 [(0, .ref x0), (3, .int x3), (4, .int x4), (5, .int x5)] [] w (some (.int r.1)) r.2) (x0 : Nat) (x3 : Int32) (x4 : Int32) (x5 : Int32) (w : eW) (r : Int32 × eW) (h : fX3_upperNumber_62 K20 x0 x3 x4 x5 w = some r) : eBN l D cI cZ 4 yX3_upperNumber cX3_upperNumber 6 (some .int) 62 [(0, .ref x0), (3, .int x3), (4, .int x4), (5, .int x5)] [] w (some (.int r.1)) r.2 := by
  rw [fX3_upperNumber_62] at h
  intro p e s m args below meth c r0 A X
  refine ev_aload_n (pc := 62) X 0 dX3_upperNumber_62 rfl rfl ?_
  obtain ⟨v1, hv1, h⟩ := eBi h
  refine ev_getR (pc := 63) X hcX3 (k := 0) (by decide) kfX3_25 dX3_upperNumber_63 hv1 ?_
  obtain ⟨v3, w2, hc, h⟩ := eB2 h
  refine ev_callV_i (pc := 66) (As := []) (S := []) X hwX0_fray klX3_55 hiX0_fray hsX0_fray (ci := 0) ⟨rfl, rfl⟩ ⟨Nat.le_of_ble_eq_true rfl, Nat.le_of_ble_eq_true rfl⟩ ⟨Nat.le_refl _, Nat.le_refl _⟩ rfl (Nat.le_of_ble_eq_true rfl) dX3_upperNumber_66 rfl (mX0_fray (l := l) (D := D) (cI := cI) (cZ := cZ) hc).1 (mX0_fray hc).2 ?_
  refine ev_pop (pc := 69) X dX3_upperNumber_69 rfl ?_
  refine ev_iinc (pc := 70) (v := x5 + (1 : Int32)) (L' := [(5, .int (x5 + (1 : Int32))), (0, .ref x0), (3, .int x3), (4, .int x4)]) X 3 dX3_upperNumber_70 rfl rfl (by decide) rfl ?_
  refine ev_goto (pc := 73) X 20 dX3_upperNumber_73 rfl ?_
  exact ev_weak (pc := 20) [1, 2, 3, 0] rfl (hK20 _ _ _ _ _ _ h p e s m args below meth c r0 A X)
def fX3_upperNumber_20 : Nat → Nat → Int32 → Int32 → Int32 → eW → Option (Int32 × eW)
  | 0, _, _, _, _, _ => none
  | n + 1, x0, x3, x4, x5, w => if x3 < x5 then (some (x4, w)) else ((eGR w x0 3 1).bind fun v1 => (eGR w x0 3 0).bind fun v2 => (fX6_lay v1 v2 w).bind fun w3 => (eGR w3 x0 3 1).bind fun v4 => eBind2 (fX6_pieces v4 w3) fun v6 w5 => if (1 : Int32) < v6 then (fX3_upperNumber_62 (fX3_upperNumber_20 n) x0 x3 x4 x5 w5) else ((eGR w5 x0 3 2).bind fun v7 => eBind2 (fX7_get v7 x5 w5) fun v9 w8 => fX3_upperNumber_62 (fX3_upperNumber_20 n) x0 x3 (x4 + v9) x5 w8))
set_option maxRecDepth 20000 in
theorem sX3_upperNumber_20  : ∀ (n : Nat) (x0 : Nat) (x3 : Int32) (x4 : Int32) (x5 : Int32) (w : eW) (r : Int32 × eW), fX3_upperNumber_20 n x0 x3 x4 x5 w = some r → eBN l D cI cZ 4 yX3_upperNumber cX3_upperNumber 6 (some .int) 20 [(0, .ref x0), (3, .int x3), (4, .int x4), (5, .int x5)] [] w (some (.int r.1)) r.2 := by
  intro n
  induction n with
  | zero => intro x0 x3 x4 x5 w r h; exact absurd (show (none : Option (Int32 × eW)) = some r from h) (by simp)
  | succ n ih =>
    intro x0 x3 x4 x5 w r h
    rw [fX3_upperNumber_20] at h
    intro p e s m args below meth c r0 A X
    refine ev_iload (pc := 20) X 3 dX3_upperNumber_20 rfl ?_
    refine ev_iload_n (pc := 22) X 1 dX3_upperNumber_22 rfl rfl ?_
    refine ev_icmp_gt (pc := 23) X 76 dX3_upperNumber_23 rfl (fun hc => ?_) (fun hc => ?_)
    · rw [if_pos hc] at h
      refine ev_iload (pc := 76) X 2 dX3_upperNumber_76 rfl ?_
      obtain rfl := Option.some.inj h
      exact ev_iret (pc := 78) X dX3_upperNumber_78
    · rw [if_neg hc] at h
      refine ev_aload_n (pc := 26) X 0 dX3_upperNumber_26 rfl rfl ?_
      obtain ⟨v1, hv1, h⟩ := eBi h
      refine ev_getR (pc := 27) X hcX3 (k := 1) (by decide) kfX3_32 dX3_upperNumber_27 hv1 ?_
      refine ev_aload_n (pc := 30) X 0 dX3_upperNumber_30 rfl rfl ?_
      obtain ⟨v2, hv2, h⟩ := eBi h
      refine ev_getR (pc := 31) X hcX3 (k := 0) (by decide) kfX3_25 dX3_upperNumber_31 hv2 ?_
      obtain ⟨w3, hc, h⟩ := eBi h
      refine ev_callV_v (pc := 34) (As := [.ref v2]) (S := []) X hwX6_lay klX3_44 hiX6_lay hsX6_lay (ci := 6) ⟨rfl, rfl⟩ ⟨Nat.le_of_ble_eq_true rfl, Nat.le_of_ble_eq_true rfl⟩ ⟨Nat.le_refl _, Nat.le_refl _⟩ rfl (Nat.le_of_ble_eq_true rfl) dX3_upperNumber_34 rfl (mX6_lay (l := l) (D := D) (cI := cI) (cZ := cZ) hc).1 (mX6_lay hc).2 ?_
      refine ev_aload_n (pc := 37) X 0 dX3_upperNumber_37 rfl rfl ?_
      obtain ⟨v4, hv4, h⟩ := eBi h
      refine ev_getR (pc := 38) X hcX3 (k := 1) (by decide) kfX3_32 dX3_upperNumber_38 hv4 ?_
      obtain ⟨v6, w5, hc, h⟩ := eB2 h
      refine ev_callV_i (pc := 41) (As := []) (S := []) X hwX6_pieces klX3_47 hiX6_pieces hsX6_pieces (ci := 6) ⟨rfl, rfl⟩ ⟨Nat.le_of_ble_eq_true rfl, Nat.le_of_ble_eq_true rfl⟩ ⟨Nat.le_refl _, Nat.le_refl _⟩ rfl (Nat.le_of_ble_eq_true rfl) dX3_upperNumber_41 rfl (mX6_pieces (l := l) (D := D) (cI := cI) (cZ := cZ) hc).1 (mX6_pieces hc).2 ?_
      refine ev_iconst (pc := 44) (v := (1 : Int32)) X dX3_upperNumber_44 rfl ?_
      refine ev_icmp_gt (pc := 45) X 62 dX3_upperNumber_45 rfl (fun hc => ?_) (fun hc => ?_)
      · rw [if_pos hc] at h
        exact ev_weak (pc := 62) [0, 1, 2, 3] rfl (sX3_upperNumber_62 (fun _ _ _ _ w r hh => ih _ _ _ _ w r hh) _ _ _ _ _ _ h p e s m args below meth c r0 A X)
      · rw [if_neg hc] at h
        refine ev_iload (pc := 48) X 2 dX3_upperNumber_48 rfl ?_
        refine ev_aload_n (pc := 50) X 0 dX3_upperNumber_50 rfl rfl ?_
        obtain ⟨v7, hv7, h⟩ := eBi h
        refine ev_getR (pc := 51) X hcX3 (k := 2) (by decide) kfX3_14 dX3_upperNumber_51 hv7 ?_
        refine ev_iload (pc := 54) X 3 dX3_upperNumber_54 rfl ?_
        obtain ⟨v9, w8, hc, h⟩ := eB2 h
        refine ev_callV_i (pc := 56) (As := [.int x5]) (S := [.int x4]) X hwX7_get klX3_51 hiX7_get hsX7_get (ci := 7) ⟨rfl, rfl⟩ ⟨Nat.le_of_ble_eq_true rfl, Nat.le_of_ble_eq_true rfl⟩ ⟨Nat.le_refl _, Nat.le_refl _⟩ rfl (Nat.le_of_ble_eq_true rfl) dX3_upperNumber_56 rfl (mX7_get (l := l) (D := D) (cI := cI) (cZ := cZ) hc).1 (mX7_get hc).2 ?_
        refine ev_iadd (pc := 59) X dX3_upperNumber_59 ?_
        refine ev_istore (pc := 60) (L' := [(4, .int (x4 + v9)), (0, .ref x0), (3, .int x3), (5, .int x5)]) X dX3_upperNumber_60 (by decide) rfl ?_
        exact ev_weak (pc := 62) [1, 2, 0, 3] rfl (sX3_upperNumber_62 (fun _ _ _ _ w r hh => ih _ _ _ _ w r hh) _ _ _ _ _ _ h p e s m args below meth c r0 A X)
def fX3_upperNumber_0 (x0 : Nat) (x1 : Nat) (x2 : Int32) (x3 : Int32) (w : eW) : Option (Int32 × eW) := (fX3_foretell x0 x2 x3 w).bind fun w1 => (eGR w1 x0 3 0).bind fun v2 => (fX0_become v2 x1 w1).bind fun w3 => fX3_upperNumber_20 eN x0 x3 (0 : Int32) (0 : Int32) w3
set_option maxRecDepth 20000 in
theorem sX3_upperNumber_0  (x0 : Nat) (x1 : Nat) (x2 : Int32) (x3 : Int32) (w : eW) (r : Int32 × eW) (h : fX3_upperNumber_0 x0 x1 x2 x3 w = some r) : eBN l D cI cZ 4 yX3_upperNumber cX3_upperNumber 6 (some .int) 0 [(0, .ref x0), (1, .ref x1), (2, .int x2), (3, .int x3)] [] w (some (.int r.1)) r.2 := by
  rw [fX3_upperNumber_0] at h
  intro p e s m args below meth c r0 A X
  refine ev_aload_n (pc := 0) X 0 dX3_upperNumber_0 rfl rfl ?_
  refine ev_iload_n (pc := 1) X 2 dX3_upperNumber_1 rfl rfl ?_
  refine ev_iload_n (pc := 2) X 3 dX3_upperNumber_2 rfl rfl ?_
  obtain ⟨w1, hc, h⟩ := eBi h
  refine ev_callV_v (pc := 3) (As := [.int x2, .int x3]) (S := []) X hwX3_foretell klX3_36 hiX3_foretell hsX3_foretell (ci := 3) ⟨rfl, rfl⟩ ⟨Nat.le_of_ble_eq_true rfl, Nat.le_of_ble_eq_true rfl⟩ ⟨Nat.le_refl _, Nat.le_refl _⟩ rfl (Nat.le_of_ble_eq_true rfl) dX3_upperNumber_3 rfl (mX3_foretell (l := l) (D := D) (cI := cI) (cZ := cZ) hc).1 (mX3_foretell hc).2 ?_
  refine ev_aload_n (pc := 6) X 0 dX3_upperNumber_6 rfl rfl ?_
  obtain ⟨v2, hv2, h⟩ := eBi h
  refine ev_getR (pc := 7) X hcX3 (k := 0) (by decide) kfX3_25 dX3_upperNumber_7 hv2 ?_
  refine ev_aload_n (pc := 10) X 1 dX3_upperNumber_10 rfl rfl ?_
  obtain ⟨w3, hc, h⟩ := eBi h
  refine ev_callV_v (pc := 11) (As := [.ref x1]) (S := []) X hwX0_become klX3_40 hiX0_become hsX0_become (ci := 0) ⟨rfl, rfl⟩ ⟨Nat.le_of_ble_eq_true rfl, Nat.le_of_ble_eq_true rfl⟩ ⟨Nat.le_refl _, Nat.le_refl _⟩ rfl (Nat.le_of_ble_eq_true rfl) dX3_upperNumber_11 rfl (mX0_become (l := l) (D := D) (cI := cI) (cZ := cZ) hc).1 (mX0_become hc).2 ?_
  refine ev_iconst (pc := 14) (v := (0 : Int32)) X dX3_upperNumber_14 rfl ?_
  refine ev_istore (pc := 15) (L' := [(4, .int (0 : Int32)), (0, .ref x0), (1, .ref x1), (2, .int x2), (3, .int x3)]) X dX3_upperNumber_15 (by decide) rfl ?_
  refine ev_iconst (pc := 17) (v := (0 : Int32)) X dX3_upperNumber_17 rfl ?_
  refine ev_istore (pc := 18) (L' := [(5, .int (0 : Int32)), (4, .int (0 : Int32)), (0, .ref x0), (1, .ref x1), (2, .int x2), (3, .int x3)]) X dX3_upperNumber_18 (by decide) rfl ?_
  exact ev_weak (pc := 20) [2, 5, 1, 0] rfl (sX3_upperNumber_20 eN _ _ _ _ _ _ h p e s m args below meth c r0 A X)
def fX3_upperNumber (a0 : Nat) (a1 : Nat) (a2 : Int32) (a3 : Int32) (w : eW) : Option (Int32 × eW) := bif eO w a0 3 then fX3_upperNumber_0 a0 a1 a2 a3 w else none
theorem mX3_upperNumber {a0 : Nat} {a1 : Nat} {a2 : Int32} {a3 : Int32} {w : eW} {v : Int32} {w' : eW} (h : fX3_upperNumber a0 a1 a2 a3 w = some (v, w')) : eO w a0 3 = true ∧ eMN l D cI cZ 4 yX3_upperNumber cX3_upperNumber 6 (some .int) [.ref a0, .ref a1, .int a2, .int a3] w (some (.int v)) w' := by
  obtain ⟨h0, h⟩ := eBif h
  exact ⟨h0, eMN_of [(0, .ref a0), (1, .ref a1), (2, .int a2), (3, .int a3)] (plainFor_of_name (by decide)) (fun _ => rfl) (fun _ => Nat.le_of_ble_eq_true rfl) (fun p e s m args below meth c r0 A X => ev_weak (pc := 0) [0, 1, 2, 3] rfl (sX3_upperNumber_0 _ _ _ _ _ _ h p e s m args below meth c r0 A X))⟩
theorem dX5_traced_0 : decode cX5_traced 0 = .ok (.aload_n 0, 1) := by decide +kernel
theorem dX5_traced_1 : decode cX5_traced 1 = .ok (.getfield 7, 3) := by decide +kernel
theorem dX5_traced_4 : decode cX5_traced 4 = .ok (.lreturn, 1) := by decide +kernel
def fX5_traced_0 (x0 : Nat) (w : eW) : Option (Int64 × eW) := (eGL w x0 5 2).bind fun v1 => some (v1, w)
set_option maxRecDepth 20000 in
theorem sX5_traced_0  (x0 : Nat) (w : eW) (r : Int64 × eW) (h : fX5_traced_0 x0 w = some r) : eBN l D cI cZ 0 yX5_traced cX5_traced 1 (some .long) 0 [(0, .ref x0)] [] w (some (.long r.1)) r.2 := by
  rw [fX5_traced_0] at h
  intro p e s m args below meth c r0 A X
  refine ev_aload_n (pc := 0) X 0 dX5_traced_0 rfl rfl ?_
  obtain ⟨v1, hv1, h⟩ := eBi h
  refine ev_getL (pc := 1) X hcX5 (k := 2) (by decide) kfX5_7 dX5_traced_1 hv1 ?_
  obtain rfl := Option.some.inj h
  exact ev_lret (pc := 4) X dX5_traced_4
def fX5_traced (a0 : Nat) (w : eW) : Option (Int64 × eW) := bif eO w a0 5 then fX5_traced_0 a0 w else none
theorem mX5_traced {a0 : Nat} {w : eW} {v : Int64} {w' : eW} (h : fX5_traced a0 w = some (v, w')) : eO w a0 5 = true ∧ eMN l D cI cZ 0 yX5_traced cX5_traced 1 (some .long) [.ref a0] w (some (.long v)) w' := by
  obtain ⟨h0, h⟩ := eBif h
  exact ⟨h0, eMN_of [(0, .ref a0)] (plainFor_of_name (by decide)) (fun _ => rfl) (fun _ => Nat.le_of_ble_eq_true rfl) (fun p e s m args below meth c r0 A X => ev_weak (pc := 0) [0] rfl (sX5_traced_0 _ _ _ h p e s m args below meth c r0 A X))⟩
theorem dX5_asBolt_0 : decode cX5_asBolt 0 = .ok (.aload_n 0, 1) := by decide +kernel
theorem dX5_asBolt_1 : decode cX5_asBolt 1 = .ok (.dup, 1) := by decide +kernel
theorem dX5_asBolt_2 : decode cX5_asBolt 2 = .ok (.getfield 7, 3) := by decide +kernel
theorem dX5_asBolt_5 : decode cX5_asBolt 5 = .ok (.lconst 1, 1) := by decide +kernel
theorem dX5_asBolt_6 : decode cX5_asBolt 6 = .ok (.ladd, 1) := by decide +kernel
theorem dX5_asBolt_7 : decode cX5_asBolt 7 = .ok (.putfield 7, 3) := by decide +kernel
theorem dX5_asBolt_10 : decode cX5_asBolt 10 = .ok (.aload_n 0, 1) := by decide +kernel
theorem dX5_asBolt_11 : decode cX5_asBolt 11 = .ok (.getfield 13, 3) := by decide +kernel
theorem dX5_asBolt_14 : decode cX5_asBolt 14 = .ok (.iload_n 1, 1) := by decide +kernel
theorem dX5_asBolt_15 : decode cX5_asBolt 15 = .ok (.invokevirtual 21, 3) := by decide +kernel
theorem dX5_asBolt_18 : decode cX5_asBolt 18 = .ok (.ireturn, 1) := by decide +kernel
def fX5_asBolt_0 (x0 : Nat) (x1 : Int32) (w : eW) : Option (Int32 × eW) := (eGL w x0 5 2).bind fun v1 => (eP w x0 5 2 (.long (v1 + (1 : Int64)))).bind fun w2 => (eGR w2 x0 5 0).bind fun v3 => eBind2 (fX0_length v3 x1 w2) fun v5 w4 => some (v5, w4)
set_option maxRecDepth 20000 in
theorem sX5_asBolt_0  (x0 : Nat) (x1 : Int32) (w : eW) (r : Int32 × eW) (h : fX5_asBolt_0 x0 x1 w = some r) : eBN l D cI cZ 2 yX5_asBolt cX5_asBolt 2 (some .int) 0 [(0, .ref x0), (1, .int x1)] [] w (some (.int r.1)) r.2 := by
  rw [fX5_asBolt_0] at h
  intro p e s m args below meth c r0 A X
  refine ev_aload_n (pc := 0) X 0 dX5_asBolt_0 rfl rfl ?_
  refine ev_dup (pc := 1) X dX5_asBolt_1 rfl ?_
  obtain ⟨v1, hv1, h⟩ := eBi h
  refine ev_getL (pc := 2) X hcX5 (k := 2) (by decide) kfX5_7 dX5_asBolt_2 hv1 ?_
  refine ev_lconst (pc := 5) (v := (1 : Int64)) X dX5_asBolt_5 rfl ?_
  refine ev_ladd (pc := 6) X dX5_asBolt_6 ?_
  obtain ⟨w2, hw2, h⟩ := eBi h
  refine ev_putL (pc := 7) X hcX5 (k := 2) (by decide) kfX5_7 rfl rfl dX5_asBolt_7 hw2 ?_
  refine ev_aload_n (pc := 10) X 0 dX5_asBolt_10 rfl rfl ?_
  obtain ⟨v3, hv3, h⟩ := eBi h
  refine ev_getR (pc := 11) X hcX5 (k := 0) (by decide) kfX5_13 dX5_asBolt_11 hv3 ?_
  refine ev_iload_n (pc := 14) X 1 dX5_asBolt_14 rfl rfl ?_
  obtain ⟨v5, w4, hc, h⟩ := eB2 h
  refine ev_callV_i (pc := 15) (As := [.int x1]) (S := []) X hwX0_length klX5_21 hiX0_length hsX0_length (ci := 0) ⟨rfl, rfl⟩ ⟨Nat.le_of_ble_eq_true rfl, Nat.le_of_ble_eq_true rfl⟩ ⟨Nat.le_refl _, Nat.le_refl _⟩ rfl (Nat.le_of_ble_eq_true rfl) dX5_asBolt_15 rfl (mX0_length (l := l) (D := D) (cI := cI) (cZ := cZ) hc).1 (mX0_length hc).2 ?_
  obtain rfl := Option.some.inj h
  exact ev_iret (pc := 18) X dX5_asBolt_18
def fX5_asBolt (a0 : Nat) (a1 : Int32) (w : eW) : Option (Int32 × eW) := bif eO w a0 5 then fX5_asBolt_0 a0 a1 w else none
theorem mX5_asBolt {a0 : Nat} {a1 : Int32} {w : eW} {v : Int32} {w' : eW} (h : fX5_asBolt a0 a1 w = some (v, w')) : eO w a0 5 = true ∧ eMN l D cI cZ 2 yX5_asBolt cX5_asBolt 2 (some .int) [.ref a0, .int a1] w (some (.int v)) w' := by
  obtain ⟨h0, h⟩ := eBif h
  exact ⟨h0, eMN_of [(0, .ref a0), (1, .int a1)] (plainFor_of_name (by decide)) (fun _ => rfl) (fun _ => Nat.le_of_ble_eq_true rfl) (fun p e s m args below meth c r0 A X => ev_weak (pc := 0) [0, 1] rfl (sX5_asBolt_0 _ _ _ _ h p e s m args below meth c r0 A X))⟩
theorem dX5_asLane_0 : decode cX5_asLane 0 = .ok (.aload_n 0, 1) := by decide +kernel
theorem dX5_asLane_1 : decode cX5_asLane 1 = .ok (.dup, 1) := by decide +kernel
theorem dX5_asLane_2 : decode cX5_asLane 2 = .ok (.getfield 7, 3) := by decide +kernel
theorem dX5_asLane_5 : decode cX5_asLane 5 = .ok (.ldc2_w 27, 3) := by decide +kernel
theorem dX5_asLane_8 : decode cX5_asLane 8 = .ok (.ladd, 1) := by decide +kernel
theorem dX5_asLane_9 : decode cX5_asLane 9 = .ok (.putfield 7, 3) := by decide +kernel
theorem dX5_asLane_12 : decode cX5_asLane 12 = .ok (.aload_n 0, 1) := by decide +kernel
theorem dX5_asLane_13 : decode cX5_asLane 13 = .ok (.iload_n 1, 1) := by decide +kernel
theorem dX5_asLane_14 : decode cX5_asLane 14 = .ok (.invokevirtual 29, 3) := by decide +kernel
theorem dX5_asLane_17 : decode cX5_asLane 17 = .ok (.aload_n 0, 1) := by decide +kernel
theorem dX5_asLane_18 : decode cX5_asLane 18 = .ok (.getfield 13, 3) := by decide +kernel
theorem dX5_asLane_21 : decode cX5_asLane 21 = .ok (.iload_n 1, 1) := by decide +kernel
theorem dX5_asLane_22 : decode cX5_asLane 22 = .ok (.invokevirtual 32, 3) := by decide +kernel
theorem dX5_asLane_25 : decode cX5_asLane 25 = .ok (.iadd, 1) := by decide +kernel
theorem dX5_asLane_26 : decode cX5_asLane 26 = .ok (.ireturn, 1) := by decide +kernel
def fX5_asLane_0 (x0 : Nat) (x1 : Int32) (w : eW) : Option (Int32 × eW) := (eGL w x0 5 2).bind fun v1 => (eP w x0 5 2 (.long (v1 + (10 : Int64)))).bind fun w2 => eBind2 (fX5_asBolt x0 x1 w2) fun v4 w3 => (eGR w3 x0 5 0).bind fun v5 => eBind2 (fX0_lastCell v5 x1 w3) fun v7 w6 => some (v4 + v7, w6)
set_option maxRecDepth 20000 in
theorem sX5_asLane_0  (x0 : Nat) (x1 : Int32) (w : eW) (r : Int32 × eW) (h : fX5_asLane_0 x0 x1 w = some r) : eBN l D cI cZ 4 yX5_asLane cX5_asLane 2 (some .int) 0 [(0, .ref x0), (1, .int x1)] [] w (some (.int r.1)) r.2 := by
  rw [fX5_asLane_0] at h
  intro p e s m args below meth c r0 A X
  refine ev_aload_n (pc := 0) X 0 dX5_asLane_0 rfl rfl ?_
  refine ev_dup (pc := 1) X dX5_asLane_1 rfl ?_
  obtain ⟨v1, hv1, h⟩ := eBi h
  refine ev_getL (pc := 2) X hcX5 (k := 2) (by decide) kfX5_7 dX5_asLane_2 hv1 ?_
  refine ev_ldc2 (pc := 5) X kjX5_27 dX5_asLane_5 ?_
  refine ev_ladd (pc := 8) X dX5_asLane_8 ?_
  obtain ⟨w2, hw2, h⟩ := eBi h
  refine ev_putL (pc := 9) X hcX5 (k := 2) (by decide) kfX5_7 rfl rfl dX5_asLane_9 hw2 ?_
  refine ev_aload_n (pc := 12) X 0 dX5_asLane_12 rfl rfl ?_
  refine ev_iload_n (pc := 13) X 1 dX5_asLane_13 rfl rfl ?_
  obtain ⟨v4, w3, hc, h⟩ := eB2 h
  refine ev_callV_i (pc := 14) (As := [.int x1]) (S := []) X hwX5_asBolt klX5_29 hiX5_asBolt hsX5_asBolt (ci := 5) ⟨rfl, rfl⟩ ⟨Nat.le_of_ble_eq_true rfl, Nat.le_of_ble_eq_true rfl⟩ ⟨Nat.le_refl _, Nat.le_refl _⟩ rfl (Nat.le_of_ble_eq_true rfl) dX5_asLane_14 rfl (mX5_asBolt (l := l) (D := D) (cI := cI) (cZ := cZ) hc).1 (mX5_asBolt hc).2 ?_
  refine ev_aload_n (pc := 17) X 0 dX5_asLane_17 rfl rfl ?_
  obtain ⟨v5, hv5, h⟩ := eBi h
  refine ev_getR (pc := 18) X hcX5 (k := 0) (by decide) kfX5_13 dX5_asLane_18 hv5 ?_
  refine ev_iload_n (pc := 21) X 1 dX5_asLane_21 rfl rfl ?_
  obtain ⟨v7, w6, hc, h⟩ := eB2 h
  refine ev_callV_i (pc := 22) (As := [.int x1]) (S := [.int v4]) X hwX0_lastCell klX5_32 hiX0_lastCell hsX0_lastCell (ci := 0) ⟨rfl, rfl⟩ ⟨Nat.le_of_ble_eq_true rfl, Nat.le_of_ble_eq_true rfl⟩ ⟨Nat.le_refl _, Nat.le_refl _⟩ rfl (Nat.le_of_ble_eq_true rfl) dX5_asLane_22 rfl (mX0_lastCell (l := l) (D := D) (cI := cI) (cZ := cZ) hc).1 (mX0_lastCell hc).2 ?_
  refine ev_iadd (pc := 25) X dX5_asLane_25 ?_
  obtain rfl := Option.some.inj h
  exact ev_iret (pc := 26) X dX5_asLane_26
def fX5_asLane (a0 : Nat) (a1 : Int32) (w : eW) : Option (Int32 × eW) := bif eO w a0 5 then fX5_asLane_0 a0 a1 w else none
theorem mX5_asLane {a0 : Nat} {a1 : Int32} {w : eW} {v : Int32} {w' : eW} (h : fX5_asLane a0 a1 w = some (v, w')) : eO w a0 5 = true ∧ eMN l D cI cZ 4 yX5_asLane cX5_asLane 2 (some .int) [.ref a0, .int a1] w (some (.int v)) w' := by
  obtain ⟨h0, h⟩ := eBif h
  exact ⟨h0, eMN_of [(0, .ref a0), (1, .int a1)] (plainFor_of_name (by decide)) (fun _ => rfl) (fun _ => Nat.le_of_ble_eq_true rfl) (fun p e s m args below meth c r0 A X => ev_weak (pc := 0) [0, 1] rfl (sX5_asLane_0 _ _ _ _ h p e s m args below meth c r0 A X))⟩
theorem dX5_asToll_0 : decode cX5_asToll 0 = .ok (.aload_n 0, 1) := by decide +kernel
theorem dX5_asToll_1 : decode cX5_asToll 1 = .ok (.dup, 1) := by decide +kernel
theorem dX5_asToll_2 : decode cX5_asToll 2 = .ok (.getfield 7, 3) := by decide +kernel
theorem dX5_asToll_5 : decode cX5_asToll 5 = .ok (.ldc2_w 35, 3) := by decide +kernel
theorem dX5_asToll_8 : decode cX5_asToll 8 = .ok (.ladd, 1) := by decide +kernel
theorem dX5_asToll_9 : decode cX5_asToll 9 = .ok (.putfield 7, 3) := by decide +kernel
theorem dX5_asToll_12 : decode cX5_asToll 12 = .ok (.aload_n 0, 1) := by decide +kernel
theorem dX5_asToll_13 : decode cX5_asToll 13 = .ok (.iload_n 1, 1) := by decide +kernel
theorem dX5_asToll_14 : decode cX5_asToll 14 = .ok (.invokevirtual 29, 3) := by decide +kernel
theorem dX5_asToll_17 : decode cX5_asToll 17 = .ok (.aload_n 0, 1) := by decide +kernel
theorem dX5_asToll_18 : decode cX5_asToll 18 = .ok (.getfield 13, 3) := by decide +kernel
theorem dX5_asToll_21 : decode cX5_asToll 21 = .ok (.iload_n 1, 1) := by decide +kernel
theorem dX5_asToll_22 : decode cX5_asToll 22 = .ok (.invokevirtual 37, 3) := by decide +kernel
theorem dX5_asToll_25 : decode cX5_asToll 25 = .ok (.isub, 1) := by decide +kernel
theorem dX5_asToll_26 : decode cX5_asToll 26 = .ok (.ireturn, 1) := by decide +kernel
def fX5_asToll_0 (x0 : Nat) (x1 : Int32) (w : eW) : Option (Int32 × eW) := (eGL w x0 5 2).bind fun v1 => (eP w x0 5 2 (.long (v1 + (100 : Int64)))).bind fun w2 => eBind2 (fX5_asBolt x0 x1 w2) fun v4 w3 => (eGR w3 x0 5 0).bind fun v5 => eBind2 (fX0_climb v5 x1 w3) fun v7 w6 => some (v4 - v7, w6)
set_option maxRecDepth 20000 in
theorem sX5_asToll_0  (x0 : Nat) (x1 : Int32) (w : eW) (r : Int32 × eW) (h : fX5_asToll_0 x0 x1 w = some r) : eBN l D cI cZ 3 yX5_asToll cX5_asToll 2 (some .int) 0 [(0, .ref x0), (1, .int x1)] [] w (some (.int r.1)) r.2 := by
  rw [fX5_asToll_0] at h
  intro p e s m args below meth c r0 A X
  refine ev_aload_n (pc := 0) X 0 dX5_asToll_0 rfl rfl ?_
  refine ev_dup (pc := 1) X dX5_asToll_1 rfl ?_
  obtain ⟨v1, hv1, h⟩ := eBi h
  refine ev_getL (pc := 2) X hcX5 (k := 2) (by decide) kfX5_7 dX5_asToll_2 hv1 ?_
  refine ev_ldc2 (pc := 5) X kjX5_35 dX5_asToll_5 ?_
  refine ev_ladd (pc := 8) X dX5_asToll_8 ?_
  obtain ⟨w2, hw2, h⟩ := eBi h
  refine ev_putL (pc := 9) X hcX5 (k := 2) (by decide) kfX5_7 rfl rfl dX5_asToll_9 hw2 ?_
  refine ev_aload_n (pc := 12) X 0 dX5_asToll_12 rfl rfl ?_
  refine ev_iload_n (pc := 13) X 1 dX5_asToll_13 rfl rfl ?_
  obtain ⟨v4, w3, hc, h⟩ := eB2 h
  refine ev_callV_i (pc := 14) (As := [.int x1]) (S := []) X hwX5_asBolt klX5_29 hiX5_asBolt hsX5_asBolt (ci := 5) ⟨rfl, rfl⟩ ⟨Nat.le_of_ble_eq_true rfl, Nat.le_of_ble_eq_true rfl⟩ ⟨Nat.le_refl _, Nat.le_refl _⟩ rfl (Nat.le_of_ble_eq_true rfl) dX5_asToll_14 rfl (mX5_asBolt (l := l) (D := D) (cI := cI) (cZ := cZ) hc).1 (mX5_asBolt hc).2 ?_
  refine ev_aload_n (pc := 17) X 0 dX5_asToll_17 rfl rfl ?_
  obtain ⟨v5, hv5, h⟩ := eBi h
  refine ev_getR (pc := 18) X hcX5 (k := 0) (by decide) kfX5_13 dX5_asToll_18 hv5 ?_
  refine ev_iload_n (pc := 21) X 1 dX5_asToll_21 rfl rfl ?_
  obtain ⟨v7, w6, hc, h⟩ := eB2 h
  refine ev_callV_i (pc := 22) (As := [.int x1]) (S := [.int v4]) X hwX0_climb klX5_37 hiX0_climb hsX0_climb (ci := 0) ⟨rfl, rfl⟩ ⟨Nat.le_of_ble_eq_true rfl, Nat.le_of_ble_eq_true rfl⟩ ⟨Nat.le_refl _, Nat.le_refl _⟩ rfl (Nat.le_of_ble_eq_true rfl) dX5_asToll_22 rfl (mX0_climb (l := l) (D := D) (cI := cI) (cZ := cZ) hc).1 (mX0_climb hc).2 ?_
  refine ev_isub (pc := 25) X dX5_asToll_25 ?_
  obtain rfl := Option.some.inj h
  exact ev_iret (pc := 26) X dX5_asToll_26
def fX5_asToll (a0 : Nat) (a1 : Int32) (w : eW) : Option (Int32 × eW) := bif eO w a0 5 then fX5_asToll_0 a0 a1 w else none
theorem mX5_asToll {a0 : Nat} {a1 : Int32} {w : eW} {v : Int32} {w' : eW} (h : fX5_asToll a0 a1 w = some (v, w')) : eO w a0 5 = true ∧ eMN l D cI cZ 3 yX5_asToll cX5_asToll 2 (some .int) [.ref a0, .int a1] w (some (.int v)) w' := by
  obtain ⟨h0, h⟩ := eBif h
  exact ⟨h0, eMN_of [(0, .ref a0), (1, .int a1)] (plainFor_of_name (by decide)) (fun _ => rfl) (fun _ => Nat.le_of_ble_eq_true rfl) (fun p e s m args below meth c r0 A X => ev_weak (pc := 0) [0, 1] rfl (sX5_asToll_0 _ _ _ _ h p e s m args below meth c r0 A X))⟩
theorem dX5_asTrack_0 : decode cX5_asTrack 0 = .ok (.aload_n 0, 1) := by decide +kernel
theorem dX5_asTrack_1 : decode cX5_asTrack 1 = .ok (.dup, 1) := by decide +kernel
theorem dX5_asTrack_2 : decode cX5_asTrack 2 = .ok (.getfield 7, 3) := by decide +kernel
theorem dX5_asTrack_5 : decode cX5_asTrack 5 = .ok (.ldc2_w 40, 3) := by decide +kernel
theorem dX5_asTrack_8 : decode cX5_asTrack 8 = .ok (.ladd, 1) := by decide +kernel
theorem dX5_asTrack_9 : decode cX5_asTrack 9 = .ok (.putfield 7, 3) := by decide +kernel
theorem dX5_asTrack_12 : decode cX5_asTrack 12 = .ok (.iconst 2, 1) := by decide +kernel
theorem dX5_asTrack_13 : decode cX5_asTrack 13 = .ok (.aload_n 0, 1) := by decide +kernel
theorem dX5_asTrack_14 : decode cX5_asTrack 14 = .ok (.iload_n 1, 1) := by decide +kernel
theorem dX5_asTrack_15 : decode cX5_asTrack 15 = .ok (.invokevirtual 42, 3) := by decide +kernel
theorem dX5_asTrack_18 : decode cX5_asTrack 18 = .ok (.imul, 1) := by decide +kernel
theorem dX5_asTrack_19 : decode cX5_asTrack 19 = .ok (.ireturn, 1) := by decide +kernel
def fX5_asTrack_0 (x0 : Nat) (x1 : Int32) (w : eW) : Option (Int32 × eW) := (eGL w x0 5 2).bind fun v1 => (eP w x0 5 2 (.long (v1 + (1000 : Int64)))).bind fun w2 => eBind2 (fX5_asLane x0 x1 w2) fun v4 w3 => some ((2 : Int32) * v4, w3)
set_option maxRecDepth 20000 in
theorem sX5_asTrack_0  (x0 : Nat) (x1 : Int32) (w : eW) (r : Int32 × eW) (h : fX5_asTrack_0 x0 x1 w = some r) : eBN l D cI cZ 5 yX5_asTrack cX5_asTrack 2 (some .int) 0 [(0, .ref x0), (1, .int x1)] [] w (some (.int r.1)) r.2 := by
  rw [fX5_asTrack_0] at h
  intro p e s m args below meth c r0 A X
  refine ev_aload_n (pc := 0) X 0 dX5_asTrack_0 rfl rfl ?_
  refine ev_dup (pc := 1) X dX5_asTrack_1 rfl ?_
  obtain ⟨v1, hv1, h⟩ := eBi h
  refine ev_getL (pc := 2) X hcX5 (k := 2) (by decide) kfX5_7 dX5_asTrack_2 hv1 ?_
  refine ev_ldc2 (pc := 5) X kjX5_40 dX5_asTrack_5 ?_
  refine ev_ladd (pc := 8) X dX5_asTrack_8 ?_
  obtain ⟨w2, hw2, h⟩ := eBi h
  refine ev_putL (pc := 9) X hcX5 (k := 2) (by decide) kfX5_7 rfl rfl dX5_asTrack_9 hw2 ?_
  refine ev_iconst (pc := 12) (v := (2 : Int32)) X dX5_asTrack_12 rfl ?_
  refine ev_aload_n (pc := 13) X 0 dX5_asTrack_13 rfl rfl ?_
  refine ev_iload_n (pc := 14) X 1 dX5_asTrack_14 rfl rfl ?_
  obtain ⟨v4, w3, hc, h⟩ := eB2 h
  refine ev_callV_i (pc := 15) (As := [.int x1]) (S := [.int (2 : Int32)]) X hwX5_asLane klX5_42 hiX5_asLane hsX5_asLane (ci := 5) ⟨rfl, rfl⟩ ⟨Nat.le_of_ble_eq_true rfl, Nat.le_of_ble_eq_true rfl⟩ ⟨Nat.le_refl _, Nat.le_refl _⟩ rfl (Nat.le_of_ble_eq_true rfl) dX5_asTrack_15 rfl (mX5_asLane (l := l) (D := D) (cI := cI) (cZ := cZ) hc).1 (mX5_asLane hc).2 ?_
  refine ev_imul (pc := 18) X dX5_asTrack_18 ?_
  obtain rfl := Option.some.inj h
  exact ev_iret (pc := 19) X dX5_asTrack_19
def fX5_asTrack (a0 : Nat) (a1 : Int32) (w : eW) : Option (Int32 × eW) := bif eO w a0 5 then fX5_asTrack_0 a0 a1 w else none
theorem mX5_asTrack {a0 : Nat} {a1 : Int32} {w : eW} {v : Int32} {w' : eW} (h : fX5_asTrack a0 a1 w = some (v, w')) : eO w a0 5 = true ∧ eMN l D cI cZ 5 yX5_asTrack cX5_asTrack 2 (some .int) [.ref a0, .int a1] w (some (.int v)) w' := by
  obtain ⟨h0, h⟩ := eBif h
  exact ⟨h0, eMN_of [(0, .ref a0), (1, .int a1)] (plainFor_of_name (by decide)) (fun _ => rfl) (fun _ => Nat.le_of_ble_eq_true rfl) (fun p e s m args below meth c r0 A X => ev_weak (pc := 0) [0, 1] rfl (sX5_asTrack_0 _ _ _ _ h p e s m args below meth c r0 A X))⟩
theorem dX5_asMoth_0 : decode cX5_asMoth 0 = .ok (.aload_n 0, 1) := by decide +kernel
theorem dX5_asMoth_1 : decode cX5_asMoth 1 = .ok (.dup, 1) := by decide +kernel
theorem dX5_asMoth_2 : decode cX5_asMoth 2 = .ok (.getfield 7, 3) := by decide +kernel
theorem dX5_asMoth_5 : decode cX5_asMoth 5 = .ok (.ldc2_w 45, 3) := by decide +kernel
theorem dX5_asMoth_8 : decode cX5_asMoth 8 = .ok (.ladd, 1) := by decide +kernel
theorem dX5_asMoth_9 : decode cX5_asMoth 9 = .ok (.putfield 7, 3) := by decide +kernel
theorem dX5_asMoth_12 : decode cX5_asMoth 12 = .ok (.aload_n 0, 1) := by decide +kernel
theorem dX5_asMoth_13 : decode cX5_asMoth 13 = .ok (.iload_n 1, 1) := by decide +kernel
theorem dX5_asMoth_14 : decode cX5_asMoth 14 = .ok (.invokevirtual 47, 3) := by decide +kernel
theorem dX5_asMoth_17 : decode cX5_asMoth 17 = .ok (.iload_n 1, 1) := by decide +kernel
theorem dX5_asMoth_18 : decode cX5_asMoth 18 = .ok (.iadd, 1) := by decide +kernel
theorem dX5_asMoth_19 : decode cX5_asMoth 19 = .ok (.ireturn, 1) := by decide +kernel
def fX5_asMoth_0 (x0 : Nat) (x1 : Int32) (w : eW) : Option (Int32 × eW) := (eGL w x0 5 2).bind fun v1 => (eP w x0 5 2 (.long (v1 + (10000 : Int64)))).bind fun w2 => eBind2 (fX5_asToll x0 x1 w2) fun v4 w3 => some (v4 + x1, w3)
set_option maxRecDepth 20000 in
theorem sX5_asMoth_0  (x0 : Nat) (x1 : Int32) (w : eW) (r : Int32 × eW) (h : fX5_asMoth_0 x0 x1 w = some r) : eBN l D cI cZ 4 yX5_asMoth cX5_asMoth 2 (some .int) 0 [(0, .ref x0), (1, .int x1)] [] w (some (.int r.1)) r.2 := by
  rw [fX5_asMoth_0] at h
  intro p e s m args below meth c r0 A X
  refine ev_aload_n (pc := 0) X 0 dX5_asMoth_0 rfl rfl ?_
  refine ev_dup (pc := 1) X dX5_asMoth_1 rfl ?_
  obtain ⟨v1, hv1, h⟩ := eBi h
  refine ev_getL (pc := 2) X hcX5 (k := 2) (by decide) kfX5_7 dX5_asMoth_2 hv1 ?_
  refine ev_ldc2 (pc := 5) X kjX5_45 dX5_asMoth_5 ?_
  refine ev_ladd (pc := 8) X dX5_asMoth_8 ?_
  obtain ⟨w2, hw2, h⟩ := eBi h
  refine ev_putL (pc := 9) X hcX5 (k := 2) (by decide) kfX5_7 rfl rfl dX5_asMoth_9 hw2 ?_
  refine ev_aload_n (pc := 12) X 0 dX5_asMoth_12 rfl rfl ?_
  refine ev_iload_n (pc := 13) X 1 dX5_asMoth_13 rfl rfl ?_
  obtain ⟨v4, w3, hc, h⟩ := eB2 h
  refine ev_callV_i (pc := 14) (As := [.int x1]) (S := []) X hwX5_asToll klX5_47 hiX5_asToll hsX5_asToll (ci := 5) ⟨rfl, rfl⟩ ⟨Nat.le_of_ble_eq_true rfl, Nat.le_of_ble_eq_true rfl⟩ ⟨Nat.le_refl _, Nat.le_refl _⟩ rfl (Nat.le_of_ble_eq_true rfl) dX5_asMoth_14 rfl (mX5_asToll (l := l) (D := D) (cI := cI) (cZ := cZ) hc).1 (mX5_asToll hc).2 ?_
  refine ev_iload_n (pc := 17) X 1 dX5_asMoth_17 rfl rfl ?_
  refine ev_iadd (pc := 18) X dX5_asMoth_18 ?_
  obtain rfl := Option.some.inj h
  exact ev_iret (pc := 19) X dX5_asMoth_19
def fX5_asMoth (a0 : Nat) (a1 : Int32) (w : eW) : Option (Int32 × eW) := bif eO w a0 5 then fX5_asMoth_0 a0 a1 w else none
theorem mX5_asMoth {a0 : Nat} {a1 : Int32} {w : eW} {v : Int32} {w' : eW} (h : fX5_asMoth a0 a1 w = some (v, w')) : eO w a0 5 = true ∧ eMN l D cI cZ 4 yX5_asMoth cX5_asMoth 2 (some .int) [.ref a0, .int a1] w (some (.int v)) w' := by
  obtain ⟨h0, h⟩ := eBif h
  exact ⟨h0, eMN_of [(0, .ref a0), (1, .int a1)] (plainFor_of_name (by decide)) (fun _ => rfl) (fun _ => Nat.le_of_ble_eq_true rfl) (fun p e s m args below meth c r0 A X => ev_weak (pc := 0) [0, 1] rfl (sX5_asMoth_0 _ _ _ _ h p e s m args below meth c r0 A X))⟩
theorem dX5_asDream_0 : decode cX5_asDream 0 = .ok (.aload_n 0, 1) := by decide +kernel
theorem dX5_asDream_1 : decode cX5_asDream 1 = .ok (.dup, 1) := by decide +kernel
theorem dX5_asDream_2 : decode cX5_asDream 2 = .ok (.getfield 7, 3) := by decide +kernel
theorem dX5_asDream_5 : decode cX5_asDream 5 = .ok (.ldc2_w 50, 3) := by decide +kernel
theorem dX5_asDream_8 : decode cX5_asDream 8 = .ok (.ladd, 1) := by decide +kernel
theorem dX5_asDream_9 : decode cX5_asDream 9 = .ok (.putfield 7, 3) := by decide +kernel
theorem dX5_asDream_12 : decode cX5_asDream 12 = .ok (.aload_n 0, 1) := by decide +kernel
theorem dX5_asDream_13 : decode cX5_asDream 13 = .ok (.getfield 17, 3) := by decide +kernel
theorem dX5_asDream_16 : decode cX5_asDream 16 = .ok (.aload_n 0, 1) := by decide +kernel
theorem dX5_asDream_17 : decode cX5_asDream 17 = .ok (.getfield 13, 3) := by decide +kernel
theorem dX5_asDream_20 : decode cX5_asDream 20 = .ok (.invokevirtual 52, 3) := by decide +kernel
theorem dX5_asDream_23 : decode cX5_asDream 23 = .ok (.aload_n 0, 1) := by decide +kernel
theorem dX5_asDream_24 : decode cX5_asDream 24 = .ok (.iload_n 1, 1) := by decide +kernel
theorem dX5_asDream_25 : decode cX5_asDream 25 = .ok (.invokevirtual 29, 3) := by decide +kernel
theorem dX5_asDream_28 : decode cX5_asDream 28 = .ok (.aload_n 0, 1) := by decide +kernel
theorem dX5_asDream_29 : decode cX5_asDream 29 = .ok (.getfield 17, 3) := by decide +kernel
theorem dX5_asDream_32 : decode cX5_asDream 32 = .ok (.invokevirtual 58, 3) := by decide +kernel
theorem dX5_asDream_35 : decode cX5_asDream 35 = .ok (.iadd, 1) := by decide +kernel
theorem dX5_asDream_36 : decode cX5_asDream 36 = .ok (.ireturn, 1) := by decide +kernel
def fX5_asDream_0 (x0 : Nat) (x1 : Int32) (w : eW) : Option (Int32 × eW) := (eGL w x0 5 2).bind fun v1 => (eP w x0 5 2 (.long (v1 + (100000 : Int64)))).bind fun w2 => (eGR w2 x0 5 1).bind fun v3 => (eGR w2 x0 5 0).bind fun v4 => (fX6_lay v3 v4 w2).bind fun w5 => eBind2 (fX5_asBolt x0 x1 w5) fun v7 w6 => (eGR w6 x0 5 1).bind fun v8 => eBind2 (fX6_pieces v8 w6) fun v10 w9 => some (v7 + v10, w9)
set_option maxRecDepth 20000 in
theorem sX5_asDream_0  (x0 : Nat) (x1 : Int32) (w : eW) (r : Int32 × eW) (h : fX5_asDream_0 x0 x1 w = some r) : eBN l D cI cZ 4 yX5_asDream cX5_asDream 2 (some .int) 0 [(0, .ref x0), (1, .int x1)] [] w (some (.int r.1)) r.2 := by
  rw [fX5_asDream_0] at h
  intro p e s m args below meth c r0 A X
  refine ev_aload_n (pc := 0) X 0 dX5_asDream_0 rfl rfl ?_
  refine ev_dup (pc := 1) X dX5_asDream_1 rfl ?_
  obtain ⟨v1, hv1, h⟩ := eBi h
  refine ev_getL (pc := 2) X hcX5 (k := 2) (by decide) kfX5_7 dX5_asDream_2 hv1 ?_
  refine ev_ldc2 (pc := 5) X kjX5_50 dX5_asDream_5 ?_
  refine ev_ladd (pc := 8) X dX5_asDream_8 ?_
  obtain ⟨w2, hw2, h⟩ := eBi h
  refine ev_putL (pc := 9) X hcX5 (k := 2) (by decide) kfX5_7 rfl rfl dX5_asDream_9 hw2 ?_
  refine ev_aload_n (pc := 12) X 0 dX5_asDream_12 rfl rfl ?_
  obtain ⟨v3, hv3, h⟩ := eBi h
  refine ev_getR (pc := 13) X hcX5 (k := 1) (by decide) kfX5_17 dX5_asDream_13 hv3 ?_
  refine ev_aload_n (pc := 16) X 0 dX5_asDream_16 rfl rfl ?_
  obtain ⟨v4, hv4, h⟩ := eBi h
  refine ev_getR (pc := 17) X hcX5 (k := 0) (by decide) kfX5_13 dX5_asDream_17 hv4 ?_
  obtain ⟨w5, hc, h⟩ := eBi h
  refine ev_callV_v (pc := 20) (As := [.ref v4]) (S := []) X hwX6_lay klX5_52 hiX6_lay hsX6_lay (ci := 6) ⟨rfl, rfl⟩ ⟨Nat.le_of_ble_eq_true rfl, Nat.le_of_ble_eq_true rfl⟩ ⟨Nat.le_refl _, Nat.le_refl _⟩ rfl (Nat.le_of_ble_eq_true rfl) dX5_asDream_20 rfl (mX6_lay (l := l) (D := D) (cI := cI) (cZ := cZ) hc).1 (mX6_lay hc).2 ?_
  refine ev_aload_n (pc := 23) X 0 dX5_asDream_23 rfl rfl ?_
  refine ev_iload_n (pc := 24) X 1 dX5_asDream_24 rfl rfl ?_
  obtain ⟨v7, w6, hc, h⟩ := eB2 h
  refine ev_callV_i (pc := 25) (As := [.int x1]) (S := []) X hwX5_asBolt klX5_29 hiX5_asBolt hsX5_asBolt (ci := 5) ⟨rfl, rfl⟩ ⟨Nat.le_of_ble_eq_true rfl, Nat.le_of_ble_eq_true rfl⟩ ⟨Nat.le_refl _, Nat.le_refl _⟩ rfl (Nat.le_of_ble_eq_true rfl) dX5_asDream_25 rfl (mX5_asBolt (l := l) (D := D) (cI := cI) (cZ := cZ) hc).1 (mX5_asBolt hc).2 ?_
  refine ev_aload_n (pc := 28) X 0 dX5_asDream_28 rfl rfl ?_
  obtain ⟨v8, hv8, h⟩ := eBi h
  refine ev_getR (pc := 29) X hcX5 (k := 1) (by decide) kfX5_17 dX5_asDream_29 hv8 ?_
  obtain ⟨v10, w9, hc, h⟩ := eB2 h
  refine ev_callV_i (pc := 32) (As := []) (S := [.int v7]) X hwX6_pieces klX5_58 hiX6_pieces hsX6_pieces (ci := 6) ⟨rfl, rfl⟩ ⟨Nat.le_of_ble_eq_true rfl, Nat.le_of_ble_eq_true rfl⟩ ⟨Nat.le_refl _, Nat.le_refl _⟩ rfl (Nat.le_of_ble_eq_true rfl) dX5_asDream_32 rfl (mX6_pieces (l := l) (D := D) (cI := cI) (cZ := cZ) hc).1 (mX6_pieces hc).2 ?_
  refine ev_iadd (pc := 35) X dX5_asDream_35 ?_
  obtain rfl := Option.some.inj h
  exact ev_iret (pc := 36) X dX5_asDream_36
def fX5_asDream (a0 : Nat) (a1 : Int32) (w : eW) : Option (Int32 × eW) := bif eO w a0 5 then fX5_asDream_0 a0 a1 w else none
theorem mX5_asDream {a0 : Nat} {a1 : Int32} {w : eW} {v : Int32} {w' : eW} (h : fX5_asDream a0 a1 w = some (v, w')) : eO w a0 5 = true ∧ eMN l D cI cZ 4 yX5_asDream cX5_asDream 2 (some .int) [.ref a0, .int a1] w (some (.int v)) w' := by
  obtain ⟨h0, h⟩ := eBif h
  exact ⟨h0, eMN_of [(0, .ref a0), (1, .int a1)] (plainFor_of_name (by decide)) (fun _ => rfl) (fun _ => Nat.le_of_ble_eq_true rfl) (fun p e s m args below meth c r0 A X => ev_weak (pc := 0) [0, 1] rfl (sX5_asDream_0 _ _ _ _ h p e s m args below meth c r0 A X))⟩
theorem dX6_layWhereSlope_0 : decode cX6_layWhereSlope 0 = .ok (.aload_n 0, 1) := by decide +kernel
theorem dX6_layWhereSlope_1 : decode cX6_layWhereSlope 1 = .ok (.iconst 0, 1) := by decide +kernel
theorem dX6_layWhereSlope_2 : decode cX6_layWhereSlope 2 = .ok (.putfield 9, 3) := by decide +kernel
theorem dX6_layWhereSlope_5 : decode cX6_layWhereSlope 5 = .ok (.aload_n 0, 1) := by decide +kernel
theorem dX6_layWhereSlope_6 : decode cX6_layWhereSlope 6 = .ok (.iconst 0, 1) := by decide +kernel
theorem dX6_layWhereSlope_7 : decode cX6_layWhereSlope 7 = .ok (.putfield 15, 3) := by decide +kernel
theorem dX6_layWhereSlope_10 : decode cX6_layWhereSlope 10 = .ok (.iconst 0, 1) := by decide +kernel
theorem dX6_layWhereSlope_11 : decode cX6_layWhereSlope 11 = .ok (.istore_n 2, 1) := by decide +kernel
theorem dX6_layWhereSlope_12 : decode cX6_layWhereSlope 12 = .ok (.iload_n 2, 1) := by decide +kernel
theorem dX6_layWhereSlope_13 : decode cX6_layWhereSlope 13 = .ok (.aload_n 0, 1) := by decide +kernel
theorem dX6_layWhereSlope_14 : decode cX6_layWhereSlope 14 = .ok (.getfield 18, 3) := by decide +kernel
theorem dX6_layWhereSlope_17 : decode cX6_layWhereSlope 17 = .ok (.invokevirtual 56, 3) := by decide +kernel
theorem dX6_layWhereSlope_20 : decode cX6_layWhereSlope 20 = .ok (.if_icmp .ge 63, 3) := by decide +kernel
theorem dX6_layWhereSlope_23 : decode cX6_layWhereSlope 23 = .ok (.iconst 1, 1) := by decide +kernel
theorem dX6_layWhereSlope_24 : decode cX6_layWhereSlope 24 = .ok (.istore_n 3, 1) := by decide +kernel
theorem dX6_layWhereSlope_25 : decode cX6_layWhereSlope 25 = .ok (.iload_n 3, 1) := by decide +kernel
theorem dX6_layWhereSlope_26 : decode cX6_layWhereSlope 26 = .ok (.iconst 2, 1) := by decide +kernel
theorem dX6_layWhereSlope_27 : decode cX6_layWhereSlope 27 = .ok (.if_icmp .gt 50, 3) := by decide +kernel
theorem dX6_layWhereSlope_30 : decode cX6_layWhereSlope 30 = .ok (.aload_n 0, 1) := by decide +kernel
theorem dX6_layWhereSlope_31 : decode cX6_layWhereSlope 31 = .ok (.getfield 18, 3) := by decide +kernel
theorem dX6_layWhereSlope_34 : decode cX6_layWhereSlope 34 = .ok (.iload_n 2, 1) := by decide +kernel
theorem dX6_layWhereSlope_35 : decode cX6_layWhereSlope 35 = .ok (.iload_n 3, 1) := by decide +kernel
theorem dX6_layWhereSlope_36 : decode cX6_layWhereSlope 36 = .ok (.invokevirtual 39, 3) := by decide +kernel
theorem dX6_layWhereSlope_39 : decode cX6_layWhereSlope 39 = .ok (.istore 4, 2) := by decide +kernel
theorem dX6_layWhereSlope_41 : decode cX6_layWhereSlope 41 = .ok (.iload 4, 2) := by decide +kernel
theorem dX6_layWhereSlope_43 : decode cX6_layWhereSlope 43 = .ok (.iconst (-1), 1) := by decide +kernel
theorem dX6_layWhereSlope_44 : decode cX6_layWhereSlope 44 = .ok (.if_icmp .eq 27, 3) := by decide +kernel
theorem dX6_layWhereSlope_47 : decode cX6_layWhereSlope 47 = .ok (.aload_n 0, 1) := by decide +kernel
theorem dX6_layWhereSlope_48 : decode cX6_layWhereSlope 48 = .ok (.getfield 18, 3) := by decide +kernel
theorem dX6_layWhereSlope_51 : decode cX6_layWhereSlope 51 = .ok (.iload_n 2, 1) := by decide +kernel
theorem dX6_layWhereSlope_52 : decode cX6_layWhereSlope 52 = .ok (.iload 4, 2) := by decide +kernel
theorem dX6_layWhereSlope_54 : decode cX6_layWhereSlope 54 = .ok (.invokevirtual 59, 3) := by decide +kernel
theorem dX6_layWhereSlope_57 : decode cX6_layWhereSlope 57 = .ok (.invokestatic 62, 3) := by decide +kernel
theorem dX6_layWhereSlope_60 : decode cX6_layWhereSlope 60 = .ok (.iload_n 1, 1) := by decide +kernel
theorem dX6_layWhereSlope_61 : decode cX6_layWhereSlope 61 = .ok (.if_icmp .gt 10, 3) := by decide +kernel
theorem dX6_layWhereSlope_64 : decode cX6_layWhereSlope 64 = .ok (.aload_n 0, 1) := by decide +kernel
theorem dX6_layWhereSlope_65 : decode cX6_layWhereSlope 65 = .ok (.iload_n 2, 1) := by decide +kernel
theorem dX6_layWhereSlope_66 : decode cX6_layWhereSlope 66 = .ok (.iload 4, 2) := by decide +kernel
theorem dX6_layWhereSlope_68 : decode cX6_layWhereSlope 68 = .ok (.invokevirtual 52, 3) := by decide +kernel
theorem dX6_layWhereSlope_71 : decode cX6_layWhereSlope 71 = .ok (.iinc 3 1, 3) := by decide +kernel
theorem dX6_layWhereSlope_74 : decode cX6_layWhereSlope 74 = .ok (.goto (-49), 3) := by decide +kernel
theorem dX6_layWhereSlope_77 : decode cX6_layWhereSlope 77 = .ok (.iinc 2 1, 3) := by decide +kernel
theorem dX6_layWhereSlope_80 : decode cX6_layWhereSlope 80 = .ok (.goto (-68), 3) := by decide +kernel
theorem dX6_layWhereSlope_83 : decode cX6_layWhereSlope 83 = .ok (.return_, 1) := by decide +kernel
def fX6_layWhereSlope_71 (K12 : Nat → Int32 → Int32 → eW → Option (eW)) (K25 : Nat → Int32 → Int32 → Int32 → eW → Option (eW)) (x0 : Nat) (x1 : Int32) (x2 : Int32) (x3 : Int32) (w : eW) : Option (eW) := K25 x0 x1 x2 (x3 + (1 : Int32)) w
set_option maxRecDepth 20000 in
theorem sX6_layWhereSlope_71 {K12 : Nat → Int32 → Int32 → eW → Option (eW)} {K25 : Nat → Int32 → Int32 → Int32 → eW → Option (eW)} (hK12 : ∀ (x0 : Nat) (x1 : Int32) (x2 : Int32) (w : eW) (r : eW), K12 x0 x1 x2 w = some r → eBN l D cI cZ 2 yX6_layWhereSlope cX6_layWhereSlope 5 none 12 [(0, .ref x0), (1, .int x1), (2, .int x2)] [] w none r) (hK25 : ∀ (x0 : Nat) (x1 : Int32) (x2 : Int32) (x3 : Int32) (w : eW) (r : eW), K25 x0 x1 x2 x3 w = some r → eBN l D cI cZ 2 yX6_layWhereSlope cX6_layWhereSlope 5 none 25 [(0, .ref x0), (1, .int x1), (2, .int x2), (3, .int x3)] [] w none r) (x0 : Nat) (x1 : Int32) (x2 : Int32) (x3 : Int32) (w : eW) (r : eW) (h : fX6_layWhereSlope_71 K12 K25 x0 x1 x2 x3 w = some r) : eBN l D cI cZ 2 yX6_layWhereSlope cX6_layWhereSlope 5 none 71 [(0, .ref x0), (1, .int x1), (2, .int x2), (3, .int x3)] [] w none r := by
  rw [fX6_layWhereSlope_71] at h
  intro p e s m args below meth c r0 A X
  refine ev_iinc (pc := 71) (v := x3 + (1 : Int32)) (L' := [(3, .int (x3 + (1 : Int32))), (0, .ref x0), (1, .int x1), (2, .int x2)]) X 3 dX6_layWhereSlope_71 rfl rfl (by decide) rfl ?_
  refine ev_goto (pc := 74) X 25 dX6_layWhereSlope_74 rfl ?_
  exact ev_weak (pc := 25) [1, 2, 3, 0] rfl (hK25 _ _ _ _ _ _ h p e s m args below meth c r0 A X)
def fX6_layWhereSlope_25 (K12 : Nat → Int32 → Int32 → eW → Option (eW)) : Nat → Nat → Int32 → Int32 → Int32 → eW → Option (eW)
  | 0, _, _, _, _, _ => none
  | n + 1, x0, x1, x2, x3, w => if (2 : Int32) < x3 then (K12 x0 x1 (x2 + (1 : Int32)) w) else ((eGR w x0 6 0).bind fun v1 => eBind2 (fX1_neighbour v1 x2 x3 w) fun v3 w2 => if v3 = (-1 : Int32) then (fX6_layWhereSlope_71 K12 (fX6_layWhereSlope_25 K12 n) x0 x1 x2 x3 w2) else ((eGR w2 x0 6 0).bind fun v4 => eBind2 (fX1_step v4 x2 v3 w2) fun v6 w5 => eBind2 (fJ9_abs_0f7a4 v6 w5) fun v8 w7 => if x1 < v8 then (fX6_layWhereSlope_71 K12 (fX6_layWhereSlope_25 K12 n) x0 x1 x2 x3 w7) else ((fX6_layBetween x0 x2 v3 w7).bind fun w9 => fX6_layWhereSlope_71 K12 (fX6_layWhereSlope_25 K12 n) x0 x1 x2 x3 w9)))
set_option maxRecDepth 20000 in
theorem sX6_layWhereSlope_25 {K12 : Nat → Int32 → Int32 → eW → Option (eW)} (hK12 : ∀ (x0 : Nat) (x1 : Int32) (x2 : Int32) (w : eW) (r : eW), K12 x0 x1 x2 w = some r → eBN l D cI cZ 2 yX6_layWhereSlope cX6_layWhereSlope 5 none 12 [(0, .ref x0), (1, .int x1), (2, .int x2)] [] w none r) : ∀ (n : Nat) (x0 : Nat) (x1 : Int32) (x2 : Int32) (x3 : Int32) (w : eW) (r : eW), fX6_layWhereSlope_25 K12 n x0 x1 x2 x3 w = some r → eBN l D cI cZ 2 yX6_layWhereSlope cX6_layWhereSlope 5 none 25 [(0, .ref x0), (1, .int x1), (2, .int x2), (3, .int x3)] [] w none r := by
  intro n
  induction n with
  | zero => intro x0 x1 x2 x3 w r h; exact absurd (show (none : Option (eW)) = some r from h) (by simp)
  | succ n ih =>
    intro x0 x1 x2 x3 w r h
    rw [fX6_layWhereSlope_25] at h
    intro p e s m args below meth c r0 A X
    refine ev_iload_n (pc := 25) X 3 dX6_layWhereSlope_25 rfl rfl ?_
    refine ev_iconst (pc := 26) (v := (2 : Int32)) X dX6_layWhereSlope_26 rfl ?_
    refine ev_icmp_gt (pc := 27) X 77 dX6_layWhereSlope_27 rfl (fun hc => ?_) (fun hc => ?_)
    · rw [if_pos hc] at h
      refine ev_iinc (pc := 77) (v := x2 + (1 : Int32)) (L' := [(2, .int (x2 + (1 : Int32))), (0, .ref x0), (1, .int x1), (3, .int x3)]) X 2 dX6_layWhereSlope_77 rfl rfl (by decide) rfl ?_
      refine ev_goto (pc := 80) X 12 dX6_layWhereSlope_80 rfl ?_
      exact ev_weak (pc := 12) [1, 2, 0] rfl (hK12 _ _ _ _ _ h p e s m args below meth c r0 A X)
    · rw [if_neg hc] at h
      refine ev_aload_n (pc := 30) X 0 dX6_layWhereSlope_30 rfl rfl ?_
      obtain ⟨v1, hv1, h⟩ := eBi h
      refine ev_getR (pc := 31) X hcX6 (k := 0) (by decide) kfX6_18 dX6_layWhereSlope_31 hv1 ?_
      refine ev_iload_n (pc := 34) X 2 dX6_layWhereSlope_34 rfl rfl ?_
      refine ev_iload_n (pc := 35) X 3 dX6_layWhereSlope_35 rfl rfl ?_
      obtain ⟨v3, w2, hc, h⟩ := eB2 h
      refine ev_callV_i (pc := 36) (As := [.int x2, .int x3]) (S := []) X hwX1_neighbour klX6_39 hiX1_neighbour hsX1_neighbour (ci := 1) ⟨rfl, rfl⟩ ⟨Nat.le_of_ble_eq_true rfl, Nat.le_of_ble_eq_true rfl⟩ ⟨Nat.le_refl _, Nat.le_refl _⟩ rfl (Nat.le_of_ble_eq_true rfl) dX6_layWhereSlope_36 rfl (mX1_neighbour (l := l) (D := D) (cI := cI) (cZ := cZ) hc).1 (mX1_neighbour hc).2 ?_
      refine ev_istore (pc := 39) (L' := [(4, .int v3), (0, .ref x0), (1, .int x1), (2, .int x2), (3, .int x3)]) X dX6_layWhereSlope_39 (by decide) rfl ?_
      refine ev_iload (pc := 41) X 0 dX6_layWhereSlope_41 rfl ?_
      refine ev_iconst (pc := 43) (v := (-1 : Int32)) X dX6_layWhereSlope_43 rfl ?_
      refine ev_icmp_eq (pc := 44) X 71 dX6_layWhereSlope_44 rfl (fun hc => ?_) (fun hc => ?_)
      · rw [if_pos hc] at h
        exact ev_weak (pc := 71) [1, 2, 3, 4] rfl (sX6_layWhereSlope_71 hK12 (fun _ _ _ _ w r hh => ih _ _ _ _ w r hh) _ _ _ _ _ _ h p e s m args below meth c r0 A X)
      · rw [if_neg hc] at h
        refine ev_aload_n (pc := 47) X 1 dX6_layWhereSlope_47 rfl rfl ?_
        obtain ⟨v4, hv4, h⟩ := eBi h
        refine ev_getR (pc := 48) X hcX6 (k := 0) (by decide) kfX6_18 dX6_layWhereSlope_48 hv4 ?_
        refine ev_iload_n (pc := 51) X 3 dX6_layWhereSlope_51 rfl rfl ?_
        refine ev_iload (pc := 52) X 0 dX6_layWhereSlope_52 rfl ?_
        obtain ⟨v6, w5, hc, h⟩ := eB2 h
        refine ev_callV_i (pc := 54) (As := [.int x2, .int v3]) (S := []) X hwX1_step klX6_59 hiX1_step hsX1_step (ci := 1) ⟨rfl, rfl⟩ ⟨Nat.le_of_ble_eq_true rfl, Nat.le_of_ble_eq_true rfl⟩ ⟨Nat.le_refl _, Nat.le_refl _⟩ rfl (Nat.le_of_ble_eq_true rfl) dX6_layWhereSlope_54 rfl (mX1_step (l := l) (D := D) (cI := cI) (cZ := cZ) hc).1 (mX1_step hc).2 ?_
        obtain ⟨v8, w7, hc, h⟩ := eB2 h
        refine ev_callS_i (pc := 57) (As := [.int v6]) (S := []) X hwJ9_abs_0f7a4 klX6_62 htJ9_abs_0f7a4 ⟨Nat.le_of_ble_eq_true rfl, Nat.le_of_ble_eq_true rfl⟩ ⟨Nat.le_refl _, Nat.le_refl _⟩ rfl (Nat.le_of_ble_eq_true rfl) dX6_layWhereSlope_57 rfl (mJ9_abs_0f7a4 hc) ?_
        refine ev_iload_n (pc := 60) X 2 dX6_layWhereSlope_60 rfl rfl ?_
        refine ev_icmp_gt (pc := 61) X 71 dX6_layWhereSlope_61 rfl (fun hc => ?_) (fun hc => ?_)
        · rw [if_pos hc] at h
          exact ev_weak (pc := 71) [1, 2, 3, 4] rfl (sX6_layWhereSlope_71 hK12 (fun _ _ _ _ w r hh => ih _ _ _ _ w r hh) _ _ _ _ _ _ h p e s m args below meth c r0 A X)
        · rw [if_neg hc] at h
          refine ev_aload_n (pc := 64) X 1 dX6_layWhereSlope_64 rfl rfl ?_
          refine ev_iload_n (pc := 65) X 3 dX6_layWhereSlope_65 rfl rfl ?_
          refine ev_iload (pc := 66) X 0 dX6_layWhereSlope_66 rfl ?_
          obtain ⟨w9, hc, h⟩ := eBi h
          refine ev_callV_v (pc := 68) (As := [.int x2, .int v3]) (S := []) X hwX6_layBetween klX6_52 hiX6_layBetween hsX6_layBetween (ci := 6) ⟨rfl, rfl⟩ ⟨Nat.le_of_ble_eq_true rfl, Nat.le_of_ble_eq_true rfl⟩ ⟨Nat.le_refl _, Nat.le_refl _⟩ rfl (Nat.le_of_ble_eq_true rfl) dX6_layWhereSlope_68 rfl (mX6_layBetween (l := l) (D := D) (cI := cI) (cZ := cZ) hc).1 (mX6_layBetween hc).2 ?_
          exact ev_weak (pc := 71) [1, 2, 3, 4] rfl (sX6_layWhereSlope_71 hK12 (fun _ _ _ _ w r hh => ih _ _ _ _ w r hh) _ _ _ _ _ _ h p e s m args below meth c r0 A X)
def fX6_layWhereSlope_12 : Nat → Nat → Int32 → Int32 → eW → Option (eW)
  | 0, _, _, _, _ => none
  | n + 1, x0, x1, x2, w => (eGR w x0 6 0).bind fun v1 => eBind2 (fX1_cells v1 w) fun v3 w2 => if v3 ≤ x2 then (some w2) else (fX6_layWhereSlope_25 (fX6_layWhereSlope_12 n) eN x0 x1 x2 (1 : Int32) w2)
set_option maxRecDepth 20000 in
theorem sX6_layWhereSlope_12  : ∀ (n : Nat) (x0 : Nat) (x1 : Int32) (x2 : Int32) (w : eW) (r : eW), fX6_layWhereSlope_12 n x0 x1 x2 w = some r → eBN l D cI cZ 2 yX6_layWhereSlope cX6_layWhereSlope 5 none 12 [(0, .ref x0), (1, .int x1), (2, .int x2)] [] w none r := by
  intro n
  induction n with
  | zero => intro x0 x1 x2 w r h; exact absurd (show (none : Option (eW)) = some r from h) (by simp)
  | succ n ih =>
    intro x0 x1 x2 w r h
    rw [fX6_layWhereSlope_12] at h
    intro p e s m args below meth c r0 A X
    refine ev_iload_n (pc := 12) X 2 dX6_layWhereSlope_12 rfl rfl ?_
    refine ev_aload_n (pc := 13) X 0 dX6_layWhereSlope_13 rfl rfl ?_
    obtain ⟨v1, hv1, h⟩ := eBi h
    refine ev_getR (pc := 14) X hcX6 (k := 0) (by decide) kfX6_18 dX6_layWhereSlope_14 hv1 ?_
    obtain ⟨v3, w2, hc, h⟩ := eB2 h
    refine ev_callV_i (pc := 17) (As := []) (S := [.int x2]) X hwX1_cells klX6_56 hiX1_cells hsX1_cells (ci := 1) ⟨rfl, rfl⟩ ⟨Nat.le_of_ble_eq_true rfl, Nat.le_of_ble_eq_true rfl⟩ ⟨Nat.le_refl _, Nat.le_refl _⟩ rfl (Nat.le_of_ble_eq_true rfl) dX6_layWhereSlope_17 rfl (mX1_cells (l := l) (D := D) (cI := cI) (cZ := cZ) hc).1 (mX1_cells hc).2 ?_
    refine ev_icmp_ge (pc := 20) X 83 dX6_layWhereSlope_20 rfl (fun hc => ?_) (fun hc => ?_)
    · rw [if_pos hc] at h
      obtain rfl := Option.some.inj h
      exact ev_vret (pc := 83) X dX6_layWhereSlope_83
    · rw [if_neg hc] at h
      refine ev_iconst (pc := 23) (v := (1 : Int32)) X dX6_layWhereSlope_23 rfl ?_
      refine ev_istore_n (pc := 24) (L' := [(3, .int (1 : Int32)), (0, .ref x0), (1, .int x1), (2, .int x2)]) X dX6_layWhereSlope_24 rfl (by decide) rfl ?_
      exact ev_weak (pc := 25) [1, 2, 3, 0] rfl (sX6_layWhereSlope_25 (fun _ _ _ w r hh => ih _ _ _ w r hh) eN _ _ _ _ _ _ h p e s m args below meth c r0 A X)
def fX6_layWhereSlope_0 (x0 : Nat) (x1 : Int32) (w : eW) : Option (eW) := (eP w x0 6 1 (.int (0 : Int32))).bind fun w1 => (eP w1 x0 6 2 (.int (0 : Int32))).bind fun w2 => fX6_layWhereSlope_12 eN x0 x1 (0 : Int32) w2
set_option maxRecDepth 20000 in
theorem sX6_layWhereSlope_0  (x0 : Nat) (x1 : Int32) (w : eW) (r : eW) (h : fX6_layWhereSlope_0 x0 x1 w = some r) : eBN l D cI cZ 2 yX6_layWhereSlope cX6_layWhereSlope 5 none 0 [(0, .ref x0), (1, .int x1)] [] w none r := by
  rw [fX6_layWhereSlope_0] at h
  intro p e s m args below meth c r0 A X
  refine ev_aload_n (pc := 0) X 0 dX6_layWhereSlope_0 rfl rfl ?_
  refine ev_iconst (pc := 1) (v := (0 : Int32)) X dX6_layWhereSlope_1 rfl ?_
  obtain ⟨w1, hw1, h⟩ := eBi h
  refine ev_putI (pc := 2) X hcX6 (k := 1) (by decide) kfX6_9 rfl rfl dX6_layWhereSlope_2 hw1 ?_
  refine ev_aload_n (pc := 5) X 0 dX6_layWhereSlope_5 rfl rfl ?_
  refine ev_iconst (pc := 6) (v := (0 : Int32)) X dX6_layWhereSlope_6 rfl ?_
  obtain ⟨w2, hw2, h⟩ := eBi h
  refine ev_putI (pc := 7) X hcX6 (k := 2) (by decide) kfX6_15 rfl rfl dX6_layWhereSlope_7 hw2 ?_
  refine ev_iconst (pc := 10) (v := (0 : Int32)) X dX6_layWhereSlope_10 rfl ?_
  refine ev_istore_n (pc := 11) (L' := [(2, .int (0 : Int32)), (0, .ref x0), (1, .int x1)]) X dX6_layWhereSlope_11 rfl (by decide) rfl ?_
  exact ev_weak (pc := 12) [1, 2, 0] rfl (sX6_layWhereSlope_12 eN _ _ _ _ _ h p e s m args below meth c r0 A X)
def fX6_layWhereSlope (a0 : Nat) (a1 : Int32) (w : eW) : Option (eW) := bif eO w a0 6 then fX6_layWhereSlope_0 a0 a1 w else none
theorem mX6_layWhereSlope {a0 : Nat} {a1 : Int32} {w : eW} {w' : eW} (h : fX6_layWhereSlope a0 a1 w = some w') : eO w a0 6 = true ∧ eMN l D cI cZ 2 yX6_layWhereSlope cX6_layWhereSlope 5 none [.ref a0, .int a1] w none w' := by
  obtain ⟨h0, h⟩ := eBif h
  exact ⟨h0, eMN_of [(0, .ref a0), (1, .int a1)] (plainFor_of_name (by decide)) (fun _ => rfl) (fun _ => Nat.le_of_ble_eq_true rfl) (fun p e s m args below meth c r0 A X => ev_weak (pc := 0) [0, 1] rfl (sX6_layWhereSlope_0 _ _ _ _ h p e s m args below meth c r0 A X))⟩
theorem dX6_goes_0 : decode cX6_goes 0 = .ok (.iload_n 2, 1) := by decide +kernel
theorem dX6_goes_1 : decode cX6_goes 1 = .ok (.tableswitch 128 0 3 #[31, 68, 86, 104], 31) := by decide +kernel
theorem dX6_goes_32 : decode cX6_goes 32 = .ok (.iload_n 1, 1) := by decide +kernel
theorem dX6_goes_33 : decode cX6_goes 33 = .ok (.aload_n 0, 1) := by decide +kernel
theorem dX6_goes_34 : decode cX6_goes 34 = .ok (.getfield 18, 3) := by decide +kernel
theorem dX6_goes_37 : decode cX6_goes 37 = .ok (.invokevirtual 68, 3) := by decide +kernel
theorem dX6_goes_40 : decode cX6_goes 40 = .ok (.if_icmp .lt 27, 3) := by decide +kernel
theorem dX6_goes_43 : decode cX6_goes 43 = .ok (.aload_n 0, 1) := by decide +kernel
theorem dX6_goes_44 : decode cX6_goes 44 = .ok (.getfield 15, 3) := by decide +kernel
theorem dX6_goes_47 : decode cX6_goes 47 = .ok (.iload_n 1, 1) := by decide +kernel
theorem dX6_goes_48 : decode cX6_goes 48 = .ok (.aload_n 0, 1) := by decide +kernel
theorem dX6_goes_49 : decode cX6_goes 49 = .ok (.getfield 18, 3) := by decide +kernel
theorem dX6_goes_52 : decode cX6_goes 52 = .ok (.invokevirtual 68, 3) := by decide +kernel
theorem dX6_goes_55 : decode cX6_goes 55 = .ok (.isub, 1) := by decide +kernel
theorem dX6_goes_56 : decode cX6_goes 56 = .ok (.invokestatic 65, 3) := by decide +kernel
theorem dX6_goes_59 : decode cX6_goes 59 = .ok (.iand, 1) := by decide +kernel
theorem dX6_goes_60 : decode cX6_goes 60 = .ok (.ifCond .eq 7, 3) := by decide +kernel
theorem dX6_goes_63 : decode cX6_goes 63 = .ok (.iconst 1, 1) := by decide +kernel
theorem dX6_goes_64 : decode cX6_goes 64 = .ok (.goto 4, 3) := by decide +kernel
theorem dX6_goes_67 : decode cX6_goes 67 = .ok (.iconst 0, 1) := by decide +kernel
theorem dX6_goes_68 : decode cX6_goes 68 = .ok (.ireturn, 1) := by decide +kernel
theorem dX6_goes_69 : decode cX6_goes 69 = .ok (.aload_n 0, 1) := by decide +kernel
theorem dX6_goes_70 : decode cX6_goes 70 = .ok (.getfield 9, 3) := by decide +kernel
theorem dX6_goes_73 : decode cX6_goes 73 = .ok (.iload_n 1, 1) := by decide +kernel
theorem dX6_goes_74 : decode cX6_goes 74 = .ok (.invokestatic 65, 3) := by decide +kernel
theorem dX6_goes_77 : decode cX6_goes 77 = .ok (.iand, 1) := by decide +kernel
theorem dX6_goes_78 : decode cX6_goes 78 = .ok (.ifCond .eq 7, 3) := by decide +kernel
theorem dX6_goes_81 : decode cX6_goes 81 = .ok (.iconst 1, 1) := by decide +kernel
theorem dX6_goes_82 : decode cX6_goes 82 = .ok (.goto 4, 3) := by decide +kernel
theorem dX6_goes_85 : decode cX6_goes 85 = .ok (.iconst 0, 1) := by decide +kernel
theorem dX6_goes_86 : decode cX6_goes 86 = .ok (.ireturn, 1) := by decide +kernel
theorem dX6_goes_87 : decode cX6_goes 87 = .ok (.aload_n 0, 1) := by decide +kernel
theorem dX6_goes_88 : decode cX6_goes 88 = .ok (.getfield 15, 3) := by decide +kernel
theorem dX6_goes_91 : decode cX6_goes 91 = .ok (.iload_n 1, 1) := by decide +kernel
theorem dX6_goes_92 : decode cX6_goes 92 = .ok (.invokestatic 65, 3) := by decide +kernel
theorem dX6_goes_95 : decode cX6_goes 95 = .ok (.iand, 1) := by decide +kernel
theorem dX6_goes_96 : decode cX6_goes 96 = .ok (.ifCond .eq 7, 3) := by decide +kernel
theorem dX6_goes_99 : decode cX6_goes 99 = .ok (.iconst 1, 1) := by decide +kernel
theorem dX6_goes_100 : decode cX6_goes 100 = .ok (.goto 4, 3) := by decide +kernel
theorem dX6_goes_103 : decode cX6_goes 103 = .ok (.iconst 0, 1) := by decide +kernel
theorem dX6_goes_104 : decode cX6_goes 104 = .ok (.ireturn, 1) := by decide +kernel
theorem dX6_goes_105 : decode cX6_goes 105 = .ok (.iload_n 1, 1) := by decide +kernel
theorem dX6_goes_106 : decode cX6_goes 106 = .ok (.ifCond .le 21, 3) := by decide +kernel
theorem dX6_goes_109 : decode cX6_goes 109 = .ok (.aload_n 0, 1) := by decide +kernel
theorem dX6_goes_110 : decode cX6_goes 110 = .ok (.getfield 9, 3) := by decide +kernel
theorem dX6_goes_113 : decode cX6_goes 113 = .ok (.iload_n 1, 1) := by decide +kernel
theorem dX6_goes_114 : decode cX6_goes 114 = .ok (.iconst 1, 1) := by decide +kernel
theorem dX6_goes_115 : decode cX6_goes 115 = .ok (.isub, 1) := by decide +kernel
theorem dX6_goes_116 : decode cX6_goes 116 = .ok (.invokestatic 65, 3) := by decide +kernel
theorem dX6_goes_119 : decode cX6_goes 119 = .ok (.iand, 1) := by decide +kernel
theorem dX6_goes_120 : decode cX6_goes 120 = .ok (.ifCond .eq 7, 3) := by decide +kernel
theorem dX6_goes_123 : decode cX6_goes 123 = .ok (.iconst 1, 1) := by decide +kernel
theorem dX6_goes_124 : decode cX6_goes 124 = .ok (.goto 4, 3) := by decide +kernel
theorem dX6_goes_127 : decode cX6_goes 127 = .ok (.iconst 0, 1) := by decide +kernel
theorem dX6_goes_128 : decode cX6_goes 128 = .ok (.ireturn, 1) := by decide +kernel
theorem dX6_goes_129 : decode cX6_goes 129 = .ok (.iconst 0, 1) := by decide +kernel
theorem dX6_goes_130 : decode cX6_goes 130 = .ok (.ireturn, 1) := by decide +kernel
def fX6_goes_67  (w : eW) : Option (Int32 × eW) := (eZ (0 : Int32)).bind fun v1 => some (v1, w)
set_option maxRecDepth 20000 in
theorem sX6_goes_67   (w : eW) (r : Int32 × eW) (h : fX6_goes_67  w = some r) : eBN l D cI cZ 1 yX6_goes cX6_goes 3 (some .boolean) 67 [] [] w (some (.int r.1)) r.2 := by
  rw [fX6_goes_67] at h
  intro p e s m args below meth c r0 A X
  refine ev_iconst (pc := 67) (v := (0 : Int32)) X dX6_goes_67 rfl ?_
  obtain ⟨v1, hv1, h⟩ := eBi h
  obtain rfl := Option.some.inj h
  exact ev_zret (pc := 68) X dX6_goes_68 hv1
def fX6_goes_127  (w : eW) : Option (Int32 × eW) := (eZ (0 : Int32)).bind fun v1 => some (v1, w)
set_option maxRecDepth 20000 in
theorem sX6_goes_127   (w : eW) (r : Int32 × eW) (h : fX6_goes_127  w = some r) : eBN l D cI cZ 1 yX6_goes cX6_goes 3 (some .boolean) 127 [] [] w (some (.int r.1)) r.2 := by
  rw [fX6_goes_127] at h
  intro p e s m args below meth c r0 A X
  refine ev_iconst (pc := 127) (v := (0 : Int32)) X dX6_goes_127 rfl ?_
  obtain ⟨v1, hv1, h⟩ := eBi h
  obtain rfl := Option.some.inj h
  exact ev_zret (pc := 128) X dX6_goes_128 hv1
def fX6_goes_0 (x0 : Nat) (x1 : Int32) (x2 : Int32) (w : eW) : Option (Int32 × eW) := if x2 = (0 : Int32) then ((eGR w x0 6 0).bind fun v1 => eBind2 (fX1_wide v1 w) fun v3 w2 => if x1 < v3 then (fX6_goes_67 w2) else ((eGI w2 x0 6 2).bind fun v4 => (eGR w2 x0 6 0).bind fun v5 => eBind2 (fX1_wide v5 w2) fun v7 w6 => eBind2 (fX10_bit (x1 - v7) w6) fun v9 w8 => if (v4 &&& v9) = 0 then (fX6_goes_67 w8) else ((eZ (1 : Int32)).bind fun v10 => some (v10, w8)))) else (if x2 = (1 : Int32) then ((eGI w x0 6 1).bind fun v11 => eBind2 (fX10_bit x1 w) fun v13 w12 => if (v11 &&& v13) = 0 then ((eZ (0 : Int32)).bind fun v14 => some (v14, w12)) else ((eZ (1 : Int32)).bind fun v15 => some (v15, w12))) else (if x2 = (2 : Int32) then ((eGI w x0 6 2).bind fun v16 => eBind2 (fX10_bit x1 w) fun v18 w17 => if (v16 &&& v18) = 0 then ((eZ (0 : Int32)).bind fun v19 => some (v19, w17)) else ((eZ (1 : Int32)).bind fun v20 => some (v20, w17))) else (if x2 = (3 : Int32) then (if x1 ≤ 0 then (fX6_goes_127 w) else ((eGI w x0 6 1).bind fun v21 => eBind2 (fX10_bit (x1 - (1 : Int32)) w) fun v23 w22 => if (v21 &&& v23) = 0 then (fX6_goes_127 w22) else ((eZ (1 : Int32)).bind fun v24 => some (v24, w22)))) else ((eZ (0 : Int32)).bind fun v25 => some (v25, w)))))
set_option maxRecDepth 20000 in
theorem sX6_goes_0  (x0 : Nat) (x1 : Int32) (x2 : Int32) (w : eW) (r : Int32 × eW) (h : fX6_goes_0 x0 x1 x2 w = some r) : eBN l D cI cZ 1 yX6_goes cX6_goes 3 (some .boolean) 0 [(0, .ref x0), (1, .int x1), (2, .int x2)] [] w (some (.int r.1)) r.2 := by
  rw [fX6_goes_0] at h
  intro p e s m args below meth c r0 A X
  refine ev_iload_n (pc := 0) X 2 dX6_goes_0 rfl rfl ?_
  by_cases hq1_0 : x2 = (0 : Int32)
  · rw [if_pos hq1_0] at h
    refine ev_tableIn (pc := 1) X 32 dX6_goes_1 (by rw [hq1_0]; decide) (by rw [hq1_0]; decide) (by rw [hq1_0]; rfl) rfl ?_
    refine ev_iload_n (pc := 32) X 1 dX6_goes_32 rfl rfl ?_
    refine ev_aload_n (pc := 33) X 0 dX6_goes_33 rfl rfl ?_
    obtain ⟨v1, hv1, h⟩ := eBi h
    refine ev_getR (pc := 34) X hcX6 (k := 0) (by decide) kfX6_18 dX6_goes_34 hv1 ?_
    obtain ⟨v3, w2, hc, h⟩ := eB2 h
    refine ev_callV_i (pc := 37) (As := []) (S := [.int x1]) X hwX1_wide klX6_68 hiX1_wide hsX1_wide (ci := 1) ⟨rfl, rfl⟩ ⟨Nat.le_of_ble_eq_true rfl, Nat.le_of_ble_eq_true rfl⟩ ⟨Nat.le_refl _, Nat.le_refl _⟩ rfl (Nat.le_of_ble_eq_true rfl) dX6_goes_37 rfl (mX1_wide (l := l) (D := D) (cI := cI) (cZ := cZ) hc).1 (mX1_wide hc).2 ?_
    refine ev_icmp_lt (pc := 40) X 67 dX6_goes_40 rfl (fun hc => ?_) (fun hc => ?_)
    · rw [if_pos hc] at h
      exact ev_weak (pc := 67) [] rfl (sX6_goes_67  _ _ h p e s m args below meth c r0 A X)
    · rw [if_neg hc] at h
      refine ev_aload_n (pc := 43) X 0 dX6_goes_43 rfl rfl ?_
      obtain ⟨v4, hv4, h⟩ := eBi h
      refine ev_getI (pc := 44) X hcX6 (k := 2) (by decide) kfX6_15 dX6_goes_44 hv4 ?_
      refine ev_iload_n (pc := 47) X 1 dX6_goes_47 rfl rfl ?_
      refine ev_aload_n (pc := 48) X 0 dX6_goes_48 rfl rfl ?_
      obtain ⟨v5, hv5, h⟩ := eBi h
      refine ev_getR (pc := 49) X hcX6 (k := 0) (by decide) kfX6_18 dX6_goes_49 hv5 ?_
      obtain ⟨v7, w6, hc, h⟩ := eB2 h
      refine ev_callV_i (pc := 52) (As := []) (S := [.int x1, .int v4]) X hwX1_wide klX6_68 hiX1_wide hsX1_wide (ci := 1) ⟨rfl, rfl⟩ ⟨Nat.le_of_ble_eq_true rfl, Nat.le_of_ble_eq_true rfl⟩ ⟨Nat.le_refl _, Nat.le_refl _⟩ rfl (Nat.le_of_ble_eq_true rfl) dX6_goes_52 rfl (mX1_wide (l := l) (D := D) (cI := cI) (cZ := cZ) hc).1 (mX1_wide hc).2 ?_
      refine ev_isub (pc := 55) X dX6_goes_55 ?_
      obtain ⟨v9, w8, hc, h⟩ := eB2 h
      refine ev_callSN_i (pc := 56) (As := [.int (x1 - v7)]) (S := [.int v4]) X hwX10_bit knX6_65 htX10_bit ⟨Nat.le_of_ble_eq_true rfl, Nat.le_of_ble_eq_true rfl⟩ ⟨Nat.le_refl _, Nat.le_refl _⟩ rfl (Nat.le_of_ble_eq_true rfl) dX6_goes_56 rfl (mX10_bit hc) ?_
      refine ev_iand (pc := 59) X dX6_goes_59 ?_
      refine ev_if_eq (pc := 60) X 67 dX6_goes_60 rfl (fun hc => ?_) (fun hc => ?_)
      · rw [if_pos hc] at h
        exact ev_weak (pc := 67) [] rfl (sX6_goes_67  _ _ h p e s m args below meth c r0 A X)
      · rw [if_neg hc] at h
        refine ev_iconst (pc := 63) (v := (1 : Int32)) X dX6_goes_63 rfl ?_
        refine ev_goto (pc := 64) X 68 dX6_goes_64 rfl ?_
        obtain ⟨v10, hv10, h⟩ := eBi h
        obtain rfl := Option.some.inj h
        exact ev_zret (pc := 68) X dX6_goes_68 hv10
  · rw [if_neg hq1_0] at h
    by_cases hq1_1 : x2 = (1 : Int32)
    · rw [if_pos hq1_1] at h
      refine ev_tableIn (pc := 1) X 69 dX6_goes_1 (by rw [hq1_1]; decide) (by rw [hq1_1]; decide) (by rw [hq1_1]; rfl) rfl ?_
      refine ev_aload_n (pc := 69) X 0 dX6_goes_69 rfl rfl ?_
      obtain ⟨v11, hv11, h⟩ := eBi h
      refine ev_getI (pc := 70) X hcX6 (k := 1) (by decide) kfX6_9 dX6_goes_70 hv11 ?_
      refine ev_iload_n (pc := 73) X 1 dX6_goes_73 rfl rfl ?_
      obtain ⟨v13, w12, hc, h⟩ := eB2 h
      refine ev_callSN_i (pc := 74) (As := [.int x1]) (S := [.int v11]) X hwX10_bit knX6_65 htX10_bit ⟨Nat.le_of_ble_eq_true rfl, Nat.le_of_ble_eq_true rfl⟩ ⟨Nat.le_refl _, Nat.le_refl _⟩ rfl (Nat.le_of_ble_eq_true rfl) dX6_goes_74 rfl (mX10_bit hc) ?_
      refine ev_iand (pc := 77) X dX6_goes_77 ?_
      refine ev_if_eq (pc := 78) X 85 dX6_goes_78 rfl (fun hc => ?_) (fun hc => ?_)
      · rw [if_pos hc] at h
        refine ev_iconst (pc := 85) (v := (0 : Int32)) X dX6_goes_85 rfl ?_
        obtain ⟨v14, hv14, h⟩ := eBi h
        obtain rfl := Option.some.inj h
        exact ev_zret (pc := 86) X dX6_goes_86 hv14
      · rw [if_neg hc] at h
        refine ev_iconst (pc := 81) (v := (1 : Int32)) X dX6_goes_81 rfl ?_
        refine ev_goto (pc := 82) X 86 dX6_goes_82 rfl ?_
        obtain ⟨v15, hv15, h⟩ := eBi h
        obtain rfl := Option.some.inj h
        exact ev_zret (pc := 86) X dX6_goes_86 hv15
    · rw [if_neg hq1_1] at h
      by_cases hq1_2 : x2 = (2 : Int32)
      · rw [if_pos hq1_2] at h
        refine ev_tableIn (pc := 1) X 87 dX6_goes_1 (by rw [hq1_2]; decide) (by rw [hq1_2]; decide) (by rw [hq1_2]; rfl) rfl ?_
        refine ev_aload_n (pc := 87) X 0 dX6_goes_87 rfl rfl ?_
        obtain ⟨v16, hv16, h⟩ := eBi h
        refine ev_getI (pc := 88) X hcX6 (k := 2) (by decide) kfX6_15 dX6_goes_88 hv16 ?_
        refine ev_iload_n (pc := 91) X 1 dX6_goes_91 rfl rfl ?_
        obtain ⟨v18, w17, hc, h⟩ := eB2 h
        refine ev_callSN_i (pc := 92) (As := [.int x1]) (S := [.int v16]) X hwX10_bit knX6_65 htX10_bit ⟨Nat.le_of_ble_eq_true rfl, Nat.le_of_ble_eq_true rfl⟩ ⟨Nat.le_refl _, Nat.le_refl _⟩ rfl (Nat.le_of_ble_eq_true rfl) dX6_goes_92 rfl (mX10_bit hc) ?_
        refine ev_iand (pc := 95) X dX6_goes_95 ?_
        refine ev_if_eq (pc := 96) X 103 dX6_goes_96 rfl (fun hc => ?_) (fun hc => ?_)
        · rw [if_pos hc] at h
          refine ev_iconst (pc := 103) (v := (0 : Int32)) X dX6_goes_103 rfl ?_
          obtain ⟨v19, hv19, h⟩ := eBi h
          obtain rfl := Option.some.inj h
          exact ev_zret (pc := 104) X dX6_goes_104 hv19
        · rw [if_neg hc] at h
          refine ev_iconst (pc := 99) (v := (1 : Int32)) X dX6_goes_99 rfl ?_
          refine ev_goto (pc := 100) X 104 dX6_goes_100 rfl ?_
          obtain ⟨v20, hv20, h⟩ := eBi h
          obtain rfl := Option.some.inj h
          exact ev_zret (pc := 104) X dX6_goes_104 hv20
      · rw [if_neg hq1_2] at h
        by_cases hq1_3 : x2 = (3 : Int32)
        · rw [if_pos hq1_3] at h
          refine ev_tableIn (pc := 1) X 105 dX6_goes_1 (by rw [hq1_3]; decide) (by rw [hq1_3]; decide) (by rw [hq1_3]; rfl) rfl ?_
          refine ev_iload_n (pc := 105) X 1 dX6_goes_105 rfl rfl ?_
          refine ev_if_le (pc := 106) X 127 dX6_goes_106 rfl (fun hc => ?_) (fun hc => ?_)
          · rw [if_pos hc] at h
            exact ev_weak (pc := 127) [] rfl (sX6_goes_127  _ _ h p e s m args below meth c r0 A X)
          · rw [if_neg hc] at h
            refine ev_aload_n (pc := 109) X 0 dX6_goes_109 rfl rfl ?_
            obtain ⟨v21, hv21, h⟩ := eBi h
            refine ev_getI (pc := 110) X hcX6 (k := 1) (by decide) kfX6_9 dX6_goes_110 hv21 ?_
            refine ev_iload_n (pc := 113) X 1 dX6_goes_113 rfl rfl ?_
            refine ev_iconst (pc := 114) (v := (1 : Int32)) X dX6_goes_114 rfl ?_
            refine ev_isub (pc := 115) X dX6_goes_115 ?_
            obtain ⟨v23, w22, hc, h⟩ := eB2 h
            refine ev_callSN_i (pc := 116) (As := [.int (x1 - (1 : Int32))]) (S := [.int v21]) X hwX10_bit knX6_65 htX10_bit ⟨Nat.le_of_ble_eq_true rfl, Nat.le_of_ble_eq_true rfl⟩ ⟨Nat.le_refl _, Nat.le_refl _⟩ rfl (Nat.le_of_ble_eq_true rfl) dX6_goes_116 rfl (mX10_bit hc) ?_
            refine ev_iand (pc := 119) X dX6_goes_119 ?_
            refine ev_if_eq (pc := 120) X 127 dX6_goes_120 rfl (fun hc => ?_) (fun hc => ?_)
            · rw [if_pos hc] at h
              exact ev_weak (pc := 127) [] rfl (sX6_goes_127  _ _ h p e s m args below meth c r0 A X)
            · rw [if_neg hc] at h
              refine ev_iconst (pc := 123) (v := (1 : Int32)) X dX6_goes_123 rfl ?_
              refine ev_goto (pc := 124) X 128 dX6_goes_124 rfl ?_
              obtain ⟨v24, hv24, h⟩ := eBi h
              obtain rfl := Option.some.inj h
              exact ev_zret (pc := 128) X dX6_goes_128 hv24
        · rw [if_neg hq1_3] at h
          refine ev_tableOut (pc := 1) X 129 dX6_goes_1 (by have a0 := lv_neT hq1_0 (a := 0) (by decide); have a1 := lv_neT hq1_1 (a := 1) (by decide); have a2 := lv_neT hq1_2 (a := 2) (by decide); have a3 := lv_neT hq1_3 (a := 3) (by decide); omega) rfl ?_
          refine ev_iconst (pc := 129) (v := (0 : Int32)) X dX6_goes_129 rfl ?_
          obtain ⟨v25, hv25, h⟩ := eBi h
          obtain rfl := Option.some.inj h
          exact ev_zret (pc := 130) X dX6_goes_130 hv25
def fX6_goes (a0 : Nat) (a1 : Int32) (a2 : Int32) (w : eW) : Option (Int32 × eW) := bif eO w a0 6 then fX6_goes_0 a0 a1 a2 w else none
theorem mX6_goes {a0 : Nat} {a1 : Int32} {a2 : Int32} {w : eW} {v : Int32} {w' : eW} (h : fX6_goes a0 a1 a2 w = some (v, w')) : eO w a0 6 = true ∧ eMN l D cI cZ 1 yX6_goes cX6_goes 3 (some .boolean) [.ref a0, .int a1, .int a2] w (some (.int v)) w' := by
  obtain ⟨h0, h⟩ := eBif h
  exact ⟨h0, eMN_of [(0, .ref a0), (1, .int a1), (2, .int a2)] (plainFor_of_name (by decide)) (fun _ => rfl) (fun _ => Nat.le_of_ble_eq_true rfl) (fun p e s m args below meth c r0 A X => ev_weak (pc := 0) [0, 1, 2] rfl (sX6_goes_0 _ _ _ _ _ h p e s m args below meth c r0 A X))⟩
theorem dX6_steepest_0 : decode cX6_steepest 0 = .ok (.bipush (-9), 2) := by decide +kernel
theorem dX6_steepest_2 : decode cX6_steepest 2 = .ok (.istore_n 1, 1) := by decide +kernel
theorem dX6_steepest_3 : decode cX6_steepest 3 = .ok (.iconst 0, 1) := by decide +kernel
theorem dX6_steepest_4 : decode cX6_steepest 4 = .ok (.istore_n 2, 1) := by decide +kernel
theorem dX6_steepest_5 : decode cX6_steepest 5 = .ok (.iload_n 2, 1) := by decide +kernel
theorem dX6_steepest_6 : decode cX6_steepest 6 = .ok (.aload_n 0, 1) := by decide +kernel
theorem dX6_steepest_7 : decode cX6_steepest 7 = .ok (.getfield 18, 3) := by decide +kernel
theorem dX6_steepest_10 : decode cX6_steepest 10 = .ok (.invokevirtual 56, 3) := by decide +kernel
theorem dX6_steepest_13 : decode cX6_steepest 13 = .ok (.if_icmp .ge 60, 3) := by decide +kernel
theorem dX6_steepest_16 : decode cX6_steepest 16 = .ok (.iconst 1, 1) := by decide +kernel
theorem dX6_steepest_17 : decode cX6_steepest 17 = .ok (.istore_n 3, 1) := by decide +kernel
theorem dX6_steepest_18 : decode cX6_steepest 18 = .ok (.iload_n 3, 1) := by decide +kernel
theorem dX6_steepest_19 : decode cX6_steepest 19 = .ok (.iconst 2, 1) := by decide +kernel
theorem dX6_steepest_20 : decode cX6_steepest 20 = .ok (.if_icmp .gt 47, 3) := by decide +kernel
theorem dX6_steepest_23 : decode cX6_steepest 23 = .ok (.aload_n 0, 1) := by decide +kernel
theorem dX6_steepest_24 : decode cX6_steepest 24 = .ok (.iload_n 2, 1) := by decide +kernel
theorem dX6_steepest_25 : decode cX6_steepest 25 = .ok (.iload_n 3, 1) := by decide +kernel
theorem dX6_steepest_26 : decode cX6_steepest 26 = .ok (.invokevirtual 83, 3) := by decide +kernel
theorem dX6_steepest_29 : decode cX6_steepest 29 = .ok (.ifCond .eq 32, 3) := by decide +kernel
theorem dX6_steepest_32 : decode cX6_steepest 32 = .ok (.aload_n 0, 1) := by decide +kernel
theorem dX6_steepest_33 : decode cX6_steepest 33 = .ok (.getfield 18, 3) := by decide +kernel
theorem dX6_steepest_36 : decode cX6_steepest 36 = .ok (.iload_n 2, 1) := by decide +kernel
theorem dX6_steepest_37 : decode cX6_steepest 37 = .ok (.aload_n 0, 1) := by decide +kernel
theorem dX6_steepest_38 : decode cX6_steepest 38 = .ok (.getfield 18, 3) := by decide +kernel
theorem dX6_steepest_41 : decode cX6_steepest 41 = .ok (.iload_n 2, 1) := by decide +kernel
theorem dX6_steepest_42 : decode cX6_steepest 42 = .ok (.iload_n 3, 1) := by decide +kernel
theorem dX6_steepest_43 : decode cX6_steepest 43 = .ok (.invokevirtual 39, 3) := by decide +kernel
theorem dX6_steepest_46 : decode cX6_steepest 46 = .ok (.invokevirtual 59, 3) := by decide +kernel
theorem dX6_steepest_49 : decode cX6_steepest 49 = .ok (.istore 4, 2) := by decide +kernel
theorem dX6_steepest_51 : decode cX6_steepest 51 = .ok (.iload_n 1, 1) := by decide +kernel
theorem dX6_steepest_52 : decode cX6_steepest 52 = .ok (.iload 4, 2) := by decide +kernel
theorem dX6_steepest_54 : decode cX6_steepest 54 = .ok (.invokestatic 62, 3) := by decide +kernel
theorem dX6_steepest_57 : decode cX6_steepest 57 = .ok (.invokestatic 49, 3) := by decide +kernel
theorem dX6_steepest_60 : decode cX6_steepest 60 = .ok (.istore_n 1, 1) := by decide +kernel
theorem dX6_steepest_61 : decode cX6_steepest 61 = .ok (.iinc 3 1, 3) := by decide +kernel
theorem dX6_steepest_64 : decode cX6_steepest 64 = .ok (.goto (-46), 3) := by decide +kernel
theorem dX6_steepest_67 : decode cX6_steepest 67 = .ok (.iinc 2 1, 3) := by decide +kernel
theorem dX6_steepest_70 : decode cX6_steepest 70 = .ok (.goto (-65), 3) := by decide +kernel
theorem dX6_steepest_73 : decode cX6_steepest 73 = .ok (.iload_n 1, 1) := by decide +kernel
theorem dX6_steepest_74 : decode cX6_steepest 74 = .ok (.ireturn, 1) := by decide +kernel
def fX6_steepest_61 (K5 : Nat → Int32 → Int32 → eW → Option (Int32 × eW)) (K18 : Nat → Int32 → Int32 → Int32 → eW → Option (Int32 × eW)) (x0 : Nat) (x1 : Int32) (x2 : Int32) (x3 : Int32) (w : eW) : Option (Int32 × eW) := K18 x0 x1 x2 (x3 + (1 : Int32)) w
set_option maxRecDepth 20000 in
theorem sX6_steepest_61 {K5 : Nat → Int32 → Int32 → eW → Option (Int32 × eW)} {K18 : Nat → Int32 → Int32 → Int32 → eW → Option (Int32 × eW)} (hK5 : ∀ (x0 : Nat) (x1 : Int32) (x2 : Int32) (w : eW) (r : Int32 × eW), K5 x0 x1 x2 w = some r → eBN l D cI cZ 2 yX6_steepest cX6_steepest 5 (some .int) 5 [(0, .ref x0), (1, .int x1), (2, .int x2)] [] w (some (.int r.1)) r.2) (hK18 : ∀ (x0 : Nat) (x1 : Int32) (x2 : Int32) (x3 : Int32) (w : eW) (r : Int32 × eW), K18 x0 x1 x2 x3 w = some r → eBN l D cI cZ 2 yX6_steepest cX6_steepest 5 (some .int) 18 [(0, .ref x0), (1, .int x1), (2, .int x2), (3, .int x3)] [] w (some (.int r.1)) r.2) (x0 : Nat) (x1 : Int32) (x2 : Int32) (x3 : Int32) (w : eW) (r : Int32 × eW) (h : fX6_steepest_61 K5 K18 x0 x1 x2 x3 w = some r) : eBN l D cI cZ 2 yX6_steepest cX6_steepest 5 (some .int) 61 [(0, .ref x0), (1, .int x1), (2, .int x2), (3, .int x3)] [] w (some (.int r.1)) r.2 := by
  rw [fX6_steepest_61] at h
  intro p e s m args below meth c r0 A X
  refine ev_iinc (pc := 61) (v := x3 + (1 : Int32)) (L' := [(3, .int (x3 + (1 : Int32))), (0, .ref x0), (1, .int x1), (2, .int x2)]) X 3 dX6_steepest_61 rfl rfl (by decide) rfl ?_
  refine ev_goto (pc := 64) X 18 dX6_steepest_64 rfl ?_
  exact ev_weak (pc := 18) [1, 2, 3, 0] rfl (hK18 _ _ _ _ _ _ h p e s m args below meth c r0 A X)
def fX6_steepest_18 (K5 : Nat → Int32 → Int32 → eW → Option (Int32 × eW)) : Nat → Nat → Int32 → Int32 → Int32 → eW → Option (Int32 × eW)
  | 0, _, _, _, _, _ => none
  | n + 1, x0, x1, x2, x3, w => if (2 : Int32) < x3 then (K5 x0 x1 (x2 + (1 : Int32)) w) else (eBind2 (fX6_goes x0 x2 x3 w) fun v2 w1 => if v2 = 0 then (fX6_steepest_61 K5 (fX6_steepest_18 K5 n) x0 x1 x2 x3 w1) else ((eGR w1 x0 6 0).bind fun v3 => (eGR w1 x0 6 0).bind fun v4 => eBind2 (fX1_neighbour v4 x2 x3 w1) fun v6 w5 => eBind2 (fX1_step v3 x2 v6 w5) fun v8 w7 => eBind2 (fJ9_abs_0f7a4 v8 w7) fun v10 w9 => eBind2 (fJ9_max_7cf53 x1 v10 w9) fun v12 w11 => fX6_steepest_61 K5 (fX6_steepest_18 K5 n) x0 v12 x2 x3 w11))
set_option maxRecDepth 20000 in
theorem sX6_steepest_18 {K5 : Nat → Int32 → Int32 → eW → Option (Int32 × eW)} (hK5 : ∀ (x0 : Nat) (x1 : Int32) (x2 : Int32) (w : eW) (r : Int32 × eW), K5 x0 x1 x2 w = some r → eBN l D cI cZ 2 yX6_steepest cX6_steepest 5 (some .int) 5 [(0, .ref x0), (1, .int x1), (2, .int x2)] [] w (some (.int r.1)) r.2) : ∀ (n : Nat) (x0 : Nat) (x1 : Int32) (x2 : Int32) (x3 : Int32) (w : eW) (r : Int32 × eW), fX6_steepest_18 K5 n x0 x1 x2 x3 w = some r → eBN l D cI cZ 2 yX6_steepest cX6_steepest 5 (some .int) 18 [(0, .ref x0), (1, .int x1), (2, .int x2), (3, .int x3)] [] w (some (.int r.1)) r.2 := by
  intro n
  induction n with
  | zero => intro x0 x1 x2 x3 w r h; exact absurd (show (none : Option (Int32 × eW)) = some r from h) (by simp)
  | succ n ih =>
    intro x0 x1 x2 x3 w r h
    rw [fX6_steepest_18] at h
    intro p e s m args below meth c r0 A X
    refine ev_iload_n (pc := 18) X 3 dX6_steepest_18 rfl rfl ?_
    refine ev_iconst (pc := 19) (v := (2 : Int32)) X dX6_steepest_19 rfl ?_
    refine ev_icmp_gt (pc := 20) X 67 dX6_steepest_20 rfl (fun hc => ?_) (fun hc => ?_)
    · rw [if_pos hc] at h
      refine ev_iinc (pc := 67) (v := x2 + (1 : Int32)) (L' := [(2, .int (x2 + (1 : Int32))), (0, .ref x0), (1, .int x1), (3, .int x3)]) X 2 dX6_steepest_67 rfl rfl (by decide) rfl ?_
      refine ev_goto (pc := 70) X 5 dX6_steepest_70 rfl ?_
      exact ev_weak (pc := 5) [1, 2, 0] rfl (hK5 _ _ _ _ _ h p e s m args below meth c r0 A X)
    · rw [if_neg hc] at h
      refine ev_aload_n (pc := 23) X 0 dX6_steepest_23 rfl rfl ?_
      refine ev_iload_n (pc := 24) X 2 dX6_steepest_24 rfl rfl ?_
      refine ev_iload_n (pc := 25) X 3 dX6_steepest_25 rfl rfl ?_
      obtain ⟨v2, w1, hc, h⟩ := eB2 h
      refine ev_callV_i (pc := 26) (As := [.int x2, .int x3]) (S := []) X hwX6_goes klX6_83 hiX6_goes hsX6_goes (ci := 6) ⟨rfl, rfl⟩ ⟨Nat.le_of_ble_eq_true rfl, Nat.le_of_ble_eq_true rfl⟩ ⟨Nat.le_refl _, Nat.le_refl _⟩ rfl (Nat.le_of_ble_eq_true rfl) dX6_steepest_26 rfl (mX6_goes (l := l) (D := D) (cI := cI) (cZ := cZ) hc).1 (mX6_goes hc).2 ?_
      refine ev_if_eq (pc := 29) X 61 dX6_steepest_29 rfl (fun hc => ?_) (fun hc => ?_)
      · rw [if_pos hc] at h
        exact ev_weak (pc := 61) [0, 1, 2, 3] rfl (sX6_steepest_61 hK5 (fun _ _ _ _ w r hh => ih _ _ _ _ w r hh) _ _ _ _ _ _ h p e s m args below meth c r0 A X)
      · rw [if_neg hc] at h
        refine ev_aload_n (pc := 32) X 0 dX6_steepest_32 rfl rfl ?_
        obtain ⟨v3, hv3, h⟩ := eBi h
        refine ev_getR (pc := 33) X hcX6 (k := 0) (by decide) kfX6_18 dX6_steepest_33 hv3 ?_
        refine ev_iload_n (pc := 36) X 2 dX6_steepest_36 rfl rfl ?_
        refine ev_aload_n (pc := 37) X 0 dX6_steepest_37 rfl rfl ?_
        obtain ⟨v4, hv4, h⟩ := eBi h
        refine ev_getR (pc := 38) X hcX6 (k := 0) (by decide) kfX6_18 dX6_steepest_38 hv4 ?_
        refine ev_iload_n (pc := 41) X 2 dX6_steepest_41 rfl rfl ?_
        refine ev_iload_n (pc := 42) X 3 dX6_steepest_42 rfl rfl ?_
        obtain ⟨v6, w5, hc, h⟩ := eB2 h
        refine ev_callV_i (pc := 43) (As := [.int x2, .int x3]) (S := [.int x2, .ref v3]) X hwX1_neighbour klX6_39 hiX1_neighbour hsX1_neighbour (ci := 1) ⟨rfl, rfl⟩ ⟨Nat.le_of_ble_eq_true rfl, Nat.le_of_ble_eq_true rfl⟩ ⟨Nat.le_refl _, Nat.le_refl _⟩ rfl (Nat.le_of_ble_eq_true rfl) dX6_steepest_43 rfl (mX1_neighbour (l := l) (D := D) (cI := cI) (cZ := cZ) hc).1 (mX1_neighbour hc).2 ?_
        obtain ⟨v8, w7, hc, h⟩ := eB2 h
        refine ev_callV_i (pc := 46) (As := [.int x2, .int v6]) (S := []) X hwX1_step klX6_59 hiX1_step hsX1_step (ci := 1) ⟨rfl, rfl⟩ ⟨Nat.le_of_ble_eq_true rfl, Nat.le_of_ble_eq_true rfl⟩ ⟨Nat.le_refl _, Nat.le_refl _⟩ rfl (Nat.le_of_ble_eq_true rfl) dX6_steepest_46 rfl (mX1_step (l := l) (D := D) (cI := cI) (cZ := cZ) hc).1 (mX1_step hc).2 ?_
        refine ev_istore (pc := 49) (L' := [(4, .int v8), (0, .ref x0), (1, .int x1), (2, .int x2), (3, .int x3)]) X dX6_steepest_49 (by decide) rfl ?_
        refine ev_iload_n (pc := 51) X 2 dX6_steepest_51 rfl rfl ?_
        refine ev_iload (pc := 52) X 0 dX6_steepest_52 rfl ?_
        obtain ⟨v10, w9, hc, h⟩ := eB2 h
        refine ev_callS_i (pc := 54) (As := [.int v8]) (S := [.int x1]) X hwJ9_abs_0f7a4 klX6_62 htJ9_abs_0f7a4 ⟨Nat.le_of_ble_eq_true rfl, Nat.le_of_ble_eq_true rfl⟩ ⟨Nat.le_refl _, Nat.le_refl _⟩ rfl (Nat.le_of_ble_eq_true rfl) dX6_steepest_54 rfl (mJ9_abs_0f7a4 hc) ?_
        obtain ⟨v12, w11, hc, h⟩ := eB2 h
        refine ev_callS_i (pc := 57) (As := [.int x1, .int v10]) (S := []) X hwJ9_max_7cf53 klX6_49 htJ9_max_7cf53 ⟨Nat.le_of_ble_eq_true rfl, Nat.le_of_ble_eq_true rfl⟩ ⟨Nat.le_refl _, Nat.le_refl _⟩ rfl (Nat.le_of_ble_eq_true rfl) dX6_steepest_57 rfl (mJ9_max_7cf53 hc) ?_
        refine ev_istore_n (pc := 60) (L' := [(1, .int v12), (4, .int v8), (0, .ref x0), (2, .int x2), (3, .int x3)]) X dX6_steepest_60 rfl (by decide) rfl ?_
        exact ev_weak (pc := 61) [2, 0, 3, 4] rfl (sX6_steepest_61 hK5 (fun _ _ _ _ w r hh => ih _ _ _ _ w r hh) _ _ _ _ _ _ h p e s m args below meth c r0 A X)
def fX6_steepest_5 : Nat → Nat → Int32 → Int32 → eW → Option (Int32 × eW)
  | 0, _, _, _, _ => none
  | n + 1, x0, x1, x2, w => (eGR w x0 6 0).bind fun v1 => eBind2 (fX1_cells v1 w) fun v3 w2 => if v3 ≤ x2 then (some (x1, w2)) else (fX6_steepest_18 (fX6_steepest_5 n) eN x0 x1 x2 (1 : Int32) w2)
set_option maxRecDepth 20000 in
theorem sX6_steepest_5  : ∀ (n : Nat) (x0 : Nat) (x1 : Int32) (x2 : Int32) (w : eW) (r : Int32 × eW), fX6_steepest_5 n x0 x1 x2 w = some r → eBN l D cI cZ 2 yX6_steepest cX6_steepest 5 (some .int) 5 [(0, .ref x0), (1, .int x1), (2, .int x2)] [] w (some (.int r.1)) r.2 := by
  intro n
  induction n with
  | zero => intro x0 x1 x2 w r h; exact absurd (show (none : Option (Int32 × eW)) = some r from h) (by simp)
  | succ n ih =>
    intro x0 x1 x2 w r h
    rw [fX6_steepest_5] at h
    intro p e s m args below meth c r0 A X
    refine ev_iload_n (pc := 5) X 2 dX6_steepest_5 rfl rfl ?_
    refine ev_aload_n (pc := 6) X 0 dX6_steepest_6 rfl rfl ?_
    obtain ⟨v1, hv1, h⟩ := eBi h
    refine ev_getR (pc := 7) X hcX6 (k := 0) (by decide) kfX6_18 dX6_steepest_7 hv1 ?_
    obtain ⟨v3, w2, hc, h⟩ := eB2 h
    refine ev_callV_i (pc := 10) (As := []) (S := [.int x2]) X hwX1_cells klX6_56 hiX1_cells hsX1_cells (ci := 1) ⟨rfl, rfl⟩ ⟨Nat.le_of_ble_eq_true rfl, Nat.le_of_ble_eq_true rfl⟩ ⟨Nat.le_refl _, Nat.le_refl _⟩ rfl (Nat.le_of_ble_eq_true rfl) dX6_steepest_10 rfl (mX1_cells (l := l) (D := D) (cI := cI) (cZ := cZ) hc).1 (mX1_cells hc).2 ?_
    refine ev_icmp_ge (pc := 13) X 73 dX6_steepest_13 rfl (fun hc => ?_) (fun hc => ?_)
    · rw [if_pos hc] at h
      refine ev_iload_n (pc := 73) X 1 dX6_steepest_73 rfl rfl ?_
      obtain rfl := Option.some.inj h
      exact ev_iret (pc := 74) X dX6_steepest_74
    · rw [if_neg hc] at h
      refine ev_iconst (pc := 16) (v := (1 : Int32)) X dX6_steepest_16 rfl ?_
      refine ev_istore_n (pc := 17) (L' := [(3, .int (1 : Int32)), (0, .ref x0), (1, .int x1), (2, .int x2)]) X dX6_steepest_17 rfl (by decide) rfl ?_
      exact ev_weak (pc := 18) [1, 2, 3, 0] rfl (sX6_steepest_18 (fun _ _ _ w r hh => ih _ _ _ w r hh) eN _ _ _ _ _ _ h p e s m args below meth c r0 A X)
def fX6_steepest_0 (x0 : Nat) (w : eW) : Option (Int32 × eW) := fX6_steepest_5 eN x0 (-9 : Int32) (0 : Int32) w
set_option maxRecDepth 20000 in
theorem sX6_steepest_0  (x0 : Nat) (w : eW) (r : Int32 × eW) (h : fX6_steepest_0 x0 w = some r) : eBN l D cI cZ 2 yX6_steepest cX6_steepest 5 (some .int) 0 [(0, .ref x0)] [] w (some (.int r.1)) r.2 := by
  rw [fX6_steepest_0] at h
  intro p e s m args below meth c r0 A X
  refine ev_bipush (pc := 0) (v := (-9 : Int32)) X dX6_steepest_0 rfl ?_
  refine ev_istore_n (pc := 2) (L' := [(1, .int (-9 : Int32)), (0, .ref x0)]) X dX6_steepest_2 rfl (by decide) rfl ?_
  refine ev_iconst (pc := 3) (v := (0 : Int32)) X dX6_steepest_3 rfl ?_
  refine ev_istore_n (pc := 4) (L' := [(2, .int (0 : Int32)), (1, .int (-9 : Int32)), (0, .ref x0)]) X dX6_steepest_4 rfl (by decide) rfl ?_
  exact ev_weak (pc := 5) [2, 1, 0] rfl (sX6_steepest_5 eN _ _ _ _ _ h p e s m args below meth c r0 A X)
def fX6_steepest (a0 : Nat) (w : eW) : Option (Int32 × eW) := bif eO w a0 6 then fX6_steepest_0 a0 w else none
theorem mX6_steepest {a0 : Nat} {w : eW} {v : Int32} {w' : eW} (h : fX6_steepest a0 w = some (v, w')) : eO w a0 6 = true ∧ eMN l D cI cZ 2 yX6_steepest cX6_steepest 5 (some .int) [.ref a0] w (some (.int v)) w' := by
  obtain ⟨h0, h⟩ := eBif h
  exact ⟨h0, eMN_of [(0, .ref a0)] (plainFor_of_name (by decide)) (fun _ => rfl) (fun _ => Nat.le_of_ble_eq_true rfl) (fun p e s m args below meth c r0 A X => ev_weak (pc := 0) [0] rfl (sX6_steepest_0 _ _ _ h p e s m args below meth c r0 A X))⟩
theorem dX6_fewestDarners_0 : decode cX6_fewestDarners 0 = .ok (.aload_n 0, 1) := by decide +kernel
theorem dX6_fewestDarners_1 : decode cX6_fewestDarners 1 = .ok (.getfield 18, 3) := by decide +kernel
theorem dX6_fewestDarners_4 : decode cX6_fewestDarners 4 = .ok (.invokevirtual 68, 3) := by decide +kernel
theorem dX6_fewestDarners_7 : decode cX6_fewestDarners 7 = .ok (.istore_n 2, 1) := by decide +kernel
theorem dX6_fewestDarners_8 : decode cX6_fewestDarners 8 = .ok (.aload_n 0, 1) := by decide +kernel
theorem dX6_fewestDarners_9 : decode cX6_fewestDarners 9 = .ok (.getfield 9, 3) := by decide +kernel
theorem dX6_fewestDarners_12 : decode cX6_fewestDarners 12 = .ok (.aload_n 0, 1) := by decide +kernel
theorem dX6_fewestDarners_13 : decode cX6_fewestDarners 13 = .ok (.getfield 9, 3) := by decide +kernel
theorem dX6_fewestDarners_16 : decode cX6_fewestDarners 16 = .ok (.iconst 1, 1) := by decide +kernel
theorem dX6_fewestDarners_17 : decode cX6_fewestDarners 17 = .ok (.ishl, 1) := by decide +kernel
theorem dX6_fewestDarners_18 : decode cX6_fewestDarners 18 = .ok (.ior, 1) := by decide +kernel
theorem dX6_fewestDarners_19 : decode cX6_fewestDarners 19 = .ok (.aload_n 0, 1) := by decide +kernel
theorem dX6_fewestDarners_20 : decode cX6_fewestDarners 20 = .ok (.getfield 15, 3) := by decide +kernel
theorem dX6_fewestDarners_23 : decode cX6_fewestDarners 23 = .ok (.ior, 1) := by decide +kernel
theorem dX6_fewestDarners_24 : decode cX6_fewestDarners 24 = .ok (.aload_n 0, 1) := by decide +kernel
theorem dX6_fewestDarners_25 : decode cX6_fewestDarners 25 = .ok (.getfield 15, 3) := by decide +kernel
theorem dX6_fewestDarners_28 : decode cX6_fewestDarners 28 = .ok (.iload_n 2, 1) := by decide +kernel
theorem dX6_fewestDarners_29 : decode cX6_fewestDarners 29 = .ok (.ishl, 1) := by decide +kernel
theorem dX6_fewestDarners_30 : decode cX6_fewestDarners 30 = .ok (.ior, 1) := by decide +kernel
theorem dX6_fewestDarners_31 : decode cX6_fewestDarners 31 = .ok (.istore_n 3, 1) := by decide +kernel
theorem dX6_fewestDarners_32 : decode cX6_fewestDarners 32 = .ok (.bipush (-9), 2) := by decide +kernel
theorem dX6_fewestDarners_34 : decode cX6_fewestDarners 34 = .ok (.istore 4, 2) := by decide +kernel
theorem dX6_fewestDarners_36 : decode cX6_fewestDarners 36 = .ok (.iconst 0, 1) := by decide +kernel
theorem dX6_fewestDarners_37 : decode cX6_fewestDarners 37 = .ok (.istore 5, 2) := by decide +kernel
theorem dX6_fewestDarners_39 : decode cX6_fewestDarners 39 = .ok (.iload 5, 2) := by decide +kernel
theorem dX6_fewestDarners_41 : decode cX6_fewestDarners 41 = .ok (.aload_n 0, 1) := by decide +kernel
theorem dX6_fewestDarners_42 : decode cX6_fewestDarners 42 = .ok (.getfield 18, 3) := by decide +kernel
theorem dX6_fewestDarners_45 : decode cX6_fewestDarners 45 = .ok (.invokevirtual 74, 3) := by decide +kernel
theorem dX6_fewestDarners_48 : decode cX6_fewestDarners 48 = .ok (.invokestatic 65, 3) := by decide +kernel
theorem dX6_fewestDarners_51 : decode cX6_fewestDarners 51 = .ok (.if_icmp .ge 66, 3) := by decide +kernel
theorem dX6_fewestDarners_54 : decode cX6_fewestDarners 54 = .ok (.iload 4, 2) := by decide +kernel
theorem dX6_fewestDarners_56 : decode cX6_fewestDarners 56 = .ok (.bipush (-9), 2) := by decide +kernel
theorem dX6_fewestDarners_58 : decode cX6_fewestDarners 58 = .ok (.if_icmp .eq 16, 3) := by decide +kernel
theorem dX6_fewestDarners_61 : decode cX6_fewestDarners 61 = .ok (.iload 5, 2) := by decide +kernel
theorem dX6_fewestDarners_63 : decode cX6_fewestDarners 63 = .ok (.invokestatic 87, 3) := by decide +kernel
theorem dX6_fewestDarners_66 : decode cX6_fewestDarners 66 = .ok (.iload 4, 2) := by decide +kernel
theorem dX6_fewestDarners_68 : decode cX6_fewestDarners 68 = .ok (.invokestatic 87, 3) := by decide +kernel
theorem dX6_fewestDarners_71 : decode cX6_fewestDarners 71 = .ok (.if_icmp .ge 7, 3) := by decide +kernel
theorem dX6_fewestDarners_74 : decode cX6_fewestDarners 74 = .ok (.iconst 1, 1) := by decide +kernel
theorem dX6_fewestDarners_75 : decode cX6_fewestDarners 75 = .ok (.goto 4, 3) := by decide +kernel
theorem dX6_fewestDarners_78 : decode cX6_fewestDarners 78 = .ok (.iconst 0, 1) := by decide +kernel
theorem dX6_fewestDarners_79 : decode cX6_fewestDarners 79 = .ok (.istore 6, 2) := by decide +kernel
theorem dX6_fewestDarners_81 : decode cX6_fewestDarners 81 = .ok (.iload 6, 2) := by decide +kernel
theorem dX6_fewestDarners_83 : decode cX6_fewestDarners 83 = .ok (.ifCond .eq 28, 3) := by decide +kernel
theorem dX6_fewestDarners_86 : decode cX6_fewestDarners 86 = .ok (.iload_n 3, 1) := by decide +kernel
theorem dX6_fewestDarners_87 : decode cX6_fewestDarners 87 = .ok (.aload_n 0, 1) := by decide +kernel
theorem dX6_fewestDarners_88 : decode cX6_fewestDarners 88 = .ok (.aload_n 0, 1) := by decide +kernel
theorem dX6_fewestDarners_89 : decode cX6_fewestDarners 89 = .ok (.getfield 18, 3) := by decide +kernel
theorem dX6_fewestDarners_92 : decode cX6_fewestDarners 92 = .ok (.iload 5, 2) := by decide +kernel
theorem dX6_fewestDarners_94 : decode cX6_fewestDarners 94 = .ok (.invokevirtual 92, 3) := by decide +kernel
theorem dX6_fewestDarners_97 : decode cX6_fewestDarners 97 = .ok (.iload_n 1, 1) := by decide +kernel
theorem dX6_fewestDarners_98 : decode cX6_fewestDarners 98 = .ok (.invokevirtual 80, 3) := by decide +kernel
theorem dX6_fewestDarners_101 : decode cX6_fewestDarners 101 = .ok (.iconst (-1), 1) := by decide +kernel
theorem dX6_fewestDarners_102 : decode cX6_fewestDarners 102 = .ok (.ixor, 1) := by decide +kernel
theorem dX6_fewestDarners_103 : decode cX6_fewestDarners 103 = .ok (.iand, 1) := by decide +kernel
theorem dX6_fewestDarners_104 : decode cX6_fewestDarners 104 = .ok (.ifCond .ne 7, 3) := by decide +kernel
theorem dX6_fewestDarners_107 : decode cX6_fewestDarners 107 = .ok (.iload 5, 2) := by decide +kernel
theorem dX6_fewestDarners_109 : decode cX6_fewestDarners 109 = .ok (.istore 4, 2) := by decide +kernel
theorem dX6_fewestDarners_111 : decode cX6_fewestDarners 111 = .ok (.iinc 5 1, 3) := by decide +kernel
theorem dX6_fewestDarners_114 : decode cX6_fewestDarners 114 = .ok (.goto (-75), 3) := by decide +kernel
theorem dX6_fewestDarners_117 : decode cX6_fewestDarners 117 = .ok (.iload 4, 2) := by decide +kernel
theorem dX6_fewestDarners_119 : decode cX6_fewestDarners 119 = .ok (.ireturn, 1) := by decide +kernel
def fX6_fewestDarners_111 (K39 : Nat → Int32 → Int32 → Int32 → Int32 → eW → Option (Int32 × eW)) (x0 : Nat) (x1 : Int32) (x3 : Int32) (x4 : Int32) (x5 : Int32) (w : eW) : Option (Int32 × eW) := K39 x0 x1 x3 x4 (x5 + (1 : Int32)) w
set_option maxRecDepth 20000 in
theorem sX6_fewestDarners_111 {K39 : Nat → Int32 → Int32 → Int32 → Int32 → eW → Option (Int32 × eW)} (hK39 : ∀ (x0 : Nat) (x1 : Int32) (x3 : Int32) (x4 : Int32) (x5 : Int32) (w : eW) (r : Int32 × eW), K39 x0 x1 x3 x4 x5 w = some r → eBN l D cI cZ 3 yX6_fewestDarners cX6_fewestDarners 7 (some .int) 39 [(0, .ref x0), (1, .int x1), (3, .int x3), (4, .int x4), (5, .int x5)] [] w (some (.int r.1)) r.2) (x0 : Nat) (x1 : Int32) (x3 : Int32) (x4 : Int32) (x5 : Int32) (w : eW) (r : Int32 × eW) (h : fX6_fewestDarners_111 K39 x0 x1 x3 x4 x5 w = some r) : eBN l D cI cZ 3 yX6_fewestDarners cX6_fewestDarners 7 (some .int) 111 [(0, .ref x0), (1, .int x1), (3, .int x3), (4, .int x4), (5, .int x5)] [] w (some (.int r.1)) r.2 := by
  rw [fX6_fewestDarners_111] at h
  intro p e s m args below meth c r0 A X
  refine ev_iinc (pc := 111) (v := x5 + (1 : Int32)) (L' := [(5, .int (x5 + (1 : Int32))), (0, .ref x0), (1, .int x1), (3, .int x3), (4, .int x4)]) X 4 dX6_fewestDarners_111 rfl rfl (by decide) rfl ?_
  refine ev_goto (pc := 114) X 39 dX6_fewestDarners_114 rfl ?_
  exact ev_weak (pc := 39) [1, 2, 3, 4, 0] rfl (hK39 _ _ _ _ _ _ _ h p e s m args below meth c r0 A X)
def fX6_fewestDarners_79 (K39 : Nat → Int32 → Int32 → Int32 → Int32 → eW → Option (Int32 × eW)) (x0 : Nat) (x1 : Int32) (x3 : Int32) (x4 : Int32) (x5 : Int32) (t0 : Int32) (w : eW) : Option (Int32 × eW) := if t0 = 0 then (fX6_fewestDarners_111 K39 x0 x1 x3 x4 x5 w) else ((eGR w x0 6 0).bind fun v1 => eBind2 (fX1_cellsOfTowns v1 x5 w) fun v3 w2 => eBind2 (fX6_reach x0 v3 x1 w2) fun v5 w4 => if (x3 &&& (v5 ^^^ (-1 : Int32))) = 0 then (fX6_fewestDarners_111 K39 x0 x1 x3 x5 x5 w4) else (fX6_fewestDarners_111 K39 x0 x1 x3 x4 x5 w4))
set_option maxRecDepth 20000 in
theorem sX6_fewestDarners_79 {K39 : Nat → Int32 → Int32 → Int32 → Int32 → eW → Option (Int32 × eW)} (hK39 : ∀ (x0 : Nat) (x1 : Int32) (x3 : Int32) (x4 : Int32) (x5 : Int32) (w : eW) (r : Int32 × eW), K39 x0 x1 x3 x4 x5 w = some r → eBN l D cI cZ 3 yX6_fewestDarners cX6_fewestDarners 7 (some .int) 39 [(0, .ref x0), (1, .int x1), (3, .int x3), (4, .int x4), (5, .int x5)] [] w (some (.int r.1)) r.2) (x0 : Nat) (x1 : Int32) (x3 : Int32) (x4 : Int32) (x5 : Int32) (t0 : Int32) (w : eW) (r : Int32 × eW) (h : fX6_fewestDarners_79 K39 x0 x1 x3 x4 x5 t0 w = some r) : eBN l D cI cZ 3 yX6_fewestDarners cX6_fewestDarners 7 (some .int) 79 [(0, .ref x0), (1, .int x1), (3, .int x3), (4, .int x4), (5, .int x5)] [.int t0] w (some (.int r.1)) r.2 := by
  rw [fX6_fewestDarners_79] at h
  intro p e s m args below meth c r0 A X
  refine ev_istore (pc := 79) (L' := [(6, .int t0), (0, .ref x0), (1, .int x1), (3, .int x3), (4, .int x4), (5, .int x5)]) X dX6_fewestDarners_79 (by decide) rfl ?_
  refine ev_iload (pc := 81) X 0 dX6_fewestDarners_81 rfl ?_
  refine ev_if_eq (pc := 83) X 111 dX6_fewestDarners_83 rfl (fun hc => ?_) (fun hc => ?_)
  · rw [if_pos hc] at h
    exact ev_weak (pc := 111) [1, 2, 3, 4, 5] rfl (sX6_fewestDarners_111 hK39 _ _ _ _ _ _ _ h p e s m args below meth c r0 A X)
  · rw [if_neg hc] at h
    refine ev_iload_n (pc := 86) X 3 dX6_fewestDarners_86 rfl rfl ?_
    refine ev_aload_n (pc := 87) X 1 dX6_fewestDarners_87 rfl rfl ?_
    refine ev_aload_n (pc := 88) X 1 dX6_fewestDarners_88 rfl rfl ?_
    obtain ⟨v1, hv1, h⟩ := eBi h
    refine ev_getR (pc := 89) X hcX6 (k := 0) (by decide) kfX6_18 dX6_fewestDarners_89 hv1 ?_
    refine ev_iload (pc := 92) X 5 dX6_fewestDarners_92 rfl ?_
    obtain ⟨v3, w2, hc, h⟩ := eB2 h
    refine ev_callV_i (pc := 94) (As := [.int x5]) (S := [.ref x0, .int x3]) X hwX1_cellsOfTowns klX6_92 hiX1_cellsOfTowns hsX1_cellsOfTowns (ci := 1) ⟨rfl, rfl⟩ ⟨Nat.le_of_ble_eq_true rfl, Nat.le_of_ble_eq_true rfl⟩ ⟨Nat.le_refl _, Nat.le_refl _⟩ rfl (Nat.le_of_ble_eq_true rfl) dX6_fewestDarners_94 rfl (mX1_cellsOfTowns (l := l) (D := D) (cI := cI) (cZ := cZ) hc).1 (mX1_cellsOfTowns hc).2 ?_
    refine ev_iload_n (pc := 97) X 2 dX6_fewestDarners_97 rfl rfl ?_
    obtain ⟨v5, w4, hc, h⟩ := eB2 h
    refine ev_callV_i (pc := 98) (As := [.int v3, .int x1]) (S := [.int x3]) X hwX6_reach klX6_80 hiX6_reach hsX6_reach (ci := 6) ⟨rfl, rfl⟩ ⟨Nat.le_of_ble_eq_true rfl, Nat.le_of_ble_eq_true rfl⟩ ⟨Nat.le_refl _, Nat.le_refl _⟩ rfl (Nat.le_of_ble_eq_true rfl) dX6_fewestDarners_98 rfl (mX6_reach (l := l) (D := D) (cI := cI) (cZ := cZ) hc).1 (mX6_reach hc).2 ?_
    refine ev_iconst (pc := 101) (v := (-1 : Int32)) X dX6_fewestDarners_101 rfl ?_
    refine ev_ixor (pc := 102) X dX6_fewestDarners_102 ?_
    refine ev_iand (pc := 103) X dX6_fewestDarners_103 ?_
    refine ev_if_ne (pc := 104) X 111 dX6_fewestDarners_104 rfl (fun hc => ?_) (fun hc => ?_)
    · rw [if_neg hc] at h
      exact ev_weak (pc := 111) [1, 2, 3, 4, 5] rfl (sX6_fewestDarners_111 hK39 _ _ _ _ _ _ _ h p e s m args below meth c r0 A X)
    · rw [if_pos hc] at h
      refine ev_iload (pc := 107) X 5 dX6_fewestDarners_107 rfl ?_
      refine ev_istore (pc := 109) (L' := [(4, .int x5), (6, .int t0), (0, .ref x0), (1, .int x1), (3, .int x3), (5, .int x5)]) X dX6_fewestDarners_109 (by decide) rfl ?_
      exact ev_weak (pc := 111) [2, 3, 4, 0, 5] rfl (sX6_fewestDarners_111 hK39 _ _ _ _ _ _ _ h p e s m args below meth c r0 A X)
def fX6_fewestDarners_74 (K39 : Nat → Int32 → Int32 → Int32 → Int32 → eW → Option (Int32 × eW)) (x0 : Nat) (x1 : Int32) (x3 : Int32) (x4 : Int32) (x5 : Int32) (w : eW) : Option (Int32 × eW) := fX6_fewestDarners_79 K39 x0 x1 x3 x4 x5 (1 : Int32) w
set_option maxRecDepth 20000 in
theorem sX6_fewestDarners_74 {K39 : Nat → Int32 → Int32 → Int32 → Int32 → eW → Option (Int32 × eW)} (hK39 : ∀ (x0 : Nat) (x1 : Int32) (x3 : Int32) (x4 : Int32) (x5 : Int32) (w : eW) (r : Int32 × eW), K39 x0 x1 x3 x4 x5 w = some r → eBN l D cI cZ 3 yX6_fewestDarners cX6_fewestDarners 7 (some .int) 39 [(0, .ref x0), (1, .int x1), (3, .int x3), (4, .int x4), (5, .int x5)] [] w (some (.int r.1)) r.2) (x0 : Nat) (x1 : Int32) (x3 : Int32) (x4 : Int32) (x5 : Int32) (w : eW) (r : Int32 × eW) (h : fX6_fewestDarners_74 K39 x0 x1 x3 x4 x5 w = some r) : eBN l D cI cZ 3 yX6_fewestDarners cX6_fewestDarners 7 (some .int) 74 [(0, .ref x0), (1, .int x1), (3, .int x3), (4, .int x4), (5, .int x5)] [] w (some (.int r.1)) r.2 := by
  rw [fX6_fewestDarners_74] at h
  intro p e s m args below meth c r0 A X
  refine ev_iconst (pc := 74) (v := (1 : Int32)) X dX6_fewestDarners_74 rfl ?_
  refine ev_goto (pc := 75) X 79 dX6_fewestDarners_75 rfl ?_
  exact ev_weak (pc := 79) [0, 1, 2, 3, 4] rfl (sX6_fewestDarners_79 hK39 _ _ _ _ _ _ _ _ h p e s m args below meth c r0 A X)
def fX6_fewestDarners_39 : Nat → Nat → Int32 → Int32 → Int32 → Int32 → eW → Option (Int32 × eW)
  | 0, _, _, _, _, _, _ => none
  | n + 1, x0, x1, x3, x4, x5, w => (eGR w x0 6 0).bind fun v1 => eBind2 (fX1_towns v1 w) fun v3 w2 => eBind2 (fX10_bit v3 w2) fun v5 w4 => if v5 ≤ x5 then (some (x4, w4)) else (if x4 = (-9 : Int32) then (fX6_fewestDarners_74 (fX6_fewestDarners_39 n) x0 x1 x3 x4 x5 w4) else (eBind2 (fJ6_bitCount_0f7a4 x5 w4) fun v7 w6 => eBind2 (fJ6_bitCount_0f7a4 x4 w6) fun v9 w8 => if v9 ≤ v7 then (fX6_fewestDarners_79 (fX6_fewestDarners_39 n) x0 x1 x3 x4 x5 (0 : Int32) w8) else (fX6_fewestDarners_74 (fX6_fewestDarners_39 n) x0 x1 x3 x4 x5 w8)))
set_option maxRecDepth 20000 in
theorem sX6_fewestDarners_39  : ∀ (n : Nat) (x0 : Nat) (x1 : Int32) (x3 : Int32) (x4 : Int32) (x5 : Int32) (w : eW) (r : Int32 × eW), fX6_fewestDarners_39 n x0 x1 x3 x4 x5 w = some r → eBN l D cI cZ 3 yX6_fewestDarners cX6_fewestDarners 7 (some .int) 39 [(0, .ref x0), (1, .int x1), (3, .int x3), (4, .int x4), (5, .int x5)] [] w (some (.int r.1)) r.2 := by
  intro n
  induction n with
  | zero => intro x0 x1 x3 x4 x5 w r h; exact absurd (show (none : Option (Int32 × eW)) = some r from h) (by simp)
  | succ n ih =>
    intro x0 x1 x3 x4 x5 w r h
    rw [fX6_fewestDarners_39] at h
    intro p e s m args below meth c r0 A X
    refine ev_iload (pc := 39) X 4 dX6_fewestDarners_39 rfl ?_
    refine ev_aload_n (pc := 41) X 0 dX6_fewestDarners_41 rfl rfl ?_
    obtain ⟨v1, hv1, h⟩ := eBi h
    refine ev_getR (pc := 42) X hcX6 (k := 0) (by decide) kfX6_18 dX6_fewestDarners_42 hv1 ?_
    obtain ⟨v3, w2, hc, h⟩ := eB2 h
    refine ev_callV_i (pc := 45) (As := []) (S := [.int x5]) X hwX1_towns klX6_74 hiX1_towns hsX1_towns (ci := 1) ⟨rfl, rfl⟩ ⟨Nat.le_of_ble_eq_true rfl, Nat.le_of_ble_eq_true rfl⟩ ⟨Nat.le_refl _, Nat.le_refl _⟩ rfl (Nat.le_of_ble_eq_true rfl) dX6_fewestDarners_45 rfl (mX1_towns (l := l) (D := D) (cI := cI) (cZ := cZ) hc).1 (mX1_towns hc).2 ?_
    obtain ⟨v5, w4, hc, h⟩ := eB2 h
    refine ev_callSN_i (pc := 48) (As := [.int v3]) (S := [.int x5]) X hwX10_bit knX6_65 htX10_bit ⟨Nat.le_of_ble_eq_true rfl, Nat.le_of_ble_eq_true rfl⟩ ⟨Nat.le_refl _, Nat.le_refl _⟩ rfl (Nat.le_of_ble_eq_true rfl) dX6_fewestDarners_48 rfl (mX10_bit hc) ?_
    refine ev_icmp_ge (pc := 51) X 117 dX6_fewestDarners_51 rfl (fun hc => ?_) (fun hc => ?_)
    · rw [if_pos hc] at h
      refine ev_iload (pc := 117) X 3 dX6_fewestDarners_117 rfl ?_
      obtain rfl := Option.some.inj h
      exact ev_iret (pc := 119) X dX6_fewestDarners_119
    · rw [if_neg hc] at h
      refine ev_iload (pc := 54) X 3 dX6_fewestDarners_54 rfl ?_
      refine ev_bipush (pc := 56) (v := (-9 : Int32)) X dX6_fewestDarners_56 rfl ?_
      refine ev_icmp_eq (pc := 58) X 74 dX6_fewestDarners_58 rfl (fun hc => ?_) (fun hc => ?_)
      · rw [if_pos hc] at h
        exact ev_weak (pc := 74) [0, 1, 2, 3, 4] rfl (sX6_fewestDarners_74 (fun _ _ _ _ _ w r hh => ih _ _ _ _ _ w r hh) _ _ _ _ _ _ _ h p e s m args below meth c r0 A X)
      · rw [if_neg hc] at h
        refine ev_iload (pc := 61) X 4 dX6_fewestDarners_61 rfl ?_
        obtain ⟨v7, w6, hc, h⟩ := eB2 h
        refine ev_callS_i (pc := 63) (As := [.int x5]) (S := []) X hwJ6_bitCount_0f7a4 klX6_87 htJ6_bitCount_0f7a4 ⟨Nat.le_of_ble_eq_true rfl, Nat.le_of_ble_eq_true rfl⟩ ⟨Nat.le_refl _, Nat.le_refl _⟩ rfl (Nat.le_of_ble_eq_true rfl) dX6_fewestDarners_63 rfl (mJ6_bitCount_0f7a4 hc) ?_
        refine ev_iload (pc := 66) X 3 dX6_fewestDarners_66 rfl ?_
        obtain ⟨v9, w8, hc, h⟩ := eB2 h
        refine ev_callS_i (pc := 68) (As := [.int x4]) (S := [.int v7]) X hwJ6_bitCount_0f7a4 klX6_87 htJ6_bitCount_0f7a4 ⟨Nat.le_of_ble_eq_true rfl, Nat.le_of_ble_eq_true rfl⟩ ⟨Nat.le_refl _, Nat.le_refl _⟩ rfl (Nat.le_of_ble_eq_true rfl) dX6_fewestDarners_68 rfl (mJ6_bitCount_0f7a4 hc) ?_
        refine ev_icmp_ge (pc := 71) X 78 dX6_fewestDarners_71 rfl (fun hc => ?_) (fun hc => ?_)
        · rw [if_pos hc] at h
          refine ev_iconst (pc := 78) (v := (0 : Int32)) X dX6_fewestDarners_78 rfl ?_
          exact ev_weak (pc := 79) [0, 1, 2, 3, 4] rfl (sX6_fewestDarners_79 (fun _ _ _ _ _ w r hh => ih _ _ _ _ _ w r hh) _ _ _ _ _ _ _ _ h p e s m args below meth c r0 A X)
        · rw [if_neg hc] at h
          exact ev_weak (pc := 74) [0, 1, 2, 3, 4] rfl (sX6_fewestDarners_74 (fun _ _ _ _ _ w r hh => ih _ _ _ _ _ w r hh) _ _ _ _ _ _ _ h p e s m args below meth c r0 A X)
def fX6_fewestDarners_0 (x0 : Nat) (x1 : Int32) (w : eW) : Option (Int32 × eW) := (eGR w x0 6 0).bind fun v1 => eBind2 (fX1_wide v1 w) fun v3 w2 => (eGI w2 x0 6 1).bind fun v4 => (eGI w2 x0 6 1).bind fun v5 => (eGI w2 x0 6 2).bind fun v6 => (eGI w2 x0 6 2).bind fun v7 => fX6_fewestDarners_39 eN x0 x1 (((v4 ||| (v5 <<< ((1 : Int32) &&& 31))) ||| v6) ||| (v7 <<< (v3 &&& 31))) (-9 : Int32) (0 : Int32) w2
set_option maxRecDepth 20000 in
theorem sX6_fewestDarners_0  (x0 : Nat) (x1 : Int32) (w : eW) (r : Int32 × eW) (h : fX6_fewestDarners_0 x0 x1 w = some r) : eBN l D cI cZ 3 yX6_fewestDarners cX6_fewestDarners 7 (some .int) 0 [(0, .ref x0), (1, .int x1)] [] w (some (.int r.1)) r.2 := by
  rw [fX6_fewestDarners_0] at h
  intro p e s m args below meth c r0 A X
  refine ev_aload_n (pc := 0) X 0 dX6_fewestDarners_0 rfl rfl ?_
  obtain ⟨v1, hv1, h⟩ := eBi h
  refine ev_getR (pc := 1) X hcX6 (k := 0) (by decide) kfX6_18 dX6_fewestDarners_1 hv1 ?_
  obtain ⟨v3, w2, hc, h⟩ := eB2 h
  refine ev_callV_i (pc := 4) (As := []) (S := []) X hwX1_wide klX6_68 hiX1_wide hsX1_wide (ci := 1) ⟨rfl, rfl⟩ ⟨Nat.le_of_ble_eq_true rfl, Nat.le_of_ble_eq_true rfl⟩ ⟨Nat.le_refl _, Nat.le_refl _⟩ rfl (Nat.le_of_ble_eq_true rfl) dX6_fewestDarners_4 rfl (mX1_wide (l := l) (D := D) (cI := cI) (cZ := cZ) hc).1 (mX1_wide hc).2 ?_
  refine ev_istore_n (pc := 7) (L' := [(2, .int v3), (0, .ref x0), (1, .int x1)]) X dX6_fewestDarners_7 rfl (by decide) rfl ?_
  refine ev_aload_n (pc := 8) X 1 dX6_fewestDarners_8 rfl rfl ?_
  obtain ⟨v4, hv4, h⟩ := eBi h
  refine ev_getI (pc := 9) X hcX6 (k := 1) (by decide) kfX6_9 dX6_fewestDarners_9 hv4 ?_
  refine ev_aload_n (pc := 12) X 1 dX6_fewestDarners_12 rfl rfl ?_
  obtain ⟨v5, hv5, h⟩ := eBi h
  refine ev_getI (pc := 13) X hcX6 (k := 1) (by decide) kfX6_9 dX6_fewestDarners_13 hv5 ?_
  refine ev_iconst (pc := 16) (v := (1 : Int32)) X dX6_fewestDarners_16 rfl ?_
  refine ev_ishl (pc := 17) X dX6_fewestDarners_17 ?_
  refine ev_ior (pc := 18) X dX6_fewestDarners_18 ?_
  refine ev_aload_n (pc := 19) X 1 dX6_fewestDarners_19 rfl rfl ?_
  obtain ⟨v6, hv6, h⟩ := eBi h
  refine ev_getI (pc := 20) X hcX6 (k := 2) (by decide) kfX6_15 dX6_fewestDarners_20 hv6 ?_
  refine ev_ior (pc := 23) X dX6_fewestDarners_23 ?_
  refine ev_aload_n (pc := 24) X 1 dX6_fewestDarners_24 rfl rfl ?_
  obtain ⟨v7, hv7, h⟩ := eBi h
  refine ev_getI (pc := 25) X hcX6 (k := 2) (by decide) kfX6_15 dX6_fewestDarners_25 hv7 ?_
  refine ev_iload_n (pc := 28) X 0 dX6_fewestDarners_28 rfl rfl ?_
  refine ev_ishl (pc := 29) X dX6_fewestDarners_29 ?_
  refine ev_ior (pc := 30) X dX6_fewestDarners_30 ?_
  refine ev_istore_n (pc := 31) (L' := [(3, .int (((v4 ||| (v5 <<< ((1 : Int32) &&& 31))) ||| v6) ||| (v7 <<< (v3 &&& 31)))), (2, .int v3), (0, .ref x0), (1, .int x1)]) X dX6_fewestDarners_31 rfl (by decide) rfl ?_
  refine ev_bipush (pc := 32) (v := (-9 : Int32)) X dX6_fewestDarners_32 rfl ?_
  refine ev_istore (pc := 34) (L' := [(4, .int (-9 : Int32)), (3, .int (((v4 ||| (v5 <<< ((1 : Int32) &&& 31))) ||| v6) ||| (v7 <<< (v3 &&& 31)))), (2, .int v3), (0, .ref x0), (1, .int x1)]) X dX6_fewestDarners_34 (by decide) rfl ?_
  refine ev_iconst (pc := 36) (v := (0 : Int32)) X dX6_fewestDarners_36 rfl ?_
  refine ev_istore (pc := 37) (L' := [(5, .int (0 : Int32)), (4, .int (-9 : Int32)), (3, .int (((v4 ||| (v5 <<< ((1 : Int32) &&& 31))) ||| v6) ||| (v7 <<< (v3 &&& 31)))), (2, .int v3), (0, .ref x0), (1, .int x1)]) X dX6_fewestDarners_37 (by decide) rfl ?_
  exact ev_weak (pc := 39) [4, 5, 2, 1, 0] rfl (sX6_fewestDarners_39 eN _ _ _ _ _ _ _ h p e s m args below meth c r0 A X)
def fX6_fewestDarners (a0 : Nat) (a1 : Int32) (w : eW) : Option (Int32 × eW) := bif eO w a0 6 then fX6_fewestDarners_0 a0 a1 w else none
theorem mX6_fewestDarners {a0 : Nat} {a1 : Int32} {w : eW} {v : Int32} {w' : eW} (h : fX6_fewestDarners a0 a1 w = some (v, w')) : eO w a0 6 = true ∧ eMN l D cI cZ 3 yX6_fewestDarners cX6_fewestDarners 7 (some .int) [.ref a0, .int a1] w (some (.int v)) w' := by
  obtain ⟨h0, h⟩ := eBif h
  exact ⟨h0, eMN_of [(0, .ref a0), (1, .int a1)] (plainFor_of_name (by decide)) (fun _ => rfl) (fun _ => Nat.le_of_ble_eq_true rfl) (fun p e s m args below meth c r0 A X => ev_weak (pc := 0) [0, 1] rfl (sX6_fewestDarners_0 _ _ _ _ h p e s m args below meth c r0 A X))⟩
theorem dX8_goOn_0 : decode cX8_goOn 0 = .ok (.iconst 0, 1) := by decide +kernel
theorem dX8_goOn_1 : decode cX8_goOn 1 = .ok (.istore_n 3, 1) := by decide +kernel
theorem dX8_goOn_2 : decode cX8_goOn 2 = .ok (.iconst 0, 1) := by decide +kernel
theorem dX8_goOn_3 : decode cX8_goOn 3 = .ok (.istore 4, 2) := by decide +kernel
theorem dX8_goOn_5 : decode cX8_goOn 5 = .ok (.iload 4, 2) := by decide +kernel
theorem dX8_goOn_7 : decode cX8_goOn 7 = .ok (.iconst 4, 1) := by decide +kernel
theorem dX8_goOn_8 : decode cX8_goOn 8 = .ok (.if_icmp .ge 108, 3) := by decide +kernel
theorem dX8_goOn_11 : decode cX8_goOn 11 = .ok (.aload_n 0, 1) := by decide +kernel
theorem dX8_goOn_12 : decode cX8_goOn 12 = .ok (.getfield 28, 3) := by decide +kernel
theorem dX8_goOn_15 : decode cX8_goOn 15 = .ok (.iload_n 1, 1) := by decide +kernel
theorem dX8_goOn_16 : decode cX8_goOn 16 = .ok (.iload 4, 2) := by decide +kernel
theorem dX8_goOn_18 : decode cX8_goOn 18 = .ok (.invokevirtual 58, 3) := by decide +kernel
theorem dX8_goOn_21 : decode cX8_goOn 21 = .ok (.ifCond .eq 89, 3) := by decide +kernel
theorem dX8_goOn_24 : decode cX8_goOn 24 = .ok (.aload_n 0, 1) := by decide +kernel
theorem dX8_goOn_25 : decode cX8_goOn 25 = .ok (.getfield 20, 3) := by decide +kernel
theorem dX8_goOn_28 : decode cX8_goOn 28 = .ok (.iload_n 1, 1) := by decide +kernel
theorem dX8_goOn_29 : decode cX8_goOn 29 = .ok (.iload 4, 2) := by decide +kernel
theorem dX8_goOn_31 : decode cX8_goOn 31 = .ok (.invokevirtual 63, 3) := by decide +kernel
theorem dX8_goOn_34 : decode cX8_goOn 34 = .ok (.istore 5, 2) := by decide +kernel
theorem dX8_goOn_36 : decode cX8_goOn 36 = .ok (.iload_n 2, 1) := by decide +kernel
theorem dX8_goOn_37 : decode cX8_goOn 37 = .ok (.iload 5, 2) := by decide +kernel
theorem dX8_goOn_39 : decode cX8_goOn 39 = .ok (.invokestatic 67, 3) := by decide +kernel
theorem dX8_goOn_42 : decode cX8_goOn 42 = .ok (.iand, 1) := by decide +kernel
theorem dX8_goOn_43 : decode cX8_goOn 43 = .ok (.ifCond .eq 7, 3) := by decide +kernel
theorem dX8_goOn_46 : decode cX8_goOn 46 = .ok (.iconst 1, 1) := by decide +kernel
theorem dX8_goOn_47 : decode cX8_goOn 47 = .ok (.goto 4, 3) := by decide +kernel
theorem dX8_goOn_50 : decode cX8_goOn 50 = .ok (.iconst 0, 1) := by decide +kernel
theorem dX8_goOn_51 : decode cX8_goOn 51 = .ok (.istore 6, 2) := by decide +kernel
theorem dX8_goOn_53 : decode cX8_goOn 53 = .ok (.aload_n 0, 1) := by decide +kernel
theorem dX8_goOn_54 : decode cX8_goOn 54 = .ok (.getfield 14, 3) := by decide +kernel
theorem dX8_goOn_57 : decode cX8_goOn 57 = .ok (.iload_n 1, 1) := by decide +kernel
theorem dX8_goOn_58 : decode cX8_goOn 58 = .ok (.invokevirtual 50, 3) := by decide +kernel
theorem dX8_goOn_61 : decode cX8_goOn 61 = .ok (.iconst 1, 1) := by decide +kernel
theorem dX8_goOn_62 : decode cX8_goOn 62 = .ok (.iadd, 1) := by decide +kernel
theorem dX8_goOn_63 : decode cX8_goOn 63 = .ok (.aload_n 0, 1) := by decide +kernel
theorem dX8_goOn_64 : decode cX8_goOn 64 = .ok (.getfield 20, 3) := by decide +kernel
theorem dX8_goOn_67 : decode cX8_goOn 67 = .ok (.iload_n 1, 1) := by decide +kernel
theorem dX8_goOn_68 : decode cX8_goOn 68 = .ok (.iload 5, 2) := by decide +kernel
theorem dX8_goOn_70 : decode cX8_goOn 70 = .ok (.invokevirtual 70, 3) := by decide +kernel
theorem dX8_goOn_73 : decode cX8_goOn 73 = .ok (.iconst 0, 1) := by decide +kernel
theorem dX8_goOn_74 : decode cX8_goOn 74 = .ok (.invokestatic 73, 3) := by decide +kernel
theorem dX8_goOn_77 : decode cX8_goOn 77 = .ok (.iadd, 1) := by decide +kernel
theorem dX8_goOn_78 : decode cX8_goOn 78 = .ok (.iload 6, 2) := by decide +kernel
theorem dX8_goOn_80 : decode cX8_goOn 80 = .ok (.iadd, 1) := by decide +kernel
theorem dX8_goOn_81 : decode cX8_goOn 81 = .ok (.istore 7, 2) := by decide +kernel
theorem dX8_goOn_83 : decode cX8_goOn 83 = .ok (.iload 7, 2) := by decide +kernel
theorem dX8_goOn_85 : decode cX8_goOn 85 = .ok (.aload_n 0, 1) := by decide +kernel
theorem dX8_goOn_86 : decode cX8_goOn 86 = .ok (.getfield 14, 3) := by decide +kernel
theorem dX8_goOn_89 : decode cX8_goOn 89 = .ok (.iload 5, 2) := by decide +kernel
theorem dX8_goOn_91 : decode cX8_goOn 91 = .ok (.invokevirtual 50, 3) := by decide +kernel
theorem dX8_goOn_94 : decode cX8_goOn 94 = .ok (.if_icmp .ge 16, 3) := by decide +kernel
theorem dX8_goOn_97 : decode cX8_goOn 97 = .ok (.aload_n 0, 1) := by decide +kernel
theorem dX8_goOn_98 : decode cX8_goOn 98 = .ok (.getfield 14, 3) := by decide +kernel
theorem dX8_goOn_101 : decode cX8_goOn 101 = .ok (.iload 5, 2) := by decide +kernel
theorem dX8_goOn_103 : decode cX8_goOn 103 = .ok (.iload 7, 2) := by decide +kernel
theorem dX8_goOn_105 : decode cX8_goOn 105 = .ok (.invokevirtual 41, 3) := by decide +kernel
theorem dX8_goOn_108 : decode cX8_goOn 108 = .ok (.iconst 1, 1) := by decide +kernel
theorem dX8_goOn_109 : decode cX8_goOn 109 = .ok (.istore_n 3, 1) := by decide +kernel
theorem dX8_goOn_110 : decode cX8_goOn 110 = .ok (.iinc 4 1, 3) := by decide +kernel
theorem dX8_goOn_113 : decode cX8_goOn 113 = .ok (.goto (-108), 3) := by decide +kernel
theorem dX8_goOn_116 : decode cX8_goOn 116 = .ok (.iload_n 3, 1) := by decide +kernel
theorem dX8_goOn_117 : decode cX8_goOn 117 = .ok (.ireturn, 1) := by decide +kernel
def fX8_goOn_110 (K5 : Nat → Int32 → Int32 → Int32 → Int32 → eW → Option (Int32 × eW)) (x0 : Nat) (x1 : Int32) (x2 : Int32) (x3 : Int32) (x4 : Int32) (w : eW) : Option (Int32 × eW) := K5 x0 x1 x2 x3 (x4 + (1 : Int32)) w
set_option maxRecDepth 20000 in
theorem sX8_goOn_110 {K5 : Nat → Int32 → Int32 → Int32 → Int32 → eW → Option (Int32 × eW)} (hK5 : ∀ (x0 : Nat) (x1 : Int32) (x2 : Int32) (x3 : Int32) (x4 : Int32) (w : eW) (r : Int32 × eW), K5 x0 x1 x2 x3 x4 w = some r → eBN l D cI cZ 2 yX8_goOn cX8_goOn 8 (some .boolean) 5 [(0, .ref x0), (1, .int x1), (2, .int x2), (3, .int x3), (4, .int x4)] [] w (some (.int r.1)) r.2) (x0 : Nat) (x1 : Int32) (x2 : Int32) (x3 : Int32) (x4 : Int32) (w : eW) (r : Int32 × eW) (h : fX8_goOn_110 K5 x0 x1 x2 x3 x4 w = some r) : eBN l D cI cZ 2 yX8_goOn cX8_goOn 8 (some .boolean) 110 [(0, .ref x0), (1, .int x1), (2, .int x2), (3, .int x3), (4, .int x4)] [] w (some (.int r.1)) r.2 := by
  rw [fX8_goOn_110] at h
  intro p e s m args below meth c r0 A X
  refine ev_iinc (pc := 110) (v := x4 + (1 : Int32)) (L' := [(4, .int (x4 + (1 : Int32))), (0, .ref x0), (1, .int x1), (2, .int x2), (3, .int x3)]) X 4 dX8_goOn_110 rfl rfl (by decide) rfl ?_
  refine ev_goto (pc := 113) X 5 dX8_goOn_113 rfl ?_
  exact ev_weak (pc := 5) [1, 2, 3, 4, 0] rfl (hK5 _ _ _ _ _ _ _ h p e s m args below meth c r0 A X)
def fX8_goOn_51 (K5 : Nat → Int32 → Int32 → Int32 → Int32 → eW → Option (Int32 × eW)) (x0 : Nat) (x1 : Int32) (x2 : Int32) (x3 : Int32) (x4 : Int32) (x5 : Int32) (t0 : Int32) (w : eW) : Option (Int32 × eW) := (eGR w x0 8 3).bind fun v1 => eBind2 (fX7_get v1 x1 w) fun v3 w2 => (eGR w2 x0 8 0).bind fun v4 => eBind2 (fX1_step v4 x1 x5 w2) fun v6 w5 => eBind2 (fJ9_max_7cf53 v6 (0 : Int32) w5) fun v8 w7 => (eGR w7 x0 8 3).bind fun v9 => eBind2 (fX7_get v9 x5 w7) fun v11 w10 => if v11 ≤ (((v3 + (1 : Int32)) + v8) + t0) then (fX8_goOn_110 K5 x0 x1 x2 x3 x4 w10) else ((eGR w10 x0 8 3).bind fun v12 => (fX7_put v12 x5 (((v3 + (1 : Int32)) + v8) + t0) w10).bind fun w13 => fX8_goOn_110 K5 x0 x1 x2 (1 : Int32) x4 w13)
set_option maxRecDepth 20000 in
theorem sX8_goOn_51 {K5 : Nat → Int32 → Int32 → Int32 → Int32 → eW → Option (Int32 × eW)} (hK5 : ∀ (x0 : Nat) (x1 : Int32) (x2 : Int32) (x3 : Int32) (x4 : Int32) (w : eW) (r : Int32 × eW), K5 x0 x1 x2 x3 x4 w = some r → eBN l D cI cZ 2 yX8_goOn cX8_goOn 8 (some .boolean) 5 [(0, .ref x0), (1, .int x1), (2, .int x2), (3, .int x3), (4, .int x4)] [] w (some (.int r.1)) r.2) (x0 : Nat) (x1 : Int32) (x2 : Int32) (x3 : Int32) (x4 : Int32) (x5 : Int32) (t0 : Int32) (w : eW) (r : Int32 × eW) (h : fX8_goOn_51 K5 x0 x1 x2 x3 x4 x5 t0 w = some r) : eBN l D cI cZ 2 yX8_goOn cX8_goOn 8 (some .boolean) 51 [(0, .ref x0), (1, .int x1), (2, .int x2), (3, .int x3), (4, .int x4), (5, .int x5)] [.int t0] w (some (.int r.1)) r.2 := by
  rw [fX8_goOn_51] at h
  intro p e s m args below meth c r0 A X
  refine ev_istore (pc := 51) (L' := [(6, .int t0), (0, .ref x0), (1, .int x1), (2, .int x2), (3, .int x3), (4, .int x4), (5, .int x5)]) X dX8_goOn_51 (by decide) rfl ?_
  refine ev_aload_n (pc := 53) X 1 dX8_goOn_53 rfl rfl ?_
  obtain ⟨v1, hv1, h⟩ := eBi h
  refine ev_getR (pc := 54) X hcX8 (k := 3) (by decide) kfX8_14 dX8_goOn_54 hv1 ?_
  refine ev_iload_n (pc := 57) X 2 dX8_goOn_57 rfl rfl ?_
  obtain ⟨v3, w2, hc, h⟩ := eB2 h
  refine ev_callV_i (pc := 58) (As := [.int x1]) (S := []) X hwX7_get klX8_50 hiX7_get hsX7_get (ci := 7) ⟨rfl, rfl⟩ ⟨Nat.le_of_ble_eq_true rfl, Nat.le_of_ble_eq_true rfl⟩ ⟨Nat.le_refl _, Nat.le_refl _⟩ rfl (Nat.le_of_ble_eq_true rfl) dX8_goOn_58 rfl (mX7_get (l := l) (D := D) (cI := cI) (cZ := cZ) hc).1 (mX7_get hc).2 ?_
  refine ev_iconst (pc := 61) (v := (1 : Int32)) X dX8_goOn_61 rfl ?_
  refine ev_iadd (pc := 62) X dX8_goOn_62 ?_
  refine ev_aload_n (pc := 63) X 1 dX8_goOn_63 rfl rfl ?_
  obtain ⟨v4, hv4, h⟩ := eBi h
  refine ev_getR (pc := 64) X hcX8 (k := 0) (by decide) kfX8_20 dX8_goOn_64 hv4 ?_
  refine ev_iload_n (pc := 67) X 2 dX8_goOn_67 rfl rfl ?_
  refine ev_iload (pc := 68) X 6 dX8_goOn_68 rfl ?_
  obtain ⟨v6, w5, hc, h⟩ := eB2 h
  refine ev_callV_i (pc := 70) (As := [.int x1, .int x5]) (S := [.int (v3 + (1 : Int32))]) X hwX1_step klX8_70 hiX1_step hsX1_step (ci := 1) ⟨rfl, rfl⟩ ⟨Nat.le_of_ble_eq_true rfl, Nat.le_of_ble_eq_true rfl⟩ ⟨Nat.le_refl _, Nat.le_refl _⟩ rfl (Nat.le_of_ble_eq_true rfl) dX8_goOn_70 rfl (mX1_step (l := l) (D := D) (cI := cI) (cZ := cZ) hc).1 (mX1_step hc).2 ?_
  refine ev_iconst (pc := 73) (v := (0 : Int32)) X dX8_goOn_73 rfl ?_
  obtain ⟨v8, w7, hc, h⟩ := eB2 h
  refine ev_callS_i (pc := 74) (As := [.int v6, .int (0 : Int32)]) (S := [.int (v3 + (1 : Int32))]) X hwJ9_max_7cf53 klX8_73 htJ9_max_7cf53 ⟨Nat.le_of_ble_eq_true rfl, Nat.le_of_ble_eq_true rfl⟩ ⟨Nat.le_refl _, Nat.le_refl _⟩ rfl (Nat.le_of_ble_eq_true rfl) dX8_goOn_74 rfl (mJ9_max_7cf53 hc) ?_
  refine ev_iadd (pc := 77) X dX8_goOn_77 ?_
  refine ev_iload (pc := 78) X 0 dX8_goOn_78 rfl ?_
  refine ev_iadd (pc := 80) X dX8_goOn_80 ?_
  refine ev_istore (pc := 81) (L' := [(7, .int (((v3 + (1 : Int32)) + v8) + t0)), (6, .int t0), (0, .ref x0), (1, .int x1), (2, .int x2), (3, .int x3), (4, .int x4), (5, .int x5)]) X dX8_goOn_81 (by decide) rfl ?_
  refine ev_iload (pc := 83) X 0 dX8_goOn_83 rfl ?_
  refine ev_aload_n (pc := 85) X 2 dX8_goOn_85 rfl rfl ?_
  obtain ⟨v9, hv9, h⟩ := eBi h
  refine ev_getR (pc := 86) X hcX8 (k := 3) (by decide) kfX8_14 dX8_goOn_86 hv9 ?_
  refine ev_iload (pc := 89) X 7 dX8_goOn_89 rfl ?_
  obtain ⟨v11, w10, hc, h⟩ := eB2 h
  refine ev_callV_i (pc := 91) (As := [.int x5]) (S := [.int (((v3 + (1 : Int32)) + v8) + t0)]) X hwX7_get klX8_50 hiX7_get hsX7_get (ci := 7) ⟨rfl, rfl⟩ ⟨Nat.le_of_ble_eq_true rfl, Nat.le_of_ble_eq_true rfl⟩ ⟨Nat.le_refl _, Nat.le_refl _⟩ rfl (Nat.le_of_ble_eq_true rfl) dX8_goOn_91 rfl (mX7_get (l := l) (D := D) (cI := cI) (cZ := cZ) hc).1 (mX7_get hc).2 ?_
  refine ev_icmp_ge (pc := 94) X 110 dX8_goOn_94 rfl (fun hc => ?_) (fun hc => ?_)
  · rw [if_pos hc] at h
    exact ev_weak (pc := 110) [2, 3, 4, 5, 6] rfl (sX8_goOn_110 hK5 _ _ _ _ _ _ _ h p e s m args below meth c r0 A X)
  · rw [if_neg hc] at h
    refine ev_aload_n (pc := 97) X 2 dX8_goOn_97 rfl rfl ?_
    obtain ⟨v12, hv12, h⟩ := eBi h
    refine ev_getR (pc := 98) X hcX8 (k := 3) (by decide) kfX8_14 dX8_goOn_98 hv12 ?_
    refine ev_iload (pc := 101) X 7 dX8_goOn_101 rfl ?_
    refine ev_iload (pc := 103) X 0 dX8_goOn_103 rfl ?_
    obtain ⟨w13, hc, h⟩ := eBi h
    refine ev_callV_v (pc := 105) (As := [.int x5, .int (((v3 + (1 : Int32)) + v8) + t0)]) (S := []) X hwX7_put klX8_41 hiX7_put hsX7_put (ci := 7) ⟨rfl, rfl⟩ ⟨Nat.le_of_ble_eq_true rfl, Nat.le_of_ble_eq_true rfl⟩ ⟨Nat.le_refl _, Nat.le_refl _⟩ rfl (Nat.le_of_ble_eq_true rfl) dX8_goOn_105 rfl (mX7_put (l := l) (D := D) (cI := cI) (cZ := cZ) hc).1 (mX7_put hc).2 ?_
    refine ev_iconst (pc := 108) (v := (1 : Int32)) X dX8_goOn_108 rfl ?_
    refine ev_istore_n (pc := 109) (L' := [(3, .int (1 : Int32)), (7, .int (((v3 + (1 : Int32)) + v8) + t0)), (6, .int t0), (0, .ref x0), (1, .int x1), (2, .int x2), (4, .int x4), (5, .int x5)]) X dX8_goOn_109 rfl (by decide) rfl ?_
    exact ev_weak (pc := 110) [3, 4, 5, 0, 6] rfl (sX8_goOn_110 hK5 _ _ _ _ _ _ _ h p e s m args below meth c r0 A X)
def fX8_goOn_5 : Nat → Nat → Int32 → Int32 → Int32 → Int32 → eW → Option (Int32 × eW)
  | 0, _, _, _, _, _, _ => none
  | n + 1, x0, x1, x2, x3, x4, w => if (4 : Int32) ≤ x4 then ((eZ x3).bind fun v1 => some (v1, w)) else ((eGR w x0 8 2).bind fun v2 => eBind2 (fX6_goes v2 x1 x4 w) fun v4 w3 => if v4 = 0 then (fX8_goOn_110 (fX8_goOn_5 n) x0 x1 x2 x3 x4 w3) else ((eGR w3 x0 8 0).bind fun v5 => eBind2 (fX1_neighbour v5 x1 x4 w3) fun v7 w6 => eBind2 (fX10_bit v7 w6) fun v9 w8 => if (x2 &&& v9) = 0 then (fX8_goOn_51 (fX8_goOn_5 n) x0 x1 x2 x3 x4 v7 (0 : Int32) w8) else (fX8_goOn_51 (fX8_goOn_5 n) x0 x1 x2 x3 x4 v7 (1 : Int32) w8)))
set_option maxRecDepth 20000 in
theorem sX8_goOn_5  : ∀ (n : Nat) (x0 : Nat) (x1 : Int32) (x2 : Int32) (x3 : Int32) (x4 : Int32) (w : eW) (r : Int32 × eW), fX8_goOn_5 n x0 x1 x2 x3 x4 w = some r → eBN l D cI cZ 2 yX8_goOn cX8_goOn 8 (some .boolean) 5 [(0, .ref x0), (1, .int x1), (2, .int x2), (3, .int x3), (4, .int x4)] [] w (some (.int r.1)) r.2 := by
  intro n
  induction n with
  | zero => intro x0 x1 x2 x3 x4 w r h; exact absurd (show (none : Option (Int32 × eW)) = some r from h) (by simp)
  | succ n ih =>
    intro x0 x1 x2 x3 x4 w r h
    rw [fX8_goOn_5] at h
    intro p e s m args below meth c r0 A X
    refine ev_iload (pc := 5) X 4 dX8_goOn_5 rfl ?_
    refine ev_iconst (pc := 7) (v := (4 : Int32)) X dX8_goOn_7 rfl ?_
    refine ev_icmp_ge (pc := 8) X 116 dX8_goOn_8 rfl (fun hc => ?_) (fun hc => ?_)
    · rw [if_pos hc] at h
      refine ev_iload_n (pc := 116) X 3 dX8_goOn_116 rfl rfl ?_
      obtain ⟨v1, hv1, h⟩ := eBi h
      obtain rfl := Option.some.inj h
      exact ev_zret (pc := 117) X dX8_goOn_117 hv1
    · rw [if_neg hc] at h
      refine ev_aload_n (pc := 11) X 0 dX8_goOn_11 rfl rfl ?_
      obtain ⟨v2, hv2, h⟩ := eBi h
      refine ev_getR (pc := 12) X hcX8 (k := 2) (by decide) kfX8_28 dX8_goOn_12 hv2 ?_
      refine ev_iload_n (pc := 15) X 1 dX8_goOn_15 rfl rfl ?_
      refine ev_iload (pc := 16) X 4 dX8_goOn_16 rfl ?_
      obtain ⟨v4, w3, hc, h⟩ := eB2 h
      refine ev_callV_i (pc := 18) (As := [.int x1, .int x4]) (S := []) X hwX6_goes klX8_58 hiX6_goes hsX6_goes (ci := 6) ⟨rfl, rfl⟩ ⟨Nat.le_of_ble_eq_true rfl, Nat.le_of_ble_eq_true rfl⟩ ⟨Nat.le_refl _, Nat.le_refl _⟩ rfl (Nat.le_of_ble_eq_true rfl) dX8_goOn_18 rfl (mX6_goes (l := l) (D := D) (cI := cI) (cZ := cZ) hc).1 (mX6_goes hc).2 ?_
      refine ev_if_eq (pc := 21) X 110 dX8_goOn_21 rfl (fun hc => ?_) (fun hc => ?_)
      · rw [if_pos hc] at h
        exact ev_weak (pc := 110) [0, 1, 2, 3, 4] rfl (sX8_goOn_110 (fun _ _ _ _ _ w r hh => ih _ _ _ _ _ w r hh) _ _ _ _ _ _ _ h p e s m args below meth c r0 A X)
      · rw [if_neg hc] at h
        refine ev_aload_n (pc := 24) X 0 dX8_goOn_24 rfl rfl ?_
        obtain ⟨v5, hv5, h⟩ := eBi h
        refine ev_getR (pc := 25) X hcX8 (k := 0) (by decide) kfX8_20 dX8_goOn_25 hv5 ?_
        refine ev_iload_n (pc := 28) X 1 dX8_goOn_28 rfl rfl ?_
        refine ev_iload (pc := 29) X 4 dX8_goOn_29 rfl ?_
        obtain ⟨v7, w6, hc, h⟩ := eB2 h
        refine ev_callV_i (pc := 31) (As := [.int x1, .int x4]) (S := []) X hwX1_neighbour klX8_63 hiX1_neighbour hsX1_neighbour (ci := 1) ⟨rfl, rfl⟩ ⟨Nat.le_of_ble_eq_true rfl, Nat.le_of_ble_eq_true rfl⟩ ⟨Nat.le_refl _, Nat.le_refl _⟩ rfl (Nat.le_of_ble_eq_true rfl) dX8_goOn_31 rfl (mX1_neighbour (l := l) (D := D) (cI := cI) (cZ := cZ) hc).1 (mX1_neighbour hc).2 ?_
        refine ev_istore (pc := 34) (L' := [(5, .int v7), (0, .ref x0), (1, .int x1), (2, .int x2), (3, .int x3), (4, .int x4)]) X dX8_goOn_34 (by decide) rfl ?_
        refine ev_iload_n (pc := 36) X 3 dX8_goOn_36 rfl rfl ?_
        refine ev_iload (pc := 37) X 0 dX8_goOn_37 rfl ?_
        obtain ⟨v9, w8, hc, h⟩ := eB2 h
        refine ev_callSN_i (pc := 39) (As := [.int v7]) (S := [.int x2]) X hwX10_bit knX8_67 htX10_bit ⟨Nat.le_of_ble_eq_true rfl, Nat.le_of_ble_eq_true rfl⟩ ⟨Nat.le_refl _, Nat.le_refl _⟩ rfl (Nat.le_of_ble_eq_true rfl) dX8_goOn_39 rfl (mX10_bit hc) ?_
        refine ev_iand (pc := 42) X dX8_goOn_42 ?_
        refine ev_if_eq (pc := 43) X 50 dX8_goOn_43 rfl (fun hc => ?_) (fun hc => ?_)
        · rw [if_pos hc] at h
          refine ev_iconst (pc := 50) (v := (0 : Int32)) X dX8_goOn_50 rfl ?_
          exact ev_weak (pc := 51) [1, 2, 3, 4, 5, 0] rfl (sX8_goOn_51 (fun _ _ _ _ _ w r hh => ih _ _ _ _ _ w r hh) _ _ _ _ _ _ _ _ _ h p e s m args below meth c r0 A X)
        · rw [if_neg hc] at h
          refine ev_iconst (pc := 46) (v := (1 : Int32)) X dX8_goOn_46 rfl ?_
          refine ev_goto (pc := 47) X 51 dX8_goOn_47 rfl ?_
          exact ev_weak (pc := 51) [1, 2, 3, 4, 5, 0] rfl (sX8_goOn_51 (fun _ _ _ _ _ w r hh => ih _ _ _ _ _ w r hh) _ _ _ _ _ _ _ _ _ h p e s m args below meth c r0 A X)
def fX8_goOn_0 (x0 : Nat) (x1 : Int32) (x2 : Int32) (w : eW) : Option (Int32 × eW) := fX8_goOn_5 eN x0 x1 x2 (0 : Int32) (0 : Int32) w
set_option maxRecDepth 20000 in
theorem sX8_goOn_0  (x0 : Nat) (x1 : Int32) (x2 : Int32) (w : eW) (r : Int32 × eW) (h : fX8_goOn_0 x0 x1 x2 w = some r) : eBN l D cI cZ 2 yX8_goOn cX8_goOn 8 (some .boolean) 0 [(0, .ref x0), (1, .int x1), (2, .int x2)] [] w (some (.int r.1)) r.2 := by
  rw [fX8_goOn_0] at h
  intro p e s m args below meth c r0 A X
  refine ev_iconst (pc := 0) (v := (0 : Int32)) X dX8_goOn_0 rfl ?_
  refine ev_istore_n (pc := 1) (L' := [(3, .int (0 : Int32)), (0, .ref x0), (1, .int x1), (2, .int x2)]) X dX8_goOn_1 rfl (by decide) rfl ?_
  refine ev_iconst (pc := 2) (v := (0 : Int32)) X dX8_goOn_2 rfl ?_
  refine ev_istore (pc := 3) (L' := [(4, .int (0 : Int32)), (3, .int (0 : Int32)), (0, .ref x0), (1, .int x1), (2, .int x2)]) X dX8_goOn_3 (by decide) rfl ?_
  exact ev_weak (pc := 5) [2, 3, 4, 1, 0] rfl (sX8_goOn_5 eN _ _ _ _ _ _ _ h p e s m args below meth c r0 A X)
def fX8_goOn (a0 : Nat) (a1 : Int32) (a2 : Int32) (w : eW) : Option (Int32 × eW) := bif eO w a0 8 then fX8_goOn_0 a0 a1 a2 w else none
theorem mX8_goOn {a0 : Nat} {a1 : Int32} {a2 : Int32} {w : eW} {v : Int32} {w' : eW} (h : fX8_goOn a0 a1 a2 w = some (v, w')) : eO w a0 8 = true ∧ eMN l D cI cZ 2 yX8_goOn cX8_goOn 8 (some .boolean) [.ref a0, .int a1, .int a2] w (some (.int v)) w' := by
  obtain ⟨h0, h⟩ := eBif h
  exact ⟨h0, eMN_of [(0, .ref a0), (1, .int a1), (2, .int a2)] (plainFor_of_name (by decide)) (fun _ => rfl) (fun _ => Nat.le_of_ble_eq_true rfl) (fun p e s m args below meth c r0 A X => ev_weak (pc := 0) [0, 1, 2] rfl (sX8_goOn_0 _ _ _ _ _ h p e s m args below meth c r0 A X))⟩
theorem dX8_soonest_0 : decode cX8_soonest 0 = .ok (.aload_n 0, 1) := by decide +kernel
theorem dX8_soonest_1 : decode cX8_soonest 1 = .ok (.getfield 24, 3) := by decide +kernel
theorem dX8_soonest_4 : decode cX8_soonest 4 = .ok (.invokevirtual 32, 3) := by decide +kernel
theorem dX8_soonest_7 : decode cX8_soonest 7 = .ok (.istore_n 3, 1) := by decide +kernel
theorem dX8_soonest_8 : decode cX8_soonest 8 = .ok (.aload_n 0, 1) := by decide +kernel
theorem dX8_soonest_9 : decode cX8_soonest 9 = .ok (.getfield 14, 3) := by decide +kernel
theorem dX8_soonest_12 : decode cX8_soonest 12 = .ok (.sipush 1000, 3) := by decide +kernel
theorem dX8_soonest_15 : decode cX8_soonest 15 = .ok (.invokevirtual 38, 3) := by decide +kernel
theorem dX8_soonest_18 : decode cX8_soonest 18 = .ok (.aload_n 0, 1) := by decide +kernel
theorem dX8_soonest_19 : decode cX8_soonest 19 = .ok (.getfield 14, 3) := by decide +kernel
theorem dX8_soonest_22 : decode cX8_soonest 22 = .ok (.iload_n 1, 1) := by decide +kernel
theorem dX8_soonest_23 : decode cX8_soonest 23 = .ok (.iconst 0, 1) := by decide +kernel
theorem dX8_soonest_24 : decode cX8_soonest 24 = .ok (.invokevirtual 41, 3) := by decide +kernel
theorem dX8_soonest_27 : decode cX8_soonest 27 = .ok (.iconst 1, 1) := by decide +kernel
theorem dX8_soonest_28 : decode cX8_soonest 28 = .ok (.istore 4, 2) := by decide +kernel
theorem dX8_soonest_30 : decode cX8_soonest 30 = .ok (.iconst 0, 1) := by decide +kernel
theorem dX8_soonest_31 : decode cX8_soonest 31 = .ok (.istore 5, 2) := by decide +kernel
theorem dX8_soonest_33 : decode cX8_soonest 33 = .ok (.iload 5, 2) := by decide +kernel
theorem dX8_soonest_35 : decode cX8_soonest 35 = .ok (.bipush 20, 2) := by decide +kernel
theorem dX8_soonest_37 : decode cX8_soonest 37 = .ok (.if_icmp .ge 73, 3) := by decide +kernel
theorem dX8_soonest_40 : decode cX8_soonest 40 = .ok (.iload 4, 2) := by decide +kernel
theorem dX8_soonest_42 : decode cX8_soonest 42 = .ok (.ifCond .eq 68, 3) := by decide +kernel
theorem dX8_soonest_45 : decode cX8_soonest 45 = .ok (.iconst 0, 1) := by decide +kernel
theorem dX8_soonest_46 : decode cX8_soonest 46 = .ok (.istore 4, 2) := by decide +kernel
theorem dX8_soonest_48 : decode cX8_soonest 48 = .ok (.iconst 0, 1) := by decide +kernel
theorem dX8_soonest_49 : decode cX8_soonest 49 = .ok (.istore 6, 2) := by decide +kernel
theorem dX8_soonest_51 : decode cX8_soonest 51 = .ok (.iload 6, 2) := by decide +kernel
theorem dX8_soonest_53 : decode cX8_soonest 53 = .ok (.aload_n 0, 1) := by decide +kernel
theorem dX8_soonest_54 : decode cX8_soonest 54 = .ok (.getfield 20, 3) := by decide +kernel
theorem dX8_soonest_57 : decode cX8_soonest 57 = .ok (.invokevirtual 45, 3) := by decide +kernel
theorem dX8_soonest_60 : decode cX8_soonest 60 = .ok (.if_icmp .ge 44, 3) := by decide +kernel
theorem dX8_soonest_63 : decode cX8_soonest 63 = .ok (.iload 4, 2) := by decide +kernel
theorem dX8_soonest_65 : decode cX8_soonest 65 = .ok (.aload_n 0, 1) := by decide +kernel
theorem dX8_soonest_66 : decode cX8_soonest 66 = .ok (.getfield 14, 3) := by decide +kernel
theorem dX8_soonest_69 : decode cX8_soonest 69 = .ok (.iload 6, 2) := by decide +kernel
theorem dX8_soonest_71 : decode cX8_soonest 71 = .ok (.invokevirtual 50, 3) := by decide +kernel
theorem dX8_soonest_74 : decode cX8_soonest 74 = .ok (.sipush 1000, 3) := by decide +kernel
theorem dX8_soonest_77 : decode cX8_soonest 77 = .ok (.if_icmp .ge 17, 3) := by decide +kernel
theorem dX8_soonest_80 : decode cX8_soonest 80 = .ok (.aload_n 0, 1) := by decide +kernel
theorem dX8_soonest_81 : decode cX8_soonest 81 = .ok (.iload 6, 2) := by decide +kernel
theorem dX8_soonest_83 : decode cX8_soonest 83 = .ok (.iload_n 3, 1) := by decide +kernel
theorem dX8_soonest_84 : decode cX8_soonest 84 = .ok (.invokevirtual 54, 3) := by decide +kernel
theorem dX8_soonest_87 : decode cX8_soonest 87 = .ok (.ifCond .eq 7, 3) := by decide +kernel
theorem dX8_soonest_90 : decode cX8_soonest 90 = .ok (.iconst 1, 1) := by decide +kernel
theorem dX8_soonest_91 : decode cX8_soonest 91 = .ok (.goto 4, 3) := by decide +kernel
theorem dX8_soonest_94 : decode cX8_soonest 94 = .ok (.iconst 0, 1) := by decide +kernel
theorem dX8_soonest_95 : decode cX8_soonest 95 = .ok (.ior, 1) := by decide +kernel
theorem dX8_soonest_96 : decode cX8_soonest 96 = .ok (.istore 4, 2) := by decide +kernel
theorem dX8_soonest_98 : decode cX8_soonest 98 = .ok (.iinc 6 1, 3) := by decide +kernel
theorem dX8_soonest_101 : decode cX8_soonest 101 = .ok (.goto (-50), 3) := by decide +kernel
theorem dX8_soonest_104 : decode cX8_soonest 104 = .ok (.iinc 5 1, 3) := by decide +kernel
theorem dX8_soonest_107 : decode cX8_soonest 107 = .ok (.goto (-74), 3) := by decide +kernel
theorem dX8_soonest_110 : decode cX8_soonest 110 = .ok (.aload_n 0, 1) := by decide +kernel
theorem dX8_soonest_111 : decode cX8_soonest 111 = .ok (.getfield 14, 3) := by decide +kernel
theorem dX8_soonest_114 : decode cX8_soonest 114 = .ok (.iload_n 2, 1) := by decide +kernel
theorem dX8_soonest_115 : decode cX8_soonest 115 = .ok (.invokevirtual 50, 3) := by decide +kernel
theorem dX8_soonest_118 : decode cX8_soonest 118 = .ok (.sipush 1000, 3) := by decide +kernel
theorem dX8_soonest_121 : decode cX8_soonest 121 = .ok (.if_icmp .ge 14, 3) := by decide +kernel
theorem dX8_soonest_124 : decode cX8_soonest 124 = .ok (.aload_n 0, 1) := by decide +kernel
theorem dX8_soonest_125 : decode cX8_soonest 125 = .ok (.getfield 14, 3) := by decide +kernel
theorem dX8_soonest_128 : decode cX8_soonest 128 = .ok (.iload_n 2, 1) := by decide +kernel
theorem dX8_soonest_129 : decode cX8_soonest 129 = .ok (.invokevirtual 50, 3) := by decide +kernel
theorem dX8_soonest_132 : decode cX8_soonest 132 = .ok (.goto 5, 3) := by decide +kernel
theorem dX8_soonest_135 : decode cX8_soonest 135 = .ok (.bipush (-9), 2) := by decide +kernel
theorem dX8_soonest_137 : decode cX8_soonest 137 = .ok (.ireturn, 1) := by decide +kernel
def fX8_soonest_95 (K33 : Nat → Int32 → Int32 → Int32 → Int32 → eW → Option (Int32 × eW)) (K51 : Nat → Int32 → Int32 → Int32 → Int32 → Int32 → eW → Option (Int32 × eW)) (x0 : Nat) (x2 : Int32) (x3 : Int32) (x5 : Int32) (x6 : Int32) (t0 : Int32) (t1 : Int32) (w : eW) : Option (Int32 × eW) := K51 x0 x2 x3 (t0 ||| t1) x5 (x6 + (1 : Int32)) w
set_option maxRecDepth 20000 in
theorem sX8_soonest_95 {K33 : Nat → Int32 → Int32 → Int32 → Int32 → eW → Option (Int32 × eW)} {K51 : Nat → Int32 → Int32 → Int32 → Int32 → Int32 → eW → Option (Int32 × eW)} (hK33 : ∀ (x0 : Nat) (x2 : Int32) (x3 : Int32) (x4 : Int32) (x5 : Int32) (w : eW) (r : Int32 × eW), K33 x0 x2 x3 x4 x5 w = some r → eBN l D cI cZ 5 yX8_soonest cX8_soonest 7 (some .int) 33 [(0, .ref x0), (2, .int x2), (3, .int x3), (4, .int x4), (5, .int x5)] [] w (some (.int r.1)) r.2) (hK51 : ∀ (x0 : Nat) (x2 : Int32) (x3 : Int32) (x4 : Int32) (x5 : Int32) (x6 : Int32) (w : eW) (r : Int32 × eW), K51 x0 x2 x3 x4 x5 x6 w = some r → eBN l D cI cZ 5 yX8_soonest cX8_soonest 7 (some .int) 51 [(0, .ref x0), (2, .int x2), (3, .int x3), (4, .int x4), (5, .int x5), (6, .int x6)] [] w (some (.int r.1)) r.2) (x0 : Nat) (x2 : Int32) (x3 : Int32) (x5 : Int32) (x6 : Int32) (t0 : Int32) (t1 : Int32) (w : eW) (r : Int32 × eW) (h : fX8_soonest_95 K33 K51 x0 x2 x3 x5 x6 t0 t1 w = some r) : eBN l D cI cZ 5 yX8_soonest cX8_soonest 7 (some .int) 95 [(0, .ref x0), (2, .int x2), (3, .int x3), (5, .int x5), (6, .int x6)] [.int t1, .int t0] w (some (.int r.1)) r.2 := by
  rw [fX8_soonest_95] at h
  intro p e s m args below meth c r0 A X
  refine ev_ior (pc := 95) X dX8_soonest_95 ?_
  refine ev_istore (pc := 96) (L' := [(4, .int (t0 ||| t1)), (0, .ref x0), (2, .int x2), (3, .int x3), (5, .int x5), (6, .int x6)]) X dX8_soonest_96 (by decide) rfl ?_
  refine ev_iinc (pc := 98) (v := x6 + (1 : Int32)) (L' := [(6, .int (x6 + (1 : Int32))), (4, .int (t0 ||| t1)), (0, .ref x0), (2, .int x2), (3, .int x3), (5, .int x5)]) X 5 dX8_soonest_98 rfl rfl (by decide) rfl ?_
  refine ev_goto (pc := 101) X 51 dX8_soonest_101 rfl ?_
  exact ev_weak (pc := 51) [2, 3, 4, 1, 5, 0] rfl (hK51 _ _ _ _ _ _ _ _ h p e s m args below meth c r0 A X)
def fX8_soonest_94 (K33 : Nat → Int32 → Int32 → Int32 → Int32 → eW → Option (Int32 × eW)) (K51 : Nat → Int32 → Int32 → Int32 → Int32 → Int32 → eW → Option (Int32 × eW)) (x0 : Nat) (x2 : Int32) (x3 : Int32) (x5 : Int32) (x6 : Int32) (t0 : Int32) (w : eW) : Option (Int32 × eW) := fX8_soonest_95 K33 K51 x0 x2 x3 x5 x6 t0 (0 : Int32) w
set_option maxRecDepth 20000 in
theorem sX8_soonest_94 {K33 : Nat → Int32 → Int32 → Int32 → Int32 → eW → Option (Int32 × eW)} {K51 : Nat → Int32 → Int32 → Int32 → Int32 → Int32 → eW → Option (Int32 × eW)} (hK33 : ∀ (x0 : Nat) (x2 : Int32) (x3 : Int32) (x4 : Int32) (x5 : Int32) (w : eW) (r : Int32 × eW), K33 x0 x2 x3 x4 x5 w = some r → eBN l D cI cZ 5 yX8_soonest cX8_soonest 7 (some .int) 33 [(0, .ref x0), (2, .int x2), (3, .int x3), (4, .int x4), (5, .int x5)] [] w (some (.int r.1)) r.2) (hK51 : ∀ (x0 : Nat) (x2 : Int32) (x3 : Int32) (x4 : Int32) (x5 : Int32) (x6 : Int32) (w : eW) (r : Int32 × eW), K51 x0 x2 x3 x4 x5 x6 w = some r → eBN l D cI cZ 5 yX8_soonest cX8_soonest 7 (some .int) 51 [(0, .ref x0), (2, .int x2), (3, .int x3), (4, .int x4), (5, .int x5), (6, .int x6)] [] w (some (.int r.1)) r.2) (x0 : Nat) (x2 : Int32) (x3 : Int32) (x5 : Int32) (x6 : Int32) (t0 : Int32) (w : eW) (r : Int32 × eW) (h : fX8_soonest_94 K33 K51 x0 x2 x3 x5 x6 t0 w = some r) : eBN l D cI cZ 5 yX8_soonest cX8_soonest 7 (some .int) 94 [(0, .ref x0), (2, .int x2), (3, .int x3), (5, .int x5), (6, .int x6)] [.int t0] w (some (.int r.1)) r.2 := by
  rw [fX8_soonest_94] at h
  intro p e s m args below meth c r0 A X
  refine ev_iconst (pc := 94) (v := (0 : Int32)) X dX8_soonest_94 rfl ?_
  exact ev_weak (pc := 95) [0, 1, 2, 3, 4] rfl (sX8_soonest_95 hK33 hK51 _ _ _ _ _ _ _ _ _ h p e s m args below meth c r0 A X)
def fX8_soonest_51 (K33 : Nat → Int32 → Int32 → Int32 → Int32 → eW → Option (Int32 × eW)) : Nat → Nat → Int32 → Int32 → Int32 → Int32 → Int32 → eW → Option (Int32 × eW)
  | 0, _, _, _, _, _, _, _ => none
  | n + 1, x0, x2, x3, x4, x5, x6, w => (eGR w x0 8 0).bind fun v1 => eBind2 (fX1_cells v1 w) fun v3 w2 => if v3 ≤ x6 then (K33 x0 x2 x3 x4 (x5 + (1 : Int32)) w2) else ((eGR w2 x0 8 3).bind fun v4 => eBind2 (fX7_get v4 x6 w2) fun v6 w5 => if (1000 : Int32) ≤ v6 then (fX8_soonest_94 K33 (fX8_soonest_51 K33 n) x0 x2 x3 x5 x6 x4 w5) else (eBind2 (fX8_goOn x0 x6 x3 w5) fun v8 w7 => if v8 = 0 then (fX8_soonest_94 K33 (fX8_soonest_51 K33 n) x0 x2 x3 x5 x6 x4 w7) else (fX8_soonest_95 K33 (fX8_soonest_51 K33 n) x0 x2 x3 x5 x6 x4 (1 : Int32) w7)))
set_option maxRecDepth 20000 in
theorem sX8_soonest_51 {K33 : Nat → Int32 → Int32 → Int32 → Int32 → eW → Option (Int32 × eW)} (hK33 : ∀ (x0 : Nat) (x2 : Int32) (x3 : Int32) (x4 : Int32) (x5 : Int32) (w : eW) (r : Int32 × eW), K33 x0 x2 x3 x4 x5 w = some r → eBN l D cI cZ 5 yX8_soonest cX8_soonest 7 (some .int) 33 [(0, .ref x0), (2, .int x2), (3, .int x3), (4, .int x4), (5, .int x5)] [] w (some (.int r.1)) r.2) : ∀ (n : Nat) (x0 : Nat) (x2 : Int32) (x3 : Int32) (x4 : Int32) (x5 : Int32) (x6 : Int32) (w : eW) (r : Int32 × eW), fX8_soonest_51 K33 n x0 x2 x3 x4 x5 x6 w = some r → eBN l D cI cZ 5 yX8_soonest cX8_soonest 7 (some .int) 51 [(0, .ref x0), (2, .int x2), (3, .int x3), (4, .int x4), (5, .int x5), (6, .int x6)] [] w (some (.int r.1)) r.2 := by
  intro n
  induction n with
  | zero => intro x0 x2 x3 x4 x5 x6 w r h; exact absurd (show (none : Option (Int32 × eW)) = some r from h) (by simp)
  | succ n ih =>
    intro x0 x2 x3 x4 x5 x6 w r h
    rw [fX8_soonest_51] at h
    intro p e s m args below meth c r0 A X
    refine ev_iload (pc := 51) X 5 dX8_soonest_51 rfl ?_
    refine ev_aload_n (pc := 53) X 0 dX8_soonest_53 rfl rfl ?_
    obtain ⟨v1, hv1, h⟩ := eBi h
    refine ev_getR (pc := 54) X hcX8 (k := 0) (by decide) kfX8_20 dX8_soonest_54 hv1 ?_
    obtain ⟨v3, w2, hc, h⟩ := eB2 h
    refine ev_callV_i (pc := 57) (As := []) (S := [.int x6]) X hwX1_cells klX8_45 hiX1_cells hsX1_cells (ci := 1) ⟨rfl, rfl⟩ ⟨Nat.le_of_ble_eq_true rfl, Nat.le_of_ble_eq_true rfl⟩ ⟨Nat.le_refl _, Nat.le_refl _⟩ rfl (Nat.le_of_ble_eq_true rfl) dX8_soonest_57 rfl (mX1_cells (l := l) (D := D) (cI := cI) (cZ := cZ) hc).1 (mX1_cells hc).2 ?_
    refine ev_icmp_ge (pc := 60) X 104 dX8_soonest_60 rfl (fun hc => ?_) (fun hc => ?_)
    · rw [if_pos hc] at h
      refine ev_iinc (pc := 104) (v := x5 + (1 : Int32)) (L' := [(5, .int (x5 + (1 : Int32))), (0, .ref x0), (2, .int x2), (3, .int x3), (4, .int x4), (6, .int x6)]) X 4 dX8_soonest_104 rfl rfl (by decide) rfl ?_
      refine ev_goto (pc := 107) X 33 dX8_soonest_107 rfl ?_
      exact ev_weak (pc := 33) [1, 2, 3, 4, 0] rfl (hK33 _ _ _ _ _ _ _ h p e s m args below meth c r0 A X)
    · rw [if_neg hc] at h
      refine ev_iload (pc := 63) X 3 dX8_soonest_63 rfl ?_
      refine ev_aload_n (pc := 65) X 0 dX8_soonest_65 rfl rfl ?_
      obtain ⟨v4, hv4, h⟩ := eBi h
      refine ev_getR (pc := 66) X hcX8 (k := 3) (by decide) kfX8_14 dX8_soonest_66 hv4 ?_
      refine ev_iload (pc := 69) X 5 dX8_soonest_69 rfl ?_
      obtain ⟨v6, w5, hc, h⟩ := eB2 h
      refine ev_callV_i (pc := 71) (As := [.int x6]) (S := [.int x4]) X hwX7_get klX8_50 hiX7_get hsX7_get (ci := 7) ⟨rfl, rfl⟩ ⟨Nat.le_of_ble_eq_true rfl, Nat.le_of_ble_eq_true rfl⟩ ⟨Nat.le_refl _, Nat.le_refl _⟩ rfl (Nat.le_of_ble_eq_true rfl) dX8_soonest_71 rfl (mX7_get (l := l) (D := D) (cI := cI) (cZ := cZ) hc).1 (mX7_get hc).2 ?_
      refine ev_sipush (pc := 74) (v := (1000 : Int32)) X dX8_soonest_74 rfl ?_
      refine ev_icmp_ge (pc := 77) X 94 dX8_soonest_77 rfl (fun hc => ?_) (fun hc => ?_)
      · rw [if_pos hc] at h
        exact ev_weak (pc := 94) [0, 1, 2, 4, 5] rfl (sX8_soonest_94 hK33 (fun _ _ _ _ _ _ w r hh => ih _ _ _ _ _ _ w r hh) _ _ _ _ _ _ _ _ h p e s m args below meth c r0 A X)
      · rw [if_neg hc] at h
        refine ev_aload_n (pc := 80) X 0 dX8_soonest_80 rfl rfl ?_
        refine ev_iload (pc := 81) X 5 dX8_soonest_81 rfl ?_
        refine ev_iload_n (pc := 83) X 2 dX8_soonest_83 rfl rfl ?_
        obtain ⟨v8, w7, hc, h⟩ := eB2 h
        refine ev_callV_i (pc := 84) (As := [.int x6, .int x3]) (S := [.int x4]) X hwX8_goOn klX8_54 hiX8_goOn hsX8_goOn (ci := 8) ⟨rfl, rfl⟩ ⟨Nat.le_of_ble_eq_true rfl, Nat.le_of_ble_eq_true rfl⟩ ⟨Nat.le_refl _, Nat.le_refl _⟩ rfl (Nat.le_of_ble_eq_true rfl) dX8_soonest_84 rfl (mX8_goOn (l := l) (D := D) (cI := cI) (cZ := cZ) hc).1 (mX8_goOn hc).2 ?_
        refine ev_if_eq (pc := 87) X 94 dX8_soonest_87 rfl (fun hc => ?_) (fun hc => ?_)
        · rw [if_pos hc] at h
          exact ev_weak (pc := 94) [0, 1, 2, 4, 5] rfl (sX8_soonest_94 hK33 (fun _ _ _ _ _ _ w r hh => ih _ _ _ _ _ _ w r hh) _ _ _ _ _ _ _ _ h p e s m args below meth c r0 A X)
        · rw [if_neg hc] at h
          refine ev_iconst (pc := 90) (v := (1 : Int32)) X dX8_soonest_90 rfl ?_
          refine ev_goto (pc := 91) X 95 dX8_soonest_91 rfl ?_
          exact ev_weak (pc := 95) [0, 1, 2, 4, 5] rfl (sX8_soonest_95 hK33 (fun _ _ _ _ _ _ w r hh => ih _ _ _ _ _ _ w r hh) _ _ _ _ _ _ _ _ _ h p e s m args below meth c r0 A X)
def fX8_soonest_110 (x0 : Nat) (x2 : Int32) (w : eW) : Option (Int32 × eW) := (eGR w x0 8 3).bind fun v1 => eBind2 (fX7_get v1 x2 w) fun v3 w2 => if (1000 : Int32) ≤ v3 then (some ((-9 : Int32), w2)) else ((eGR w2 x0 8 3).bind fun v4 => eBind2 (fX7_get v4 x2 w2) fun v6 w5 => some (v6, w5))
set_option maxRecDepth 20000 in
theorem sX8_soonest_110  (x0 : Nat) (x2 : Int32) (w : eW) (r : Int32 × eW) (h : fX8_soonest_110 x0 x2 w = some r) : eBN l D cI cZ 5 yX8_soonest cX8_soonest 7 (some .int) 110 [(0, .ref x0), (2, .int x2)] [] w (some (.int r.1)) r.2 := by
  rw [fX8_soonest_110] at h
  intro p e s m args below meth c r0 A X
  refine ev_aload_n (pc := 110) X 0 dX8_soonest_110 rfl rfl ?_
  obtain ⟨v1, hv1, h⟩ := eBi h
  refine ev_getR (pc := 111) X hcX8 (k := 3) (by decide) kfX8_14 dX8_soonest_111 hv1 ?_
  refine ev_iload_n (pc := 114) X 1 dX8_soonest_114 rfl rfl ?_
  obtain ⟨v3, w2, hc, h⟩ := eB2 h
  refine ev_callV_i (pc := 115) (As := [.int x2]) (S := []) X hwX7_get klX8_50 hiX7_get hsX7_get (ci := 7) ⟨rfl, rfl⟩ ⟨Nat.le_of_ble_eq_true rfl, Nat.le_of_ble_eq_true rfl⟩ ⟨Nat.le_refl _, Nat.le_refl _⟩ rfl (Nat.le_of_ble_eq_true rfl) dX8_soonest_115 rfl (mX7_get (l := l) (D := D) (cI := cI) (cZ := cZ) hc).1 (mX7_get hc).2 ?_
  refine ev_sipush (pc := 118) (v := (1000 : Int32)) X dX8_soonest_118 rfl ?_
  refine ev_icmp_ge (pc := 121) X 135 dX8_soonest_121 rfl (fun hc => ?_) (fun hc => ?_)
  · rw [if_pos hc] at h
    refine ev_bipush (pc := 135) (v := (-9 : Int32)) X dX8_soonest_135 rfl ?_
    obtain rfl := Option.some.inj h
    exact ev_iret (pc := 137) X dX8_soonest_137
  · rw [if_neg hc] at h
    refine ev_aload_n (pc := 124) X 0 dX8_soonest_124 rfl rfl ?_
    obtain ⟨v4, hv4, h⟩ := eBi h
    refine ev_getR (pc := 125) X hcX8 (k := 3) (by decide) kfX8_14 dX8_soonest_125 hv4 ?_
    refine ev_iload_n (pc := 128) X 1 dX8_soonest_128 rfl rfl ?_
    obtain ⟨v6, w5, hc, h⟩ := eB2 h
    refine ev_callV_i (pc := 129) (As := [.int x2]) (S := []) X hwX7_get klX8_50 hiX7_get hsX7_get (ci := 7) ⟨rfl, rfl⟩ ⟨Nat.le_of_ble_eq_true rfl, Nat.le_of_ble_eq_true rfl⟩ ⟨Nat.le_refl _, Nat.le_refl _⟩ rfl (Nat.le_of_ble_eq_true rfl) dX8_soonest_129 rfl (mX7_get (l := l) (D := D) (cI := cI) (cZ := cZ) hc).1 (mX7_get hc).2 ?_
    refine ev_goto (pc := 132) X 137 dX8_soonest_132 rfl ?_
    obtain rfl := Option.some.inj h
    exact ev_iret (pc := 137) X dX8_soonest_137
def fX8_soonest_33 : Nat → Nat → Int32 → Int32 → Int32 → Int32 → eW → Option (Int32 × eW)
  | 0, _, _, _, _, _, _ => none
  | n + 1, x0, x2, x3, x4, x5, w => if (20 : Int32) ≤ x5 then (fX8_soonest_110 x0 x2 w) else (if x4 = 0 then (fX8_soonest_110 x0 x2 w) else (fX8_soonest_51 (fX8_soonest_33 n) eN x0 x2 x3 (0 : Int32) x5 (0 : Int32) w))
set_option maxRecDepth 20000 in
theorem sX8_soonest_33  : ∀ (n : Nat) (x0 : Nat) (x2 : Int32) (x3 : Int32) (x4 : Int32) (x5 : Int32) (w : eW) (r : Int32 × eW), fX8_soonest_33 n x0 x2 x3 x4 x5 w = some r → eBN l D cI cZ 5 yX8_soonest cX8_soonest 7 (some .int) 33 [(0, .ref x0), (2, .int x2), (3, .int x3), (4, .int x4), (5, .int x5)] [] w (some (.int r.1)) r.2 := by
  intro n
  induction n with
  | zero => intro x0 x2 x3 x4 x5 w r h; exact absurd (show (none : Option (Int32 × eW)) = some r from h) (by simp)
  | succ n ih =>
    intro x0 x2 x3 x4 x5 w r h
    rw [fX8_soonest_33] at h
    intro p e s m args below meth c r0 A X
    refine ev_iload (pc := 33) X 4 dX8_soonest_33 rfl ?_
    refine ev_bipush (pc := 35) (v := (20 : Int32)) X dX8_soonest_35 rfl ?_
    refine ev_icmp_ge (pc := 37) X 110 dX8_soonest_37 rfl (fun hc => ?_) (fun hc => ?_)
    · rw [if_pos hc] at h
      exact ev_weak (pc := 110) [0, 1] rfl (sX8_soonest_110 _ _ _ _ h p e s m args below meth c r0 A X)
    · rw [if_neg hc] at h
      refine ev_iload (pc := 40) X 3 dX8_soonest_40 rfl ?_
      refine ev_if_eq (pc := 42) X 110 dX8_soonest_42 rfl (fun hc => ?_) (fun hc => ?_)
      · rw [if_pos hc] at h
        exact ev_weak (pc := 110) [0, 1] rfl (sX8_soonest_110 _ _ _ _ h p e s m args below meth c r0 A X)
      · rw [if_neg hc] at h
        refine ev_iconst (pc := 45) (v := (0 : Int32)) X dX8_soonest_45 rfl ?_
        refine ev_istore (pc := 46) (L' := [(4, .int (0 : Int32)), (0, .ref x0), (2, .int x2), (3, .int x3), (5, .int x5)]) X dX8_soonest_46 (by decide) rfl ?_
        refine ev_iconst (pc := 48) (v := (0 : Int32)) X dX8_soonest_48 rfl ?_
        refine ev_istore (pc := 49) (L' := [(6, .int (0 : Int32)), (4, .int (0 : Int32)), (0, .ref x0), (2, .int x2), (3, .int x3), (5, .int x5)]) X dX8_soonest_49 (by decide) rfl ?_
        exact ev_weak (pc := 51) [2, 3, 4, 1, 5, 0] rfl (sX8_soonest_51 (fun _ _ _ _ _ w r hh => ih _ _ _ _ _ w r hh) eN _ _ _ _ _ _ _ _ h p e s m args below meth c r0 A X)
def fX8_soonest_0 (x0 : Nat) (x1 : Int32) (x2 : Int32) (w : eW) : Option (Int32 × eW) := (eGR w x0 8 1).bind fun v1 => eBind2 (fX0_seams v1 w) fun v3 w2 => (eGR w2 x0 8 3).bind fun v4 => (fX7_fill v4 (1000 : Int32) w2).bind fun w5 => (eGR w5 x0 8 3).bind fun v6 => (fX7_put v6 x1 (0 : Int32) w5).bind fun w7 => fX8_soonest_33 eN x0 x2 v3 (1 : Int32) (0 : Int32) w7
set_option maxRecDepth 20000 in
theorem sX8_soonest_0  (x0 : Nat) (x1 : Int32) (x2 : Int32) (w : eW) (r : Int32 × eW) (h : fX8_soonest_0 x0 x1 x2 w = some r) : eBN l D cI cZ 5 yX8_soonest cX8_soonest 7 (some .int) 0 [(0, .ref x0), (1, .int x1), (2, .int x2)] [] w (some (.int r.1)) r.2 := by
  rw [fX8_soonest_0] at h
  intro p e s m args below meth c r0 A X
  refine ev_aload_n (pc := 0) X 0 dX8_soonest_0 rfl rfl ?_
  obtain ⟨v1, hv1, h⟩ := eBi h
  refine ev_getR (pc := 1) X hcX8 (k := 1) (by decide) kfX8_24 dX8_soonest_1 hv1 ?_
  obtain ⟨v3, w2, hc, h⟩ := eB2 h
  refine ev_callV_i (pc := 4) (As := []) (S := []) X hwX0_seams klX8_32 hiX0_seams hsX0_seams (ci := 0) ⟨rfl, rfl⟩ ⟨Nat.le_of_ble_eq_true rfl, Nat.le_of_ble_eq_true rfl⟩ ⟨Nat.le_refl _, Nat.le_refl _⟩ rfl (Nat.le_of_ble_eq_true rfl) dX8_soonest_4 rfl (mX0_seams (l := l) (D := D) (cI := cI) (cZ := cZ) hc).1 (mX0_seams hc).2 ?_
  refine ev_istore_n (pc := 7) (L' := [(3, .int v3), (0, .ref x0), (1, .int x1), (2, .int x2)]) X dX8_soonest_7 rfl (by decide) rfl ?_
  refine ev_aload_n (pc := 8) X 1 dX8_soonest_8 rfl rfl ?_
  obtain ⟨v4, hv4, h⟩ := eBi h
  refine ev_getR (pc := 9) X hcX8 (k := 3) (by decide) kfX8_14 dX8_soonest_9 hv4 ?_
  refine ev_sipush (pc := 12) (v := (1000 : Int32)) X dX8_soonest_12 rfl ?_
  obtain ⟨w5, hc, h⟩ := eBi h
  refine ev_callV_v (pc := 15) (As := [.int (1000 : Int32)]) (S := []) X hwX7_fill klX8_38 hiX7_fill hsX7_fill (ci := 7) ⟨rfl, rfl⟩ ⟨Nat.le_of_ble_eq_true rfl, Nat.le_of_ble_eq_true rfl⟩ ⟨Nat.le_refl _, Nat.le_refl _⟩ rfl (Nat.le_of_ble_eq_true rfl) dX8_soonest_15 rfl (mX7_fill (l := l) (D := D) (cI := cI) (cZ := cZ) hc).1 (mX7_fill hc).2 ?_
  refine ev_aload_n (pc := 18) X 1 dX8_soonest_18 rfl rfl ?_
  obtain ⟨v6, hv6, h⟩ := eBi h
  refine ev_getR (pc := 19) X hcX8 (k := 3) (by decide) kfX8_14 dX8_soonest_19 hv6 ?_
  refine ev_iload_n (pc := 22) X 2 dX8_soonest_22 rfl rfl ?_
  refine ev_iconst (pc := 23) (v := (0 : Int32)) X dX8_soonest_23 rfl ?_
  obtain ⟨w7, hc, h⟩ := eBi h
  refine ev_callV_v (pc := 24) (As := [.int x1, .int (0 : Int32)]) (S := []) X hwX7_put klX8_41 hiX7_put hsX7_put (ci := 7) ⟨rfl, rfl⟩ ⟨Nat.le_of_ble_eq_true rfl, Nat.le_of_ble_eq_true rfl⟩ ⟨Nat.le_refl _, Nat.le_refl _⟩ rfl (Nat.le_of_ble_eq_true rfl) dX8_soonest_24 rfl (mX7_put (l := l) (D := D) (cI := cI) (cZ := cZ) hc).1 (mX7_put hc).2 ?_
  refine ev_iconst (pc := 27) (v := (1 : Int32)) X dX8_soonest_27 rfl ?_
  refine ev_istore (pc := 28) (L' := [(4, .int (1 : Int32)), (3, .int v3), (0, .ref x0), (1, .int x1), (2, .int x2)]) X dX8_soonest_28 (by decide) rfl ?_
  refine ev_iconst (pc := 30) (v := (0 : Int32)) X dX8_soonest_30 rfl ?_
  refine ev_istore (pc := 31) (L' := [(5, .int (0 : Int32)), (4, .int (1 : Int32)), (3, .int v3), (0, .ref x0), (1, .int x1), (2, .int x2)]) X dX8_soonest_31 (by decide) rfl ?_
  exact ev_weak (pc := 33) [3, 5, 2, 1, 0] rfl (sX8_soonest_33 eN _ _ _ _ _ _ _ h p e s m args below meth c r0 A X)
def fX8_soonest (a0 : Nat) (a1 : Int32) (a2 : Int32) (w : eW) : Option (Int32 × eW) := bif eO w a0 8 then fX8_soonest_0 a0 a1 a2 w else none
theorem mX8_soonest {a0 : Nat} {a1 : Int32} {a2 : Int32} {w : eW} {v : Int32} {w' : eW} (h : fX8_soonest a0 a1 a2 w = some (v, w')) : eO w a0 8 = true ∧ eMN l D cI cZ 5 yX8_soonest cX8_soonest 7 (some .int) [.ref a0, .int a1, .int a2] w (some (.int v)) w' := by
  obtain ⟨h0, h⟩ := eBif h
  exact ⟨h0, eMN_of [(0, .ref a0), (1, .int a1), (2, .int a2)] (plainFor_of_name (by decide)) (fun _ => rfl) (fun _ => Nat.le_of_ble_eq_true rfl) (fun p e s m args below meth c r0 A X => ev_weak (pc := 0) [0, 1, 2] rfl (sX8_soonest_0 _ _ _ _ _ h p e s m args below meth c r0 A X))⟩
theorem dX9_leastSlope_0 : decode cX9_leastSlope 0 = .ok (.iconst 0, 1) := by decide +kernel
theorem dX9_leastSlope_1 : decode cX9_leastSlope 1 = .ok (.istore_n 1, 1) := by decide +kernel
theorem dX9_leastSlope_2 : decode cX9_leastSlope 2 = .ok (.aload_n 0, 1) := by decide +kernel
theorem dX9_leastSlope_3 : decode cX9_leastSlope 3 = .ok (.getfield 37, 3) := by decide +kernel
theorem dX9_leastSlope_6 : decode cX9_leastSlope 6 = .ok (.iload_n 1, 1) := by decide +kernel
theorem dX9_leastSlope_7 : decode cX9_leastSlope 7 = .ok (.invokevirtual 40, 3) := by decide +kernel
theorem dX9_leastSlope_10 : decode cX9_leastSlope 10 = .ok (.iload_n 1, 1) := by decide +kernel
theorem dX9_leastSlope_11 : decode cX9_leastSlope 11 = .ok (.bipush 9, 2) := by decide +kernel
theorem dX9_leastSlope_13 : decode cX9_leastSlope 13 = .ok (.if_icmp .ge 28, 3) := by decide +kernel
theorem dX9_leastSlope_16 : decode cX9_leastSlope 16 = .ok (.aload_n 0, 1) := by decide +kernel
theorem dX9_leastSlope_17 : decode cX9_leastSlope 17 = .ok (.getfield 37, 3) := by decide +kernel
theorem dX9_leastSlope_20 : decode cX9_leastSlope 20 = .ok (.invokevirtual 43, 3) := by decide +kernel
theorem dX9_leastSlope_23 : decode cX9_leastSlope 23 = .ok (.iconst 1, 1) := by decide +kernel
theorem dX9_leastSlope_24 : decode cX9_leastSlope 24 = .ok (.if_icmp .le 17, 3) := by decide +kernel
theorem dX9_leastSlope_27 : decode cX9_leastSlope 27 = .ok (.iinc 1 1, 3) := by decide +kernel
theorem dX9_leastSlope_30 : decode cX9_leastSlope 30 = .ok (.aload_n 0, 1) := by decide +kernel
theorem dX9_leastSlope_31 : decode cX9_leastSlope 31 = .ok (.getfield 37, 3) := by decide +kernel
theorem dX9_leastSlope_34 : decode cX9_leastSlope 34 = .ok (.iload_n 1, 1) := by decide +kernel
theorem dX9_leastSlope_35 : decode cX9_leastSlope 35 = .ok (.invokevirtual 40, 3) := by decide +kernel
theorem dX9_leastSlope_38 : decode cX9_leastSlope 38 = .ok (.goto (-28), 3) := by decide +kernel
theorem dX9_leastSlope_41 : decode cX9_leastSlope 41 = .ok (.iload_n 1, 1) := by decide +kernel
theorem dX9_leastSlope_42 : decode cX9_leastSlope 42 = .ok (.ireturn, 1) := by decide +kernel
def fX9_leastSlope_10 : Nat → Nat → Int32 → eW → Option (Int32 × eW)
  | 0, _, _, _ => none
  | n + 1, x0, x1, w => if (9 : Int32) ≤ x1 then (some (x1, w)) else ((eGR w x0 9 2).bind fun v1 => eBind2 (fX6_pieces v1 w) fun v3 w2 => if v3 ≤ (1 : Int32) then (some (x1, w2)) else ((eGR w2 x0 9 2).bind fun v4 => (fX6_layWhereSlope v4 (x1 + (1 : Int32)) w2).bind fun w5 => fX9_leastSlope_10 n x0 (x1 + (1 : Int32)) w5))
set_option maxRecDepth 20000 in
theorem sX9_leastSlope_10  : ∀ (n : Nat) (x0 : Nat) (x1 : Int32) (w : eW) (r : Int32 × eW), fX9_leastSlope_10 n x0 x1 w = some r → eBN l D cI cZ 4 yX9_leastSlope cX9_leastSlope 2 (some .int) 10 [(0, .ref x0), (1, .int x1)] [] w (some (.int r.1)) r.2 := by
  intro n
  induction n with
  | zero => intro x0 x1 w r h; exact absurd (show (none : Option (Int32 × eW)) = some r from h) (by simp)
  | succ n ih =>
    intro x0 x1 w r h
    rw [fX9_leastSlope_10] at h
    intro p e s m args below meth c r0 A X
    refine ev_iload_n (pc := 10) X 1 dX9_leastSlope_10 rfl rfl ?_
    refine ev_bipush (pc := 11) (v := (9 : Int32)) X dX9_leastSlope_11 rfl ?_
    refine ev_icmp_ge (pc := 13) X 41 dX9_leastSlope_13 rfl (fun hc => ?_) (fun hc => ?_)
    · rw [if_pos hc] at h
      refine ev_iload_n (pc := 41) X 1 dX9_leastSlope_41 rfl rfl ?_
      obtain rfl := Option.some.inj h
      exact ev_iret (pc := 42) X dX9_leastSlope_42
    · rw [if_neg hc] at h
      refine ev_aload_n (pc := 16) X 0 dX9_leastSlope_16 rfl rfl ?_
      obtain ⟨v1, hv1, h⟩ := eBi h
      refine ev_getR (pc := 17) X hcX9 (k := 2) (by decide) kfX9_37 dX9_leastSlope_17 hv1 ?_
      obtain ⟨v3, w2, hc, h⟩ := eB2 h
      refine ev_callV_i (pc := 20) (As := []) (S := []) X hwX6_pieces klX9_43 hiX6_pieces hsX6_pieces (ci := 6) ⟨rfl, rfl⟩ ⟨Nat.le_of_ble_eq_true rfl, Nat.le_of_ble_eq_true rfl⟩ ⟨Nat.le_refl _, Nat.le_refl _⟩ rfl (Nat.le_of_ble_eq_true rfl) dX9_leastSlope_20 rfl (mX6_pieces (l := l) (D := D) (cI := cI) (cZ := cZ) hc).1 (mX6_pieces hc).2 ?_
      refine ev_iconst (pc := 23) (v := (1 : Int32)) X dX9_leastSlope_23 rfl ?_
      refine ev_icmp_le (pc := 24) X 41 dX9_leastSlope_24 rfl (fun hc => ?_) (fun hc => ?_)
      · rw [if_pos hc] at h
        refine ev_iload_n (pc := 41) X 1 dX9_leastSlope_41 rfl rfl ?_
        obtain rfl := Option.some.inj h
        exact ev_iret (pc := 42) X dX9_leastSlope_42
      · rw [if_neg hc] at h
        refine ev_iinc (pc := 27) (v := x1 + (1 : Int32)) (L' := [(1, .int (x1 + (1 : Int32))), (0, .ref x0)]) X 1 dX9_leastSlope_27 rfl rfl (by decide) rfl ?_
        refine ev_aload_n (pc := 30) X 1 dX9_leastSlope_30 rfl rfl ?_
        obtain ⟨v4, hv4, h⟩ := eBi h
        refine ev_getR (pc := 31) X hcX9 (k := 2) (by decide) kfX9_37 dX9_leastSlope_31 hv4 ?_
        refine ev_iload_n (pc := 34) X 0 dX9_leastSlope_34 rfl rfl ?_
        obtain ⟨w5, hc, h⟩ := eBi h
        refine ev_callV_v (pc := 35) (As := [.int (x1 + (1 : Int32))]) (S := []) X hwX6_layWhereSlope klX9_40 hiX6_layWhereSlope hsX6_layWhereSlope (ci := 6) ⟨rfl, rfl⟩ ⟨Nat.le_of_ble_eq_true rfl, Nat.le_of_ble_eq_true rfl⟩ ⟨Nat.le_refl _, Nat.le_refl _⟩ rfl (Nat.le_of_ble_eq_true rfl) dX9_leastSlope_35 rfl (mX6_layWhereSlope (l := l) (D := D) (cI := cI) (cZ := cZ) hc).1 (mX6_layWhereSlope hc).2 ?_
        refine ev_goto (pc := 38) X 10 dX9_leastSlope_38 rfl ?_
        exact ev_weak (pc := 10) [1, 0] rfl (ih _ _ _ _ h p e s m args below meth c r0 A X)
def fX9_leastSlope_0 (x0 : Nat) (w : eW) : Option (Int32 × eW) := (eGR w x0 9 2).bind fun v1 => (fX6_layWhereSlope v1 (0 : Int32) w).bind fun w2 => fX9_leastSlope_10 eN x0 (0 : Int32) w2
set_option maxRecDepth 20000 in
theorem sX9_leastSlope_0  (x0 : Nat) (w : eW) (r : Int32 × eW) (h : fX9_leastSlope_0 x0 w = some r) : eBN l D cI cZ 4 yX9_leastSlope cX9_leastSlope 2 (some .int) 0 [(0, .ref x0)] [] w (some (.int r.1)) r.2 := by
  rw [fX9_leastSlope_0] at h
  intro p e s m args below meth c r0 A X
  refine ev_iconst (pc := 0) (v := (0 : Int32)) X dX9_leastSlope_0 rfl ?_
  refine ev_istore_n (pc := 1) (L' := [(1, .int (0 : Int32)), (0, .ref x0)]) X dX9_leastSlope_1 rfl (by decide) rfl ?_
  refine ev_aload_n (pc := 2) X 1 dX9_leastSlope_2 rfl rfl ?_
  obtain ⟨v1, hv1, h⟩ := eBi h
  refine ev_getR (pc := 3) X hcX9 (k := 2) (by decide) kfX9_37 dX9_leastSlope_3 hv1 ?_
  refine ev_iload_n (pc := 6) X 0 dX9_leastSlope_6 rfl rfl ?_
  obtain ⟨w2, hc, h⟩ := eBi h
  refine ev_callV_v (pc := 7) (As := [.int (0 : Int32)]) (S := []) X hwX6_layWhereSlope klX9_40 hiX6_layWhereSlope hsX6_layWhereSlope (ci := 6) ⟨rfl, rfl⟩ ⟨Nat.le_of_ble_eq_true rfl, Nat.le_of_ble_eq_true rfl⟩ ⟨Nat.le_refl _, Nat.le_refl _⟩ rfl (Nat.le_of_ble_eq_true rfl) dX9_leastSlope_7 rfl (mX6_layWhereSlope (l := l) (D := D) (cI := cI) (cZ := cZ) hc).1 (mX6_layWhereSlope hc).2 ?_
  exact ev_weak (pc := 10) [1, 0] rfl (sX9_leastSlope_10 eN _ _ _ _ h p e s m args below meth c r0 A X)
def fX9_leastSlope (a0 : Nat) (w : eW) : Option (Int32 × eW) := bif eO w a0 9 then fX9_leastSlope_0 a0 w else none
theorem mX9_leastSlope {a0 : Nat} {w : eW} {v : Int32} {w' : eW} (h : fX9_leastSlope a0 w = some (v, w')) : eO w a0 9 = true ∧ eMN l D cI cZ 4 yX9_leastSlope cX9_leastSlope 2 (some .int) [.ref a0] w (some (.int v)) w' := by
  obtain ⟨h0, h⟩ := eBif h
  exact ⟨h0, eMN_of [(0, .ref a0)] (plainFor_of_name (by decide)) (fun _ => rfl) (fun _ => Nat.le_of_ble_eq_true rfl) (fun p e s m args below meth c r0 A X => ev_weak (pc := 0) [0] rfl (sX9_leastSlope_0 _ _ _ h p e s m args below meth c r0 A X))⟩
theorem dX9_placeOf_0 : decode cX9_placeOf 0 = .ok (.iload_n 0, 1) := by decide +kernel
theorem dX9_placeOf_1 : decode cX9_placeOf 1 = .ok (.bipush 20, 2) := by decide +kernel
theorem dX9_placeOf_3 : decode cX9_placeOf 3 = .ok (.imul, 1) := by decide +kernel
theorem dX9_placeOf_4 : decode cX9_placeOf 4 = .ok (.iload_n 1, 1) := by decide +kernel
theorem dX9_placeOf_5 : decode cX9_placeOf 5 = .ok (.iadd, 1) := by decide +kernel
theorem dX9_placeOf_6 : decode cX9_placeOf 6 = .ok (.ireturn, 1) := by decide +kernel
def fX9_placeOf_0 (x0 : Int32) (x1 : Int32) (w : eW) : Option (Int32 × eW) := some ((x0 * (20 : Int32)) + x1, w)
set_option maxRecDepth 20000 in
theorem sX9_placeOf_0  (x0 : Int32) (x1 : Int32) (w : eW) (r : Int32 × eW) (h : fX9_placeOf_0 x0 x1 w = some r) : eBN l D cI cZ 0 yX9_placeOf cX9_placeOf 2 (some .int) 0 [(0, .int x0), (1, .int x1)] [] w (some (.int r.1)) r.2 := by
  rw [fX9_placeOf_0] at h
  intro p e s m args below meth c r0 A X
  refine ev_iload_n (pc := 0) X 0 dX9_placeOf_0 rfl rfl ?_
  refine ev_bipush (pc := 1) (v := (20 : Int32)) X dX9_placeOf_1 rfl ?_
  refine ev_imul (pc := 3) X dX9_placeOf_3 ?_
  refine ev_iload_n (pc := 4) X 1 dX9_placeOf_4 rfl rfl ?_
  refine ev_iadd (pc := 5) X dX9_placeOf_5 ?_
  obtain rfl := Option.some.inj h
  exact ev_iret (pc := 6) X dX9_placeOf_6
def fX9_placeOf (a0 : Int32) (a1 : Int32) (w : eW) : Option (Int32 × eW) := fX9_placeOf_0 a0 a1 w
theorem mX9_placeOf {a0 : Int32} {a1 : Int32} {w : eW} {v : Int32} {w' : eW} (h : fX9_placeOf a0 a1 w = some (v, w')) : eMN l D cI cZ 0 yX9_placeOf cX9_placeOf 2 (some .int) [.int a0, .int a1] w (some (.int v)) w' :=
  eMN_of [(0, .int a0), (1, .int a1)] (plainFor_of_name (by decide)) (fun _ => rfl) (fun _ => Nat.le_of_ble_eq_true rfl) (fun p e s m args below meth c r0 A X => ev_weak (pc := 0) [0, 1] rfl (sX9_placeOf_0 _ _ _ _ h p e s m args below meth c r0 A X))
theorem dX9_cellsWherePartsMeet_0 : decode cX9_cellsWherePartsMeet 0 = .ok (.iconst 0, 1) := by decide +kernel
theorem dX9_cellsWherePartsMeet_1 : decode cX9_cellsWherePartsMeet 1 = .ok (.istore_n 3, 1) := by decide +kernel
theorem dX9_cellsWherePartsMeet_2 : decode cX9_cellsWherePartsMeet 2 = .ok (.iconst 1, 1) := by decide +kernel
theorem dX9_cellsWherePartsMeet_3 : decode cX9_cellsWherePartsMeet 3 = .ok (.istore 4, 2) := by decide +kernel
theorem dX9_cellsWherePartsMeet_5 : decode cX9_cellsWherePartsMeet 5 = .ok (.iload 4, 2) := by decide +kernel
theorem dX9_cellsWherePartsMeet_7 : decode cX9_cellsWherePartsMeet 7 = .ok (.iload_n 1, 1) := by decide +kernel
theorem dX9_cellsWherePartsMeet_8 : decode cX9_cellsWherePartsMeet 8 = .ok (.if_icmp .ge 69, 3) := by decide +kernel
theorem dX9_cellsWherePartsMeet_11 : decode cX9_cellsWherePartsMeet 11 = .ok (.iload 4, 2) := by decide +kernel
theorem dX9_cellsWherePartsMeet_13 : decode cX9_cellsWherePartsMeet 13 = .ok (.iload_n 1, 1) := by decide +kernel
theorem dX9_cellsWherePartsMeet_14 : decode cX9_cellsWherePartsMeet 14 = .ok (.iand, 1) := by decide +kernel
theorem dX9_cellsWherePartsMeet_15 : decode cX9_cellsWherePartsMeet 15 = .ok (.iload 4, 2) := by decide +kernel
theorem dX9_cellsWherePartsMeet_17 : decode cX9_cellsWherePartsMeet 17 = .ok (.if_icmp .ne 54, 3) := by decide +kernel
theorem dX9_cellsWherePartsMeet_20 : decode cX9_cellsWherePartsMeet 20 = .ok (.iconst 0, 1) := by decide +kernel
theorem dX9_cellsWherePartsMeet_21 : decode cX9_cellsWherePartsMeet 21 = .ok (.istore 5, 2) := by decide +kernel
theorem dX9_cellsWherePartsMeet_23 : decode cX9_cellsWherePartsMeet 23 = .ok (.iload 5, 2) := by decide +kernel
theorem dX9_cellsWherePartsMeet_25 : decode cX9_cellsWherePartsMeet 25 = .ok (.iload_n 2, 1) := by decide +kernel
theorem dX9_cellsWherePartsMeet_26 : decode cX9_cellsWherePartsMeet 26 = .ok (.if_icmp .gt 45, 3) := by decide +kernel
theorem dX9_cellsWherePartsMeet_29 : decode cX9_cellsWherePartsMeet 29 = .ok (.iload_n 3, 1) := by decide +kernel
theorem dX9_cellsWherePartsMeet_30 : decode cX9_cellsWherePartsMeet 30 = .ok (.aload_n 0, 1) := by decide +kernel
theorem dX9_cellsWherePartsMeet_31 : decode cX9_cellsWherePartsMeet 31 = .ok (.getfield 18, 3) := by decide +kernel
theorem dX9_cellsWherePartsMeet_34 : decode cX9_cellsWherePartsMeet 34 = .ok (.iload 4, 2) := by decide +kernel
theorem dX9_cellsWherePartsMeet_36 : decode cX9_cellsWherePartsMeet 36 = .ok (.iload 5, 2) := by decide +kernel
theorem dX9_cellsWherePartsMeet_38 : decode cX9_cellsWherePartsMeet 38 = .ok (.invokestatic 58, 3) := by decide +kernel
theorem dX9_cellsWherePartsMeet_41 : decode cX9_cellsWherePartsMeet 41 = .ok (.invokevirtual 69, 3) := by decide +kernel
theorem dX9_cellsWherePartsMeet_44 : decode cX9_cellsWherePartsMeet 44 = .ok (.aload_n 0, 1) := by decide +kernel
theorem dX9_cellsWherePartsMeet_45 : decode cX9_cellsWherePartsMeet 45 = .ok (.getfield 18, 3) := by decide +kernel
theorem dX9_cellsWherePartsMeet_48 : decode cX9_cellsWherePartsMeet 48 = .ok (.iload_n 1, 1) := by decide +kernel
theorem dX9_cellsWherePartsMeet_49 : decode cX9_cellsWherePartsMeet 49 = .ok (.iload 4, 2) := by decide +kernel
theorem dX9_cellsWherePartsMeet_51 : decode cX9_cellsWherePartsMeet 51 = .ok (.isub, 1) := by decide +kernel
theorem dX9_cellsWherePartsMeet_52 : decode cX9_cellsWherePartsMeet 52 = .ok (.iload_n 2, 1) := by decide +kernel
theorem dX9_cellsWherePartsMeet_53 : decode cX9_cellsWherePartsMeet 53 = .ok (.iload 5, 2) := by decide +kernel
theorem dX9_cellsWherePartsMeet_55 : decode cX9_cellsWherePartsMeet 55 = .ok (.isub, 1) := by decide +kernel
theorem dX9_cellsWherePartsMeet_56 : decode cX9_cellsWherePartsMeet 56 = .ok (.invokestatic 58, 3) := by decide +kernel
theorem dX9_cellsWherePartsMeet_59 : decode cX9_cellsWherePartsMeet 59 = .ok (.invokevirtual 69, 3) := by decide +kernel
theorem dX9_cellsWherePartsMeet_62 : decode cX9_cellsWherePartsMeet 62 = .ok (.iand, 1) := by decide +kernel
theorem dX9_cellsWherePartsMeet_63 : decode cX9_cellsWherePartsMeet 63 = .ok (.ior, 1) := by decide +kernel
theorem dX9_cellsWherePartsMeet_64 : decode cX9_cellsWherePartsMeet 64 = .ok (.istore_n 3, 1) := by decide +kernel
theorem dX9_cellsWherePartsMeet_65 : decode cX9_cellsWherePartsMeet 65 = .ok (.iinc 5 1, 3) := by decide +kernel
theorem dX9_cellsWherePartsMeet_68 : decode cX9_cellsWherePartsMeet 68 = .ok (.goto (-45), 3) := by decide +kernel
theorem dX9_cellsWherePartsMeet_71 : decode cX9_cellsWherePartsMeet 71 = .ok (.iinc 4 1, 3) := by decide +kernel
theorem dX9_cellsWherePartsMeet_74 : decode cX9_cellsWherePartsMeet 74 = .ok (.goto (-69), 3) := by decide +kernel
theorem dX9_cellsWherePartsMeet_77 : decode cX9_cellsWherePartsMeet 77 = .ok (.iload_n 3, 1) := by decide +kernel
theorem dX9_cellsWherePartsMeet_78 : decode cX9_cellsWherePartsMeet 78 = .ok (.ireturn, 1) := by decide +kernel
def fX9_cellsWherePartsMeet_71 (K5 : Nat → Int32 → Int32 → Int32 → Int32 → eW → Option (Int32 × eW)) (x0 : Nat) (x1 : Int32) (x2 : Int32) (x3 : Int32) (x4 : Int32) (w : eW) : Option (Int32 × eW) := K5 x0 x1 x2 x3 (x4 + (1 : Int32)) w
set_option maxRecDepth 20000 in
theorem sX9_cellsWherePartsMeet_71 {K5 : Nat → Int32 → Int32 → Int32 → Int32 → eW → Option (Int32 × eW)} (hK5 : ∀ (x0 : Nat) (x1 : Int32) (x2 : Int32) (x3 : Int32) (x4 : Int32) (w : eW) (r : Int32 × eW), K5 x0 x1 x2 x3 x4 w = some r → eBN l D cI cZ 1 yX9_cellsWherePartsMeet cX9_cellsWherePartsMeet 6 (some .int) 5 [(0, .ref x0), (1, .int x1), (2, .int x2), (3, .int x3), (4, .int x4)] [] w (some (.int r.1)) r.2) (x0 : Nat) (x1 : Int32) (x2 : Int32) (x3 : Int32) (x4 : Int32) (w : eW) (r : Int32 × eW) (h : fX9_cellsWherePartsMeet_71 K5 x0 x1 x2 x3 x4 w = some r) : eBN l D cI cZ 1 yX9_cellsWherePartsMeet cX9_cellsWherePartsMeet 6 (some .int) 71 [(0, .ref x0), (1, .int x1), (2, .int x2), (3, .int x3), (4, .int x4)] [] w (some (.int r.1)) r.2 := by
  rw [fX9_cellsWherePartsMeet_71] at h
  intro p e s m args below meth c r0 A X
  refine ev_iinc (pc := 71) (v := x4 + (1 : Int32)) (L' := [(4, .int (x4 + (1 : Int32))), (0, .ref x0), (1, .int x1), (2, .int x2), (3, .int x3)]) X 4 dX9_cellsWherePartsMeet_71 rfl rfl (by decide) rfl ?_
  refine ev_goto (pc := 74) X 5 dX9_cellsWherePartsMeet_74 rfl ?_
  exact ev_weak (pc := 5) [1, 2, 3, 4, 0] rfl (hK5 _ _ _ _ _ _ _ h p e s m args below meth c r0 A X)
def fX9_cellsWherePartsMeet_23 (K5 : Nat → Int32 → Int32 → Int32 → Int32 → eW → Option (Int32 × eW)) : Nat → Nat → Int32 → Int32 → Int32 → Int32 → Int32 → eW → Option (Int32 × eW)
  | 0, _, _, _, _, _, _, _ => none
  | n + 1, x0, x1, x2, x3, x4, x5, w => if x2 < x5 then (fX9_cellsWherePartsMeet_71 K5 x0 x1 x2 x3 x4 w) else ((eGR w x0 9 3).bind fun v1 => eBind2 (fX9_placeOf x4 x5 w) fun v3 w2 => eBind2 (fX7_get v1 v3 w2) fun v5 w4 => (eGR w4 x0 9 3).bind fun v6 => eBind2 (fX9_placeOf (x1 - x4) (x2 - x5) w4) fun v8 w7 => eBind2 (fX7_get v6 v8 w7) fun v10 w9 => fX9_cellsWherePartsMeet_23 K5 n x0 x1 x2 (x3 ||| (v5 &&& v10)) x4 (x5 + (1 : Int32)) w9)
set_option maxRecDepth 20000 in
theorem sX9_cellsWherePartsMeet_23 {K5 : Nat → Int32 → Int32 → Int32 → Int32 → eW → Option (Int32 × eW)} (hK5 : ∀ (x0 : Nat) (x1 : Int32) (x2 : Int32) (x3 : Int32) (x4 : Int32) (w : eW) (r : Int32 × eW), K5 x0 x1 x2 x3 x4 w = some r → eBN l D cI cZ 1 yX9_cellsWherePartsMeet cX9_cellsWherePartsMeet 6 (some .int) 5 [(0, .ref x0), (1, .int x1), (2, .int x2), (3, .int x3), (4, .int x4)] [] w (some (.int r.1)) r.2) : ∀ (n : Nat) (x0 : Nat) (x1 : Int32) (x2 : Int32) (x3 : Int32) (x4 : Int32) (x5 : Int32) (w : eW) (r : Int32 × eW), fX9_cellsWherePartsMeet_23 K5 n x0 x1 x2 x3 x4 x5 w = some r → eBN l D cI cZ 1 yX9_cellsWherePartsMeet cX9_cellsWherePartsMeet 6 (some .int) 23 [(0, .ref x0), (1, .int x1), (2, .int x2), (3, .int x3), (4, .int x4), (5, .int x5)] [] w (some (.int r.1)) r.2 := by
  intro n
  induction n with
  | zero => intro x0 x1 x2 x3 x4 x5 w r h; exact absurd (show (none : Option (Int32 × eW)) = some r from h) (by simp)
  | succ n ih =>
    intro x0 x1 x2 x3 x4 x5 w r h
    rw [fX9_cellsWherePartsMeet_23] at h
    intro p e s m args below meth c r0 A X
    refine ev_iload (pc := 23) X 5 dX9_cellsWherePartsMeet_23 rfl ?_
    refine ev_iload_n (pc := 25) X 2 dX9_cellsWherePartsMeet_25 rfl rfl ?_
    refine ev_icmp_gt (pc := 26) X 71 dX9_cellsWherePartsMeet_26 rfl (fun hc => ?_) (fun hc => ?_)
    · rw [if_pos hc] at h
      exact ev_weak (pc := 71) [0, 1, 2, 3, 4] rfl (sX9_cellsWherePartsMeet_71 hK5 _ _ _ _ _ _ _ h p e s m args below meth c r0 A X)
    · rw [if_neg hc] at h
      refine ev_iload_n (pc := 29) X 3 dX9_cellsWherePartsMeet_29 rfl rfl ?_
      refine ev_aload_n (pc := 30) X 0 dX9_cellsWherePartsMeet_30 rfl rfl ?_
      obtain ⟨v1, hv1, h⟩ := eBi h
      refine ev_getR (pc := 31) X hcX9 (k := 3) (by decide) kfX9_18 dX9_cellsWherePartsMeet_31 hv1 ?_
      refine ev_iload (pc := 34) X 4 dX9_cellsWherePartsMeet_34 rfl ?_
      refine ev_iload (pc := 36) X 5 dX9_cellsWherePartsMeet_36 rfl ?_
      obtain ⟨v3, w2, hc, h⟩ := eB2 h
      refine ev_callS_i (pc := 38) (As := [.int x4, .int x5]) (S := [.ref v1, .int x3]) X hwX9_placeOf klX9_58 htX9_placeOf ⟨Nat.le_of_ble_eq_true rfl, Nat.le_of_ble_eq_true rfl⟩ ⟨Nat.le_refl _, Nat.le_refl _⟩ rfl (Nat.le_of_ble_eq_true rfl) dX9_cellsWherePartsMeet_38 rfl (mX9_placeOf hc) ?_
      obtain ⟨v5, w4, hc, h⟩ := eB2 h
      refine ev_callV_i (pc := 41) (As := [.int v3]) (S := [.int x3]) X hwX7_get klX9_69 hiX7_get hsX7_get (ci := 7) ⟨rfl, rfl⟩ ⟨Nat.le_of_ble_eq_true rfl, Nat.le_of_ble_eq_true rfl⟩ ⟨Nat.le_refl _, Nat.le_refl _⟩ rfl (Nat.le_of_ble_eq_true rfl) dX9_cellsWherePartsMeet_41 rfl (mX7_get (l := l) (D := D) (cI := cI) (cZ := cZ) hc).1 (mX7_get hc).2 ?_
      refine ev_aload_n (pc := 44) X 0 dX9_cellsWherePartsMeet_44 rfl rfl ?_
      obtain ⟨v6, hv6, h⟩ := eBi h
      refine ev_getR (pc := 45) X hcX9 (k := 3) (by decide) kfX9_18 dX9_cellsWherePartsMeet_45 hv6 ?_
      refine ev_iload_n (pc := 48) X 1 dX9_cellsWherePartsMeet_48 rfl rfl ?_
      refine ev_iload (pc := 49) X 4 dX9_cellsWherePartsMeet_49 rfl ?_
      refine ev_isub (pc := 51) X dX9_cellsWherePartsMeet_51 ?_
      refine ev_iload_n (pc := 52) X 2 dX9_cellsWherePartsMeet_52 rfl rfl ?_
      refine ev_iload (pc := 53) X 5 dX9_cellsWherePartsMeet_53 rfl ?_
      refine ev_isub (pc := 55) X dX9_cellsWherePartsMeet_55 ?_
      obtain ⟨v8, w7, hc, h⟩ := eB2 h
      refine ev_callS_i (pc := 56) (As := [.int (x1 - x4), .int (x2 - x5)]) (S := [.ref v6, .int v5, .int x3]) X hwX9_placeOf klX9_58 htX9_placeOf ⟨Nat.le_of_ble_eq_true rfl, Nat.le_of_ble_eq_true rfl⟩ ⟨Nat.le_refl _, Nat.le_refl _⟩ rfl (Nat.le_of_ble_eq_true rfl) dX9_cellsWherePartsMeet_56 rfl (mX9_placeOf hc) ?_
      obtain ⟨v10, w9, hc, h⟩ := eB2 h
      refine ev_callV_i (pc := 59) (As := [.int v8]) (S := [.int v5, .int x3]) X hwX7_get klX9_69 hiX7_get hsX7_get (ci := 7) ⟨rfl, rfl⟩ ⟨Nat.le_of_ble_eq_true rfl, Nat.le_of_ble_eq_true rfl⟩ ⟨Nat.le_refl _, Nat.le_refl _⟩ rfl (Nat.le_of_ble_eq_true rfl) dX9_cellsWherePartsMeet_59 rfl (mX7_get (l := l) (D := D) (cI := cI) (cZ := cZ) hc).1 (mX7_get hc).2 ?_
      refine ev_iand (pc := 62) X dX9_cellsWherePartsMeet_62 ?_
      refine ev_ior (pc := 63) X dX9_cellsWherePartsMeet_63 ?_
      refine ev_istore_n (pc := 64) (L' := [(3, .int (x3 ||| (v5 &&& v10))), (0, .ref x0), (1, .int x1), (2, .int x2), (4, .int x4), (5, .int x5)]) X dX9_cellsWherePartsMeet_64 rfl (by decide) rfl ?_
      refine ev_iinc (pc := 65) (v := x5 + (1 : Int32)) (L' := [(5, .int (x5 + (1 : Int32))), (3, .int (x3 ||| (v5 &&& v10))), (0, .ref x0), (1, .int x1), (2, .int x2), (4, .int x4)]) X 5 dX9_cellsWherePartsMeet_65 rfl rfl (by decide) rfl ?_
      refine ev_goto (pc := 68) X 23 dX9_cellsWherePartsMeet_68 rfl ?_
      exact ev_weak (pc := 23) [2, 3, 4, 1, 5, 0] rfl (ih _ _ _ _ _ _ _ _ h p e s m args below meth c r0 A X)
def fX9_cellsWherePartsMeet_5 : Nat → Nat → Int32 → Int32 → Int32 → Int32 → eW → Option (Int32 × eW)
  | 0, _, _, _, _, _, _ => none
  | n + 1, x0, x1, x2, x3, x4, w => if x1 ≤ x4 then (some (x3, w)) else (if (x4 &&& x1) = x4 then (fX9_cellsWherePartsMeet_23 (fX9_cellsWherePartsMeet_5 n) eN x0 x1 x2 x3 x4 (0 : Int32) w) else (fX9_cellsWherePartsMeet_71 (fX9_cellsWherePartsMeet_5 n) x0 x1 x2 x3 x4 w))
set_option maxRecDepth 20000 in
theorem sX9_cellsWherePartsMeet_5  : ∀ (n : Nat) (x0 : Nat) (x1 : Int32) (x2 : Int32) (x3 : Int32) (x4 : Int32) (w : eW) (r : Int32 × eW), fX9_cellsWherePartsMeet_5 n x0 x1 x2 x3 x4 w = some r → eBN l D cI cZ 1 yX9_cellsWherePartsMeet cX9_cellsWherePartsMeet 6 (some .int) 5 [(0, .ref x0), (1, .int x1), (2, .int x2), (3, .int x3), (4, .int x4)] [] w (some (.int r.1)) r.2 := by
  intro n
  induction n with
  | zero => intro x0 x1 x2 x3 x4 w r h; exact absurd (show (none : Option (Int32 × eW)) = some r from h) (by simp)
  | succ n ih =>
    intro x0 x1 x2 x3 x4 w r h
    rw [fX9_cellsWherePartsMeet_5] at h
    intro p e s m args below meth c r0 A X
    refine ev_iload (pc := 5) X 4 dX9_cellsWherePartsMeet_5 rfl ?_
    refine ev_iload_n (pc := 7) X 1 dX9_cellsWherePartsMeet_7 rfl rfl ?_
    refine ev_icmp_ge (pc := 8) X 77 dX9_cellsWherePartsMeet_8 rfl (fun hc => ?_) (fun hc => ?_)
    · rw [if_pos hc] at h
      refine ev_iload_n (pc := 77) X 3 dX9_cellsWherePartsMeet_77 rfl rfl ?_
      obtain rfl := Option.some.inj h
      exact ev_iret (pc := 78) X dX9_cellsWherePartsMeet_78
    · rw [if_neg hc] at h
      refine ev_iload (pc := 11) X 4 dX9_cellsWherePartsMeet_11 rfl ?_
      refine ev_iload_n (pc := 13) X 1 dX9_cellsWherePartsMeet_13 rfl rfl ?_
      refine ev_iand (pc := 14) X dX9_cellsWherePartsMeet_14 ?_
      refine ev_iload (pc := 15) X 4 dX9_cellsWherePartsMeet_15 rfl ?_
      refine ev_icmp_ne (pc := 17) X 71 dX9_cellsWherePartsMeet_17 rfl (fun hc => ?_) (fun hc => ?_)
      · rw [if_neg hc] at h
        exact ev_weak (pc := 71) [0, 1, 2, 3, 4] rfl (sX9_cellsWherePartsMeet_71 (fun _ _ _ _ _ w r hh => ih _ _ _ _ _ w r hh) _ _ _ _ _ _ _ h p e s m args below meth c r0 A X)
      · rw [if_pos hc] at h
        refine ev_iconst (pc := 20) (v := (0 : Int32)) X dX9_cellsWherePartsMeet_20 rfl ?_
        refine ev_istore (pc := 21) (L' := [(5, .int (0 : Int32)), (0, .ref x0), (1, .int x1), (2, .int x2), (3, .int x3), (4, .int x4)]) X dX9_cellsWherePartsMeet_21 (by decide) rfl ?_
        exact ev_weak (pc := 23) [1, 2, 3, 4, 5, 0] rfl (sX9_cellsWherePartsMeet_23 (fun _ _ _ _ _ w r hh => ih _ _ _ _ _ w r hh) eN _ _ _ _ _ _ _ _ h p e s m args below meth c r0 A X)
def fX9_cellsWherePartsMeet_0 (x0 : Nat) (x1 : Int32) (x2 : Int32) (w : eW) : Option (Int32 × eW) := fX9_cellsWherePartsMeet_5 eN x0 x1 x2 (0 : Int32) (1 : Int32) w
set_option maxRecDepth 20000 in
theorem sX9_cellsWherePartsMeet_0  (x0 : Nat) (x1 : Int32) (x2 : Int32) (w : eW) (r : Int32 × eW) (h : fX9_cellsWherePartsMeet_0 x0 x1 x2 w = some r) : eBN l D cI cZ 1 yX9_cellsWherePartsMeet cX9_cellsWherePartsMeet 6 (some .int) 0 [(0, .ref x0), (1, .int x1), (2, .int x2)] [] w (some (.int r.1)) r.2 := by
  rw [fX9_cellsWherePartsMeet_0] at h
  intro p e s m args below meth c r0 A X
  refine ev_iconst (pc := 0) (v := (0 : Int32)) X dX9_cellsWherePartsMeet_0 rfl ?_
  refine ev_istore_n (pc := 1) (L' := [(3, .int (0 : Int32)), (0, .ref x0), (1, .int x1), (2, .int x2)]) X dX9_cellsWherePartsMeet_1 rfl (by decide) rfl ?_
  refine ev_iconst (pc := 2) (v := (1 : Int32)) X dX9_cellsWherePartsMeet_2 rfl ?_
  refine ev_istore (pc := 3) (L' := [(4, .int (1 : Int32)), (3, .int (0 : Int32)), (0, .ref x0), (1, .int x1), (2, .int x2)]) X dX9_cellsWherePartsMeet_3 (by decide) rfl ?_
  exact ev_weak (pc := 5) [2, 3, 4, 1, 0] rfl (sX9_cellsWherePartsMeet_5 eN _ _ _ _ _ _ _ h p e s m args below meth c r0 A X)
def fX9_cellsWherePartsMeet (a0 : Nat) (a1 : Int32) (a2 : Int32) (w : eW) : Option (Int32 × eW) := bif eO w a0 9 then fX9_cellsWherePartsMeet_0 a0 a1 a2 w else none
theorem mX9_cellsWherePartsMeet {a0 : Nat} {a1 : Int32} {a2 : Int32} {w : eW} {v : Int32} {w' : eW} (h : fX9_cellsWherePartsMeet a0 a1 a2 w = some (v, w')) : eO w a0 9 = true ∧ eMN l D cI cZ 1 yX9_cellsWherePartsMeet cX9_cellsWherePartsMeet 6 (some .int) [.ref a0, .int a1, .int a2] w (some (.int v)) w' := by
  obtain ⟨h0, h⟩ := eBif h
  exact ⟨h0, eMN_of [(0, .ref a0), (1, .int a1), (2, .int a2)] (plainFor_of_name (by decide)) (fun _ => rfl) (fun _ => Nat.le_of_ble_eq_true rfl) (fun p e s m args below meth c r0 A X => ev_weak (pc := 0) [0, 1, 2] rfl (sX9_cellsWherePartsMeet_0 _ _ _ _ _ h p e s m args below meth c r0 A X))⟩
theorem dX9_cellsJoined_0 : decode cX9_cellsJoined 0 = .ok (.iload_n 1, 1) := by decide +kernel
theorem dX9_cellsJoined_1 : decode cX9_cellsJoined 1 = .ok (.invokestatic 72, 3) := by decide +kernel
theorem dX9_cellsJoined_4 : decode cX9_cellsJoined 4 = .ok (.iconst 1, 1) := by decide +kernel
theorem dX9_cellsJoined_5 : decode cX9_cellsJoined 5 = .ok (.if_icmp .ne 7, 3) := by decide +kernel
theorem dX9_cellsJoined_8 : decode cX9_cellsJoined 8 = .ok (.iconst 1, 1) := by decide +kernel
theorem dX9_cellsJoined_9 : decode cX9_cellsJoined 9 = .ok (.goto 4, 3) := by decide +kernel
theorem dX9_cellsJoined_12 : decode cX9_cellsJoined 12 = .ok (.iconst 0, 1) := by decide +kernel
theorem dX9_cellsJoined_13 : decode cX9_cellsJoined 13 = .ok (.istore_n 3, 1) := by decide +kernel
theorem dX9_cellsJoined_14 : decode cX9_cellsJoined 14 = .ok (.iload_n 3, 1) := by decide +kernel
theorem dX9_cellsJoined_15 : decode cX9_cellsJoined 15 = .ok (.ifCond .eq 14, 3) := by decide +kernel
theorem dX9_cellsJoined_18 : decode cX9_cellsJoined 18 = .ok (.aload_n 0, 1) := by decide +kernel
theorem dX9_cellsJoined_19 : decode cX9_cellsJoined 19 = .ok (.getfield 24, 3) := by decide +kernel
theorem dX9_cellsJoined_22 : decode cX9_cellsJoined 22 = .ok (.iload_n 1, 1) := by decide +kernel
theorem dX9_cellsJoined_23 : decode cX9_cellsJoined 23 = .ok (.invokevirtual 77, 3) := by decide +kernel
theorem dX9_cellsJoined_26 : decode cX9_cellsJoined 26 = .ok (.goto 9, 3) := by decide +kernel
theorem dX9_cellsJoined_29 : decode cX9_cellsJoined 29 = .ok (.aload_n 0, 1) := by decide +kernel
theorem dX9_cellsJoined_30 : decode cX9_cellsJoined 30 = .ok (.iload_n 1, 1) := by decide +kernel
theorem dX9_cellsJoined_31 : decode cX9_cellsJoined 31 = .ok (.iload_n 2, 1) := by decide +kernel
theorem dX9_cellsJoined_32 : decode cX9_cellsJoined 32 = .ok (.invokevirtual 80, 3) := by decide +kernel
theorem dX9_cellsJoined_35 : decode cX9_cellsJoined 35 = .ok (.istore 4, 2) := by decide +kernel
theorem dX9_cellsJoined_37 : decode cX9_cellsJoined 37 = .ok (.iload_n 2, 1) := by decide +kernel
theorem dX9_cellsJoined_38 : decode cX9_cellsJoined 38 = .ok (.ifCond .le 29, 3) := by decide +kernel
theorem dX9_cellsJoined_41 : decode cX9_cellsJoined 41 = .ok (.iload 4, 2) := by decide +kernel
theorem dX9_cellsJoined_43 : decode cX9_cellsJoined 43 = .ok (.aload_n 0, 1) := by decide +kernel
theorem dX9_cellsJoined_44 : decode cX9_cellsJoined 44 = .ok (.getfield 37, 3) := by decide +kernel
theorem dX9_cellsJoined_47 : decode cX9_cellsJoined 47 = .ok (.aload_n 0, 1) := by decide +kernel
theorem dX9_cellsJoined_48 : decode cX9_cellsJoined 48 = .ok (.getfield 18, 3) := by decide +kernel
theorem dX9_cellsJoined_51 : decode cX9_cellsJoined 51 = .ok (.iload_n 1, 1) := by decide +kernel
theorem dX9_cellsJoined_52 : decode cX9_cellsJoined 52 = .ok (.iload_n 2, 1) := by decide +kernel
theorem dX9_cellsJoined_53 : decode cX9_cellsJoined 53 = .ok (.iconst 1, 1) := by decide +kernel
theorem dX9_cellsJoined_54 : decode cX9_cellsJoined 54 = .ok (.isub, 1) := by decide +kernel
theorem dX9_cellsJoined_55 : decode cX9_cellsJoined 55 = .ok (.invokestatic 58, 3) := by decide +kernel
theorem dX9_cellsJoined_58 : decode cX9_cellsJoined 58 = .ok (.invokevirtual 69, 3) := by decide +kernel
theorem dX9_cellsJoined_61 : decode cX9_cellsJoined 61 = .ok (.invokevirtual 83, 3) := by decide +kernel
theorem dX9_cellsJoined_64 : decode cX9_cellsJoined 64 = .ok (.ior, 1) := by decide +kernel
theorem dX9_cellsJoined_65 : decode cX9_cellsJoined 65 = .ok (.istore 4, 2) := by decide +kernel
theorem dX9_cellsJoined_67 : decode cX9_cellsJoined 67 = .ok (.aload_n 0, 1) := by decide +kernel
theorem dX9_cellsJoined_68 : decode cX9_cellsJoined 68 = .ok (.getfield 28, 3) := by decide +kernel
theorem dX9_cellsJoined_71 : decode cX9_cellsJoined 71 = .ok (.iload 4, 2) := by decide +kernel
theorem dX9_cellsJoined_73 : decode cX9_cellsJoined 73 = .ok (.bipush 20, 2) := by decide +kernel
theorem dX9_cellsJoined_75 : decode cX9_cellsJoined 75 = .ok (.invokevirtual 86, 3) := by decide +kernel
theorem dX9_cellsJoined_78 : decode cX9_cellsJoined 78 = .ok (.ireturn, 1) := by decide +kernel
def fX9_cellsJoined_67 (x0 : Nat) (x4 : Int32) (w : eW) : Option (Int32 × eW) := (eGR w x0 9 1).bind fun v1 => eBind2 (fX6_reach v1 x4 (20 : Int32) w) fun v3 w2 => some (v3, w2)
set_option maxRecDepth 20000 in
theorem sX9_cellsJoined_67  (x0 : Nat) (x4 : Int32) (w : eW) (r : Int32 × eW) (h : fX9_cellsJoined_67 x0 x4 w = some r) : eBN l D cI cZ 3 yX9_cellsJoined cX9_cellsJoined 5 (some .int) 67 [(0, .ref x0), (4, .int x4)] [] w (some (.int r.1)) r.2 := by
  rw [fX9_cellsJoined_67] at h
  intro p e s m args below meth c r0 A X
  refine ev_aload_n (pc := 67) X 0 dX9_cellsJoined_67 rfl rfl ?_
  obtain ⟨v1, hv1, h⟩ := eBi h
  refine ev_getR (pc := 68) X hcX9 (k := 1) (by decide) kfX9_28 dX9_cellsJoined_68 hv1 ?_
  refine ev_iload (pc := 71) X 1 dX9_cellsJoined_71 rfl ?_
  refine ev_bipush (pc := 73) (v := (20 : Int32)) X dX9_cellsJoined_73 rfl ?_
  obtain ⟨v3, w2, hc, h⟩ := eB2 h
  refine ev_callV_i (pc := 75) (As := [.int x4, .int (20 : Int32)]) (S := []) X hwX6_reach klX9_86 hiX6_reach hsX6_reach (ci := 6) ⟨rfl, rfl⟩ ⟨Nat.le_of_ble_eq_true rfl, Nat.le_of_ble_eq_true rfl⟩ ⟨Nat.le_refl _, Nat.le_refl _⟩ rfl (Nat.le_of_ble_eq_true rfl) dX9_cellsJoined_75 rfl (mX6_reach (l := l) (D := D) (cI := cI) (cZ := cZ) hc).1 (mX6_reach hc).2 ?_
  obtain rfl := Option.some.inj h
  exact ev_iret (pc := 78) X dX9_cellsJoined_78
def fX9_cellsJoined_35 (x0 : Nat) (x1 : Int32) (x2 : Int32) (t0 : Int32) (w : eW) : Option (Int32 × eW) := if x2 ≤ 0 then (fX9_cellsJoined_67 x0 t0 w) else ((eGR w x0 9 2).bind fun v1 => (eGR w x0 9 3).bind fun v2 => eBind2 (fX9_placeOf x1 (x2 - (1 : Int32)) w) fun v4 w3 => eBind2 (fX7_get v2 v4 w3) fun v6 w5 => eBind2 (fX6_spread v1 v6 w5) fun v8 w7 => fX9_cellsJoined_67 x0 (t0 ||| v8) w7)
set_option maxRecDepth 20000 in
theorem sX9_cellsJoined_35  (x0 : Nat) (x1 : Int32) (x2 : Int32) (t0 : Int32) (w : eW) (r : Int32 × eW) (h : fX9_cellsJoined_35 x0 x1 x2 t0 w = some r) : eBN l D cI cZ 3 yX9_cellsJoined cX9_cellsJoined 5 (some .int) 35 [(0, .ref x0), (1, .int x1), (2, .int x2)] [.int t0] w (some (.int r.1)) r.2 := by
  rw [fX9_cellsJoined_35] at h
  intro p e s m args below meth c r0 A X
  refine ev_istore (pc := 35) (L' := [(4, .int t0), (0, .ref x0), (1, .int x1), (2, .int x2)]) X dX9_cellsJoined_35 (by decide) rfl ?_
  refine ev_iload_n (pc := 37) X 3 dX9_cellsJoined_37 rfl rfl ?_
  refine ev_if_le (pc := 38) X 67 dX9_cellsJoined_38 rfl (fun hc => ?_) (fun hc => ?_)
  · rw [if_pos hc] at h
    exact ev_weak (pc := 67) [1, 0] rfl (sX9_cellsJoined_67 _ _ _ _ h p e s m args below meth c r0 A X)
  · rw [if_neg hc] at h
    refine ev_iload (pc := 41) X 0 dX9_cellsJoined_41 rfl ?_
    refine ev_aload_n (pc := 43) X 1 dX9_cellsJoined_43 rfl rfl ?_
    obtain ⟨v1, hv1, h⟩ := eBi h
    refine ev_getR (pc := 44) X hcX9 (k := 2) (by decide) kfX9_37 dX9_cellsJoined_44 hv1 ?_
    refine ev_aload_n (pc := 47) X 1 dX9_cellsJoined_47 rfl rfl ?_
    obtain ⟨v2, hv2, h⟩ := eBi h
    refine ev_getR (pc := 48) X hcX9 (k := 3) (by decide) kfX9_18 dX9_cellsJoined_48 hv2 ?_
    refine ev_iload_n (pc := 51) X 2 dX9_cellsJoined_51 rfl rfl ?_
    refine ev_iload_n (pc := 52) X 3 dX9_cellsJoined_52 rfl rfl ?_
    refine ev_iconst (pc := 53) (v := (1 : Int32)) X dX9_cellsJoined_53 rfl ?_
    refine ev_isub (pc := 54) X dX9_cellsJoined_54 ?_
    obtain ⟨v4, w3, hc, h⟩ := eB2 h
    refine ev_callS_i (pc := 55) (As := [.int x1, .int (x2 - (1 : Int32))]) (S := [.ref v2, .ref v1, .int t0]) X hwX9_placeOf klX9_58 htX9_placeOf ⟨Nat.le_of_ble_eq_true rfl, Nat.le_of_ble_eq_true rfl⟩ ⟨Nat.le_refl _, Nat.le_refl _⟩ rfl (Nat.le_of_ble_eq_true rfl) dX9_cellsJoined_55 rfl (mX9_placeOf hc) ?_
    obtain ⟨v6, w5, hc, h⟩ := eB2 h
    refine ev_callV_i (pc := 58) (As := [.int v4]) (S := [.ref v1, .int t0]) X hwX7_get klX9_69 hiX7_get hsX7_get (ci := 7) ⟨rfl, rfl⟩ ⟨Nat.le_of_ble_eq_true rfl, Nat.le_of_ble_eq_true rfl⟩ ⟨Nat.le_refl _, Nat.le_refl _⟩ rfl (Nat.le_of_ble_eq_true rfl) dX9_cellsJoined_58 rfl (mX7_get (l := l) (D := D) (cI := cI) (cZ := cZ) hc).1 (mX7_get hc).2 ?_
    obtain ⟨v8, w7, hc, h⟩ := eB2 h
    refine ev_callV_i (pc := 61) (As := [.int v6]) (S := [.int t0]) X hwX6_spread klX9_83 hiX6_spread hsX6_spread (ci := 6) ⟨rfl, rfl⟩ ⟨Nat.le_of_ble_eq_true rfl, Nat.le_of_ble_eq_true rfl⟩ ⟨Nat.le_refl _, Nat.le_refl _⟩ rfl (Nat.le_of_ble_eq_true rfl) dX9_cellsJoined_61 rfl (mX6_spread (l := l) (D := D) (cI := cI) (cZ := cZ) hc).1 (mX6_spread hc).2 ?_
    refine ev_ior (pc := 64) X dX9_cellsJoined_64 ?_
    refine ev_istore (pc := 65) (L' := [(4, .int (t0 ||| v8)), (0, .ref x0), (1, .int x1), (2, .int x2)]) X dX9_cellsJoined_65 (by decide) rfl ?_
    exact ev_weak (pc := 67) [1, 0] rfl (sX9_cellsJoined_67 _ _ _ _ h p e s m args below meth c r0 A X)
def fX9_cellsJoined_13 (x0 : Nat) (x1 : Int32) (x2 : Int32) (t0 : Int32) (w : eW) : Option (Int32 × eW) := if t0 = 0 then (eBind2 (fX9_cellsWherePartsMeet x0 x1 x2 w) fun v2 w1 => fX9_cellsJoined_35 x0 x1 x2 v2 w1) else ((eGR w x0 9 0).bind fun v3 => eBind2 (fX1_cellsOfTowns v3 x1 w) fun v5 w4 => fX9_cellsJoined_35 x0 x1 x2 v5 w4)
set_option maxRecDepth 20000 in
theorem sX9_cellsJoined_13  (x0 : Nat) (x1 : Int32) (x2 : Int32) (t0 : Int32) (w : eW) (r : Int32 × eW) (h : fX9_cellsJoined_13 x0 x1 x2 t0 w = some r) : eBN l D cI cZ 3 yX9_cellsJoined cX9_cellsJoined 5 (some .int) 13 [(0, .ref x0), (1, .int x1), (2, .int x2)] [.int t0] w (some (.int r.1)) r.2 := by
  rw [fX9_cellsJoined_13] at h
  intro p e s m args below meth c r0 A X
  refine ev_istore_n (pc := 13) (L' := [(3, .int t0), (0, .ref x0), (1, .int x1), (2, .int x2)]) X dX9_cellsJoined_13 rfl (by decide) rfl ?_
  refine ev_iload_n (pc := 14) X 0 dX9_cellsJoined_14 rfl rfl ?_
  refine ev_if_eq (pc := 15) X 29 dX9_cellsJoined_15 rfl (fun hc => ?_) (fun hc => ?_)
  · rw [if_pos hc] at h
    refine ev_aload_n (pc := 29) X 1 dX9_cellsJoined_29 rfl rfl ?_
    refine ev_iload_n (pc := 30) X 2 dX9_cellsJoined_30 rfl rfl ?_
    refine ev_iload_n (pc := 31) X 3 dX9_cellsJoined_31 rfl rfl ?_
    obtain ⟨v2, w1, hc, h⟩ := eB2 h
    refine ev_callV_i (pc := 32) (As := [.int x1, .int x2]) (S := []) X hwX9_cellsWherePartsMeet klX9_80 hiX9_cellsWherePartsMeet hsX9_cellsWherePartsMeet (ci := 9) ⟨rfl, rfl⟩ ⟨Nat.le_of_ble_eq_true rfl, Nat.le_of_ble_eq_true rfl⟩ ⟨Nat.le_refl _, Nat.le_refl _⟩ rfl (Nat.le_of_ble_eq_true rfl) dX9_cellsJoined_32 rfl (mX9_cellsWherePartsMeet (l := l) (D := D) (cI := cI) (cZ := cZ) hc).1 (mX9_cellsWherePartsMeet hc).2 ?_
    exact ev_weak (pc := 35) [1, 2, 3] rfl (sX9_cellsJoined_35 _ _ _ _ _ _ h p e s m args below meth c r0 A X)
  · rw [if_neg hc] at h
    refine ev_aload_n (pc := 18) X 1 dX9_cellsJoined_18 rfl rfl ?_
    obtain ⟨v3, hv3, h⟩ := eBi h
    refine ev_getR (pc := 19) X hcX9 (k := 0) (by decide) kfX9_24 dX9_cellsJoined_19 hv3 ?_
    refine ev_iload_n (pc := 22) X 2 dX9_cellsJoined_22 rfl rfl ?_
    obtain ⟨v5, w4, hc, h⟩ := eB2 h
    refine ev_callV_i (pc := 23) (As := [.int x1]) (S := []) X hwX1_cellsOfTowns klX9_77 hiX1_cellsOfTowns hsX1_cellsOfTowns (ci := 1) ⟨rfl, rfl⟩ ⟨Nat.le_of_ble_eq_true rfl, Nat.le_of_ble_eq_true rfl⟩ ⟨Nat.le_refl _, Nat.le_refl _⟩ rfl (Nat.le_of_ble_eq_true rfl) dX9_cellsJoined_23 rfl (mX1_cellsOfTowns (l := l) (D := D) (cI := cI) (cZ := cZ) hc).1 (mX1_cellsOfTowns hc).2 ?_
    refine ev_goto (pc := 26) X 35 dX9_cellsJoined_26 rfl ?_
    exact ev_weak (pc := 35) [1, 2, 3] rfl (sX9_cellsJoined_35 _ _ _ _ _ _ h p e s m args below meth c r0 A X)
def fX9_cellsJoined_0 (x0 : Nat) (x1 : Int32) (x2 : Int32) (w : eW) : Option (Int32 × eW) := eBind2 (fJ6_bitCount_0f7a4 x1 w) fun v2 w1 => if v2 = (1 : Int32) then (fX9_cellsJoined_13 x0 x1 x2 (1 : Int32) w1) else (fX9_cellsJoined_13 x0 x1 x2 (0 : Int32) w1)
set_option maxRecDepth 20000 in
theorem sX9_cellsJoined_0  (x0 : Nat) (x1 : Int32) (x2 : Int32) (w : eW) (r : Int32 × eW) (h : fX9_cellsJoined_0 x0 x1 x2 w = some r) : eBN l D cI cZ 3 yX9_cellsJoined cX9_cellsJoined 5 (some .int) 0 [(0, .ref x0), (1, .int x1), (2, .int x2)] [] w (some (.int r.1)) r.2 := by
  rw [fX9_cellsJoined_0] at h
  intro p e s m args below meth c r0 A X
  refine ev_iload_n (pc := 0) X 1 dX9_cellsJoined_0 rfl rfl ?_
  obtain ⟨v2, w1, hc, h⟩ := eB2 h
  refine ev_callS_i (pc := 1) (As := [.int x1]) (S := []) X hwJ6_bitCount_0f7a4 klX9_72 htJ6_bitCount_0f7a4 ⟨Nat.le_of_ble_eq_true rfl, Nat.le_of_ble_eq_true rfl⟩ ⟨Nat.le_refl _, Nat.le_refl _⟩ rfl (Nat.le_of_ble_eq_true rfl) dX9_cellsJoined_1 rfl (mJ6_bitCount_0f7a4 hc) ?_
  refine ev_iconst (pc := 4) (v := (1 : Int32)) X dX9_cellsJoined_4 rfl ?_
  refine ev_icmp_ne (pc := 5) X 12 dX9_cellsJoined_5 rfl (fun hc => ?_) (fun hc => ?_)
  · rw [if_neg hc] at h
    refine ev_iconst (pc := 12) (v := (0 : Int32)) X dX9_cellsJoined_12 rfl ?_
    exact ev_weak (pc := 13) [0, 1, 2] rfl (sX9_cellsJoined_13 _ _ _ _ _ _ h p e s m args below meth c r0 A X)
  · rw [if_pos hc] at h
    refine ev_iconst (pc := 8) (v := (1 : Int32)) X dX9_cellsJoined_8 rfl ?_
    refine ev_goto (pc := 9) X 13 dX9_cellsJoined_9 rfl ?_
    exact ev_weak (pc := 13) [0, 1, 2] rfl (sX9_cellsJoined_13 _ _ _ _ _ _ h p e s m args below meth c r0 A X)
def fX9_cellsJoined (a0 : Nat) (a1 : Int32) (a2 : Int32) (w : eW) : Option (Int32 × eW) := bif eO w a0 9 then fX9_cellsJoined_0 a0 a1 a2 w else none
theorem mX9_cellsJoined {a0 : Nat} {a1 : Int32} {a2 : Int32} {w : eW} {v : Int32} {w' : eW} (h : fX9_cellsJoined a0 a1 a2 w = some (v, w')) : eO w a0 9 = true ∧ eMN l D cI cZ 3 yX9_cellsJoined cX9_cellsJoined 5 (some .int) [.ref a0, .int a1, .int a2] w (some (.int v)) w' := by
  obtain ⟨h0, h⟩ := eBif h
  exact ⟨h0, eMN_of [(0, .ref a0), (1, .int a1), (2, .int a2)] (plainFor_of_name (by decide)) (fun _ => rfl) (fun _ => Nat.le_of_ble_eq_true rfl) (fun p e s m args below meth c r0 A X => ev_weak (pc := 0) [0, 1, 2] rfl (sX9_cellsJoined_0 _ _ _ _ _ h p e s m args below meth c r0 A X))⟩
theorem dX9_fewestElls_0 : decode cX9_fewestElls 0 = .ok (.aload_n 0, 1) := by decide +kernel
theorem dX9_fewestElls_1 : decode cX9_fewestElls 1 = .ok (.getfield 37, 3) := by decide +kernel
theorem dX9_fewestElls_4 : decode cX9_fewestElls 4 = .ok (.aload_n 0, 1) := by decide +kernel
theorem dX9_fewestElls_5 : decode cX9_fewestElls 5 = .ok (.getfield 24, 3) := by decide +kernel
theorem dX9_fewestElls_8 : decode cX9_fewestElls 8 = .ok (.invokevirtual 47, 3) := by decide +kernel
theorem dX9_fewestElls_11 : decode cX9_fewestElls 11 = .ok (.invokevirtual 40, 3) := by decide +kernel
theorem dX9_fewestElls_14 : decode cX9_fewestElls 14 = .ok (.aload_n 0, 1) := by decide +kernel
theorem dX9_fewestElls_15 : decode cX9_fewestElls 15 = .ok (.getfield 24, 3) := by decide +kernel
theorem dX9_fewestElls_18 : decode cX9_fewestElls 18 = .ok (.invokevirtual 52, 3) := by decide +kernel
theorem dX9_fewestElls_21 : decode cX9_fewestElls 21 = .ok (.invokestatic 11, 3) := by decide +kernel
theorem dX9_fewestElls_24 : decode cX9_fewestElls 24 = .ok (.iconst 1, 1) := by decide +kernel
theorem dX9_fewestElls_25 : decode cX9_fewestElls 25 = .ok (.isub, 1) := by decide +kernel
theorem dX9_fewestElls_26 : decode cX9_fewestElls 26 = .ok (.istore_n 1, 1) := by decide +kernel
theorem dX9_fewestElls_27 : decode cX9_fewestElls 27 = .ok (.iload_n 1, 1) := by decide +kernel
theorem dX9_fewestElls_28 : decode cX9_fewestElls 28 = .ok (.ifCond .ne 5, 3) := by decide +kernel
theorem dX9_fewestElls_31 : decode cX9_fewestElls 31 = .ok (.iconst 0, 1) := by decide +kernel
theorem dX9_fewestElls_32 : decode cX9_fewestElls 32 = .ok (.ireturn, 1) := by decide +kernel
theorem dX9_fewestElls_33 : decode cX9_fewestElls 33 = .ok (.aload_n 0, 1) := by decide +kernel
theorem dX9_fewestElls_34 : decode cX9_fewestElls 34 = .ok (.getfield 37, 3) := by decide +kernel
theorem dX9_fewestElls_37 : decode cX9_fewestElls 37 = .ok (.invokevirtual 43, 3) := by decide +kernel
theorem dX9_fewestElls_40 : decode cX9_fewestElls 40 = .ok (.iconst 1, 1) := by decide +kernel
theorem dX9_fewestElls_41 : decode cX9_fewestElls 41 = .ok (.if_icmp .le 6, 3) := by decide +kernel
theorem dX9_fewestElls_44 : decode cX9_fewestElls 44 = .ok (.bipush (-9), 2) := by decide +kernel
theorem dX9_fewestElls_46 : decode cX9_fewestElls 46 = .ok (.ireturn, 1) := by decide +kernel
theorem dX9_fewestElls_47 : decode cX9_fewestElls 47 = .ok (.iconst 0, 1) := by decide +kernel
theorem dX9_fewestElls_48 : decode cX9_fewestElls 48 = .ok (.istore_n 2, 1) := by decide +kernel
theorem dX9_fewestElls_49 : decode cX9_fewestElls 49 = .ok (.iload_n 2, 1) := by decide +kernel
theorem dX9_fewestElls_50 : decode cX9_fewestElls 50 = .ok (.aload_n 0, 1) := by decide +kernel
theorem dX9_fewestElls_51 : decode cX9_fewestElls 51 = .ok (.getfield 24, 3) := by decide +kernel
theorem dX9_fewestElls_54 : decode cX9_fewestElls 54 = .ok (.invokevirtual 55, 3) := by decide +kernel
theorem dX9_fewestElls_57 : decode cX9_fewestElls 57 = .ok (.if_icmp .ge 57, 3) := by decide +kernel
theorem dX9_fewestElls_60 : decode cX9_fewestElls 60 = .ok (.iconst 1, 1) := by decide +kernel
theorem dX9_fewestElls_61 : decode cX9_fewestElls 61 = .ok (.istore_n 3, 1) := by decide +kernel
theorem dX9_fewestElls_62 : decode cX9_fewestElls 62 = .ok (.iload_n 3, 1) := by decide +kernel
theorem dX9_fewestElls_63 : decode cX9_fewestElls 63 = .ok (.iload_n 1, 1) := by decide +kernel
theorem dX9_fewestElls_64 : decode cX9_fewestElls 64 = .ok (.if_icmp .gt 27, 3) := by decide +kernel
theorem dX9_fewestElls_67 : decode cX9_fewestElls 67 = .ok (.aload_n 0, 1) := by decide +kernel
theorem dX9_fewestElls_68 : decode cX9_fewestElls 68 = .ok (.getfield 18, 3) := by decide +kernel
theorem dX9_fewestElls_71 : decode cX9_fewestElls 71 = .ok (.iload_n 3, 1) := by decide +kernel
theorem dX9_fewestElls_72 : decode cX9_fewestElls 72 = .ok (.iload_n 2, 1) := by decide +kernel
theorem dX9_fewestElls_73 : decode cX9_fewestElls 73 = .ok (.invokestatic 58, 3) := by decide +kernel
theorem dX9_fewestElls_76 : decode cX9_fewestElls 76 = .ok (.aload_n 0, 1) := by decide +kernel
theorem dX9_fewestElls_77 : decode cX9_fewestElls 77 = .ok (.iload_n 3, 1) := by decide +kernel
theorem dX9_fewestElls_78 : decode cX9_fewestElls 78 = .ok (.iload_n 2, 1) := by decide +kernel
theorem dX9_fewestElls_79 : decode cX9_fewestElls 79 = .ok (.invokevirtual 62, 3) := by decide +kernel
theorem dX9_fewestElls_82 : decode cX9_fewestElls 82 = .ok (.invokevirtual 65, 3) := by decide +kernel
theorem dX9_fewestElls_85 : decode cX9_fewestElls 85 = .ok (.iinc 3 1, 3) := by decide +kernel
theorem dX9_fewestElls_88 : decode cX9_fewestElls 88 = .ok (.goto (-26), 3) := by decide +kernel
theorem dX9_fewestElls_91 : decode cX9_fewestElls 91 = .ok (.aload_n 0, 1) := by decide +kernel
theorem dX9_fewestElls_92 : decode cX9_fewestElls 92 = .ok (.getfield 18, 3) := by decide +kernel
theorem dX9_fewestElls_95 : decode cX9_fewestElls 95 = .ok (.iload_n 1, 1) := by decide +kernel
theorem dX9_fewestElls_96 : decode cX9_fewestElls 96 = .ok (.iload_n 2, 1) := by decide +kernel
theorem dX9_fewestElls_97 : decode cX9_fewestElls 97 = .ok (.invokestatic 58, 3) := by decide +kernel
theorem dX9_fewestElls_100 : decode cX9_fewestElls 100 = .ok (.invokevirtual 69, 3) := by decide +kernel
theorem dX9_fewestElls_103 : decode cX9_fewestElls 103 = .ok (.ifCond .eq 5, 3) := by decide +kernel
theorem dX9_fewestElls_106 : decode cX9_fewestElls 106 = .ok (.iload_n 2, 1) := by decide +kernel
theorem dX9_fewestElls_107 : decode cX9_fewestElls 107 = .ok (.ireturn, 1) := by decide +kernel
theorem dX9_fewestElls_108 : decode cX9_fewestElls 108 = .ok (.iinc 2 1, 3) := by decide +kernel
theorem dX9_fewestElls_111 : decode cX9_fewestElls 111 = .ok (.goto (-62), 3) := by decide +kernel
theorem dX9_fewestElls_114 : decode cX9_fewestElls 114 = .ok (.bipush (-9), 2) := by decide +kernel
theorem dX9_fewestElls_116 : decode cX9_fewestElls 116 = .ok (.ireturn, 1) := by decide +kernel
def fX9_fewestElls_62 (K49 : Nat → Int32 → Int32 → eW → Option (Int32 × eW)) : Nat → Nat → Int32 → Int32 → Int32 → eW → Option (Int32 × eW)
  | 0, _, _, _, _, _ => none
  | n + 1, x0, x1, x2, x3, w => if x1 < x3 then ((eGR w x0 9 3).bind fun v1 => eBind2 (fX9_placeOf x1 x2 w) fun v3 w2 => eBind2 (fX7_get v1 v3 w2) fun v5 w4 => if v5 = 0 then (K49 x0 x1 (x2 + (1 : Int32)) w4) else (some (x2, w4))) else ((eGR w x0 9 3).bind fun v6 => eBind2 (fX9_placeOf x3 x2 w) fun v8 w7 => eBind2 (fX9_cellsJoined x0 x3 x2 w7) fun v10 w9 => (fX7_put v6 v8 v10 w9).bind fun w11 => fX9_fewestElls_62 K49 n x0 x1 x2 (x3 + (1 : Int32)) w11)
set_option maxRecDepth 20000 in
theorem sX9_fewestElls_62 {K49 : Nat → Int32 → Int32 → eW → Option (Int32 × eW)} (hK49 : ∀ (x0 : Nat) (x1 : Int32) (x2 : Int32) (w : eW) (r : Int32 × eW), K49 x0 x1 x2 w = some r → eBN l D cI cZ 4 yX9_fewestElls cX9_fewestElls 4 (some .int) 49 [(0, .ref x0), (1, .int x1), (2, .int x2)] [] w (some (.int r.1)) r.2) : ∀ (n : Nat) (x0 : Nat) (x1 : Int32) (x2 : Int32) (x3 : Int32) (w : eW) (r : Int32 × eW), fX9_fewestElls_62 K49 n x0 x1 x2 x3 w = some r → eBN l D cI cZ 4 yX9_fewestElls cX9_fewestElls 4 (some .int) 62 [(0, .ref x0), (1, .int x1), (2, .int x2), (3, .int x3)] [] w (some (.int r.1)) r.2 := by
  intro n
  induction n with
  | zero => intro x0 x1 x2 x3 w r h; exact absurd (show (none : Option (Int32 × eW)) = some r from h) (by simp)
  | succ n ih =>
    intro x0 x1 x2 x3 w r h
    rw [fX9_fewestElls_62] at h
    intro p e s m args below meth c r0 A X
    refine ev_iload_n (pc := 62) X 3 dX9_fewestElls_62 rfl rfl ?_
    refine ev_iload_n (pc := 63) X 1 dX9_fewestElls_63 rfl rfl ?_
    refine ev_icmp_gt (pc := 64) X 91 dX9_fewestElls_64 rfl (fun hc => ?_) (fun hc => ?_)
    · rw [if_pos hc] at h
      refine ev_aload_n (pc := 91) X 0 dX9_fewestElls_91 rfl rfl ?_
      obtain ⟨v1, hv1, h⟩ := eBi h
      refine ev_getR (pc := 92) X hcX9 (k := 3) (by decide) kfX9_18 dX9_fewestElls_92 hv1 ?_
      refine ev_iload_n (pc := 95) X 1 dX9_fewestElls_95 rfl rfl ?_
      refine ev_iload_n (pc := 96) X 2 dX9_fewestElls_96 rfl rfl ?_
      obtain ⟨v3, w2, hc, h⟩ := eB2 h
      refine ev_callS_i (pc := 97) (As := [.int x1, .int x2]) (S := [.ref v1]) X hwX9_placeOf klX9_58 htX9_placeOf ⟨Nat.le_of_ble_eq_true rfl, Nat.le_of_ble_eq_true rfl⟩ ⟨Nat.le_refl _, Nat.le_refl _⟩ rfl (Nat.le_of_ble_eq_true rfl) dX9_fewestElls_97 rfl (mX9_placeOf hc) ?_
      obtain ⟨v5, w4, hc, h⟩ := eB2 h
      refine ev_callV_i (pc := 100) (As := [.int v3]) (S := []) X hwX7_get klX9_69 hiX7_get hsX7_get (ci := 7) ⟨rfl, rfl⟩ ⟨Nat.le_of_ble_eq_true rfl, Nat.le_of_ble_eq_true rfl⟩ ⟨Nat.le_refl _, Nat.le_refl _⟩ rfl (Nat.le_of_ble_eq_true rfl) dX9_fewestElls_100 rfl (mX7_get (l := l) (D := D) (cI := cI) (cZ := cZ) hc).1 (mX7_get hc).2 ?_
      refine ev_if_eq (pc := 103) X 108 dX9_fewestElls_103 rfl (fun hc => ?_) (fun hc => ?_)
      · rw [if_pos hc] at h
        refine ev_iinc (pc := 108) (v := x2 + (1 : Int32)) (L' := [(2, .int (x2 + (1 : Int32))), (0, .ref x0), (1, .int x1), (3, .int x3)]) X 2 dX9_fewestElls_108 rfl rfl (by decide) rfl ?_
        refine ev_goto (pc := 111) X 49 dX9_fewestElls_111 rfl ?_
        exact ev_weak (pc := 49) [1, 2, 0] rfl (hK49 _ _ _ _ _ h p e s m args below meth c r0 A X)
      · rw [if_neg hc] at h
        refine ev_iload_n (pc := 106) X 2 dX9_fewestElls_106 rfl rfl ?_
        obtain rfl := Option.some.inj h
        exact ev_iret (pc := 107) X dX9_fewestElls_107
    · rw [if_neg hc] at h
      refine ev_aload_n (pc := 67) X 0 dX9_fewestElls_67 rfl rfl ?_
      obtain ⟨v6, hv6, h⟩ := eBi h
      refine ev_getR (pc := 68) X hcX9 (k := 3) (by decide) kfX9_18 dX9_fewestElls_68 hv6 ?_
      refine ev_iload_n (pc := 71) X 3 dX9_fewestElls_71 rfl rfl ?_
      refine ev_iload_n (pc := 72) X 2 dX9_fewestElls_72 rfl rfl ?_
      obtain ⟨v8, w7, hc, h⟩ := eB2 h
      refine ev_callS_i (pc := 73) (As := [.int x3, .int x2]) (S := [.ref v6]) X hwX9_placeOf klX9_58 htX9_placeOf ⟨Nat.le_of_ble_eq_true rfl, Nat.le_of_ble_eq_true rfl⟩ ⟨Nat.le_refl _, Nat.le_refl _⟩ rfl (Nat.le_of_ble_eq_true rfl) dX9_fewestElls_73 rfl (mX9_placeOf hc) ?_
      refine ev_aload_n (pc := 76) X 0 dX9_fewestElls_76 rfl rfl ?_
      refine ev_iload_n (pc := 77) X 3 dX9_fewestElls_77 rfl rfl ?_
      refine ev_iload_n (pc := 78) X 2 dX9_fewestElls_78 rfl rfl ?_
      obtain ⟨v10, w9, hc, h⟩ := eB2 h
      refine ev_callV_i (pc := 79) (As := [.int x3, .int x2]) (S := [.int v8, .ref v6]) X hwX9_cellsJoined klX9_62 hiX9_cellsJoined hsX9_cellsJoined (ci := 9) ⟨rfl, rfl⟩ ⟨Nat.le_of_ble_eq_true rfl, Nat.le_of_ble_eq_true rfl⟩ ⟨Nat.le_refl _, Nat.le_refl _⟩ rfl (Nat.le_of_ble_eq_true rfl) dX9_fewestElls_79 rfl (mX9_cellsJoined (l := l) (D := D) (cI := cI) (cZ := cZ) hc).1 (mX9_cellsJoined hc).2 ?_
      obtain ⟨w11, hc, h⟩ := eBi h
      refine ev_callV_v (pc := 82) (As := [.int v8, .int v10]) (S := []) X hwX7_put klX9_65 hiX7_put hsX7_put (ci := 7) ⟨rfl, rfl⟩ ⟨Nat.le_of_ble_eq_true rfl, Nat.le_of_ble_eq_true rfl⟩ ⟨Nat.le_refl _, Nat.le_refl _⟩ rfl (Nat.le_of_ble_eq_true rfl) dX9_fewestElls_82 rfl (mX7_put (l := l) (D := D) (cI := cI) (cZ := cZ) hc).1 (mX7_put hc).2 ?_
      refine ev_iinc (pc := 85) (v := x3 + (1 : Int32)) (L' := [(3, .int (x3 + (1 : Int32))), (0, .ref x0), (1, .int x1), (2, .int x2)]) X 3 dX9_fewestElls_85 rfl rfl (by decide) rfl ?_
      refine ev_goto (pc := 88) X 62 dX9_fewestElls_88 rfl ?_
      exact ev_weak (pc := 62) [1, 2, 3, 0] rfl (ih _ _ _ _ _ _ h p e s m args below meth c r0 A X)
def fX9_fewestElls_49 : Nat → Nat → Int32 → Int32 → eW → Option (Int32 × eW)
  | 0, _, _, _, _ => none
  | n + 1, x0, x1, x2, w => (eGR w x0 9 0).bind fun v1 => eBind2 (fX1_cells v1 w) fun v3 w2 => if v3 ≤ x2 then (some ((-9 : Int32), w2)) else (fX9_fewestElls_62 (fX9_fewestElls_49 n) eN x0 x1 x2 (1 : Int32) w2)
set_option maxRecDepth 20000 in
theorem sX9_fewestElls_49  : ∀ (n : Nat) (x0 : Nat) (x1 : Int32) (x2 : Int32) (w : eW) (r : Int32 × eW), fX9_fewestElls_49 n x0 x1 x2 w = some r → eBN l D cI cZ 4 yX9_fewestElls cX9_fewestElls 4 (some .int) 49 [(0, .ref x0), (1, .int x1), (2, .int x2)] [] w (some (.int r.1)) r.2 := by
  intro n
  induction n with
  | zero => intro x0 x1 x2 w r h; exact absurd (show (none : Option (Int32 × eW)) = some r from h) (by simp)
  | succ n ih =>
    intro x0 x1 x2 w r h
    rw [fX9_fewestElls_49] at h
    intro p e s m args below meth c r0 A X
    refine ev_iload_n (pc := 49) X 2 dX9_fewestElls_49 rfl rfl ?_
    refine ev_aload_n (pc := 50) X 0 dX9_fewestElls_50 rfl rfl ?_
    obtain ⟨v1, hv1, h⟩ := eBi h
    refine ev_getR (pc := 51) X hcX9 (k := 0) (by decide) kfX9_24 dX9_fewestElls_51 hv1 ?_
    obtain ⟨v3, w2, hc, h⟩ := eB2 h
    refine ev_callV_i (pc := 54) (As := []) (S := [.int x2]) X hwX1_cells klX9_55 hiX1_cells hsX1_cells (ci := 1) ⟨rfl, rfl⟩ ⟨Nat.le_of_ble_eq_true rfl, Nat.le_of_ble_eq_true rfl⟩ ⟨Nat.le_refl _, Nat.le_refl _⟩ rfl (Nat.le_of_ble_eq_true rfl) dX9_fewestElls_54 rfl (mX1_cells (l := l) (D := D) (cI := cI) (cZ := cZ) hc).1 (mX1_cells hc).2 ?_
    refine ev_icmp_ge (pc := 57) X 114 dX9_fewestElls_57 rfl (fun hc => ?_) (fun hc => ?_)
    · rw [if_pos hc] at h
      refine ev_bipush (pc := 114) (v := (-9 : Int32)) X dX9_fewestElls_114 rfl ?_
      obtain rfl := Option.some.inj h
      exact ev_iret (pc := 116) X dX9_fewestElls_116
    · rw [if_neg hc] at h
      refine ev_iconst (pc := 60) (v := (1 : Int32)) X dX9_fewestElls_60 rfl ?_
      refine ev_istore_n (pc := 61) (L' := [(3, .int (1 : Int32)), (0, .ref x0), (1, .int x1), (2, .int x2)]) X dX9_fewestElls_61 rfl (by decide) rfl ?_
      exact ev_weak (pc := 62) [1, 2, 3, 0] rfl (sX9_fewestElls_62 (fun _ _ _ w r hh => ih _ _ _ w r hh) eN _ _ _ _ _ _ h p e s m args below meth c r0 A X)
def fX9_fewestElls_0 (x0 : Nat) (w : eW) : Option (Int32 × eW) := (eGR w x0 9 2).bind fun v1 => (eGR w x0 9 0).bind fun v2 => eBind2 (fX1_slope v2 w) fun v4 w3 => (fX6_layWhereSlope v1 v4 w3).bind fun w5 => (eGR w5 x0 9 0).bind fun v6 => eBind2 (fX1_towns v6 w5) fun v8 w7 => eBind2 (fX10_bit v8 w7) fun v10 w9 => if (v10 - (1 : Int32)) = 0 then (some ((0 : Int32), w9)) else ((eGR w9 x0 9 2).bind fun v11 => eBind2 (fX6_pieces v11 w9) fun v13 w12 => if v13 ≤ (1 : Int32) then (fX9_fewestElls_49 eN x0 (v10 - (1 : Int32)) (0 : Int32) w12) else (some ((-9 : Int32), w12)))
set_option maxRecDepth 20000 in
theorem sX9_fewestElls_0  (x0 : Nat) (w : eW) (r : Int32 × eW) (h : fX9_fewestElls_0 x0 w = some r) : eBN l D cI cZ 4 yX9_fewestElls cX9_fewestElls 4 (some .int) 0 [(0, .ref x0)] [] w (some (.int r.1)) r.2 := by
  rw [fX9_fewestElls_0] at h
  intro p e s m args below meth c r0 A X
  refine ev_aload_n (pc := 0) X 0 dX9_fewestElls_0 rfl rfl ?_
  obtain ⟨v1, hv1, h⟩ := eBi h
  refine ev_getR (pc := 1) X hcX9 (k := 2) (by decide) kfX9_37 dX9_fewestElls_1 hv1 ?_
  refine ev_aload_n (pc := 4) X 0 dX9_fewestElls_4 rfl rfl ?_
  obtain ⟨v2, hv2, h⟩ := eBi h
  refine ev_getR (pc := 5) X hcX9 (k := 0) (by decide) kfX9_24 dX9_fewestElls_5 hv2 ?_
  obtain ⟨v4, w3, hc, h⟩ := eB2 h
  refine ev_callV_i (pc := 8) (As := []) (S := [.ref v1]) X hwX1_slope klX9_47 hiX1_slope hsX1_slope (ci := 1) ⟨rfl, rfl⟩ ⟨Nat.le_of_ble_eq_true rfl, Nat.le_of_ble_eq_true rfl⟩ ⟨Nat.le_refl _, Nat.le_refl _⟩ rfl (Nat.le_of_ble_eq_true rfl) dX9_fewestElls_8 rfl (mX1_slope (l := l) (D := D) (cI := cI) (cZ := cZ) hc).1 (mX1_slope hc).2 ?_
  obtain ⟨w5, hc, h⟩ := eBi h
  refine ev_callV_v (pc := 11) (As := [.int v4]) (S := []) X hwX6_layWhereSlope klX9_40 hiX6_layWhereSlope hsX6_layWhereSlope (ci := 6) ⟨rfl, rfl⟩ ⟨Nat.le_of_ble_eq_true rfl, Nat.le_of_ble_eq_true rfl⟩ ⟨Nat.le_refl _, Nat.le_refl _⟩ rfl (Nat.le_of_ble_eq_true rfl) dX9_fewestElls_11 rfl (mX6_layWhereSlope (l := l) (D := D) (cI := cI) (cZ := cZ) hc).1 (mX6_layWhereSlope hc).2 ?_
  refine ev_aload_n (pc := 14) X 0 dX9_fewestElls_14 rfl rfl ?_
  obtain ⟨v6, hv6, h⟩ := eBi h
  refine ev_getR (pc := 15) X hcX9 (k := 0) (by decide) kfX9_24 dX9_fewestElls_15 hv6 ?_
  obtain ⟨v8, w7, hc, h⟩ := eB2 h
  refine ev_callV_i (pc := 18) (As := []) (S := []) X hwX1_towns klX9_52 hiX1_towns hsX1_towns (ci := 1) ⟨rfl, rfl⟩ ⟨Nat.le_of_ble_eq_true rfl, Nat.le_of_ble_eq_true rfl⟩ ⟨Nat.le_refl _, Nat.le_refl _⟩ rfl (Nat.le_of_ble_eq_true rfl) dX9_fewestElls_18 rfl (mX1_towns (l := l) (D := D) (cI := cI) (cZ := cZ) hc).1 (mX1_towns hc).2 ?_
  obtain ⟨v10, w9, hc, h⟩ := eB2 h
  refine ev_callSN_i (pc := 21) (As := [.int v8]) (S := []) X hwX10_bit knX9_11 htX10_bit ⟨Nat.le_of_ble_eq_true rfl, Nat.le_of_ble_eq_true rfl⟩ ⟨Nat.le_refl _, Nat.le_refl _⟩ rfl (Nat.le_of_ble_eq_true rfl) dX9_fewestElls_21 rfl (mX10_bit hc) ?_
  refine ev_iconst (pc := 24) (v := (1 : Int32)) X dX9_fewestElls_24 rfl ?_
  refine ev_isub (pc := 25) X dX9_fewestElls_25 ?_
  refine ev_istore_n (pc := 26) (L' := [(1, .int (v10 - (1 : Int32))), (0, .ref x0)]) X dX9_fewestElls_26 rfl (by decide) rfl ?_
  refine ev_iload_n (pc := 27) X 0 dX9_fewestElls_27 rfl rfl ?_
  refine ev_if_ne (pc := 28) X 33 dX9_fewestElls_28 rfl (fun hc => ?_) (fun hc => ?_)
  · rw [if_neg hc] at h
    refine ev_aload_n (pc := 33) X 1 dX9_fewestElls_33 rfl rfl ?_
    obtain ⟨v11, hv11, h⟩ := eBi h
    refine ev_getR (pc := 34) X hcX9 (k := 2) (by decide) kfX9_37 dX9_fewestElls_34 hv11 ?_
    obtain ⟨v13, w12, hc, h⟩ := eB2 h
    refine ev_callV_i (pc := 37) (As := []) (S := []) X hwX6_pieces klX9_43 hiX6_pieces hsX6_pieces (ci := 6) ⟨rfl, rfl⟩ ⟨Nat.le_of_ble_eq_true rfl, Nat.le_of_ble_eq_true rfl⟩ ⟨Nat.le_refl _, Nat.le_refl _⟩ rfl (Nat.le_of_ble_eq_true rfl) dX9_fewestElls_37 rfl (mX6_pieces (l := l) (D := D) (cI := cI) (cZ := cZ) hc).1 (mX6_pieces hc).2 ?_
    refine ev_iconst (pc := 40) (v := (1 : Int32)) X dX9_fewestElls_40 rfl ?_
    refine ev_icmp_le (pc := 41) X 47 dX9_fewestElls_41 rfl (fun hc => ?_) (fun hc => ?_)
    · rw [if_pos hc] at h
      refine ev_iconst (pc := 47) (v := (0 : Int32)) X dX9_fewestElls_47 rfl ?_
      refine ev_istore_n (pc := 48) (L' := [(2, .int (0 : Int32)), (1, .int (v10 - (1 : Int32))), (0, .ref x0)]) X dX9_fewestElls_48 rfl (by decide) rfl ?_
      exact ev_weak (pc := 49) [2, 1, 0] rfl (sX9_fewestElls_49 eN _ _ _ _ _ h p e s m args below meth c r0 A X)
    · rw [if_neg hc] at h
      refine ev_bipush (pc := 44) (v := (-9 : Int32)) X dX9_fewestElls_44 rfl ?_
      obtain rfl := Option.some.inj h
      exact ev_iret (pc := 46) X dX9_fewestElls_46
  · rw [if_pos hc] at h
    refine ev_iconst (pc := 31) (v := (0 : Int32)) X dX9_fewestElls_31 rfl ?_
    obtain rfl := Option.some.inj h
    exact ev_iret (pc := 32) X dX9_fewestElls_32
def fX9_fewestElls (a0 : Nat) (w : eW) : Option (Int32 × eW) := bif eO w a0 9 then fX9_fewestElls_0 a0 w else none
theorem mX9_fewestElls {a0 : Nat} {w : eW} {v : Int32} {w' : eW} (h : fX9_fewestElls a0 w = some (v, w')) : eO w a0 9 = true ∧ eMN l D cI cZ 4 yX9_fewestElls cX9_fewestElls 4 (some .int) [.ref a0] w (some (.int v)) w' := by
  obtain ⟨h0, h⟩ := eBif h
  exact ⟨h0, eMN_of [(0, .ref a0)] (plainFor_of_name (by decide)) (fun _ => rfl) (fun _ => Nat.le_of_ble_eq_true rfl) (fun p e s m args below meth c r0 A X => ev_weak (pc := 0) [0] rfl (sX9_fewestElls_0 _ _ _ h p e s m args below meth c r0 A X))⟩
end GEN
