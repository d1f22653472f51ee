section GEN
variable {l : Launch} {D : va_G} {cI cZ : ClassId}
theorem dX11_notes_0 : decode cX11_notes 0 = .ok (.aload_n 0, 1) := by decide +kernel
theorem dX11_notes_1 : decode cX11_notes 1 = .ok (.getfield 113, 3) := by decide +kernel
theorem dX11_notes_4 : decode cX11_notes 4 = .ok (.bipush 10, 2) := by decide +kernel
theorem dX11_notes_6 : decode cX11_notes 6 = .ok (.if_icmp .ne 39, 3) := by decide +kernel
theorem dX11_notes_9 : decode cX11_notes 9 = .ok (.iconst 0, 1) := by decide +kernel
theorem dX11_notes_10 : decode cX11_notes 10 = .ok (.istore_n 1, 1) := by decide +kernel
theorem dX11_notes_11 : decode cX11_notes 11 = .ok (.iload_n 1, 1) := by decide +kernel
theorem dX11_notes_12 : decode cX11_notes 12 = .ok (.sipush 513, 3) := by decide +kernel
theorem dX11_notes_15 : decode cX11_notes 15 = .ok (.if_icmp .ge 24, 3) := by decide +kernel
theorem dX11_notes_18 : decode cX11_notes 18 = .ok (.aload_n 0, 1) := by decide +kernel
theorem dX11_notes_19 : decode cX11_notes 19 = .ok (.getfield 35, 3) := by decide +kernel
theorem dX11_notes_22 : decode cX11_notes 22 = .ok (.iload_n 1, 1) := by decide +kernel
theorem dX11_notes_23 : decode cX11_notes 23 = .ok (.aload_n 0, 1) := by decide +kernel
theorem dX11_notes_24 : decode cX11_notes 24 = .ok (.getfield 35, 3) := by decide +kernel
theorem dX11_notes_27 : decode cX11_notes 27 = .ok (.iload_n 1, 1) := by decide +kernel
theorem dX11_notes_28 : decode cX11_notes 28 = .ok (.bipush 57, 2) := by decide +kernel
theorem dX11_notes_30 : decode cX11_notes 30 = .ok (.iadd, 1) := by decide +kernel
theorem dX11_notes_31 : decode cX11_notes 31 = .ok (.iaload, 1) := by decide +kernel
theorem dX11_notes_32 : decode cX11_notes 32 = .ok (.iastore, 1) := by decide +kernel
theorem dX11_notes_33 : decode cX11_notes 33 = .ok (.iinc 1 1, 3) := by decide +kernel
theorem dX11_notes_36 : decode cX11_notes 36 = .ok (.goto (-25), 3) := by decide +kernel
theorem dX11_notes_39 : decode cX11_notes 39 = .ok (.aload_n 0, 1) := by decide +kernel
theorem dX11_notes_40 : decode cX11_notes 40 = .ok (.bipush 9, 2) := by decide +kernel
theorem dX11_notes_42 : decode cX11_notes 42 = .ok (.putfield 113, 3) := by decide +kernel
theorem dX11_notes_45 : decode cX11_notes 45 = .ok (.iconst 0, 1) := by decide +kernel
theorem dX11_notes_46 : decode cX11_notes 46 = .ok (.istore_n 1, 1) := by decide +kernel
theorem dX11_notes_47 : decode cX11_notes 47 = .ok (.iload_n 1, 1) := by decide +kernel
theorem dX11_notes_48 : decode cX11_notes 48 = .ok (.bipush 57, 2) := by decide +kernel
theorem dX11_notes_50 : decode cX11_notes 50 = .ok (.if_icmp .ge 29, 3) := by decide +kernel
theorem dX11_notes_53 : decode cX11_notes 53 = .ok (.aload_n 0, 1) := by decide +kernel
theorem dX11_notes_54 : decode cX11_notes 54 = .ok (.getfield 35, 3) := by decide +kernel
theorem dX11_notes_57 : decode cX11_notes 57 = .ok (.bipush 57, 2) := by decide +kernel
theorem dX11_notes_59 : decode cX11_notes 59 = .ok (.aload_n 0, 1) := by decide +kernel
theorem dX11_notes_60 : decode cX11_notes 60 = .ok (.getfield 113, 3) := by decide +kernel
theorem dX11_notes_63 : decode cX11_notes 63 = .ok (.imul, 1) := by decide +kernel
theorem dX11_notes_64 : decode cX11_notes 64 = .ok (.iload_n 1, 1) := by decide +kernel
theorem dX11_notes_65 : decode cX11_notes 65 = .ok (.iadd, 1) := by decide +kernel
theorem dX11_notes_66 : decode cX11_notes 66 = .ok (.aload_n 0, 1) := by decide +kernel
theorem dX11_notes_67 : decode cX11_notes 67 = .ok (.getfield 22, 3) := by decide +kernel
theorem dX11_notes_70 : decode cX11_notes 70 = .ok (.iload_n 1, 1) := by decide +kernel
theorem dX11_notes_71 : decode cX11_notes 71 = .ok (.iaload, 1) := by decide +kernel
theorem dX11_notes_72 : decode cX11_notes 72 = .ok (.iastore, 1) := by decide +kernel
theorem dX11_notes_73 : decode cX11_notes 73 = .ok (.iinc 1 1, 3) := by decide +kernel
theorem dX11_notes_76 : decode cX11_notes 76 = .ok (.goto (-29), 3) := by decide +kernel
theorem dX11_notes_79 : decode cX11_notes 79 = .ok (.aload_n 0, 1) := by decide +kernel
theorem dX11_notes_80 : decode cX11_notes 80 = .ok (.dup, 1) := by decide +kernel
theorem dX11_notes_81 : decode cX11_notes 81 = .ok (.getfield 113, 3) := by decide +kernel
theorem dX11_notes_84 : decode cX11_notes 84 = .ok (.iconst 1, 1) := by decide +kernel
theorem dX11_notes_85 : decode cX11_notes 85 = .ok (.iadd, 1) := by decide +kernel
theorem dX11_notes_86 : decode cX11_notes 86 = .ok (.putfield 113, 3) := by decide +kernel
theorem dX11_notes_89 : decode cX11_notes 89 = .ok (.return_, 1) := by decide +kernel
def fX11_notes_47 : Nat → Nat → Int32 → eW → Option (eW)
  | 0, _, _, _ => none
  | n + 1, x0, x1, w => if (57 : Int32) ≤ x1 then ((eGI w x0 11 18).bind fun v1 => (eP w x0 11 18 (.int (v1 + (1 : Int32)))).bind fun w2 => some w2) else ((eGR w x0 11 17).bind fun v3 => (eGI w x0 11 18).bind fun v4 => (eGR w x0 11 13).bind fun v5 => (eLd w false v5 x1).bind fun v6 => (eSt w false v3 (((57 : Int32) * v4) + x1) v6).bind fun w7 => fX11_notes_47 n x0 (x1 + (1 : Int32)) w7)
set_option maxRecDepth 20000 in
theorem sX11_notes_47  : ∀ (n : Nat) (x0 : Nat) (x1 : Int32) (w : eW) (r : eW), fX11_notes_47 n x0 x1 w = some r → eBN l D cI cZ 0 yX11_notes cX11_notes 2 none 47 [(0, .ref x0), (1, .int x1)] [] w none r := by
  intro n
  induction n with
  | zero => intro x0 x1 w r h; exact absurd (show (none : Option (eW)) = some r from h) (by simp)
  | succ n ih =>
    intro x0 x1 w r h
    rw [fX11_notes_47] at h
    intro p e s m args below meth c r0 A X
    refine ev_iload_n (pc := 47) X 1 dX11_notes_47 rfl rfl ?_
    refine ev_bipush (pc := 48) (v := (57 : Int32)) X dX11_notes_48 rfl ?_
    refine ev_icmp_ge (pc := 50) X 79 dX11_notes_50 rfl (fun hc => ?_) (fun hc => ?_)
    · rw [if_pos hc] at h
      refine ev_aload_n (pc := 79) X 0 dX11_notes_79 rfl rfl ?_
      refine ev_dup (pc := 80) X dX11_notes_80 rfl ?_
      obtain ⟨v1, hv1, h⟩ := eBi h
      refine ev_getI (pc := 81) X hcX11 (k := 18) (by decide) kfX11_113 dX11_notes_81 hv1 ?_
      refine ev_iconst (pc := 84) (v := (1 : Int32)) X dX11_notes_84 rfl ?_
      refine ev_iadd (pc := 85) X dX11_notes_85 ?_
      obtain ⟨w2, hw2, h⟩ := eBi h
      refine ev_putI (pc := 86) X hcX11 (k := 18) (by decide) kfX11_113 rfl rfl dX11_notes_86 hw2 ?_
      obtain rfl := Option.some.inj h
      exact ev_vret (pc := 89) X dX11_notes_89
    · rw [if_neg hc] at h
      refine ev_aload_n (pc := 53) X 0 dX11_notes_53 rfl rfl ?_
      obtain ⟨v3, hv3, h⟩ := eBi h
      refine ev_getR (pc := 54) X hcX11 (k := 17) (by decide) kfX11_35 dX11_notes_54 hv3 ?_
      refine ev_bipush (pc := 57) (v := (57 : Int32)) X dX11_notes_57 rfl ?_
      refine ev_aload_n (pc := 59) X 0 dX11_notes_59 rfl rfl ?_
      obtain ⟨v4, hv4, h⟩ := eBi h
      refine ev_getI (pc := 60) X hcX11 (k := 18) (by decide) kfX11_113 dX11_notes_60 hv4 ?_
      refine ev_imul (pc := 63) X dX11_notes_63 ?_
      refine ev_iload_n (pc := 64) X 1 dX11_notes_64 rfl rfl ?_
      refine ev_iadd (pc := 65) X dX11_notes_65 ?_
      refine ev_aload_n (pc := 66) X 0 dX11_notes_66 rfl rfl ?_
      obtain ⟨v5, hv5, h⟩ := eBi h
      refine ev_getR (pc := 67) X hcX11 (k := 13) (by decide) kfX11_22 dX11_notes_67 hv5 ?_
      refine ev_iload_n (pc := 70) X 1 dX11_notes_70 rfl rfl ?_
      obtain ⟨v6, hv6, h⟩ := eBi h
      refine ev_iald (pc := 71) X dX11_notes_71 hv6 ?_
      obtain ⟨w7, hw7, h⟩ := eBi h
      refine ev_iast (pc := 72) X dX11_notes_72 hw7 ?_
      refine ev_iinc (pc := 73) (v := x1 + (1 : Int32)) (L' := [(1, .int (x1 + (1 : Int32))), (0, .ref x0)]) X 1 dX11_notes_73 rfl rfl (by decide) rfl ?_
      refine ev_goto (pc := 76) X 47 dX11_notes_76 rfl ?_
      exact ev_weak (pc := 47) [1, 0] rfl (ih _ _ _ _ h p e s m args below meth c r0 A X)
def fX11_notes_45 (x0 : Nat) (w : eW) : Option (eW) := fX11_notes_47 eN x0 (0 : Int32) w
set_option maxRecDepth 20000 in
theorem sX11_notes_45  (x0 : Nat) (w : eW) (r : eW) (h : fX11_notes_45 x0 w = some r) : eBN l D cI cZ 0 yX11_notes cX11_notes 2 none 45 [(0, .ref x0)] [] w none r := by
  rw [fX11_notes_45] at h
  intro p e s m args below meth c r0 A X
  refine ev_iconst (pc := 45) (v := (0 : Int32)) X dX11_notes_45 rfl ?_
  refine ev_istore_n (pc := 46) (L' := [(1, .int (0 : Int32)), (0, .ref x0)]) X dX11_notes_46 rfl (by decide) rfl ?_
  exact ev_weak (pc := 47) [1, 0] rfl (sX11_notes_47 eN _ _ _ _ h p e s m args below meth c r0 A X)
def fX11_notes_11 : Nat → Nat → Int32 → eW → Option (eW)
  | 0, _, _, _ => none
  | n + 1, x0, x1, w => if (513 : Int32) ≤ x1 then ((eP w x0 11 18 (.int (9 : Int32))).bind fun w1 => fX11_notes_45 x0 w1) else ((eGR w x0 11 17).bind fun v2 => (eGR w x0 11 17).bind fun v3 => (eLd w false v3 (x1 + (57 : Int32))).bind fun v4 => (eSt w false v2 x1 v4).bind fun w5 => fX11_notes_11 n x0 (x1 + (1 : Int32)) w5)
set_option maxRecDepth 20000 in
theorem sX11_notes_11  : ∀ (n : Nat) (x0 : Nat) (x1 : Int32) (w : eW) (r : eW), fX11_notes_11 n x0 x1 w = some r → eBN l D cI cZ 0 yX11_notes cX11_notes 2 none 11 [(0, .ref x0), (1, .int x1)] [] w none r := by
  intro n
  induction n with
  | zero => intro x0 x1 w r h; exact absurd (show (none : Option (eW)) = some r from h) (by simp)
  | succ n ih =>
    intro x0 x1 w r h
    rw [fX11_notes_11] at h
    intro p e s m args below meth c r0 A X
    refine ev_iload_n (pc := 11) X 1 dX11_notes_11 rfl rfl ?_
    refine ev_sipush (pc := 12) (v := (513 : Int32)) X dX11_notes_12 rfl ?_
    refine ev_icmp_ge (pc := 15) X 39 dX11_notes_15 rfl (fun hc => ?_) (fun hc => ?_)
    · rw [if_pos hc] at h
      refine ev_aload_n (pc := 39) X 0 dX11_notes_39 rfl rfl ?_
      refine ev_bipush (pc := 40) (v := (9 : Int32)) X dX11_notes_40 rfl ?_
      obtain ⟨w1, hw1, h⟩ := eBi h
      refine ev_putI (pc := 42) X hcX11 (k := 18) (by decide) kfX11_113 rfl rfl dX11_notes_42 hw1 ?_
      exact ev_weak (pc := 45) [0] rfl (sX11_notes_45 _ _ _ h p e s m args below meth c r0 A X)
    · rw [if_neg hc] at h
      refine ev_aload_n (pc := 18) X 0 dX11_notes_18 rfl rfl ?_
      obtain ⟨v2, hv2, h⟩ := eBi h
      refine ev_getR (pc := 19) X hcX11 (k := 17) (by decide) kfX11_35 dX11_notes_19 hv2 ?_
      refine ev_iload_n (pc := 22) X 1 dX11_notes_22 rfl rfl ?_
      refine ev_aload_n (pc := 23) X 0 dX11_notes_23 rfl rfl ?_
      obtain ⟨v3, hv3, h⟩ := eBi h
      refine ev_getR (pc := 24) X hcX11 (k := 17) (by decide) kfX11_35 dX11_notes_24 hv3 ?_
      refine ev_iload_n (pc := 27) X 1 dX11_notes_27 rfl rfl ?_
      refine ev_bipush (pc := 28) (v := (57 : Int32)) X dX11_notes_28 rfl ?_
      refine ev_iadd (pc := 30) X dX11_notes_30 ?_
      obtain ⟨v4, hv4, h⟩ := eBi h
      refine ev_iald (pc := 31) X dX11_notes_31 hv4 ?_
      obtain ⟨w5, hw5, h⟩ := eBi h
      refine ev_iast (pc := 32) X dX11_notes_32 hw5 ?_
      refine ev_iinc (pc := 33) (v := x1 + (1 : Int32)) (L' := [(1, .int (x1 + (1 : Int32))), (0, .ref x0)]) X 1 dX11_notes_33 rfl rfl (by decide) rfl ?_
      refine ev_goto (pc := 36) X 11 dX11_notes_36 rfl ?_
      exact ev_weak (pc := 11) [1, 0] rfl (ih _ _ _ _ h p e s m args below meth c r0 A X)
def fX11_notes_0 (x0 : Nat) (w : eW) : Option (eW) := (eGI w x0 11 18).bind fun v1 => if v1 = (10 : Int32) then (fX11_notes_11 eN x0 (0 : Int32) w) else (fX11_notes_45 x0 w)
set_option maxRecDepth 20000 in
theorem sX11_notes_0  (x0 : Nat) (w : eW) (r : eW) (h : fX11_notes_0 x0 w = some r) : eBN l D cI cZ 0 yX11_notes cX11_notes 2 none 0 [(0, .ref x0)] [] w none r := by
  rw [fX11_notes_0] at h
  intro p e s m args below meth c r0 A X
  refine ev_aload_n (pc := 0) X 0 dX11_notes_0 rfl rfl ?_
  obtain ⟨v1, hv1, h⟩ := eBi h
  refine ev_getI (pc := 1) X hcX11 (k := 18) (by decide) kfX11_113 dX11_notes_1 hv1 ?_
  refine ev_bipush (pc := 4) (v := (10 : Int32)) X dX11_notes_4 rfl ?_
  refine ev_icmp_ne (pc := 6) X 45 dX11_notes_6 rfl (fun hc => ?_) (fun hc => ?_)
  · rw [if_neg hc] at h
    exact ev_weak (pc := 45) [0] rfl (sX11_notes_45 _ _ _ h p e s m args below meth c r0 A X)
  · rw [if_pos hc] at h
    refine ev_iconst (pc := 9) (v := (0 : Int32)) X dX11_notes_9 rfl ?_
    refine ev_istore_n (pc := 10) (L' := [(1, .int (0 : Int32)), (0, .ref x0)]) X dX11_notes_10 rfl (by decide) rfl ?_
    exact ev_weak (pc := 11) [1, 0] rfl (sX11_notes_11 eN _ _ _ _ h p e s m args below meth c r0 A X)
def fX11_notes (a0 : Nat) (w : eW) : Option (eW) := bif eO w a0 11 then fX11_notes_0 a0 w else none
theorem mX11_notes {a0 : Nat} {w : eW} {w' : eW} (h : fX11_notes a0 w = some w') : eO w a0 11 = true ∧ eMN l D cI cZ 0 yX11_notes cX11_notes 2 none [.ref a0] w none w' := by
  obtain ⟨h0, h⟩ := eBif h
  exact ⟨h0, eMN_of [(0, .ref a0)] (plainFor_of_name (by decide)) (fun _ => rfl) (fun _ => Nat.le_of_ble_eq_true rfl) (fun p e s m args below meth c r0 A X => ev_weak (pc := 0) [0] rfl (sX11_notes_0 _ _ _ h p e s m args below meth c r0 A X))⟩
theorem dX11_begins_0 : decode cX11_begins 0 = .ok (.aload_n 0, 1) := by decide +kernel
theorem dX11_begins_1 : decode cX11_begins 1 = .ok (.iconst 0, 1) := by decide +kernel
theorem dX11_begins_2 : decode cX11_begins 2 = .ok (.putfield 50, 3) := by decide +kernel
theorem dX11_begins_5 : decode cX11_begins 5 = .ok (.aload_n 0, 1) := by decide +kernel
theorem dX11_begins_6 : decode cX11_begins 6 = .ok (.iload_n 1, 1) := by decide +kernel
theorem dX11_begins_7 : decode cX11_begins 7 = .ok (.invokevirtual 120, 3) := by decide +kernel
theorem dX11_begins_10 : decode cX11_begins 10 = .ok (.ifCond .ne 5, 3) := by decide +kernel
theorem dX11_begins_13 : decode cX11_begins 13 = .ok (.iconst (-1), 1) := by decide +kernel
theorem dX11_begins_14 : decode cX11_begins 14 = .ok (.ireturn, 1) := by decide +kernel
theorem dX11_begins_15 : decode cX11_begins 15 = .ok (.aload_n 0, 1) := by decide +kernel
theorem dX11_begins_16 : decode cX11_begins 16 = .ok (.getfield 22, 3) := by decide +kernel
theorem dX11_begins_19 : decode cX11_begins 19 = .ok (.iconst 0, 1) := by decide +kernel
theorem dX11_begins_20 : decode cX11_begins 20 = .ok (.iaload, 1) := by decide +kernel
theorem dX11_begins_21 : decode cX11_begins 21 = .ok (.iconst 4, 1) := by decide +kernel
theorem dX11_begins_22 : decode cX11_begins 22 = .ok (.if_icmp .ne 6, 3) := by decide +kernel
theorem dX11_begins_25 : decode cX11_begins 25 = .ok (.bipush (-3), 2) := by decide +kernel
theorem dX11_begins_27 : decode cX11_begins 27 = .ok (.ireturn, 1) := by decide +kernel
theorem dX11_begins_28 : decode cX11_begins 28 = .ok (.aload_n 0, 1) := by decide +kernel
theorem dX11_begins_29 : decode cX11_begins 29 = .ok (.invokevirtual 182, 3) := by decide +kernel
theorem dX11_begins_32 : decode cX11_begins 32 = .ok (.aload_n 0, 1) := by decide +kernel
theorem dX11_begins_33 : decode cX11_begins 33 = .ok (.getfield 22, 3) := by decide +kernel
theorem dX11_begins_36 : decode cX11_begins 36 = .ok (.iconst 0, 1) := by decide +kernel
theorem dX11_begins_37 : decode cX11_begins 37 = .ok (.iaload, 1) := by decide +kernel
theorem dX11_begins_38 : decode cX11_begins 38 = .ok (.istore_n 2, 1) := by decide +kernel
theorem dX11_begins_39 : decode cX11_begins 39 = .ok (.aload_n 0, 1) := by decide +kernel
theorem dX11_begins_40 : decode cX11_begins 40 = .ok (.getfield 22, 3) := by decide +kernel
theorem dX11_begins_43 : decode cX11_begins 43 = .ok (.iconst 1, 1) := by decide +kernel
theorem dX11_begins_44 : decode cX11_begins 44 = .ok (.bipush 14, 2) := by decide +kernel
theorem dX11_begins_46 : decode cX11_begins 46 = .ok (.iload_n 2, 1) := by decide +kernel
theorem dX11_begins_47 : decode cX11_begins 47 = .ok (.imul, 1) := by decide +kernel
theorem dX11_begins_48 : decode cX11_begins 48 = .ok (.iadd, 1) := by decide +kernel
theorem dX11_begins_49 : decode cX11_begins 49 = .ok (.iload_n 1, 1) := by decide +kernel
theorem dX11_begins_50 : decode cX11_begins 50 = .ok (.iastore, 1) := by decide +kernel
theorem dX11_begins_51 : decode cX11_begins 51 = .ok (.aload_n 0, 1) := by decide +kernel
theorem dX11_begins_52 : decode cX11_begins 52 = .ok (.getfield 22, 3) := by decide +kernel
theorem dX11_begins_55 : decode cX11_begins 55 = .ok (.iconst 1, 1) := by decide +kernel
theorem dX11_begins_56 : decode cX11_begins 56 = .ok (.bipush 14, 2) := by decide +kernel
theorem dX11_begins_58 : decode cX11_begins 58 = .ok (.iload_n 2, 1) := by decide +kernel
theorem dX11_begins_59 : decode cX11_begins 59 = .ok (.imul, 1) := by decide +kernel
theorem dX11_begins_60 : decode cX11_begins 60 = .ok (.iadd, 1) := by decide +kernel
theorem dX11_begins_61 : decode cX11_begins 61 = .ok (.iconst 1, 1) := by decide +kernel
theorem dX11_begins_62 : decode cX11_begins 62 = .ok (.iadd, 1) := by decide +kernel
theorem dX11_begins_63 : decode cX11_begins 63 = .ok (.iconst 0, 1) := by decide +kernel
theorem dX11_begins_64 : decode cX11_begins 64 = .ok (.iastore, 1) := by decide +kernel
theorem dX11_begins_65 : decode cX11_begins 65 = .ok (.aload_n 0, 1) := by decide +kernel
theorem dX11_begins_66 : decode cX11_begins 66 = .ok (.getfield 22, 3) := by decide +kernel
theorem dX11_begins_69 : decode cX11_begins 69 = .ok (.iconst 0, 1) := by decide +kernel
theorem dX11_begins_70 : decode cX11_begins 70 = .ok (.dup2, 1) := by decide +kernel
theorem dX11_begins_71 : decode cX11_begins 71 = .ok (.iaload, 1) := by decide +kernel
theorem dX11_begins_72 : decode cX11_begins 72 = .ok (.iconst 1, 1) := by decide +kernel
theorem dX11_begins_73 : decode cX11_begins 73 = .ok (.iadd, 1) := by decide +kernel
theorem dX11_begins_74 : decode cX11_begins 74 = .ok (.iastore, 1) := by decide +kernel
theorem dX11_begins_75 : decode cX11_begins 75 = .ok (.iload_n 2, 1) := by decide +kernel
theorem dX11_begins_76 : decode cX11_begins 76 = .ok (.ireturn, 1) := by decide +kernel
def fX11_begins_0 (x0 : Nat) (x1 : Int32) (w : eW) : Option (Int32 × eW) := (eP w x0 11 0 (.int (0 : Int32))).bind fun w1 => eBind2 (fX11_isCell x0 x1 w1) fun v3 w2 => if v3 = 0 then (some ((-1 : Int32), w2)) else ((eGR w2 x0 11 13).bind fun v4 => (eLd w2 false v4 (0 : Int32)).bind fun v5 => if v5 = (4 : Int32) then (some ((-3 : Int32), w2)) else ((fX11_notes x0 w2).bind fun w6 => (eGR w6 x0 11 13).bind fun v7 => (eLd w6 false v7 (0 : Int32)).bind fun v8 => (eGR w6 x0 11 13).bind fun v9 => (eSt w6 false v9 ((1 : Int32) + ((14 : Int32) * v8)) x1).bind fun w10 => (eGR w10 x0 11 13).bind fun v11 => (eSt w10 false v11 (((1 : Int32) + ((14 : Int32) * v8)) + (1 : Int32)) (0 : Int32)).bind fun w12 => (eGR w12 x0 11 13).bind fun v13 => (eLd w12 false v13 (0 : Int32)).bind fun v14 => (eSt w12 false v13 (0 : Int32) (v14 + (1 : Int32))).bind fun w15 => some (v8, w15)))
set_option maxRecDepth 20000 in
theorem sX11_begins_0  (x0 : Nat) (x1 : Int32) (w : eW) (r : Int32 × eW) (h : fX11_begins_0 x0 x1 w = some r) : eBN l D cI cZ 2 yX11_begins cX11_begins 3 (some .int) 0 [(0, .ref x0), (1, .int x1)] [] w (some (.int r.1)) r.2 := by
  rw [fX11_begins_0] at h
  intro p e s m args below meth c r0 A X
  refine ev_aload_n (pc := 0) X 0 dX11_begins_0 rfl rfl ?_
  refine ev_iconst (pc := 1) (v := (0 : Int32)) X dX11_begins_1 rfl ?_
  obtain ⟨w1, hw1, h⟩ := eBi h
  refine ev_putI (pc := 2) X hcX11 (k := 0) (by decide) kfX11_50 rfl rfl dX11_begins_2 hw1 ?_
  refine ev_aload_n (pc := 5) X 0 dX11_begins_5 rfl rfl ?_
  refine ev_iload_n (pc := 6) X 1 dX11_begins_6 rfl rfl ?_
  obtain ⟨v3, w2, hc, h⟩ := eB2 h
  refine ev_callV_i (pc := 7) (As := [.int x1]) (S := []) X hwX11_isCell klX11_120 hiX11_isCell hsX11_isCell (ci := 11) ⟨rfl, rfl⟩ ⟨Nat.le_of_ble_eq_true rfl, Nat.le_of_ble_eq_true rfl⟩ ⟨Nat.le_refl _, Nat.le_refl _⟩ rfl (Nat.le_of_ble_eq_true rfl) dX11_begins_7 rfl (mX11_isCell (l := l) (D := D) (cI := cI) (cZ := cZ) hc).1 (mX11_isCell hc).2 ?_
  refine ev_if_ne (pc := 10) X 15 dX11_begins_10 rfl (fun hc => ?_) (fun hc => ?_)
  · rw [if_neg hc] at h
    refine ev_aload_n (pc := 15) X 0 dX11_begins_15 rfl rfl ?_
    obtain ⟨v4, hv4, h⟩ := eBi h
    refine ev_getR (pc := 16) X hcX11 (k := 13) (by decide) kfX11_22 dX11_begins_16 hv4 ?_
    refine ev_iconst (pc := 19) (v := (0 : Int32)) X dX11_begins_19 rfl ?_
    obtain ⟨v5, hv5, h⟩ := eBi h
    refine ev_iald (pc := 20) X dX11_begins_20 hv5 ?_
    refine ev_iconst (pc := 21) (v := (4 : Int32)) X dX11_begins_21 rfl ?_
    refine ev_icmp_ne (pc := 22) X 28 dX11_begins_22 rfl (fun hc => ?_) (fun hc => ?_)
    · rw [if_neg hc] at h
      refine ev_aload_n (pc := 28) X 0 dX11_begins_28 rfl rfl ?_
      obtain ⟨w6, hc, h⟩ := eBi h
      refine ev_callV_v (pc := 29) (As := []) (S := []) X hwX11_notes klX11_182 hiX11_notes hsX11_notes (ci := 11) ⟨rfl, rfl⟩ ⟨Nat.le_of_ble_eq_true rfl, Nat.le_of_ble_eq_true rfl⟩ ⟨Nat.le_refl _, Nat.le_refl _⟩ rfl (Nat.le_of_ble_eq_true rfl) dX11_begins_29 rfl (mX11_notes (l := l) (D := D) (cI := cI) (cZ := cZ) hc).1 (mX11_notes hc).2 ?_
      refine ev_aload_n (pc := 32) X 0 dX11_begins_32 rfl rfl ?_
      obtain ⟨v7, hv7, h⟩ := eBi h
      refine ev_getR (pc := 33) X hcX11 (k := 13) (by decide) kfX11_22 dX11_begins_33 hv7 ?_
      refine ev_iconst (pc := 36) (v := (0 : Int32)) X dX11_begins_36 rfl ?_
      obtain ⟨v8, hv8, h⟩ := eBi h
      refine ev_iald (pc := 37) X dX11_begins_37 hv8 ?_
      refine ev_istore_n (pc := 38) (L' := [(2, .int v8), (0, .ref x0), (1, .int x1)]) X dX11_begins_38 rfl (by decide) rfl ?_
      refine ev_aload_n (pc := 39) X 1 dX11_begins_39 rfl rfl ?_
      obtain ⟨v9, hv9, h⟩ := eBi h
      refine ev_getR (pc := 40) X hcX11 (k := 13) (by decide) kfX11_22 dX11_begins_40 hv9 ?_
      refine ev_iconst (pc := 43) (v := (1 : Int32)) X dX11_begins_43 rfl ?_
      refine ev_bipush (pc := 44) (v := (14 : Int32)) X dX11_begins_44 rfl ?_
      refine ev_iload_n (pc := 46) X 0 dX11_begins_46 rfl rfl ?_
      refine ev_imul (pc := 47) X dX11_begins_47 ?_
      refine ev_iadd (pc := 48) X dX11_begins_48 ?_
      refine ev_iload_n (pc := 49) X 2 dX11_begins_49 rfl rfl ?_
      obtain ⟨w10, hw10, h⟩ := eBi h
      refine ev_iast (pc := 50) X dX11_begins_50 hw10 ?_
      refine ev_aload_n (pc := 51) X 1 dX11_begins_51 rfl rfl ?_
      obtain ⟨v11, hv11, h⟩ := eBi h
      refine ev_getR (pc := 52) X hcX11 (k := 13) (by decide) kfX11_22 dX11_begins_52 hv11 ?_
      refine ev_iconst (pc := 55) (v := (1 : Int32)) X dX11_begins_55 rfl ?_
      refine ev_bipush (pc := 56) (v := (14 : Int32)) X dX11_begins_56 rfl ?_
      refine ev_iload_n (pc := 58) X 0 dX11_begins_58 rfl rfl ?_
      refine ev_imul (pc := 59) X dX11_begins_59 ?_
      refine ev_iadd (pc := 60) X dX11_begins_60 ?_
      refine ev_iconst (pc := 61) (v := (1 : Int32)) X dX11_begins_61 rfl ?_
      refine ev_iadd (pc := 62) X dX11_begins_62 ?_
      refine ev_iconst (pc := 63) (v := (0 : Int32)) X dX11_begins_63 rfl ?_
      obtain ⟨w12, hw12, h⟩ := eBi h
      refine ev_iast (pc := 64) X dX11_begins_64 hw12 ?_
      refine ev_aload_n (pc := 65) X 1 dX11_begins_65 rfl rfl ?_
      obtain ⟨v13, hv13, h⟩ := eBi h
      refine ev_getR (pc := 66) X hcX11 (k := 13) (by decide) kfX11_22 dX11_begins_66 hv13 ?_
      refine ev_iconst (pc := 69) (v := (0 : Int32)) X dX11_begins_69 rfl ?_
      refine ev_dup2 (pc := 70) X dX11_begins_70 rfl rfl ?_
      obtain ⟨v14, hv14, h⟩ := eBi h
      refine ev_iald (pc := 71) X dX11_begins_71 hv14 ?_
      refine ev_iconst (pc := 72) (v := (1 : Int32)) X dX11_begins_72 rfl ?_
      refine ev_iadd (pc := 73) X dX11_begins_73 ?_
      obtain ⟨w15, hw15, h⟩ := eBi h
      refine ev_iast (pc := 74) X dX11_begins_74 hw15 ?_
      refine ev_iload_n (pc := 75) X 0 dX11_begins_75 rfl rfl ?_
      obtain rfl := Option.some.inj h
      exact ev_iret (pc := 76) X dX11_begins_76
    · rw [if_pos hc] at h
      refine ev_bipush (pc := 25) (v := (-3 : Int32)) X dX11_begins_25 rfl ?_
      obtain rfl := Option.some.inj h
      exact ev_iret (pc := 27) X dX11_begins_27
  · rw [if_pos hc] at h
    refine ev_iconst (pc := 13) (v := (-1 : Int32)) X dX11_begins_13 rfl ?_
    obtain rfl := Option.some.inj h
    exact ev_iret (pc := 14) X dX11_begins_14
def fX11_begins (a0 : Nat) (a1 : Int32) (w : eW) : Option (Int32 × eW) := bif eO w a0 11 then fX11_begins_0 a0 a1 w else none
theorem mX11_begins {a0 : Nat} {a1 : Int32} {w : eW} {v : Int32} {w' : eW} (h : fX11_begins a0 a1 w = some (v, w')) : eO w a0 11 = true ∧ eMN l D cI cZ 2 yX11_begins cX11_begins 3 (some .int) [.ref a0, .int a1] w (some (.int v)) w' := by
  obtain ⟨h0, h⟩ := eBif h
  exact ⟨h0, eMN_of [(0, .ref a0), (1, .int a1)] (plainFor_of_name (by decide)) (fun _ => rfl) (fun _ => Nat.le_of_ble_eq_true rfl) (fun p e s m args below meth c r0 A X => ev_weak (pc := 0) [0, 1] rfl (sX11_begins_0 _ _ _ _ h p e s m args below meth c r0 A X))⟩
theorem dX11_weaves_0 : decode cX11_weaves 0 = .ok (.aload_n 0, 1) := by decide +kernel
theorem dX11_weaves_1 : decode cX11_weaves 1 = .ok (.iconst 0, 1) := by decide +kernel
theorem dX11_weaves_2 : decode cX11_weaves 2 = .ok (.putfield 50, 3) := by decide +kernel
theorem dX11_weaves_5 : decode cX11_weaves 5 = .ok (.aload_n 0, 1) := by decide +kernel
theorem dX11_weaves_6 : decode cX11_weaves 6 = .ok (.iload_n 1, 1) := by decide +kernel
theorem dX11_weaves_7 : decode cX11_weaves 7 = .ok (.invokevirtual 143, 3) := by decide +kernel
theorem dX11_weaves_10 : decode cX11_weaves 10 = .ok (.ifCond .eq 12, 3) := by decide +kernel
theorem dX11_weaves_13 : decode cX11_weaves 13 = .ok (.iload_n 2, 1) := by decide +kernel
theorem dX11_weaves_14 : decode cX11_weaves 14 = .ok (.iconst 0, 1) := by decide +kernel
theorem dX11_weaves_15 : decode cX11_weaves 15 = .ok (.iconst 3, 1) := by decide +kernel
theorem dX11_weaves_16 : decode cX11_weaves 16 = .ok (.invokestatic 54, 3) := by decide +kernel
theorem dX11_weaves_19 : decode cX11_weaves 19 = .ok (.ifCond .ne 5, 3) := by decide +kernel
theorem dX11_weaves_22 : decode cX11_weaves 22 = .ok (.iconst (-1), 1) := by decide +kernel
theorem dX11_weaves_23 : decode cX11_weaves 23 = .ok (.ireturn, 1) := by decide +kernel
theorem dX11_weaves_24 : decode cX11_weaves 24 = .ok (.aload_n 0, 1) := by decide +kernel
theorem dX11_weaves_25 : decode cX11_weaves 25 = .ok (.aload_n 0, 1) := by decide +kernel
theorem dX11_weaves_26 : decode cX11_weaves 26 = .ok (.aload_n 0, 1) := by decide +kernel
theorem dX11_weaves_27 : decode cX11_weaves 27 = .ok (.getfield 22, 3) := by decide +kernel
theorem dX11_weaves_30 : decode cX11_weaves 30 = .ok (.iload_n 1, 1) := by decide +kernel
theorem dX11_weaves_31 : decode cX11_weaves 31 = .ok (.invokevirtual 146, 3) := by decide +kernel
theorem dX11_weaves_34 : decode cX11_weaves 34 = .ok (.iload_n 2, 1) := by decide +kernel
theorem dX11_weaves_35 : decode cX11_weaves 35 = .ok (.invokevirtual 185, 3) := by decide +kernel
theorem dX11_weaves_38 : decode cX11_weaves 38 = .ok (.istore_n 3, 1) := by decide +kernel
theorem dX11_weaves_39 : decode cX11_weaves 39 = .ok (.iload_n 3, 1) := by decide +kernel
theorem dX11_weaves_40 : decode cX11_weaves 40 = .ok (.bipush (-9), 2) := by decide +kernel
theorem dX11_weaves_42 : decode cX11_weaves 42 = .ok (.if_icmp .ne 6, 3) := by decide +kernel
theorem dX11_weaves_45 : decode cX11_weaves 45 = .ok (.bipush (-2), 2) := by decide +kernel
theorem dX11_weaves_47 : decode cX11_weaves 47 = .ok (.ireturn, 1) := by decide +kernel
theorem dX11_weaves_48 : decode cX11_weaves 48 = .ok (.aload_n 0, 1) := by decide +kernel
theorem dX11_weaves_49 : decode cX11_weaves 49 = .ok (.getfield 22, 3) := by decide +kernel
theorem dX11_weaves_52 : decode cX11_weaves 52 = .ok (.iload_n 1, 1) := by decide +kernel
theorem dX11_weaves_53 : decode cX11_weaves 53 = .ok (.invokestatic 137, 3) := by decide +kernel
theorem dX11_weaves_56 : decode cX11_weaves 56 = .ok (.bipush 12, 2) := by decide +kernel
theorem dX11_weaves_58 : decode cX11_weaves 58 = .ok (.if_icmp .ne 6, 3) := by decide +kernel
theorem dX11_weaves_61 : decode cX11_weaves 61 = .ok (.bipush (-3), 2) := by decide +kernel
theorem dX11_weaves_63 : decode cX11_weaves 63 = .ok (.ireturn, 1) := by decide +kernel
theorem dX11_weaves_64 : decode cX11_weaves 64 = .ok (.aload_n 0, 1) := by decide +kernel
theorem dX11_weaves_65 : decode cX11_weaves 65 = .ok (.invokevirtual 182, 3) := by decide +kernel
theorem dX11_weaves_68 : decode cX11_weaves 68 = .ok (.aload_n 0, 1) := by decide +kernel
theorem dX11_weaves_69 : decode cX11_weaves 69 = .ok (.getfield 22, 3) := by decide +kernel
theorem dX11_weaves_72 : decode cX11_weaves 72 = .ok (.iconst 1, 1) := by decide +kernel
theorem dX11_weaves_73 : decode cX11_weaves 73 = .ok (.bipush 14, 2) := by decide +kernel
theorem dX11_weaves_75 : decode cX11_weaves 75 = .ok (.iload_n 1, 1) := by decide +kernel
theorem dX11_weaves_76 : decode cX11_weaves 76 = .ok (.imul, 1) := by decide +kernel
theorem dX11_weaves_77 : decode cX11_weaves 77 = .ok (.iadd, 1) := by decide +kernel
theorem dX11_weaves_78 : decode cX11_weaves 78 = .ok (.iconst 2, 1) := by decide +kernel
theorem dX11_weaves_79 : decode cX11_weaves 79 = .ok (.iadd, 1) := by decide +kernel
theorem dX11_weaves_80 : decode cX11_weaves 80 = .ok (.aload_n 0, 1) := by decide +kernel
theorem dX11_weaves_81 : decode cX11_weaves 81 = .ok (.getfield 22, 3) := by decide +kernel
theorem dX11_weaves_84 : decode cX11_weaves 84 = .ok (.iload_n 1, 1) := by decide +kernel
theorem dX11_weaves_85 : decode cX11_weaves 85 = .ok (.invokestatic 137, 3) := by decide +kernel
theorem dX11_weaves_88 : decode cX11_weaves 88 = .ok (.iadd, 1) := by decide +kernel
theorem dX11_weaves_89 : decode cX11_weaves 89 = .ok (.iload_n 2, 1) := by decide +kernel
theorem dX11_weaves_90 : decode cX11_weaves 90 = .ok (.iastore, 1) := by decide +kernel
theorem dX11_weaves_91 : decode cX11_weaves 91 = .ok (.aload_n 0, 1) := by decide +kernel
theorem dX11_weaves_92 : decode cX11_weaves 92 = .ok (.getfield 22, 3) := by decide +kernel
theorem dX11_weaves_95 : decode cX11_weaves 95 = .ok (.iconst 1, 1) := by decide +kernel
theorem dX11_weaves_96 : decode cX11_weaves 96 = .ok (.bipush 14, 2) := by decide +kernel
theorem dX11_weaves_98 : decode cX11_weaves 98 = .ok (.iload_n 1, 1) := by decide +kernel
theorem dX11_weaves_99 : decode cX11_weaves 99 = .ok (.imul, 1) := by decide +kernel
theorem dX11_weaves_100 : decode cX11_weaves 100 = .ok (.iadd, 1) := by decide +kernel
theorem dX11_weaves_101 : decode cX11_weaves 101 = .ok (.iconst 1, 1) := by decide +kernel
theorem dX11_weaves_102 : decode cX11_weaves 102 = .ok (.iadd, 1) := by decide +kernel
theorem dX11_weaves_103 : decode cX11_weaves 103 = .ok (.dup2, 1) := by decide +kernel
theorem dX11_weaves_104 : decode cX11_weaves 104 = .ok (.iaload, 1) := by decide +kernel
theorem dX11_weaves_105 : decode cX11_weaves 105 = .ok (.iconst 1, 1) := by decide +kernel
theorem dX11_weaves_106 : decode cX11_weaves 106 = .ok (.iadd, 1) := by decide +kernel
theorem dX11_weaves_107 : decode cX11_weaves 107 = .ok (.iastore, 1) := by decide +kernel
theorem dX11_weaves_108 : decode cX11_weaves 108 = .ok (.iload_n 3, 1) := by decide +kernel
theorem dX11_weaves_109 : decode cX11_weaves 109 = .ok (.ireturn, 1) := by decide +kernel
def fX11_weaves_0 (x0 : Nat) (x1 : Int32) (x2 : Int32) (w : eW) : Option (Int32 × eW) := (eP w x0 11 0 (.int (0 : Int32))).bind fun w1 => eBind2 (fX11_isBolt x0 x1 w1) fun v3 w2 => if v3 = 0 then (some ((-1 : Int32), w2)) else (eBind2 (fX11_in x2 (0 : Int32) (3 : Int32) w2) fun v5 w4 => if v5 = 0 then (some ((-1 : Int32), w4)) else ((eGR w4 x0 11 13).bind fun v6 => eBind2 (fX11_endOf x0 v6 x1 w4) fun v8 w7 => eBind2 (fX11_goes x0 v8 x2 w7) fun v10 w9 => if v10 = (-9 : Int32) then (some ((-2 : Int32), w9)) else ((eGR w9 x0 11 13).bind fun v11 => eBind2 (fX11_cardsOf v11 x1 w9) fun v13 w12 => if v13 = (12 : Int32) then (some ((-3 : Int32), w12)) else ((fX11_notes x0 w12).bind fun w14 => (eGR w14 x0 11 13).bind fun v15 => (eGR w14 x0 11 13).bind fun v16 => eBind2 (fX11_cardsOf v16 x1 w14) fun v18 w17 => (eSt w17 false v15 ((((1 : Int32) + ((14 : Int32) * x1)) + (2 : Int32)) + v18) x2).bind fun w19 => (eGR w19 x0 11 13).bind fun v20 => (eLd w19 false v20 (((1 : Int32) + ((14 : Int32) * x1)) + (1 : Int32))).bind fun v21 => (eSt w19 false v20 (((1 : Int32) + ((14 : Int32) * x1)) + (1 : Int32)) (v21 + (1 : Int32))).bind fun w22 => some (v10, w22)))))
set_option maxRecDepth 20000 in
theorem sX11_weaves_0  (x0 : Nat) (x1 : Int32) (x2 : Int32) (w : eW) (r : Int32 × eW) (h : fX11_weaves_0 x0 x1 x2 w = some r) : eBN l D cI cZ 4 yX11_weaves cX11_weaves 4 (some .int) 0 [(0, .ref x0), (1, .int x1), (2, .int x2)] [] w (some (.int r.1)) r.2 := by
  rw [fX11_weaves_0] at h
  intro p e s m args below meth c r0 A X
  refine ev_aload_n (pc := 0) X 0 dX11_weaves_0 rfl rfl ?_
  refine ev_iconst (pc := 1) (v := (0 : Int32)) X dX11_weaves_1 rfl ?_
  obtain ⟨w1, hw1, h⟩ := eBi h
  refine ev_putI (pc := 2) X hcX11 (k := 0) (by decide) kfX11_50 rfl rfl dX11_weaves_2 hw1 ?_
  refine ev_aload_n (pc := 5) X 0 dX11_weaves_5 rfl rfl ?_
  refine ev_iload_n (pc := 6) X 1 dX11_weaves_6 rfl rfl ?_
  obtain ⟨v3, w2, hc, h⟩ := eB2 h
  refine ev_callV_i (pc := 7) (As := [.int x1]) (S := []) X hwX11_isBolt klX11_143 hiX11_isBolt hsX11_isBolt (ci := 11) ⟨rfl, rfl⟩ ⟨Nat.le_of_ble_eq_true rfl, Nat.le_of_ble_eq_true rfl⟩ ⟨Nat.le_refl _, Nat.le_refl _⟩ rfl (Nat.le_of_ble_eq_true rfl) dX11_weaves_7 rfl (mX11_isBolt (l := l) (D := D) (cI := cI) (cZ := cZ) hc).1 (mX11_isBolt hc).2 ?_
  refine ev_if_eq (pc := 10) X 22 dX11_weaves_10 rfl (fun hc => ?_) (fun hc => ?_)
  · rw [if_pos hc] at h
    refine ev_iconst (pc := 22) (v := (-1 : Int32)) X dX11_weaves_22 rfl ?_
    obtain rfl := Option.some.inj h
    exact ev_iret (pc := 23) X dX11_weaves_23
  · rw [if_neg hc] at h
    refine ev_iload_n (pc := 13) X 2 dX11_weaves_13 rfl rfl ?_
    refine ev_iconst (pc := 14) (v := (0 : Int32)) X dX11_weaves_14 rfl ?_
    refine ev_iconst (pc := 15) (v := (3 : Int32)) X dX11_weaves_15 rfl ?_
    obtain ⟨v5, w4, hc, h⟩ := eB2 h
    refine ev_callS_i (pc := 16) (As := [.int x2, .int (0 : Int32), .int (3 : Int32)]) (S := []) X hwX11_in klX11_54 htX11_in ⟨Nat.le_of_ble_eq_true rfl, Nat.le_of_ble_eq_true rfl⟩ ⟨Nat.le_refl _, Nat.le_refl _⟩ rfl (Nat.le_of_ble_eq_true rfl) dX11_weaves_16 rfl (mX11_in hc) ?_
    refine ev_if_ne (pc := 19) X 24 dX11_weaves_19 rfl (fun hc => ?_) (fun hc => ?_)
    · rw [if_neg hc] at h
      refine ev_aload_n (pc := 24) X 0 dX11_weaves_24 rfl rfl ?_
      refine ev_aload_n (pc := 25) X 0 dX11_weaves_25 rfl rfl ?_
      refine ev_aload_n (pc := 26) X 0 dX11_weaves_26 rfl rfl ?_
      obtain ⟨v6, hv6, h⟩ := eBi h
      refine ev_getR (pc := 27) X hcX11 (k := 13) (by decide) kfX11_22 dX11_weaves_27 hv6 ?_
      refine ev_iload_n (pc := 30) X 1 dX11_weaves_30 rfl rfl ?_
      obtain ⟨v8, w7, hc, h⟩ := eB2 h
      refine ev_callV_i (pc := 31) (As := [.ref v6, .int x1]) (S := [.ref x0]) X hwX11_endOf klX11_146 hiX11_endOf hsX11_endOf (ci := 11) ⟨rfl, rfl⟩ ⟨Nat.le_of_ble_eq_true rfl, Nat.le_of_ble_eq_true rfl⟩ ⟨Nat.le_refl _, Nat.le_refl _⟩ rfl (Nat.le_of_ble_eq_true rfl) dX11_weaves_31 rfl (mX11_endOf (l := l) (D := D) (cI := cI) (cZ := cZ) hc).1 (mX11_endOf hc).2 ?_
      refine ev_iload_n (pc := 34) X 2 dX11_weaves_34 rfl rfl ?_
      obtain ⟨v10, w9, hc, h⟩ := eB2 h
      refine ev_callV_i (pc := 35) (As := [.int v8, .int x2]) (S := []) X hwX11_goes klX11_185 hiX11_goes hsX11_goes (ci := 11) ⟨rfl, rfl⟩ ⟨Nat.le_of_ble_eq_true rfl, Nat.le_of_ble_eq_true rfl⟩ ⟨Nat.le_refl _, Nat.le_refl _⟩ rfl (Nat.le_of_ble_eq_true rfl) dX11_weaves_35 rfl (mX11_goes (l := l) (D := D) (cI := cI) (cZ := cZ) hc).1 (mX11_goes hc).2 ?_
      refine ev_istore_n (pc := 38) (L' := [(3, .int v10), (0, .ref x0), (1, .int x1), (2, .int x2)]) X dX11_weaves_38 rfl (by decide) rfl ?_
      refine ev_iload_n (pc := 39) X 0 dX11_weaves_39 rfl rfl ?_
      refine ev_bipush (pc := 40) (v := (-9 : Int32)) X dX11_weaves_40 rfl ?_
      refine ev_icmp_ne (pc := 42) X 48 dX11_weaves_42 rfl (fun hc => ?_) (fun hc => ?_)
      · rw [if_neg hc] at h
        refine ev_aload_n (pc := 48) X 1 dX11_weaves_48 rfl rfl ?_
        obtain ⟨v11, hv11, h⟩ := eBi h
        refine ev_getR (pc := 49) X hcX11 (k := 13) (by decide) kfX11_22 dX11_weaves_49 hv11 ?_
        refine ev_iload_n (pc := 52) X 2 dX11_weaves_52 rfl rfl ?_
        obtain ⟨v13, w12, hc, h⟩ := eB2 h
        refine ev_callS_i (pc := 53) (As := [.ref v11, .int x1]) (S := []) X hwX11_cardsOf klX11_137 htX11_cardsOf ⟨Nat.le_of_ble_eq_true rfl, Nat.le_of_ble_eq_true rfl⟩ ⟨Nat.le_refl _, Nat.le_refl _⟩ rfl (Nat.le_of_ble_eq_true rfl) dX11_weaves_53 rfl (mX11_cardsOf hc) ?_
        refine ev_bipush (pc := 56) (v := (12 : Int32)) X dX11_weaves_56 rfl ?_
        refine ev_icmp_ne (pc := 58) X 64 dX11_weaves_58 rfl (fun hc => ?_) (fun hc => ?_)
        · rw [if_neg hc] at h
          refine ev_aload_n (pc := 64) X 1 dX11_weaves_64 rfl rfl ?_
          obtain ⟨w14, hc, h⟩ := eBi h
          refine ev_callV_v (pc := 65) (As := []) (S := []) X hwX11_notes klX11_182 hiX11_notes hsX11_notes (ci := 11) ⟨rfl, rfl⟩ ⟨Nat.le_of_ble_eq_true rfl, Nat.le_of_ble_eq_true rfl⟩ ⟨Nat.le_refl _, Nat.le_refl _⟩ rfl (Nat.le_of_ble_eq_true rfl) dX11_weaves_65 rfl (mX11_notes (l := l) (D := D) (cI := cI) (cZ := cZ) hc).1 (mX11_notes hc).2 ?_
          refine ev_aload_n (pc := 68) X 1 dX11_weaves_68 rfl rfl ?_
          obtain ⟨v15, hv15, h⟩ := eBi h
          refine ev_getR (pc := 69) X hcX11 (k := 13) (by decide) kfX11_22 dX11_weaves_69 hv15 ?_
          refine ev_iconst (pc := 72) (v := (1 : Int32)) X dX11_weaves_72 rfl ?_
          refine ev_bipush (pc := 73) (v := (14 : Int32)) X dX11_weaves_73 rfl ?_
          refine ev_iload_n (pc := 75) X 2 dX11_weaves_75 rfl rfl ?_
          refine ev_imul (pc := 76) X dX11_weaves_76 ?_
          refine ev_iadd (pc := 77) X dX11_weaves_77 ?_
          refine ev_iconst (pc := 78) (v := (2 : Int32)) X dX11_weaves_78 rfl ?_
          refine ev_iadd (pc := 79) X dX11_weaves_79 ?_
          refine ev_aload_n (pc := 80) X 1 dX11_weaves_80 rfl rfl ?_
          obtain ⟨v16, hv16, h⟩ := eBi h
          refine ev_getR (pc := 81) X hcX11 (k := 13) (by decide) kfX11_22 dX11_weaves_81 hv16 ?_
          refine ev_iload_n (pc := 84) X 2 dX11_weaves_84 rfl rfl ?_
          obtain ⟨v18, w17, hc, h⟩ := eB2 h
          refine ev_callS_i (pc := 85) (As := [.ref v16, .int x1]) (S := [.int (((1 : Int32) + ((14 : Int32) * x1)) + (2 : Int32)), .ref v15]) X hwX11_cardsOf klX11_137 htX11_cardsOf ⟨Nat.le_of_ble_eq_true rfl, Nat.le_of_ble_eq_true rfl⟩ ⟨Nat.le_refl _, Nat.le_refl _⟩ rfl (Nat.le_of_ble_eq_true rfl) dX11_weaves_85 rfl (mX11_cardsOf hc) ?_
          refine ev_iadd (pc := 88) X dX11_weaves_88 ?_
          refine ev_iload_n (pc := 89) X 3 dX11_weaves_89 rfl rfl ?_
          obtain ⟨w19, hw19, h⟩ := eBi h
          refine ev_iast (pc := 90) X dX11_weaves_90 hw19 ?_
          refine ev_aload_n (pc := 91) X 1 dX11_weaves_91 rfl rfl ?_
          obtain ⟨v20, hv20, h⟩ := eBi h
          refine ev_getR (pc := 92) X hcX11 (k := 13) (by decide) kfX11_22 dX11_weaves_92 hv20 ?_
          refine ev_iconst (pc := 95) (v := (1 : Int32)) X dX11_weaves_95 rfl ?_
          refine ev_bipush (pc := 96) (v := (14 : Int32)) X dX11_weaves_96 rfl ?_
          refine ev_iload_n (pc := 98) X 2 dX11_weaves_98 rfl rfl ?_
          refine ev_imul (pc := 99) X dX11_weaves_99 ?_
          refine ev_iadd (pc := 100) X dX11_weaves_100 ?_
          refine ev_iconst (pc := 101) (v := (1 : Int32)) X dX11_weaves_101 rfl ?_
          refine ev_iadd (pc := 102) X dX11_weaves_102 ?_
          refine ev_dup2 (pc := 103) X dX11_weaves_103 rfl rfl ?_
          obtain ⟨v21, hv21, h⟩ := eBi h
          refine ev_iald (pc := 104) X dX11_weaves_104 hv21 ?_
          refine ev_iconst (pc := 105) (v := (1 : Int32)) X dX11_weaves_105 rfl ?_
          refine ev_iadd (pc := 106) X dX11_weaves_106 ?_
          obtain ⟨w22, hw22, h⟩ := eBi h
          refine ev_iast (pc := 107) X dX11_weaves_107 hw22 ?_
          refine ev_iload_n (pc := 108) X 0 dX11_weaves_108 rfl rfl ?_
          obtain rfl := Option.some.inj h
          exact ev_iret (pc := 109) X dX11_weaves_109
        · rw [if_pos hc] at h
          refine ev_bipush (pc := 61) (v := (-3 : Int32)) X dX11_weaves_61 rfl ?_
          obtain rfl := Option.some.inj h
          exact ev_iret (pc := 63) X dX11_weaves_63
      · rw [if_pos hc] at h
        refine ev_bipush (pc := 45) (v := (-2 : Int32)) X dX11_weaves_45 rfl ?_
        obtain rfl := Option.some.inj h
        exact ev_iret (pc := 47) X dX11_weaves_47
    · rw [if_pos hc] at h
      refine ev_iconst (pc := 22) (v := (-1 : Int32)) X dX11_weaves_22 rfl ?_
      obtain rfl := Option.some.inj h
      exact ev_iret (pc := 23) X dX11_weaves_23
def fX11_weaves (a0 : Nat) (a1 : Int32) (a2 : Int32) (w : eW) : Option (Int32 × eW) := bif eO w a0 11 then fX11_weaves_0 a0 a1 a2 w else none
theorem mX11_weaves {a0 : Nat} {a1 : Int32} {a2 : Int32} {w : eW} {v : Int32} {w' : eW} (h : fX11_weaves a0 a1 a2 w = some (v, w')) : eO w a0 11 = true ∧ eMN l D cI cZ 4 yX11_weaves cX11_weaves 4 (some .int) [.ref a0, .int a1, .int a2] w (some (.int v)) w' := by
  obtain ⟨h0, h⟩ := eBif h
  exact ⟨h0, eMN_of [(0, .ref a0), (1, .int a1), (2, .int a2)] (plainFor_of_name (by decide)) (fun _ => rfl) (fun _ => Nat.le_of_ble_eq_true rfl) (fun p e s m args below meth c r0 A X => ev_weak (pc := 0) [0, 1, 2] rfl (sX11_weaves_0 _ _ _ _ _ h p e s m args below meth c r0 A X))⟩
theorem dX11_turnAbout_0 : decode cX11_turnAbout 0 = .ok (.aload_n 0, 1) := by decide +kernel
theorem dX11_turnAbout_1 : decode cX11_turnAbout 1 = .ok (.iconst 0, 1) := by decide +kernel
theorem dX11_turnAbout_2 : decode cX11_turnAbout 2 = .ok (.putfield 50, 3) := by decide +kernel
theorem dX11_turnAbout_5 : decode cX11_turnAbout 5 = .ok (.aload_n 0, 1) := by decide +kernel
theorem dX11_turnAbout_6 : decode cX11_turnAbout 6 = .ok (.iload_n 1, 1) := by decide +kernel
theorem dX11_turnAbout_7 : decode cX11_turnAbout 7 = .ok (.invokevirtual 143, 3) := by decide +kernel
theorem dX11_turnAbout_10 : decode cX11_turnAbout 10 = .ok (.ifCond .ne 5, 3) := by decide +kernel
theorem dX11_turnAbout_13 : decode cX11_turnAbout 13 = .ok (.iconst (-1), 1) := by decide +kernel
theorem dX11_turnAbout_14 : decode cX11_turnAbout 14 = .ok (.ireturn, 1) := by decide +kernel
theorem dX11_turnAbout_15 : decode cX11_turnAbout 15 = .ok (.aload_n 0, 1) := by decide +kernel
theorem dX11_turnAbout_16 : decode cX11_turnAbout 16 = .ok (.invokevirtual 182, 3) := by decide +kernel
theorem dX11_turnAbout_19 : decode cX11_turnAbout 19 = .ok (.bipush 57, 2) := by decide +kernel
theorem dX11_turnAbout_21 : decode cX11_turnAbout 21 = .ok (.aload_n 0, 1) := by decide +kernel
theorem dX11_turnAbout_22 : decode cX11_turnAbout 22 = .ok (.getfield 113, 3) := by decide +kernel
theorem dX11_turnAbout_25 : decode cX11_turnAbout 25 = .ok (.iconst 1, 1) := by decide +kernel
theorem dX11_turnAbout_26 : decode cX11_turnAbout 26 = .ok (.isub, 1) := by decide +kernel
theorem dX11_turnAbout_27 : decode cX11_turnAbout 27 = .ok (.imul, 1) := by decide +kernel
theorem dX11_turnAbout_28 : decode cX11_turnAbout 28 = .ok (.iconst 1, 1) := by decide +kernel
theorem dX11_turnAbout_29 : decode cX11_turnAbout 29 = .ok (.iadd, 1) := by decide +kernel
theorem dX11_turnAbout_30 : decode cX11_turnAbout 30 = .ok (.bipush 14, 2) := by decide +kernel
theorem dX11_turnAbout_32 : decode cX11_turnAbout 32 = .ok (.iload_n 1, 1) := by decide +kernel
theorem dX11_turnAbout_33 : decode cX11_turnAbout 33 = .ok (.imul, 1) := by decide +kernel
theorem dX11_turnAbout_34 : decode cX11_turnAbout 34 = .ok (.iadd, 1) := by decide +kernel
theorem dX11_turnAbout_35 : decode cX11_turnAbout 35 = .ok (.istore_n 2, 1) := by decide +kernel
theorem dX11_turnAbout_36 : decode cX11_turnAbout 36 = .ok (.aload_n 0, 1) := by decide +kernel
theorem dX11_turnAbout_37 : decode cX11_turnAbout 37 = .ok (.getfield 22, 3) := by decide +kernel
theorem dX11_turnAbout_40 : decode cX11_turnAbout 40 = .ok (.iload_n 1, 1) := by decide +kernel
theorem dX11_turnAbout_41 : decode cX11_turnAbout 41 = .ok (.invokestatic 137, 3) := by decide +kernel
theorem dX11_turnAbout_44 : decode cX11_turnAbout 44 = .ok (.istore_n 3, 1) := by decide +kernel
theorem dX11_turnAbout_45 : decode cX11_turnAbout 45 = .ok (.aload_n 0, 1) := by decide +kernel
theorem dX11_turnAbout_46 : decode cX11_turnAbout 46 = .ok (.getfield 22, 3) := by decide +kernel
theorem dX11_turnAbout_49 : decode cX11_turnAbout 49 = .ok (.iconst 1, 1) := by decide +kernel
theorem dX11_turnAbout_50 : decode cX11_turnAbout 50 = .ok (.bipush 14, 2) := by decide +kernel
theorem dX11_turnAbout_52 : decode cX11_turnAbout 52 = .ok (.iload_n 1, 1) := by decide +kernel
theorem dX11_turnAbout_53 : decode cX11_turnAbout 53 = .ok (.imul, 1) := by decide +kernel
theorem dX11_turnAbout_54 : decode cX11_turnAbout 54 = .ok (.iadd, 1) := by decide +kernel
theorem dX11_turnAbout_55 : decode cX11_turnAbout 55 = .ok (.aload_n 0, 1) := by decide +kernel
theorem dX11_turnAbout_56 : decode cX11_turnAbout 56 = .ok (.aload_n 0, 1) := by decide +kernel
theorem dX11_turnAbout_57 : decode cX11_turnAbout 57 = .ok (.getfield 22, 3) := by decide +kernel
theorem dX11_turnAbout_60 : decode cX11_turnAbout 60 = .ok (.iload_n 1, 1) := by decide +kernel
theorem dX11_turnAbout_61 : decode cX11_turnAbout 61 = .ok (.invokevirtual 146, 3) := by decide +kernel
theorem dX11_turnAbout_64 : decode cX11_turnAbout 64 = .ok (.iastore, 1) := by decide +kernel
theorem dX11_turnAbout_65 : decode cX11_turnAbout 65 = .ok (.iconst 0, 1) := by decide +kernel
theorem dX11_turnAbout_66 : decode cX11_turnAbout 66 = .ok (.istore 4, 2) := by decide +kernel
theorem dX11_turnAbout_68 : decode cX11_turnAbout 68 = .ok (.iload 4, 2) := by decide +kernel
theorem dX11_turnAbout_70 : decode cX11_turnAbout 70 = .ok (.iload_n 3, 1) := by decide +kernel
theorem dX11_turnAbout_71 : decode cX11_turnAbout 71 = .ok (.if_icmp .ge 40, 3) := by decide +kernel
theorem dX11_turnAbout_74 : decode cX11_turnAbout 74 = .ok (.aload_n 0, 1) := by decide +kernel
theorem dX11_turnAbout_75 : decode cX11_turnAbout 75 = .ok (.getfield 22, 3) := by decide +kernel
theorem dX11_turnAbout_78 : decode cX11_turnAbout 78 = .ok (.iconst 1, 1) := by decide +kernel
theorem dX11_turnAbout_79 : decode cX11_turnAbout 79 = .ok (.bipush 14, 2) := by decide +kernel
theorem dX11_turnAbout_81 : decode cX11_turnAbout 81 = .ok (.iload_n 1, 1) := by decide +kernel
theorem dX11_turnAbout_82 : decode cX11_turnAbout 82 = .ok (.imul, 1) := by decide +kernel
theorem dX11_turnAbout_83 : decode cX11_turnAbout 83 = .ok (.iadd, 1) := by decide +kernel
theorem dX11_turnAbout_84 : decode cX11_turnAbout 84 = .ok (.iconst 2, 1) := by decide +kernel
theorem dX11_turnAbout_85 : decode cX11_turnAbout 85 = .ok (.iadd, 1) := by decide +kernel
theorem dX11_turnAbout_86 : decode cX11_turnAbout 86 = .ok (.iload 4, 2) := by decide +kernel
theorem dX11_turnAbout_88 : decode cX11_turnAbout 88 = .ok (.iadd, 1) := by decide +kernel
theorem dX11_turnAbout_89 : decode cX11_turnAbout 89 = .ok (.aload_n 0, 1) := by decide +kernel
theorem dX11_turnAbout_90 : decode cX11_turnAbout 90 = .ok (.getfield 35, 3) := by decide +kernel
theorem dX11_turnAbout_93 : decode cX11_turnAbout 93 = .ok (.iload_n 2, 1) := by decide +kernel
theorem dX11_turnAbout_94 : decode cX11_turnAbout 94 = .ok (.iconst 1, 1) := by decide +kernel
theorem dX11_turnAbout_95 : decode cX11_turnAbout 95 = .ok (.iadd, 1) := by decide +kernel
theorem dX11_turnAbout_96 : decode cX11_turnAbout 96 = .ok (.iload_n 3, 1) := by decide +kernel
theorem dX11_turnAbout_97 : decode cX11_turnAbout 97 = .ok (.iadd, 1) := by decide +kernel
theorem dX11_turnAbout_98 : decode cX11_turnAbout 98 = .ok (.iload 4, 2) := by decide +kernel
theorem dX11_turnAbout_100 : decode cX11_turnAbout 100 = .ok (.isub, 1) := by decide +kernel
theorem dX11_turnAbout_101 : decode cX11_turnAbout 101 = .ok (.iaload, 1) := by decide +kernel
theorem dX11_turnAbout_102 : decode cX11_turnAbout 102 = .ok (.iconst 2, 1) := by decide +kernel
theorem dX11_turnAbout_103 : decode cX11_turnAbout 103 = .ok (.ixor, 1) := by decide +kernel
theorem dX11_turnAbout_104 : decode cX11_turnAbout 104 = .ok (.iastore, 1) := by decide +kernel
theorem dX11_turnAbout_105 : decode cX11_turnAbout 105 = .ok (.iinc 4 1, 3) := by decide +kernel
theorem dX11_turnAbout_108 : decode cX11_turnAbout 108 = .ok (.goto (-40), 3) := by decide +kernel
theorem dX11_turnAbout_111 : decode cX11_turnAbout 111 = .ok (.aload_n 0, 1) := by decide +kernel
theorem dX11_turnAbout_112 : decode cX11_turnAbout 112 = .ok (.getfield 22, 3) := by decide +kernel
theorem dX11_turnAbout_115 : decode cX11_turnAbout 115 = .ok (.iconst 1, 1) := by decide +kernel
theorem dX11_turnAbout_116 : decode cX11_turnAbout 116 = .ok (.bipush 14, 2) := by decide +kernel
theorem dX11_turnAbout_118 : decode cX11_turnAbout 118 = .ok (.iload_n 1, 1) := by decide +kernel
theorem dX11_turnAbout_119 : decode cX11_turnAbout 119 = .ok (.imul, 1) := by decide +kernel
theorem dX11_turnAbout_120 : decode cX11_turnAbout 120 = .ok (.iadd, 1) := by decide +kernel
theorem dX11_turnAbout_121 : decode cX11_turnAbout 121 = .ok (.iaload, 1) := by decide +kernel
theorem dX11_turnAbout_122 : decode cX11_turnAbout 122 = .ok (.ireturn, 1) := by decide +kernel
def fX11_turnAbout_68 : Nat → Nat → Int32 → Int32 → Int32 → Int32 → eW → Option (Int32 × eW)
  | 0, _, _, _, _, _, _ => none
  | n + 1, x0, x1, x2, x3, x4, w => if x3 ≤ x4 then ((eGR w x0 11 13).bind fun v1 => (eLd w false v1 ((1 : Int32) + ((14 : Int32) * x1))).bind fun v2 => some (v2, w)) else ((eGR w x0 11 13).bind fun v3 => (eGR w x0 11 17).bind fun v4 => (eLd w false v4 (((x2 + (1 : Int32)) + x3) - x4)).bind fun v5 => (eSt w false v3 ((((1 : Int32) + ((14 : Int32) * x1)) + (2 : Int32)) + x4) (v5 ^^^ (2 : Int32))).bind fun w6 => fX11_turnAbout_68 n x0 x1 x2 x3 (x4 + (1 : Int32)) w6)
set_option maxRecDepth 20000 in
theorem sX11_turnAbout_68  : ∀ (n : Nat) (x0 : Nat) (x1 : Int32) (x2 : Int32) (x3 : Int32) (x4 : Int32) (w : eW) (r : Int32 × eW), fX11_turnAbout_68 n x0 x1 x2 x3 x4 w = some r → eBN l D cI cZ 4 yX11_turnAbout cX11_turnAbout 5 (some .int) 68 [(0, .ref x0), (1, .int x1), (2, .int x2), (3, .int x3), (4, .int x4)] [] w (some (.int r.1)) r.2 := by
  intro n
  induction n with
  | zero => intro x0 x1 x2 x3 x4 w r h; exact absurd (show (none : Option (Int32 × eW)) = some r from h) (by simp)
  | succ n ih =>
    intro x0 x1 x2 x3 x4 w r h
    rw [fX11_turnAbout_68] at h
    intro p e s m args below meth c r0 A X
    refine ev_iload (pc := 68) X 4 dX11_turnAbout_68 rfl ?_
    refine ev_iload_n (pc := 70) X 3 dX11_turnAbout_70 rfl rfl ?_
    refine ev_icmp_ge (pc := 71) X 111 dX11_turnAbout_71 rfl (fun hc => ?_) (fun hc => ?_)
    · rw [if_pos hc] at h
      refine ev_aload_n (pc := 111) X 0 dX11_turnAbout_111 rfl rfl ?_
      obtain ⟨v1, hv1, h⟩ := eBi h
      refine ev_getR (pc := 112) X hcX11 (k := 13) (by decide) kfX11_22 dX11_turnAbout_112 hv1 ?_
      refine ev_iconst (pc := 115) (v := (1 : Int32)) X dX11_turnAbout_115 rfl ?_
      refine ev_bipush (pc := 116) (v := (14 : Int32)) X dX11_turnAbout_116 rfl ?_
      refine ev_iload_n (pc := 118) X 1 dX11_turnAbout_118 rfl rfl ?_
      refine ev_imul (pc := 119) X dX11_turnAbout_119 ?_
      refine ev_iadd (pc := 120) X dX11_turnAbout_120 ?_
      obtain ⟨v2, hv2, h⟩ := eBi h
      refine ev_iald (pc := 121) X dX11_turnAbout_121 hv2 ?_
      obtain rfl := Option.some.inj h
      exact ev_iret (pc := 122) X dX11_turnAbout_122
    · rw [if_neg hc] at h
      refine ev_aload_n (pc := 74) X 0 dX11_turnAbout_74 rfl rfl ?_
      obtain ⟨v3, hv3, h⟩ := eBi h
      refine ev_getR (pc := 75) X hcX11 (k := 13) (by decide) kfX11_22 dX11_turnAbout_75 hv3 ?_
      refine ev_iconst (pc := 78) (v := (1 : Int32)) X dX11_turnAbout_78 rfl ?_
      refine ev_bipush (pc := 79) (v := (14 : Int32)) X dX11_turnAbout_79 rfl ?_
      refine ev_iload_n (pc := 81) X 1 dX11_turnAbout_81 rfl rfl ?_
      refine ev_imul (pc := 82) X dX11_turnAbout_82 ?_
      refine ev_iadd (pc := 83) X dX11_turnAbout_83 ?_
      refine ev_iconst (pc := 84) (v := (2 : Int32)) X dX11_turnAbout_84 rfl ?_
      refine ev_iadd (pc := 85) X dX11_turnAbout_85 ?_
      refine ev_iload (pc := 86) X 4 dX11_turnAbout_86 rfl ?_
      refine ev_iadd (pc := 88) X dX11_turnAbout_88 ?_
      refine ev_aload_n (pc := 89) X 0 dX11_turnAbout_89 rfl rfl ?_
      obtain ⟨v4, hv4, h⟩ := eBi h
      refine ev_getR (pc := 90) X hcX11 (k := 17) (by decide) kfX11_35 dX11_turnAbout_90 hv4 ?_
      refine ev_iload_n (pc := 93) X 2 dX11_turnAbout_93 rfl rfl ?_
      refine ev_iconst (pc := 94) (v := (1 : Int32)) X dX11_turnAbout_94 rfl ?_
      refine ev_iadd (pc := 95) X dX11_turnAbout_95 ?_
      refine ev_iload_n (pc := 96) X 3 dX11_turnAbout_96 rfl rfl ?_
      refine ev_iadd (pc := 97) X dX11_turnAbout_97 ?_
      refine ev_iload (pc := 98) X 4 dX11_turnAbout_98 rfl ?_
      refine ev_isub (pc := 100) X dX11_turnAbout_100 ?_
      obtain ⟨v5, hv5, h⟩ := eBi h
      refine ev_iald (pc := 101) X dX11_turnAbout_101 hv5 ?_
      refine ev_iconst (pc := 102) (v := (2 : Int32)) X dX11_turnAbout_102 rfl ?_
      refine ev_ixor (pc := 103) X dX11_turnAbout_103 ?_
      obtain ⟨w6, hw6, h⟩ := eBi h
      refine ev_iast (pc := 104) X dX11_turnAbout_104 hw6 ?_
      refine ev_iinc (pc := 105) (v := x4 + (1 : Int32)) (L' := [(4, .int (x4 + (1 : Int32))), (0, .ref x0), (1, .int x1), (2, .int x2), (3, .int x3)]) X 4 dX11_turnAbout_105 rfl rfl (by decide) rfl ?_
      refine ev_goto (pc := 108) X 68 dX11_turnAbout_108 rfl ?_
      exact ev_weak (pc := 68) [1, 2, 3, 4, 0] rfl (ih _ _ _ _ _ _ _ h p e s m args below meth c r0 A X)
def fX11_turnAbout_0 (x0 : Nat) (x1 : Int32) (w : eW) : Option (Int32 × eW) := (eP w x0 11 0 (.int (0 : Int32))).bind fun w1 => eBind2 (fX11_isBolt x0 x1 w1) fun v3 w2 => if v3 = 0 then (some ((-1 : Int32), w2)) else ((fX11_notes x0 w2).bind fun w4 => (eGI w4 x0 11 18).bind fun v5 => (eGR w4 x0 11 13).bind fun v6 => eBind2 (fX11_cardsOf v6 x1 w4) fun v8 w7 => (eGR w7 x0 11 13).bind fun v9 => (eGR w7 x0 11 13).bind fun v10 => eBind2 (fX11_endOf x0 v10 x1 w7) fun v12 w11 => (eSt w11 false v9 ((1 : Int32) + ((14 : Int32) * x1)) v12).bind fun w13 => fX11_turnAbout_68 eN x0 x1 ((((57 : Int32) * (v5 - (1 : Int32))) + (1 : Int32)) + ((14 : Int32) * x1)) v8 (0 : Int32) w13)
set_option maxRecDepth 20000 in
theorem sX11_turnAbout_0  (x0 : Nat) (x1 : Int32) (w : eW) (r : Int32 × eW) (h : fX11_turnAbout_0 x0 x1 w = some r) : eBN l D cI cZ 4 yX11_turnAbout cX11_turnAbout 5 (some .int) 0 [(0, .ref x0), (1, .int x1)] [] w (some (.int r.1)) r.2 := by
  rw [fX11_turnAbout_0] at h
  intro p e s m args below meth c r0 A X
  refine ev_aload_n (pc := 0) X 0 dX11_turnAbout_0 rfl rfl ?_
  refine ev_iconst (pc := 1) (v := (0 : Int32)) X dX11_turnAbout_1 rfl ?_
  obtain ⟨w1, hw1, h⟩ := eBi h
  refine ev_putI (pc := 2) X hcX11 (k := 0) (by decide) kfX11_50 rfl rfl dX11_turnAbout_2 hw1 ?_
  refine ev_aload_n (pc := 5) X 0 dX11_turnAbout_5 rfl rfl ?_
  refine ev_iload_n (pc := 6) X 1 dX11_turnAbout_6 rfl rfl ?_
  obtain ⟨v3, w2, hc, h⟩ := eB2 h
  refine ev_callV_i (pc := 7) (As := [.int x1]) (S := []) X hwX11_isBolt klX11_143 hiX11_isBolt hsX11_isBolt (ci := 11) ⟨rfl, rfl⟩ ⟨Nat.le_of_ble_eq_true rfl, Nat.le_of_ble_eq_true rfl⟩ ⟨Nat.le_refl _, Nat.le_refl _⟩ rfl (Nat.le_of_ble_eq_true rfl) dX11_turnAbout_7 rfl (mX11_isBolt (l := l) (D := D) (cI := cI) (cZ := cZ) hc).1 (mX11_isBolt hc).2 ?_
  refine ev_if_ne (pc := 10) X 15 dX11_turnAbout_10 rfl (fun hc => ?_) (fun hc => ?_)
  · rw [if_neg hc] at h
    refine ev_aload_n (pc := 15) X 0 dX11_turnAbout_15 rfl rfl ?_
    obtain ⟨w4, hc, h⟩ := eBi h
    refine ev_callV_v (pc := 16) (As := []) (S := []) X hwX11_notes klX11_182 hiX11_notes hsX11_notes (ci := 11) ⟨rfl, rfl⟩ ⟨Nat.le_of_ble_eq_true rfl, Nat.le_of_ble_eq_true rfl⟩ ⟨Nat.le_refl _, Nat.le_refl _⟩ rfl (Nat.le_of_ble_eq_true rfl) dX11_turnAbout_16 rfl (mX11_notes (l := l) (D := D) (cI := cI) (cZ := cZ) hc).1 (mX11_notes hc).2 ?_
    refine ev_bipush (pc := 19) (v := (57 : Int32)) X dX11_turnAbout_19 rfl ?_
    refine ev_aload_n (pc := 21) X 0 dX11_turnAbout_21 rfl rfl ?_
    obtain ⟨v5, hv5, h⟩ := eBi h
    refine ev_getI (pc := 22) X hcX11 (k := 18) (by decide) kfX11_113 dX11_turnAbout_22 hv5 ?_
    refine ev_iconst (pc := 25) (v := (1 : Int32)) X dX11_turnAbout_25 rfl ?_
    refine ev_isub (pc := 26) X dX11_turnAbout_26 ?_
    refine ev_imul (pc := 27) X dX11_turnAbout_27 ?_
    refine ev_iconst (pc := 28) (v := (1 : Int32)) X dX11_turnAbout_28 rfl ?_
    refine ev_iadd (pc := 29) X dX11_turnAbout_29 ?_
    refine ev_bipush (pc := 30) (v := (14 : Int32)) X dX11_turnAbout_30 rfl ?_
    refine ev_iload_n (pc := 32) X 1 dX11_turnAbout_32 rfl rfl ?_
    refine ev_imul (pc := 33) X dX11_turnAbout_33 ?_
    refine ev_iadd (pc := 34) X dX11_turnAbout_34 ?_
    refine ev_istore_n (pc := 35) (L' := [(2, .int ((((57 : Int32) * (v5 - (1 : Int32))) + (1 : Int32)) + ((14 : Int32) * x1))), (0, .ref x0), (1, .int x1)]) X dX11_turnAbout_35 rfl (by decide) rfl ?_
    refine ev_aload_n (pc := 36) X 1 dX11_turnAbout_36 rfl rfl ?_
    obtain ⟨v6, hv6, h⟩ := eBi h
    refine ev_getR (pc := 37) X hcX11 (k := 13) (by decide) kfX11_22 dX11_turnAbout_37 hv6 ?_
    refine ev_iload_n (pc := 40) X 2 dX11_turnAbout_40 rfl rfl ?_
    obtain ⟨v8, w7, hc, h⟩ := eB2 h
    refine ev_callS_i (pc := 41) (As := [.ref v6, .int x1]) (S := []) X hwX11_cardsOf klX11_137 htX11_cardsOf ⟨Nat.le_of_ble_eq_true rfl, Nat.le_of_ble_eq_true rfl⟩ ⟨Nat.le_refl _, Nat.le_refl _⟩ rfl (Nat.le_of_ble_eq_true rfl) dX11_turnAbout_41 rfl (mX11_cardsOf hc) ?_
    refine ev_istore_n (pc := 44) (L' := [(3, .int v8), (2, .int ((((57 : Int32) * (v5 - (1 : Int32))) + (1 : Int32)) + ((14 : Int32) * x1))), (0, .ref x0), (1, .int x1)]) X dX11_turnAbout_44 rfl (by decide) rfl ?_
    refine ev_aload_n (pc := 45) X 2 dX11_turnAbout_45 rfl rfl ?_
    obtain ⟨v9, hv9, h⟩ := eBi h
    refine ev_getR (pc := 46) X hcX11 (k := 13) (by decide) kfX11_22 dX11_turnAbout_46 hv9 ?_
    refine ev_iconst (pc := 49) (v := (1 : Int32)) X dX11_turnAbout_49 rfl ?_
    refine ev_bipush (pc := 50) (v := (14 : Int32)) X dX11_turnAbout_50 rfl ?_
    refine ev_iload_n (pc := 52) X 3 dX11_turnAbout_52 rfl rfl ?_
    refine ev_imul (pc := 53) X dX11_turnAbout_53 ?_
    refine ev_iadd (pc := 54) X dX11_turnAbout_54 ?_
    refine ev_aload_n (pc := 55) X 2 dX11_turnAbout_55 rfl rfl ?_
    refine ev_aload_n (pc := 56) X 2 dX11_turnAbout_56 rfl rfl ?_
    obtain ⟨v10, hv10, h⟩ := eBi h
    refine ev_getR (pc := 57) X hcX11 (k := 13) (by decide) kfX11_22 dX11_turnAbout_57 hv10 ?_
    refine ev_iload_n (pc := 60) X 3 dX11_turnAbout_60 rfl rfl ?_
    obtain ⟨v12, w11, hc, h⟩ := eB2 h
    refine ev_callV_i (pc := 61) (As := [.ref v10, .int x1]) (S := [.int ((1 : Int32) + ((14 : Int32) * x1)), .ref v9]) X hwX11_endOf klX11_146 hiX11_endOf hsX11_endOf (ci := 11) ⟨rfl, rfl⟩ ⟨Nat.le_of_ble_eq_true rfl, Nat.le_of_ble_eq_true rfl⟩ ⟨Nat.le_refl _, Nat.le_refl _⟩ rfl (Nat.le_of_ble_eq_true rfl) dX11_turnAbout_61 rfl (mX11_endOf (l := l) (D := D) (cI := cI) (cZ := cZ) hc).1 (mX11_endOf hc).2 ?_
    obtain ⟨w13, hw13, h⟩ := eBi h
    refine ev_iast (pc := 64) X dX11_turnAbout_64 hw13 ?_
    refine ev_iconst (pc := 65) (v := (0 : Int32)) X dX11_turnAbout_65 rfl ?_
    refine ev_istore (pc := 66) (L' := [(4, .int (0 : Int32)), (3, .int v8), (2, .int ((((57 : Int32) * (v5 - (1 : Int32))) + (1 : Int32)) + ((14 : Int32) * x1))), (0, .ref x0), (1, .int x1)]) X dX11_turnAbout_66 (by decide) rfl ?_
    exact ev_weak (pc := 68) [3, 4, 2, 1, 0] rfl (sX11_turnAbout_68 eN _ _ _ _ _ _ _ h p e s m args below meth c r0 A X)
  · rw [if_pos hc] at h
    refine ev_iconst (pc := 13) (v := (-1 : Int32)) X dX11_turnAbout_13 rfl ?_
    obtain rfl := Option.some.inj h
    exact ev_iret (pc := 14) X dX11_turnAbout_14
def fX11_turnAbout (a0 : Nat) (a1 : Int32) (w : eW) : Option (Int32 × eW) := bif eO w a0 11 then fX11_turnAbout_0 a0 a1 w else none
theorem mX11_turnAbout {a0 : Nat} {a1 : Int32} {w : eW} {v : Int32} {w' : eW} (h : fX11_turnAbout a0 a1 w = some (v, w')) : eO w a0 11 = true ∧ eMN l D cI cZ 4 yX11_turnAbout cX11_turnAbout 5 (some .int) [.ref a0, .int a1] w (some (.int v)) w' := by
  obtain ⟨h0, h⟩ := eBif h
  exact ⟨h0, eMN_of [(0, .ref a0), (1, .int a1)] (plainFor_of_name (by decide)) (fun _ => rfl) (fun _ => Nat.le_of_ble_eq_true rfl) (fun p e s m args below meth c r0 A X => ev_weak (pc := 0) [0, 1] rfl (sX11_turnAbout_0 _ _ _ _ h p e s m args below meth c r0 A X))⟩
theorem dX11_frays_0 : decode cX11_frays 0 = .ok (.iconst 0, 1) := by decide +kernel
theorem dX11_frays_1 : decode cX11_frays 1 = .ok (.istore_n 2, 1) := by decide +kernel
theorem dX11_frays_2 : decode cX11_frays 2 = .ok (.iconst 0, 1) := by decide +kernel
theorem dX11_frays_3 : decode cX11_frays 3 = .ok (.istore_n 3, 1) := by decide +kernel
theorem dX11_frays_4 : decode cX11_frays 4 = .ok (.iload_n 3, 1) := by decide +kernel
theorem dX11_frays_5 : decode cX11_frays 5 = .ok (.aload_n 1, 1) := by decide +kernel
theorem dX11_frays_6 : decode cX11_frays 6 = .ok (.iconst 0, 1) := by decide +kernel
theorem dX11_frays_7 : decode cX11_frays 7 = .ok (.iaload, 1) := by decide +kernel
theorem dX11_frays_8 : decode cX11_frays 8 = .ok (.if_icmp .ge 47, 3) := by decide +kernel
theorem dX11_frays_11 : decode cX11_frays 11 = .ok (.aload_n 1, 1) := by decide +kernel
theorem dX11_frays_12 : decode cX11_frays 12 = .ok (.iload_n 3, 1) := by decide +kernel
theorem dX11_frays_13 : decode cX11_frays 13 = .ok (.invokestatic 137, 3) := by decide +kernel
theorem dX11_frays_16 : decode cX11_frays 16 = .ok (.ifCond .le 33, 3) := by decide +kernel
theorem dX11_frays_19 : decode cX11_frays 19 = .ok (.aload_n 0, 1) := by decide +kernel
theorem dX11_frays_20 : decode cX11_frays 20 = .ok (.aload_n 0, 1) := by decide +kernel
theorem dX11_frays_21 : decode cX11_frays 21 = .ok (.aload_n 1, 1) := by decide +kernel
theorem dX11_frays_22 : decode cX11_frays 22 = .ok (.iload_n 3, 1) := by decide +kernel
theorem dX11_frays_23 : decode cX11_frays 23 = .ok (.invokevirtual 146, 3) := by decide +kernel
theorem dX11_frays_26 : decode cX11_frays 26 = .ok (.invokevirtual 160, 3) := by decide +kernel
theorem dX11_frays_29 : decode cX11_frays 29 = .ok (.ifCond .ne 20, 3) := by decide +kernel
theorem dX11_frays_32 : decode cX11_frays 32 = .ok (.aload_n 1, 1) := by decide +kernel
theorem dX11_frays_33 : decode cX11_frays 33 = .ok (.iconst 1, 1) := by decide +kernel
theorem dX11_frays_34 : decode cX11_frays 34 = .ok (.bipush 14, 2) := by decide +kernel
theorem dX11_frays_36 : decode cX11_frays 36 = .ok (.iload_n 3, 1) := by decide +kernel
theorem dX11_frays_37 : decode cX11_frays 37 = .ok (.imul, 1) := by decide +kernel
theorem dX11_frays_38 : decode cX11_frays 38 = .ok (.iadd, 1) := by decide +kernel
theorem dX11_frays_39 : decode cX11_frays 39 = .ok (.iconst 1, 1) := by decide +kernel
theorem dX11_frays_40 : decode cX11_frays 40 = .ok (.iadd, 1) := by decide +kernel
theorem dX11_frays_41 : decode cX11_frays 41 = .ok (.dup2, 1) := by decide +kernel
theorem dX11_frays_42 : decode cX11_frays 42 = .ok (.iaload, 1) := by decide +kernel
theorem dX11_frays_43 : decode cX11_frays 43 = .ok (.iconst 1, 1) := by decide +kernel
theorem dX11_frays_44 : decode cX11_frays 44 = .ok (.isub, 1) := by decide +kernel
theorem dX11_frays_45 : decode cX11_frays 45 = .ok (.iastore, 1) := by decide +kernel
theorem dX11_frays_46 : decode cX11_frays 46 = .ok (.iinc 2 1, 3) := by decide +kernel
theorem dX11_frays_49 : decode cX11_frays 49 = .ok (.iinc 3 1, 3) := by decide +kernel
theorem dX11_frays_52 : decode cX11_frays 52 = .ok (.goto (-48), 3) := by decide +kernel
theorem dX11_frays_55 : decode cX11_frays 55 = .ok (.iload_n 2, 1) := by decide +kernel
theorem dX11_frays_56 : decode cX11_frays 56 = .ok (.ireturn, 1) := by decide +kernel
def fX11_frays_49 (K4 : Nat → Nat → Int32 → Int32 → eW → Option (Int32 × eW)) (x0 : Nat) (x1 : Nat) (x2 : Int32) (x3 : Int32) (w : eW) : Option (Int32 × eW) := K4 x0 x1 x2 (x3 + (1 : Int32)) w
set_option maxRecDepth 20000 in
theorem sX11_frays_49 {K4 : Nat → Nat → Int32 → Int32 → eW → Option (Int32 × eW)} (hK4 : ∀ (x0 : Nat) (x1 : Nat) (x2 : Int32) (x3 : Int32) (w : eW) (r : Int32 × eW), K4 x0 x1 x2 x3 w = some r → eBN l D cI cZ 4 yX11_frays cX11_frays 4 (some .int) 4 [(0, .ref x0), (1, .ref x1), (2, .int x2), (3, .int x3)] [] w (some (.int r.1)) r.2) (x0 : Nat) (x1 : Nat) (x2 : Int32) (x3 : Int32) (w : eW) (r : Int32 × eW) (h : fX11_frays_49 K4 x0 x1 x2 x3 w = some r) : eBN l D cI cZ 4 yX11_frays cX11_frays 4 (some .int) 49 [(0, .ref x0), (1, .ref x1), (2, .int x2), (3, .int x3)] [] w (some (.int r.1)) r.2 := by
  rw [fX11_frays_49] at h
  intro p e s m args below meth c r0 A X
  refine ev_iinc (pc := 49) (v := x3 + (1 : Int32)) (L' := [(3, .int (x3 + (1 : Int32))), (0, .ref x0), (1, .ref x1), (2, .int x2)]) X 3 dX11_frays_49 rfl rfl (by decide) rfl ?_
  refine ev_goto (pc := 52) X 4 dX11_frays_52 rfl ?_
  exact ev_weak (pc := 4) [1, 2, 3, 0] rfl (hK4 _ _ _ _ _ _ h p e s m args below meth c r0 A X)
def fX11_frays_4 : Nat → Nat → Nat → Int32 → Int32 → eW → Option (Int32 × eW)
  | 0, _, _, _, _, _ => none
  | n + 1, x0, x1, x2, x3, w => (eLd w false x1 (0 : Int32)).bind fun v1 => if v1 ≤ x3 then (some (x2, w)) else (eBind2 (fX11_cardsOf x1 x3 w) fun v3 w2 => if v3 ≤ 0 then (fX11_frays_49 (fX11_frays_4 n) x0 x1 x2 x3 w2) else (eBind2 (fX11_endOf x0 x1 x3 w2) fun v5 w4 => eBind2 (fX11_isTown x0 v5 w4) fun v7 w6 => if v7 = 0 then ((eLd w6 false x1 (((1 : Int32) + ((14 : Int32) * x3)) + (1 : Int32))).bind fun v8 => (eSt w6 false x1 (((1 : Int32) + ((14 : Int32) * x3)) + (1 : Int32)) (v8 - (1 : Int32))).bind fun w9 => fX11_frays_49 (fX11_frays_4 n) x0 x1 (x2 + (1 : Int32)) x3 w9) else (fX11_frays_49 (fX11_frays_4 n) x0 x1 x2 x3 w6)))
set_option maxRecDepth 20000 in
theorem sX11_frays_4  : ∀ (n : Nat) (x0 : Nat) (x1 : Nat) (x2 : Int32) (x3 : Int32) (w : eW) (r : Int32 × eW), fX11_frays_4 n x0 x1 x2 x3 w = some r → eBN l D cI cZ 4 yX11_frays cX11_frays 4 (some .int) 4 [(0, .ref x0), (1, .ref x1), (2, .int x2), (3, .int x3)] [] w (some (.int r.1)) r.2 := by
  intro n
  induction n with
  | zero => intro x0 x1 x2 x3 w r h; exact absurd (show (none : Option (Int32 × eW)) = some r from h) (by simp)
  | succ n ih =>
    intro x0 x1 x2 x3 w r h
    rw [fX11_frays_4] at h
    intro p e s m args below meth c r0 A X
    refine ev_iload_n (pc := 4) X 3 dX11_frays_4 rfl rfl ?_
    refine ev_aload_n (pc := 5) X 1 dX11_frays_5 rfl rfl ?_
    refine ev_iconst (pc := 6) (v := (0 : Int32)) X dX11_frays_6 rfl ?_
    obtain ⟨v1, hv1, h⟩ := eBi h
    refine ev_iald (pc := 7) X dX11_frays_7 hv1 ?_
    refine ev_icmp_ge (pc := 8) X 55 dX11_frays_8 rfl (fun hc => ?_) (fun hc => ?_)
    · rw [if_pos hc] at h
      refine ev_iload_n (pc := 55) X 2 dX11_frays_55 rfl rfl ?_
      obtain rfl := Option.some.inj h
      exact ev_iret (pc := 56) X dX11_frays_56
    · rw [if_neg hc] at h
      refine ev_aload_n (pc := 11) X 1 dX11_frays_11 rfl rfl ?_
      refine ev_iload_n (pc := 12) X 3 dX11_frays_12 rfl rfl ?_
      obtain ⟨v3, w2, hc, h⟩ := eB2 h
      refine ev_callS_i (pc := 13) (As := [.ref x1, .int x3]) (S := []) X hwX11_cardsOf klX11_137 htX11_cardsOf ⟨Nat.le_of_ble_eq_true rfl, Nat.le_of_ble_eq_true rfl⟩ ⟨Nat.le_refl _, Nat.le_refl _⟩ rfl (Nat.le_of_ble_eq_true rfl) dX11_frays_13 rfl (mX11_cardsOf hc) ?_
      refine ev_if_le (pc := 16) X 49 dX11_frays_16 rfl (fun hc => ?_) (fun hc => ?_)
      · rw [if_pos hc] at h
        exact ev_weak (pc := 49) [0, 1, 2, 3] rfl (sX11_frays_49 (fun _ _ _ _ w r hh => ih _ _ _ _ w r hh) _ _ _ _ _ _ h p e s m args below meth c r0 A X)
      · rw [if_neg hc] at h
        refine ev_aload_n (pc := 19) X 0 dX11_frays_19 rfl rfl ?_
        refine ev_aload_n (pc := 20) X 0 dX11_frays_20 rfl rfl ?_
        refine ev_aload_n (pc := 21) X 1 dX11_frays_21 rfl rfl ?_
        refine ev_iload_n (pc := 22) X 3 dX11_frays_22 rfl rfl ?_
        obtain ⟨v5, w4, hc, h⟩ := eB2 h
        refine ev_callV_i (pc := 23) (As := [.ref x1, .int x3]) (S := [.ref x0]) X hwX11_endOf klX11_146 hiX11_endOf hsX11_endOf (ci := 11) ⟨rfl, rfl⟩ ⟨Nat.le_of_ble_eq_true rfl, Nat.le_of_ble_eq_true rfl⟩ ⟨Nat.le_refl _, Nat.le_refl _⟩ rfl (Nat.le_of_ble_eq_true rfl) dX11_frays_23 rfl (mX11_endOf (l := l) (D := D) (cI := cI) (cZ := cZ) hc).1 (mX11_endOf hc).2 ?_
        obtain ⟨v7, w6, hc, h⟩ := eB2 h
        refine ev_callV_i (pc := 26) (As := [.int v5]) (S := []) X hwX11_isTown klX11_160 hiX11_isTown hsX11_isTown (ci := 11) ⟨rfl, rfl⟩ ⟨Nat.le_of_ble_eq_true rfl, Nat.le_of_ble_eq_true rfl⟩ ⟨Nat.le_refl _, Nat.le_refl _⟩ rfl (Nat.le_of_ble_eq_true rfl) dX11_frays_26 rfl (mX11_isTown (l := l) (D := D) (cI := cI) (cZ := cZ) hc).1 (mX11_isTown hc).2 ?_
        refine ev_if_ne (pc := 29) X 49 dX11_frays_29 rfl (fun hc => ?_) (fun hc => ?_)
        · rw [if_neg hc] at h
          exact ev_weak (pc := 49) [0, 1, 2, 3] rfl (sX11_frays_49 (fun _ _ _ _ w r hh => ih _ _ _ _ w r hh) _ _ _ _ _ _ h p e s m args below meth c r0 A X)
        · rw [if_pos hc] at h
          refine ev_aload_n (pc := 32) X 1 dX11_frays_32 rfl rfl ?_
          refine ev_iconst (pc := 33) (v := (1 : Int32)) X dX11_frays_33 rfl ?_
          refine ev_bipush (pc := 34) (v := (14 : Int32)) X dX11_frays_34 rfl ?_
          refine ev_iload_n (pc := 36) X 3 dX11_frays_36 rfl rfl ?_
          refine ev_imul (pc := 37) X dX11_frays_37 ?_
          refine ev_iadd (pc := 38) X dX11_frays_38 ?_
          refine ev_iconst (pc := 39) (v := (1 : Int32)) X dX11_frays_39 rfl ?_
          refine ev_iadd (pc := 40) X dX11_frays_40 ?_
          refine ev_dup2 (pc := 41) X dX11_frays_41 rfl rfl ?_
          obtain ⟨v8, hv8, h⟩ := eBi h
          refine ev_iald (pc := 42) X dX11_frays_42 hv8 ?_
          refine ev_iconst (pc := 43) (v := (1 : Int32)) X dX11_frays_43 rfl ?_
          refine ev_isub (pc := 44) X dX11_frays_44 ?_
          obtain ⟨w9, hw9, h⟩ := eBi h
          refine ev_iast (pc := 45) X dX11_frays_45 hw9 ?_
          refine ev_iinc (pc := 46) (v := x2 + (1 : Int32)) (L' := [(2, .int (x2 + (1 : Int32))), (0, .ref x0), (1, .ref x1), (3, .int x3)]) X 2 dX11_frays_46 rfl rfl (by decide) rfl ?_
          exact ev_weak (pc := 49) [1, 2, 0, 3] rfl (sX11_frays_49 (fun _ _ _ _ w r hh => ih _ _ _ _ w r hh) _ _ _ _ _ _ h p e s m args below meth c r0 A X)
def fX11_frays_0 (x0 : Nat) (x1 : Nat) (w : eW) : Option (Int32 × eW) := fX11_frays_4 eN x0 x1 (0 : Int32) (0 : Int32) w
set_option maxRecDepth 20000 in
theorem sX11_frays_0  (x0 : Nat) (x1 : Nat) (w : eW) (r : Int32 × eW) (h : fX11_frays_0 x0 x1 w = some r) : eBN l D cI cZ 4 yX11_frays cX11_frays 4 (some .int) 0 [(0, .ref x0), (1, .ref x1)] [] w (some (.int r.1)) r.2 := by
  rw [fX11_frays_0] at h
  intro p e s m args below meth c r0 A X
  refine ev_iconst (pc := 0) (v := (0 : Int32)) X dX11_frays_0 rfl ?_
  refine ev_istore_n (pc := 1) (L' := [(2, .int (0 : Int32)), (0, .ref x0), (1, .ref x1)]) X dX11_frays_1 rfl (by decide) rfl ?_
  refine ev_iconst (pc := 2) (v := (0 : Int32)) X dX11_frays_2 rfl ?_
  refine ev_istore_n (pc := 3) (L' := [(3, .int (0 : Int32)), (2, .int (0 : Int32)), (0, .ref x0), (1, .ref x1)]) X dX11_frays_3 rfl (by decide) rfl ?_
  exact ev_weak (pc := 4) [2, 3, 1, 0] rfl (sX11_frays_4 eN _ _ _ _ _ _ h p e s m args below meth c r0 A X)
def fX11_frays (a0 : Nat) (a1 : Nat) (w : eW) : Option (Int32 × eW) := bif eO w a0 11 then fX11_frays_0 a0 a1 w else none
theorem mX11_frays {a0 : Nat} {a1 : Nat} {w : eW} {v : Int32} {w' : eW} (h : fX11_frays a0 a1 w = some (v, w')) : eO w a0 11 = true ∧ eMN l D cI cZ 4 yX11_frays cX11_frays 4 (some .int) [.ref a0, .ref a1] w (some (.int v)) w' := by
  obtain ⟨h0, h⟩ := eBif h
  exact ⟨h0, eMN_of [(0, .ref a0), (1, .ref a1)] (plainFor_of_name (by decide)) (fun _ => rfl) (fun _ => Nat.le_of_ble_eq_true rfl) (fun p e s m args below meth c r0 A X => ev_weak (pc := 0) [0, 1] rfl (sX11_frays_0 _ _ _ _ h p e s m args below meth c r0 A X))⟩
theorem dX11_rain_0 : decode cX11_rain 0 = .ok (.aload_n 0, 1) := by decide +kernel
theorem dX11_rain_1 : decode cX11_rain 1 = .ok (.iconst 0, 1) := by decide +kernel
theorem dX11_rain_2 : decode cX11_rain 2 = .ok (.putfield 50, 3) := by decide +kernel
theorem dX11_rain_5 : decode cX11_rain 5 = .ok (.aload_n 0, 1) := by decide +kernel
theorem dX11_rain_6 : decode cX11_rain 6 = .ok (.invokevirtual 182, 3) := by decide +kernel
theorem dX11_rain_9 : decode cX11_rain 9 = .ok (.aload_n 0, 1) := by decide +kernel
theorem dX11_rain_10 : decode cX11_rain 10 = .ok (.aload_n 0, 1) := by decide +kernel
theorem dX11_rain_11 : decode cX11_rain 11 = .ok (.getfield 22, 3) := by decide +kernel
theorem dX11_rain_14 : decode cX11_rain 14 = .ok (.invokevirtual 188, 3) := by decide +kernel
theorem dX11_rain_17 : decode cX11_rain 17 = .ok (.ireturn, 1) := by decide +kernel
def fX11_rain_0 (x0 : Nat) (w : eW) : Option (Int32 × eW) := (eP w x0 11 0 (.int (0 : Int32))).bind fun w1 => (fX11_notes x0 w1).bind fun w2 => (eGR w2 x0 11 13).bind fun v3 => eBind2 (fX11_frays x0 v3 w2) fun v5 w4 => some (v5, w4)
set_option maxRecDepth 20000 in
theorem sX11_rain_0  (x0 : Nat) (w : eW) (r : Int32 × eW) (h : fX11_rain_0 x0 w = some r) : eBN l D cI cZ 5 yX11_rain cX11_rain 1 (some .int) 0 [(0, .ref x0)] [] w (some (.int r.1)) r.2 := by
  rw [fX11_rain_0] at h
  intro p e s m args below meth c r0 A X
  refine ev_aload_n (pc := 0) X 0 dX11_rain_0 rfl rfl ?_
  refine ev_iconst (pc := 1) (v := (0 : Int32)) X dX11_rain_1 rfl ?_
  obtain ⟨w1, hw1, h⟩ := eBi h
  refine ev_putI (pc := 2) X hcX11 (k := 0) (by decide) kfX11_50 rfl rfl dX11_rain_2 hw1 ?_
  refine ev_aload_n (pc := 5) X 0 dX11_rain_5 rfl rfl ?_
  obtain ⟨w2, hc, h⟩ := eBi h
  refine ev_callV_v (pc := 6) (As := []) (S := []) X hwX11_notes klX11_182 hiX11_notes hsX11_notes (ci := 11) ⟨rfl, rfl⟩ ⟨Nat.le_of_ble_eq_true rfl, Nat.le_of_ble_eq_true rfl⟩ ⟨Nat.le_refl _, Nat.le_refl _⟩ rfl (Nat.le_of_ble_eq_true rfl) dX11_rain_6 rfl (mX11_notes (l := l) (D := D) (cI := cI) (cZ := cZ) hc).1 (mX11_notes hc).2 ?_
  refine ev_aload_n (pc := 9) X 0 dX11_rain_9 rfl rfl ?_
  refine ev_aload_n (pc := 10) X 0 dX11_rain_10 rfl rfl ?_
  obtain ⟨v3, hv3, h⟩ := eBi h
  refine ev_getR (pc := 11) X hcX11 (k := 13) (by decide) kfX11_22 dX11_rain_11 hv3 ?_
  obtain ⟨v5, w4, hc, h⟩ := eB2 h
  refine ev_callV_i (pc := 14) (As := [.ref v3]) (S := []) X hwX11_frays klX11_188 hiX11_frays hsX11_frays (ci := 11) ⟨rfl, rfl⟩ ⟨Nat.le_of_ble_eq_true rfl, Nat.le_of_ble_eq_true rfl⟩ ⟨Nat.le_refl _, Nat.le_refl _⟩ rfl (Nat.le_of_ble_eq_true rfl) dX11_rain_14 rfl (mX11_frays (l := l) (D := D) (cI := cI) (cZ := cZ) hc).1 (mX11_frays hc).2 ?_
  obtain rfl := Option.some.inj h
  exact ev_iret (pc := 17) X dX11_rain_17
def fX11_rain (a0 : Nat) (w : eW) : Option (Int32 × eW) := bif eO w a0 11 then fX11_rain_0 a0 w else none
theorem mX11_rain {a0 : Nat} {w : eW} {v : Int32} {w' : eW} (h : fX11_rain a0 w = some (v, w')) : eO w a0 11 = true ∧ eMN l D cI cZ 5 yX11_rain cX11_rain 1 (some .int) [.ref a0] w (some (.int v)) w' := by
  obtain ⟨h0, h⟩ := eBif h
  exact ⟨h0, eMN_of [(0, .ref a0)] (plainFor_of_name (by decide)) (fun _ => rfl) (fun _ => Nat.le_of_ble_eq_true rfl) (fun p e s m args below meth c r0 A X => ev_weak (pc := 0) [0] rfl (sX11_rain_0 _ _ _ h p e s m args below meth c r0 A X))⟩
theorem dX11_undo_0 : decode cX11_undo 0 = .ok (.aload_n 0, 1) := by decide +kernel
theorem dX11_undo_1 : decode cX11_undo 1 = .ok (.iconst 0, 1) := by decide +kernel
theorem dX11_undo_2 : decode cX11_undo 2 = .ok (.putfield 50, 3) := by decide +kernel
theorem dX11_undo_5 : decode cX11_undo 5 = .ok (.aload_n 0, 1) := by decide +kernel
theorem dX11_undo_6 : decode cX11_undo 6 = .ok (.getfield 113, 3) := by decide +kernel
theorem dX11_undo_9 : decode cX11_undo 9 = .ok (.ifCond .ne 6, 3) := by decide +kernel
theorem dX11_undo_12 : decode cX11_undo 12 = .ok (.bipush (-2), 2) := by decide +kernel
theorem dX11_undo_14 : decode cX11_undo 14 = .ok (.ireturn, 1) := by decide +kernel
theorem dX11_undo_15 : decode cX11_undo 15 = .ok (.aload_n 0, 1) := by decide +kernel
theorem dX11_undo_16 : decode cX11_undo 16 = .ok (.dup, 1) := by decide +kernel
theorem dX11_undo_17 : decode cX11_undo 17 = .ok (.getfield 113, 3) := by decide +kernel
theorem dX11_undo_20 : decode cX11_undo 20 = .ok (.iconst 1, 1) := by decide +kernel
theorem dX11_undo_21 : decode cX11_undo 21 = .ok (.isub, 1) := by decide +kernel
theorem dX11_undo_22 : decode cX11_undo 22 = .ok (.putfield 113, 3) := by decide +kernel
theorem dX11_undo_25 : decode cX11_undo 25 = .ok (.iconst 0, 1) := by decide +kernel
theorem dX11_undo_26 : decode cX11_undo 26 = .ok (.istore_n 1, 1) := by decide +kernel
theorem dX11_undo_27 : decode cX11_undo 27 = .ok (.iload_n 1, 1) := by decide +kernel
theorem dX11_undo_28 : decode cX11_undo 28 = .ok (.bipush 57, 2) := by decide +kernel
theorem dX11_undo_30 : decode cX11_undo 30 = .ok (.if_icmp .ge 29, 3) := by decide +kernel
theorem dX11_undo_33 : decode cX11_undo 33 = .ok (.aload_n 0, 1) := by decide +kernel
theorem dX11_undo_34 : decode cX11_undo 34 = .ok (.getfield 22, 3) := by decide +kernel
theorem dX11_undo_37 : decode cX11_undo 37 = .ok (.iload_n 1, 1) := by decide +kernel
theorem dX11_undo_38 : decode cX11_undo 38 = .ok (.aload_n 0, 1) := by decide +kernel
theorem dX11_undo_39 : decode cX11_undo 39 = .ok (.getfield 35, 3) := by decide +kernel
theorem dX11_undo_42 : decode cX11_undo 42 = .ok (.bipush 57, 2) := by decide +kernel
theorem dX11_undo_44 : decode cX11_undo 44 = .ok (.aload_n 0, 1) := by decide +kernel
theorem dX11_undo_45 : decode cX11_undo 45 = .ok (.getfield 113, 3) := by decide +kernel
theorem dX11_undo_48 : decode cX11_undo 48 = .ok (.imul, 1) := by decide +kernel
theorem dX11_undo_49 : decode cX11_undo 49 = .ok (.iload_n 1, 1) := by decide +kernel
theorem dX11_undo_50 : decode cX11_undo 50 = .ok (.iadd, 1) := by decide +kernel
theorem dX11_undo_51 : decode cX11_undo 51 = .ok (.iaload, 1) := by decide +kernel
theorem dX11_undo_52 : decode cX11_undo 52 = .ok (.iastore, 1) := by decide +kernel
theorem dX11_undo_53 : decode cX11_undo 53 = .ok (.iinc 1 1, 3) := by decide +kernel
theorem dX11_undo_56 : decode cX11_undo 56 = .ok (.goto (-29), 3) := by decide +kernel
theorem dX11_undo_59 : decode cX11_undo 59 = .ok (.aload_n 0, 1) := by decide +kernel
theorem dX11_undo_60 : decode cX11_undo 60 = .ok (.getfield 113, 3) := by decide +kernel
theorem dX11_undo_63 : decode cX11_undo 63 = .ok (.ireturn, 1) := by decide +kernel
def fX11_undo_27 : Nat → Nat → Int32 → eW → Option (Int32 × eW)
  | 0, _, _, _ => none
  | n + 1, x0, x1, w => if (57 : Int32) ≤ x1 then ((eGI w x0 11 18).bind fun v1 => some (v1, w)) else ((eGR w x0 11 13).bind fun v2 => (eGR w x0 11 17).bind fun v3 => (eGI w x0 11 18).bind fun v4 => (eLd w false v3 (((57 : Int32) * v4) + x1)).bind fun v5 => (eSt w false v2 x1 v5).bind fun w6 => fX11_undo_27 n x0 (x1 + (1 : Int32)) w6)
set_option maxRecDepth 20000 in
theorem sX11_undo_27  : ∀ (n : Nat) (x0 : Nat) (x1 : Int32) (w : eW) (r : Int32 × eW), fX11_undo_27 n x0 x1 w = some r → eBN l D cI cZ 0 yX11_undo cX11_undo 2 (some .int) 27 [(0, .ref x0), (1, .int x1)] [] w (some (.int r.1)) r.2 := by
  intro n
  induction n with
  | zero => intro x0 x1 w r h; exact absurd (show (none : Option (Int32 × eW)) = some r from h) (by simp)
  | succ n ih =>
    intro x0 x1 w r h
    rw [fX11_undo_27] at h
    intro p e s m args below meth c r0 A X
    refine ev_iload_n (pc := 27) X 1 dX11_undo_27 rfl rfl ?_
    refine ev_bipush (pc := 28) (v := (57 : Int32)) X dX11_undo_28 rfl ?_
    refine ev_icmp_ge (pc := 30) X 59 dX11_undo_30 rfl (fun hc => ?_) (fun hc => ?_)
    · rw [if_pos hc] at h
      refine ev_aload_n (pc := 59) X 0 dX11_undo_59 rfl rfl ?_
      obtain ⟨v1, hv1, h⟩ := eBi h
      refine ev_getI (pc := 60) X hcX11 (k := 18) (by decide) kfX11_113 dX11_undo_60 hv1 ?_
      obtain rfl := Option.some.inj h
      exact ev_iret (pc := 63) X dX11_undo_63
    · rw [if_neg hc] at h
      refine ev_aload_n (pc := 33) X 0 dX11_undo_33 rfl rfl ?_
      obtain ⟨v2, hv2, h⟩ := eBi h
      refine ev_getR (pc := 34) X hcX11 (k := 13) (by decide) kfX11_22 dX11_undo_34 hv2 ?_
      refine ev_iload_n (pc := 37) X 1 dX11_undo_37 rfl rfl ?_
      refine ev_aload_n (pc := 38) X 0 dX11_undo_38 rfl rfl ?_
      obtain ⟨v3, hv3, h⟩ := eBi h
      refine ev_getR (pc := 39) X hcX11 (k := 17) (by decide) kfX11_35 dX11_undo_39 hv3 ?_
      refine ev_bipush (pc := 42) (v := (57 : Int32)) X dX11_undo_42 rfl ?_
      refine ev_aload_n (pc := 44) X 0 dX11_undo_44 rfl rfl ?_
      obtain ⟨v4, hv4, h⟩ := eBi h
      refine ev_getI (pc := 45) X hcX11 (k := 18) (by decide) kfX11_113 dX11_undo_45 hv4 ?_
      refine ev_imul (pc := 48) X dX11_undo_48 ?_
      refine ev_iload_n (pc := 49) X 1 dX11_undo_49 rfl rfl ?_
      refine ev_iadd (pc := 50) X dX11_undo_50 ?_
      obtain ⟨v5, hv5, h⟩ := eBi h
      refine ev_iald (pc := 51) X dX11_undo_51 hv5 ?_
      obtain ⟨w6, hw6, h⟩ := eBi h
      refine ev_iast (pc := 52) X dX11_undo_52 hw6 ?_
      refine ev_iinc (pc := 53) (v := x1 + (1 : Int32)) (L' := [(1, .int (x1 + (1 : Int32))), (0, .ref x0)]) X 1 dX11_undo_53 rfl rfl (by decide) rfl ?_
      refine ev_goto (pc := 56) X 27 dX11_undo_56 rfl ?_
      exact ev_weak (pc := 27) [1, 0] rfl (ih _ _ _ _ h p e s m args below meth c r0 A X)
def fX11_undo_0 (x0 : Nat) (w : eW) : Option (Int32 × eW) := (eP w x0 11 0 (.int (0 : Int32))).bind fun w1 => (eGI w1 x0 11 18).bind fun v2 => if v2 = 0 then (some ((-2 : Int32), w1)) else ((eGI w1 x0 11 18).bind fun v3 => (eP w1 x0 11 18 (.int (v3 - (1 : Int32)))).bind fun w4 => fX11_undo_27 eN x0 (0 : Int32) w4)
set_option maxRecDepth 20000 in
theorem sX11_undo_0  (x0 : Nat) (w : eW) (r : Int32 × eW) (h : fX11_undo_0 x0 w = some r) : eBN l D cI cZ 0 yX11_undo cX11_undo 2 (some .int) 0 [(0, .ref x0)] [] w (some (.int r.1)) r.2 := by
  rw [fX11_undo_0] at h
  intro p e s m args below meth c r0 A X
  refine ev_aload_n (pc := 0) X 0 dX11_undo_0 rfl rfl ?_
  refine ev_iconst (pc := 1) (v := (0 : Int32)) X dX11_undo_1 rfl ?_
  obtain ⟨w1, hw1, h⟩ := eBi h
  refine ev_putI (pc := 2) X hcX11 (k := 0) (by decide) kfX11_50 rfl rfl dX11_undo_2 hw1 ?_
  refine ev_aload_n (pc := 5) X 0 dX11_undo_5 rfl rfl ?_
  obtain ⟨v2, hv2, h⟩ := eBi h
  refine ev_getI (pc := 6) X hcX11 (k := 18) (by decide) kfX11_113 dX11_undo_6 hv2 ?_
  refine ev_if_ne (pc := 9) X 15 dX11_undo_9 rfl (fun hc => ?_) (fun hc => ?_)
  · rw [if_neg hc] at h
    refine ev_aload_n (pc := 15) X 0 dX11_undo_15 rfl rfl ?_
    refine ev_dup (pc := 16) X dX11_undo_16 rfl ?_
    obtain ⟨v3, hv3, h⟩ := eBi h
    refine ev_getI (pc := 17) X hcX11 (k := 18) (by decide) kfX11_113 dX11_undo_17 hv3 ?_
    refine ev_iconst (pc := 20) (v := (1 : Int32)) X dX11_undo_20 rfl ?_
    refine ev_isub (pc := 21) X dX11_undo_21 ?_
    obtain ⟨w4, hw4, h⟩ := eBi h
    refine ev_putI (pc := 22) X hcX11 (k := 18) (by decide) kfX11_113 rfl rfl dX11_undo_22 hw4 ?_
    refine ev_iconst (pc := 25) (v := (0 : Int32)) X dX11_undo_25 rfl ?_
    refine ev_istore_n (pc := 26) (L' := [(1, .int (0 : Int32)), (0, .ref x0)]) X dX11_undo_26 rfl (by decide) rfl ?_
    exact ev_weak (pc := 27) [1, 0] rfl (sX11_undo_27 eN _ _ _ _ h p e s m args below meth c r0 A X)
  · rw [if_pos hc] at h
    refine ev_bipush (pc := 12) (v := (-2 : Int32)) X dX11_undo_12 rfl ?_
    obtain rfl := Option.some.inj h
    exact ev_iret (pc := 14) X dX11_undo_14
def fX11_undo (a0 : Nat) (w : eW) : Option (Int32 × eW) := bif eO w a0 11 then fX11_undo_0 a0 w else none
theorem mX11_undo {a0 : Nat} {w : eW} {v : Int32} {w' : eW} (h : fX11_undo a0 w = some (v, w')) : eO w a0 11 = true ∧ eMN l D cI cZ 0 yX11_undo cX11_undo 2 (some .int) [.ref a0] w (some (.int v)) w' := by
  obtain ⟨h0, h⟩ := eBif h
  exact ⟨h0, eMN_of [(0, .ref a0)] (plainFor_of_name (by decide)) (fun _ => rfl) (fun _ => Nat.le_of_ble_eq_true rfl) (fun p e s m args below meth c r0 A X => ev_weak (pc := 0) [0] rfl (sX11_undo_0 _ _ _ h p e s m args below meth c r0 A X))⟩
theorem dX11_joined_0 : decode cX11_joined 0 = .ok (.aload_n 0, 1) := by decide +kernel
theorem dX11_joined_1 : decode cX11_joined 1 = .ok (.iconst 0, 1) := by decide +kernel
theorem dX11_joined_2 : decode cX11_joined 2 = .ok (.putfield 50, 3) := by decide +kernel
theorem dX11_joined_5 : decode cX11_joined 5 = .ok (.aload_n 0, 1) := by decide +kernel
theorem dX11_joined_6 : decode cX11_joined 6 = .ok (.iload_n 1, 1) := by decide +kernel
theorem dX11_joined_7 : decode cX11_joined 7 = .ok (.invokevirtual 120, 3) := by decide +kernel
theorem dX11_joined_10 : decode cX11_joined 10 = .ok (.ifCond .eq 11, 3) := by decide +kernel
theorem dX11_joined_13 : decode cX11_joined 13 = .ok (.aload_n 0, 1) := by decide +kernel
theorem dX11_joined_14 : decode cX11_joined 14 = .ok (.iload_n 2, 1) := by decide +kernel
theorem dX11_joined_15 : decode cX11_joined 15 = .ok (.invokevirtual 120, 3) := by decide +kernel
theorem dX11_joined_18 : decode cX11_joined 18 = .ok (.ifCond .ne 5, 3) := by decide +kernel
theorem dX11_joined_21 : decode cX11_joined 21 = .ok (.iconst (-1), 1) := by decide +kernel
theorem dX11_joined_22 : decode cX11_joined 22 = .ok (.ireturn, 1) := by decide +kernel
theorem dX11_joined_23 : decode cX11_joined 23 = .ok (.aload_n 0, 1) := by decide +kernel
theorem dX11_joined_24 : decode cX11_joined 24 = .ok (.aload_n 0, 1) := by decide +kernel
theorem dX11_joined_25 : decode cX11_joined 25 = .ok (.getfield 22, 3) := by decide +kernel
theorem dX11_joined_28 : decode cX11_joined 28 = .ok (.invokevirtual 152, 3) := by decide +kernel
theorem dX11_joined_31 : decode cX11_joined 31 = .ok (.aload_n 0, 1) := by decide +kernel
theorem dX11_joined_32 : decode cX11_joined 32 = .ok (.iload_n 1, 1) := by decide +kernel
theorem dX11_joined_33 : decode cX11_joined 33 = .ok (.invokevirtual 157, 3) := by decide +kernel
theorem dX11_joined_36 : decode cX11_joined 36 = .ok (.aload_n 0, 1) := by decide +kernel
theorem dX11_joined_37 : decode cX11_joined 37 = .ok (.getfield 44, 3) := by decide +kernel
theorem dX11_joined_40 : decode cX11_joined 40 = .ok (.iload_n 2, 1) := by decide +kernel
theorem dX11_joined_41 : decode cX11_joined 41 = .ok (.iaload, 1) := by decide +kernel
theorem dX11_joined_42 : decode cX11_joined 42 = .ok (.ldc 156, 2) := by decide +kernel
theorem dX11_joined_44 : decode cX11_joined 44 = .ok (.if_icmp .ge 7, 3) := by decide +kernel
theorem dX11_joined_47 : decode cX11_joined 47 = .ok (.iconst 1, 1) := by decide +kernel
theorem dX11_joined_48 : decode cX11_joined 48 = .ok (.goto 4, 3) := by decide +kernel
theorem dX11_joined_51 : decode cX11_joined 51 = .ok (.iconst 0, 1) := by decide +kernel
theorem dX11_joined_52 : decode cX11_joined 52 = .ok (.ireturn, 1) := by decide +kernel
def fX11_joined_0 (x0 : Nat) (x1 : Int32) (x2 : Int32) (w : eW) : Option (Int32 × eW) := (eP w x0 11 0 (.int (0 : Int32))).bind fun w1 => eBind2 (fX11_isCell x0 x1 w1) fun v3 w2 => if v3 = 0 then (some ((-1 : Int32), w2)) else (eBind2 (fX11_isCell x0 x2 w2) fun v5 w4 => if v5 = 0 then (some ((-1 : Int32), w4)) else ((eGR w4 x0 11 13).bind fun v6 => (fX11_builds x0 v6 w4).bind fun w7 => (fX11_spreads x0 x1 w7).bind fun w8 => (eGR w8 x0 11 21).bind fun v9 => (eLd w8 false v9 x2).bind fun v10 => if (1000000 : Int32) ≤ v10 then (some ((0 : Int32), w8)) else (some ((1 : Int32), w8))))
set_option maxRecDepth 20000 in
theorem sX11_joined_0  (x0 : Nat) (x1 : Int32) (x2 : Int32) (w : eW) (r : Int32 × eW) (h : fX11_joined_0 x0 x1 x2 w = some r) : eBN l D cI cZ 3 yX11_joined cX11_joined 3 (some .int) 0 [(0, .ref x0), (1, .int x1), (2, .int x2)] [] w (some (.int r.1)) r.2 := by
  rw [fX11_joined_0] at h
  intro p e s m args below meth c r0 A X
  refine ev_aload_n (pc := 0) X 0 dX11_joined_0 rfl rfl ?_
  refine ev_iconst (pc := 1) (v := (0 : Int32)) X dX11_joined_1 rfl ?_
  obtain ⟨w1, hw1, h⟩ := eBi h
  refine ev_putI (pc := 2) X hcX11 (k := 0) (by decide) kfX11_50 rfl rfl dX11_joined_2 hw1 ?_
  refine ev_aload_n (pc := 5) X 0 dX11_joined_5 rfl rfl ?_
  refine ev_iload_n (pc := 6) X 1 dX11_joined_6 rfl rfl ?_
  obtain ⟨v3, w2, hc, h⟩ := eB2 h
  refine ev_callV_i (pc := 7) (As := [.int x1]) (S := []) X hwX11_isCell klX11_120 hiX11_isCell hsX11_isCell (ci := 11) ⟨rfl, rfl⟩ ⟨Nat.le_of_ble_eq_true rfl, Nat.le_of_ble_eq_true rfl⟩ ⟨Nat.le_refl _, Nat.le_refl _⟩ rfl (Nat.le_of_ble_eq_true rfl) dX11_joined_7 rfl (mX11_isCell (l := l) (D := D) (cI := cI) (cZ := cZ) hc).1 (mX11_isCell hc).2 ?_
  refine ev_if_eq (pc := 10) X 21 dX11_joined_10 rfl (fun hc => ?_) (fun hc => ?_)
  · rw [if_pos hc] at h
    refine ev_iconst (pc := 21) (v := (-1 : Int32)) X dX11_joined_21 rfl ?_
    obtain rfl := Option.some.inj h
    exact ev_iret (pc := 22) X dX11_joined_22
  · rw [if_neg hc] at h
    refine ev_aload_n (pc := 13) X 0 dX11_joined_13 rfl rfl ?_
    refine ev_iload_n (pc := 14) X 2 dX11_joined_14 rfl rfl ?_
    obtain ⟨v5, w4, hc, h⟩ := eB2 h
    refine ev_callV_i (pc := 15) (As := [.int x2]) (S := []) X hwX11_isCell klX11_120 hiX11_isCell hsX11_isCell (ci := 11) ⟨rfl, rfl⟩ ⟨Nat.le_of_ble_eq_true rfl, Nat.le_of_ble_eq_true rfl⟩ ⟨Nat.le_refl _, Nat.le_refl _⟩ rfl (Nat.le_of_ble_eq_true rfl) dX11_joined_15 rfl (mX11_isCell (l := l) (D := D) (cI := cI) (cZ := cZ) hc).1 (mX11_isCell hc).2 ?_
    refine ev_if_ne (pc := 18) X 23 dX11_joined_18 rfl (fun hc => ?_) (fun hc => ?_)
    · rw [if_neg hc] at h
      refine ev_aload_n (pc := 23) X 0 dX11_joined_23 rfl rfl ?_
      refine ev_aload_n (pc := 24) X 0 dX11_joined_24 rfl rfl ?_
      obtain ⟨v6, hv6, h⟩ := eBi h
      refine ev_getR (pc := 25) X hcX11 (k := 13) (by decide) kfX11_22 dX11_joined_25 hv6 ?_
      obtain ⟨w7, hc, h⟩ := eBi h
      refine ev_callV_v (pc := 28) (As := [.ref v6]) (S := []) X hwX11_builds klX11_152 hiX11_builds hsX11_builds (ci := 11) ⟨rfl, rfl⟩ ⟨Nat.le_of_ble_eq_true rfl, Nat.le_of_ble_eq_true rfl⟩ ⟨Nat.le_refl _, Nat.le_refl _⟩ rfl (Nat.le_of_ble_eq_true rfl) dX11_joined_28 rfl (mX11_builds (l := l) (D := D) (cI := cI) (cZ := cZ) hc).1 (mX11_builds hc).2 ?_
      refine ev_aload_n (pc := 31) X 0 dX11_joined_31 rfl rfl ?_
      refine ev_iload_n (pc := 32) X 1 dX11_joined_32 rfl rfl ?_
      obtain ⟨w8, hc, h⟩ := eBi h
      refine ev_callV_v (pc := 33) (As := [.int x1]) (S := []) X hwX11_spreads klX11_157 hiX11_spreads hsX11_spreads (ci := 11) ⟨rfl, rfl⟩ ⟨Nat.le_of_ble_eq_true rfl, Nat.le_of_ble_eq_true rfl⟩ ⟨Nat.le_refl _, Nat.le_refl _⟩ rfl (Nat.le_of_ble_eq_true rfl) dX11_joined_33 rfl (mX11_spreads (l := l) (D := D) (cI := cI) (cZ := cZ) hc).1 (mX11_spreads hc).2 ?_
      refine ev_aload_n (pc := 36) X 0 dX11_joined_36 rfl rfl ?_
      obtain ⟨v9, hv9, h⟩ := eBi h
      refine ev_getR (pc := 37) X hcX11 (k := 21) (by decide) kfX11_44 dX11_joined_37 hv9 ?_
      refine ev_iload_n (pc := 40) X 2 dX11_joined_40 rfl rfl ?_
      obtain ⟨v10, hv10, h⟩ := eBi h
      refine ev_iald (pc := 41) X dX11_joined_41 hv10 ?_
      refine ev_ldc (pc := 42) X kkX11_156 dX11_joined_42 ?_
      refine ev_icmp_ge (pc := 44) X 51 dX11_joined_44 rfl (fun hc => ?_) (fun hc => ?_)
      · rw [if_pos hc] at h
        refine ev_iconst (pc := 51) (v := (0 : Int32)) X dX11_joined_51 rfl ?_
        obtain rfl := Option.some.inj h
        exact ev_iret (pc := 52) X dX11_joined_52
      · rw [if_neg hc] at h
        refine ev_iconst (pc := 47) (v := (1 : Int32)) X dX11_joined_47 rfl ?_
        refine ev_goto (pc := 48) X 52 dX11_joined_48 rfl ?_
        obtain rfl := Option.some.inj h
        exact ev_iret (pc := 52) X dX11_joined_52
    · rw [if_pos hc] at h
      refine ev_iconst (pc := 21) (v := (-1 : Int32)) X dX11_joined_21 rfl ?_
      obtain rfl := Option.some.inj h
      exact ev_iret (pc := 22) X dX11_joined_22
def fX11_joined (a0 : Nat) (a1 : Int32) (a2 : Int32) (w : eW) : Option (Int32 × eW) := bif eO w a0 11 then fX11_joined_0 a0 a1 a2 w else none
theorem mX11_joined {a0 : Nat} {a1 : Int32} {a2 : Int32} {w : eW} {v : Int32} {w' : eW} (h : fX11_joined a0 a1 a2 w = some (v, w')) : eO w a0 11 = true ∧ eMN l D cI cZ 3 yX11_joined cX11_joined 3 (some .int) [.ref a0, .int a1, .int a2] w (some (.int v)) w' := by
  obtain ⟨h0, h⟩ := eBif h
  exact ⟨h0, eMN_of [(0, .ref a0), (1, .int a1), (2, .int a2)] (plainFor_of_name (by decide)) (fun _ => rfl) (fun _ => Nat.le_of_ble_eq_true rfl) (fun p e s m args below meth c r0 A X => ev_weak (pc := 0) [0, 1, 2] rfl (sX11_joined_0 _ _ _ _ _ h p e s m args below meth c r0 A X))⟩
theorem dX11_grows_0 : decode cX11_grows 0 = .ok (.iconst 0, 1) := by decide +kernel
theorem dX11_grows_1 : decode cX11_grows 1 = .ok (.istore_n 2, 1) := by decide +kernel
theorem dX11_grows_2 : decode cX11_grows 2 = .ok (.iload_n 2, 1) := by decide +kernel
theorem dX11_grows_3 : decode cX11_grows 3 = .ok (.aload_n 0, 1) := by decide +kernel
theorem dX11_grows_4 : decode cX11_grows 4 = .ok (.invokevirtual 116, 3) := by decide +kernel
theorem dX11_grows_7 : decode cX11_grows 7 = .ok (.if_icmp .ge 121, 3) := by decide +kernel
theorem dX11_grows_10 : decode cX11_grows 10 = .ok (.iconst 0, 1) := by decide +kernel
theorem dX11_grows_11 : decode cX11_grows 11 = .ok (.istore_n 3, 1) := by decide +kernel
theorem dX11_grows_12 : decode cX11_grows 12 = .ok (.iload_n 3, 1) := by decide +kernel
theorem dX11_grows_13 : decode cX11_grows 13 = .ok (.aload_n 0, 1) := by decide +kernel
theorem dX11_grows_14 : decode cX11_grows 14 = .ok (.invokevirtual 116, 3) := by decide +kernel
theorem dX11_grows_17 : decode cX11_grows 17 = .ok (.if_icmp .ge 105, 3) := by decide +kernel
theorem dX11_grows_20 : decode cX11_grows 20 = .ok (.iconst 0, 1) := by decide +kernel
theorem dX11_grows_21 : decode cX11_grows 21 = .ok (.istore 4, 2) := by decide +kernel
theorem dX11_grows_23 : decode cX11_grows 23 = .ok (.iload 4, 2) := by decide +kernel
theorem dX11_grows_25 : decode cX11_grows 25 = .ok (.iconst 4, 1) := by decide +kernel
theorem dX11_grows_26 : decode cX11_grows 26 = .ok (.if_icmp .ge 90, 3) := by decide +kernel
theorem dX11_grows_29 : decode cX11_grows 29 = .ok (.aload_n 0, 1) := by decide +kernel
theorem dX11_grows_30 : decode cX11_grows 30 = .ok (.iload_n 3, 1) := by decide +kernel
theorem dX11_grows_31 : decode cX11_grows 31 = .ok (.iload 4, 2) := by decide +kernel
theorem dX11_grows_33 : decode cX11_grows 33 = .ok (.invokevirtual 185, 3) := by decide +kernel
theorem dX11_grows_36 : decode cX11_grows 36 = .ok (.istore 5, 2) := by decide +kernel
theorem dX11_grows_38 : decode cX11_grows 38 = .ok (.aload_n 0, 1) := by decide +kernel
theorem dX11_grows_39 : decode cX11_grows 39 = .ok (.getfield 47, 3) := by decide +kernel
theorem dX11_grows_42 : decode cX11_grows 42 = .ok (.bipush 20, 2) := by decide +kernel
theorem dX11_grows_44 : decode cX11_grows 44 = .ok (.iload_n 1, 1) := by decide +kernel
theorem dX11_grows_45 : decode cX11_grows 45 = .ok (.imul, 1) := by decide +kernel
theorem dX11_grows_46 : decode cX11_grows 46 = .ok (.iload_n 3, 1) := by decide +kernel
theorem dX11_grows_47 : decode cX11_grows 47 = .ok (.iadd, 1) := by decide +kernel
theorem dX11_grows_48 : decode cX11_grows 48 = .ok (.iaload, 1) := by decide +kernel
theorem dX11_grows_49 : decode cX11_grows 49 = .ok (.aload_n 0, 1) := by decide +kernel
theorem dX11_grows_50 : decode cX11_grows 50 = .ok (.getfield 38, 3) := by decide +kernel
theorem dX11_grows_53 : decode cX11_grows 53 = .ok (.iload_n 3, 1) := by decide +kernel
theorem dX11_grows_54 : decode cX11_grows 54 = .ok (.iaload, 1) := by decide +kernel
theorem dX11_grows_55 : decode cX11_grows 55 = .ok (.iload 4, 2) := by decide +kernel
theorem dX11_grows_57 : decode cX11_grows 57 = .ok (.ishr, 1) := by decide +kernel
theorem dX11_grows_58 : decode cX11_grows 58 = .ok (.iconst 1, 1) := by decide +kernel
theorem dX11_grows_59 : decode cX11_grows 59 = .ok (.iand, 1) := by decide +kernel
theorem dX11_grows_60 : decode cX11_grows 60 = .ok (.iconst 1, 1) := by decide +kernel
theorem dX11_grows_61 : decode cX11_grows 61 = .ok (.if_icmp .ne 7, 3) := by decide +kernel
theorem dX11_grows_64 : decode cX11_grows 64 = .ok (.iconst 0, 1) := by decide +kernel
theorem dX11_grows_65 : decode cX11_grows 65 = .ok (.goto 4, 3) := by decide +kernel
theorem dX11_grows_68 : decode cX11_grows 68 = .ok (.iconst 1, 1) := by decide +kernel
theorem dX11_grows_69 : decode cX11_grows 69 = .ok (.iadd, 1) := by decide +kernel
theorem dX11_grows_70 : decode cX11_grows 70 = .ok (.istore 6, 2) := by decide +kernel
theorem dX11_grows_72 : decode cX11_grows 72 = .ok (.iload 5, 2) := by decide +kernel
theorem dX11_grows_74 : decode cX11_grows 74 = .ok (.bipush (-9), 2) := by decide +kernel
theorem dX11_grows_76 : decode cX11_grows 76 = .ok (.if_icmp .eq 34, 3) := by decide +kernel
theorem dX11_grows_79 : decode cX11_grows 79 = .ok (.iload 6, 2) := by decide +kernel
theorem dX11_grows_81 : decode cX11_grows 81 = .ok (.aload_n 0, 1) := by decide +kernel
theorem dX11_grows_82 : decode cX11_grows 82 = .ok (.getfield 47, 3) := by decide +kernel
theorem dX11_grows_85 : decode cX11_grows 85 = .ok (.bipush 20, 2) := by decide +kernel
theorem dX11_grows_87 : decode cX11_grows 87 = .ok (.iload_n 1, 1) := by decide +kernel
theorem dX11_grows_88 : decode cX11_grows 88 = .ok (.imul, 1) := by decide +kernel
theorem dX11_grows_89 : decode cX11_grows 89 = .ok (.iload 5, 2) := by decide +kernel
theorem dX11_grows_91 : decode cX11_grows 91 = .ok (.iadd, 1) := by decide +kernel
theorem dX11_grows_92 : decode cX11_grows 92 = .ok (.iaload, 1) := by decide +kernel
theorem dX11_grows_93 : decode cX11_grows 93 = .ok (.if_icmp .ge 17, 3) := by decide +kernel
theorem dX11_grows_96 : decode cX11_grows 96 = .ok (.aload_n 0, 1) := by decide +kernel
theorem dX11_grows_97 : decode cX11_grows 97 = .ok (.getfield 47, 3) := by decide +kernel
theorem dX11_grows_100 : decode cX11_grows 100 = .ok (.bipush 20, 2) := by decide +kernel
theorem dX11_grows_102 : decode cX11_grows 102 = .ok (.iload_n 1, 1) := by decide +kernel
theorem dX11_grows_103 : decode cX11_grows 103 = .ok (.imul, 1) := by decide +kernel
theorem dX11_grows_104 : decode cX11_grows 104 = .ok (.iload 5, 2) := by decide +kernel
theorem dX11_grows_106 : decode cX11_grows 106 = .ok (.iadd, 1) := by decide +kernel
theorem dX11_grows_107 : decode cX11_grows 107 = .ok (.iload 6, 2) := by decide +kernel
theorem dX11_grows_109 : decode cX11_grows 109 = .ok (.iastore, 1) := by decide +kernel
theorem dX11_grows_110 : decode cX11_grows 110 = .ok (.iinc 4 1, 3) := by decide +kernel
theorem dX11_grows_113 : decode cX11_grows 113 = .ok (.goto (-90), 3) := by decide +kernel
theorem dX11_grows_116 : decode cX11_grows 116 = .ok (.iinc 3 1, 3) := by decide +kernel
theorem dX11_grows_119 : decode cX11_grows 119 = .ok (.goto (-107), 3) := by decide +kernel
theorem dX11_grows_122 : decode cX11_grows 122 = .ok (.iinc 2 1, 3) := by decide +kernel
theorem dX11_grows_125 : decode cX11_grows 125 = .ok (.goto (-123), 3) := by decide +kernel
theorem dX11_grows_128 : decode cX11_grows 128 = .ok (.return_, 1) := by decide +kernel
def fX11_grows_110 (K2 : Nat → Int32 → Int32 → eW → Option (eW)) (K12 : Nat → Int32 → Int32 → Int32 → eW → Option (eW)) (K23 : Nat → Int32 → Int32 → Int32 → Int32 → eW → Option (eW)) (x0 : Nat) (x1 : Int32) (x2 : Int32) (x3 : Int32) (x4 : Int32) (w : eW) : Option (eW) := K23 x0 x1 x2 x3 (x4 + (1 : Int32)) w
set_option maxRecDepth 20000 in
theorem sX11_grows_110 {K2 : Nat → Int32 → Int32 → eW → Option (eW)} {K12 : Nat → Int32 → Int32 → Int32 → eW → Option (eW)} {K23 : Nat → Int32 → Int32 → Int32 → Int32 → eW → Option (eW)} (hK2 : ∀ (x0 : Nat) (x1 : Int32) (x2 : Int32) (w : eW) (r : eW), K2 x0 x1 x2 w = some r → eBN l D cI cZ 3 yX11_grows cX11_grows 7 none 2 [(0, .ref x0), (1, .int x1), (2, .int x2)] [] w none r) (hK12 : ∀ (x0 : Nat) (x1 : Int32) (x2 : Int32) (x3 : Int32) (w : eW) (r : eW), K12 x0 x1 x2 x3 w = some r → eBN l D cI cZ 3 yX11_grows cX11_grows 7 none 12 [(0, .ref x0), (1, .int x1), (2, .int x2), (3, .int x3)] [] w none r) (hK23 : ∀ (x0 : Nat) (x1 : Int32) (x2 : Int32) (x3 : Int32) (x4 : Int32) (w : eW) (r : eW), K23 x0 x1 x2 x3 x4 w = some r → eBN l D cI cZ 3 yX11_grows cX11_grows 7 none 23 [(0, .ref x0), (1, .int x1), (2, .int x2), (3, .int x3), (4, .int x4)] [] w none r) (x0 : Nat) (x1 : Int32) (x2 : Int32) (x3 : Int32) (x4 : Int32) (w : eW) (r : eW) (h : fX11_grows_110 K2 K12 K23 x0 x1 x2 x3 x4 w = some r) : eBN l D cI cZ 3 yX11_grows cX11_grows 7 none 110 [(0, .ref x0), (1, .int x1), (2, .int x2), (3, .int x3), (4, .int x4)] [] w none r := by
  rw [fX11_grows_110] at h
  intro p e s m args below meth c r0 A X
  refine ev_iinc (pc := 110) (v := x4 + (1 : Int32)) (L' := [(4, .int (x4 + (1 : Int32))), (0, .ref x0), (1, .int x1), (2, .int x2), (3, .int x3)]) X 4 dX11_grows_110 rfl rfl (by decide) rfl ?_
  refine ev_goto (pc := 113) X 23 dX11_grows_113 rfl ?_
  exact ev_weak (pc := 23) [1, 2, 3, 4, 0] rfl (hK23 _ _ _ _ _ _ _ h p e s m args below meth c r0 A X)
def fX11_grows_69 (K2 : Nat → Int32 → Int32 → eW → Option (eW)) (K12 : Nat → Int32 → Int32 → Int32 → eW → Option (eW)) (K23 : Nat → Int32 → Int32 → Int32 → Int32 → eW → Option (eW)) (x0 : Nat) (x1 : Int32) (x2 : Int32) (x3 : Int32) (x4 : Int32) (x5 : Int32) (t0 : Int32) (t1 : Int32) (w : eW) : Option (eW) := if x5 = (-9 : Int32) then (fX11_grows_110 K2 K12 K23 x0 x1 x2 x3 x4 w) else ((eGR w x0 11 22).bind fun v1 => (eLd w false v1 (((20 : Int32) * x1) + x5)).bind fun v2 => if v2 ≤ (t0 + t1) then (fX11_grows_110 K2 K12 K23 x0 x1 x2 x3 x4 w) else ((eGR w x0 11 22).bind fun v3 => (eSt w false v3 (((20 : Int32) * x1) + x5) (t0 + t1)).bind fun w4 => fX11_grows_110 K2 K12 K23 x0 x1 x2 x3 x4 w4))
set_option maxRecDepth 20000 in
theorem sX11_grows_69 {K2 : Nat → Int32 → Int32 → eW → Option (eW)} {K12 : Nat → Int32 → Int32 → Int32 → eW → Option (eW)} {K23 : Nat → Int32 → Int32 → Int32 → Int32 → eW → Option (eW)} (hK2 : ∀ (x0 : Nat) (x1 : Int32) (x2 : Int32) (w : eW) (r : eW), K2 x0 x1 x2 w = some r → eBN l D cI cZ 3 yX11_grows cX11_grows 7 none 2 [(0, .ref x0), (1, .int x1), (2, .int x2)] [] w none r) (hK12 : ∀ (x0 : Nat) (x1 : Int32) (x2 : Int32) (x3 : Int32) (w : eW) (r : eW), K12 x0 x1 x2 x3 w = some r → eBN l D cI cZ 3 yX11_grows cX11_grows 7 none 12 [(0, .ref x0), (1, .int x1), (2, .int x2), (3, .int x3)] [] w none r) (hK23 : ∀ (x0 : Nat) (x1 : Int32) (x2 : Int32) (x3 : Int32) (x4 : Int32) (w : eW) (r : eW), K23 x0 x1 x2 x3 x4 w = some r → eBN l D cI cZ 3 yX11_grows cX11_grows 7 none 23 [(0, .ref x0), (1, .int x1), (2, .int x2), (3, .int x3), (4, .int x4)] [] w none r) (x0 : Nat) (x1 : Int32) (x2 : Int32) (x3 : Int32) (x4 : Int32) (x5 : Int32) (t0 : Int32) (t1 : Int32) (w : eW) (r : eW) (h : fX11_grows_69 K2 K12 K23 x0 x1 x2 x3 x4 x5 t0 t1 w = some r) : eBN l D cI cZ 3 yX11_grows cX11_grows 7 none 69 [(0, .ref x0), (1, .int x1), (2, .int x2), (3, .int x3), (4, .int x4), (5, .int x5)] [.int t1, .int t0] w none r := by
  rw [fX11_grows_69] at h
  intro p e s m args below meth c r0 A X
  refine ev_iadd (pc := 69) X dX11_grows_69 ?_
  refine ev_istore (pc := 70) (L' := [(6, .int (t0 + t1)), (0, .ref x0), (1, .int x1), (2, .int x2), (3, .int x3), (4, .int x4), (5, .int x5)]) X dX11_grows_70 (by decide) rfl ?_
  refine ev_iload (pc := 72) X 6 dX11_grows_72 rfl ?_
  refine ev_bipush (pc := 74) (v := (-9 : Int32)) X dX11_grows_74 rfl ?_
  refine ev_icmp_eq (pc := 76) X 110 dX11_grows_76 rfl (fun hc => ?_) (fun hc => ?_)
  · rw [if_pos hc] at h
    exact ev_weak (pc := 110) [1, 2, 3, 4, 5] rfl (sX11_grows_110 hK2 hK12 hK23 _ _ _ _ _ _ _ h p e s m args below meth c r0 A X)
  · rw [if_neg hc] at h
    refine ev_iload (pc := 79) X 0 dX11_grows_79 rfl ?_
    refine ev_aload_n (pc := 81) X 1 dX11_grows_81 rfl rfl ?_
    obtain ⟨v1, hv1, h⟩ := eBi h
    refine ev_getR (pc := 82) X hcX11 (k := 22) (by decide) kfX11_47 dX11_grows_82 hv1 ?_
    refine ev_bipush (pc := 85) (v := (20 : Int32)) X dX11_grows_85 rfl ?_
    refine ev_iload_n (pc := 87) X 2 dX11_grows_87 rfl rfl ?_
    refine ev_imul (pc := 88) X dX11_grows_88 ?_
    refine ev_iload (pc := 89) X 6 dX11_grows_89 rfl ?_
    refine ev_iadd (pc := 91) X dX11_grows_91 ?_
    obtain ⟨v2, hv2, h⟩ := eBi h
    refine ev_iald (pc := 92) X dX11_grows_92 hv2 ?_
    refine ev_icmp_ge (pc := 93) X 110 dX11_grows_93 rfl (fun hc => ?_) (fun hc => ?_)
    · rw [if_pos hc] at h
      exact ev_weak (pc := 110) [1, 2, 3, 4, 5] rfl (sX11_grows_110 hK2 hK12 hK23 _ _ _ _ _ _ _ h p e s m args below meth c r0 A X)
    · rw [if_neg hc] at h
      refine ev_aload_n (pc := 96) X 1 dX11_grows_96 rfl rfl ?_
      obtain ⟨v3, hv3, h⟩ := eBi h
      refine ev_getR (pc := 97) X hcX11 (k := 22) (by decide) kfX11_47 dX11_grows_97 hv3 ?_
      refine ev_bipush (pc := 100) (v := (20 : Int32)) X dX11_grows_100 rfl ?_
      refine ev_iload_n (pc := 102) X 2 dX11_grows_102 rfl rfl ?_
      refine ev_imul (pc := 103) X dX11_grows_103 ?_
      refine ev_iload (pc := 104) X 6 dX11_grows_104 rfl ?_
      refine ev_iadd (pc := 106) X dX11_grows_106 ?_
      refine ev_iload (pc := 107) X 0 dX11_grows_107 rfl ?_
      obtain ⟨w4, hw4, h⟩ := eBi h
      refine ev_iast (pc := 109) X dX11_grows_109 hw4 ?_
      exact ev_weak (pc := 110) [1, 2, 3, 4, 5] rfl (sX11_grows_110 hK2 hK12 hK23 _ _ _ _ _ _ _ h p e s m args below meth c r0 A X)
def fX11_grows_23 (K2 : Nat → Int32 → Int32 → eW → Option (eW)) (K12 : Nat → Int32 → Int32 → Int32 → eW → Option (eW)) : Nat → Nat → Int32 → Int32 → Int32 → Int32 → eW → Option (eW)
  | 0, _, _, _, _, _, _ => none
  | n + 1, x0, x1, x2, x3, x4, w => if (4 : Int32) ≤ x4 then (K12 x0 x1 x2 (x3 + (1 : Int32)) w) else (eBind2 (fX11_goes x0 x3 x4 w) fun v2 w1 => (eGR w1 x0 11 22).bind fun v3 => (eLd w1 false v3 (((20 : Int32) * x1) + x3)).bind fun v4 => (eGR w1 x0 11 19).bind fun v5 => (eLd w1 false v5 x3).bind fun v6 => if ((v6 >>> (x4 &&& 31)) &&& (1 : Int32)) = (1 : Int32) then (fX11_grows_69 K2 K12 (fX11_grows_23 K2 K12 n) x0 x1 x2 x3 x4 v2 v4 (0 : Int32) w1) else (fX11_grows_69 K2 K12 (fX11_grows_23 K2 K12 n) x0 x1 x2 x3 x4 v2 v4 (1 : Int32) w1))
set_option maxRecDepth 20000 in
theorem sX11_grows_23 {K2 : Nat → Int32 → Int32 → eW → Option (eW)} {K12 : Nat → Int32 → Int32 → Int32 → eW → Option (eW)} (hK2 : ∀ (x0 : Nat) (x1 : Int32) (x2 : Int32) (w : eW) (r : eW), K2 x0 x1 x2 w = some r → eBN l D cI cZ 3 yX11_grows cX11_grows 7 none 2 [(0, .ref x0), (1, .int x1), (2, .int x2)] [] w none r) (hK12 : ∀ (x0 : Nat) (x1 : Int32) (x2 : Int32) (x3 : Int32) (w : eW) (r : eW), K12 x0 x1 x2 x3 w = some r → eBN l D cI cZ 3 yX11_grows cX11_grows 7 none 12 [(0, .ref x0), (1, .int x1), (2, .int x2), (3, .int x3)] [] w none r) : ∀ (n : Nat) (x0 : Nat) (x1 : Int32) (x2 : Int32) (x3 : Int32) (x4 : Int32) (w : eW) (r : eW), fX11_grows_23 K2 K12 n x0 x1 x2 x3 x4 w = some r → eBN l D cI cZ 3 yX11_grows cX11_grows 7 none 23 [(0, .ref x0), (1, .int x1), (2, .int x2), (3, .int x3), (4, .int x4)] [] w none r := by
  intro n
  induction n with
  | zero => intro x0 x1 x2 x3 x4 w r h; exact absurd (show (none : Option (eW)) = some r from h) (by simp)
  | succ n ih =>
    intro x0 x1 x2 x3 x4 w r h
    rw [fX11_grows_23] at h
    intro p e s m args below meth c r0 A X
    refine ev_iload (pc := 23) X 4 dX11_grows_23 rfl ?_
    refine ev_iconst (pc := 25) (v := (4 : Int32)) X dX11_grows_25 rfl ?_
    refine ev_icmp_ge (pc := 26) X 116 dX11_grows_26 rfl (fun hc => ?_) (fun hc => ?_)
    · rw [if_pos hc] at h
      refine ev_iinc (pc := 116) (v := x3 + (1 : Int32)) (L' := [(3, .int (x3 + (1 : Int32))), (0, .ref x0), (1, .int x1), (2, .int x2), (4, .int x4)]) X 3 dX11_grows_116 rfl rfl (by decide) rfl ?_
      refine ev_goto (pc := 119) X 12 dX11_grows_119 rfl ?_
      exact ev_weak (pc := 12) [1, 2, 3, 0] rfl (hK12 _ _ _ _ _ _ h p e s m args below meth c r0 A X)
    · rw [if_neg hc] at h
      refine ev_aload_n (pc := 29) X 0 dX11_grows_29 rfl rfl ?_
      refine ev_iload_n (pc := 30) X 3 dX11_grows_30 rfl rfl ?_
      refine ev_iload (pc := 31) X 4 dX11_grows_31 rfl ?_
      obtain ⟨v2, w1, hc, h⟩ := eB2 h
      refine ev_callV_i (pc := 33) (As := [.int x3, .int x4]) (S := []) X hwX11_goes klX11_185 hiX11_goes hsX11_goes (ci := 11) ⟨rfl, rfl⟩ ⟨Nat.le_of_ble_eq_true rfl, Nat.le_of_ble_eq_true rfl⟩ ⟨Nat.le_refl _, Nat.le_refl _⟩ rfl (Nat.le_of_ble_eq_true rfl) dX11_grows_33 rfl (mX11_goes (l := l) (D := D) (cI := cI) (cZ := cZ) hc).1 (mX11_goes hc).2 ?_
      refine ev_istore (pc := 36) (L' := [(5, .int v2), (0, .ref x0), (1, .int x1), (2, .int x2), (3, .int x3), (4, .int x4)]) X dX11_grows_36 (by decide) rfl ?_
      refine ev_aload_n (pc := 38) X 1 dX11_grows_38 rfl rfl ?_
      obtain ⟨v3, hv3, h⟩ := eBi h
      refine ev_getR (pc := 39) X hcX11 (k := 22) (by decide) kfX11_47 dX11_grows_39 hv3 ?_
      refine ev_bipush (pc := 42) (v := (20 : Int32)) X dX11_grows_42 rfl ?_
      refine ev_iload_n (pc := 44) X 2 dX11_grows_44 rfl rfl ?_
      refine ev_imul (pc := 45) X dX11_grows_45 ?_
      refine ev_iload_n (pc := 46) X 4 dX11_grows_46 rfl rfl ?_
      refine ev_iadd (pc := 47) X dX11_grows_47 ?_
      obtain ⟨v4, hv4, h⟩ := eBi h
      refine ev_iald (pc := 48) X dX11_grows_48 hv4 ?_
      refine ev_aload_n (pc := 49) X 1 dX11_grows_49 rfl rfl ?_
      obtain ⟨v5, hv5, h⟩ := eBi h
      refine ev_getR (pc := 50) X hcX11 (k := 19) (by decide) kfX11_38 dX11_grows_50 hv5 ?_
      refine ev_iload_n (pc := 53) X 4 dX11_grows_53 rfl rfl ?_
      obtain ⟨v6, hv6, h⟩ := eBi h
      refine ev_iald (pc := 54) X dX11_grows_54 hv6 ?_
      refine ev_iload (pc := 55) X 5 dX11_grows_55 rfl ?_
      refine ev_ishr (pc := 57) X dX11_grows_57 ?_
      refine ev_iconst (pc := 58) (v := (1 : Int32)) X dX11_grows_58 rfl ?_
      refine ev_iand (pc := 59) X dX11_grows_59 ?_
      refine ev_iconst (pc := 60) (v := (1 : Int32)) X dX11_grows_60 rfl ?_
      refine ev_icmp_ne (pc := 61) X 68 dX11_grows_61 rfl (fun hc => ?_) (fun hc => ?_)
      · rw [if_neg hc] at h
        refine ev_iconst (pc := 68) (v := (1 : Int32)) X dX11_grows_68 rfl ?_
        exact ev_weak (pc := 69) [1, 2, 3, 4, 5, 0] rfl (sX11_grows_69 hK2 hK12 (fun _ _ _ _ _ w r hh => ih _ _ _ _ _ w r hh) _ _ _ _ _ _ _ _ _ _ h p e s m args below meth c r0 A X)
      · rw [if_pos hc] at h
        refine ev_iconst (pc := 64) (v := (0 : Int32)) X dX11_grows_64 rfl ?_
        refine ev_goto (pc := 65) X 69 dX11_grows_65 rfl ?_
        exact ev_weak (pc := 69) [1, 2, 3, 4, 5, 0] rfl (sX11_grows_69 hK2 hK12 (fun _ _ _ _ _ w r hh => ih _ _ _ _ _ w r hh) _ _ _ _ _ _ _ _ _ _ h p e s m args below meth c r0 A X)
def fX11_grows_12 (K2 : Nat → Int32 → Int32 → eW → Option (eW)) : Nat → Nat → Int32 → Int32 → Int32 → eW → Option (eW)
  | 0, _, _, _, _, _ => none
  | n + 1, x0, x1, x2, x3, w => eBind2 (fX11_cells x0 w) fun v2 w1 => if v2 ≤ x3 then (K2 x0 x1 (x2 + (1 : Int32)) w1) else (fX11_grows_23 K2 (fX11_grows_12 K2 n) eN x0 x1 x2 x3 (0 : Int32) w1)
set_option maxRecDepth 20000 in
theorem sX11_grows_12 {K2 : Nat → Int32 → Int32 → eW → Option (eW)} (hK2 : ∀ (x0 : Nat) (x1 : Int32) (x2 : Int32) (w : eW) (r : eW), K2 x0 x1 x2 w = some r → eBN l D cI cZ 3 yX11_grows cX11_grows 7 none 2 [(0, .ref x0), (1, .int x1), (2, .int x2)] [] w none r) : ∀ (n : Nat) (x0 : Nat) (x1 : Int32) (x2 : Int32) (x3 : Int32) (w : eW) (r : eW), fX11_grows_12 K2 n x0 x1 x2 x3 w = some r → eBN l D cI cZ 3 yX11_grows cX11_grows 7 none 12 [(0, .ref x0), (1, .int x1), (2, .int x2), (3, .int x3)] [] w none r := by
  intro n
  induction n with
  | zero => intro x0 x1 x2 x3 w r h; exact absurd (show (none : Option (eW)) = some r from h) (by simp)
  | succ n ih =>
    intro x0 x1 x2 x3 w r h
    rw [fX11_grows_12] at h
    intro p e s m args below meth c r0 A X
    refine ev_iload_n (pc := 12) X 3 dX11_grows_12 rfl rfl ?_
    refine ev_aload_n (pc := 13) X 0 dX11_grows_13 rfl rfl ?_
    obtain ⟨v2, w1, hc, h⟩ := eB2 h
    refine ev_callV_i (pc := 14) (As := []) (S := [.int x3]) X hwX11_cells klX11_116 hiX11_cells hsX11_cells (ci := 11) ⟨rfl, rfl⟩ ⟨Nat.le_of_ble_eq_true rfl, Nat.le_of_ble_eq_true rfl⟩ ⟨Nat.le_refl _, Nat.le_refl _⟩ rfl (Nat.le_of_ble_eq_true rfl) dX11_grows_14 rfl (mX11_cells (l := l) (D := D) (cI := cI) (cZ := cZ) hc).1 (mX11_cells hc).2 ?_
    refine ev_icmp_ge (pc := 17) X 122 dX11_grows_17 rfl (fun hc => ?_) (fun hc => ?_)
    · rw [if_pos hc] at h
      refine ev_iinc (pc := 122) (v := x2 + (1 : Int32)) (L' := [(2, .int (x2 + (1 : Int32))), (0, .ref x0), (1, .int x1), (3, .int x3)]) X 2 dX11_grows_122 rfl rfl (by decide) rfl ?_
      refine ev_goto (pc := 125) X 2 dX11_grows_125 rfl ?_
      exact ev_weak (pc := 2) [1, 2, 0] rfl (hK2 _ _ _ _ _ h p e s m args below meth c r0 A X)
    · rw [if_neg hc] at h
      refine ev_iconst (pc := 20) (v := (0 : Int32)) X dX11_grows_20 rfl ?_
      refine ev_istore (pc := 21) (L' := [(4, .int (0 : Int32)), (0, .ref x0), (1, .int x1), (2, .int x2), (3, .int x3)]) X dX11_grows_21 (by decide) rfl ?_
      exact ev_weak (pc := 23) [1, 2, 3, 4, 0] rfl (sX11_grows_23 hK2 (fun _ _ _ _ w r hh => ih _ _ _ _ w r hh) eN _ _ _ _ _ _ _ h p e s m args below meth c r0 A X)
def fX11_grows_2 : Nat → Nat → Int32 → Int32 → eW → Option (eW)
  | 0, _, _, _, _ => none
  | n + 1, x0, x1, x2, w => eBind2 (fX11_cells x0 w) fun v2 w1 => if v2 ≤ x2 then (some w1) else (fX11_grows_12 (fX11_grows_2 n) eN x0 x1 x2 (0 : Int32) w1)
set_option maxRecDepth 20000 in
theorem sX11_grows_2  : ∀ (n : Nat) (x0 : Nat) (x1 : Int32) (x2 : Int32) (w : eW) (r : eW), fX11_grows_2 n x0 x1 x2 w = some r → eBN l D cI cZ 3 yX11_grows cX11_grows 7 none 2 [(0, .ref x0), (1, .int x1), (2, .int x2)] [] w none r := by
  intro n
  induction n with
  | zero => intro x0 x1 x2 w r h; exact absurd (show (none : Option (eW)) = some r from h) (by simp)
  | succ n ih =>
    intro x0 x1 x2 w r h
    rw [fX11_grows_2] at h
    intro p e s m args below meth c r0 A X
    refine ev_iload_n (pc := 2) X 2 dX11_grows_2 rfl rfl ?_
    refine ev_aload_n (pc := 3) X 0 dX11_grows_3 rfl rfl ?_
    obtain ⟨v2, w1, hc, h⟩ := eB2 h
    refine ev_callV_i (pc := 4) (As := []) (S := [.int x2]) X hwX11_cells klX11_116 hiX11_cells hsX11_cells (ci := 11) ⟨rfl, rfl⟩ ⟨Nat.le_of_ble_eq_true rfl, Nat.le_of_ble_eq_true rfl⟩ ⟨Nat.le_refl _, Nat.le_refl _⟩ rfl (Nat.le_of_ble_eq_true rfl) dX11_grows_4 rfl (mX11_cells (l := l) (D := D) (cI := cI) (cZ := cZ) hc).1 (mX11_cells hc).2 ?_
    refine ev_icmp_ge (pc := 7) X 128 dX11_grows_7 rfl (fun hc => ?_) (fun hc => ?_)
    · rw [if_pos hc] at h
      obtain rfl := Option.some.inj h
      exact ev_vret (pc := 128) X dX11_grows_128
    · rw [if_neg hc] at h
      refine ev_iconst (pc := 10) (v := (0 : Int32)) X dX11_grows_10 rfl ?_
      refine ev_istore_n (pc := 11) (L' := [(3, .int (0 : Int32)), (0, .ref x0), (1, .int x1), (2, .int x2)]) X dX11_grows_11 rfl (by decide) rfl ?_
      exact ev_weak (pc := 12) [1, 2, 3, 0] rfl (sX11_grows_12 (fun _ _ _ w r hh => ih _ _ _ w r hh) eN _ _ _ _ _ _ h p e s m args below meth c r0 A X)
def fX11_grows_0 (x0 : Nat) (x1 : Int32) (w : eW) : Option (eW) := fX11_grows_2 eN x0 x1 (0 : Int32) w
set_option maxRecDepth 20000 in
theorem sX11_grows_0  (x0 : Nat) (x1 : Int32) (w : eW) (r : eW) (h : fX11_grows_0 x0 x1 w = some r) : eBN l D cI cZ 3 yX11_grows cX11_grows 7 none 0 [(0, .ref x0), (1, .int x1)] [] w none r := by
  rw [fX11_grows_0] at h
  intro p e s m args below meth c r0 A X
  refine ev_iconst (pc := 0) (v := (0 : Int32)) X dX11_grows_0 rfl ?_
  refine ev_istore_n (pc := 1) (L' := [(2, .int (0 : Int32)), (0, .ref x0), (1, .int x1)]) X dX11_grows_1 rfl (by decide) rfl ?_
  exact ev_weak (pc := 2) [1, 2, 0] rfl (sX11_grows_2 eN _ _ _ _ _ h p e s m args below meth c r0 A X)
def fX11_grows (a0 : Nat) (a1 : Int32) (w : eW) : Option (eW) := bif eO w a0 11 then fX11_grows_0 a0 a1 w else none
theorem mX11_grows {a0 : Nat} {a1 : Int32} {w : eW} {w' : eW} (h : fX11_grows a0 a1 w = some w') : eO w a0 11 = true ∧ eMN l D cI cZ 3 yX11_grows cX11_grows 7 none [.ref a0, .int a1] w none w' := by
  obtain ⟨h0, h⟩ := eBif h
  exact ⟨h0, eMN_of [(0, .ref a0), (1, .int a1)] (plainFor_of_name (by decide)) (fun _ => rfl) (fun _ => Nat.le_of_ble_eq_true rfl) (fun p e s m args below meth c r0 A X => ev_weak (pc := 0) [0, 1] rfl (sX11_grows_0 _ _ _ _ h p e s m args below meth c r0 A X))⟩
theorem dX11_toWeave_0 : decode cX11_toWeave 0 = .ok (.aload_n 0, 1) := by decide +kernel
theorem dX11_toWeave_1 : decode cX11_toWeave 1 = .ok (.iconst 0, 1) := by decide +kernel
theorem dX11_toWeave_2 : decode cX11_toWeave 2 = .ok (.putfield 50, 3) := by decide +kernel
theorem dX11_toWeave_5 : decode cX11_toWeave 5 = .ok (.aload_n 0, 1) := by decide +kernel
theorem dX11_toWeave_6 : decode cX11_toWeave 6 = .ok (.getfield 13, 3) := by decide +kernel
theorem dX11_toWeave_9 : decode cX11_toWeave 9 = .ok (.iconst 2, 1) := by decide +kernel
theorem dX11_toWeave_10 : decode cX11_toWeave 10 = .ok (.iaload, 1) := by decide +kernel
theorem dX11_toWeave_11 : decode cX11_toWeave 11 = .ok (.ifCond .ne 5, 3) := by decide +kernel
theorem dX11_toWeave_14 : decode cX11_toWeave 14 = .ok (.iconst 0, 1) := by decide +kernel
theorem dX11_toWeave_15 : decode cX11_toWeave 15 = .ok (.ireturn, 1) := by decide +kernel
theorem dX11_toWeave_16 : decode cX11_toWeave 16 = .ok (.aload_n 0, 1) := by decide +kernel
theorem dX11_toWeave_17 : decode cX11_toWeave 17 = .ok (.aload_n 0, 1) := by decide +kernel
theorem dX11_toWeave_18 : decode cX11_toWeave 18 = .ok (.getfield 22, 3) := by decide +kernel
theorem dX11_toWeave_21 : decode cX11_toWeave 21 = .ok (.invokevirtual 152, 3) := by decide +kernel
theorem dX11_toWeave_24 : decode cX11_toWeave 24 = .ok (.iconst 1, 1) := by decide +kernel
theorem dX11_toWeave_25 : decode cX11_toWeave 25 = .ok (.istore_n 1, 1) := by decide +kernel
theorem dX11_toWeave_26 : decode cX11_toWeave 26 = .ok (.iload_n 1, 1) := by decide +kernel
theorem dX11_toWeave_27 : decode cX11_toWeave 27 = .ok (.iconst 1, 1) := by decide +kernel
theorem dX11_toWeave_28 : decode cX11_toWeave 28 = .ok (.aload_n 0, 1) := by decide +kernel
theorem dX11_toWeave_29 : decode cX11_toWeave 29 = .ok (.getfield 13, 3) := by decide +kernel
theorem dX11_toWeave_32 : decode cX11_toWeave 32 = .ok (.iconst 2, 1) := by decide +kernel
theorem dX11_toWeave_33 : decode cX11_toWeave 33 = .ok (.iaload, 1) := by decide +kernel
theorem dX11_toWeave_34 : decode cX11_toWeave 34 = .ok (.ishl, 1) := by decide +kernel
theorem dX11_toWeave_35 : decode cX11_toWeave 35 = .ok (.if_icmp .ge 200, 3) := by decide +kernel
theorem dX11_toWeave_38 : decode cX11_toWeave 38 = .ok (.iconst 0, 1) := by decide +kernel
theorem dX11_toWeave_39 : decode cX11_toWeave 39 = .ok (.istore_n 2, 1) := by decide +kernel
theorem dX11_toWeave_40 : decode cX11_toWeave 40 = .ok (.iload_n 2, 1) := by decide +kernel
theorem dX11_toWeave_41 : decode cX11_toWeave 41 = .ok (.bipush 20, 2) := by decide +kernel
theorem dX11_toWeave_43 : decode cX11_toWeave 43 = .ok (.if_icmp .ge 120, 3) := by decide +kernel
theorem dX11_toWeave_46 : decode cX11_toWeave 46 = .ok (.aload_n 0, 1) := by decide +kernel
theorem dX11_toWeave_47 : decode cX11_toWeave 47 = .ok (.getfield 47, 3) := by decide +kernel
theorem dX11_toWeave_50 : decode cX11_toWeave 50 = .ok (.bipush 20, 2) := by decide +kernel
theorem dX11_toWeave_52 : decode cX11_toWeave 52 = .ok (.iload_n 1, 1) := by decide +kernel
theorem dX11_toWeave_53 : decode cX11_toWeave 53 = .ok (.imul, 1) := by decide +kernel
theorem dX11_toWeave_54 : decode cX11_toWeave 54 = .ok (.iload_n 2, 1) := by decide +kernel
theorem dX11_toWeave_55 : decode cX11_toWeave 55 = .ok (.iadd, 1) := by decide +kernel
theorem dX11_toWeave_56 : decode cX11_toWeave 56 = .ok (.ldc 156, 2) := by decide +kernel
theorem dX11_toWeave_58 : decode cX11_toWeave 58 = .ok (.iastore, 1) := by decide +kernel
theorem dX11_toWeave_59 : decode cX11_toWeave 59 = .ok (.iconst 1, 1) := by decide +kernel
theorem dX11_toWeave_60 : decode cX11_toWeave 60 = .ok (.istore_n 3, 1) := by decide +kernel
theorem dX11_toWeave_61 : decode cX11_toWeave 61 = .ok (.iload_n 3, 1) := by decide +kernel
theorem dX11_toWeave_62 : decode cX11_toWeave 62 = .ok (.iload_n 1, 1) := by decide +kernel
theorem dX11_toWeave_63 : decode cX11_toWeave 63 = .ok (.if_icmp .ge 94, 3) := by decide +kernel
theorem dX11_toWeave_66 : decode cX11_toWeave 66 = .ok (.iload_n 3, 1) := by decide +kernel
theorem dX11_toWeave_67 : decode cX11_toWeave 67 = .ok (.iload_n 1, 1) := by decide +kernel
theorem dX11_toWeave_68 : decode cX11_toWeave 68 = .ok (.iconst (-1), 1) := by decide +kernel
theorem dX11_toWeave_69 : decode cX11_toWeave 69 = .ok (.ixor, 1) := by decide +kernel
theorem dX11_toWeave_70 : decode cX11_toWeave 70 = .ok (.iand, 1) := by decide +kernel
theorem dX11_toWeave_71 : decode cX11_toWeave 71 = .ok (.ifCond .ne 33, 3) := by decide +kernel
theorem dX11_toWeave_74 : decode cX11_toWeave 74 = .ok (.aload_n 0, 1) := by decide +kernel
theorem dX11_toWeave_75 : decode cX11_toWeave 75 = .ok (.getfield 47, 3) := by decide +kernel
theorem dX11_toWeave_78 : decode cX11_toWeave 78 = .ok (.bipush 20, 2) := by decide +kernel
theorem dX11_toWeave_80 : decode cX11_toWeave 80 = .ok (.iload_n 3, 1) := by decide +kernel
theorem dX11_toWeave_81 : decode cX11_toWeave 81 = .ok (.imul, 1) := by decide +kernel
theorem dX11_toWeave_82 : decode cX11_toWeave 82 = .ok (.iload_n 2, 1) := by decide +kernel
theorem dX11_toWeave_83 : decode cX11_toWeave 83 = .ok (.iadd, 1) := by decide +kernel
theorem dX11_toWeave_84 : decode cX11_toWeave 84 = .ok (.iaload, 1) := by decide +kernel
theorem dX11_toWeave_85 : decode cX11_toWeave 85 = .ok (.aload_n 0, 1) := by decide +kernel
theorem dX11_toWeave_86 : decode cX11_toWeave 86 = .ok (.getfield 47, 3) := by decide +kernel
theorem dX11_toWeave_89 : decode cX11_toWeave 89 = .ok (.bipush 20, 2) := by decide +kernel
theorem dX11_toWeave_91 : decode cX11_toWeave 91 = .ok (.iload_n 1, 1) := by decide +kernel
theorem dX11_toWeave_92 : decode cX11_toWeave 92 = .ok (.iload_n 3, 1) := by decide +kernel
theorem dX11_toWeave_93 : decode cX11_toWeave 93 = .ok (.iconst (-1), 1) := by decide +kernel
theorem dX11_toWeave_94 : decode cX11_toWeave 94 = .ok (.ixor, 1) := by decide +kernel
theorem dX11_toWeave_95 : decode cX11_toWeave 95 = .ok (.iand, 1) := by decide +kernel
theorem dX11_toWeave_96 : decode cX11_toWeave 96 = .ok (.imul, 1) := by decide +kernel
theorem dX11_toWeave_97 : decode cX11_toWeave 97 = .ok (.iload_n 2, 1) := by decide +kernel
theorem dX11_toWeave_98 : decode cX11_toWeave 98 = .ok (.iadd, 1) := by decide +kernel
theorem dX11_toWeave_99 : decode cX11_toWeave 99 = .ok (.iaload, 1) := by decide +kernel
theorem dX11_toWeave_100 : decode cX11_toWeave 100 = .ok (.iadd, 1) := by decide +kernel
theorem dX11_toWeave_101 : decode cX11_toWeave 101 = .ok (.goto 5, 3) := by decide +kernel
theorem dX11_toWeave_104 : decode cX11_toWeave 104 = .ok (.ldc 156, 2) := by decide +kernel
theorem dX11_toWeave_106 : decode cX11_toWeave 106 = .ok (.istore 4, 2) := by decide +kernel
theorem dX11_toWeave_108 : decode cX11_toWeave 108 = .ok (.aload_n 0, 1) := by decide +kernel
theorem dX11_toWeave_109 : decode cX11_toWeave 109 = .ok (.getfield 47, 3) := by decide +kernel
theorem dX11_toWeave_112 : decode cX11_toWeave 112 = .ok (.bipush 20, 2) := by decide +kernel
theorem dX11_toWeave_114 : decode cX11_toWeave 114 = .ok (.iload_n 1, 1) := by decide +kernel
theorem dX11_toWeave_115 : decode cX11_toWeave 115 = .ok (.imul, 1) := by decide +kernel
theorem dX11_toWeave_116 : decode cX11_toWeave 116 = .ok (.iload_n 2, 1) := by decide +kernel
theorem dX11_toWeave_117 : decode cX11_toWeave 117 = .ok (.iadd, 1) := by decide +kernel
theorem dX11_toWeave_118 : decode cX11_toWeave 118 = .ok (.iload 4, 2) := by decide +kernel
theorem dX11_toWeave_120 : decode cX11_toWeave 120 = .ok (.aload_n 0, 1) := by decide +kernel
theorem dX11_toWeave_121 : decode cX11_toWeave 121 = .ok (.getfield 47, 3) := by decide +kernel
theorem dX11_toWeave_124 : decode cX11_toWeave 124 = .ok (.bipush 20, 2) := by decide +kernel
theorem dX11_toWeave_126 : decode cX11_toWeave 126 = .ok (.iload_n 1, 1) := by decide +kernel
theorem dX11_toWeave_127 : decode cX11_toWeave 127 = .ok (.imul, 1) := by decide +kernel
theorem dX11_toWeave_128 : decode cX11_toWeave 128 = .ok (.iload_n 2, 1) := by decide +kernel
theorem dX11_toWeave_129 : decode cX11_toWeave 129 = .ok (.iadd, 1) := by decide +kernel
theorem dX11_toWeave_130 : decode cX11_toWeave 130 = .ok (.iaload, 1) := by decide +kernel
theorem dX11_toWeave_131 : decode cX11_toWeave 131 = .ok (.if_icmp .ge 8, 3) := by decide +kernel
theorem dX11_toWeave_134 : decode cX11_toWeave 134 = .ok (.iload 4, 2) := by decide +kernel
theorem dX11_toWeave_136 : decode cX11_toWeave 136 = .ok (.goto 14, 3) := by decide +kernel
theorem dX11_toWeave_139 : decode cX11_toWeave 139 = .ok (.aload_n 0, 1) := by decide +kernel
theorem dX11_toWeave_140 : decode cX11_toWeave 140 = .ok (.getfield 47, 3) := by decide +kernel
theorem dX11_toWeave_143 : decode cX11_toWeave 143 = .ok (.bipush 20, 2) := by decide +kernel
theorem dX11_toWeave_145 : decode cX11_toWeave 145 = .ok (.iload_n 1, 1) := by decide +kernel
theorem dX11_toWeave_146 : decode cX11_toWeave 146 = .ok (.imul, 1) := by decide +kernel
theorem dX11_toWeave_147 : decode cX11_toWeave 147 = .ok (.iload_n 2, 1) := by decide +kernel
theorem dX11_toWeave_148 : decode cX11_toWeave 148 = .ok (.iadd, 1) := by decide +kernel
theorem dX11_toWeave_149 : decode cX11_toWeave 149 = .ok (.iaload, 1) := by decide +kernel
theorem dX11_toWeave_150 : decode cX11_toWeave 150 = .ok (.iastore, 1) := by decide +kernel
theorem dX11_toWeave_151 : decode cX11_toWeave 151 = .ok (.iinc 3 1, 3) := by decide +kernel
theorem dX11_toWeave_154 : decode cX11_toWeave 154 = .ok (.goto (-93), 3) := by decide +kernel
theorem dX11_toWeave_157 : decode cX11_toWeave 157 = .ok (.iinc 2 1, 3) := by decide +kernel
theorem dX11_toWeave_160 : decode cX11_toWeave 160 = .ok (.goto (-120), 3) := by decide +kernel
theorem dX11_toWeave_163 : decode cX11_toWeave 163 = .ok (.iconst 0, 1) := by decide +kernel
theorem dX11_toWeave_164 : decode cX11_toWeave 164 = .ok (.istore_n 2, 1) := by decide +kernel
theorem dX11_toWeave_165 : decode cX11_toWeave 165 = .ok (.iload_n 2, 1) := by decide +kernel
theorem dX11_toWeave_166 : decode cX11_toWeave 166 = .ok (.aload_n 0, 1) := by decide +kernel
theorem dX11_toWeave_167 : decode cX11_toWeave 167 = .ok (.getfield 13, 3) := by decide +kernel
theorem dX11_toWeave_170 : decode cX11_toWeave 170 = .ok (.iconst 2, 1) := by decide +kernel
theorem dX11_toWeave_171 : decode cX11_toWeave 171 = .ok (.iaload, 1) := by decide +kernel
theorem dX11_toWeave_172 : decode cX11_toWeave 172 = .ok (.if_icmp .ge 52, 3) := by decide +kernel
theorem dX11_toWeave_175 : decode cX11_toWeave 175 = .ok (.aload_n 0, 1) := by decide +kernel
theorem dX11_toWeave_176 : decode cX11_toWeave 176 = .ok (.getfield 47, 3) := by decide +kernel
theorem dX11_toWeave_179 : decode cX11_toWeave 179 = .ok (.bipush 20, 2) := by decide +kernel
theorem dX11_toWeave_181 : decode cX11_toWeave 181 = .ok (.iload_n 1, 1) := by decide +kernel
theorem dX11_toWeave_182 : decode cX11_toWeave 182 = .ok (.imul, 1) := by decide +kernel
theorem dX11_toWeave_183 : decode cX11_toWeave 183 = .ok (.aload_n 0, 1) := by decide +kernel
theorem dX11_toWeave_184 : decode cX11_toWeave 184 = .ok (.getfield 19, 3) := by decide +kernel
theorem dX11_toWeave_187 : decode cX11_toWeave 187 = .ok (.iload_n 2, 1) := by decide +kernel
theorem dX11_toWeave_188 : decode cX11_toWeave 188 = .ok (.iaload, 1) := by decide +kernel
theorem dX11_toWeave_189 : decode cX11_toWeave 189 = .ok (.iadd, 1) := by decide +kernel
theorem dX11_toWeave_190 : decode cX11_toWeave 190 = .ok (.iload_n 1, 1) := by decide +kernel
theorem dX11_toWeave_191 : decode cX11_toWeave 191 = .ok (.iconst 1, 1) := by decide +kernel
theorem dX11_toWeave_192 : decode cX11_toWeave 192 = .ok (.iload_n 2, 1) := by decide +kernel
theorem dX11_toWeave_193 : decode cX11_toWeave 193 = .ok (.ishl, 1) := by decide +kernel
theorem dX11_toWeave_194 : decode cX11_toWeave 194 = .ok (.if_icmp .ne 7, 3) := by decide +kernel
theorem dX11_toWeave_197 : decode cX11_toWeave 197 = .ok (.iconst 0, 1) := by decide +kernel
theorem dX11_toWeave_198 : decode cX11_toWeave 198 = .ok (.goto 19, 3) := by decide +kernel
theorem dX11_toWeave_201 : decode cX11_toWeave 201 = .ok (.aload_n 0, 1) := by decide +kernel
theorem dX11_toWeave_202 : decode cX11_toWeave 202 = .ok (.getfield 47, 3) := by decide +kernel
theorem dX11_toWeave_205 : decode cX11_toWeave 205 = .ok (.bipush 20, 2) := by decide +kernel
theorem dX11_toWeave_207 : decode cX11_toWeave 207 = .ok (.iload_n 1, 1) := by decide +kernel
theorem dX11_toWeave_208 : decode cX11_toWeave 208 = .ok (.imul, 1) := by decide +kernel
theorem dX11_toWeave_209 : decode cX11_toWeave 209 = .ok (.aload_n 0, 1) := by decide +kernel
theorem dX11_toWeave_210 : decode cX11_toWeave 210 = .ok (.getfield 19, 3) := by decide +kernel
theorem dX11_toWeave_213 : decode cX11_toWeave 213 = .ok (.iload_n 2, 1) := by decide +kernel
theorem dX11_toWeave_214 : decode cX11_toWeave 214 = .ok (.iaload, 1) := by decide +kernel
theorem dX11_toWeave_215 : decode cX11_toWeave 215 = .ok (.iadd, 1) := by decide +kernel
theorem dX11_toWeave_216 : decode cX11_toWeave 216 = .ok (.iaload, 1) := by decide +kernel
theorem dX11_toWeave_217 : decode cX11_toWeave 217 = .ok (.iastore, 1) := by decide +kernel
theorem dX11_toWeave_218 : decode cX11_toWeave 218 = .ok (.iinc 2 1, 3) := by decide +kernel
theorem dX11_toWeave_221 : decode cX11_toWeave 221 = .ok (.goto (-56), 3) := by decide +kernel
theorem dX11_toWeave_224 : decode cX11_toWeave 224 = .ok (.aload_n 0, 1) := by decide +kernel
theorem dX11_toWeave_225 : decode cX11_toWeave 225 = .ok (.iload_n 1, 1) := by decide +kernel
theorem dX11_toWeave_226 : decode cX11_toWeave 226 = .ok (.invokevirtual 191, 3) := by decide +kernel
theorem dX11_toWeave_229 : decode cX11_toWeave 229 = .ok (.iinc 1 1, 3) := by decide +kernel
theorem dX11_toWeave_232 : decode cX11_toWeave 232 = .ok (.goto (-206), 3) := by decide +kernel
theorem dX11_toWeave_235 : decode cX11_toWeave 235 = .ok (.aload_n 0, 1) := by decide +kernel
theorem dX11_toWeave_236 : decode cX11_toWeave 236 = .ok (.getfield 47, 3) := by decide +kernel
theorem dX11_toWeave_239 : decode cX11_toWeave 239 = .ok (.bipush 20, 2) := by decide +kernel
theorem dX11_toWeave_241 : decode cX11_toWeave 241 = .ok (.iconst 1, 1) := by decide +kernel
theorem dX11_toWeave_242 : decode cX11_toWeave 242 = .ok (.aload_n 0, 1) := by decide +kernel
theorem dX11_toWeave_243 : decode cX11_toWeave 243 = .ok (.getfield 13, 3) := by decide +kernel
theorem dX11_toWeave_246 : decode cX11_toWeave 246 = .ok (.iconst 2, 1) := by decide +kernel
theorem dX11_toWeave_247 : decode cX11_toWeave 247 = .ok (.iaload, 1) := by decide +kernel
theorem dX11_toWeave_248 : decode cX11_toWeave 248 = .ok (.ishl, 1) := by decide +kernel
theorem dX11_toWeave_249 : decode cX11_toWeave 249 = .ok (.iconst 1, 1) := by decide +kernel
theorem dX11_toWeave_250 : decode cX11_toWeave 250 = .ok (.isub, 1) := by decide +kernel
theorem dX11_toWeave_251 : decode cX11_toWeave 251 = .ok (.imul, 1) := by decide +kernel
theorem dX11_toWeave_252 : decode cX11_toWeave 252 = .ok (.aload_n 0, 1) := by decide +kernel
theorem dX11_toWeave_253 : decode cX11_toWeave 253 = .ok (.getfield 19, 3) := by decide +kernel
theorem dX11_toWeave_256 : decode cX11_toWeave 256 = .ok (.iconst 0, 1) := by decide +kernel
theorem dX11_toWeave_257 : decode cX11_toWeave 257 = .ok (.iaload, 1) := by decide +kernel
theorem dX11_toWeave_258 : decode cX11_toWeave 258 = .ok (.iadd, 1) := by decide +kernel
theorem dX11_toWeave_259 : decode cX11_toWeave 259 = .ok (.iaload, 1) := by decide +kernel
theorem dX11_toWeave_260 : decode cX11_toWeave 260 = .ok (.istore_n 1, 1) := by decide +kernel
theorem dX11_toWeave_261 : decode cX11_toWeave 261 = .ok (.iload_n 1, 1) := by decide +kernel
theorem dX11_toWeave_262 : decode cX11_toWeave 262 = .ok (.ldc 156, 2) := by decide +kernel
theorem dX11_toWeave_264 : decode cX11_toWeave 264 = .ok (.if_icmp .lt 8, 3) := by decide +kernel
theorem dX11_toWeave_267 : decode cX11_toWeave 267 = .ok (.bipush (-9), 2) := by decide +kernel
theorem dX11_toWeave_269 : decode cX11_toWeave 269 = .ok (.goto 4, 3) := by decide +kernel
theorem dX11_toWeave_272 : decode cX11_toWeave 272 = .ok (.iload_n 1, 1) := by decide +kernel
theorem dX11_toWeave_273 : decode cX11_toWeave 273 = .ok (.ireturn, 1) := by decide +kernel
def fX11_toWeave_150 (K26 : Nat → Int32 → eW → Option (Int32 × eW)) (K40 : Nat → Int32 → Int32 → eW → Option (Int32 × eW)) (K61 : Nat → Int32 → Int32 → Int32 → eW → Option (Int32 × eW)) (x0 : Nat) (x1 : Int32) (x2 : Int32) (x3 : Int32) (t0 : Nat) (t1 : Int32) (t2 : Int32) (w : eW) : Option (Int32 × eW) := (eSt w false t0 t1 t2).bind fun w1 => K61 x0 x1 x2 (x3 + (1 : Int32)) w1
set_option maxRecDepth 20000 in
theorem sX11_toWeave_150 {K26 : Nat → Int32 → eW → Option (Int32 × eW)} {K40 : Nat → Int32 → Int32 → eW → Option (Int32 × eW)} {K61 : Nat → Int32 → Int32 → Int32 → eW → Option (Int32 × eW)} (hK26 : ∀ (x0 : Nat) (x1 : Int32) (w : eW) (r : Int32 × eW), K26 x0 x1 w = some r → eBN l D cI cZ 4 yX11_toWeave cX11_toWeave 5 (some .int) 26 [(0, .ref x0), (1, .int x1)] [] w (some (.int r.1)) r.2) (hK40 : ∀ (x0 : Nat) (x1 : Int32) (x2 : Int32) (w : eW) (r : Int32 × eW), K40 x0 x1 x2 w = some r → eBN l D cI cZ 4 yX11_toWeave cX11_toWeave 5 (some .int) 40 [(0, .ref x0), (1, .int x1), (2, .int x2)] [] w (some (.int r.1)) r.2) (hK61 : ∀ (x0 : Nat) (x1 : Int32) (x2 : Int32) (x3 : Int32) (w : eW) (r : Int32 × eW), K61 x0 x1 x2 x3 w = some r → eBN l D cI cZ 4 yX11_toWeave cX11_toWeave 5 (some .int) 61 [(0, .ref x0), (1, .int x1), (2, .int x2), (3, .int x3)] [] w (some (.int r.1)) r.2) (x0 : Nat) (x1 : Int32) (x2 : Int32) (x3 : Int32) (t0 : Nat) (t1 : Int32) (t2 : Int32) (w : eW) (r : Int32 × eW) (h : fX11_toWeave_150 K26 K40 K61 x0 x1 x2 x3 t0 t1 t2 w = some r) : eBN l D cI cZ 4 yX11_toWeave cX11_toWeave 5 (some .int) 150 [(0, .ref x0), (1, .int x1), (2, .int x2), (3, .int x3)] [.int t2, .int t1, .ref t0] w (some (.int r.1)) r.2 := by
  rw [fX11_toWeave_150] at h
  intro p e s m args below meth c r0 A X
  obtain ⟨w1, hw1, h⟩ := eBi h
  refine ev_iast (pc := 150) X dX11_toWeave_150 hw1 ?_
  refine ev_iinc (pc := 151) (v := x3 + (1 : Int32)) (L' := [(3, .int (x3 + (1 : Int32))), (0, .ref x0), (1, .int x1), (2, .int x2)]) X 3 dX11_toWeave_151 rfl rfl (by decide) rfl ?_
  refine ev_goto (pc := 154) X 61 dX11_toWeave_154 rfl ?_
  exact ev_weak (pc := 61) [1, 2, 3, 0] rfl (hK61 _ _ _ _ _ _ h p e s m args below meth c r0 A X)
def fX11_toWeave_106 (K26 : Nat → Int32 → eW → Option (Int32 × eW)) (K40 : Nat → Int32 → Int32 → eW → Option (Int32 × eW)) (K61 : Nat → Int32 → Int32 → Int32 → eW → Option (Int32 × eW)) (x0 : Nat) (x1 : Int32) (x2 : Int32) (x3 : Int32) (t0 : Int32) (w : eW) : Option (Int32 × eW) := (eGR w x0 11 22).bind fun v1 => (eGR w x0 11 22).bind fun v2 => (eLd w false v2 (((20 : Int32) * x1) + x2)).bind fun v3 => if v3 ≤ t0 then ((eGR w x0 11 22).bind fun v4 => (eLd w false v4 (((20 : Int32) * x1) + x2)).bind fun v5 => fX11_toWeave_150 K26 K40 K61 x0 x1 x2 x3 v1 (((20 : Int32) * x1) + x2) v5 w) else (fX11_toWeave_150 K26 K40 K61 x0 x1 x2 x3 v1 (((20 : Int32) * x1) + x2) t0 w)
set_option maxRecDepth 20000 in
theorem sX11_toWeave_106 {K26 : Nat → Int32 → eW → Option (Int32 × eW)} {K40 : Nat → Int32 → Int32 → eW → Option (Int32 × eW)} {K61 : Nat → Int32 → Int32 → Int32 → eW → Option (Int32 × eW)} (hK26 : ∀ (x0 : Nat) (x1 : Int32) (w : eW) (r : Int32 × eW), K26 x0 x1 w = some r → eBN l D cI cZ 4 yX11_toWeave cX11_toWeave 5 (some .int) 26 [(0, .ref x0), (1, .int x1)] [] w (some (.int r.1)) r.2) (hK40 : ∀ (x0 : Nat) (x1 : Int32) (x2 : Int32) (w : eW) (r : Int32 × eW), K40 x0 x1 x2 w = some r → eBN l D cI cZ 4 yX11_toWeave cX11_toWeave 5 (some .int) 40 [(0, .ref x0), (1, .int x1), (2, .int x2)] [] w (some (.int r.1)) r.2) (hK61 : ∀ (x0 : Nat) (x1 : Int32) (x2 : Int32) (x3 : Int32) (w : eW) (r : Int32 × eW), K61 x0 x1 x2 x3 w = some r → eBN l D cI cZ 4 yX11_toWeave cX11_toWeave 5 (some .int) 61 [(0, .ref x0), (1, .int x1), (2, .int x2), (3, .int x3)] [] w (some (.int r.1)) r.2) (x0 : Nat) (x1 : Int32) (x2 : Int32) (x3 : Int32) (t0 : Int32) (w : eW) (r : Int32 × eW) (h : fX11_toWeave_106 K26 K40 K61 x0 x1 x2 x3 t0 w = some r) : eBN l D cI cZ 4 yX11_toWeave cX11_toWeave 5 (some .int) 106 [(0, .ref x0), (1, .int x1), (2, .int x2), (3, .int x3)] [.int t0] w (some (.int r.1)) r.2 := by
  rw [fX11_toWeave_106] at h
  intro p e s m args below meth c r0 A X
  refine ev_istore (pc := 106) (L' := [(4, .int t0), (0, .ref x0), (1, .int x1), (2, .int x2), (3, .int x3)]) X dX11_toWeave_106 (by decide) rfl ?_
  refine ev_aload_n (pc := 108) X 1 dX11_toWeave_108 rfl rfl ?_
  obtain ⟨v1, hv1, h⟩ := eBi h
  refine ev_getR (pc := 109) X hcX11 (k := 22) (by decide) kfX11_47 dX11_toWeave_109 hv1 ?_
  refine ev_bipush (pc := 112) (v := (20 : Int32)) X dX11_toWeave_112 rfl ?_
  refine ev_iload_n (pc := 114) X 2 dX11_toWeave_114 rfl rfl ?_
  refine ev_imul (pc := 115) X dX11_toWeave_115 ?_
  refine ev_iload_n (pc := 116) X 3 dX11_toWeave_116 rfl rfl ?_
  refine ev_iadd (pc := 117) X dX11_toWeave_117 ?_
  refine ev_iload (pc := 118) X 0 dX11_toWeave_118 rfl ?_
  refine ev_aload_n (pc := 120) X 1 dX11_toWeave_120 rfl rfl ?_
  obtain ⟨v2, hv2, h⟩ := eBi h
  refine ev_getR (pc := 121) X hcX11 (k := 22) (by decide) kfX11_47 dX11_toWeave_121 hv2 ?_
  refine ev_bipush (pc := 124) (v := (20 : Int32)) X dX11_toWeave_124 rfl ?_
  refine ev_iload_n (pc := 126) X 2 dX11_toWeave_126 rfl rfl ?_
  refine ev_imul (pc := 127) X dX11_toWeave_127 ?_
  refine ev_iload_n (pc := 128) X 3 dX11_toWeave_128 rfl rfl ?_
  refine ev_iadd (pc := 129) X dX11_toWeave_129 ?_
  obtain ⟨v3, hv3, h⟩ := eBi h
  refine ev_iald (pc := 130) X dX11_toWeave_130 hv3 ?_
  refine ev_icmp_ge (pc := 131) X 139 dX11_toWeave_131 rfl (fun hc => ?_) (fun hc => ?_)
  · rw [if_pos hc] at h
    refine ev_aload_n (pc := 139) X 1 dX11_toWeave_139 rfl rfl ?_
    obtain ⟨v4, hv4, h⟩ := eBi h
    refine ev_getR (pc := 140) X hcX11 (k := 22) (by decide) kfX11_47 dX11_toWeave_140 hv4 ?_
    refine ev_bipush (pc := 143) (v := (20 : Int32)) X dX11_toWeave_143 rfl ?_
    refine ev_iload_n (pc := 145) X 2 dX11_toWeave_145 rfl rfl ?_
    refine ev_imul (pc := 146) X dX11_toWeave_146 ?_
    refine ev_iload_n (pc := 147) X 3 dX11_toWeave_147 rfl rfl ?_
    refine ev_iadd (pc := 148) X dX11_toWeave_148 ?_
    obtain ⟨v5, hv5, h⟩ := eBi h
    refine ev_iald (pc := 149) X dX11_toWeave_149 hv5 ?_
    exact ev_weak (pc := 150) [1, 2, 3, 4] rfl (sX11_toWeave_150 hK26 hK40 hK61 _ _ _ _ _ _ _ _ _ h p e s m args below meth c r0 A X)
  · rw [if_neg hc] at h
    refine ev_iload (pc := 134) X 0 dX11_toWeave_134 rfl ?_
    refine ev_goto (pc := 136) X 150 dX11_toWeave_136 rfl ?_
    exact ev_weak (pc := 150) [1, 2, 3, 4] rfl (sX11_toWeave_150 hK26 hK40 hK61 _ _ _ _ _ _ _ _ _ h p e s m args below meth c r0 A X)
def fX11_toWeave_61 (K26 : Nat → Int32 → eW → Option (Int32 × eW)) (K40 : Nat → Int32 → Int32 → eW → Option (Int32 × eW)) : Nat → Nat → Int32 → Int32 → Int32 → eW → Option (Int32 × eW)
  | 0, _, _, _, _, _ => none
  | n + 1, x0, x1, x2, x3, w => if x1 ≤ x3 then (K40 x0 x1 (x2 + (1 : Int32)) w) else (if (x3 &&& (x1 ^^^ (-1 : Int32))) = 0 then ((eGR w x0 11 22).bind fun v1 => (eLd w false v1 (((20 : Int32) * x3) + x2)).bind fun v2 => (eGR w x0 11 22).bind fun v3 => (eLd w false v3 (((20 : Int32) * (x1 &&& (x3 ^^^ (-1 : Int32)))) + x2)).bind fun v4 => fX11_toWeave_106 K26 K40 (fX11_toWeave_61 K26 K40 n) x0 x1 x2 x3 (v2 + v4) w) else (fX11_toWeave_106 K26 K40 (fX11_toWeave_61 K26 K40 n) x0 x1 x2 x3 (1000000 : Int32) w))
set_option maxRecDepth 20000 in
theorem sX11_toWeave_61 {K26 : Nat → Int32 → eW → Option (Int32 × eW)} {K40 : Nat → Int32 → Int32 → eW → Option (Int32 × eW)} (hK26 : ∀ (x0 : Nat) (x1 : Int32) (w : eW) (r : Int32 × eW), K26 x0 x1 w = some r → eBN l D cI cZ 4 yX11_toWeave cX11_toWeave 5 (some .int) 26 [(0, .ref x0), (1, .int x1)] [] w (some (.int r.1)) r.2) (hK40 : ∀ (x0 : Nat) (x1 : Int32) (x2 : Int32) (w : eW) (r : Int32 × eW), K40 x0 x1 x2 w = some r → eBN l D cI cZ 4 yX11_toWeave cX11_toWeave 5 (some .int) 40 [(0, .ref x0), (1, .int x1), (2, .int x2)] [] w (some (.int r.1)) r.2) : ∀ (n : Nat) (x0 : Nat) (x1 : Int32) (x2 : Int32) (x3 : Int32) (w : eW) (r : Int32 × eW), fX11_toWeave_61 K26 K40 n x0 x1 x2 x3 w = some r → eBN l D cI cZ 4 yX11_toWeave cX11_toWeave 5 (some .int) 61 [(0, .ref x0), (1, .int x1), (2, .int x2), (3, .int x3)] [] w (some (.int r.1)) r.2 := by
  intro n
  induction n with
  | zero => intro x0 x1 x2 x3 w r h; exact absurd (show (none : Option (Int32 × eW)) = some r from h) (by simp)
  | succ n ih =>
    intro x0 x1 x2 x3 w r h
    rw [fX11_toWeave_61] at h
    intro p e s m args below meth c r0 A X
    refine ev_iload_n (pc := 61) X 3 dX11_toWeave_61 rfl rfl ?_
    refine ev_iload_n (pc := 62) X 1 dX11_toWeave_62 rfl rfl ?_
    refine ev_icmp_ge (pc := 63) X 157 dX11_toWeave_63 rfl (fun hc => ?_) (fun hc => ?_)
    · rw [if_pos hc] at h
      refine ev_iinc (pc := 157) (v := x2 + (1 : Int32)) (L' := [(2, .int (x2 + (1 : Int32))), (0, .ref x0), (1, .int x1), (3, .int x3)]) X 2 dX11_toWeave_157 rfl rfl (by decide) rfl ?_
      refine ev_goto (pc := 160) X 40 dX11_toWeave_160 rfl ?_
      exact ev_weak (pc := 40) [1, 2, 0] rfl (hK40 _ _ _ _ _ h p e s m args below meth c r0 A X)
    · rw [if_neg hc] at h
      refine ev_iload_n (pc := 66) X 3 dX11_toWeave_66 rfl rfl ?_
      refine ev_iload_n (pc := 67) X 1 dX11_toWeave_67 rfl rfl ?_
      refine ev_iconst (pc := 68) (v := (-1 : Int32)) X dX11_toWeave_68 rfl ?_
      refine ev_ixor (pc := 69) X dX11_toWeave_69 ?_
      refine ev_iand (pc := 70) X dX11_toWeave_70 ?_
      refine ev_if_ne (pc := 71) X 104 dX11_toWeave_71 rfl (fun hc => ?_) (fun hc => ?_)
      · rw [if_neg hc] at h
        refine ev_ldc (pc := 104) X kkX11_156 dX11_toWeave_104 ?_
        exact ev_weak (pc := 106) [0, 1, 2, 3] rfl (sX11_toWeave_106 hK26 hK40 (fun _ _ _ _ w r hh => ih _ _ _ _ w r hh) _ _ _ _ _ _ _ h p e s m args below meth c r0 A X)
      · rw [if_pos hc] at h
        refine ev_aload_n (pc := 74) X 0 dX11_toWeave_74 rfl rfl ?_
        obtain ⟨v1, hv1, h⟩ := eBi h
        refine ev_getR (pc := 75) X hcX11 (k := 22) (by decide) kfX11_47 dX11_toWeave_75 hv1 ?_
        refine ev_bipush (pc := 78) (v := (20 : Int32)) X dX11_toWeave_78 rfl ?_
        refine ev_iload_n (pc := 80) X 3 dX11_toWeave_80 rfl rfl ?_
        refine ev_imul (pc := 81) X dX11_toWeave_81 ?_
        refine ev_iload_n (pc := 82) X 2 dX11_toWeave_82 rfl rfl ?_
        refine ev_iadd (pc := 83) X dX11_toWeave_83 ?_
        obtain ⟨v2, hv2, h⟩ := eBi h
        refine ev_iald (pc := 84) X dX11_toWeave_84 hv2 ?_
        refine ev_aload_n (pc := 85) X 0 dX11_toWeave_85 rfl rfl ?_
        obtain ⟨v3, hv3, h⟩ := eBi h
        refine ev_getR (pc := 86) X hcX11 (k := 22) (by decide) kfX11_47 dX11_toWeave_86 hv3 ?_
        refine ev_bipush (pc := 89) (v := (20 : Int32)) X dX11_toWeave_89 rfl ?_
        refine ev_iload_n (pc := 91) X 1 dX11_toWeave_91 rfl rfl ?_
        refine ev_iload_n (pc := 92) X 3 dX11_toWeave_92 rfl rfl ?_
        refine ev_iconst (pc := 93) (v := (-1 : Int32)) X dX11_toWeave_93 rfl ?_
        refine ev_ixor (pc := 94) X dX11_toWeave_94 ?_
        refine ev_iand (pc := 95) X dX11_toWeave_95 ?_
        refine ev_imul (pc := 96) X dX11_toWeave_96 ?_
        refine ev_iload_n (pc := 97) X 2 dX11_toWeave_97 rfl rfl ?_
        refine ev_iadd (pc := 98) X dX11_toWeave_98 ?_
        obtain ⟨v4, hv4, h⟩ := eBi h
        refine ev_iald (pc := 99) X dX11_toWeave_99 hv4 ?_
        refine ev_iadd (pc := 100) X dX11_toWeave_100 ?_
        refine ev_goto (pc := 101) X 106 dX11_toWeave_101 rfl ?_
        exact ev_weak (pc := 106) [0, 1, 2, 3] rfl (sX11_toWeave_106 hK26 hK40 (fun _ _ _ _ w r hh => ih _ _ _ _ w r hh) _ _ _ _ _ _ _ h p e s m args below meth c r0 A X)
def fX11_toWeave_217 (K26 : Nat → Int32 → eW → Option (Int32 × eW)) (K165 : Nat → Int32 → Int32 → eW → Option (Int32 × eW)) (x0 : Nat) (x1 : Int32) (x2 : Int32) (t0 : Nat) (t1 : Int32) (t2 : Int32) (w : eW) : Option (Int32 × eW) := (eSt w false t0 t1 t2).bind fun w1 => K165 x0 x1 (x2 + (1 : Int32)) w1
set_option maxRecDepth 20000 in
theorem sX11_toWeave_217 {K26 : Nat → Int32 → eW → Option (Int32 × eW)} {K165 : Nat → Int32 → Int32 → eW → Option (Int32 × eW)} (hK26 : ∀ (x0 : Nat) (x1 : Int32) (w : eW) (r : Int32 × eW), K26 x0 x1 w = some r → eBN l D cI cZ 4 yX11_toWeave cX11_toWeave 5 (some .int) 26 [(0, .ref x0), (1, .int x1)] [] w (some (.int r.1)) r.2) (hK165 : ∀ (x0 : Nat) (x1 : Int32) (x2 : Int32) (w : eW) (r : Int32 × eW), K165 x0 x1 x2 w = some r → eBN l D cI cZ 4 yX11_toWeave cX11_toWeave 5 (some .int) 165 [(0, .ref x0), (1, .int x1), (2, .int x2)] [] w (some (.int r.1)) r.2) (x0 : Nat) (x1 : Int32) (x2 : Int32) (t0 : Nat) (t1 : Int32) (t2 : Int32) (w : eW) (r : Int32 × eW) (h : fX11_toWeave_217 K26 K165 x0 x1 x2 t0 t1 t2 w = some r) : eBN l D cI cZ 4 yX11_toWeave cX11_toWeave 5 (some .int) 217 [(0, .ref x0), (1, .int x1), (2, .int x2)] [.int t2, .int t1, .ref t0] w (some (.int r.1)) r.2 := by
  rw [fX11_toWeave_217] at h
  intro p e s m args below meth c r0 A X
  obtain ⟨w1, hw1, h⟩ := eBi h
  refine ev_iast (pc := 217) X dX11_toWeave_217 hw1 ?_
  refine ev_iinc (pc := 218) (v := x2 + (1 : Int32)) (L' := [(2, .int (x2 + (1 : Int32))), (0, .ref x0), (1, .int x1)]) X 2 dX11_toWeave_218 rfl rfl (by decide) rfl ?_
  refine ev_goto (pc := 221) X 165 dX11_toWeave_221 rfl ?_
  exact ev_weak (pc := 165) [1, 2, 0] rfl (hK165 _ _ _ _ _ h p e s m args below meth c r0 A X)
def fX11_toWeave_165 (K26 : Nat → Int32 → eW → Option (Int32 × eW)) : Nat → Nat → Int32 → Int32 → eW → Option (Int32 × eW)
  | 0, _, _, _, _ => none
  | n + 1, x0, x1, x2, w => (eGR w x0 11 9).bind fun v1 => (eLd w false v1 (2 : Int32)).bind fun v2 => if v2 ≤ x2 then ((fX11_grows x0 x1 w).bind fun w3 => K26 x0 (x1 + (1 : Int32)) w3) else ((eGR w x0 11 22).bind fun v4 => (eGR w x0 11 11).bind fun v5 => (eLd w false v5 x2).bind fun v6 => if x1 = ((1 : Int32) <<< (x2 &&& 31)) then (fX11_toWeave_217 K26 (fX11_toWeave_165 K26 n) x0 x1 x2 v4 (((20 : Int32) * x1) + v6) (0 : Int32) w) else ((eGR w x0 11 22).bind fun v7 => (eGR w x0 11 11).bind fun v8 => (eLd w false v8 x2).bind fun v9 => (eLd w false v7 (((20 : Int32) * x1) + v9)).bind fun v10 => fX11_toWeave_217 K26 (fX11_toWeave_165 K26 n) x0 x1 x2 v4 (((20 : Int32) * x1) + v6) v10 w))
set_option maxRecDepth 20000 in
theorem sX11_toWeave_165 {K26 : Nat → Int32 → eW → Option (Int32 × eW)} (hK26 : ∀ (x0 : Nat) (x1 : Int32) (w : eW) (r : Int32 × eW), K26 x0 x1 w = some r → eBN l D cI cZ 4 yX11_toWeave cX11_toWeave 5 (some .int) 26 [(0, .ref x0), (1, .int x1)] [] w (some (.int r.1)) r.2) : ∀ (n : Nat) (x0 : Nat) (x1 : Int32) (x2 : Int32) (w : eW) (r : Int32 × eW), fX11_toWeave_165 K26 n x0 x1 x2 w = some r → eBN l D cI cZ 4 yX11_toWeave cX11_toWeave 5 (some .int) 165 [(0, .ref x0), (1, .int x1), (2, .int x2)] [] w (some (.int r.1)) r.2 := by
  intro n
  induction n with
  | zero => intro x0 x1 x2 w r h; exact absurd (show (none : Option (Int32 × eW)) = some r from h) (by simp)
  | succ n ih =>
    intro x0 x1 x2 w r h
    rw [fX11_toWeave_165] at h
    intro p e s m args below meth c r0 A X
    refine ev_iload_n (pc := 165) X 2 dX11_toWeave_165 rfl rfl ?_
    refine ev_aload_n (pc := 166) X 0 dX11_toWeave_166 rfl rfl ?_
    obtain ⟨v1, hv1, h⟩ := eBi h
    refine ev_getR (pc := 167) X hcX11 (k := 9) (by decide) kfX11_13 dX11_toWeave_167 hv1 ?_
    refine ev_iconst (pc := 170) (v := (2 : Int32)) X dX11_toWeave_170 rfl ?_
    obtain ⟨v2, hv2, h⟩ := eBi h
    refine ev_iald (pc := 171) X dX11_toWeave_171 hv2 ?_
    refine ev_icmp_ge (pc := 172) X 224 dX11_toWeave_172 rfl (fun hc => ?_) (fun hc => ?_)
    · rw [if_pos hc] at h
      refine ev_aload_n (pc := 224) X 0 dX11_toWeave_224 rfl rfl ?_
      refine ev_iload_n (pc := 225) X 1 dX11_toWeave_225 rfl rfl ?_
      obtain ⟨w3, hc, h⟩ := eBi h
      refine ev_callV_v (pc := 226) (As := [.int x1]) (S := []) X hwX11_grows klX11_191 hiX11_grows hsX11_grows (ci := 11) ⟨rfl, rfl⟩ ⟨Nat.le_of_ble_eq_true rfl, Nat.le_of_ble_eq_true rfl⟩ ⟨Nat.le_refl _, Nat.le_refl _⟩ rfl (Nat.le_of_ble_eq_true rfl) dX11_toWeave_226 rfl (mX11_grows (l := l) (D := D) (cI := cI) (cZ := cZ) hc).1 (mX11_grows hc).2 ?_
      refine ev_iinc (pc := 229) (v := x1 + (1 : Int32)) (L' := [(1, .int (x1 + (1 : Int32))), (0, .ref x0), (2, .int x2)]) X 1 dX11_toWeave_229 rfl rfl (by decide) rfl ?_
      refine ev_goto (pc := 232) X 26 dX11_toWeave_232 rfl ?_
      exact ev_weak (pc := 26) [1, 0] rfl (hK26 _ _ _ _ h p e s m args below meth c r0 A X)
    · rw [if_neg hc] at h
      refine ev_aload_n (pc := 175) X 0 dX11_toWeave_175 rfl rfl ?_
      obtain ⟨v4, hv4, h⟩ := eBi h
      refine ev_getR (pc := 176) X hcX11 (k := 22) (by decide) kfX11_47 dX11_toWeave_176 hv4 ?_
      refine ev_bipush (pc := 179) (v := (20 : Int32)) X dX11_toWeave_179 rfl ?_
      refine ev_iload_n (pc := 181) X 1 dX11_toWeave_181 rfl rfl ?_
      refine ev_imul (pc := 182) X dX11_toWeave_182 ?_
      refine ev_aload_n (pc := 183) X 0 dX11_toWeave_183 rfl rfl ?_
      obtain ⟨v5, hv5, h⟩ := eBi h
      refine ev_getR (pc := 184) X hcX11 (k := 11) (by decide) kfX11_19 dX11_toWeave_184 hv5 ?_
      refine ev_iload_n (pc := 187) X 2 dX11_toWeave_187 rfl rfl ?_
      obtain ⟨v6, hv6, h⟩ := eBi h
      refine ev_iald (pc := 188) X dX11_toWeave_188 hv6 ?_
      refine ev_iadd (pc := 189) X dX11_toWeave_189 ?_
      refine ev_iload_n (pc := 190) X 1 dX11_toWeave_190 rfl rfl ?_
      refine ev_iconst (pc := 191) (v := (1 : Int32)) X dX11_toWeave_191 rfl ?_
      refine ev_iload_n (pc := 192) X 2 dX11_toWeave_192 rfl rfl ?_
      refine ev_ishl (pc := 193) X dX11_toWeave_193 ?_
      refine ev_icmp_ne (pc := 194) X 201 dX11_toWeave_194 rfl (fun hc => ?_) (fun hc => ?_)
      · rw [if_neg hc] at h
        refine ev_aload_n (pc := 201) X 0 dX11_toWeave_201 rfl rfl ?_
        obtain ⟨v7, hv7, h⟩ := eBi h
        refine ev_getR (pc := 202) X hcX11 (k := 22) (by decide) kfX11_47 dX11_toWeave_202 hv7 ?_
        refine ev_bipush (pc := 205) (v := (20 : Int32)) X dX11_toWeave_205 rfl ?_
        refine ev_iload_n (pc := 207) X 1 dX11_toWeave_207 rfl rfl ?_
        refine ev_imul (pc := 208) X dX11_toWeave_208 ?_
        refine ev_aload_n (pc := 209) X 0 dX11_toWeave_209 rfl rfl ?_
        obtain ⟨v8, hv8, h⟩ := eBi h
        refine ev_getR (pc := 210) X hcX11 (k := 11) (by decide) kfX11_19 dX11_toWeave_210 hv8 ?_
        refine ev_iload_n (pc := 213) X 2 dX11_toWeave_213 rfl rfl ?_
        obtain ⟨v9, hv9, h⟩ := eBi h
        refine ev_iald (pc := 214) X dX11_toWeave_214 hv9 ?_
        refine ev_iadd (pc := 215) X dX11_toWeave_215 ?_
        obtain ⟨v10, hv10, h⟩ := eBi h
        refine ev_iald (pc := 216) X dX11_toWeave_216 hv10 ?_
        exact ev_weak (pc := 217) [0, 1, 2] rfl (sX11_toWeave_217 hK26 (fun _ _ _ w r hh => ih _ _ _ w r hh) _ _ _ _ _ _ _ _ h p e s m args below meth c r0 A X)
      · rw [if_pos hc] at h
        refine ev_iconst (pc := 197) (v := (0 : Int32)) X dX11_toWeave_197 rfl ?_
        refine ev_goto (pc := 198) X 217 dX11_toWeave_198 rfl ?_
        exact ev_weak (pc := 217) [0, 1, 2] rfl (sX11_toWeave_217 hK26 (fun _ _ _ w r hh => ih _ _ _ w r hh) _ _ _ _ _ _ _ _ h p e s m args below meth c r0 A X)
def fX11_toWeave_40 (K26 : Nat → Int32 → eW → Option (Int32 × eW)) : Nat → Nat → Int32 → Int32 → eW → Option (Int32 × eW)
  | 0, _, _, _, _ => none
  | n + 1, x0, x1, x2, w => if (20 : Int32) ≤ x2 then (fX11_toWeave_165 K26 eN x0 x1 (0 : Int32) w) else ((eGR w x0 11 22).bind fun v1 => (eSt w false v1 (((20 : Int32) * x1) + x2) (1000000 : Int32)).bind fun w2 => fX11_toWeave_61 K26 (fX11_toWeave_40 K26 n) eN x0 x1 x2 (1 : Int32) w2)
set_option maxRecDepth 20000 in
theorem sX11_toWeave_40 {K26 : Nat → Int32 → eW → Option (Int32 × eW)} (hK26 : ∀ (x0 : Nat) (x1 : Int32) (w : eW) (r : Int32 × eW), K26 x0 x1 w = some r → eBN l D cI cZ 4 yX11_toWeave cX11_toWeave 5 (some .int) 26 [(0, .ref x0), (1, .int x1)] [] w (some (.int r.1)) r.2) : ∀ (n : Nat) (x0 : Nat) (x1 : Int32) (x2 : Int32) (w : eW) (r : Int32 × eW), fX11_toWeave_40 K26 n x0 x1 x2 w = some r → eBN l D cI cZ 4 yX11_toWeave cX11_toWeave 5 (some .int) 40 [(0, .ref x0), (1, .int x1), (2, .int x2)] [] w (some (.int r.1)) r.2 := by
  intro n
  induction n with
  | zero => intro x0 x1 x2 w r h; exact absurd (show (none : Option (Int32 × eW)) = some r from h) (by simp)
  | succ n ih =>
    intro x0 x1 x2 w r h
    rw [fX11_toWeave_40] at h
    intro p e s m args below meth c r0 A X
    refine ev_iload_n (pc := 40) X 2 dX11_toWeave_40 rfl rfl ?_
    refine ev_bipush (pc := 41) (v := (20 : Int32)) X dX11_toWeave_41 rfl ?_
    refine ev_icmp_ge (pc := 43) X 163 dX11_toWeave_43 rfl (fun hc => ?_) (fun hc => ?_)
    · rw [if_pos hc] at h
      refine ev_iconst (pc := 163) (v := (0 : Int32)) X dX11_toWeave_163 rfl ?_
      refine ev_istore_n (pc := 164) (L' := [(2, .int (0 : Int32)), (0, .ref x0), (1, .int x1)]) X dX11_toWeave_164 rfl (by decide) rfl ?_
      exact ev_weak (pc := 165) [1, 2, 0] rfl (sX11_toWeave_165 hK26 eN _ _ _ _ _ h p e s m args below meth c r0 A X)
    · rw [if_neg hc] at h
      refine ev_aload_n (pc := 46) X 0 dX11_toWeave_46 rfl rfl ?_
      obtain ⟨v1, hv1, h⟩ := eBi h
      refine ev_getR (pc := 47) X hcX11 (k := 22) (by decide) kfX11_47 dX11_toWeave_47 hv1 ?_
      refine ev_bipush (pc := 50) (v := (20 : Int32)) X dX11_toWeave_50 rfl ?_
      refine ev_iload_n (pc := 52) X 1 dX11_toWeave_52 rfl rfl ?_
      refine ev_imul (pc := 53) X dX11_toWeave_53 ?_
      refine ev_iload_n (pc := 54) X 2 dX11_toWeave_54 rfl rfl ?_
      refine ev_iadd (pc := 55) X dX11_toWeave_55 ?_
      refine ev_ldc (pc := 56) X kkX11_156 dX11_toWeave_56 ?_
      obtain ⟨w2, hw2, h⟩ := eBi h
      refine ev_iast (pc := 58) X dX11_toWeave_58 hw2 ?_
      refine ev_iconst (pc := 59) (v := (1 : Int32)) X dX11_toWeave_59 rfl ?_
      refine ev_istore_n (pc := 60) (L' := [(3, .int (1 : Int32)), (0, .ref x0), (1, .int x1), (2, .int x2)]) X dX11_toWeave_60 rfl (by decide) rfl ?_
      exact ev_weak (pc := 61) [1, 2, 3, 0] rfl (sX11_toWeave_61 hK26 (fun _ _ _ w r hh => ih _ _ _ w r hh) eN _ _ _ _ _ _ h p e s m args below meth c r0 A X)
def fX11_toWeave_26 : Nat → Nat → Int32 → eW → Option (Int32 × eW)
  | 0, _, _, _ => none
  | n + 1, x0, x1, w => (eGR w x0 11 9).bind fun v1 => (eLd w false v1 (2 : Int32)).bind fun v2 => if ((1 : Int32) <<< (v2 &&& 31)) ≤ x1 then ((eGR w x0 11 22).bind fun v3 => (eGR w x0 11 9).bind fun v4 => (eLd w false v4 (2 : Int32)).bind fun v5 => (eGR w x0 11 11).bind fun v6 => (eLd w false v6 (0 : Int32)).bind fun v7 => (eLd w false v3 (((20 : Int32) * (((1 : Int32) <<< (v5 &&& 31)) - (1 : Int32))) + v7)).bind fun v8 => if v8 < (1000000 : Int32) then (some (v8, w)) else (some ((-9 : Int32), w))) else (fX11_toWeave_40 (fX11_toWeave_26 n) eN x0 x1 (0 : Int32) w)
set_option maxRecDepth 20000 in
theorem sX11_toWeave_26  : ∀ (n : Nat) (x0 : Nat) (x1 : Int32) (w : eW) (r : Int32 × eW), fX11_toWeave_26 n x0 x1 w = some r → eBN l D cI cZ 4 yX11_toWeave cX11_toWeave 5 (some .int) 26 [(0, .ref x0), (1, .int x1)] [] w (some (.int r.1)) r.2 := by
  intro n
  induction n with
  | zero => intro x0 x1 w r h; exact absurd (show (none : Option (Int32 × eW)) = some r from h) (by simp)
  | succ n ih =>
    intro x0 x1 w r h
    rw [fX11_toWeave_26] at h
    intro p e s m args below meth c r0 A X
    refine ev_iload_n (pc := 26) X 1 dX11_toWeave_26 rfl rfl ?_
    refine ev_iconst (pc := 27) (v := (1 : Int32)) X dX11_toWeave_27 rfl ?_
    refine ev_aload_n (pc := 28) X 0 dX11_toWeave_28 rfl rfl ?_
    obtain ⟨v1, hv1, h⟩ := eBi h
    refine ev_getR (pc := 29) X hcX11 (k := 9) (by decide) kfX11_13 dX11_toWeave_29 hv1 ?_
    refine ev_iconst (pc := 32) (v := (2 : Int32)) X dX11_toWeave_32 rfl ?_
    obtain ⟨v2, hv2, h⟩ := eBi h
    refine ev_iald (pc := 33) X dX11_toWeave_33 hv2 ?_
    refine ev_ishl (pc := 34) X dX11_toWeave_34 ?_
    refine ev_icmp_ge (pc := 35) X 235 dX11_toWeave_35 rfl (fun hc => ?_) (fun hc => ?_)
    · rw [if_pos hc] at h
      refine ev_aload_n (pc := 235) X 0 dX11_toWeave_235 rfl rfl ?_
      obtain ⟨v3, hv3, h⟩ := eBi h
      refine ev_getR (pc := 236) X hcX11 (k := 22) (by decide) kfX11_47 dX11_toWeave_236 hv3 ?_
      refine ev_bipush (pc := 239) (v := (20 : Int32)) X dX11_toWeave_239 rfl ?_
      refine ev_iconst (pc := 241) (v := (1 : Int32)) X dX11_toWeave_241 rfl ?_
      refine ev_aload_n (pc := 242) X 0 dX11_toWeave_242 rfl rfl ?_
      obtain ⟨v4, hv4, h⟩ := eBi h
      refine ev_getR (pc := 243) X hcX11 (k := 9) (by decide) kfX11_13 dX11_toWeave_243 hv4 ?_
      refine ev_iconst (pc := 246) (v := (2 : Int32)) X dX11_toWeave_246 rfl ?_
      obtain ⟨v5, hv5, h⟩ := eBi h
      refine ev_iald (pc := 247) X dX11_toWeave_247 hv5 ?_
      refine ev_ishl (pc := 248) X dX11_toWeave_248 ?_
      refine ev_iconst (pc := 249) (v := (1 : Int32)) X dX11_toWeave_249 rfl ?_
      refine ev_isub (pc := 250) X dX11_toWeave_250 ?_
      refine ev_imul (pc := 251) X dX11_toWeave_251 ?_
      refine ev_aload_n (pc := 252) X 0 dX11_toWeave_252 rfl rfl ?_
      obtain ⟨v6, hv6, h⟩ := eBi h
      refine ev_getR (pc := 253) X hcX11 (k := 11) (by decide) kfX11_19 dX11_toWeave_253 hv6 ?_
      refine ev_iconst (pc := 256) (v := (0 : Int32)) X dX11_toWeave_256 rfl ?_
      obtain ⟨v7, hv7, h⟩ := eBi h
      refine ev_iald (pc := 257) X dX11_toWeave_257 hv7 ?_
      refine ev_iadd (pc := 258) X dX11_toWeave_258 ?_
      obtain ⟨v8, hv8, h⟩ := eBi h
      refine ev_iald (pc := 259) X dX11_toWeave_259 hv8 ?_
      refine ev_istore_n (pc := 260) (L' := [(1, .int v8), (0, .ref x0)]) X dX11_toWeave_260 rfl (by decide) rfl ?_
      refine ev_iload_n (pc := 261) X 0 dX11_toWeave_261 rfl rfl ?_
      refine ev_ldc (pc := 262) X kkX11_156 dX11_toWeave_262 ?_
      refine ev_icmp_lt (pc := 264) X 272 dX11_toWeave_264 rfl (fun hc => ?_) (fun hc => ?_)
      · rw [if_pos hc] at h
        refine ev_iload_n (pc := 272) X 0 dX11_toWeave_272 rfl rfl ?_
        obtain rfl := Option.some.inj h
        exact ev_iret (pc := 273) X dX11_toWeave_273
      · rw [if_neg hc] at h
        refine ev_bipush (pc := 267) (v := (-9 : Int32)) X dX11_toWeave_267 rfl ?_
        refine ev_goto (pc := 269) X 273 dX11_toWeave_269 rfl ?_
        obtain rfl := Option.some.inj h
        exact ev_iret (pc := 273) X dX11_toWeave_273
    · rw [if_neg hc] at h
      refine ev_iconst (pc := 38) (v := (0 : Int32)) X dX11_toWeave_38 rfl ?_
      refine ev_istore_n (pc := 39) (L' := [(2, .int (0 : Int32)), (0, .ref x0), (1, .int x1)]) X dX11_toWeave_39 rfl (by decide) rfl ?_
      exact ev_weak (pc := 40) [1, 2, 0] rfl (sX11_toWeave_40 (fun _ _ w r hh => ih _ _ w r hh) eN _ _ _ _ _ h p e s m args below meth c r0 A X)
def fX11_toWeave_0 (x0 : Nat) (w : eW) : Option (Int32 × eW) := (eP w x0 11 0 (.int (0 : Int32))).bind fun w1 => (eGR w1 x0 11 9).bind fun v2 => (eLd w1 false v2 (2 : Int32)).bind fun v3 => if v3 = 0 then (some ((0 : Int32), w1)) else ((eGR w1 x0 11 13).bind fun v4 => (fX11_builds x0 v4 w1).bind fun w5 => fX11_toWeave_26 eN x0 (1 : Int32) w5)
set_option maxRecDepth 20000 in
theorem sX11_toWeave_0  (x0 : Nat) (w : eW) (r : Int32 × eW) (h : fX11_toWeave_0 x0 w = some r) : eBN l D cI cZ 4 yX11_toWeave cX11_toWeave 5 (some .int) 0 [(0, .ref x0)] [] w (some (.int r.1)) r.2 := by
  rw [fX11_toWeave_0] at h
  intro p e s m args below meth c r0 A X
  refine ev_aload_n (pc := 0) X 0 dX11_toWeave_0 rfl rfl ?_
  refine ev_iconst (pc := 1) (v := (0 : Int32)) X dX11_toWeave_1 rfl ?_
  obtain ⟨w1, hw1, h⟩ := eBi h
  refine ev_putI (pc := 2) X hcX11 (k := 0) (by decide) kfX11_50 rfl rfl dX11_toWeave_2 hw1 ?_
  refine ev_aload_n (pc := 5) X 0 dX11_toWeave_5 rfl rfl ?_
  obtain ⟨v2, hv2, h⟩ := eBi h
  refine ev_getR (pc := 6) X hcX11 (k := 9) (by decide) kfX11_13 dX11_toWeave_6 hv2 ?_
  refine ev_iconst (pc := 9) (v := (2 : Int32)) X dX11_toWeave_9 rfl ?_
  obtain ⟨v3, hv3, h⟩ := eBi h
  refine ev_iald (pc := 10) X dX11_toWeave_10 hv3 ?_
  refine ev_if_ne (pc := 11) X 16 dX11_toWeave_11 rfl (fun hc => ?_) (fun hc => ?_)
  · rw [if_neg hc] at h
    refine ev_aload_n (pc := 16) X 0 dX11_toWeave_16 rfl rfl ?_
    refine ev_aload_n (pc := 17) X 0 dX11_toWeave_17 rfl rfl ?_
    obtain ⟨v4, hv4, h⟩ := eBi h
    refine ev_getR (pc := 18) X hcX11 (k := 13) (by decide) kfX11_22 dX11_toWeave_18 hv4 ?_
    obtain ⟨w5, hc, h⟩ := eBi h
    refine ev_callV_v (pc := 21) (As := [.ref v4]) (S := []) X hwX11_builds klX11_152 hiX11_builds hsX11_builds (ci := 11) ⟨rfl, rfl⟩ ⟨Nat.le_of_ble_eq_true rfl, Nat.le_of_ble_eq_true rfl⟩ ⟨Nat.le_refl _, Nat.le_refl _⟩ rfl (Nat.le_of_ble_eq_true rfl) dX11_toWeave_21 rfl (mX11_builds (l := l) (D := D) (cI := cI) (cZ := cZ) hc).1 (mX11_builds hc).2 ?_
    refine ev_iconst (pc := 24) (v := (1 : Int32)) X dX11_toWeave_24 rfl ?_
    refine ev_istore_n (pc := 25) (L' := [(1, .int (1 : Int32)), (0, .ref x0)]) X dX11_toWeave_25 rfl (by decide) rfl ?_
    exact ev_weak (pc := 26) [1, 0] rfl (sX11_toWeave_26 eN _ _ _ _ h p e s m args below meth c r0 A X)
  · rw [if_pos hc] at h
    refine ev_iconst (pc := 14) (v := (0 : Int32)) X dX11_toWeave_14 rfl ?_
    obtain rfl := Option.some.inj h
    exact ev_iret (pc := 15) X dX11_toWeave_15
def fX11_toWeave (a0 : Nat) (w : eW) : Option (Int32 × eW) := bif eO w a0 11 then fX11_toWeave_0 a0 w else none
theorem mX11_toWeave {a0 : Nat} {w : eW} {v : Int32} {w' : eW} (h : fX11_toWeave a0 w = some (v, w')) : eO w a0 11 = true ∧ eMN l D cI cZ 4 yX11_toWeave cX11_toWeave 5 (some .int) [.ref a0] w (some (.int v)) w' := by
  obtain ⟨h0, h⟩ := eBif h
  exact ⟨h0, eMN_of [(0, .ref a0)] (plainFor_of_name (by decide)) (fun _ => rfl) (fun _ => Nat.le_of_ble_eq_true rfl) (fun p e s m args below meth c r0 A X => ev_weak (pc := 0) [0] rfl (sX11_toWeave_0 _ _ _ h p e s m args below meth c r0 A X))⟩
theorem dX11_way_0 : decode cX11_way 0 = .ok (.aload_n 0, 1) := by decide +kernel
theorem dX11_way_1 : decode cX11_way 1 = .ok (.iconst 0, 1) := by decide +kernel
theorem dX11_way_2 : decode cX11_way 2 = .ok (.putfield 50, 3) := by decide +kernel
theorem dX11_way_5 : decode cX11_way 5 = .ok (.aload_n 0, 1) := by decide +kernel
theorem dX11_way_6 : decode cX11_way 6 = .ok (.iload_n 1, 1) := by decide +kernel
theorem dX11_way_7 : decode cX11_way 7 = .ok (.invokevirtual 120, 3) := by decide +kernel
theorem dX11_way_10 : decode cX11_way 10 = .ok (.ifCond .eq 11, 3) := by decide +kernel
theorem dX11_way_13 : decode cX11_way 13 = .ok (.aload_n 0, 1) := by decide +kernel
theorem dX11_way_14 : decode cX11_way 14 = .ok (.iload_n 2, 1) := by decide +kernel
theorem dX11_way_15 : decode cX11_way 15 = .ok (.invokevirtual 120, 3) := by decide +kernel
theorem dX11_way_18 : decode cX11_way 18 = .ok (.ifCond .ne 5, 3) := by decide +kernel
theorem dX11_way_21 : decode cX11_way 21 = .ok (.iconst (-1), 1) := by decide +kernel
theorem dX11_way_22 : decode cX11_way 22 = .ok (.ireturn, 1) := by decide +kernel
theorem dX11_way_23 : decode cX11_way 23 = .ok (.aload_n 0, 1) := by decide +kernel
theorem dX11_way_24 : decode cX11_way 24 = .ok (.aload_n 0, 1) := by decide +kernel
theorem dX11_way_25 : decode cX11_way 25 = .ok (.getfield 22, 3) := by decide +kernel
theorem dX11_way_28 : decode cX11_way 28 = .ok (.invokevirtual 152, 3) := by decide +kernel
theorem dX11_way_31 : decode cX11_way 31 = .ok (.iconst 0, 1) := by decide +kernel
theorem dX11_way_32 : decode cX11_way 32 = .ok (.istore_n 3, 1) := by decide +kernel
theorem dX11_way_33 : decode cX11_way 33 = .ok (.iload_n 3, 1) := by decide +kernel
theorem dX11_way_34 : decode cX11_way 34 = .ok (.bipush 20, 2) := by decide +kernel
theorem dX11_way_36 : decode cX11_way 36 = .ok (.if_icmp .ge 17, 3) := by decide +kernel
theorem dX11_way_39 : decode cX11_way 39 = .ok (.aload_n 0, 1) := by decide +kernel
theorem dX11_way_40 : decode cX11_way 40 = .ok (.getfield 44, 3) := by decide +kernel
theorem dX11_way_43 : decode cX11_way 43 = .ok (.iload_n 3, 1) := by decide +kernel
theorem dX11_way_44 : decode cX11_way 44 = .ok (.ldc 156, 2) := by decide +kernel
theorem dX11_way_46 : decode cX11_way 46 = .ok (.iastore, 1) := by decide +kernel
theorem dX11_way_47 : decode cX11_way 47 = .ok (.iinc 3 1, 3) := by decide +kernel
theorem dX11_way_50 : decode cX11_way 50 = .ok (.goto (-17), 3) := by decide +kernel
theorem dX11_way_53 : decode cX11_way 53 = .ok (.aload_n 0, 1) := by decide +kernel
theorem dX11_way_54 : decode cX11_way 54 = .ok (.getfield 44, 3) := by decide +kernel
theorem dX11_way_57 : decode cX11_way 57 = .ok (.iload_n 1, 1) := by decide +kernel
theorem dX11_way_58 : decode cX11_way 58 = .ok (.iconst 0, 1) := by decide +kernel
theorem dX11_way_59 : decode cX11_way 59 = .ok (.iastore, 1) := by decide +kernel
theorem dX11_way_60 : decode cX11_way 60 = .ok (.iconst 0, 1) := by decide +kernel
theorem dX11_way_61 : decode cX11_way 61 = .ok (.istore_n 3, 1) := by decide +kernel
theorem dX11_way_62 : decode cX11_way 62 = .ok (.iload_n 3, 1) := by decide +kernel
theorem dX11_way_63 : decode cX11_way 63 = .ok (.aload_n 0, 1) := by decide +kernel
theorem dX11_way_64 : decode cX11_way 64 = .ok (.invokevirtual 116, 3) := by decide +kernel
theorem dX11_way_67 : decode cX11_way 67 = .ok (.if_icmp .ge 183, 3) := by decide +kernel
theorem dX11_way_70 : decode cX11_way 70 = .ok (.iconst 0, 1) := by decide +kernel
theorem dX11_way_71 : decode cX11_way 71 = .ok (.istore 4, 2) := by decide +kernel
theorem dX11_way_73 : decode cX11_way 73 = .ok (.iload 4, 2) := by decide +kernel
theorem dX11_way_75 : decode cX11_way 75 = .ok (.aload_n 0, 1) := by decide +kernel
theorem dX11_way_76 : decode cX11_way 76 = .ok (.invokevirtual 116, 3) := by decide +kernel
theorem dX11_way_79 : decode cX11_way 79 = .ok (.if_icmp .ge 165, 3) := by decide +kernel
theorem dX11_way_82 : decode cX11_way 82 = .ok (.iconst 0, 1) := by decide +kernel
theorem dX11_way_83 : decode cX11_way 83 = .ok (.istore 5, 2) := by decide +kernel
theorem dX11_way_85 : decode cX11_way 85 = .ok (.iload 5, 2) := by decide +kernel
theorem dX11_way_87 : decode cX11_way 87 = .ok (.iconst 4, 1) := by decide +kernel
theorem dX11_way_88 : decode cX11_way 88 = .ok (.if_icmp .ge 150, 3) := by decide +kernel
theorem dX11_way_91 : decode cX11_way 91 = .ok (.aload_n 0, 1) := by decide +kernel
theorem dX11_way_92 : decode cX11_way 92 = .ok (.getfield 44, 3) := by decide +kernel
theorem dX11_way_95 : decode cX11_way 95 = .ok (.iload 4, 2) := by decide +kernel
theorem dX11_way_97 : decode cX11_way 97 = .ok (.iaload, 1) := by decide +kernel
theorem dX11_way_98 : decode cX11_way 98 = .ok (.ldc 156, 2) := by decide +kernel
theorem dX11_way_100 : decode cX11_way 100 = .ok (.if_icmp .ge 132, 3) := by decide +kernel
theorem dX11_way_103 : decode cX11_way 103 = .ok (.aload_n 0, 1) := by decide +kernel
theorem dX11_way_104 : decode cX11_way 104 = .ok (.getfield 38, 3) := by decide +kernel
theorem dX11_way_107 : decode cX11_way 107 = .ok (.iload 4, 2) := by decide +kernel
theorem dX11_way_109 : decode cX11_way 109 = .ok (.iaload, 1) := by decide +kernel
theorem dX11_way_110 : decode cX11_way 110 = .ok (.iload 5, 2) := by decide +kernel
theorem dX11_way_112 : decode cX11_way 112 = .ok (.ishr, 1) := by decide +kernel
theorem dX11_way_113 : decode cX11_way 113 = .ok (.iconst 1, 1) := by decide +kernel
theorem dX11_way_114 : decode cX11_way 114 = .ok (.iand, 1) := by decide +kernel
theorem dX11_way_115 : decode cX11_way 115 = .ok (.iconst 1, 1) := by decide +kernel
theorem dX11_way_116 : decode cX11_way 116 = .ok (.if_icmp .ne 116, 3) := by decide +kernel
theorem dX11_way_119 : decode cX11_way 119 = .ok (.aload_n 0, 1) := by decide +kernel
theorem dX11_way_120 : decode cX11_way 120 = .ok (.iload 4, 2) := by decide +kernel
theorem dX11_way_122 : decode cX11_way 122 = .ok (.iload 5, 2) := by decide +kernel
theorem dX11_way_124 : decode cX11_way 124 = .ok (.invokevirtual 123, 3) := by decide +kernel
theorem dX11_way_127 : decode cX11_way 127 = .ok (.istore 6, 2) := by decide +kernel
theorem dX11_way_129 : decode cX11_way 129 = .ok (.aload_n 0, 1) := by decide +kernel
theorem dX11_way_130 : decode cX11_way 130 = .ok (.getfield 16, 3) := by decide +kernel
theorem dX11_way_133 : decode cX11_way 133 = .ok (.iload 6, 2) := by decide +kernel
theorem dX11_way_135 : decode cX11_way 135 = .ok (.iaload, 1) := by decide +kernel
theorem dX11_way_136 : decode cX11_way 136 = .ok (.aload_n 0, 1) := by decide +kernel
theorem dX11_way_137 : decode cX11_way 137 = .ok (.getfield 16, 3) := by decide +kernel
theorem dX11_way_140 : decode cX11_way 140 = .ok (.iload 4, 2) := by decide +kernel
theorem dX11_way_142 : decode cX11_way 142 = .ok (.iaload, 1) := by decide +kernel
theorem dX11_way_143 : decode cX11_way 143 = .ok (.if_icmp .le 21, 3) := by decide +kernel
theorem dX11_way_146 : decode cX11_way 146 = .ok (.aload_n 0, 1) := by decide +kernel
theorem dX11_way_147 : decode cX11_way 147 = .ok (.getfield 16, 3) := by decide +kernel
theorem dX11_way_150 : decode cX11_way 150 = .ok (.iload 6, 2) := by decide +kernel
theorem dX11_way_152 : decode cX11_way 152 = .ok (.iaload, 1) := by decide +kernel
theorem dX11_way_153 : decode cX11_way 153 = .ok (.aload_n 0, 1) := by decide +kernel
theorem dX11_way_154 : decode cX11_way 154 = .ok (.getfield 16, 3) := by decide +kernel
theorem dX11_way_157 : decode cX11_way 157 = .ok (.iload 4, 2) := by decide +kernel
theorem dX11_way_159 : decode cX11_way 159 = .ok (.iaload, 1) := by decide +kernel
theorem dX11_way_160 : decode cX11_way 160 = .ok (.isub, 1) := by decide +kernel
theorem dX11_way_161 : decode cX11_way 161 = .ok (.goto 4, 3) := by decide +kernel
theorem dX11_way_164 : decode cX11_way 164 = .ok (.iconst 0, 1) := by decide +kernel
theorem dX11_way_165 : decode cX11_way 165 = .ok (.istore 7, 2) := by decide +kernel
theorem dX11_way_167 : decode cX11_way 167 = .ok (.aload_n 0, 1) := by decide +kernel
theorem dX11_way_168 : decode cX11_way 168 = .ok (.getfield 44, 3) := by decide +kernel
theorem dX11_way_171 : decode cX11_way 171 = .ok (.iload 4, 2) := by decide +kernel
theorem dX11_way_173 : decode cX11_way 173 = .ok (.iaload, 1) := by decide +kernel
theorem dX11_way_174 : decode cX11_way 174 = .ok (.iconst 1, 1) := by decide +kernel
theorem dX11_way_175 : decode cX11_way 175 = .ok (.iadd, 1) := by decide +kernel
theorem dX11_way_176 : decode cX11_way 176 = .ok (.iload 7, 2) := by decide +kernel
theorem dX11_way_178 : decode cX11_way 178 = .ok (.iadd, 1) := by decide +kernel
theorem dX11_way_179 : decode cX11_way 179 = .ok (.aload_n 0, 1) := by decide +kernel
theorem dX11_way_180 : decode cX11_way 180 = .ok (.getfield 41, 3) := by decide +kernel
theorem dX11_way_183 : decode cX11_way 183 = .ok (.iload 6, 2) := by decide +kernel
theorem dX11_way_185 : decode cX11_way 185 = .ok (.iaload, 1) := by decide +kernel
theorem dX11_way_186 : decode cX11_way 186 = .ok (.invokestatic 194, 3) := by decide +kernel
theorem dX11_way_189 : decode cX11_way 189 = .ok (.iconst 1, 1) := by decide +kernel
theorem dX11_way_190 : decode cX11_way 190 = .ok (.if_icmp .le 7, 3) := by decide +kernel
theorem dX11_way_193 : decode cX11_way 193 = .ok (.iconst 1, 1) := by decide +kernel
theorem dX11_way_194 : decode cX11_way 194 = .ok (.goto 4, 3) := by decide +kernel
theorem dX11_way_197 : decode cX11_way 197 = .ok (.iconst 0, 1) := by decide +kernel
theorem dX11_way_198 : decode cX11_way 198 = .ok (.iadd, 1) := by decide +kernel
theorem dX11_way_199 : decode cX11_way 199 = .ok (.istore 8, 2) := by decide +kernel
theorem dX11_way_201 : decode cX11_way 201 = .ok (.aload_n 0, 1) := by decide +kernel
theorem dX11_way_202 : decode cX11_way 202 = .ok (.getfield 44, 3) := by decide +kernel
theorem dX11_way_205 : decode cX11_way 205 = .ok (.iload 6, 2) := by decide +kernel
theorem dX11_way_207 : decode cX11_way 207 = .ok (.iload 8, 2) := by decide +kernel
theorem dX11_way_209 : decode cX11_way 209 = .ok (.aload_n 0, 1) := by decide +kernel
theorem dX11_way_210 : decode cX11_way 210 = .ok (.getfield 44, 3) := by decide +kernel
theorem dX11_way_213 : decode cX11_way 213 = .ok (.iload 6, 2) := by decide +kernel
theorem dX11_way_215 : decode cX11_way 215 = .ok (.iaload, 1) := by decide +kernel
theorem dX11_way_216 : decode cX11_way 216 = .ok (.if_icmp .ge 8, 3) := by decide +kernel
theorem dX11_way_219 : decode cX11_way 219 = .ok (.iload 8, 2) := by decide +kernel
theorem dX11_way_221 : decode cX11_way 221 = .ok (.goto 10, 3) := by decide +kernel
theorem dX11_way_224 : decode cX11_way 224 = .ok (.aload_n 0, 1) := by decide +kernel
theorem dX11_way_225 : decode cX11_way 225 = .ok (.getfield 44, 3) := by decide +kernel
theorem dX11_way_228 : decode cX11_way 228 = .ok (.iload 6, 2) := by decide +kernel
theorem dX11_way_230 : decode cX11_way 230 = .ok (.iaload, 1) := by decide +kernel
theorem dX11_way_231 : decode cX11_way 231 = .ok (.iastore, 1) := by decide +kernel
theorem dX11_way_232 : decode cX11_way 232 = .ok (.iinc 5 1, 3) := by decide +kernel
theorem dX11_way_235 : decode cX11_way 235 = .ok (.goto (-150), 3) := by decide +kernel
theorem dX11_way_238 : decode cX11_way 238 = .ok (.iinc 4 1, 3) := by decide +kernel
theorem dX11_way_241 : decode cX11_way 241 = .ok (.goto (-168), 3) := by decide +kernel
theorem dX11_way_244 : decode cX11_way 244 = .ok (.iinc 3 1, 3) := by decide +kernel
theorem dX11_way_247 : decode cX11_way 247 = .ok (.goto (-185), 3) := by decide +kernel
theorem dX11_way_250 : decode cX11_way 250 = .ok (.aload_n 0, 1) := by decide +kernel
theorem dX11_way_251 : decode cX11_way 251 = .ok (.getfield 44, 3) := by decide +kernel
theorem dX11_way_254 : decode cX11_way 254 = .ok (.iload_n 2, 1) := by decide +kernel
theorem dX11_way_255 : decode cX11_way 255 = .ok (.iaload, 1) := by decide +kernel
theorem dX11_way_256 : decode cX11_way 256 = .ok (.ldc 156, 2) := by decide +kernel
theorem dX11_way_258 : decode cX11_way 258 = .ok (.if_icmp .ge 12, 3) := by decide +kernel
theorem dX11_way_261 : decode cX11_way 261 = .ok (.aload_n 0, 1) := by decide +kernel
theorem dX11_way_262 : decode cX11_way 262 = .ok (.getfield 44, 3) := by decide +kernel
theorem dX11_way_265 : decode cX11_way 265 = .ok (.iload_n 2, 1) := by decide +kernel
theorem dX11_way_266 : decode cX11_way 266 = .ok (.iaload, 1) := by decide +kernel
theorem dX11_way_267 : decode cX11_way 267 = .ok (.goto 5, 3) := by decide +kernel
theorem dX11_way_270 : decode cX11_way 270 = .ok (.bipush (-9), 2) := by decide +kernel
theorem dX11_way_272 : decode cX11_way 272 = .ok (.ireturn, 1) := by decide +kernel
def fX11_way_232 (K62 : Nat → Int32 → Int32 → eW → Option (Int32 × eW)) (K73 : Nat → Int32 → Int32 → Int32 → eW → Option (Int32 × eW)) (K85 : Nat → Int32 → Int32 → Int32 → Int32 → eW → Option (Int32 × eW)) (x0 : Nat) (x2 : Int32) (x3 : Int32) (x4 : Int32) (x5 : Int32) (w : eW) : Option (Int32 × eW) := K85 x0 x2 x3 x4 (x5 + (1 : Int32)) w
set_option maxRecDepth 20000 in
theorem sX11_way_232 {K62 : Nat → Int32 → Int32 → eW → Option (Int32 × eW)} {K73 : Nat → Int32 → Int32 → Int32 → eW → Option (Int32 × eW)} {K85 : Nat → Int32 → Int32 → Int32 → Int32 → eW → Option (Int32 × eW)} (hK62 : ∀ (x0 : Nat) (x2 : Int32) (x3 : Int32) (w : eW) (r : Int32 × eW), K62 x0 x2 x3 w = some r → eBN l D cI cZ 3 yX11_way cX11_way 9 (some .int) 62 [(0, .ref x0), (2, .int x2), (3, .int x3)] [] w (some (.int r.1)) r.2) (hK73 : ∀ (x0 : Nat) (x2 : Int32) (x3 : Int32) (x4 : Int32) (w : eW) (r : Int32 × eW), K73 x0 x2 x3 x4 w = some r → eBN l D cI cZ 3 yX11_way cX11_way 9 (some .int) 73 [(0, .ref x0), (2, .int x2), (3, .int x3), (4, .int x4)] [] w (some (.int r.1)) r.2) (hK85 : ∀ (x0 : Nat) (x2 : Int32) (x3 : Int32) (x4 : Int32) (x5 : Int32) (w : eW) (r : Int32 × eW), K85 x0 x2 x3 x4 x5 w = some r → eBN l D cI cZ 3 yX11_way cX11_way 9 (some .int) 85 [(0, .ref x0), (2, .int x2), (3, .int x3), (4, .int x4), (5, .int x5)] [] w (some (.int r.1)) r.2) (x0 : Nat) (x2 : Int32) (x3 : Int32) (x4 : Int32) (x5 : Int32) (w : eW) (r : Int32 × eW) (h : fX11_way_232 K62 K73 K85 x0 x2 x3 x4 x5 w = some r) : eBN l D cI cZ 3 yX11_way cX11_way 9 (some .int) 232 [(0, .ref x0), (2, .int x2), (3, .int x3), (4, .int x4), (5, .int x5)] [] w (some (.int r.1)) r.2 := by
  rw [fX11_way_232] at h
  intro p e s m args below meth c r0 A X
  refine ev_iinc (pc := 232) (v := x5 + (1 : Int32)) (L' := [(5, .int (x5 + (1 : Int32))), (0, .ref x0), (2, .int x2), (3, .int x3), (4, .int x4)]) X 4 dX11_way_232 rfl rfl (by decide) rfl ?_
  refine ev_goto (pc := 235) X 85 dX11_way_235 rfl ?_
  exact ev_weak (pc := 85) [1, 2, 3, 4, 0] rfl (hK85 _ _ _ _ _ _ _ h p e s m args below meth c r0 A X)
def fX11_way_231 (K62 : Nat → Int32 → Int32 → eW → Option (Int32 × eW)) (K73 : Nat → Int32 → Int32 → Int32 → eW → Option (Int32 × eW)) (K85 : Nat → Int32 → Int32 → Int32 → Int32 → eW → Option (Int32 × eW)) (x0 : Nat) (x2 : Int32) (x3 : Int32) (x4 : Int32) (x5 : Int32) (t0 : Nat) (t1 : Int32) (t2 : Int32) (w : eW) : Option (Int32 × eW) := (eSt w false t0 t1 t2).bind fun w1 => fX11_way_232 K62 K73 K85 x0 x2 x3 x4 x5 w1
set_option maxRecDepth 20000 in
theorem sX11_way_231 {K62 : Nat → Int32 → Int32 → eW → Option (Int32 × eW)} {K73 : Nat → Int32 → Int32 → Int32 → eW → Option (Int32 × eW)} {K85 : Nat → Int32 → Int32 → Int32 → Int32 → eW → Option (Int32 × eW)} (hK62 : ∀ (x0 : Nat) (x2 : Int32) (x3 : Int32) (w : eW) (r : Int32 × eW), K62 x0 x2 x3 w = some r → eBN l D cI cZ 3 yX11_way cX11_way 9 (some .int) 62 [(0, .ref x0), (2, .int x2), (3, .int x3)] [] w (some (.int r.1)) r.2) (hK73 : ∀ (x0 : Nat) (x2 : Int32) (x3 : Int32) (x4 : Int32) (w : eW) (r : Int32 × eW), K73 x0 x2 x3 x4 w = some r → eBN l D cI cZ 3 yX11_way cX11_way 9 (some .int) 73 [(0, .ref x0), (2, .int x2), (3, .int x3), (4, .int x4)] [] w (some (.int r.1)) r.2) (hK85 : ∀ (x0 : Nat) (x2 : Int32) (x3 : Int32) (x4 : Int32) (x5 : Int32) (w : eW) (r : Int32 × eW), K85 x0 x2 x3 x4 x5 w = some r → eBN l D cI cZ 3 yX11_way cX11_way 9 (some .int) 85 [(0, .ref x0), (2, .int x2), (3, .int x3), (4, .int x4), (5, .int x5)] [] w (some (.int r.1)) r.2) (x0 : Nat) (x2 : Int32) (x3 : Int32) (x4 : Int32) (x5 : Int32) (t0 : Nat) (t1 : Int32) (t2 : Int32) (w : eW) (r : Int32 × eW) (h : fX11_way_231 K62 K73 K85 x0 x2 x3 x4 x5 t0 t1 t2 w = some r) : eBN l D cI cZ 3 yX11_way cX11_way 9 (some .int) 231 [(0, .ref x0), (2, .int x2), (3, .int x3), (4, .int x4), (5, .int x5)] [.int t2, .int t1, .ref t0] w (some (.int r.1)) r.2 := by
  rw [fX11_way_231] at h
  intro p e s m args below meth c r0 A X
  obtain ⟨w1, hw1, h⟩ := eBi h
  refine ev_iast (pc := 231) X dX11_way_231 hw1 ?_
  exact ev_weak (pc := 232) [0, 1, 2, 3, 4] rfl (sX11_way_232 hK62 hK73 hK85 _ _ _ _ _ _ _ h p e s m args below meth c r0 A X)
def fX11_way_198 (K62 : Nat → Int32 → Int32 → eW → Option (Int32 × eW)) (K73 : Nat → Int32 → Int32 → Int32 → eW → Option (Int32 × eW)) (K85 : Nat → Int32 → Int32 → Int32 → Int32 → eW → Option (Int32 × eW)) (x0 : Nat) (x2 : Int32) (x3 : Int32) (x4 : Int32) (x5 : Int32) (x6 : Int32) (t0 : Int32) (t1 : Int32) (w : eW) : Option (Int32 × eW) := (eGR w x0 11 21).bind fun v1 => (eGR w x0 11 21).bind fun v2 => (eLd w false v2 x6).bind fun v3 => if v3 ≤ (t0 + t1) then ((eGR w x0 11 21).bind fun v4 => (eLd w false v4 x6).bind fun v5 => fX11_way_231 K62 K73 K85 x0 x2 x3 x4 x5 v1 x6 v5 w) else (fX11_way_231 K62 K73 K85 x0 x2 x3 x4 x5 v1 x6 (t0 + t1) w)
set_option maxRecDepth 20000 in
theorem sX11_way_198 {K62 : Nat → Int32 → Int32 → eW → Option (Int32 × eW)} {K73 : Nat → Int32 → Int32 → Int32 → eW → Option (Int32 × eW)} {K85 : Nat → Int32 → Int32 → Int32 → Int32 → eW → Option (Int32 × eW)} (hK62 : ∀ (x0 : Nat) (x2 : Int32) (x3 : Int32) (w : eW) (r : Int32 × eW), K62 x0 x2 x3 w = some r → eBN l D cI cZ 3 yX11_way cX11_way 9 (some .int) 62 [(0, .ref x0), (2, .int x2), (3, .int x3)] [] w (some (.int r.1)) r.2) (hK73 : ∀ (x0 : Nat) (x2 : Int32) (x3 : Int32) (x4 : Int32) (w : eW) (r : Int32 × eW), K73 x0 x2 x3 x4 w = some r → eBN l D cI cZ 3 yX11_way cX11_way 9 (some .int) 73 [(0, .ref x0), (2, .int x2), (3, .int x3), (4, .int x4)] [] w (some (.int r.1)) r.2) (hK85 : ∀ (x0 : Nat) (x2 : Int32) (x3 : Int32) (x4 : Int32) (x5 : Int32) (w : eW) (r : Int32 × eW), K85 x0 x2 x3 x4 x5 w = some r → eBN l D cI cZ 3 yX11_way cX11_way 9 (some .int) 85 [(0, .ref x0), (2, .int x2), (3, .int x3), (4, .int x4), (5, .int x5)] [] w (some (.int r.1)) r.2) (x0 : Nat) (x2 : Int32) (x3 : Int32) (x4 : Int32) (x5 : Int32) (x6 : Int32) (t0 : Int32) (t1 : Int32) (w : eW) (r : Int32 × eW) (h : fX11_way_198 K62 K73 K85 x0 x2 x3 x4 x5 x6 t0 t1 w = some r) : eBN l D cI cZ 3 yX11_way cX11_way 9 (some .int) 198 [(0, .ref x0), (2, .int x2), (3, .int x3), (4, .int x4), (5, .int x5), (6, .int x6)] [.int t1, .int t0] w (some (.int r.1)) r.2 := by
  rw [fX11_way_198] at h
  intro p e s m args below meth c r0 A X
  refine ev_iadd (pc := 198) X dX11_way_198 ?_
  refine ev_istore (pc := 199) (L' := [(8, .int (t0 + t1)), (0, .ref x0), (2, .int x2), (3, .int x3), (4, .int x4), (5, .int x5), (6, .int x6)]) X dX11_way_199 (by decide) rfl ?_
  refine ev_aload_n (pc := 201) X 1 dX11_way_201 rfl rfl ?_
  obtain ⟨v1, hv1, h⟩ := eBi h
  refine ev_getR (pc := 202) X hcX11 (k := 21) (by decide) kfX11_44 dX11_way_202 hv1 ?_
  refine ev_iload (pc := 205) X 6 dX11_way_205 rfl ?_
  refine ev_iload (pc := 207) X 0 dX11_way_207 rfl ?_
  refine ev_aload_n (pc := 209) X 1 dX11_way_209 rfl rfl ?_
  obtain ⟨v2, hv2, h⟩ := eBi h
  refine ev_getR (pc := 210) X hcX11 (k := 21) (by decide) kfX11_44 dX11_way_210 hv2 ?_
  refine ev_iload (pc := 213) X 6 dX11_way_213 rfl ?_
  obtain ⟨v3, hv3, h⟩ := eBi h
  refine ev_iald (pc := 215) X dX11_way_215 hv3 ?_
  refine ev_icmp_ge (pc := 216) X 224 dX11_way_216 rfl (fun hc => ?_) (fun hc => ?_)
  · rw [if_pos hc] at h
    refine ev_aload_n (pc := 224) X 1 dX11_way_224 rfl rfl ?_
    obtain ⟨v4, hv4, h⟩ := eBi h
    refine ev_getR (pc := 225) X hcX11 (k := 21) (by decide) kfX11_44 dX11_way_225 hv4 ?_
    refine ev_iload (pc := 228) X 6 dX11_way_228 rfl ?_
    obtain ⟨v5, hv5, h⟩ := eBi h
    refine ev_iald (pc := 230) X dX11_way_230 hv5 ?_
    exact ev_weak (pc := 231) [1, 2, 3, 4, 5] rfl (sX11_way_231 hK62 hK73 hK85 _ _ _ _ _ _ _ _ _ _ h p e s m args below meth c r0 A X)
  · rw [if_neg hc] at h
    refine ev_iload (pc := 219) X 0 dX11_way_219 rfl ?_
    refine ev_goto (pc := 221) X 231 dX11_way_221 rfl ?_
    exact ev_weak (pc := 231) [1, 2, 3, 4, 5] rfl (sX11_way_231 hK62 hK73 hK85 _ _ _ _ _ _ _ _ _ _ h p e s m args below meth c r0 A X)
def fX11_way_165 (K62 : Nat → Int32 → Int32 → eW → Option (Int32 × eW)) (K73 : Nat → Int32 → Int32 → Int32 → eW → Option (Int32 × eW)) (K85 : Nat → Int32 → Int32 → Int32 → Int32 → eW → Option (Int32 × eW)) (x0 : Nat) (x2 : Int32) (x3 : Int32) (x4 : Int32) (x5 : Int32) (x6 : Int32) (t0 : Int32) (w : eW) : Option (Int32 × eW) := (eGR w x0 11 21).bind fun v1 => (eLd w false v1 x4).bind fun v2 => (eGR w x0 11 20).bind fun v3 => (eLd w false v3 x6).bind fun v4 => eBind2 (fX11_ones v4 w) fun v6 w5 => if v6 ≤ (1 : Int32) then (fX11_way_198 K62 K73 K85 x0 x2 x3 x4 x5 x6 ((v2 + (1 : Int32)) + t0) (0 : Int32) w5) else (fX11_way_198 K62 K73 K85 x0 x2 x3 x4 x5 x6 ((v2 + (1 : Int32)) + t0) (1 : Int32) w5)
set_option maxRecDepth 20000 in
theorem sX11_way_165 {K62 : Nat → Int32 → Int32 → eW → Option (Int32 × eW)} {K73 : Nat → Int32 → Int32 → Int32 → eW → Option (Int32 × eW)} {K85 : Nat → Int32 → Int32 → Int32 → Int32 → eW → Option (Int32 × eW)} (hK62 : ∀ (x0 : Nat) (x2 : Int32) (x3 : Int32) (w : eW) (r : Int32 × eW), K62 x0 x2 x3 w = some r → eBN l D cI cZ 3 yX11_way cX11_way 9 (some .int) 62 [(0, .ref x0), (2, .int x2), (3, .int x3)] [] w (some (.int r.1)) r.2) (hK73 : ∀ (x0 : Nat) (x2 : Int32) (x3 : Int32) (x4 : Int32) (w : eW) (r : Int32 × eW), K73 x0 x2 x3 x4 w = some r → eBN l D cI cZ 3 yX11_way cX11_way 9 (some .int) 73 [(0, .ref x0), (2, .int x2), (3, .int x3), (4, .int x4)] [] w (some (.int r.1)) r.2) (hK85 : ∀ (x0 : Nat) (x2 : Int32) (x3 : Int32) (x4 : Int32) (x5 : Int32) (w : eW) (r : Int32 × eW), K85 x0 x2 x3 x4 x5 w = some r → eBN l D cI cZ 3 yX11_way cX11_way 9 (some .int) 85 [(0, .ref x0), (2, .int x2), (3, .int x3), (4, .int x4), (5, .int x5)] [] w (some (.int r.1)) r.2) (x0 : Nat) (x2 : Int32) (x3 : Int32) (x4 : Int32) (x5 : Int32) (x6 : Int32) (t0 : Int32) (w : eW) (r : Int32 × eW) (h : fX11_way_165 K62 K73 K85 x0 x2 x3 x4 x5 x6 t0 w = some r) : eBN l D cI cZ 3 yX11_way cX11_way 9 (some .int) 165 [(0, .ref x0), (2, .int x2), (3, .int x3), (4, .int x4), (5, .int x5), (6, .int x6)] [.int t0] w (some (.int r.1)) r.2 := by
  rw [fX11_way_165] at h
  intro p e s m args below meth c r0 A X
  refine ev_istore (pc := 165) (L' := [(7, .int t0), (0, .ref x0), (2, .int x2), (3, .int x3), (4, .int x4), (5, .int x5), (6, .int x6)]) X dX11_way_165 (by decide) rfl ?_
  refine ev_aload_n (pc := 167) X 1 dX11_way_167 rfl rfl ?_
  obtain ⟨v1, hv1, h⟩ := eBi h
  refine ev_getR (pc := 168) X hcX11 (k := 21) (by decide) kfX11_44 dX11_way_168 hv1 ?_
  refine ev_iload (pc := 171) X 4 dX11_way_171 rfl ?_
  obtain ⟨v2, hv2, h⟩ := eBi h
  refine ev_iald (pc := 173) X dX11_way_173 hv2 ?_
  refine ev_iconst (pc := 174) (v := (1 : Int32)) X dX11_way_174 rfl ?_
  refine ev_iadd (pc := 175) X dX11_way_175 ?_
  refine ev_iload (pc := 176) X 0 dX11_way_176 rfl ?_
  refine ev_iadd (pc := 178) X dX11_way_178 ?_
  refine ev_aload_n (pc := 179) X 1 dX11_way_179 rfl rfl ?_
  obtain ⟨v3, hv3, h⟩ := eBi h
  refine ev_getR (pc := 180) X hcX11 (k := 20) (by decide) kfX11_41 dX11_way_180 hv3 ?_
  refine ev_iload (pc := 183) X 6 dX11_way_183 rfl ?_
  obtain ⟨v4, hv4, h⟩ := eBi h
  refine ev_iald (pc := 185) X dX11_way_185 hv4 ?_
  obtain ⟨v6, w5, hc, h⟩ := eB2 h
  refine ev_callS_i (pc := 186) (As := [.int v4]) (S := [.int ((v2 + (1 : Int32)) + t0)]) X hwX11_ones klX11_194 htX11_ones ⟨Nat.le_of_ble_eq_true rfl, Nat.le_of_ble_eq_true rfl⟩ ⟨Nat.le_refl _, Nat.le_refl _⟩ rfl (Nat.le_of_ble_eq_true rfl) dX11_way_186 rfl (mX11_ones hc) ?_
  refine ev_iconst (pc := 189) (v := (1 : Int32)) X dX11_way_189 rfl ?_
  refine ev_icmp_le (pc := 190) X 197 dX11_way_190 rfl (fun hc => ?_) (fun hc => ?_)
  · rw [if_pos hc] at h
    refine ev_iconst (pc := 197) (v := (0 : Int32)) X dX11_way_197 rfl ?_
    exact ev_weak (pc := 198) [1, 2, 3, 4, 5, 6] rfl (sX11_way_198 hK62 hK73 hK85 _ _ _ _ _ _ _ _ _ _ h p e s m args below meth c r0 A X)
  · rw [if_neg hc] at h
    refine ev_iconst (pc := 193) (v := (1 : Int32)) X dX11_way_193 rfl ?_
    refine ev_goto (pc := 194) X 198 dX11_way_194 rfl ?_
    exact ev_weak (pc := 198) [1, 2, 3, 4, 5, 6] rfl (sX11_way_198 hK62 hK73 hK85 _ _ _ _ _ _ _ _ _ _ h p e s m args below meth c r0 A X)
def fX11_way_85 (K62 : Nat → Int32 → Int32 → eW → Option (Int32 × eW)) (K73 : Nat → Int32 → Int32 → Int32 → eW → Option (Int32 × eW)) : Nat → Nat → Int32 → Int32 → Int32 → Int32 → eW → Option (Int32 × eW)
  | 0, _, _, _, _, _, _ => none
  | n + 1, x0, x2, x3, x4, x5, w => if (4 : Int32) ≤ x5 then (K73 x0 x2 x3 (x4 + (1 : Int32)) w) else ((eGR w x0 11 21).bind fun v1 => (eLd w false v1 x4).bind fun v2 => if (1000000 : Int32) ≤ v2 then (fX11_way_232 K62 K73 (fX11_way_85 K62 K73 n) x0 x2 x3 x4 x5 w) else ((eGR w x0 11 19).bind fun v3 => (eLd w false v3 x4).bind fun v4 => if ((v4 >>> (x5 &&& 31)) &&& (1 : Int32)) = (1 : Int32) then (eBind2 (fX11_leads x0 x4 x5 w) fun v6 w5 => (eGR w5 x0 11 10).bind fun v7 => (eLd w5 false v7 v6).bind fun v8 => (eGR w5 x0 11 10).bind fun v9 => (eLd w5 false v9 x4).bind fun v10 => if v8 ≤ v10 then (fX11_way_165 K62 K73 (fX11_way_85 K62 K73 n) x0 x2 x3 x4 x5 v6 (0 : Int32) w5) else ((eGR w5 x0 11 10).bind fun v11 => (eLd w5 false v11 v6).bind fun v12 => (eGR w5 x0 11 10).bind fun v13 => (eLd w5 false v13 x4).bind fun v14 => fX11_way_165 K62 K73 (fX11_way_85 K62 K73 n) x0 x2 x3 x4 x5 v6 (v12 - v14) w5)) else (fX11_way_232 K62 K73 (fX11_way_85 K62 K73 n) x0 x2 x3 x4 x5 w)))
set_option maxRecDepth 20000 in
theorem sX11_way_85 {K62 : Nat → Int32 → Int32 → eW → Option (Int32 × eW)} {K73 : Nat → Int32 → Int32 → Int32 → eW → Option (Int32 × eW)} (hK62 : ∀ (x0 : Nat) (x2 : Int32) (x3 : Int32) (w : eW) (r : Int32 × eW), K62 x0 x2 x3 w = some r → eBN l D cI cZ 3 yX11_way cX11_way 9 (some .int) 62 [(0, .ref x0), (2, .int x2), (3, .int x3)] [] w (some (.int r.1)) r.2) (hK73 : ∀ (x0 : Nat) (x2 : Int32) (x3 : Int32) (x4 : Int32) (w : eW) (r : Int32 × eW), K73 x0 x2 x3 x4 w = some r → eBN l D cI cZ 3 yX11_way cX11_way 9 (some .int) 73 [(0, .ref x0), (2, .int x2), (3, .int x3), (4, .int x4)] [] w (some (.int r.1)) r.2) : ∀ (n : Nat) (x0 : Nat) (x2 : Int32) (x3 : Int32) (x4 : Int32) (x5 : Int32) (w : eW) (r : Int32 × eW), fX11_way_85 K62 K73 n x0 x2 x3 x4 x5 w = some r → eBN l D cI cZ 3 yX11_way cX11_way 9 (some .int) 85 [(0, .ref x0), (2, .int x2), (3, .int x3), (4, .int x4), (5, .int x5)] [] w (some (.int r.1)) r.2 := by
  intro n
  induction n with
  | zero => intro x0 x2 x3 x4 x5 w r h; exact absurd (show (none : Option (Int32 × eW)) = some r from h) (by simp)
  | succ n ih =>
    intro x0 x2 x3 x4 x5 w r h
    rw [fX11_way_85] at h
    intro p e s m args below meth c r0 A X
    refine ev_iload (pc := 85) X 4 dX11_way_85 rfl ?_
    refine ev_iconst (pc := 87) (v := (4 : Int32)) X dX11_way_87 rfl ?_
    refine ev_icmp_ge (pc := 88) X 238 dX11_way_88 rfl (fun hc => ?_) (fun hc => ?_)
    · rw [if_pos hc] at h
      refine ev_iinc (pc := 238) (v := x4 + (1 : Int32)) (L' := [(4, .int (x4 + (1 : Int32))), (0, .ref x0), (2, .int x2), (3, .int x3), (5, .int x5)]) X 3 dX11_way_238 rfl rfl (by decide) rfl ?_
      refine ev_goto (pc := 241) X 73 dX11_way_241 rfl ?_
      exact ev_weak (pc := 73) [1, 2, 3, 0] rfl (hK73 _ _ _ _ _ _ h p e s m args below meth c r0 A X)
    · rw [if_neg hc] at h
      refine ev_aload_n (pc := 91) X 0 dX11_way_91 rfl rfl ?_
      obtain ⟨v1, hv1, h⟩ := eBi h
      refine ev_getR (pc := 92) X hcX11 (k := 21) (by decide) kfX11_44 dX11_way_92 hv1 ?_
      refine ev_iload (pc := 95) X 3 dX11_way_95 rfl ?_
      obtain ⟨v2, hv2, h⟩ := eBi h
      refine ev_iald (pc := 97) X dX11_way_97 hv2 ?_
      refine ev_ldc (pc := 98) X kkX11_156 dX11_way_98 ?_
      refine ev_icmp_ge (pc := 100) X 232 dX11_way_100 rfl (fun hc => ?_) (fun hc => ?_)
      · rw [if_pos hc] at h
        exact ev_weak (pc := 232) [0, 1, 2, 3, 4] rfl (sX11_way_232 hK62 hK73 (fun _ _ _ _ _ w r hh => ih _ _ _ _ _ w r hh) _ _ _ _ _ _ _ h p e s m args below meth c r0 A X)
      · rw [if_neg hc] at h
        refine ev_aload_n (pc := 103) X 0 dX11_way_103 rfl rfl ?_
        obtain ⟨v3, hv3, h⟩ := eBi h
        refine ev_getR (pc := 104) X hcX11 (k := 19) (by decide) kfX11_38 dX11_way_104 hv3 ?_
        refine ev_iload (pc := 107) X 3 dX11_way_107 rfl ?_
        obtain ⟨v4, hv4, h⟩ := eBi h
        refine ev_iald (pc := 109) X dX11_way_109 hv4 ?_
        refine ev_iload (pc := 110) X 4 dX11_way_110 rfl ?_
        refine ev_ishr (pc := 112) X dX11_way_112 ?_
        refine ev_iconst (pc := 113) (v := (1 : Int32)) X dX11_way_113 rfl ?_
        refine ev_iand (pc := 114) X dX11_way_114 ?_
        refine ev_iconst (pc := 115) (v := (1 : Int32)) X dX11_way_115 rfl ?_
        refine ev_icmp_ne (pc := 116) X 232 dX11_way_116 rfl (fun hc => ?_) (fun hc => ?_)
        · rw [if_neg hc] at h
          exact ev_weak (pc := 232) [0, 1, 2, 3, 4] rfl (sX11_way_232 hK62 hK73 (fun _ _ _ _ _ w r hh => ih _ _ _ _ _ w r hh) _ _ _ _ _ _ _ h p e s m args below meth c r0 A X)
        · rw [if_pos hc] at h
          refine ev_aload_n (pc := 119) X 0 dX11_way_119 rfl rfl ?_
          refine ev_iload (pc := 120) X 3 dX11_way_120 rfl ?_
          refine ev_iload (pc := 122) X 4 dX11_way_122 rfl ?_
          obtain ⟨v6, w5, hc, h⟩ := eB2 h
          refine ev_callV_i (pc := 124) (As := [.int x4, .int x5]) (S := []) X hwX11_leads klX11_123 hiX11_leads hsX11_leads (ci := 11) ⟨rfl, rfl⟩ ⟨Nat.le_of_ble_eq_true rfl, Nat.le_of_ble_eq_true rfl⟩ ⟨Nat.le_refl _, Nat.le_refl _⟩ rfl (Nat.le_of_ble_eq_true rfl) dX11_way_124 rfl (mX11_leads (l := l) (D := D) (cI := cI) (cZ := cZ) hc).1 (mX11_leads hc).2 ?_
          refine ev_istore (pc := 127) (L' := [(6, .int v6), (0, .ref x0), (2, .int x2), (3, .int x3), (4, .int x4), (5, .int x5)]) X dX11_way_127 (by decide) rfl ?_
          refine ev_aload_n (pc := 129) X 1 dX11_way_129 rfl rfl ?_
          obtain ⟨v7, hv7, h⟩ := eBi h
          refine ev_getR (pc := 130) X hcX11 (k := 10) (by decide) kfX11_16 dX11_way_130 hv7 ?_
          refine ev_iload (pc := 133) X 0 dX11_way_133 rfl ?_
          obtain ⟨v8, hv8, h⟩ := eBi h
          refine ev_iald (pc := 135) X dX11_way_135 hv8 ?_
          refine ev_aload_n (pc := 136) X 1 dX11_way_136 rfl rfl ?_
          obtain ⟨v9, hv9, h⟩ := eBi h
          refine ev_getR (pc := 137) X hcX11 (k := 10) (by decide) kfX11_16 dX11_way_137 hv9 ?_
          refine ev_iload (pc := 140) X 4 dX11_way_140 rfl ?_
          obtain ⟨v10, hv10, h⟩ := eBi h
          refine ev_iald (pc := 142) X dX11_way_142 hv10 ?_
          refine ev_icmp_le (pc := 143) X 164 dX11_way_143 rfl (fun hc => ?_) (fun hc => ?_)
          · rw [if_pos hc] at h
            refine ev_iconst (pc := 164) (v := (0 : Int32)) X dX11_way_164 rfl ?_
            exact ev_weak (pc := 165) [1, 2, 3, 4, 5, 0] rfl (sX11_way_165 hK62 hK73 (fun _ _ _ _ _ w r hh => ih _ _ _ _ _ w r hh) _ _ _ _ _ _ _ _ _ h p e s m args below meth c r0 A X)
          · rw [if_neg hc] at h
            refine ev_aload_n (pc := 146) X 1 dX11_way_146 rfl rfl ?_
            obtain ⟨v11, hv11, h⟩ := eBi h
            refine ev_getR (pc := 147) X hcX11 (k := 10) (by decide) kfX11_16 dX11_way_147 hv11 ?_
            refine ev_iload (pc := 150) X 0 dX11_way_150 rfl ?_
            obtain ⟨v12, hv12, h⟩ := eBi h
            refine ev_iald (pc := 152) X dX11_way_152 hv12 ?_
            refine ev_aload_n (pc := 153) X 1 dX11_way_153 rfl rfl ?_
            obtain ⟨v13, hv13, h⟩ := eBi h
            refine ev_getR (pc := 154) X hcX11 (k := 10) (by decide) kfX11_16 dX11_way_154 hv13 ?_
            refine ev_iload (pc := 157) X 4 dX11_way_157 rfl ?_
            obtain ⟨v14, hv14, h⟩ := eBi h
            refine ev_iald (pc := 159) X dX11_way_159 hv14 ?_
            refine ev_isub (pc := 160) X dX11_way_160 ?_
            refine ev_goto (pc := 161) X 165 dX11_way_161 rfl ?_
            exact ev_weak (pc := 165) [1, 2, 3, 4, 5, 0] rfl (sX11_way_165 hK62 hK73 (fun _ _ _ _ _ w r hh => ih _ _ _ _ _ w r hh) _ _ _ _ _ _ _ _ _ h p e s m args below meth c r0 A X)
def fX11_way_73 (K62 : Nat → Int32 → Int32 → eW → Option (Int32 × eW)) : Nat → Nat → Int32 → Int32 → Int32 → eW → Option (Int32 × eW)
  | 0, _, _, _, _, _ => none
  | n + 1, x0, x2, x3, x4, w => eBind2 (fX11_cells x0 w) fun v2 w1 => if v2 ≤ x4 then (K62 x0 x2 (x3 + (1 : Int32)) w1) else (fX11_way_85 K62 (fX11_way_73 K62 n) eN x0 x2 x3 x4 (0 : Int32) w1)
set_option maxRecDepth 20000 in
theorem sX11_way_73 {K62 : Nat → Int32 → Int32 → eW → Option (Int32 × eW)} (hK62 : ∀ (x0 : Nat) (x2 : Int32) (x3 : Int32) (w : eW) (r : Int32 × eW), K62 x0 x2 x3 w = some r → eBN l D cI cZ 3 yX11_way cX11_way 9 (some .int) 62 [(0, .ref x0), (2, .int x2), (3, .int x3)] [] w (some (.int r.1)) r.2) : ∀ (n : Nat) (x0 : Nat) (x2 : Int32) (x3 : Int32) (x4 : Int32) (w : eW) (r : Int32 × eW), fX11_way_73 K62 n x0 x2 x3 x4 w = some r → eBN l D cI cZ 3 yX11_way cX11_way 9 (some .int) 73 [(0, .ref x0), (2, .int x2), (3, .int x3), (4, .int x4)] [] w (some (.int r.1)) r.2 := by
  intro n
  induction n with
  | zero => intro x0 x2 x3 x4 w r h; exact absurd (show (none : Option (Int32 × eW)) = some r from h) (by simp)
  | succ n ih =>
    intro x0 x2 x3 x4 w r h
    rw [fX11_way_73] at h
    intro p e s m args below meth c r0 A X
    refine ev_iload (pc := 73) X 3 dX11_way_73 rfl ?_
    refine ev_aload_n (pc := 75) X 0 dX11_way_75 rfl rfl ?_
    obtain ⟨v2, w1, hc, h⟩ := eB2 h
    refine ev_callV_i (pc := 76) (As := []) (S := [.int x4]) X hwX11_cells klX11_116 hiX11_cells hsX11_cells (ci := 11) ⟨rfl, rfl⟩ ⟨Nat.le_of_ble_eq_true rfl, Nat.le_of_ble_eq_true rfl⟩ ⟨Nat.le_refl _, Nat.le_refl _⟩ rfl (Nat.le_of_ble_eq_true rfl) dX11_way_76 rfl (mX11_cells (l := l) (D := D) (cI := cI) (cZ := cZ) hc).1 (mX11_cells hc).2 ?_
    refine ev_icmp_ge (pc := 79) X 244 dX11_way_79 rfl (fun hc => ?_) (fun hc => ?_)
    · rw [if_pos hc] at h
      refine ev_iinc (pc := 244) (v := x3 + (1 : Int32)) (L' := [(3, .int (x3 + (1 : Int32))), (0, .ref x0), (2, .int x2), (4, .int x4)]) X 2 dX11_way_244 rfl rfl (by decide) rfl ?_
      refine ev_goto (pc := 247) X 62 dX11_way_247 rfl ?_
      exact ev_weak (pc := 62) [1, 2, 0] rfl (hK62 _ _ _ _ _ h p e s m args below meth c r0 A X)
    · rw [if_neg hc] at h
      refine ev_iconst (pc := 82) (v := (0 : Int32)) X dX11_way_82 rfl ?_
      refine ev_istore (pc := 83) (L' := [(5, .int (0 : Int32)), (0, .ref x0), (2, .int x2), (3, .int x3), (4, .int x4)]) X dX11_way_83 (by decide) rfl ?_
      exact ev_weak (pc := 85) [1, 2, 3, 4, 0] rfl (sX11_way_85 hK62 (fun _ _ _ _ w r hh => ih _ _ _ _ w r hh) eN _ _ _ _ _ _ _ h p e s m args below meth c r0 A X)
def fX11_way_62 : Nat → Nat → Int32 → Int32 → eW → Option (Int32 × eW)
  | 0, _, _, _, _ => none
  | n + 1, x0, x2, x3, w => eBind2 (fX11_cells x0 w) fun v2 w1 => if v2 ≤ x3 then ((eGR w1 x0 11 21).bind fun v3 => (eLd w1 false v3 x2).bind fun v4 => if (1000000 : Int32) ≤ v4 then (some ((-9 : Int32), w1)) else ((eGR w1 x0 11 21).bind fun v5 => (eLd w1 false v5 x2).bind fun v6 => some (v6, w1))) else (fX11_way_73 (fX11_way_62 n) eN x0 x2 x3 (0 : Int32) w1)
set_option maxRecDepth 20000 in
theorem sX11_way_62  : ∀ (n : Nat) (x0 : Nat) (x2 : Int32) (x3 : Int32) (w : eW) (r : Int32 × eW), fX11_way_62 n x0 x2 x3 w = some r → eBN l D cI cZ 3 yX11_way cX11_way 9 (some .int) 62 [(0, .ref x0), (2, .int x2), (3, .int x3)] [] w (some (.int r.1)) r.2 := by
  intro n
  induction n with
  | zero => intro x0 x2 x3 w r h; exact absurd (show (none : Option (Int32 × eW)) = some r from h) (by simp)
  | succ n ih =>
    intro x0 x2 x3 w r h
    rw [fX11_way_62] at h
    intro p e s m args below meth c r0 A X
    refine ev_iload_n (pc := 62) X 2 dX11_way_62 rfl rfl ?_
    refine ev_aload_n (pc := 63) X 0 dX11_way_63 rfl rfl ?_
    obtain ⟨v2, w1, hc, h⟩ := eB2 h
    refine ev_callV_i (pc := 64) (As := []) (S := [.int x3]) X hwX11_cells klX11_116 hiX11_cells hsX11_cells (ci := 11) ⟨rfl, rfl⟩ ⟨Nat.le_of_ble_eq_true rfl, Nat.le_of_ble_eq_true rfl⟩ ⟨Nat.le_refl _, Nat.le_refl _⟩ rfl (Nat.le_of_ble_eq_true rfl) dX11_way_64 rfl (mX11_cells (l := l) (D := D) (cI := cI) (cZ := cZ) hc).1 (mX11_cells hc).2 ?_
    refine ev_icmp_ge (pc := 67) X 250 dX11_way_67 rfl (fun hc => ?_) (fun hc => ?_)
    · rw [if_pos hc] at h
      refine ev_aload_n (pc := 250) X 0 dX11_way_250 rfl rfl ?_
      obtain ⟨v3, hv3, h⟩ := eBi h
      refine ev_getR (pc := 251) X hcX11 (k := 21) (by decide) kfX11_44 dX11_way_251 hv3 ?_
      refine ev_iload_n (pc := 254) X 1 dX11_way_254 rfl rfl ?_
      obtain ⟨v4, hv4, h⟩ := eBi h
      refine ev_iald (pc := 255) X dX11_way_255 hv4 ?_
      refine ev_ldc (pc := 256) X kkX11_156 dX11_way_256 ?_
      refine ev_icmp_ge (pc := 258) X 270 dX11_way_258 rfl (fun hc => ?_) (fun hc => ?_)
      · rw [if_pos hc] at h
        refine ev_bipush (pc := 270) (v := (-9 : Int32)) X dX11_way_270 rfl ?_
        obtain rfl := Option.some.inj h
        exact ev_iret (pc := 272) X dX11_way_272
      · rw [if_neg hc] at h
        refine ev_aload_n (pc := 261) X 0 dX11_way_261 rfl rfl ?_
        obtain ⟨v5, hv5, h⟩ := eBi h
        refine ev_getR (pc := 262) X hcX11 (k := 21) (by decide) kfX11_44 dX11_way_262 hv5 ?_
        refine ev_iload_n (pc := 265) X 1 dX11_way_265 rfl rfl ?_
        obtain ⟨v6, hv6, h⟩ := eBi h
        refine ev_iald (pc := 266) X dX11_way_266 hv6 ?_
        refine ev_goto (pc := 267) X 272 dX11_way_267 rfl ?_
        obtain rfl := Option.some.inj h
        exact ev_iret (pc := 272) X dX11_way_272
    · rw [if_neg hc] at h
      refine ev_iconst (pc := 70) (v := (0 : Int32)) X dX11_way_70 rfl ?_
      refine ev_istore (pc := 71) (L' := [(4, .int (0 : Int32)), (0, .ref x0), (2, .int x2), (3, .int x3)]) X dX11_way_71 (by decide) rfl ?_
      exact ev_weak (pc := 73) [1, 2, 3, 0] rfl (sX11_way_73 (fun _ _ _ w r hh => ih _ _ _ w r hh) eN _ _ _ _ _ _ h p e s m args below meth c r0 A X)
def fX11_way_33 : Nat → Nat → Int32 → Int32 → Int32 → eW → Option (Int32 × eW)
  | 0, _, _, _, _, _ => none
  | n + 1, x0, x1, x2, x3, w => if (20 : Int32) ≤ x3 then ((eGR w x0 11 21).bind fun v1 => (eSt w false v1 x1 (0 : Int32)).bind fun w2 => fX11_way_62 eN x0 x2 (0 : Int32) w2) else ((eGR w x0 11 21).bind fun v3 => (eSt w false v3 x3 (1000000 : Int32)).bind fun w4 => fX11_way_33 n x0 x1 x2 (x3 + (1 : Int32)) w4)
set_option maxRecDepth 20000 in
theorem sX11_way_33  : ∀ (n : Nat) (x0 : Nat) (x1 : Int32) (x2 : Int32) (x3 : Int32) (w : eW) (r : Int32 × eW), fX11_way_33 n x0 x1 x2 x3 w = some r → eBN l D cI cZ 3 yX11_way cX11_way 9 (some .int) 33 [(0, .ref x0), (1, .int x1), (2, .int x2), (3, .int x3)] [] w (some (.int r.1)) r.2 := by
  intro n
  induction n with
  | zero => intro x0 x1 x2 x3 w r h; exact absurd (show (none : Option (Int32 × eW)) = some r from h) (by simp)
  | succ n ih =>
    intro x0 x1 x2 x3 w r h
    rw [fX11_way_33] at h
    intro p e s m args below meth c r0 A X
    refine ev_iload_n (pc := 33) X 3 dX11_way_33 rfl rfl ?_
    refine ev_bipush (pc := 34) (v := (20 : Int32)) X dX11_way_34 rfl ?_
    refine ev_icmp_ge (pc := 36) X 53 dX11_way_36 rfl (fun hc => ?_) (fun hc => ?_)
    · rw [if_pos hc] at h
      refine ev_aload_n (pc := 53) X 0 dX11_way_53 rfl rfl ?_
      obtain ⟨v1, hv1, h⟩ := eBi h
      refine ev_getR (pc := 54) X hcX11 (k := 21) (by decide) kfX11_44 dX11_way_54 hv1 ?_
      refine ev_iload_n (pc := 57) X 1 dX11_way_57 rfl rfl ?_
      refine ev_iconst (pc := 58) (v := (0 : Int32)) X dX11_way_58 rfl ?_
      obtain ⟨w2, hw2, h⟩ := eBi h
      refine ev_iast (pc := 59) X dX11_way_59 hw2 ?_
      refine ev_iconst (pc := 60) (v := (0 : Int32)) X dX11_way_60 rfl ?_
      refine ev_istore_n (pc := 61) (L' := [(3, .int (0 : Int32)), (0, .ref x0), (1, .int x1), (2, .int x2)]) X dX11_way_61 rfl (by decide) rfl ?_
      exact ev_weak (pc := 62) [1, 3, 0] rfl (sX11_way_62 eN _ _ _ _ _ h p e s m args below meth c r0 A X)
    · rw [if_neg hc] at h
      refine ev_aload_n (pc := 39) X 0 dX11_way_39 rfl rfl ?_
      obtain ⟨v3, hv3, h⟩ := eBi h
      refine ev_getR (pc := 40) X hcX11 (k := 21) (by decide) kfX11_44 dX11_way_40 hv3 ?_
      refine ev_iload_n (pc := 43) X 3 dX11_way_43 rfl rfl ?_
      refine ev_ldc (pc := 44) X kkX11_156 dX11_way_44 ?_
      obtain ⟨w4, hw4, h⟩ := eBi h
      refine ev_iast (pc := 46) X dX11_way_46 hw4 ?_
      refine ev_iinc (pc := 47) (v := x3 + (1 : Int32)) (L' := [(3, .int (x3 + (1 : Int32))), (0, .ref x0), (1, .int x1), (2, .int x2)]) X 3 dX11_way_47 rfl rfl (by decide) rfl ?_
      refine ev_goto (pc := 50) X 33 dX11_way_50 rfl ?_
      exact ev_weak (pc := 33) [1, 2, 3, 0] rfl (ih _ _ _ _ _ _ h p e s m args below meth c r0 A X)
def fX11_way_0 (x0 : Nat) (x1 : Int32) (x2 : Int32) (w : eW) : Option (Int32 × eW) := (eP w x0 11 0 (.int (0 : Int32))).bind fun w1 => eBind2 (fX11_isCell x0 x1 w1) fun v3 w2 => if v3 = 0 then (some ((-1 : Int32), w2)) else (eBind2 (fX11_isCell x0 x2 w2) fun v5 w4 => if v5 = 0 then (some ((-1 : Int32), w4)) else ((eGR w4 x0 11 13).bind fun v6 => (fX11_builds x0 v6 w4).bind fun w7 => fX11_way_33 eN x0 x1 x2 (0 : Int32) w7))
set_option maxRecDepth 20000 in
theorem sX11_way_0  (x0 : Nat) (x1 : Int32) (x2 : Int32) (w : eW) (r : Int32 × eW) (h : fX11_way_0 x0 x1 x2 w = some r) : eBN l D cI cZ 3 yX11_way cX11_way 9 (some .int) 0 [(0, .ref x0), (1, .int x1), (2, .int x2)] [] w (some (.int r.1)) r.2 := by
  rw [fX11_way_0] at h
  intro p e s m args below meth c r0 A X
  refine ev_aload_n (pc := 0) X 0 dX11_way_0 rfl rfl ?_
  refine ev_iconst (pc := 1) (v := (0 : Int32)) X dX11_way_1 rfl ?_
  obtain ⟨w1, hw1, h⟩ := eBi h
  refine ev_putI (pc := 2) X hcX11 (k := 0) (by decide) kfX11_50 rfl rfl dX11_way_2 hw1 ?_
  refine ev_aload_n (pc := 5) X 0 dX11_way_5 rfl rfl ?_
  refine ev_iload_n (pc := 6) X 1 dX11_way_6 rfl rfl ?_
  obtain ⟨v3, w2, hc, h⟩ := eB2 h
  refine ev_callV_i (pc := 7) (As := [.int x1]) (S := []) X hwX11_isCell klX11_120 hiX11_isCell hsX11_isCell (ci := 11) ⟨rfl, rfl⟩ ⟨Nat.le_of_ble_eq_true rfl, Nat.le_of_ble_eq_true rfl⟩ ⟨Nat.le_refl _, Nat.le_refl _⟩ rfl (Nat.le_of_ble_eq_true rfl) dX11_way_7 rfl (mX11_isCell (l := l) (D := D) (cI := cI) (cZ := cZ) hc).1 (mX11_isCell hc).2 ?_
  refine ev_if_eq (pc := 10) X 21 dX11_way_10 rfl (fun hc => ?_) (fun hc => ?_)
  · rw [if_pos hc] at h
    refine ev_iconst (pc := 21) (v := (-1 : Int32)) X dX11_way_21 rfl ?_
    obtain rfl := Option.some.inj h
    exact ev_iret (pc := 22) X dX11_way_22
  · rw [if_neg hc] at h
    refine ev_aload_n (pc := 13) X 0 dX11_way_13 rfl rfl ?_
    refine ev_iload_n (pc := 14) X 2 dX11_way_14 rfl rfl ?_
    obtain ⟨v5, w4, hc, h⟩ := eB2 h
    refine ev_callV_i (pc := 15) (As := [.int x2]) (S := []) X hwX11_isCell klX11_120 hiX11_isCell hsX11_isCell (ci := 11) ⟨rfl, rfl⟩ ⟨Nat.le_of_ble_eq_true rfl, Nat.le_of_ble_eq_true rfl⟩ ⟨Nat.le_refl _, Nat.le_refl _⟩ rfl (Nat.le_of_ble_eq_true rfl) dX11_way_15 rfl (mX11_isCell (l := l) (D := D) (cI := cI) (cZ := cZ) hc).1 (mX11_isCell hc).2 ?_
    refine ev_if_ne (pc := 18) X 23 dX11_way_18 rfl (fun hc => ?_) (fun hc => ?_)
    · rw [if_neg hc] at h
      refine ev_aload_n (pc := 23) X 0 dX11_way_23 rfl rfl ?_
      refine ev_aload_n (pc := 24) X 0 dX11_way_24 rfl rfl ?_
      obtain ⟨v6, hv6, h⟩ := eBi h
      refine ev_getR (pc := 25) X hcX11 (k := 13) (by decide) kfX11_22 dX11_way_25 hv6 ?_
      obtain ⟨w7, hc, h⟩ := eBi h
      refine ev_callV_v (pc := 28) (As := [.ref v6]) (S := []) X hwX11_builds klX11_152 hiX11_builds hsX11_builds (ci := 11) ⟨rfl, rfl⟩ ⟨Nat.le_of_ble_eq_true rfl, Nat.le_of_ble_eq_true rfl⟩ ⟨Nat.le_refl _, Nat.le_refl _⟩ rfl (Nat.le_of_ble_eq_true rfl) dX11_way_28 rfl (mX11_builds (l := l) (D := D) (cI := cI) (cZ := cZ) hc).1 (mX11_builds hc).2 ?_
      refine ev_iconst (pc := 31) (v := (0 : Int32)) X dX11_way_31 rfl ?_
      refine ev_istore_n (pc := 32) (L' := [(3, .int (0 : Int32)), (0, .ref x0), (1, .int x1), (2, .int x2)]) X dX11_way_32 rfl (by decide) rfl ?_
      exact ev_weak (pc := 33) [1, 2, 3, 0] rfl (sX11_way_33 eN _ _ _ _ _ _ h p e s m args below meth c r0 A X)
    · rw [if_pos hc] at h
      refine ev_iconst (pc := 21) (v := (-1 : Int32)) X dX11_way_21 rfl ?_
      obtain rfl := Option.some.inj h
      exact ev_iret (pc := 22) X dX11_way_22
def fX11_way (a0 : Nat) (a1 : Int32) (a2 : Int32) (w : eW) : Option (Int32 × eW) := bif eO w a0 11 then fX11_way_0 a0 a1 a2 w else none
theorem mX11_way {a0 : Nat} {a1 : Int32} {a2 : Int32} {w : eW} {v : Int32} {w' : eW} (h : fX11_way a0 a1 a2 w = some (v, w')) : eO w a0 11 = true ∧ eMN l D cI cZ 3 yX11_way cX11_way 9 (some .int) [.ref a0, .int a1, .int a2] w (some (.int v)) w' := by
  obtain ⟨h0, h⟩ := eBif h
  exact ⟨h0, eMN_of [(0, .ref a0), (1, .int a1), (2, .int a2)] (plainFor_of_name (by decide)) (fun _ => rfl) (fun _ => Nat.le_of_ble_eq_true rfl) (fun p e s m args below meth c r0 A X => ev_weak (pc := 0) [0, 1, 2] rfl (sX11_way_0 _ _ _ _ _ h p e s m args below meth c r0 A X))⟩
end GEN
