section GEN
variable {l : Launch} {D : va_G} {cI cZ : ClassId}
theorem dX11_areNear_0 : decode cX11_areNear 0 = .ok (.iconst 0, 1) := by decide +kernel
theorem dX11_areNear_1 : decode cX11_areNear 1 = .ok (.istore_n 3, 1) := by decide +kernel
theorem dX11_areNear_2 : decode cX11_areNear 2 = .ok (.iconst 0, 1) := by decide +kernel
theorem dX11_areNear_3 : decode cX11_areNear 3 = .ok (.istore 4, 2) := by decide +kernel
theorem dX11_areNear_5 : decode cX11_areNear 5 = .ok (.iload 4, 2) := by decide +kernel
theorem dX11_areNear_7 : decode cX11_areNear 7 = .ok (.aload_n 0, 1) := by decide +kernel
theorem dX11_areNear_8 : decode cX11_areNear 8 = .ok (.getfield 13, 3) := by decide +kernel
theorem dX11_areNear_11 : decode cX11_areNear 11 = .ok (.iconst 2, 1) := by decide +kernel
theorem dX11_areNear_12 : decode cX11_areNear 12 = .ok (.iaload, 1) := by decide +kernel
theorem dX11_areNear_13 : decode cX11_areNear 13 = .ok (.if_icmp .ge 70, 3) := by decide +kernel
theorem dX11_areNear_16 : decode cX11_areNear 16 = .ok (.iload_n 1, 1) := by decide +kernel
theorem dX11_areNear_17 : decode cX11_areNear 17 = .ok (.iload 4, 2) := by decide +kernel
theorem dX11_areNear_19 : decode cX11_areNear 19 = .ok (.ishr, 1) := by decide +kernel
theorem dX11_areNear_20 : decode cX11_areNear 20 = .ok (.iconst 1, 1) := by decide +kernel
theorem dX11_areNear_21 : decode cX11_areNear 21 = .ok (.iand, 1) := by decide +kernel
theorem dX11_areNear_22 : decode cX11_areNear 22 = .ok (.iconst 1, 1) := by decide +kernel
theorem dX11_areNear_23 : decode cX11_areNear 23 = .ok (.if_icmp .ne 54, 3) := by decide +kernel
theorem dX11_areNear_26 : decode cX11_areNear 26 = .ok (.aload_n 0, 1) := by decide +kernel
theorem dX11_areNear_27 : decode cX11_areNear 27 = .ok (.aload_n 0, 1) := by decide +kernel
theorem dX11_areNear_28 : decode cX11_areNear 28 = .ok (.getfield 19, 3) := by decide +kernel
theorem dX11_areNear_31 : decode cX11_areNear 31 = .ok (.iload 4, 2) := by decide +kernel
theorem dX11_areNear_33 : decode cX11_areNear 33 = .ok (.iaload, 1) := by decide +kernel
theorem dX11_areNear_34 : decode cX11_areNear 34 = .ok (.invokevirtual 157, 3) := by decide +kernel
theorem dX11_areNear_37 : decode cX11_areNear 37 = .ok (.iconst 0, 1) := by decide +kernel
theorem dX11_areNear_38 : decode cX11_areNear 38 = .ok (.istore 5, 2) := by decide +kernel
theorem dX11_areNear_40 : decode cX11_areNear 40 = .ok (.iload 5, 2) := by decide +kernel
theorem dX11_areNear_42 : decode cX11_areNear 42 = .ok (.aload_n 0, 1) := by decide +kernel
theorem dX11_areNear_43 : decode cX11_areNear 43 = .ok (.invokevirtual 116, 3) := by decide +kernel
theorem dX11_areNear_46 : decode cX11_areNear 46 = .ok (.if_icmp .ge 31, 3) := by decide +kernel
theorem dX11_areNear_49 : decode cX11_areNear 49 = .ok (.iload_n 3, 1) := by decide +kernel
theorem dX11_areNear_50 : decode cX11_areNear 50 = .ok (.aload_n 0, 1) := by decide +kernel
theorem dX11_areNear_51 : decode cX11_areNear 51 = .ok (.getfield 44, 3) := by decide +kernel
theorem dX11_areNear_54 : decode cX11_areNear 54 = .ok (.iload 5, 2) := by decide +kernel
theorem dX11_areNear_56 : decode cX11_areNear 56 = .ok (.iaload, 1) := by decide +kernel
theorem dX11_areNear_57 : decode cX11_areNear 57 = .ok (.iload_n 2, 1) := by decide +kernel
theorem dX11_areNear_58 : decode cX11_areNear 58 = .ok (.if_icmp .gt 10, 3) := by decide +kernel
theorem dX11_areNear_61 : decode cX11_areNear 61 = .ok (.iconst 1, 1) := by decide +kernel
theorem dX11_areNear_62 : decode cX11_areNear 62 = .ok (.iload 5, 2) := by decide +kernel
theorem dX11_areNear_64 : decode cX11_areNear 64 = .ok (.ishl, 1) := by decide +kernel
theorem dX11_areNear_65 : decode cX11_areNear 65 = .ok (.goto 4, 3) := by decide +kernel
theorem dX11_areNear_68 : decode cX11_areNear 68 = .ok (.iconst 0, 1) := by decide +kernel
theorem dX11_areNear_69 : decode cX11_areNear 69 = .ok (.ior, 1) := by decide +kernel
theorem dX11_areNear_70 : decode cX11_areNear 70 = .ok (.istore_n 3, 1) := by decide +kernel
theorem dX11_areNear_71 : decode cX11_areNear 71 = .ok (.iinc 5 1, 3) := by decide +kernel
theorem dX11_areNear_74 : decode cX11_areNear 74 = .ok (.goto (-34), 3) := by decide +kernel
theorem dX11_areNear_77 : decode cX11_areNear 77 = .ok (.iinc 4 1, 3) := by decide +kernel
theorem dX11_areNear_80 : decode cX11_areNear 80 = .ok (.goto (-75), 3) := by decide +kernel
theorem dX11_areNear_83 : decode cX11_areNear 83 = .ok (.iconst 1, 1) := by decide +kernel
theorem dX11_areNear_84 : decode cX11_areNear 84 = .ok (.istore 4, 2) := by decide +kernel
theorem dX11_areNear_86 : decode cX11_areNear 86 = .ok (.iconst 0, 1) := by decide +kernel
theorem dX11_areNear_87 : decode cX11_areNear 87 = .ok (.istore 5, 2) := by decide +kernel
theorem dX11_areNear_89 : decode cX11_areNear 89 = .ok (.iload 5, 2) := by decide +kernel
theorem dX11_areNear_91 : decode cX11_areNear 91 = .ok (.aload_n 0, 1) := by decide +kernel
theorem dX11_areNear_92 : decode cX11_areNear 92 = .ok (.invokevirtual 116, 3) := by decide +kernel
theorem dX11_areNear_95 : decode cX11_areNear 95 = .ok (.if_icmp .ge 41, 3) := by decide +kernel
theorem dX11_areNear_98 : decode cX11_areNear 98 = .ok (.iload 4, 2) := by decide +kernel
theorem dX11_areNear_100 : decode cX11_areNear 100 = .ok (.ifCond .eq 27, 3) := by decide +kernel
theorem dX11_areNear_103 : decode cX11_areNear 103 = .ok (.aload_n 0, 1) := by decide +kernel
theorem dX11_areNear_104 : decode cX11_areNear 104 = .ok (.getfield 38, 3) := by decide +kernel
theorem dX11_areNear_107 : decode cX11_areNear 107 = .ok (.iload 5, 2) := by decide +kernel
theorem dX11_areNear_109 : decode cX11_areNear 109 = .ok (.iaload, 1) := by decide +kernel
theorem dX11_areNear_110 : decode cX11_areNear 110 = .ok (.ifCond .eq 13, 3) := by decide +kernel
theorem dX11_areNear_113 : decode cX11_areNear 113 = .ok (.iload_n 3, 1) := by decide +kernel
theorem dX11_areNear_114 : decode cX11_areNear 114 = .ok (.iload 5, 2) := by decide +kernel
theorem dX11_areNear_116 : decode cX11_areNear 116 = .ok (.ishr, 1) := by decide +kernel
theorem dX11_areNear_117 : decode cX11_areNear 117 = .ok (.iconst 1, 1) := by decide +kernel
theorem dX11_areNear_118 : decode cX11_areNear 118 = .ok (.iand, 1) := by decide +kernel
theorem dX11_areNear_119 : decode cX11_areNear 119 = .ok (.iconst 1, 1) := by decide +kernel
theorem dX11_areNear_120 : decode cX11_areNear 120 = .ok (.if_icmp .ne 7, 3) := by decide +kernel
theorem dX11_areNear_123 : decode cX11_areNear 123 = .ok (.iconst 1, 1) := by decide +kernel
theorem dX11_areNear_124 : decode cX11_areNear 124 = .ok (.goto 4, 3) := by decide +kernel
theorem dX11_areNear_127 : decode cX11_areNear 127 = .ok (.iconst 0, 1) := by decide +kernel
theorem dX11_areNear_128 : decode cX11_areNear 128 = .ok (.istore 4, 2) := by decide +kernel
theorem dX11_areNear_130 : decode cX11_areNear 130 = .ok (.iinc 5 1, 3) := by decide +kernel
theorem dX11_areNear_133 : decode cX11_areNear 133 = .ok (.goto (-44), 3) := by decide +kernel
theorem dX11_areNear_136 : decode cX11_areNear 136 = .ok (.iload 4, 2) := by decide +kernel
theorem dX11_areNear_138 : decode cX11_areNear 138 = .ok (.ireturn, 1) := by decide +kernel
def fX11_areNear_69 (K5 : Nat → Int32 → Int32 → Int32 → Int32 → eW → Option (Int32 × eW)) (K40 : Nat → Int32 → Int32 → Int32 → Int32 → Int32 → eW → Option (Int32 × eW)) (x0 : Nat) (x1 : Int32) (x2 : Int32) (x4 : Int32) (x5 : Int32) (t0 : Int32) (t1 : Int32) (w : eW) : Option (Int32 × eW) := K40 x0 x1 x2 (t0 ||| t1) x4 (x5 + (1 : Int32)) w
set_option maxRecDepth 20000 in
theorem sX11_areNear_69 {K5 : Nat → Int32 → Int32 → Int32 → Int32 → eW → Option (Int32 × eW)} {K40 : Nat → Int32 → Int32 → Int32 → Int32 → Int32 → eW → Option (Int32 × eW)} (hK5 : ∀ (x0 : Nat) (x1 : Int32) (x2 : Int32) (x3 : Int32) (x4 : Int32) (w : eW) (r : Int32 × eW), K5 x0 x1 x2 x3 x4 w = some r → eBN l D cI cZ 3 yX11_areNear cX11_areNear 6 (some .boolean) 5 [(0, .ref x0), (1, .int x1), (2, .int x2), (3, .int x3), (4, .int x4)] [] w (some (.int r.1)) r.2) (hK40 : ∀ (x0 : Nat) (x1 : Int32) (x2 : Int32) (x3 : Int32) (x4 : Int32) (x5 : Int32) (w : eW) (r : Int32 × eW), K40 x0 x1 x2 x3 x4 x5 w = some r → eBN l D cI cZ 3 yX11_areNear cX11_areNear 6 (some .boolean) 40 [(0, .ref x0), (1, .int x1), (2, .int x2), (3, .int x3), (4, .int x4), (5, .int x5)] [] w (some (.int r.1)) r.2) (x0 : Nat) (x1 : Int32) (x2 : Int32) (x4 : Int32) (x5 : Int32) (t0 : Int32) (t1 : Int32) (w : eW) (r : Int32 × eW) (h : fX11_areNear_69 K5 K40 x0 x1 x2 x4 x5 t0 t1 w = some r) : eBN l D cI cZ 3 yX11_areNear cX11_areNear 6 (some .boolean) 69 [(0, .ref x0), (1, .int x1), (2, .int x2), (4, .int x4), (5, .int x5)] [.int t1, .int t0] w (some (.int r.1)) r.2 := by
  rw [fX11_areNear_69] at h
  intro p e s m args below meth c r0 A X
  refine ev_ior (pc := 69) X dX11_areNear_69 ?_
  refine ev_istore_n (pc := 70) (L' := [(3, .int (t0 ||| t1)), (0, .ref x0), (1, .int x1), (2, .int x2), (4, .int x4), (5, .int x5)]) X dX11_areNear_70 rfl (by decide) rfl ?_
  refine ev_iinc (pc := 71) (v := x5 + (1 : Int32)) (L' := [(5, .int (x5 + (1 : Int32))), (3, .int (t0 ||| t1)), (0, .ref x0), (1, .int x1), (2, .int x2), (4, .int x4)]) X 5 dX11_areNear_71 rfl rfl (by decide) rfl ?_
  refine ev_goto (pc := 74) X 40 dX11_areNear_74 rfl ?_
  exact ev_weak (pc := 40) [2, 3, 4, 1, 5, 0] rfl (hK40 _ _ _ _ _ _ _ _ h p e s m args below meth c r0 A X)
def fX11_areNear_77 (K5 : Nat → Int32 → Int32 → Int32 → Int32 → eW → Option (Int32 × eW)) (x0 : Nat) (x1 : Int32) (x2 : Int32) (x3 : Int32) (x4 : Int32) (w : eW) : Option (Int32 × eW) := K5 x0 x1 x2 x3 (x4 + (1 : Int32)) w
set_option maxRecDepth 20000 in
theorem sX11_areNear_77 {K5 : Nat → Int32 → Int32 → Int32 → Int32 → eW → Option (Int32 × eW)} (hK5 : ∀ (x0 : Nat) (x1 : Int32) (x2 : Int32) (x3 : Int32) (x4 : Int32) (w : eW) (r : Int32 × eW), K5 x0 x1 x2 x3 x4 w = some r → eBN l D cI cZ 3 yX11_areNear cX11_areNear 6 (some .boolean) 5 [(0, .ref x0), (1, .int x1), (2, .int x2), (3, .int x3), (4, .int x4)] [] w (some (.int r.1)) r.2) (x0 : Nat) (x1 : Int32) (x2 : Int32) (x3 : Int32) (x4 : Int32) (w : eW) (r : Int32 × eW) (h : fX11_areNear_77 K5 x0 x1 x2 x3 x4 w = some r) : eBN l D cI cZ 3 yX11_areNear cX11_areNear 6 (some .boolean) 77 [(0, .ref x0), (1, .int x1), (2, .int x2), (3, .int x3), (4, .int x4)] [] w (some (.int r.1)) r.2 := by
  rw [fX11_areNear_77] at h
  intro p e s m args below meth c r0 A X
  refine ev_iinc (pc := 77) (v := x4 + (1 : Int32)) (L' := [(4, .int (x4 + (1 : Int32))), (0, .ref x0), (1, .int x1), (2, .int x2), (3, .int x3)]) X 4 dX11_areNear_77 rfl rfl (by decide) rfl ?_
  refine ev_goto (pc := 80) X 5 dX11_areNear_80 rfl ?_
  exact ev_weak (pc := 5) [1, 2, 3, 4, 0] rfl (hK5 _ _ _ _ _ _ _ h p e s m args below meth c r0 A X)
def fX11_areNear_40 (K5 : Nat → Int32 → Int32 → Int32 → Int32 → eW → Option (Int32 × eW)) : Nat → Nat → Int32 → Int32 → Int32 → Int32 → Int32 → eW → Option (Int32 × eW)
  | 0, _, _, _, _, _, _, _ => none
  | n + 1, x0, x1, x2, x3, x4, x5, w => eBind2 (fX11_cells x0 w) fun v2 w1 => if v2 ≤ x5 then (fX11_areNear_77 K5 x0 x1 x2 x3 x4 w1) else ((eGR w1 x0 11 21).bind fun v3 => (eLd w1 false v3 x5).bind fun v4 => if x2 < v4 then (fX11_areNear_69 K5 (fX11_areNear_40 K5 n) x0 x1 x2 x4 x5 x3 (0 : Int32) w1) else (fX11_areNear_69 K5 (fX11_areNear_40 K5 n) x0 x1 x2 x4 x5 x3 ((1 : Int32) <<< (x5 &&& 31)) w1))
set_option maxRecDepth 20000 in
theorem sX11_areNear_40 {K5 : Nat → Int32 → Int32 → Int32 → Int32 → eW → Option (Int32 × eW)} (hK5 : ∀ (x0 : Nat) (x1 : Int32) (x2 : Int32) (x3 : Int32) (x4 : Int32) (w : eW) (r : Int32 × eW), K5 x0 x1 x2 x3 x4 w = some r → eBN l D cI cZ 3 yX11_areNear cX11_areNear 6 (some .boolean) 5 [(0, .ref x0), (1, .int x1), (2, .int x2), (3, .int x3), (4, .int x4)] [] w (some (.int r.1)) r.2) : ∀ (n : Nat) (x0 : Nat) (x1 : Int32) (x2 : Int32) (x3 : Int32) (x4 : Int32) (x5 : Int32) (w : eW) (r : Int32 × eW), fX11_areNear_40 K5 n x0 x1 x2 x3 x4 x5 w = some r → eBN l D cI cZ 3 yX11_areNear cX11_areNear 6 (some .boolean) 40 [(0, .ref x0), (1, .int x1), (2, .int x2), (3, .int x3), (4, .int x4), (5, .int x5)] [] w (some (.int r.1)) r.2 := by
  intro n
  induction n with
  | zero => intro x0 x1 x2 x3 x4 x5 w r h; exact absurd (show (none : Option (Int32 × eW)) = some r from h) (by simp)
  | succ n ih =>
    intro x0 x1 x2 x3 x4 x5 w r h
    rw [fX11_areNear_40] at h
    intro p e s m args below meth c r0 A X
    refine ev_iload (pc := 40) X 5 dX11_areNear_40 rfl ?_
    refine ev_aload_n (pc := 42) X 0 dX11_areNear_42 rfl rfl ?_
    obtain ⟨v2, w1, hc, h⟩ := eB2 h
    refine ev_callV_i (pc := 43) (As := []) (S := [.int x5]) X hwX11_cells klX11_116 hiX11_cells hsX11_cells (ci := 11) ⟨rfl, rfl⟩ ⟨Nat.le_of_ble_eq_true rfl, Nat.le_of_ble_eq_true rfl⟩ ⟨Nat.le_refl _, Nat.le_refl _⟩ rfl (Nat.le_of_ble_eq_true rfl) dX11_areNear_43 rfl (mX11_cells (l := l) (D := D) (cI := cI) (cZ := cZ) hc).1 (mX11_cells hc).2 ?_
    refine ev_icmp_ge (pc := 46) X 77 dX11_areNear_46 rfl (fun hc => ?_) (fun hc => ?_)
    · rw [if_pos hc] at h
      exact ev_weak (pc := 77) [0, 1, 2, 3, 4] rfl (sX11_areNear_77 hK5 _ _ _ _ _ _ _ h p e s m args below meth c r0 A X)
    · rw [if_neg hc] at h
      refine ev_iload_n (pc := 49) X 3 dX11_areNear_49 rfl rfl ?_
      refine ev_aload_n (pc := 50) X 0 dX11_areNear_50 rfl rfl ?_
      obtain ⟨v3, hv3, h⟩ := eBi h
      refine ev_getR (pc := 51) X hcX11 (k := 21) (by decide) kfX11_44 dX11_areNear_51 hv3 ?_
      refine ev_iload (pc := 54) X 5 dX11_areNear_54 rfl ?_
      obtain ⟨v4, hv4, h⟩ := eBi h
      refine ev_iald (pc := 56) X dX11_areNear_56 hv4 ?_
      refine ev_iload_n (pc := 57) X 2 dX11_areNear_57 rfl rfl ?_
      refine ev_icmp_gt (pc := 58) X 68 dX11_areNear_58 rfl (fun hc => ?_) (fun hc => ?_)
      · rw [if_pos hc] at h
        refine ev_iconst (pc := 68) (v := (0 : Int32)) X dX11_areNear_68 rfl ?_
        exact ev_weak (pc := 69) [0, 1, 2, 4, 5] rfl (sX11_areNear_69 hK5 (fun _ _ _ _ _ _ w r hh => ih _ _ _ _ _ _ w r hh) _ _ _ _ _ _ _ _ _ h p e s m args below meth c r0 A X)
      · rw [if_neg hc] at h
        refine ev_iconst (pc := 61) (v := (1 : Int32)) X dX11_areNear_61 rfl ?_
        refine ev_iload (pc := 62) X 5 dX11_areNear_62 rfl ?_
        refine ev_ishl (pc := 64) X dX11_areNear_64 ?_
        refine ev_goto (pc := 65) X 69 dX11_areNear_65 rfl ?_
        exact ev_weak (pc := 69) [0, 1, 2, 4, 5] rfl (sX11_areNear_69 hK5 (fun _ _ _ _ _ _ w r hh => ih _ _ _ _ _ _ w r hh) _ _ _ _ _ _ _ _ _ h p e s m args below meth c r0 A X)
def fX11_areNear_128 (K89 : Nat → Int32 → Int32 → Int32 → eW → Option (Int32 × eW)) (x0 : Nat) (x3 : Int32) (x5 : Int32) (t0 : Int32) (w : eW) : Option (Int32 × eW) := K89 x0 x3 t0 (x5 + (1 : Int32)) w
set_option maxRecDepth 20000 in
theorem sX11_areNear_128 {K89 : Nat → Int32 → Int32 → Int32 → eW → Option (Int32 × eW)} (hK89 : ∀ (x0 : Nat) (x3 : Int32) (x4 : Int32) (x5 : Int32) (w : eW) (r : Int32 × eW), K89 x0 x3 x4 x5 w = some r → eBN l D cI cZ 3 yX11_areNear cX11_areNear 6 (some .boolean) 89 [(0, .ref x0), (3, .int x3), (4, .int x4), (5, .int x5)] [] w (some (.int r.1)) r.2) (x0 : Nat) (x3 : Int32) (x5 : Int32) (t0 : Int32) (w : eW) (r : Int32 × eW) (h : fX11_areNear_128 K89 x0 x3 x5 t0 w = some r) : eBN l D cI cZ 3 yX11_areNear cX11_areNear 6 (some .boolean) 128 [(0, .ref x0), (3, .int x3), (5, .int x5)] [.int t0] w (some (.int r.1)) r.2 := by
  rw [fX11_areNear_128] at h
  intro p e s m args below meth c r0 A X
  refine ev_istore (pc := 128) (L' := [(4, .int t0), (0, .ref x0), (3, .int x3), (5, .int x5)]) X dX11_areNear_128 (by decide) rfl ?_
  refine ev_iinc (pc := 130) (v := x5 + (1 : Int32)) (L' := [(5, .int (x5 + (1 : Int32))), (4, .int t0), (0, .ref x0), (3, .int x3)]) X 3 dX11_areNear_130 rfl rfl (by decide) rfl ?_
  refine ev_goto (pc := 133) X 89 dX11_areNear_133 rfl ?_
  exact ev_weak (pc := 89) [2, 3, 1, 0] rfl (hK89 _ _ _ _ _ _ h p e s m args below meth c r0 A X)
def fX11_areNear_123 (K89 : Nat → Int32 → Int32 → Int32 → eW → Option (Int32 × eW)) (x0 : Nat) (x3 : Int32) (x5 : Int32) (w : eW) : Option (Int32 × eW) := fX11_areNear_128 K89 x0 x3 x5 (1 : Int32) w
set_option maxRecDepth 20000 in
theorem sX11_areNear_123 {K89 : Nat → Int32 → Int32 → Int32 → eW → Option (Int32 × eW)} (hK89 : ∀ (x0 : Nat) (x3 : Int32) (x4 : Int32) (x5 : Int32) (w : eW) (r : Int32 × eW), K89 x0 x3 x4 x5 w = some r → eBN l D cI cZ 3 yX11_areNear cX11_areNear 6 (some .boolean) 89 [(0, .ref x0), (3, .int x3), (4, .int x4), (5, .int x5)] [] w (some (.int r.1)) r.2) (x0 : Nat) (x3 : Int32) (x5 : Int32) (w : eW) (r : Int32 × eW) (h : fX11_areNear_123 K89 x0 x3 x5 w = some r) : eBN l D cI cZ 3 yX11_areNear cX11_areNear 6 (some .boolean) 123 [(0, .ref x0), (3, .int x3), (5, .int x5)] [] w (some (.int r.1)) r.2 := by
  rw [fX11_areNear_123] at h
  intro p e s m args below meth c r0 A X
  refine ev_iconst (pc := 123) (v := (1 : Int32)) X dX11_areNear_123 rfl ?_
  refine ev_goto (pc := 124) X 128 dX11_areNear_124 rfl ?_
  exact ev_weak (pc := 128) [0, 1, 2] rfl (sX11_areNear_128 hK89 _ _ _ _ _ _ h p e s m args below meth c r0 A X)
def fX11_areNear_127 (K89 : Nat → Int32 → Int32 → Int32 → eW → Option (Int32 × eW)) (x0 : Nat) (x3 : Int32) (x5 : Int32) (w : eW) : Option (Int32 × eW) := fX11_areNear_128 K89 x0 x3 x5 (0 : Int32) w
set_option maxRecDepth 20000 in
theorem sX11_areNear_127 {K89 : Nat → Int32 → Int32 → Int32 → eW → Option (Int32 × eW)} (hK89 : ∀ (x0 : Nat) (x3 : Int32) (x4 : Int32) (x5 : Int32) (w : eW) (r : Int32 × eW), K89 x0 x3 x4 x5 w = some r → eBN l D cI cZ 3 yX11_areNear cX11_areNear 6 (some .boolean) 89 [(0, .ref x0), (3, .int x3), (4, .int x4), (5, .int x5)] [] w (some (.int r.1)) r.2) (x0 : Nat) (x3 : Int32) (x5 : Int32) (w : eW) (r : Int32 × eW) (h : fX11_areNear_127 K89 x0 x3 x5 w = some r) : eBN l D cI cZ 3 yX11_areNear cX11_areNear 6 (some .boolean) 127 [(0, .ref x0), (3, .int x3), (5, .int x5)] [] w (some (.int r.1)) r.2 := by
  rw [fX11_areNear_127] at h
  intro p e s m args below meth c r0 A X
  refine ev_iconst (pc := 127) (v := (0 : Int32)) X dX11_areNear_127 rfl ?_
  exact ev_weak (pc := 128) [0, 1, 2] rfl (sX11_areNear_128 hK89 _ _ _ _ _ _ h p e s m args below meth c r0 A X)
def fX11_areNear_89 : Nat → Nat → Int32 → Int32 → Int32 → eW → Option (Int32 × eW)
  | 0, _, _, _, _, _ => none
  | n + 1, x0, x3, x4, x5, w => eBind2 (fX11_cells x0 w) fun v2 w1 => if v2 ≤ x5 then ((eZ x4).bind fun v3 => some (v3, w1)) else (if x4 = 0 then (fX11_areNear_127 (fX11_areNear_89 n) x0 x3 x5 w1) else ((eGR w1 x0 11 19).bind fun v4 => (eLd w1 false v4 x5).bind fun v5 => if v5 = 0 then (fX11_areNear_123 (fX11_areNear_89 n) x0 x3 x5 w1) else (if ((x3 >>> (x5 &&& 31)) &&& (1 : Int32)) = (1 : Int32) then (fX11_areNear_123 (fX11_areNear_89 n) x0 x3 x5 w1) else (fX11_areNear_127 (fX11_areNear_89 n) x0 x3 x5 w1))))
set_option maxRecDepth 20000 in
theorem sX11_areNear_89  : ∀ (n : Nat) (x0 : Nat) (x3 : Int32) (x4 : Int32) (x5 : Int32) (w : eW) (r : Int32 × eW), fX11_areNear_89 n x0 x3 x4 x5 w = some r → eBN l D cI cZ 3 yX11_areNear cX11_areNear 6 (some .boolean) 89 [(0, .ref x0), (3, .int x3), (4, .int x4), (5, .int x5)] [] w (some (.int r.1)) r.2 := by
  intro n
  induction n with
  | zero => intro x0 x3 x4 x5 w r h; exact absurd (show (none : Option (Int32 × eW)) = some r from h) (by simp)
  | succ n ih =>
    intro x0 x3 x4 x5 w r h
    rw [fX11_areNear_89] at h
    intro p e s m args below meth c r0 A X
    refine ev_iload (pc := 89) X 3 dX11_areNear_89 rfl ?_
    refine ev_aload_n (pc := 91) X 0 dX11_areNear_91 rfl rfl ?_
    obtain ⟨v2, w1, hc, h⟩ := eB2 h
    refine ev_callV_i (pc := 92) (As := []) (S := [.int x5]) X hwX11_cells klX11_116 hiX11_cells hsX11_cells (ci := 11) ⟨rfl, rfl⟩ ⟨Nat.le_of_ble_eq_true rfl, Nat.le_of_ble_eq_true rfl⟩ ⟨Nat.le_refl _, Nat.le_refl _⟩ rfl (Nat.le_of_ble_eq_true rfl) dX11_areNear_92 rfl (mX11_cells (l := l) (D := D) (cI := cI) (cZ := cZ) hc).1 (mX11_cells hc).2 ?_
    refine ev_icmp_ge (pc := 95) X 136 dX11_areNear_95 rfl (fun hc => ?_) (fun hc => ?_)
    · rw [if_pos hc] at h
      refine ev_iload (pc := 136) X 2 dX11_areNear_136 rfl ?_
      obtain ⟨v3, hv3, h⟩ := eBi h
      obtain rfl := Option.some.inj h
      exact ev_zret (pc := 138) X dX11_areNear_138 hv3
    · rw [if_neg hc] at h
      refine ev_iload (pc := 98) X 2 dX11_areNear_98 rfl ?_
      refine ev_if_eq (pc := 100) X 127 dX11_areNear_100 rfl (fun hc => ?_) (fun hc => ?_)
      · rw [if_pos hc] at h
        exact ev_weak (pc := 127) [0, 1, 3] rfl (sX11_areNear_127 (fun _ _ _ _ w r hh => ih _ _ _ _ w r hh) _ _ _ _ _ h p e s m args below meth c r0 A X)
      · rw [if_neg hc] at h
        refine ev_aload_n (pc := 103) X 0 dX11_areNear_103 rfl rfl ?_
        obtain ⟨v4, hv4, h⟩ := eBi h
        refine ev_getR (pc := 104) X hcX11 (k := 19) (by decide) kfX11_38 dX11_areNear_104 hv4 ?_
        refine ev_iload (pc := 107) X 3 dX11_areNear_107 rfl ?_
        obtain ⟨v5, hv5, h⟩ := eBi h
        refine ev_iald (pc := 109) X dX11_areNear_109 hv5 ?_
        refine ev_if_eq (pc := 110) X 123 dX11_areNear_110 rfl (fun hc => ?_) (fun hc => ?_)
        · rw [if_pos hc] at h
          exact ev_weak (pc := 123) [0, 1, 3] rfl (sX11_areNear_123 (fun _ _ _ _ w r hh => ih _ _ _ _ w r hh) _ _ _ _ _ h p e s m args below meth c r0 A X)
        · rw [if_neg hc] at h
          refine ev_iload_n (pc := 113) X 1 dX11_areNear_113 rfl rfl ?_
          refine ev_iload (pc := 114) X 3 dX11_areNear_114 rfl ?_
          refine ev_ishr (pc := 116) X dX11_areNear_116 ?_
          refine ev_iconst (pc := 117) (v := (1 : Int32)) X dX11_areNear_117 rfl ?_
          refine ev_iand (pc := 118) X dX11_areNear_118 ?_
          refine ev_iconst (pc := 119) (v := (1 : Int32)) X dX11_areNear_119 rfl ?_
          refine ev_icmp_ne (pc := 120) X 127 dX11_areNear_120 rfl (fun hc => ?_) (fun hc => ?_)
          · rw [if_neg hc] at h
            exact ev_weak (pc := 127) [0, 1, 3] rfl (sX11_areNear_127 (fun _ _ _ _ w r hh => ih _ _ _ _ w r hh) _ _ _ _ _ h p e s m args below meth c r0 A X)
          · rw [if_pos hc] at h
            exact ev_weak (pc := 123) [0, 1, 3] rfl (sX11_areNear_123 (fun _ _ _ _ w r hh => ih _ _ _ _ w r hh) _ _ _ _ _ h p e s m args below meth c r0 A X)
def fX11_areNear_5 : Nat → Nat → Int32 → Int32 → Int32 → Int32 → eW → Option (Int32 × eW)
  | 0, _, _, _, _, _, _ => none
  | n + 1, x0, x1, x2, x3, x4, w => (eGR w x0 11 9).bind fun v1 => (eLd w false v1 (2 : Int32)).bind fun v2 => if v2 ≤ x4 then (fX11_areNear_89 eN x0 x3 (1 : Int32) (0 : Int32) w) else (if ((x1 >>> (x4 &&& 31)) &&& (1 : Int32)) = (1 : Int32) then ((eGR w x0 11 11).bind fun v3 => (eLd w false v3 x4).bind fun v4 => (fX11_spreads x0 v4 w).bind fun w5 => fX11_areNear_40 (fX11_areNear_5 n) eN x0 x1 x2 x3 x4 (0 : Int32) w5) else (fX11_areNear_77 (fX11_areNear_5 n) x0 x1 x2 x3 x4 w))
set_option maxRecDepth 20000 in
theorem sX11_areNear_5  : ∀ (n : Nat) (x0 : Nat) (x1 : Int32) (x2 : Int32) (x3 : Int32) (x4 : Int32) (w : eW) (r : Int32 × eW), fX11_areNear_5 n x0 x1 x2 x3 x4 w = some r → eBN l D cI cZ 3 yX11_areNear cX11_areNear 6 (some .boolean) 5 [(0, .ref x0), (1, .int x1), (2, .int x2), (3, .int x3), (4, .int x4)] [] w (some (.int r.1)) r.2 := by
  intro n
  induction n with
  | zero => intro x0 x1 x2 x3 x4 w r h; exact absurd (show (none : Option (Int32 × eW)) = some r from h) (by simp)
  | succ n ih =>
    intro x0 x1 x2 x3 x4 w r h
    rw [fX11_areNear_5] at h
    intro p e s m args below meth c r0 A X
    refine ev_iload (pc := 5) X 4 dX11_areNear_5 rfl ?_
    refine ev_aload_n (pc := 7) X 0 dX11_areNear_7 rfl rfl ?_
    obtain ⟨v1, hv1, h⟩ := eBi h
    refine ev_getR (pc := 8) X hcX11 (k := 9) (by decide) kfX11_13 dX11_areNear_8 hv1 ?_
    refine ev_iconst (pc := 11) (v := (2 : Int32)) X dX11_areNear_11 rfl ?_
    obtain ⟨v2, hv2, h⟩ := eBi h
    refine ev_iald (pc := 12) X dX11_areNear_12 hv2 ?_
    refine ev_icmp_ge (pc := 13) X 83 dX11_areNear_13 rfl (fun hc => ?_) (fun hc => ?_)
    · rw [if_pos hc] at h
      refine ev_iconst (pc := 83) (v := (1 : Int32)) X dX11_areNear_83 rfl ?_
      refine ev_istore (pc := 84) (L' := [(4, .int (1 : Int32)), (0, .ref x0), (1, .int x1), (2, .int x2), (3, .int x3)]) X dX11_areNear_84 (by decide) rfl ?_
      refine ev_iconst (pc := 86) (v := (0 : Int32)) X dX11_areNear_86 rfl ?_
      refine ev_istore (pc := 87) (L' := [(5, .int (0 : Int32)), (4, .int (1 : Int32)), (0, .ref x0), (1, .int x1), (2, .int x2), (3, .int x3)]) X dX11_areNear_87 (by decide) rfl ?_
      exact ev_weak (pc := 89) [2, 5, 1, 0] rfl (sX11_areNear_89 eN _ _ _ _ _ _ h p e s m args below meth c r0 A X)
    · rw [if_neg hc] at h
      refine ev_iload_n (pc := 16) X 1 dX11_areNear_16 rfl rfl ?_
      refine ev_iload (pc := 17) X 4 dX11_areNear_17 rfl ?_
      refine ev_ishr (pc := 19) X dX11_areNear_19 ?_
      refine ev_iconst (pc := 20) (v := (1 : Int32)) X dX11_areNear_20 rfl ?_
      refine ev_iand (pc := 21) X dX11_areNear_21 ?_
      refine ev_iconst (pc := 22) (v := (1 : Int32)) X dX11_areNear_22 rfl ?_
      refine ev_icmp_ne (pc := 23) X 77 dX11_areNear_23 rfl (fun hc => ?_) (fun hc => ?_)
      · rw [if_neg hc] at h
        exact ev_weak (pc := 77) [0, 1, 2, 3, 4] rfl (sX11_areNear_77 (fun _ _ _ _ _ w r hh => ih _ _ _ _ _ w r hh) _ _ _ _ _ _ _ h p e s m args below meth c r0 A X)
      · rw [if_pos hc] at h
        refine ev_aload_n (pc := 26) X 0 dX11_areNear_26 rfl rfl ?_
        refine ev_aload_n (pc := 27) X 0 dX11_areNear_27 rfl rfl ?_
        obtain ⟨v3, hv3, h⟩ := eBi h
        refine ev_getR (pc := 28) X hcX11 (k := 11) (by decide) kfX11_19 dX11_areNear_28 hv3 ?_
        refine ev_iload (pc := 31) X 4 dX11_areNear_31 rfl ?_
        obtain ⟨v4, hv4, h⟩ := eBi h
        refine ev_iald (pc := 33) X dX11_areNear_33 hv4 ?_
        obtain ⟨w5, hc, h⟩ := eBi h
        refine ev_callV_v (pc := 34) (As := [.int v4]) (S := []) X hwX11_spreads klX11_157 hiX11_spreads hsX11_spreads (ci := 11) ⟨rfl, rfl⟩ ⟨Nat.le_of_ble_eq_true rfl, Nat.le_of_ble_eq_true rfl⟩ ⟨Nat.le_refl _, Nat.le_refl _⟩ rfl (Nat.le_of_ble_eq_true rfl) dX11_areNear_34 rfl (mX11_spreads (l := l) (D := D) (cI := cI) (cZ := cZ) hc).1 (mX11_spreads hc).2 ?_
        refine ev_iconst (pc := 37) (v := (0 : Int32)) X dX11_areNear_37 rfl ?_
        refine ev_istore (pc := 38) (L' := [(5, .int (0 : Int32)), (0, .ref x0), (1, .int x1), (2, .int x2), (3, .int x3), (4, .int x4)]) X dX11_areNear_38 (by decide) rfl ?_
        exact ev_weak (pc := 40) [1, 2, 3, 4, 5, 0] rfl (sX11_areNear_40 (fun _ _ _ _ _ w r hh => ih _ _ _ _ _ w r hh) eN _ _ _ _ _ _ _ _ h p e s m args below meth c r0 A X)
def fX11_areNear_0 (x0 : Nat) (x1 : Int32) (x2 : Int32) (w : eW) : Option (Int32 × eW) := fX11_areNear_5 eN x0 x1 x2 (0 : Int32) (0 : Int32) w
set_option maxRecDepth 20000 in
theorem sX11_areNear_0  (x0 : Nat) (x1 : Int32) (x2 : Int32) (w : eW) (r : Int32 × eW) (h : fX11_areNear_0 x0 x1 x2 w = some r) : eBN l D cI cZ 3 yX11_areNear cX11_areNear 6 (some .boolean) 0 [(0, .ref x0), (1, .int x1), (2, .int x2)] [] w (some (.int r.1)) r.2 := by
  rw [fX11_areNear_0] at h
  intro p e s m args below meth c r0 A X
  refine ev_iconst (pc := 0) (v := (0 : Int32)) X dX11_areNear_0 rfl ?_
  refine ev_istore_n (pc := 1) (L' := [(3, .int (0 : Int32)), (0, .ref x0), (1, .int x1), (2, .int x2)]) X dX11_areNear_1 rfl (by decide) rfl ?_
  refine ev_iconst (pc := 2) (v := (0 : Int32)) X dX11_areNear_2 rfl ?_
  refine ev_istore (pc := 3) (L' := [(4, .int (0 : Int32)), (3, .int (0 : Int32)), (0, .ref x0), (1, .int x1), (2, .int x2)]) X dX11_areNear_3 (by decide) rfl ?_
  exact ev_weak (pc := 5) [2, 3, 4, 1, 0] rfl (sX11_areNear_5 eN _ _ _ _ _ _ _ h p e s m args below meth c r0 A X)
def fX11_areNear (a0 : Nat) (a1 : Int32) (a2 : Int32) (w : eW) : Option (Int32 × eW) := bif eO w a0 11 then fX11_areNear_0 a0 a1 a2 w else none
theorem mX11_areNear {a0 : Nat} {a1 : Int32} {a2 : Int32} {w : eW} {v : Int32} {w' : eW} (h : fX11_areNear a0 a1 a2 w = some (v, w')) : eO w a0 11 = true ∧ eMN l D cI cZ 3 yX11_areNear cX11_areNear 6 (some .boolean) [.ref a0, .int a1, .int a2] w (some (.int v)) w' := by
  obtain ⟨h0, h⟩ := eBif h
  exact ⟨h0, eMN_of [(0, .ref a0), (1, .int a1), (2, .int a2)] (plainFor_of_name (by decide)) (fun _ => rfl) (fun _ => Nat.le_of_ble_eq_true rfl) (fun p e s m args below meth c r0 A X => ev_weak (pc := 0) [0, 1, 2] rfl (sX11_areNear_0 _ _ _ _ _ h p e s m args below meth c r0 A X))⟩
theorem dX11_darners_0 : decode cX11_darners 0 = .ok (.aload_n 0, 1) := by decide +kernel
theorem dX11_darners_1 : decode cX11_darners 1 = .ok (.iconst 0, 1) := by decide +kernel
theorem dX11_darners_2 : decode cX11_darners 2 = .ok (.putfield 50, 3) := by decide +kernel
theorem dX11_darners_5 : decode cX11_darners 5 = .ok (.iload_n 1, 1) := by decide +kernel
theorem dX11_darners_6 : decode cX11_darners 6 = .ok (.iconst 0, 1) := by decide +kernel
theorem dX11_darners_7 : decode cX11_darners 7 = .ok (.bipush 20, 2) := by decide +kernel
theorem dX11_darners_9 : decode cX11_darners 9 = .ok (.invokestatic 54, 3) := by decide +kernel
theorem dX11_darners_12 : decode cX11_darners 12 = .ok (.ifCond .ne 5, 3) := by decide +kernel
theorem dX11_darners_15 : decode cX11_darners 15 = .ok (.iconst (-1), 1) := by decide +kernel
theorem dX11_darners_16 : decode cX11_darners 16 = .ok (.ireturn, 1) := by decide +kernel
theorem dX11_darners_17 : decode cX11_darners 17 = .ok (.aload_n 0, 1) := by decide +kernel
theorem dX11_darners_18 : decode cX11_darners 18 = .ok (.aload_n 0, 1) := by decide +kernel
theorem dX11_darners_19 : decode cX11_darners 19 = .ok (.getfield 22, 3) := by decide +kernel
theorem dX11_darners_22 : decode cX11_darners 22 = .ok (.invokevirtual 152, 3) := by decide +kernel
theorem dX11_darners_25 : decode cX11_darners 25 = .ok (.bipush (-9), 2) := by decide +kernel
theorem dX11_darners_27 : decode cX11_darners 27 = .ok (.istore_n 2, 1) := by decide +kernel
theorem dX11_darners_28 : decode cX11_darners 28 = .ok (.iconst 0, 1) := by decide +kernel
theorem dX11_darners_29 : decode cX11_darners 29 = .ok (.istore_n 3, 1) := by decide +kernel
theorem dX11_darners_30 : decode cX11_darners 30 = .ok (.iload_n 3, 1) := by decide +kernel
theorem dX11_darners_31 : decode cX11_darners 31 = .ok (.iconst 1, 1) := by decide +kernel
theorem dX11_darners_32 : decode cX11_darners 32 = .ok (.aload_n 0, 1) := by decide +kernel
theorem dX11_darners_33 : decode cX11_darners 33 = .ok (.getfield 13, 3) := by decide +kernel
theorem dX11_darners_36 : decode cX11_darners 36 = .ok (.iconst 2, 1) := by decide +kernel
theorem dX11_darners_37 : decode cX11_darners 37 = .ok (.iaload, 1) := by decide +kernel
theorem dX11_darners_38 : decode cX11_darners 38 = .ok (.ishl, 1) := by decide +kernel
theorem dX11_darners_39 : decode cX11_darners 39 = .ok (.if_icmp .ge 41, 3) := by decide +kernel
theorem dX11_darners_42 : decode cX11_darners 42 = .ok (.iload_n 2, 1) := by decide +kernel
theorem dX11_darners_43 : decode cX11_darners 43 = .ok (.bipush (-9), 2) := by decide +kernel
theorem dX11_darners_45 : decode cX11_darners 45 = .ok (.if_icmp .eq 14, 3) := by decide +kernel
theorem dX11_darners_48 : decode cX11_darners 48 = .ok (.iload_n 3, 1) := by decide +kernel
theorem dX11_darners_49 : decode cX11_darners 49 = .ok (.invokestatic 194, 3) := by decide +kernel
theorem dX11_darners_52 : decode cX11_darners 52 = .ok (.iload_n 2, 1) := by decide +kernel
theorem dX11_darners_53 : decode cX11_darners 53 = .ok (.invokestatic 194, 3) := by decide +kernel
theorem dX11_darners_56 : decode cX11_darners 56 = .ok (.if_icmp .ge 16, 3) := by decide +kernel
theorem dX11_darners_59 : decode cX11_darners 59 = .ok (.aload_n 0, 1) := by decide +kernel
theorem dX11_darners_60 : decode cX11_darners 60 = .ok (.iload_n 3, 1) := by decide +kernel
theorem dX11_darners_61 : decode cX11_darners 61 = .ok (.iload_n 1, 1) := by decide +kernel
theorem dX11_darners_62 : decode cX11_darners 62 = .ok (.invokevirtual 197, 3) := by decide +kernel
theorem dX11_darners_65 : decode cX11_darners 65 = .ok (.ifCond .eq 7, 3) := by decide +kernel
theorem dX11_darners_68 : decode cX11_darners 68 = .ok (.iload_n 3, 1) := by decide +kernel
theorem dX11_darners_69 : decode cX11_darners 69 = .ok (.goto 4, 3) := by decide +kernel
theorem dX11_darners_72 : decode cX11_darners 72 = .ok (.iload_n 2, 1) := by decide +kernel
theorem dX11_darners_73 : decode cX11_darners 73 = .ok (.istore_n 2, 1) := by decide +kernel
theorem dX11_darners_74 : decode cX11_darners 74 = .ok (.iinc 3 1, 3) := by decide +kernel
theorem dX11_darners_77 : decode cX11_darners 77 = .ok (.goto (-47), 3) := by decide +kernel
theorem dX11_darners_80 : decode cX11_darners 80 = .ok (.iload_n 2, 1) := by decide +kernel
theorem dX11_darners_81 : decode cX11_darners 81 = .ok (.ireturn, 1) := by decide +kernel
def fX11_darners_73 (K30 : Nat → Int32 → Int32 → Int32 → eW → Option (Int32 × eW)) (x0 : Nat) (x1 : Int32) (x3 : Int32) (t0 : Int32) (w : eW) : Option (Int32 × eW) := K30 x0 x1 t0 (x3 + (1 : Int32)) w
set_option maxRecDepth 20000 in
theorem sX11_darners_73 {K30 : Nat → Int32 → Int32 → Int32 → eW → Option (Int32 × eW)} (hK30 : ∀ (x0 : Nat) (x1 : Int32) (x2 : Int32) (x3 : Int32) (w : eW) (r : Int32 × eW), K30 x0 x1 x2 x3 w = some r → eBN l D cI cZ 4 yX11_darners cX11_darners 4 (some .int) 30 [(0, .ref x0), (1, .int x1), (2, .int x2), (3, .int x3)] [] w (some (.int r.1)) r.2) (x0 : Nat) (x1 : Int32) (x3 : Int32) (t0 : Int32) (w : eW) (r : Int32 × eW) (h : fX11_darners_73 K30 x0 x1 x3 t0 w = some r) : eBN l D cI cZ 4 yX11_darners cX11_darners 4 (some .int) 73 [(0, .ref x0), (1, .int x1), (3, .int x3)] [.int t0] w (some (.int r.1)) r.2 := by
  rw [fX11_darners_73] at h
  intro p e s m args below meth c r0 A X
  refine ev_istore_n (pc := 73) (L' := [(2, .int t0), (0, .ref x0), (1, .int x1), (3, .int x3)]) X dX11_darners_73 rfl (by decide) rfl ?_
  refine ev_iinc (pc := 74) (v := x3 + (1 : Int32)) (L' := [(3, .int (x3 + (1 : Int32))), (2, .int t0), (0, .ref x0), (1, .int x1)]) X 3 dX11_darners_74 rfl rfl (by decide) rfl ?_
  refine ev_goto (pc := 77) X 30 dX11_darners_77 rfl ?_
  exact ev_weak (pc := 30) [2, 3, 1, 0] rfl (hK30 _ _ _ _ _ _ h p e s m args below meth c r0 A X)
def fX11_darners_72 (K30 : Nat → Int32 → Int32 → Int32 → eW → Option (Int32 × eW)) (x0 : Nat) (x1 : Int32) (x2 : Int32) (x3 : Int32) (w : eW) : Option (Int32 × eW) := fX11_darners_73 K30 x0 x1 x3 x2 w
set_option maxRecDepth 20000 in
theorem sX11_darners_72 {K30 : Nat → Int32 → Int32 → Int32 → eW → Option (Int32 × eW)} (hK30 : ∀ (x0 : Nat) (x1 : Int32) (x2 : Int32) (x3 : Int32) (w : eW) (r : Int32 × eW), K30 x0 x1 x2 x3 w = some r → eBN l D cI cZ 4 yX11_darners cX11_darners 4 (some .int) 30 [(0, .ref x0), (1, .int x1), (2, .int x2), (3, .int x3)] [] w (some (.int r.1)) r.2) (x0 : Nat) (x1 : Int32) (x2 : Int32) (x3 : Int32) (w : eW) (r : Int32 × eW) (h : fX11_darners_72 K30 x0 x1 x2 x3 w = some r) : eBN l D cI cZ 4 yX11_darners cX11_darners 4 (some .int) 72 [(0, .ref x0), (1, .int x1), (2, .int x2), (3, .int x3)] [] w (some (.int r.1)) r.2 := by
  rw [fX11_darners_72] at h
  intro p e s m args below meth c r0 A X
  refine ev_iload_n (pc := 72) X 2 dX11_darners_72 rfl rfl ?_
  exact ev_weak (pc := 73) [0, 1, 3] rfl (sX11_darners_73 hK30 _ _ _ _ _ _ h p e s m args below meth c r0 A X)
def fX11_darners_59 (K30 : Nat → Int32 → Int32 → Int32 → eW → Option (Int32 × eW)) (x0 : Nat) (x1 : Int32) (x2 : Int32) (x3 : Int32) (w : eW) : Option (Int32 × eW) := eBind2 (fX11_areNear x0 x3 x1 w) fun v2 w1 => if v2 = 0 then (fX11_darners_72 K30 x0 x1 x2 x3 w1) else (fX11_darners_73 K30 x0 x1 x3 x3 w1)
set_option maxRecDepth 20000 in
theorem sX11_darners_59 {K30 : Nat → Int32 → Int32 → Int32 → eW → Option (Int32 × eW)} (hK30 : ∀ (x0 : Nat) (x1 : Int32) (x2 : Int32) (x3 : Int32) (w : eW) (r : Int32 × eW), K30 x0 x1 x2 x3 w = some r → eBN l D cI cZ 4 yX11_darners cX11_darners 4 (some .int) 30 [(0, .ref x0), (1, .int x1), (2, .int x2), (3, .int x3)] [] w (some (.int r.1)) r.2) (x0 : Nat) (x1 : Int32) (x2 : Int32) (x3 : Int32) (w : eW) (r : Int32 × eW) (h : fX11_darners_59 K30 x0 x1 x2 x3 w = some r) : eBN l D cI cZ 4 yX11_darners cX11_darners 4 (some .int) 59 [(0, .ref x0), (1, .int x1), (2, .int x2), (3, .int x3)] [] w (some (.int r.1)) r.2 := by
  rw [fX11_darners_59] at h
  intro p e s m args below meth c r0 A X
  refine ev_aload_n (pc := 59) X 0 dX11_darners_59 rfl rfl ?_
  refine ev_iload_n (pc := 60) X 3 dX11_darners_60 rfl rfl ?_
  refine ev_iload_n (pc := 61) X 1 dX11_darners_61 rfl rfl ?_
  obtain ⟨v2, w1, hc, h⟩ := eB2 h
  refine ev_callV_i (pc := 62) (As := [.int x3, .int x1]) (S := []) X hwX11_areNear klX11_197 hiX11_areNear hsX11_areNear (ci := 11) ⟨rfl, rfl⟩ ⟨Nat.le_of_ble_eq_true rfl, Nat.le_of_ble_eq_true rfl⟩ ⟨Nat.le_refl _, Nat.le_refl _⟩ rfl (Nat.le_of_ble_eq_true rfl) dX11_darners_62 rfl (mX11_areNear (l := l) (D := D) (cI := cI) (cZ := cZ) hc).1 (mX11_areNear hc).2 ?_
  refine ev_if_eq (pc := 65) X 72 dX11_darners_65 rfl (fun hc => ?_) (fun hc => ?_)
  · rw [if_pos hc] at h
    exact ev_weak (pc := 72) [0, 1, 2, 3] rfl (sX11_darners_72 hK30 _ _ _ _ _ _ h p e s m args below meth c r0 A X)
  · rw [if_neg hc] at h
    refine ev_iload_n (pc := 68) X 3 dX11_darners_68 rfl rfl ?_
    refine ev_goto (pc := 69) X 73 dX11_darners_69 rfl ?_
    exact ev_weak (pc := 73) [0, 1, 3] rfl (sX11_darners_73 hK30 _ _ _ _ _ _ h p e s m args below meth c r0 A X)
def fX11_darners_30 : Nat → Nat → Int32 → Int32 → Int32 → eW → Option (Int32 × eW)
  | 0, _, _, _, _, _ => none
  | n + 1, x0, x1, x2, x3, w => (eGR w x0 11 9).bind fun v1 => (eLd w false v1 (2 : Int32)).bind fun v2 => if ((1 : Int32) <<< (v2 &&& 31)) ≤ x3 then (some (x2, w)) else (if x2 = (-9 : Int32) then (fX11_darners_59 (fX11_darners_30 n) x0 x1 x2 x3 w) else (eBind2 (fX11_ones x3 w) fun v4 w3 => eBind2 (fX11_ones x2 w3) fun v6 w5 => if v6 ≤ v4 then (fX11_darners_72 (fX11_darners_30 n) x0 x1 x2 x3 w5) else (fX11_darners_59 (fX11_darners_30 n) x0 x1 x2 x3 w5)))
set_option maxRecDepth 20000 in
theorem sX11_darners_30  : ∀ (n : Nat) (x0 : Nat) (x1 : Int32) (x2 : Int32) (x3 : Int32) (w : eW) (r : Int32 × eW), fX11_darners_30 n x0 x1 x2 x3 w = some r → eBN l D cI cZ 4 yX11_darners cX11_darners 4 (some .int) 30 [(0, .ref x0), (1, .int x1), (2, .int x2), (3, .int x3)] [] w (some (.int r.1)) r.2 := by
  intro n
  induction n with
  | zero => intro x0 x1 x2 x3 w r h; exact absurd (show (none : Option (Int32 × eW)) = some r from h) (by simp)
  | succ n ih =>
    intro x0 x1 x2 x3 w r h
    rw [fX11_darners_30] at h
    intro p e s m args below meth c r0 A X
    refine ev_iload_n (pc := 30) X 3 dX11_darners_30 rfl rfl ?_
    refine ev_iconst (pc := 31) (v := (1 : Int32)) X dX11_darners_31 rfl ?_
    refine ev_aload_n (pc := 32) X 0 dX11_darners_32 rfl rfl ?_
    obtain ⟨v1, hv1, h⟩ := eBi h
    refine ev_getR (pc := 33) X hcX11 (k := 9) (by decide) kfX11_13 dX11_darners_33 hv1 ?_
    refine ev_iconst (pc := 36) (v := (2 : Int32)) X dX11_darners_36 rfl ?_
    obtain ⟨v2, hv2, h⟩ := eBi h
    refine ev_iald (pc := 37) X dX11_darners_37 hv2 ?_
    refine ev_ishl (pc := 38) X dX11_darners_38 ?_
    refine ev_icmp_ge (pc := 39) X 80 dX11_darners_39 rfl (fun hc => ?_) (fun hc => ?_)
    · rw [if_pos hc] at h
      refine ev_iload_n (pc := 80) X 2 dX11_darners_80 rfl rfl ?_
      obtain rfl := Option.some.inj h
      exact ev_iret (pc := 81) X dX11_darners_81
    · rw [if_neg hc] at h
      refine ev_iload_n (pc := 42) X 2 dX11_darners_42 rfl rfl ?_
      refine ev_bipush (pc := 43) (v := (-9 : Int32)) X dX11_darners_43 rfl ?_
      refine ev_icmp_eq (pc := 45) X 59 dX11_darners_45 rfl (fun hc => ?_) (fun hc => ?_)
      · rw [if_pos hc] at h
        exact ev_weak (pc := 59) [0, 1, 2, 3] rfl (sX11_darners_59 (fun _ _ _ _ w r hh => ih _ _ _ _ w r hh) _ _ _ _ _ _ h p e s m args below meth c r0 A X)
      · rw [if_neg hc] at h
        refine ev_iload_n (pc := 48) X 3 dX11_darners_48 rfl rfl ?_
        obtain ⟨v4, w3, hc, h⟩ := eB2 h
        refine ev_callS_i (pc := 49) (As := [.int x3]) (S := []) X hwX11_ones klX11_194 htX11_ones ⟨Nat.le_of_ble_eq_true rfl, Nat.le_of_ble_eq_true rfl⟩ ⟨Nat.le_refl _, Nat.le_refl _⟩ rfl (Nat.le_of_ble_eq_true rfl) dX11_darners_49 rfl (mX11_ones hc) ?_
        refine ev_iload_n (pc := 52) X 2 dX11_darners_52 rfl rfl ?_
        obtain ⟨v6, w5, hc, h⟩ := eB2 h
        refine ev_callS_i (pc := 53) (As := [.int x2]) (S := [.int v4]) X hwX11_ones klX11_194 htX11_ones ⟨Nat.le_of_ble_eq_true rfl, Nat.le_of_ble_eq_true rfl⟩ ⟨Nat.le_refl _, Nat.le_refl _⟩ rfl (Nat.le_of_ble_eq_true rfl) dX11_darners_53 rfl (mX11_ones hc) ?_
        refine ev_icmp_ge (pc := 56) X 72 dX11_darners_56 rfl (fun hc => ?_) (fun hc => ?_)
        · rw [if_pos hc] at h
          exact ev_weak (pc := 72) [0, 1, 2, 3] rfl (sX11_darners_72 (fun _ _ _ _ w r hh => ih _ _ _ _ w r hh) _ _ _ _ _ _ h p e s m args below meth c r0 A X)
        · rw [if_neg hc] at h
          exact ev_weak (pc := 59) [0, 1, 2, 3] rfl (sX11_darners_59 (fun _ _ _ _ w r hh => ih _ _ _ _ w r hh) _ _ _ _ _ _ h p e s m args below meth c r0 A X)
def fX11_darners_0 (x0 : Nat) (x1 : Int32) (w : eW) : Option (Int32 × eW) := (eP w x0 11 0 (.int (0 : Int32))).bind fun w1 => eBind2 (fX11_in x1 (0 : Int32) (20 : Int32) w1) fun v3 w2 => if v3 = 0 then (some ((-1 : Int32), w2)) else ((eGR w2 x0 11 13).bind fun v4 => (fX11_builds x0 v4 w2).bind fun w5 => fX11_darners_30 eN x0 x1 (-9 : Int32) (0 : Int32) w5)
set_option maxRecDepth 20000 in
theorem sX11_darners_0  (x0 : Nat) (x1 : Int32) (w : eW) (r : Int32 × eW) (h : fX11_darners_0 x0 x1 w = some r) : eBN l D cI cZ 4 yX11_darners cX11_darners 4 (some .int) 0 [(0, .ref x0), (1, .int x1)] [] w (some (.int r.1)) r.2 := by
  rw [fX11_darners_0] at h
  intro p e s m args below meth c r0 A X
  refine ev_aload_n (pc := 0) X 0 dX11_darners_0 rfl rfl ?_
  refine ev_iconst (pc := 1) (v := (0 : Int32)) X dX11_darners_1 rfl ?_
  obtain ⟨w1, hw1, h⟩ := eBi h
  refine ev_putI (pc := 2) X hcX11 (k := 0) (by decide) kfX11_50 rfl rfl dX11_darners_2 hw1 ?_
  refine ev_iload_n (pc := 5) X 1 dX11_darners_5 rfl rfl ?_
  refine ev_iconst (pc := 6) (v := (0 : Int32)) X dX11_darners_6 rfl ?_
  refine ev_bipush (pc := 7) (v := (20 : Int32)) X dX11_darners_7 rfl ?_
  obtain ⟨v3, w2, hc, h⟩ := eB2 h
  refine ev_callS_i (pc := 9) (As := [.int x1, .int (0 : Int32), .int (20 : Int32)]) (S := []) X hwX11_in klX11_54 htX11_in ⟨Nat.le_of_ble_eq_true rfl, Nat.le_of_ble_eq_true rfl⟩ ⟨Nat.le_refl _, Nat.le_refl _⟩ rfl (Nat.le_of_ble_eq_true rfl) dX11_darners_9 rfl (mX11_in hc) ?_
  refine ev_if_ne (pc := 12) X 17 dX11_darners_12 rfl (fun hc => ?_) (fun hc => ?_)
  · rw [if_neg hc] at h
    refine ev_aload_n (pc := 17) X 0 dX11_darners_17 rfl rfl ?_
    refine ev_aload_n (pc := 18) X 0 dX11_darners_18 rfl rfl ?_
    obtain ⟨v4, hv4, h⟩ := eBi h
    refine ev_getR (pc := 19) X hcX11 (k := 13) (by decide) kfX11_22 dX11_darners_19 hv4 ?_
    obtain ⟨w5, hc, h⟩ := eBi h
    refine ev_callV_v (pc := 22) (As := [.ref v4]) (S := []) X hwX11_builds klX11_152 hiX11_builds hsX11_builds (ci := 11) ⟨rfl, rfl⟩ ⟨Nat.le_of_ble_eq_true rfl, Nat.le_of_ble_eq_true rfl⟩ ⟨Nat.le_refl _, Nat.le_refl _⟩ rfl (Nat.le_of_ble_eq_true rfl) dX11_darners_22 rfl (mX11_builds (l := l) (D := D) (cI := cI) (cZ := cZ) hc).1 (mX11_builds hc).2 ?_
    refine ev_bipush (pc := 25) (v := (-9 : Int32)) X dX11_darners_25 rfl ?_
    refine ev_istore_n (pc := 27) (L' := [(2, .int (-9 : Int32)), (0, .ref x0), (1, .int x1)]) X dX11_darners_27 rfl (by decide) rfl ?_
    refine ev_iconst (pc := 28) (v := (0 : Int32)) X dX11_darners_28 rfl ?_
    refine ev_istore_n (pc := 29) (L' := [(3, .int (0 : Int32)), (2, .int (-9 : Int32)), (0, .ref x0), (1, .int x1)]) X dX11_darners_29 rfl (by decide) rfl ?_
    exact ev_weak (pc := 30) [2, 3, 1, 0] rfl (sX11_darners_30 eN _ _ _ _ _ _ h p e s m args below meth c r0 A X)
  · rw [if_pos hc] at h
    refine ev_iconst (pc := 15) (v := (-1 : Int32)) X dX11_darners_15 rfl ?_
    obtain rfl := Option.some.inj h
    exact ev_iret (pc := 16) X dX11_darners_16
def fX11_darners (a0 : Nat) (a1 : Int32) (w : eW) : Option (Int32 × eW) := bif eO w a0 11 then fX11_darners_0 a0 a1 w else none
theorem mX11_darners {a0 : Nat} {a1 : Int32} {w : eW} {v : Int32} {w' : eW} (h : fX11_darners a0 a1 w = some (v, w')) : eO w a0 11 = true ∧ eMN l D cI cZ 4 yX11_darners cX11_darners 4 (some .int) [.ref a0, .int a1] w (some (.int v)) w' := by
  obtain ⟨h0, h⟩ := eBif h
  exact ⟨h0, eMN_of [(0, .ref a0), (1, .int a1)] (plainFor_of_name (by decide)) (fun _ => rfl) (fun _ => Nat.le_of_ble_eq_true rfl) (fun p e s m args below meth c r0 A X => ev_weak (pc := 0) [0, 1] rfl (sX11_darners_0 _ _ _ _ h p e s m args below meth c r0 A X))⟩
theorem dX11_power_0 : decode cX11_power 0 = .ok (.iconst 1, 1) := by decide +kernel
theorem dX11_power_1 : decode cX11_power 1 = .ok (.istore_n 2, 1) := by decide +kernel
theorem dX11_power_2 : decode cX11_power 2 = .ok (.iconst 0, 1) := by decide +kernel
theorem dX11_power_3 : decode cX11_power 3 = .ok (.istore_n 3, 1) := by decide +kernel
theorem dX11_power_4 : decode cX11_power 4 = .ok (.iload_n 3, 1) := by decide +kernel
theorem dX11_power_5 : decode cX11_power 5 = .ok (.iload_n 1, 1) := by decide +kernel
theorem dX11_power_6 : decode cX11_power 6 = .ok (.if_icmp .ge 13, 3) := by decide +kernel
theorem dX11_power_9 : decode cX11_power 9 = .ok (.iload_n 2, 1) := by decide +kernel
theorem dX11_power_10 : decode cX11_power 10 = .ok (.iload_n 0, 1) := by decide +kernel
theorem dX11_power_11 : decode cX11_power 11 = .ok (.imul, 1) := by decide +kernel
theorem dX11_power_12 : decode cX11_power 12 = .ok (.istore_n 2, 1) := by decide +kernel
theorem dX11_power_13 : decode cX11_power 13 = .ok (.iinc 3 1, 3) := by decide +kernel
theorem dX11_power_16 : decode cX11_power 16 = .ok (.goto (-12), 3) := by decide +kernel
theorem dX11_power_19 : decode cX11_power 19 = .ok (.iload_n 2, 1) := by decide +kernel
theorem dX11_power_20 : decode cX11_power 20 = .ok (.ireturn, 1) := by decide +kernel
def fX11_power_4 : Nat → Int32 → Int32 → Int32 → Int32 → eW → Option (Int32 × eW)
  | 0, _, _, _, _, _ => none
  | n + 1, x0, x1, x2, x3, w => if x1 ≤ x3 then (some (x2, w)) else (fX11_power_4 n x0 x1 (x2 * x0) (x3 + (1 : Int32)) w)
set_option maxRecDepth 20000 in
theorem sX11_power_4  : ∀ (n : Nat) (x0 : Int32) (x1 : Int32) (x2 : Int32) (x3 : Int32) (w : eW) (r : Int32 × eW), fX11_power_4 n x0 x1 x2 x3 w = some r → eBN l D cI cZ 0 yX11_power cX11_power 4 (some .int) 4 [(0, .int x0), (1, .int x1), (2, .int x2), (3, .int x3)] [] w (some (.int r.1)) r.2 := by
  intro n
  induction n with
  | zero => intro x0 x1 x2 x3 w r h; exact absurd (show (none : Option (Int32 × eW)) = some r from h) (by simp)
  | succ n ih =>
    intro x0 x1 x2 x3 w r h
    rw [fX11_power_4] at h
    intro p e s m args below meth c r0 A X
    refine ev_iload_n (pc := 4) X 3 dX11_power_4 rfl rfl ?_
    refine ev_iload_n (pc := 5) X 1 dX11_power_5 rfl rfl ?_
    refine ev_icmp_ge (pc := 6) X 19 dX11_power_6 rfl (fun hc => ?_) (fun hc => ?_)
    · rw [if_pos hc] at h
      refine ev_iload_n (pc := 19) X 2 dX11_power_19 rfl rfl ?_
      obtain rfl := Option.some.inj h
      exact ev_iret (pc := 20) X dX11_power_20
    · rw [if_neg hc] at h
      refine ev_iload_n (pc := 9) X 2 dX11_power_9 rfl rfl ?_
      refine ev_iload_n (pc := 10) X 0 dX11_power_10 rfl rfl ?_
      refine ev_imul (pc := 11) X dX11_power_11 ?_
      refine ev_istore_n (pc := 12) (L' := [(2, .int (x2 * x0)), (0, .int x0), (1, .int x1), (3, .int x3)]) X dX11_power_12 rfl (by decide) rfl ?_
      refine ev_iinc (pc := 13) (v := x3 + (1 : Int32)) (L' := [(3, .int (x3 + (1 : Int32))), (2, .int (x2 * x0)), (0, .int x0), (1, .int x1)]) X 3 dX11_power_13 rfl rfl (by decide) rfl ?_
      refine ev_goto (pc := 16) X 4 dX11_power_16 rfl ?_
      exact ev_weak (pc := 4) [2, 3, 1, 0] rfl (ih _ _ _ _ _ _ h p e s m args below meth c r0 A X)
def fX11_power_0 (x0 : Int32) (x1 : Int32) (w : eW) : Option (Int32 × eW) := fX11_power_4 eN x0 x1 (1 : Int32) (0 : Int32) w
set_option maxRecDepth 20000 in
theorem sX11_power_0  (x0 : Int32) (x1 : Int32) (w : eW) (r : Int32 × eW) (h : fX11_power_0 x0 x1 w = some r) : eBN l D cI cZ 0 yX11_power cX11_power 4 (some .int) 0 [(0, .int x0), (1, .int x1)] [] w (some (.int r.1)) r.2 := by
  rw [fX11_power_0] at h
  intro p e s m args below meth c r0 A X
  refine ev_iconst (pc := 0) (v := (1 : Int32)) X dX11_power_0 rfl ?_
  refine ev_istore_n (pc := 1) (L' := [(2, .int (1 : Int32)), (0, .int x0), (1, .int x1)]) X dX11_power_1 rfl (by decide) rfl ?_
  refine ev_iconst (pc := 2) (v := (0 : Int32)) X dX11_power_2 rfl ?_
  refine ev_istore_n (pc := 3) (L' := [(3, .int (0 : Int32)), (2, .int (1 : Int32)), (0, .int x0), (1, .int x1)]) X dX11_power_3 rfl (by decide) rfl ?_
  exact ev_weak (pc := 4) [2, 3, 1, 0] rfl (sX11_power_4 eN _ _ _ _ _ _ h p e s m args below meth c r0 A X)
def fX11_power (a0 : Int32) (a1 : Int32) (w : eW) : Option (Int32 × eW) := fX11_power_0 a0 a1 w
theorem mX11_power {a0 : Int32} {a1 : Int32} {w : eW} {v : Int32} {w' : eW} (h : fX11_power a0 a1 w = some (v, w')) : eMN l D cI cZ 0 yX11_power cX11_power 4 (some .int) [.int a0, .int a1] w (some (.int v)) w' :=
  eMN_of [(0, .int a0), (1, .int a1)] (plainFor_of_name (by decide)) (fun _ => rfl) (fun _ => Nat.le_of_ble_eq_true rfl) (fun p e s m args below meth c r0 A X => ev_weak (pc := 0) [0, 1] rfl (sX11_power_0 _ _ _ _ h p e s m args below meth c r0 A X))
theorem dX11_choose_0 : decode cX11_choose 0 = .ok (.iconst 1, 1) := by decide +kernel
theorem dX11_choose_1 : decode cX11_choose 1 = .ok (.istore_n 2, 1) := by decide +kernel
theorem dX11_choose_2 : decode cX11_choose 2 = .ok (.iconst 0, 1) := by decide +kernel
theorem dX11_choose_3 : decode cX11_choose 3 = .ok (.istore_n 3, 1) := by decide +kernel
theorem dX11_choose_4 : decode cX11_choose 4 = .ok (.iload_n 3, 1) := by decide +kernel
theorem dX11_choose_5 : decode cX11_choose 5 = .ok (.iload_n 1, 1) := by decide +kernel
theorem dX11_choose_6 : decode cX11_choose 6 = .ok (.if_icmp .ge 19, 3) := by decide +kernel
theorem dX11_choose_9 : decode cX11_choose 9 = .ok (.iload_n 2, 1) := by decide +kernel
theorem dX11_choose_10 : decode cX11_choose 10 = .ok (.iload_n 0, 1) := by decide +kernel
theorem dX11_choose_11 : decode cX11_choose 11 = .ok (.iload_n 3, 1) := by decide +kernel
theorem dX11_choose_12 : decode cX11_choose 12 = .ok (.isub, 1) := by decide +kernel
theorem dX11_choose_13 : decode cX11_choose 13 = .ok (.imul, 1) := by decide +kernel
theorem dX11_choose_14 : decode cX11_choose 14 = .ok (.iload_n 3, 1) := by decide +kernel
theorem dX11_choose_15 : decode cX11_choose 15 = .ok (.iconst 1, 1) := by decide +kernel
theorem dX11_choose_16 : decode cX11_choose 16 = .ok (.iadd, 1) := by decide +kernel
theorem dX11_choose_17 : decode cX11_choose 17 = .ok (.idiv, 1) := by decide +kernel
theorem dX11_choose_18 : decode cX11_choose 18 = .ok (.istore_n 2, 1) := by decide +kernel
theorem dX11_choose_19 : decode cX11_choose 19 = .ok (.iinc 3 1, 3) := by decide +kernel
theorem dX11_choose_22 : decode cX11_choose 22 = .ok (.goto (-18), 3) := by decide +kernel
theorem dX11_choose_25 : decode cX11_choose 25 = .ok (.iload_n 2, 1) := by decide +kernel
theorem dX11_choose_26 : decode cX11_choose 26 = .ok (.ireturn, 1) := by decide +kernel
def fX11_choose_4 : Nat → Int32 → Int32 → Int32 → Int32 → eW → Option (Int32 × eW)
  | 0, _, _, _, _, _ => none
  | n + 1, x0, x1, x2, x3, w => if x1 ≤ x3 then (some (x2, w)) else (if (x3 + (1 : Int32)) = 0 then none else fX11_choose_4 n x0 x1 ((x2 * (x0 - x3)) / (x3 + (1 : Int32))) (x3 + (1 : Int32)) w)
set_option maxRecDepth 20000 in
theorem sX11_choose_4  : ∀ (n : Nat) (x0 : Int32) (x1 : Int32) (x2 : Int32) (x3 : Int32) (w : eW) (r : Int32 × eW), fX11_choose_4 n x0 x1 x2 x3 w = some r → eBN l D cI cZ 0 yX11_choose cX11_choose 4 (some .int) 4 [(0, .int x0), (1, .int x1), (2, .int x2), (3, .int x3)] [] w (some (.int r.1)) r.2 := by
  intro n
  induction n with
  | zero => intro x0 x1 x2 x3 w r h; exact absurd (show (none : Option (Int32 × eW)) = some r from h) (by simp)
  | succ n ih =>
    intro x0 x1 x2 x3 w r h
    rw [fX11_choose_4] at h
    intro p e s m args below meth c r0 A X
    refine ev_iload_n (pc := 4) X 3 dX11_choose_4 rfl rfl ?_
    refine ev_iload_n (pc := 5) X 1 dX11_choose_5 rfl rfl ?_
    refine ev_icmp_ge (pc := 6) X 25 dX11_choose_6 rfl (fun hc => ?_) (fun hc => ?_)
    · rw [if_pos hc] at h
      refine ev_iload_n (pc := 25) X 2 dX11_choose_25 rfl rfl ?_
      obtain rfl := Option.some.inj h
      exact ev_iret (pc := 26) X dX11_choose_26
    · rw [if_neg hc] at h
      refine ev_iload_n (pc := 9) X 2 dX11_choose_9 rfl rfl ?_
      refine ev_iload_n (pc := 10) X 0 dX11_choose_10 rfl rfl ?_
      refine ev_iload_n (pc := 11) X 3 dX11_choose_11 rfl rfl ?_
      refine ev_isub (pc := 12) X dX11_choose_12 ?_
      refine ev_imul (pc := 13) X dX11_choose_13 ?_
      refine ev_iload_n (pc := 14) X 3 dX11_choose_14 rfl rfl ?_
      refine ev_iconst (pc := 15) (v := (1 : Int32)) X dX11_choose_15 rfl ?_
      refine ev_iadd (pc := 16) X dX11_choose_16 ?_
      obtain ⟨hz, h⟩ := eNz h
      refine ev_idiv (pc := 17) X dX11_choose_17 hz ?_
      refine ev_istore_n (pc := 18) (L' := [(2, .int ((x2 * (x0 - x3)) / (x3 + (1 : Int32)))), (0, .int x0), (1, .int x1), (3, .int x3)]) X dX11_choose_18 rfl (by decide) rfl ?_
      refine ev_iinc (pc := 19) (v := x3 + (1 : Int32)) (L' := [(3, .int (x3 + (1 : Int32))), (2, .int ((x2 * (x0 - x3)) / (x3 + (1 : Int32)))), (0, .int x0), (1, .int x1)]) X 3 dX11_choose_19 rfl rfl (by decide) rfl ?_
      refine ev_goto (pc := 22) X 4 dX11_choose_22 rfl ?_
      exact ev_weak (pc := 4) [2, 3, 1, 0] rfl (ih _ _ _ _ _ _ h p e s m args below meth c r0 A X)
def fX11_choose_0 (x0 : Int32) (x1 : Int32) (w : eW) : Option (Int32 × eW) := fX11_choose_4 eN x0 x1 (1 : Int32) (0 : Int32) w
set_option maxRecDepth 20000 in
theorem sX11_choose_0  (x0 : Int32) (x1 : Int32) (w : eW) (r : Int32 × eW) (h : fX11_choose_0 x0 x1 w = some r) : eBN l D cI cZ 0 yX11_choose cX11_choose 4 (some .int) 0 [(0, .int x0), (1, .int x1)] [] w (some (.int r.1)) r.2 := by
  rw [fX11_choose_0] at h
  intro p e s m args below meth c r0 A X
  refine ev_iconst (pc := 0) (v := (1 : Int32)) X dX11_choose_0 rfl ?_
  refine ev_istore_n (pc := 1) (L' := [(2, .int (1 : Int32)), (0, .int x0), (1, .int x1)]) X dX11_choose_1 rfl (by decide) rfl ?_
  refine ev_iconst (pc := 2) (v := (0 : Int32)) X dX11_choose_2 rfl ?_
  refine ev_istore_n (pc := 3) (L' := [(3, .int (0 : Int32)), (2, .int (1 : Int32)), (0, .int x0), (1, .int x1)]) X dX11_choose_3 rfl (by decide) rfl ?_
  exact ev_weak (pc := 4) [2, 3, 1, 0] rfl (sX11_choose_4 eN _ _ _ _ _ _ h p e s m args below meth c r0 A X)
def fX11_choose (a0 : Int32) (a1 : Int32) (w : eW) : Option (Int32 × eW) := fX11_choose_0 a0 a1 w
theorem mX11_choose {a0 : Int32} {a1 : Int32} {w : eW} {v : Int32} {w' : eW} (h : fX11_choose a0 a1 w = some (v, w')) : eMN l D cI cZ 0 yX11_choose cX11_choose 4 (some .int) [.int a0, .int a1] w (some (.int v)) w' :=
  eMN_of [(0, .int a0), (1, .int a1)] (plainFor_of_name (by decide)) (fun _ => rfl) (fun _ => Nat.le_of_ble_eq_true rfl) (fun p e s m args below meth c r0 A X => ev_weak (pc := 0) [0, 1] rfl (sX11_choose_0 _ _ _ _ h p e s m args below meth c r0 A X))
theorem dX11_gcd_0 : decode cX11_gcd 0 = .ok (.iload_n 0, 1) := by decide +kernel
theorem dX11_gcd_1 : decode cX11_gcd 1 = .ok (.istore_n 2, 1) := by decide +kernel
theorem dX11_gcd_2 : decode cX11_gcd 2 = .ok (.iload_n 1, 1) := by decide +kernel
theorem dX11_gcd_3 : decode cX11_gcd 3 = .ok (.istore_n 3, 1) := by decide +kernel
theorem dX11_gcd_4 : decode cX11_gcd 4 = .ok (.iload_n 3, 1) := by decide +kernel
theorem dX11_gcd_5 : decode cX11_gcd 5 = .ok (.ifCond .eq 16, 3) := by decide +kernel
theorem dX11_gcd_8 : decode cX11_gcd 8 = .ok (.iload_n 2, 1) := by decide +kernel
theorem dX11_gcd_9 : decode cX11_gcd 9 = .ok (.iload_n 3, 1) := by decide +kernel
theorem dX11_gcd_10 : decode cX11_gcd 10 = .ok (.irem, 1) := by decide +kernel
theorem dX11_gcd_11 : decode cX11_gcd 11 = .ok (.istore 4, 2) := by decide +kernel
theorem dX11_gcd_13 : decode cX11_gcd 13 = .ok (.iload_n 3, 1) := by decide +kernel
theorem dX11_gcd_14 : decode cX11_gcd 14 = .ok (.istore_n 2, 1) := by decide +kernel
theorem dX11_gcd_15 : decode cX11_gcd 15 = .ok (.iload 4, 2) := by decide +kernel
theorem dX11_gcd_17 : decode cX11_gcd 17 = .ok (.istore_n 3, 1) := by decide +kernel
theorem dX11_gcd_18 : decode cX11_gcd 18 = .ok (.goto (-14), 3) := by decide +kernel
theorem dX11_gcd_21 : decode cX11_gcd 21 = .ok (.iload_n 2, 1) := by decide +kernel
theorem dX11_gcd_22 : decode cX11_gcd 22 = .ok (.ireturn, 1) := by decide +kernel
def fX11_gcd_4 : Nat → Int32 → Int32 → eW → Option (Int32 × eW)
  | 0, _, _, _ => none
  | n + 1, x2, x3, w => if x3 = 0 then (some (x2, w)) else (if x3 = 0 then none else fX11_gcd_4 n x3 (x2 - x2 / x3 * x3) w)
set_option maxRecDepth 20000 in
theorem sX11_gcd_4  : ∀ (n : Nat) (x2 : Int32) (x3 : Int32) (w : eW) (r : Int32 × eW), fX11_gcd_4 n x2 x3 w = some r → eBN l D cI cZ 0 yX11_gcd cX11_gcd 5 (some .int) 4 [(2, .int x2), (3, .int x3)] [] w (some (.int r.1)) r.2 := by
  intro n
  induction n with
  | zero => intro x2 x3 w r h; exact absurd (show (none : Option (Int32 × eW)) = some r from h) (by simp)
  | succ n ih =>
    intro x2 x3 w r h
    rw [fX11_gcd_4] at h
    intro p e s m args below meth c r0 A X
    refine ev_iload_n (pc := 4) X 1 dX11_gcd_4 rfl rfl ?_
    refine ev_if_eq (pc := 5) X 21 dX11_gcd_5 rfl (fun hc => ?_) (fun hc => ?_)
    · rw [if_pos hc] at h
      refine ev_iload_n (pc := 21) X 0 dX11_gcd_21 rfl rfl ?_
      obtain rfl := Option.some.inj h
      exact ev_iret (pc := 22) X dX11_gcd_22
    · rw [if_neg hc] at h
      refine ev_iload_n (pc := 8) X 0 dX11_gcd_8 rfl rfl ?_
      refine ev_iload_n (pc := 9) X 1 dX11_gcd_9 rfl rfl ?_
      obtain ⟨hz, h⟩ := eNz h
      refine ev_irem (pc := 10) X dX11_gcd_10 hz ?_
      refine ev_istore (pc := 11) (L' := [(4, .int (x2 - x2 / x3 * x3)), (2, .int x2), (3, .int x3)]) X dX11_gcd_11 (by decide) rfl ?_
      refine ev_iload_n (pc := 13) X 2 dX11_gcd_13 rfl rfl ?_
      refine ev_istore_n (pc := 14) (L' := [(2, .int x3), (4, .int (x2 - x2 / x3 * x3)), (3, .int x3)]) X dX11_gcd_14 rfl (by decide) rfl ?_
      refine ev_iload (pc := 15) X 1 dX11_gcd_15 rfl ?_
      refine ev_istore_n (pc := 17) (L' := [(3, .int (x2 - x2 / x3 * x3)), (2, .int x3), (4, .int (x2 - x2 / x3 * x3))]) X dX11_gcd_17 rfl (by decide) rfl ?_
      refine ev_goto (pc := 18) X 4 dX11_gcd_18 rfl ?_
      exact ev_weak (pc := 4) [1, 0] rfl (ih _ _ _ _ h p e s m args below meth c r0 A X)
def fX11_gcd_0 (x0 : Int32) (x1 : Int32) (w : eW) : Option (Int32 × eW) := fX11_gcd_4 eN x0 x1 w
set_option maxRecDepth 20000 in
theorem sX11_gcd_0  (x0 : Int32) (x1 : Int32) (w : eW) (r : Int32 × eW) (h : fX11_gcd_0 x0 x1 w = some r) : eBN l D cI cZ 0 yX11_gcd cX11_gcd 5 (some .int) 0 [(0, .int x0), (1, .int x1)] [] w (some (.int r.1)) r.2 := by
  rw [fX11_gcd_0] at h
  intro p e s m args below meth c r0 A X
  refine ev_iload_n (pc := 0) X 0 dX11_gcd_0 rfl rfl ?_
  refine ev_istore_n (pc := 1) (L' := [(2, .int x0), (0, .int x0), (1, .int x1)]) X dX11_gcd_1 rfl (by decide) rfl ?_
  refine ev_iload_n (pc := 2) X 2 dX11_gcd_2 rfl rfl ?_
  refine ev_istore_n (pc := 3) (L' := [(3, .int x1), (2, .int x0), (0, .int x0), (1, .int x1)]) X dX11_gcd_3 rfl (by decide) rfl ?_
  exact ev_weak (pc := 4) [1, 0] rfl (sX11_gcd_4 eN _ _ _ _ h p e s m args below meth c r0 A X)
def fX11_gcd (a0 : Int32) (a1 : Int32) (w : eW) : Option (Int32 × eW) := fX11_gcd_0 a0 a1 w
theorem mX11_gcd {a0 : Int32} {a1 : Int32} {w : eW} {v : Int32} {w' : eW} (h : fX11_gcd a0 a1 w = some (v, w')) : eMN l D cI cZ 0 yX11_gcd cX11_gcd 5 (some .int) [.int a0, .int a1] w (some (.int v)) w' :=
  eMN_of [(0, .int a0), (1, .int a1)] (plainFor_of_name (by decide)) (fun _ => rfl) (fun _ => Nat.le_of_ble_eq_true rfl) (fun p e s m args below meth c r0 A X => ev_weak (pc := 0) [0, 1] rfl (sX11_gcd_0 _ _ _ _ h p e s m args below meth c r0 A X))
theorem dX11_odds_0 : decode cX11_odds 0 = .ok (.aload_n 0, 1) := by decide +kernel
theorem dX11_odds_1 : decode cX11_odds 1 = .ok (.iconst 0, 1) := by decide +kernel
theorem dX11_odds_2 : decode cX11_odds 2 = .ok (.putfield 50, 3) := by decide +kernel
theorem dX11_odds_5 : decode cX11_odds 5 = .ok (.iload_n 1, 1) := by decide +kernel
theorem dX11_odds_6 : decode cX11_odds 6 = .ok (.iconst 0, 1) := by decide +kernel
theorem dX11_odds_7 : decode cX11_odds 7 = .ok (.bipush 10, 2) := by decide +kernel
theorem dX11_odds_9 : decode cX11_odds 9 = .ok (.invokestatic 54, 3) := by decide +kernel
theorem dX11_odds_12 : decode cX11_odds 12 = .ok (.ifCond .eq 22, 3) := by decide +kernel
theorem dX11_odds_15 : decode cX11_odds 15 = .ok (.iload_n 2, 1) := by decide +kernel
theorem dX11_odds_16 : decode cX11_odds 16 = .ok (.iconst 0, 1) := by decide +kernel
theorem dX11_odds_17 : decode cX11_odds 17 = .ok (.bipush 6, 2) := by decide +kernel
theorem dX11_odds_19 : decode cX11_odds 19 = .ok (.invokestatic 54, 3) := by decide +kernel
theorem dX11_odds_22 : decode cX11_odds 22 = .ok (.ifCond .eq 12, 3) := by decide +kernel
theorem dX11_odds_25 : decode cX11_odds 25 = .ok (.iload_n 3, 1) := by decide +kernel
theorem dX11_odds_26 : decode cX11_odds 26 = .ok (.iconst 0, 1) := by decide +kernel
theorem dX11_odds_27 : decode cX11_odds 27 = .ok (.iconst 1, 1) := by decide +kernel
theorem dX11_odds_28 : decode cX11_odds 28 = .ok (.invokestatic 54, 3) := by decide +kernel
theorem dX11_odds_31 : decode cX11_odds 31 = .ok (.ifCond .ne 5, 3) := by decide +kernel
theorem dX11_odds_34 : decode cX11_odds 34 = .ok (.iconst (-1), 1) := by decide +kernel
theorem dX11_odds_35 : decode cX11_odds 35 = .ok (.ireturn, 1) := by decide +kernel
theorem dX11_odds_36 : decode cX11_odds 36 = .ok (.iconst 0, 1) := by decide +kernel
theorem dX11_odds_37 : decode cX11_odds 37 = .ok (.istore 4, 2) := by decide +kernel
theorem dX11_odds_39 : decode cX11_odds 39 = .ok (.iload 4, 2) := by decide +kernel
theorem dX11_odds_41 : decode cX11_odds 41 = .ok (.bipush 57, 2) := by decide +kernel
theorem dX11_odds_43 : decode cX11_odds 43 = .ok (.if_icmp .ge 23, 3) := by decide +kernel
theorem dX11_odds_46 : decode cX11_odds 46 = .ok (.aload_n 0, 1) := by decide +kernel
theorem dX11_odds_47 : decode cX11_odds 47 = .ok (.getfield 25, 3) := by decide +kernel
theorem dX11_odds_50 : decode cX11_odds 50 = .ok (.iload 4, 2) := by decide +kernel
theorem dX11_odds_52 : decode cX11_odds 52 = .ok (.aload_n 0, 1) := by decide +kernel
theorem dX11_odds_53 : decode cX11_odds 53 = .ok (.getfield 22, 3) := by decide +kernel
theorem dX11_odds_56 : decode cX11_odds 56 = .ok (.iload 4, 2) := by decide +kernel
theorem dX11_odds_58 : decode cX11_odds 58 = .ok (.iaload, 1) := by decide +kernel
theorem dX11_odds_59 : decode cX11_odds 59 = .ok (.iastore, 1) := by decide +kernel
theorem dX11_odds_60 : decode cX11_odds 60 = .ok (.iinc 4 1, 3) := by decide +kernel
theorem dX11_odds_63 : decode cX11_odds 63 = .ok (.goto (-24), 3) := by decide +kernel
theorem dX11_odds_66 : decode cX11_odds 66 = .ok (.iconst 0, 1) := by decide +kernel
theorem dX11_odds_67 : decode cX11_odds 67 = .ok (.istore 4, 2) := by decide +kernel
theorem dX11_odds_69 : decode cX11_odds 69 = .ok (.iconst 0, 1) := by decide +kernel
theorem dX11_odds_70 : decode cX11_odds 70 = .ok (.istore 5, 2) := by decide +kernel
theorem dX11_odds_72 : decode cX11_odds 72 = .ok (.iload 5, 2) := by decide +kernel
theorem dX11_odds_74 : decode cX11_odds 74 = .ok (.iload_n 2, 1) := by decide +kernel
theorem dX11_odds_75 : decode cX11_odds 75 = .ok (.if_icmp .gt 64, 3) := by decide +kernel
theorem dX11_odds_78 : decode cX11_odds 78 = .ok (.iload 4, 2) := by decide +kernel
theorem dX11_odds_80 : decode cX11_odds 80 = .ok (.aload_n 0, 1) := by decide +kernel
theorem dX11_odds_81 : decode cX11_odds 81 = .ok (.aload_n 0, 1) := by decide +kernel
theorem dX11_odds_82 : decode cX11_odds 82 = .ok (.getfield 25, 3) := by decide +kernel
theorem dX11_odds_85 : decode cX11_odds 85 = .ok (.invokevirtual 169, 3) := by decide +kernel
theorem dX11_odds_88 : decode cX11_odds 88 = .ok (.iconst 2, 1) := by decide +kernel
theorem dX11_odds_89 : decode cX11_odds 89 = .ok (.if_icmp .ge 31, 3) := by decide +kernel
theorem dX11_odds_92 : decode cX11_odds 92 = .ok (.iload_n 2, 1) := by decide +kernel
theorem dX11_odds_93 : decode cX11_odds 93 = .ok (.iload 5, 2) := by decide +kernel
theorem dX11_odds_95 : decode cX11_odds 95 = .ok (.invokestatic 201, 3) := by decide +kernel
theorem dX11_odds_98 : decode cX11_odds 98 = .ok (.iload_n 1, 1) := by decide +kernel
theorem dX11_odds_99 : decode cX11_odds 99 = .ok (.iload 5, 2) := by decide +kernel
theorem dX11_odds_101 : decode cX11_odds 101 = .ok (.invokestatic 204, 3) := by decide +kernel
theorem dX11_odds_104 : decode cX11_odds 104 = .ok (.imul, 1) := by decide +kernel
theorem dX11_odds_105 : decode cX11_odds 105 = .ok (.bipush 10, 2) := by decide +kernel
theorem dX11_odds_107 : decode cX11_odds 107 = .ok (.iload_n 1, 1) := by decide +kernel
theorem dX11_odds_108 : decode cX11_odds 108 = .ok (.isub, 1) := by decide +kernel
theorem dX11_odds_109 : decode cX11_odds 109 = .ok (.iload_n 2, 1) := by decide +kernel
theorem dX11_odds_110 : decode cX11_odds 110 = .ok (.iload 5, 2) := by decide +kernel
theorem dX11_odds_112 : decode cX11_odds 112 = .ok (.isub, 1) := by decide +kernel
theorem dX11_odds_113 : decode cX11_odds 113 = .ok (.invokestatic 204, 3) := by decide +kernel
theorem dX11_odds_116 : decode cX11_odds 116 = .ok (.imul, 1) := by decide +kernel
theorem dX11_odds_117 : decode cX11_odds 117 = .ok (.goto 4, 3) := by decide +kernel
theorem dX11_odds_120 : decode cX11_odds 120 = .ok (.iconst 0, 1) := by decide +kernel
theorem dX11_odds_121 : decode cX11_odds 121 = .ok (.iadd, 1) := by decide +kernel
theorem dX11_odds_122 : decode cX11_odds 122 = .ok (.istore 4, 2) := by decide +kernel
theorem dX11_odds_124 : decode cX11_odds 124 = .ok (.aload_n 0, 1) := by decide +kernel
theorem dX11_odds_125 : decode cX11_odds 125 = .ok (.aload_n 0, 1) := by decide +kernel
theorem dX11_odds_126 : decode cX11_odds 126 = .ok (.getfield 25, 3) := by decide +kernel
theorem dX11_odds_129 : decode cX11_odds 129 = .ok (.invokevirtual 188, 3) := by decide +kernel
theorem dX11_odds_132 : decode cX11_odds 132 = .ok (.pop, 1) := by decide +kernel
theorem dX11_odds_133 : decode cX11_odds 133 = .ok (.iinc 5 1, 3) := by decide +kernel
theorem dX11_odds_136 : decode cX11_odds 136 = .ok (.goto (-64), 3) := by decide +kernel
theorem dX11_odds_139 : decode cX11_odds 139 = .ok (.bipush 10, 2) := by decide +kernel
theorem dX11_odds_141 : decode cX11_odds 141 = .ok (.iload_n 2, 1) := by decide +kernel
theorem dX11_odds_142 : decode cX11_odds 142 = .ok (.invokestatic 204, 3) := by decide +kernel
theorem dX11_odds_145 : decode cX11_odds 145 = .ok (.istore 5, 2) := by decide +kernel
theorem dX11_odds_147 : decode cX11_odds 147 = .ok (.iload 4, 2) := by decide +kernel
theorem dX11_odds_149 : decode cX11_odds 149 = .ok (.iload 5, 2) := by decide +kernel
theorem dX11_odds_151 : decode cX11_odds 151 = .ok (.invokestatic 207, 3) := by decide +kernel
theorem dX11_odds_154 : decode cX11_odds 154 = .ok (.istore 6, 2) := by decide +kernel
theorem dX11_odds_156 : decode cX11_odds 156 = .ok (.iload_n 3, 1) := by decide +kernel
theorem dX11_odds_157 : decode cX11_odds 157 = .ok (.ifCond .ne 11, 3) := by decide +kernel
theorem dX11_odds_160 : decode cX11_odds 160 = .ok (.iload 4, 2) := by decide +kernel
theorem dX11_odds_162 : decode cX11_odds 162 = .ok (.iload 6, 2) := by decide +kernel
theorem dX11_odds_164 : decode cX11_odds 164 = .ok (.idiv, 1) := by decide +kernel
theorem dX11_odds_165 : decode cX11_odds 165 = .ok (.goto 8, 3) := by decide +kernel
theorem dX11_odds_168 : decode cX11_odds 168 = .ok (.iload 5, 2) := by decide +kernel
theorem dX11_odds_170 : decode cX11_odds 170 = .ok (.iload 6, 2) := by decide +kernel
theorem dX11_odds_172 : decode cX11_odds 172 = .ok (.idiv, 1) := by decide +kernel
theorem dX11_odds_173 : decode cX11_odds 173 = .ok (.ireturn, 1) := by decide +kernel
def fX11_odds_121 (K72 : Nat → Int32 → Int32 → Int32 → Int32 → Int32 → eW → Option (Int32 × eW)) (x0 : Nat) (x1 : Int32) (x2 : Int32) (x3 : Int32) (x5 : Int32) (t0 : Int32) (t1 : Int32) (w : eW) : Option (Int32 × eW) := (eGR w x0 11 14).bind fun v1 => eBind2 (fX11_frays x0 v1 w) fun v3 w2 => K72 x0 x1 x2 x3 (t0 + t1) (x5 + (1 : Int32)) w2
set_option maxRecDepth 20000 in
theorem sX11_odds_121 {K72 : Nat → Int32 → Int32 → Int32 → Int32 → Int32 → eW → Option (Int32 × eW)} (hK72 : ∀ (x0 : Nat) (x1 : Int32) (x2 : Int32) (x3 : Int32) (x4 : Int32) (x5 : Int32) (w : eW) (r : Int32 × eW), K72 x0 x1 x2 x3 x4 x5 w = some r → eBN l D cI cZ 5 yX11_odds cX11_odds 7 (some .int) 72 [(0, .ref x0), (1, .int x1), (2, .int x2), (3, .int x3), (4, .int x4), (5, .int x5)] [] w (some (.int r.1)) r.2) (x0 : Nat) (x1 : Int32) (x2 : Int32) (x3 : Int32) (x5 : Int32) (t0 : Int32) (t1 : Int32) (w : eW) (r : Int32 × eW) (h : fX11_odds_121 K72 x0 x1 x2 x3 x5 t0 t1 w = some r) : eBN l D cI cZ 5 yX11_odds cX11_odds 7 (some .int) 121 [(0, .ref x0), (1, .int x1), (2, .int x2), (3, .int x3), (5, .int x5)] [.int t1, .int t0] w (some (.int r.1)) r.2 := by
  rw [fX11_odds_121] at h
  intro p e s m args below meth c r0 A X
  refine ev_iadd (pc := 121) X dX11_odds_121 ?_
  refine ev_istore (pc := 122) (L' := [(4, .int (t0 + t1)), (0, .ref x0), (1, .int x1), (2, .int x2), (3, .int x3), (5, .int x5)]) X dX11_odds_122 (by decide) rfl ?_
  refine ev_aload_n (pc := 124) X 1 dX11_odds_124 rfl rfl ?_
  refine ev_aload_n (pc := 125) X 1 dX11_odds_125 rfl rfl ?_
  obtain ⟨v1, hv1, h⟩ := eBi h
  refine ev_getR (pc := 126) X hcX11 (k := 14) (by decide) kfX11_25 dX11_odds_126 hv1 ?_
  obtain ⟨v3, w2, hc, h⟩ := eB2 h
  refine ev_callV_i (pc := 129) (As := [.ref v1]) (S := []) X hwX11_frays klX11_188 hiX11_frays hsX11_frays (ci := 11) ⟨rfl, rfl⟩ ⟨Nat.le_of_ble_eq_true rfl, Nat.le_of_ble_eq_true rfl⟩ ⟨Nat.le_refl _, Nat.le_refl _⟩ rfl (Nat.le_of_ble_eq_true rfl) dX11_odds_129 rfl (mX11_frays (l := l) (D := D) (cI := cI) (cZ := cZ) hc).1 (mX11_frays hc).2 ?_
  refine ev_pop (pc := 132) X dX11_odds_132 rfl ?_
  refine ev_iinc (pc := 133) (v := x5 + (1 : Int32)) (L' := [(5, .int (x5 + (1 : Int32))), (4, .int (t0 + t1)), (0, .ref x0), (1, .int x1), (2, .int x2), (3, .int x3)]) X 5 dX11_odds_133 rfl rfl (by decide) rfl ?_
  refine ev_goto (pc := 136) X 72 dX11_odds_136 rfl ?_
  exact ev_weak (pc := 72) [2, 3, 4, 5, 1, 0] rfl (hK72 _ _ _ _ _ _ _ _ h p e s m args below meth c r0 A X)
def fX11_odds_72 : Nat → Nat → Int32 → Int32 → Int32 → Int32 → Int32 → eW → Option (Int32 × eW)
  | 0, _, _, _, _, _, _, _ => none
  | n + 1, x0, x1, x2, x3, x4, x5, w => if x2 < x5 then (eBind2 (fX11_power (10 : Int32) x2 w) fun v2 w1 => eBind2 (fX11_gcd x4 v2 w1) fun v4 w3 => if x3 = 0 then (if v4 = 0 then none else some (x4 / v4, w3)) else (if v4 = 0 then none else some (v2 / v4, w3))) else ((eGR w x0 11 14).bind fun v5 => eBind2 (fX11_piecesOf x0 v5 w) fun v7 w6 => if (2 : Int32) ≤ v7 then (fX11_odds_121 (fX11_odds_72 n) x0 x1 x2 x3 x5 x4 (0 : Int32) w6) else (eBind2 (fX11_choose x2 x5 w6) fun v9 w8 => eBind2 (fX11_power x1 x5 w8) fun v11 w10 => eBind2 (fX11_power ((10 : Int32) - x1) (x2 - x5) w10) fun v13 w12 => fX11_odds_121 (fX11_odds_72 n) x0 x1 x2 x3 x5 x4 ((v9 * v11) * v13) w12))
set_option maxRecDepth 20000 in
theorem sX11_odds_72  : ∀ (n : Nat) (x0 : Nat) (x1 : Int32) (x2 : Int32) (x3 : Int32) (x4 : Int32) (x5 : Int32) (w : eW) (r : Int32 × eW), fX11_odds_72 n x0 x1 x2 x3 x4 x5 w = some r → eBN l D cI cZ 5 yX11_odds cX11_odds 7 (some .int) 72 [(0, .ref x0), (1, .int x1), (2, .int x2), (3, .int x3), (4, .int x4), (5, .int x5)] [] w (some (.int r.1)) r.2 := by
  intro n
  induction n with
  | zero => intro x0 x1 x2 x3 x4 x5 w r h; exact absurd (show (none : Option (Int32 × eW)) = some r from h) (by simp)
  | succ n ih =>
    intro x0 x1 x2 x3 x4 x5 w r h
    rw [fX11_odds_72] at h
    intro p e s m args below meth c r0 A X
    refine ev_iload (pc := 72) X 5 dX11_odds_72 rfl ?_
    refine ev_iload_n (pc := 74) X 2 dX11_odds_74 rfl rfl ?_
    refine ev_icmp_gt (pc := 75) X 139 dX11_odds_75 rfl (fun hc => ?_) (fun hc => ?_)
    · rw [if_pos hc] at h
      refine ev_bipush (pc := 139) (v := (10 : Int32)) X dX11_odds_139 rfl ?_
      refine ev_iload_n (pc := 141) X 2 dX11_odds_141 rfl rfl ?_
      obtain ⟨v2, w1, hc, h⟩ := eB2 h
      refine ev_callS_i (pc := 142) (As := [.int (10 : Int32), .int x2]) (S := []) X hwX11_power klX11_204 htX11_power ⟨Nat.le_of_ble_eq_true rfl, Nat.le_of_ble_eq_true rfl⟩ ⟨Nat.le_refl _, Nat.le_refl _⟩ rfl (Nat.le_of_ble_eq_true rfl) dX11_odds_142 rfl (mX11_power hc) ?_
      refine ev_istore (pc := 145) (L' := [(5, .int v2), (0, .ref x0), (1, .int x1), (2, .int x2), (3, .int x3), (4, .int x4)]) X dX11_odds_145 (by decide) rfl ?_
      refine ev_iload (pc := 147) X 5 dX11_odds_147 rfl ?_
      refine ev_iload (pc := 149) X 0 dX11_odds_149 rfl ?_
      obtain ⟨v4, w3, hc, h⟩ := eB2 h
      refine ev_callS_i (pc := 151) (As := [.int x4, .int v2]) (S := []) X hwX11_gcd klX11_207 htX11_gcd ⟨Nat.le_of_ble_eq_true rfl, Nat.le_of_ble_eq_true rfl⟩ ⟨Nat.le_refl _, Nat.le_refl _⟩ rfl (Nat.le_of_ble_eq_true rfl) dX11_odds_151 rfl (mX11_gcd hc) ?_
      refine ev_istore (pc := 154) (L' := [(6, .int v4), (5, .int v2), (0, .ref x0), (1, .int x1), (2, .int x2), (3, .int x3), (4, .int x4)]) X dX11_odds_154 (by decide) rfl ?_
      refine ev_iload_n (pc := 156) X 5 dX11_odds_156 rfl rfl ?_
      refine ev_if_ne (pc := 157) X 168 dX11_odds_157 rfl (fun hc => ?_) (fun hc => ?_)
      · rw [if_neg hc] at h
        refine ev_iload (pc := 168) X 1 dX11_odds_168 rfl ?_
        refine ev_iload (pc := 170) X 0 dX11_odds_170 rfl ?_
        obtain ⟨hz, h⟩ := eNz h
        refine ev_idiv (pc := 172) X dX11_odds_172 hz ?_
        obtain rfl := Option.some.inj h
        exact ev_iret (pc := 173) X dX11_odds_173
      · rw [if_pos hc] at h
        refine ev_iload (pc := 160) X 6 dX11_odds_160 rfl ?_
        refine ev_iload (pc := 162) X 0 dX11_odds_162 rfl ?_
        obtain ⟨hz, h⟩ := eNz h
        refine ev_idiv (pc := 164) X dX11_odds_164 hz ?_
        refine ev_goto (pc := 165) X 173 dX11_odds_165 rfl ?_
        obtain rfl := Option.some.inj h
        exact ev_iret (pc := 173) X dX11_odds_173
    · rw [if_neg hc] at h
      refine ev_iload (pc := 78) X 4 dX11_odds_78 rfl ?_
      refine ev_aload_n (pc := 80) X 0 dX11_odds_80 rfl rfl ?_
      refine ev_aload_n (pc := 81) X 0 dX11_odds_81 rfl rfl ?_
      obtain ⟨v5, hv5, h⟩ := eBi h
      refine ev_getR (pc := 82) X hcX11 (k := 14) (by decide) kfX11_25 dX11_odds_82 hv5 ?_
      obtain ⟨v7, w6, hc, h⟩ := eB2 h
      refine ev_callV_i (pc := 85) (As := [.ref v5]) (S := [.int x4]) X hwX11_piecesOf klX11_169 hiX11_piecesOf hsX11_piecesOf (ci := 11) ⟨rfl, rfl⟩ ⟨Nat.le_of_ble_eq_true rfl, Nat.le_of_ble_eq_true rfl⟩ ⟨Nat.le_refl _, Nat.le_refl _⟩ rfl (Nat.le_of_ble_eq_true rfl) dX11_odds_85 rfl (mX11_piecesOf (l := l) (D := D) (cI := cI) (cZ := cZ) hc).1 (mX11_piecesOf hc).2 ?_
      refine ev_iconst (pc := 88) (v := (2 : Int32)) X dX11_odds_88 rfl ?_
      refine ev_icmp_ge (pc := 89) X 120 dX11_odds_89 rfl (fun hc => ?_) (fun hc => ?_)
      · rw [if_pos hc] at h
        refine ev_iconst (pc := 120) (v := (0 : Int32)) X dX11_odds_120 rfl ?_
        exact ev_weak (pc := 121) [0, 1, 2, 3, 5] rfl (sX11_odds_121 (fun _ _ _ _ _ _ w r hh => ih _ _ _ _ _ _ w r hh) _ _ _ _ _ _ _ _ _ h p e s m args below meth c r0 A X)
      · rw [if_neg hc] at h
        refine ev_iload_n (pc := 92) X 2 dX11_odds_92 rfl rfl ?_
        refine ev_iload (pc := 93) X 5 dX11_odds_93 rfl ?_
        obtain ⟨v9, w8, hc, h⟩ := eB2 h
        refine ev_callS_i (pc := 95) (As := [.int x2, .int x5]) (S := [.int x4]) X hwX11_choose klX11_201 htX11_choose ⟨Nat.le_of_ble_eq_true rfl, Nat.le_of_ble_eq_true rfl⟩ ⟨Nat.le_refl _, Nat.le_refl _⟩ rfl (Nat.le_of_ble_eq_true rfl) dX11_odds_95 rfl (mX11_choose hc) ?_
        refine ev_iload_n (pc := 98) X 1 dX11_odds_98 rfl rfl ?_
        refine ev_iload (pc := 99) X 5 dX11_odds_99 rfl ?_
        obtain ⟨v11, w10, hc, h⟩ := eB2 h
        refine ev_callS_i (pc := 101) (As := [.int x1, .int x5]) (S := [.int v9, .int x4]) X hwX11_power klX11_204 htX11_power ⟨Nat.le_of_ble_eq_true rfl, Nat.le_of_ble_eq_true rfl⟩ ⟨Nat.le_refl _, Nat.le_refl _⟩ rfl (Nat.le_of_ble_eq_true rfl) dX11_odds_101 rfl (mX11_power hc) ?_
        refine ev_imul (pc := 104) X dX11_odds_104 ?_
        refine ev_bipush (pc := 105) (v := (10 : Int32)) X dX11_odds_105 rfl ?_
        refine ev_iload_n (pc := 107) X 1 dX11_odds_107 rfl rfl ?_
        refine ev_isub (pc := 108) X dX11_odds_108 ?_
        refine ev_iload_n (pc := 109) X 2 dX11_odds_109 rfl rfl ?_
        refine ev_iload (pc := 110) X 5 dX11_odds_110 rfl ?_
        refine ev_isub (pc := 112) X dX11_odds_112 ?_
        obtain ⟨v13, w12, hc, h⟩ := eB2 h
        refine ev_callS_i (pc := 113) (As := [.int ((10 : Int32) - x1), .int (x2 - x5)]) (S := [.int (v9 * v11), .int x4]) X hwX11_power klX11_204 htX11_power ⟨Nat.le_of_ble_eq_true rfl, Nat.le_of_ble_eq_true rfl⟩ ⟨Nat.le_refl _, Nat.le_refl _⟩ rfl (Nat.le_of_ble_eq_true rfl) dX11_odds_113 rfl (mX11_power hc) ?_
        refine ev_imul (pc := 116) X dX11_odds_116 ?_
        refine ev_goto (pc := 117) X 121 dX11_odds_117 rfl ?_
        exact ev_weak (pc := 121) [0, 1, 2, 3, 5] rfl (sX11_odds_121 (fun _ _ _ _ _ _ w r hh => ih _ _ _ _ _ _ w r hh) _ _ _ _ _ _ _ _ _ h p e s m args below meth c r0 A X)
def fX11_odds_39 : Nat → Nat → Int32 → Int32 → Int32 → Int32 → eW → Option (Int32 × eW)
  | 0, _, _, _, _, _, _ => none
  | n + 1, x0, x1, x2, x3, x4, w => if (57 : Int32) ≤ x4 then (fX11_odds_72 eN x0 x1 x2 x3 (0 : Int32) (0 : Int32) w) else ((eGR w x0 11 14).bind fun v1 => (eGR w x0 11 13).bind fun v2 => (eLd w false v2 x4).bind fun v3 => (eSt w false v1 x4 v3).bind fun w4 => fX11_odds_39 n x0 x1 x2 x3 (x4 + (1 : Int32)) w4)
set_option maxRecDepth 20000 in
theorem sX11_odds_39  : ∀ (n : Nat) (x0 : Nat) (x1 : Int32) (x2 : Int32) (x3 : Int32) (x4 : Int32) (w : eW) (r : Int32 × eW), fX11_odds_39 n x0 x1 x2 x3 x4 w = some r → eBN l D cI cZ 5 yX11_odds cX11_odds 7 (some .int) 39 [(0, .ref x0), (1, .int x1), (2, .int x2), (3, .int x3), (4, .int x4)] [] w (some (.int r.1)) r.2 := by
  intro n
  induction n with
  | zero => intro x0 x1 x2 x3 x4 w r h; exact absurd (show (none : Option (Int32 × eW)) = some r from h) (by simp)
  | succ n ih =>
    intro x0 x1 x2 x3 x4 w r h
    rw [fX11_odds_39] at h
    intro p e s m args below meth c r0 A X
    refine ev_iload (pc := 39) X 4 dX11_odds_39 rfl ?_
    refine ev_bipush (pc := 41) (v := (57 : Int32)) X dX11_odds_41 rfl ?_
    refine ev_icmp_ge (pc := 43) X 66 dX11_odds_43 rfl (fun hc => ?_) (fun hc => ?_)
    · rw [if_pos hc] at h
      refine ev_iconst (pc := 66) (v := (0 : Int32)) X dX11_odds_66 rfl ?_
      refine ev_istore (pc := 67) (L' := [(4, .int (0 : Int32)), (0, .ref x0), (1, .int x1), (2, .int x2), (3, .int x3)]) X dX11_odds_67 (by decide) rfl ?_
      refine ev_iconst (pc := 69) (v := (0 : Int32)) X dX11_odds_69 rfl ?_
      refine ev_istore (pc := 70) (L' := [(5, .int (0 : Int32)), (4, .int (0 : Int32)), (0, .ref x0), (1, .int x1), (2, .int x2), (3, .int x3)]) X dX11_odds_70 (by decide) rfl ?_
      exact ev_weak (pc := 72) [2, 3, 4, 5, 1, 0] rfl (sX11_odds_72 eN _ _ _ _ _ _ _ _ h p e s m args below meth c r0 A X)
    · rw [if_neg hc] at h
      refine ev_aload_n (pc := 46) X 0 dX11_odds_46 rfl rfl ?_
      obtain ⟨v1, hv1, h⟩ := eBi h
      refine ev_getR (pc := 47) X hcX11 (k := 14) (by decide) kfX11_25 dX11_odds_47 hv1 ?_
      refine ev_iload (pc := 50) X 4 dX11_odds_50 rfl ?_
      refine ev_aload_n (pc := 52) X 0 dX11_odds_52 rfl rfl ?_
      obtain ⟨v2, hv2, h⟩ := eBi h
      refine ev_getR (pc := 53) X hcX11 (k := 13) (by decide) kfX11_22 dX11_odds_53 hv2 ?_
      refine ev_iload (pc := 56) X 4 dX11_odds_56 rfl ?_
      obtain ⟨v3, hv3, h⟩ := eBi h
      refine ev_iald (pc := 58) X dX11_odds_58 hv3 ?_
      obtain ⟨w4, hw4, h⟩ := eBi h
      refine ev_iast (pc := 59) X dX11_odds_59 hw4 ?_
      refine ev_iinc (pc := 60) (v := x4 + (1 : Int32)) (L' := [(4, .int (x4 + (1 : Int32))), (0, .ref x0), (1, .int x1), (2, .int x2), (3, .int x3)]) X 4 dX11_odds_60 rfl rfl (by decide) rfl ?_
      refine ev_goto (pc := 63) X 39 dX11_odds_63 rfl ?_
      exact ev_weak (pc := 39) [1, 2, 3, 4, 0] rfl (ih _ _ _ _ _ _ _ h p e s m args below meth c r0 A X)
def fX11_odds_0 (x0 : Nat) (x1 : Int32) (x2 : Int32) (x3 : Int32) (w : eW) : Option (Int32 × eW) := (eP w x0 11 0 (.int (0 : Int32))).bind fun w1 => eBind2 (fX11_in x1 (0 : Int32) (10 : Int32) w1) fun v3 w2 => if v3 = 0 then (some ((-1 : Int32), w2)) else (eBind2 (fX11_in x2 (0 : Int32) (6 : Int32) w2) fun v5 w4 => if v5 = 0 then (some ((-1 : Int32), w4)) else (eBind2 (fX11_in x3 (0 : Int32) (1 : Int32) w4) fun v7 w6 => if v7 = 0 then (some ((-1 : Int32), w6)) else (fX11_odds_39 eN x0 x1 x2 x3 (0 : Int32) w6)))
set_option maxRecDepth 20000 in
theorem sX11_odds_0  (x0 : Nat) (x1 : Int32) (x2 : Int32) (x3 : Int32) (w : eW) (r : Int32 × eW) (h : fX11_odds_0 x0 x1 x2 x3 w = some r) : eBN l D cI cZ 5 yX11_odds cX11_odds 7 (some .int) 0 [(0, .ref x0), (1, .int x1), (2, .int x2), (3, .int x3)] [] w (some (.int r.1)) r.2 := by
  rw [fX11_odds_0] at h
  intro p e s m args below meth c r0 A X
  refine ev_aload_n (pc := 0) X 0 dX11_odds_0 rfl rfl ?_
  refine ev_iconst (pc := 1) (v := (0 : Int32)) X dX11_odds_1 rfl ?_
  obtain ⟨w1, hw1, h⟩ := eBi h
  refine ev_putI (pc := 2) X hcX11 (k := 0) (by decide) kfX11_50 rfl rfl dX11_odds_2 hw1 ?_
  refine ev_iload_n (pc := 5) X 1 dX11_odds_5 rfl rfl ?_
  refine ev_iconst (pc := 6) (v := (0 : Int32)) X dX11_odds_6 rfl ?_
  refine ev_bipush (pc := 7) (v := (10 : Int32)) X dX11_odds_7 rfl ?_
  obtain ⟨v3, w2, hc, h⟩ := eB2 h
  refine ev_callS_i (pc := 9) (As := [.int x1, .int (0 : Int32), .int (10 : Int32)]) (S := []) X hwX11_in klX11_54 htX11_in ⟨Nat.le_of_ble_eq_true rfl, Nat.le_of_ble_eq_true rfl⟩ ⟨Nat.le_refl _, Nat.le_refl _⟩ rfl (Nat.le_of_ble_eq_true rfl) dX11_odds_9 rfl (mX11_in hc) ?_
  refine ev_if_eq (pc := 12) X 34 dX11_odds_12 rfl (fun hc => ?_) (fun hc => ?_)
  · rw [if_pos hc] at h
    refine ev_iconst (pc := 34) (v := (-1 : Int32)) X dX11_odds_34 rfl ?_
    obtain rfl := Option.some.inj h
    exact ev_iret (pc := 35) X dX11_odds_35
  · rw [if_neg hc] at h
    refine ev_iload_n (pc := 15) X 2 dX11_odds_15 rfl rfl ?_
    refine ev_iconst (pc := 16) (v := (0 : Int32)) X dX11_odds_16 rfl ?_
    refine ev_bipush (pc := 17) (v := (6 : Int32)) X dX11_odds_17 rfl ?_
    obtain ⟨v5, w4, hc, h⟩ := eB2 h
    refine ev_callS_i (pc := 19) (As := [.int x2, .int (0 : Int32), .int (6 : Int32)]) (S := []) X hwX11_in klX11_54 htX11_in ⟨Nat.le_of_ble_eq_true rfl, Nat.le_of_ble_eq_true rfl⟩ ⟨Nat.le_refl _, Nat.le_refl _⟩ rfl (Nat.le_of_ble_eq_true rfl) dX11_odds_19 rfl (mX11_in hc) ?_
    refine ev_if_eq (pc := 22) X 34 dX11_odds_22 rfl (fun hc => ?_) (fun hc => ?_)
    · rw [if_pos hc] at h
      refine ev_iconst (pc := 34) (v := (-1 : Int32)) X dX11_odds_34 rfl ?_
      obtain rfl := Option.some.inj h
      exact ev_iret (pc := 35) X dX11_odds_35
    · rw [if_neg hc] at h
      refine ev_iload_n (pc := 25) X 3 dX11_odds_25 rfl rfl ?_
      refine ev_iconst (pc := 26) (v := (0 : Int32)) X dX11_odds_26 rfl ?_
      refine ev_iconst (pc := 27) (v := (1 : Int32)) X dX11_odds_27 rfl ?_
      obtain ⟨v7, w6, hc, h⟩ := eB2 h
      refine ev_callS_i (pc := 28) (As := [.int x3, .int (0 : Int32), .int (1 : Int32)]) (S := []) X hwX11_in klX11_54 htX11_in ⟨Nat.le_of_ble_eq_true rfl, Nat.le_of_ble_eq_true rfl⟩ ⟨Nat.le_refl _, Nat.le_refl _⟩ rfl (Nat.le_of_ble_eq_true rfl) dX11_odds_28 rfl (mX11_in hc) ?_
      refine ev_if_ne (pc := 31) X 36 dX11_odds_31 rfl (fun hc => ?_) (fun hc => ?_)
      · rw [if_neg hc] at h
        refine ev_iconst (pc := 36) (v := (0 : Int32)) X dX11_odds_36 rfl ?_
        refine ev_istore (pc := 37) (L' := [(4, .int (0 : Int32)), (0, .ref x0), (1, .int x1), (2, .int x2), (3, .int x3)]) X dX11_odds_37 (by decide) rfl ?_
        exact ev_weak (pc := 39) [1, 2, 3, 4, 0] rfl (sX11_odds_39 eN _ _ _ _ _ _ _ h p e s m args below meth c r0 A X)
      · rw [if_pos hc] at h
        refine ev_iconst (pc := 34) (v := (-1 : Int32)) X dX11_odds_34 rfl ?_
        obtain rfl := Option.some.inj h
        exact ev_iret (pc := 35) X dX11_odds_35
def fX11_odds (a0 : Nat) (a1 : Int32) (a2 : Int32) (a3 : Int32) (w : eW) : Option (Int32 × eW) := bif eO w a0 11 then fX11_odds_0 a0 a1 a2 a3 w else none
theorem mX11_odds {a0 : Nat} {a1 : Int32} {a2 : Int32} {a3 : Int32} {w : eW} {v : Int32} {w' : eW} (h : fX11_odds a0 a1 a2 a3 w = some (v, w')) : eO w a0 11 = true ∧ eMN l D cI cZ 5 yX11_odds cX11_odds 7 (some .int) [.ref a0, .int a1, .int a2, .int a3] w (some (.int v)) w' := by
  obtain ⟨h0, h⟩ := eBif h
  exact ⟨h0, eMN_of [(0, .ref a0), (1, .int a1), (2, .int a2), (3, .int a3)] (plainFor_of_name (by decide)) (fun _ => rfl) (fun _ => Nat.le_of_ble_eq_true rfl) (fun p e s m args below meth c r0 A X => ev_weak (pc := 0) [0, 1, 2, 3] rfl (sX11_odds_0 _ _ _ _ _ _ h p e s m args below meth c r0 A X))⟩
theorem dX11_otherwise_0 : decode cX11_otherwise 0 = .ok (.aload_n 0, 1) := by decide +kernel
theorem dX11_otherwise_1 : decode cX11_otherwise 1 = .ok (.getfield 22, 3) := by decide +kernel
theorem dX11_otherwise_4 : decode cX11_otherwise 4 = .ok (.iload_n 1, 1) := by decide +kernel
theorem dX11_otherwise_5 : decode cX11_otherwise 5 = .ok (.invokestatic 129, 3) := by decide +kernel
theorem dX11_otherwise_8 : decode cX11_otherwise 8 = .ok (.istore 5, 2) := by decide +kernel
theorem dX11_otherwise_10 : decode cX11_otherwise 10 = .ok (.iconst 0, 1) := by decide +kernel
theorem dX11_otherwise_11 : decode cX11_otherwise 11 = .ok (.istore 6, 2) := by decide +kernel
theorem dX11_otherwise_13 : decode cX11_otherwise 13 = .ok (.iload 6, 2) := by decide +kernel
theorem dX11_otherwise_15 : decode cX11_otherwise 15 = .ok (.iload 4, 2) := by decide +kernel
theorem dX11_otherwise_17 : decode cX11_otherwise 17 = .ok (.if_icmp .ge 44, 3) := by decide +kernel
theorem dX11_otherwise_20 : decode cX11_otherwise 20 = .ok (.iload 5, 2) := by decide +kernel
theorem dX11_otherwise_22 : decode cX11_otherwise 22 = .ok (.bipush (-9), 2) := by decide +kernel
theorem dX11_otherwise_24 : decode cX11_otherwise 24 = .ok (.if_icmp .eq 37, 3) := by decide +kernel
theorem dX11_otherwise_27 : decode cX11_otherwise 27 = .ok (.aload_n 0, 1) := by decide +kernel
theorem dX11_otherwise_28 : decode cX11_otherwise 28 = .ok (.iload 5, 2) := by decide +kernel
theorem dX11_otherwise_30 : decode cX11_otherwise 30 = .ok (.iload 6, 2) := by decide +kernel
theorem dX11_otherwise_32 : decode cX11_otherwise 32 = .ok (.iload_n 2, 1) := by decide +kernel
theorem dX11_otherwise_33 : decode cX11_otherwise 33 = .ok (.if_icmp .ne 7, 3) := by decide +kernel
theorem dX11_otherwise_36 : decode cX11_otherwise 36 = .ok (.iload_n 3, 1) := by decide +kernel
theorem dX11_otherwise_37 : decode cX11_otherwise 37 = .ok (.goto 13, 3) := by decide +kernel
theorem dX11_otherwise_40 : decode cX11_otherwise 40 = .ok (.aload_n 0, 1) := by decide +kernel
theorem dX11_otherwise_41 : decode cX11_otherwise 41 = .ok (.getfield 22, 3) := by decide +kernel
theorem dX11_otherwise_44 : decode cX11_otherwise 44 = .ok (.iload_n 1, 1) := by decide +kernel
theorem dX11_otherwise_45 : decode cX11_otherwise 45 = .ok (.iload 6, 2) := by decide +kernel
theorem dX11_otherwise_47 : decode cX11_otherwise 47 = .ok (.invokestatic 133, 3) := by decide +kernel
theorem dX11_otherwise_50 : decode cX11_otherwise 50 = .ok (.invokevirtual 185, 3) := by decide +kernel
theorem dX11_otherwise_53 : decode cX11_otherwise 53 = .ok (.istore 5, 2) := by decide +kernel
theorem dX11_otherwise_55 : decode cX11_otherwise 55 = .ok (.iinc 6 1, 3) := by decide +kernel
theorem dX11_otherwise_58 : decode cX11_otherwise 58 = .ok (.goto (-45), 3) := by decide +kernel
theorem dX11_otherwise_61 : decode cX11_otherwise 61 = .ok (.iload 5, 2) := by decide +kernel
theorem dX11_otherwise_63 : decode cX11_otherwise 63 = .ok (.ireturn, 1) := by decide +kernel
def fX11_otherwise_50 (K13 : Nat → Int32 → Int32 → Int32 → Int32 → Int32 → Int32 → eW → Option (Int32 × eW)) (x0 : Nat) (x1 : Int32) (x2 : Int32) (x3 : Int32) (x4 : Int32) (x6 : Int32) (t0 : Nat) (t1 : Int32) (t2 : Int32) (w : eW) : Option (Int32 × eW) := eBind2 (fX11_goes t0 t1 t2 w) fun v2 w1 => K13 x0 x1 x2 x3 x4 v2 (x6 + (1 : Int32)) w1
set_option maxRecDepth 20000 in
theorem sX11_otherwise_50 {K13 : Nat → Int32 → Int32 → Int32 → Int32 → Int32 → Int32 → eW → Option (Int32 × eW)} (hK13 : ∀ (x0 : Nat) (x1 : Int32) (x2 : Int32) (x3 : Int32) (x4 : Int32) (x5 : Int32) (x6 : Int32) (w : eW) (r : Int32 × eW), K13 x0 x1 x2 x3 x4 x5 x6 w = some r → eBN l D cI cZ 3 yX11_otherwise cX11_otherwise 7 (some .int) 13 [(0, .ref x0), (1, .int x1), (2, .int x2), (3, .int x3), (4, .int x4), (5, .int x5), (6, .int x6)] [] w (some (.int r.1)) r.2) (x0 : Nat) (x1 : Int32) (x2 : Int32) (x3 : Int32) (x4 : Int32) (x6 : Int32) (t0 : Nat) (t1 : Int32) (t2 : Int32) (w : eW) (r : Int32 × eW) (h : fX11_otherwise_50 K13 x0 x1 x2 x3 x4 x6 t0 t1 t2 w = some r) : eBN l D cI cZ 3 yX11_otherwise cX11_otherwise 7 (some .int) 50 [(0, .ref x0), (1, .int x1), (2, .int x2), (3, .int x3), (4, .int x4), (6, .int x6)] [.int t2, .int t1, .ref t0] w (some (.int r.1)) r.2 := by
  rw [fX11_otherwise_50] at h
  intro p e s m args below meth c r0 A X
  obtain ⟨v2, w1, hc, h⟩ := eB2 h
  refine ev_callV_i (pc := 50) (As := [.int t1, .int t2]) (S := []) X hwX11_goes klX11_185 hiX11_goes hsX11_goes (ci := 11) ⟨rfl, rfl⟩ ⟨Nat.le_of_ble_eq_true rfl, Nat.le_of_ble_eq_true rfl⟩ ⟨Nat.le_refl _, Nat.le_refl _⟩ rfl (Nat.le_of_ble_eq_true rfl) dX11_otherwise_50 rfl (mX11_goes (l := l) (D := D) (cI := cI) (cZ := cZ) hc).1 (mX11_goes hc).2 ?_
  refine ev_istore (pc := 53) (L' := [(5, .int v2), (0, .ref x0), (1, .int x1), (2, .int x2), (3, .int x3), (4, .int x4), (6, .int x6)]) X dX11_otherwise_53 (by decide) rfl ?_
  refine ev_iinc (pc := 55) (v := x6 + (1 : Int32)) (L' := [(6, .int (x6 + (1 : Int32))), (5, .int v2), (0, .ref x0), (1, .int x1), (2, .int x2), (3, .int x3), (4, .int x4)]) X 6 dX11_otherwise_55 rfl rfl (by decide) rfl ?_
  refine ev_goto (pc := 58) X 13 dX11_otherwise_58 rfl ?_
  exact ev_weak (pc := 13) [2, 3, 4, 5, 6, 1, 0] rfl (hK13 _ _ _ _ _ _ _ _ _ h p e s m args below meth c r0 A X)
def fX11_otherwise_13 : Nat → Nat → Int32 → Int32 → Int32 → Int32 → Int32 → Int32 → eW → Option (Int32 × eW)
  | 0, _, _, _, _, _, _, _, _ => none
  | n + 1, x0, x1, x2, x3, x4, x5, x6, w => if x4 ≤ x6 then (some (x5, w)) else (if x5 = (-9 : Int32) then (some (x5, w)) else (if x6 = x2 then (fX11_otherwise_50 (fX11_otherwise_13 n) x0 x1 x2 x3 x4 x6 x0 x5 x3 w) else ((eGR w x0 11 13).bind fun v1 => eBind2 (fX11_cardAt v1 x1 x6 w) fun v3 w2 => fX11_otherwise_50 (fX11_otherwise_13 n) x0 x1 x2 x3 x4 x6 x0 x5 v3 w2)))
set_option maxRecDepth 20000 in
theorem sX11_otherwise_13  : ∀ (n : Nat) (x0 : Nat) (x1 : Int32) (x2 : Int32) (x3 : Int32) (x4 : Int32) (x5 : Int32) (x6 : Int32) (w : eW) (r : Int32 × eW), fX11_otherwise_13 n x0 x1 x2 x3 x4 x5 x6 w = some r → eBN l D cI cZ 3 yX11_otherwise cX11_otherwise 7 (some .int) 13 [(0, .ref x0), (1, .int x1), (2, .int x2), (3, .int x3), (4, .int x4), (5, .int x5), (6, .int x6)] [] w (some (.int r.1)) r.2 := by
  intro n
  induction n with
  | zero => intro x0 x1 x2 x3 x4 x5 x6 w r h; exact absurd (show (none : Option (Int32 × eW)) = some r from h) (by simp)
  | succ n ih =>
    intro x0 x1 x2 x3 x4 x5 x6 w r h
    rw [fX11_otherwise_13] at h
    intro p e s m args below meth c r0 A X
    refine ev_iload (pc := 13) X 6 dX11_otherwise_13 rfl ?_
    refine ev_iload (pc := 15) X 4 dX11_otherwise_15 rfl ?_
    refine ev_icmp_ge (pc := 17) X 61 dX11_otherwise_17 rfl (fun hc => ?_) (fun hc => ?_)
    · rw [if_pos hc] at h
      refine ev_iload (pc := 61) X 5 dX11_otherwise_61 rfl ?_
      obtain rfl := Option.some.inj h
      exact ev_iret (pc := 63) X dX11_otherwise_63
    · rw [if_neg hc] at h
      refine ev_iload (pc := 20) X 5 dX11_otherwise_20 rfl ?_
      refine ev_bipush (pc := 22) (v := (-9 : Int32)) X dX11_otherwise_22 rfl ?_
      refine ev_icmp_eq (pc := 24) X 61 dX11_otherwise_24 rfl (fun hc => ?_) (fun hc => ?_)
      · rw [if_pos hc] at h
        refine ev_iload (pc := 61) X 5 dX11_otherwise_61 rfl ?_
        obtain rfl := Option.some.inj h
        exact ev_iret (pc := 63) X dX11_otherwise_63
      · rw [if_neg hc] at h
        refine ev_aload_n (pc := 27) X 0 dX11_otherwise_27 rfl rfl ?_
        refine ev_iload (pc := 28) X 5 dX11_otherwise_28 rfl ?_
        refine ev_iload (pc := 30) X 6 dX11_otherwise_30 rfl ?_
        refine ev_iload_n (pc := 32) X 2 dX11_otherwise_32 rfl rfl ?_
        refine ev_icmp_ne (pc := 33) X 40 dX11_otherwise_33 rfl (fun hc => ?_) (fun hc => ?_)
        · rw [if_neg hc] at h
          refine ev_aload_n (pc := 40) X 0 dX11_otherwise_40 rfl rfl ?_
          obtain ⟨v1, hv1, h⟩ := eBi h
          refine ev_getR (pc := 41) X hcX11 (k := 13) (by decide) kfX11_22 dX11_otherwise_41 hv1 ?_
          refine ev_iload_n (pc := 44) X 1 dX11_otherwise_44 rfl rfl ?_
          refine ev_iload (pc := 45) X 6 dX11_otherwise_45 rfl ?_
          obtain ⟨v3, w2, hc, h⟩ := eB2 h
          refine ev_callS_i (pc := 47) (As := [.ref v1, .int x1, .int x6]) (S := [.int x5, .ref x0]) X hwX11_cardAt klX11_133 htX11_cardAt ⟨Nat.le_of_ble_eq_true rfl, Nat.le_of_ble_eq_true rfl⟩ ⟨Nat.le_refl _, Nat.le_refl _⟩ rfl (Nat.le_of_ble_eq_true rfl) dX11_otherwise_47 rfl (mX11_cardAt hc) ?_
          exact ev_weak (pc := 50) [0, 1, 2, 3, 4, 6] rfl (sX11_otherwise_50 (fun _ _ _ _ _ _ _ w r hh => ih _ _ _ _ _ _ _ w r hh) _ _ _ _ _ _ _ _ _ _ _ h p e s m args below meth c r0 A X)
        · rw [if_pos hc] at h
          refine ev_iload_n (pc := 36) X 3 dX11_otherwise_36 rfl rfl ?_
          refine ev_goto (pc := 37) X 50 dX11_otherwise_37 rfl ?_
          exact ev_weak (pc := 50) [0, 1, 2, 3, 4, 6] rfl (sX11_otherwise_50 (fun _ _ _ _ _ _ _ w r hh => ih _ _ _ _ _ _ _ w r hh) _ _ _ _ _ _ _ _ _ _ _ h p e s m args below meth c r0 A X)
def fX11_otherwise_0 (x0 : Nat) (x1 : Int32) (x2 : Int32) (x3 : Int32) (x4 : Int32) (w : eW) : Option (Int32 × eW) := (eGR w x0 11 13).bind fun v1 => eBind2 (fX11_firstOf v1 x1 w) fun v3 w2 => fX11_otherwise_13 eN x0 x1 x2 x3 x4 v3 (0 : Int32) w2
set_option maxRecDepth 20000 in
theorem sX11_otherwise_0  (x0 : Nat) (x1 : Int32) (x2 : Int32) (x3 : Int32) (x4 : Int32) (w : eW) (r : Int32 × eW) (h : fX11_otherwise_0 x0 x1 x2 x3 x4 w = some r) : eBN l D cI cZ 3 yX11_otherwise cX11_otherwise 7 (some .int) 0 [(0, .ref x0), (1, .int x1), (2, .int x2), (3, .int x3), (4, .int x4)] [] w (some (.int r.1)) r.2 := by
  rw [fX11_otherwise_0] at h
  intro p e s m args below meth c r0 A X
  refine ev_aload_n (pc := 0) X 0 dX11_otherwise_0 rfl rfl ?_
  obtain ⟨v1, hv1, h⟩ := eBi h
  refine ev_getR (pc := 1) X hcX11 (k := 13) (by decide) kfX11_22 dX11_otherwise_1 hv1 ?_
  refine ev_iload_n (pc := 4) X 1 dX11_otherwise_4 rfl rfl ?_
  obtain ⟨v3, w2, hc, h⟩ := eB2 h
  refine ev_callS_i (pc := 5) (As := [.ref v1, .int x1]) (S := []) X hwX11_firstOf klX11_129 htX11_firstOf ⟨Nat.le_of_ble_eq_true rfl, Nat.le_of_ble_eq_true rfl⟩ ⟨Nat.le_refl _, Nat.le_refl _⟩ rfl (Nat.le_of_ble_eq_true rfl) dX11_otherwise_5 rfl (mX11_firstOf hc) ?_
  refine ev_istore (pc := 8) (L' := [(5, .int v3), (0, .ref x0), (1, .int x1), (2, .int x2), (3, .int x3), (4, .int x4)]) X dX11_otherwise_8 (by decide) rfl ?_
  refine ev_iconst (pc := 10) (v := (0 : Int32)) X dX11_otherwise_10 rfl ?_
  refine ev_istore (pc := 11) (L' := [(6, .int (0 : Int32)), (5, .int v3), (0, .ref x0), (1, .int x1), (2, .int x2), (3, .int x3), (4, .int x4)]) X dX11_otherwise_11 (by decide) rfl ?_
  exact ev_weak (pc := 13) [2, 3, 4, 5, 6, 1, 0] rfl (sX11_otherwise_13 eN _ _ _ _ _ _ _ _ _ h p e s m args below meth c r0 A X)
def fX11_otherwise (a0 : Nat) (a1 : Int32) (a2 : Int32) (a3 : Int32) (a4 : Int32) (w : eW) : Option (Int32 × eW) := bif eO w a0 11 then fX11_otherwise_0 a0 a1 a2 a3 a4 w else none
theorem mX11_otherwise {a0 : Nat} {a1 : Int32} {a2 : Int32} {a3 : Int32} {a4 : Int32} {w : eW} {v : Int32} {w' : eW} (h : fX11_otherwise a0 a1 a2 a3 a4 w = some (v, w')) : eO w a0 11 = true ∧ eMN l D cI cZ 3 yX11_otherwise cX11_otherwise 7 (some .int) [.ref a0, .int a1, .int a2, .int a3, .int a4] w (some (.int v)) w' := by
  obtain ⟨h0, h⟩ := eBif h
  exact ⟨h0, eMN_of [(0, .ref a0), (1, .int a1), (2, .int a2), (3, .int a3), (4, .int a4)] (plainFor_of_name (by decide)) (fun _ => rfl) (fun _ => Nat.le_of_ble_eq_true rfl) (fun p e s m args below meth c r0 A X => ev_weak (pc := 0) [0, 1, 2, 3, 4] rfl (sX11_otherwise_0 _ _ _ _ _ _ _ h p e s m args below meth c r0 A X))⟩
theorem dX11_wrong_0 : decode cX11_wrong 0 = .ok (.aload_n 0, 1) := by decide +kernel
theorem dX11_wrong_1 : decode cX11_wrong 1 = .ok (.iconst 0, 1) := by decide +kernel
theorem dX11_wrong_2 : decode cX11_wrong 2 = .ok (.putfield 50, 3) := by decide +kernel
theorem dX11_wrong_5 : decode cX11_wrong 5 = .ok (.aload_n 0, 1) := by decide +kernel
theorem dX11_wrong_6 : decode cX11_wrong 6 = .ok (.iload_n 1, 1) := by decide +kernel
theorem dX11_wrong_7 : decode cX11_wrong 7 = .ok (.invokevirtual 143, 3) := by decide +kernel
theorem dX11_wrong_10 : decode cX11_wrong 10 = .ok (.ifCond .eq 20, 3) := by decide +kernel
theorem dX11_wrong_13 : decode cX11_wrong 13 = .ok (.aload_n 0, 1) := by decide +kernel
theorem dX11_wrong_14 : decode cX11_wrong 14 = .ok (.iload_n 2, 1) := by decide +kernel
theorem dX11_wrong_15 : decode cX11_wrong 15 = .ok (.invokevirtual 120, 3) := by decide +kernel
theorem dX11_wrong_18 : decode cX11_wrong 18 = .ok (.ifCond .eq 12, 3) := by decide +kernel
theorem dX11_wrong_21 : decode cX11_wrong 21 = .ok (.iload_n 3, 1) := by decide +kernel
theorem dX11_wrong_22 : decode cX11_wrong 22 = .ok (.iconst 0, 1) := by decide +kernel
theorem dX11_wrong_23 : decode cX11_wrong 23 = .ok (.iconst 1, 1) := by decide +kernel
theorem dX11_wrong_24 : decode cX11_wrong 24 = .ok (.invokestatic 54, 3) := by decide +kernel
theorem dX11_wrong_27 : decode cX11_wrong 27 = .ok (.ifCond .ne 5, 3) := by decide +kernel
theorem dX11_wrong_30 : decode cX11_wrong 30 = .ok (.iconst (-1), 1) := by decide +kernel
theorem dX11_wrong_31 : decode cX11_wrong 31 = .ok (.ireturn, 1) := by decide +kernel
theorem dX11_wrong_32 : decode cX11_wrong 32 = .ok (.iconst 0, 1) := by decide +kernel
theorem dX11_wrong_33 : decode cX11_wrong 33 = .ok (.istore 4, 2) := by decide +kernel
theorem dX11_wrong_35 : decode cX11_wrong 35 = .ok (.bipush (-9), 2) := by decide +kernel
theorem dX11_wrong_37 : decode cX11_wrong 37 = .ok (.istore 5, 2) := by decide +kernel
theorem dX11_wrong_39 : decode cX11_wrong 39 = .ok (.iconst 0, 1) := by decide +kernel
theorem dX11_wrong_40 : decode cX11_wrong 40 = .ok (.istore 6, 2) := by decide +kernel
theorem dX11_wrong_42 : decode cX11_wrong 42 = .ok (.iload 6, 2) := by decide +kernel
theorem dX11_wrong_44 : decode cX11_wrong 44 = .ok (.aload_n 0, 1) := by decide +kernel
theorem dX11_wrong_45 : decode cX11_wrong 45 = .ok (.getfield 22, 3) := by decide +kernel
theorem dX11_wrong_48 : decode cX11_wrong 48 = .ok (.iload_n 1, 1) := by decide +kernel
theorem dX11_wrong_49 : decode cX11_wrong 49 = .ok (.invokestatic 137, 3) := by decide +kernel
theorem dX11_wrong_52 : decode cX11_wrong 52 = .ok (.if_icmp .ge 82, 3) := by decide +kernel
theorem dX11_wrong_55 : decode cX11_wrong 55 = .ok (.iconst 0, 1) := by decide +kernel
theorem dX11_wrong_56 : decode cX11_wrong 56 = .ok (.istore 7, 2) := by decide +kernel
theorem dX11_wrong_58 : decode cX11_wrong 58 = .ok (.iload 7, 2) := by decide +kernel
theorem dX11_wrong_60 : decode cX11_wrong 60 = .ok (.iconst 4, 1) := by decide +kernel
theorem dX11_wrong_61 : decode cX11_wrong 61 = .ok (.if_icmp .ge 67, 3) := by decide +kernel
theorem dX11_wrong_64 : decode cX11_wrong 64 = .ok (.iload 7, 2) := by decide +kernel
theorem dX11_wrong_66 : decode cX11_wrong 66 = .ok (.aload_n 0, 1) := by decide +kernel
theorem dX11_wrong_67 : decode cX11_wrong 67 = .ok (.getfield 22, 3) := by decide +kernel
theorem dX11_wrong_70 : decode cX11_wrong 70 = .ok (.iload_n 1, 1) := by decide +kernel
theorem dX11_wrong_71 : decode cX11_wrong 71 = .ok (.iload 6, 2) := by decide +kernel
theorem dX11_wrong_73 : decode cX11_wrong 73 = .ok (.invokestatic 133, 3) := by decide +kernel
theorem dX11_wrong_76 : decode cX11_wrong 76 = .ok (.if_icmp .eq 46, 3) := by decide +kernel
theorem dX11_wrong_79 : decode cX11_wrong 79 = .ok (.aload_n 0, 1) := by decide +kernel
theorem dX11_wrong_80 : decode cX11_wrong 80 = .ok (.iload_n 1, 1) := by decide +kernel
theorem dX11_wrong_81 : decode cX11_wrong 81 = .ok (.iload 6, 2) := by decide +kernel
theorem dX11_wrong_83 : decode cX11_wrong 83 = .ok (.iload 7, 2) := by decide +kernel
theorem dX11_wrong_85 : decode cX11_wrong 85 = .ok (.aload_n 0, 1) := by decide +kernel
theorem dX11_wrong_86 : decode cX11_wrong 86 = .ok (.getfield 22, 3) := by decide +kernel
theorem dX11_wrong_89 : decode cX11_wrong 89 = .ok (.iload_n 1, 1) := by decide +kernel
theorem dX11_wrong_90 : decode cX11_wrong 90 = .ok (.invokestatic 137, 3) := by decide +kernel
theorem dX11_wrong_93 : decode cX11_wrong 93 = .ok (.invokevirtual 210, 3) := by decide +kernel
theorem dX11_wrong_96 : decode cX11_wrong 96 = .ok (.iload_n 2, 1) := by decide +kernel
theorem dX11_wrong_97 : decode cX11_wrong 97 = .ok (.if_icmp .ne 25, 3) := by decide +kernel
theorem dX11_wrong_100 : decode cX11_wrong 100 = .ok (.iload 4, 2) := by decide +kernel
theorem dX11_wrong_102 : decode cX11_wrong 102 = .ok (.ifCond .ne 13, 3) := by decide +kernel
theorem dX11_wrong_105 : decode cX11_wrong 105 = .ok (.iconst 4, 1) := by decide +kernel
theorem dX11_wrong_106 : decode cX11_wrong 106 = .ok (.iload 6, 2) := by decide +kernel
theorem dX11_wrong_108 : decode cX11_wrong 108 = .ok (.imul, 1) := by decide +kernel
theorem dX11_wrong_109 : decode cX11_wrong 109 = .ok (.iload 7, 2) := by decide +kernel
theorem dX11_wrong_111 : decode cX11_wrong 111 = .ok (.iadd, 1) := by decide +kernel
theorem dX11_wrong_112 : decode cX11_wrong 112 = .ok (.goto 5, 3) := by decide +kernel
theorem dX11_wrong_115 : decode cX11_wrong 115 = .ok (.iload 5, 2) := by decide +kernel
theorem dX11_wrong_117 : decode cX11_wrong 117 = .ok (.istore 5, 2) := by decide +kernel
theorem dX11_wrong_119 : decode cX11_wrong 119 = .ok (.iinc 4 1, 3) := by decide +kernel
theorem dX11_wrong_122 : decode cX11_wrong 122 = .ok (.iinc 7 1, 3) := by decide +kernel
theorem dX11_wrong_125 : decode cX11_wrong 125 = .ok (.goto (-67), 3) := by decide +kernel
theorem dX11_wrong_128 : decode cX11_wrong 128 = .ok (.iinc 6 1, 3) := by decide +kernel
theorem dX11_wrong_131 : decode cX11_wrong 131 = .ok (.goto (-89), 3) := by decide +kernel
theorem dX11_wrong_134 : decode cX11_wrong 134 = .ok (.iload_n 3, 1) := by decide +kernel
theorem dX11_wrong_135 : decode cX11_wrong 135 = .ok (.ifCond .ne 8, 3) := by decide +kernel
theorem dX11_wrong_138 : decode cX11_wrong 138 = .ok (.iload 4, 2) := by decide +kernel
theorem dX11_wrong_140 : decode cX11_wrong 140 = .ok (.goto 5, 3) := by decide +kernel
theorem dX11_wrong_143 : decode cX11_wrong 143 = .ok (.iload 5, 2) := by decide +kernel
theorem dX11_wrong_145 : decode cX11_wrong 145 = .ok (.ireturn, 1) := by decide +kernel
def fX11_wrong_122 (K42 : Nat → Int32 → Int32 → Int32 → Int32 → Int32 → Int32 → eW → Option (Int32 × eW)) (K58 : Nat → Int32 → Int32 → Int32 → Int32 → Int32 → Int32 → Int32 → eW → Option (Int32 × eW)) (x0 : Nat) (x1 : Int32) (x2 : Int32) (x3 : Int32) (x4 : Int32) (x5 : Int32) (x6 : Int32) (x7 : Int32) (w : eW) : Option (Int32 × eW) := K58 x0 x1 x2 x3 x4 x5 x6 (x7 + (1 : Int32)) w
set_option maxRecDepth 20000 in
theorem sX11_wrong_122 {K42 : Nat → Int32 → Int32 → Int32 → Int32 → Int32 → Int32 → eW → Option (Int32 × eW)} {K58 : Nat → Int32 → Int32 → Int32 → Int32 → Int32 → Int32 → Int32 → eW → Option (Int32 × eW)} (hK42 : ∀ (x0 : Nat) (x1 : Int32) (x2 : Int32) (x3 : Int32) (x4 : Int32) (x5 : Int32) (x6 : Int32) (w : eW) (r : Int32 × eW), K42 x0 x1 x2 x3 x4 x5 x6 w = some r → eBN l D cI cZ 4 yX11_wrong cX11_wrong 8 (some .int) 42 [(0, .ref x0), (1, .int x1), (2, .int x2), (3, .int x3), (4, .int x4), (5, .int x5), (6, .int x6)] [] w (some (.int r.1)) r.2) (hK58 : ∀ (x0 : Nat) (x1 : Int32) (x2 : Int32) (x3 : Int32) (x4 : Int32) (x5 : Int32) (x6 : Int32) (x7 : Int32) (w : eW) (r : Int32 × eW), K58 x0 x1 x2 x3 x4 x5 x6 x7 w = some r → eBN l D cI cZ 4 yX11_wrong cX11_wrong 8 (some .int) 58 [(0, .ref x0), (1, .int x1), (2, .int x2), (3, .int x3), (4, .int x4), (5, .int x5), (6, .int x6), (7, .int x7)] [] w (some (.int r.1)) r.2) (x0 : Nat) (x1 : Int32) (x2 : Int32) (x3 : Int32) (x4 : Int32) (x5 : Int32) (x6 : Int32) (x7 : Int32) (w : eW) (r : Int32 × eW) (h : fX11_wrong_122 K42 K58 x0 x1 x2 x3 x4 x5 x6 x7 w = some r) : eBN l D cI cZ 4 yX11_wrong cX11_wrong 8 (some .int) 122 [(0, .ref x0), (1, .int x1), (2, .int x2), (3, .int x3), (4, .int x4), (5, .int x5), (6, .int x6), (7, .int x7)] [] w (some (.int r.1)) r.2 := by
  rw [fX11_wrong_122] at h
  intro p e s m args below meth c r0 A X
  refine ev_iinc (pc := 122) (v := x7 + (1 : Int32)) (L' := [(7, .int (x7 + (1 : Int32))), (0, .ref x0), (1, .int x1), (2, .int x2), (3, .int x3), (4, .int x4), (5, .int x5), (6, .int x6)]) X 7 dX11_wrong_122 rfl rfl (by decide) rfl ?_
  refine ev_goto (pc := 125) X 58 dX11_wrong_125 rfl ?_
  exact ev_weak (pc := 58) [1, 2, 3, 4, 5, 6, 7, 0] rfl (hK58 _ _ _ _ _ _ _ _ _ _ h p e s m args below meth c r0 A X)
def fX11_wrong_117 (K42 : Nat → Int32 → Int32 → Int32 → Int32 → Int32 → Int32 → eW → Option (Int32 × eW)) (K58 : Nat → Int32 → Int32 → Int32 → Int32 → Int32 → Int32 → Int32 → eW → Option (Int32 × eW)) (x0 : Nat) (x1 : Int32) (x2 : Int32) (x3 : Int32) (x4 : Int32) (x6 : Int32) (x7 : Int32) (t0 : Int32) (w : eW) : Option (Int32 × eW) := fX11_wrong_122 K42 K58 x0 x1 x2 x3 (x4 + (1 : Int32)) t0 x6 x7 w
set_option maxRecDepth 20000 in
theorem sX11_wrong_117 {K42 : Nat → Int32 → Int32 → Int32 → Int32 → Int32 → Int32 → eW → Option (Int32 × eW)} {K58 : Nat → Int32 → Int32 → Int32 → Int32 → Int32 → Int32 → Int32 → eW → Option (Int32 × eW)} (hK42 : ∀ (x0 : Nat) (x1 : Int32) (x2 : Int32) (x3 : Int32) (x4 : Int32) (x5 : Int32) (x6 : Int32) (w : eW) (r : Int32 × eW), K42 x0 x1 x2 x3 x4 x5 x6 w = some r → eBN l D cI cZ 4 yX11_wrong cX11_wrong 8 (some .int) 42 [(0, .ref x0), (1, .int x1), (2, .int x2), (3, .int x3), (4, .int x4), (5, .int x5), (6, .int x6)] [] w (some (.int r.1)) r.2) (hK58 : ∀ (x0 : Nat) (x1 : Int32) (x2 : Int32) (x3 : Int32) (x4 : Int32) (x5 : Int32) (x6 : Int32) (x7 : Int32) (w : eW) (r : Int32 × eW), K58 x0 x1 x2 x3 x4 x5 x6 x7 w = some r → eBN l D cI cZ 4 yX11_wrong cX11_wrong 8 (some .int) 58 [(0, .ref x0), (1, .int x1), (2, .int x2), (3, .int x3), (4, .int x4), (5, .int x5), (6, .int x6), (7, .int x7)] [] w (some (.int r.1)) r.2) (x0 : Nat) (x1 : Int32) (x2 : Int32) (x3 : Int32) (x4 : Int32) (x6 : Int32) (x7 : Int32) (t0 : Int32) (w : eW) (r : Int32 × eW) (h : fX11_wrong_117 K42 K58 x0 x1 x2 x3 x4 x6 x7 t0 w = some r) : eBN l D cI cZ 4 yX11_wrong cX11_wrong 8 (some .int) 117 [(0, .ref x0), (1, .int x1), (2, .int x2), (3, .int x3), (4, .int x4), (6, .int x6), (7, .int x7)] [.int t0] w (some (.int r.1)) r.2 := by
  rw [fX11_wrong_117] at h
  intro p e s m args below meth c r0 A X
  refine ev_istore (pc := 117) (L' := [(5, .int t0), (0, .ref x0), (1, .int x1), (2, .int x2), (3, .int x3), (4, .int x4), (6, .int x6), (7, .int x7)]) X dX11_wrong_117 (by decide) rfl ?_
  refine ev_iinc (pc := 119) (v := x4 + (1 : Int32)) (L' := [(4, .int (x4 + (1 : Int32))), (5, .int t0), (0, .ref x0), (1, .int x1), (2, .int x2), (3, .int x3), (6, .int x6), (7, .int x7)]) X 5 dX11_wrong_119 rfl rfl (by decide) rfl ?_
  exact ev_weak (pc := 122) [2, 3, 4, 5, 0, 1, 6, 7] rfl (sX11_wrong_122 hK42 hK58 _ _ _ _ _ _ _ _ _ _ h p e s m args below meth c r0 A X)
def fX11_wrong_58 (K42 : Nat → Int32 → Int32 → Int32 → Int32 → Int32 → Int32 → eW → Option (Int32 × eW)) : Nat → Nat → Int32 → Int32 → Int32 → Int32 → Int32 → Int32 → Int32 → eW → Option (Int32 × eW)
  | 0, _, _, _, _, _, _, _, _, _ => none
  | n + 1, x0, x1, x2, x3, x4, x5, x6, x7, w => if (4 : Int32) ≤ x7 then (K42 x0 x1 x2 x3 x4 x5 (x6 + (1 : Int32)) w) else ((eGR w x0 11 13).bind fun v1 => eBind2 (fX11_cardAt v1 x1 x6 w) fun v3 w2 => if x7 = v3 then (fX11_wrong_122 K42 (fX11_wrong_58 K42 n) x0 x1 x2 x3 x4 x5 x6 x7 w2) else ((eGR w2 x0 11 13).bind fun v4 => eBind2 (fX11_cardsOf v4 x1 w2) fun v6 w5 => eBind2 (fX11_otherwise x0 x1 x6 x7 v6 w5) fun v8 w7 => if v8 = x2 then (if x4 = 0 then (fX11_wrong_117 K42 (fX11_wrong_58 K42 n) x0 x1 x2 x3 x4 x6 x7 (((4 : Int32) * x6) + x7) w7) else (fX11_wrong_117 K42 (fX11_wrong_58 K42 n) x0 x1 x2 x3 x4 x6 x7 x5 w7)) else (fX11_wrong_122 K42 (fX11_wrong_58 K42 n) x0 x1 x2 x3 x4 x5 x6 x7 w7)))
set_option maxRecDepth 20000 in
theorem sX11_wrong_58 {K42 : Nat → Int32 → Int32 → Int32 → Int32 → Int32 → Int32 → eW → Option (Int32 × eW)} (hK42 : ∀ (x0 : Nat) (x1 : Int32) (x2 : Int32) (x3 : Int32) (x4 : Int32) (x5 : Int32) (x6 : Int32) (w : eW) (r : Int32 × eW), K42 x0 x1 x2 x3 x4 x5 x6 w = some r → eBN l D cI cZ 4 yX11_wrong cX11_wrong 8 (some .int) 42 [(0, .ref x0), (1, .int x1), (2, .int x2), (3, .int x3), (4, .int x4), (5, .int x5), (6, .int x6)] [] w (some (.int r.1)) r.2) : ∀ (n : Nat) (x0 : Nat) (x1 : Int32) (x2 : Int32) (x3 : Int32) (x4 : Int32) (x5 : Int32) (x6 : Int32) (x7 : Int32) (w : eW) (r : Int32 × eW), fX11_wrong_58 K42 n x0 x1 x2 x3 x4 x5 x6 x7 w = some r → eBN l D cI cZ 4 yX11_wrong cX11_wrong 8 (some .int) 58 [(0, .ref x0), (1, .int x1), (2, .int x2), (3, .int x3), (4, .int x4), (5, .int x5), (6, .int x6), (7, .int x7)] [] w (some (.int r.1)) r.2 := by
  intro n
  induction n with
  | zero => intro x0 x1 x2 x3 x4 x5 x6 x7 w r h; exact absurd (show (none : Option (Int32 × eW)) = some r from h) (by simp)
  | succ n ih =>
    intro x0 x1 x2 x3 x4 x5 x6 x7 w r h
    rw [fX11_wrong_58] at h
    intro p e s m args below meth c r0 A X
    refine ev_iload (pc := 58) X 7 dX11_wrong_58 rfl ?_
    refine ev_iconst (pc := 60) (v := (4 : Int32)) X dX11_wrong_60 rfl ?_
    refine ev_icmp_ge (pc := 61) X 128 dX11_wrong_61 rfl (fun hc => ?_) (fun hc => ?_)
    · rw [if_pos hc] at h
      refine ev_iinc (pc := 128) (v := x6 + (1 : Int32)) (L' := [(6, .int (x6 + (1 : Int32))), (0, .ref x0), (1, .int x1), (2, .int x2), (3, .int x3), (4, .int x4), (5, .int x5), (7, .int x7)]) X 6 dX11_wrong_128 rfl rfl (by decide) rfl ?_
      refine ev_goto (pc := 131) X 42 dX11_wrong_131 rfl ?_
      exact ev_weak (pc := 42) [1, 2, 3, 4, 5, 6, 0] rfl (hK42 _ _ _ _ _ _ _ _ _ h p e s m args below meth c r0 A X)
    · rw [if_neg hc] at h
      refine ev_iload (pc := 64) X 7 dX11_wrong_64 rfl ?_
      refine ev_aload_n (pc := 66) X 0 dX11_wrong_66 rfl rfl ?_
      obtain ⟨v1, hv1, h⟩ := eBi h
      refine ev_getR (pc := 67) X hcX11 (k := 13) (by decide) kfX11_22 dX11_wrong_67 hv1 ?_
      refine ev_iload_n (pc := 70) X 1 dX11_wrong_70 rfl rfl ?_
      refine ev_iload (pc := 71) X 6 dX11_wrong_71 rfl ?_
      obtain ⟨v3, w2, hc, h⟩ := eB2 h
      refine ev_callS_i (pc := 73) (As := [.ref v1, .int x1, .int x6]) (S := [.int x7]) X hwX11_cardAt klX11_133 htX11_cardAt ⟨Nat.le_of_ble_eq_true rfl, Nat.le_of_ble_eq_true rfl⟩ ⟨Nat.le_refl _, Nat.le_refl _⟩ rfl (Nat.le_of_ble_eq_true rfl) dX11_wrong_73 rfl (mX11_cardAt hc) ?_
      refine ev_icmp_eq (pc := 76) X 122 dX11_wrong_76 rfl (fun hc => ?_) (fun hc => ?_)
      · rw [if_pos hc] at h
        exact ev_weak (pc := 122) [0, 1, 2, 3, 4, 5, 6, 7] rfl (sX11_wrong_122 hK42 (fun _ _ _ _ _ _ _ _ w r hh => ih _ _ _ _ _ _ _ _ w r hh) _ _ _ _ _ _ _ _ _ _ h p e s m args below meth c r0 A X)
      · rw [if_neg hc] at h
        refine ev_aload_n (pc := 79) X 0 dX11_wrong_79 rfl rfl ?_
        refine ev_iload_n (pc := 80) X 1 dX11_wrong_80 rfl rfl ?_
        refine ev_iload (pc := 81) X 6 dX11_wrong_81 rfl ?_
        refine ev_iload (pc := 83) X 7 dX11_wrong_83 rfl ?_
        refine ev_aload_n (pc := 85) X 0 dX11_wrong_85 rfl rfl ?_
        obtain ⟨v4, hv4, h⟩ := eBi h
        refine ev_getR (pc := 86) X hcX11 (k := 13) (by decide) kfX11_22 dX11_wrong_86 hv4 ?_
        refine ev_iload_n (pc := 89) X 1 dX11_wrong_89 rfl rfl ?_
        obtain ⟨v6, w5, hc, h⟩ := eB2 h
        refine ev_callS_i (pc := 90) (As := [.ref v4, .int x1]) (S := [.int x7, .int x6, .int x1, .ref x0]) X hwX11_cardsOf klX11_137 htX11_cardsOf ⟨Nat.le_of_ble_eq_true rfl, Nat.le_of_ble_eq_true rfl⟩ ⟨Nat.le_refl _, Nat.le_refl _⟩ rfl (Nat.le_of_ble_eq_true rfl) dX11_wrong_90 rfl (mX11_cardsOf hc) ?_
        obtain ⟨v8, w7, hc, h⟩ := eB2 h
        refine ev_callV_i (pc := 93) (As := [.int x1, .int x6, .int x7, .int v6]) (S := []) X hwX11_otherwise klX11_210 hiX11_otherwise hsX11_otherwise (ci := 11) ⟨rfl, rfl⟩ ⟨Nat.le_of_ble_eq_true rfl, Nat.le_of_ble_eq_true rfl⟩ ⟨Nat.le_refl _, Nat.le_refl _⟩ rfl (Nat.le_of_ble_eq_true rfl) dX11_wrong_93 rfl (mX11_otherwise (l := l) (D := D) (cI := cI) (cZ := cZ) hc).1 (mX11_otherwise hc).2 ?_
        refine ev_iload_n (pc := 96) X 2 dX11_wrong_96 rfl rfl ?_
        refine ev_icmp_ne (pc := 97) X 122 dX11_wrong_97 rfl (fun hc => ?_) (fun hc => ?_)
        · rw [if_neg hc] at h
          exact ev_weak (pc := 122) [0, 1, 2, 3, 4, 5, 6, 7] rfl (sX11_wrong_122 hK42 (fun _ _ _ _ _ _ _ _ w r hh => ih _ _ _ _ _ _ _ _ w r hh) _ _ _ _ _ _ _ _ _ _ h p e s m args below meth c r0 A X)
        · rw [if_pos hc] at h
          refine ev_iload (pc := 100) X 4 dX11_wrong_100 rfl ?_
          refine ev_if_ne (pc := 102) X 115 dX11_wrong_102 rfl (fun hc => ?_) (fun hc => ?_)
          · rw [if_neg hc] at h
            refine ev_iload (pc := 115) X 5 dX11_wrong_115 rfl ?_
            exact ev_weak (pc := 117) [0, 1, 2, 3, 4, 6, 7] rfl (sX11_wrong_117 hK42 (fun _ _ _ _ _ _ _ _ w r hh => ih _ _ _ _ _ _ _ _ w r hh) _ _ _ _ _ _ _ _ _ _ h p e s m args below meth c r0 A X)
          · rw [if_pos hc] at h
            refine ev_iconst (pc := 105) (v := (4 : Int32)) X dX11_wrong_105 rfl ?_
            refine ev_iload (pc := 106) X 6 dX11_wrong_106 rfl ?_
            refine ev_imul (pc := 108) X dX11_wrong_108 ?_
            refine ev_iload (pc := 109) X 7 dX11_wrong_109 rfl ?_
            refine ev_iadd (pc := 111) X dX11_wrong_111 ?_
            refine ev_goto (pc := 112) X 117 dX11_wrong_112 rfl ?_
            exact ev_weak (pc := 117) [0, 1, 2, 3, 4, 6, 7] rfl (sX11_wrong_117 hK42 (fun _ _ _ _ _ _ _ _ w r hh => ih _ _ _ _ _ _ _ _ w r hh) _ _ _ _ _ _ _ _ _ _ h p e s m args below meth c r0 A X)
def fX11_wrong_42 : Nat → Nat → Int32 → Int32 → Int32 → Int32 → Int32 → Int32 → eW → Option (Int32 × eW)
  | 0, _, _, _, _, _, _, _, _ => none
  | n + 1, x0, x1, x2, x3, x4, x5, x6, w => (eGR w x0 11 13).bind fun v1 => eBind2 (fX11_cardsOf v1 x1 w) fun v3 w2 => if v3 ≤ x6 then (if x3 = 0 then (some (x4, w2)) else (some (x5, w2))) else (fX11_wrong_58 (fX11_wrong_42 n) eN x0 x1 x2 x3 x4 x5 x6 (0 : Int32) w2)
set_option maxRecDepth 20000 in
theorem sX11_wrong_42  : ∀ (n : Nat) (x0 : Nat) (x1 : Int32) (x2 : Int32) (x3 : Int32) (x4 : Int32) (x5 : Int32) (x6 : Int32) (w : eW) (r : Int32 × eW), fX11_wrong_42 n x0 x1 x2 x3 x4 x5 x6 w = some r → eBN l D cI cZ 4 yX11_wrong cX11_wrong 8 (some .int) 42 [(0, .ref x0), (1, .int x1), (2, .int x2), (3, .int x3), (4, .int x4), (5, .int x5), (6, .int x6)] [] w (some (.int r.1)) r.2 := by
  intro n
  induction n with
  | zero => intro x0 x1 x2 x3 x4 x5 x6 w r h; exact absurd (show (none : Option (Int32 × eW)) = some r from h) (by simp)
  | succ n ih =>
    intro x0 x1 x2 x3 x4 x5 x6 w r h
    rw [fX11_wrong_42] at h
    intro p e s m args below meth c r0 A X
    refine ev_iload (pc := 42) X 6 dX11_wrong_42 rfl ?_
    refine ev_aload_n (pc := 44) X 0 dX11_wrong_44 rfl rfl ?_
    obtain ⟨v1, hv1, h⟩ := eBi h
    refine ev_getR (pc := 45) X hcX11 (k := 13) (by decide) kfX11_22 dX11_wrong_45 hv1 ?_
    refine ev_iload_n (pc := 48) X 1 dX11_wrong_48 rfl rfl ?_
    obtain ⟨v3, w2, hc, h⟩ := eB2 h
    refine ev_callS_i (pc := 49) (As := [.ref v1, .int x1]) (S := [.int x6]) X hwX11_cardsOf klX11_137 htX11_cardsOf ⟨Nat.le_of_ble_eq_true rfl, Nat.le_of_ble_eq_true rfl⟩ ⟨Nat.le_refl _, Nat.le_refl _⟩ rfl (Nat.le_of_ble_eq_true rfl) dX11_wrong_49 rfl (mX11_cardsOf hc) ?_
    refine ev_icmp_ge (pc := 52) X 134 dX11_wrong_52 rfl (fun hc => ?_) (fun hc => ?_)
    · rw [if_pos hc] at h
      refine ev_iload_n (pc := 134) X 3 dX11_wrong_134 rfl rfl ?_
      refine ev_if_ne (pc := 135) X 143 dX11_wrong_135 rfl (fun hc => ?_) (fun hc => ?_)
      · rw [if_neg hc] at h
        refine ev_iload (pc := 143) X 5 dX11_wrong_143 rfl ?_
        obtain rfl := Option.some.inj h
        exact ev_iret (pc := 145) X dX11_wrong_145
      · rw [if_pos hc] at h
        refine ev_iload (pc := 138) X 4 dX11_wrong_138 rfl ?_
        refine ev_goto (pc := 140) X 145 dX11_wrong_140 rfl ?_
        obtain rfl := Option.some.inj h
        exact ev_iret (pc := 145) X dX11_wrong_145
    · rw [if_neg hc] at h
      refine ev_iconst (pc := 55) (v := (0 : Int32)) X dX11_wrong_55 rfl ?_
      refine ev_istore (pc := 56) (L' := [(7, .int (0 : Int32)), (0, .ref x0), (1, .int x1), (2, .int x2), (3, .int x3), (4, .int x4), (5, .int x5), (6, .int x6)]) X dX11_wrong_56 (by decide) rfl ?_
      exact ev_weak (pc := 58) [1, 2, 3, 4, 5, 6, 7, 0] rfl (sX11_wrong_58 (fun _ _ _ _ _ _ _ w r hh => ih _ _ _ _ _ _ _ w r hh) eN _ _ _ _ _ _ _ _ _ _ h p e s m args below meth c r0 A X)
def fX11_wrong_0 (x0 : Nat) (x1 : Int32) (x2 : Int32) (x3 : Int32) (w : eW) : Option (Int32 × eW) := (eP w x0 11 0 (.int (0 : Int32))).bind fun w1 => eBind2 (fX11_isBolt x0 x1 w1) fun v3 w2 => if v3 = 0 then (some ((-1 : Int32), w2)) else (eBind2 (fX11_isCell x0 x2 w2) fun v5 w4 => if v5 = 0 then (some ((-1 : Int32), w4)) else (eBind2 (fX11_in x3 (0 : Int32) (1 : Int32) w4) fun v7 w6 => if v7 = 0 then (some ((-1 : Int32), w6)) else (fX11_wrong_42 eN x0 x1 x2 x3 (0 : Int32) (-9 : Int32) (0 : Int32) w6)))
set_option maxRecDepth 20000 in
theorem sX11_wrong_0  (x0 : Nat) (x1 : Int32) (x2 : Int32) (x3 : Int32) (w : eW) (r : Int32 × eW) (h : fX11_wrong_0 x0 x1 x2 x3 w = some r) : eBN l D cI cZ 4 yX11_wrong cX11_wrong 8 (some .int) 0 [(0, .ref x0), (1, .int x1), (2, .int x2), (3, .int x3)] [] w (some (.int r.1)) r.2 := by
  rw [fX11_wrong_0] at h
  intro p e s m args below meth c r0 A X
  refine ev_aload_n (pc := 0) X 0 dX11_wrong_0 rfl rfl ?_
  refine ev_iconst (pc := 1) (v := (0 : Int32)) X dX11_wrong_1 rfl ?_
  obtain ⟨w1, hw1, h⟩ := eBi h
  refine ev_putI (pc := 2) X hcX11 (k := 0) (by decide) kfX11_50 rfl rfl dX11_wrong_2 hw1 ?_
  refine ev_aload_n (pc := 5) X 0 dX11_wrong_5 rfl rfl ?_
  refine ev_iload_n (pc := 6) X 1 dX11_wrong_6 rfl rfl ?_
  obtain ⟨v3, w2, hc, h⟩ := eB2 h
  refine ev_callV_i (pc := 7) (As := [.int x1]) (S := []) X hwX11_isBolt klX11_143 hiX11_isBolt hsX11_isBolt (ci := 11) ⟨rfl, rfl⟩ ⟨Nat.le_of_ble_eq_true rfl, Nat.le_of_ble_eq_true rfl⟩ ⟨Nat.le_refl _, Nat.le_refl _⟩ rfl (Nat.le_of_ble_eq_true rfl) dX11_wrong_7 rfl (mX11_isBolt (l := l) (D := D) (cI := cI) (cZ := cZ) hc).1 (mX11_isBolt hc).2 ?_
  refine ev_if_eq (pc := 10) X 30 dX11_wrong_10 rfl (fun hc => ?_) (fun hc => ?_)
  · rw [if_pos hc] at h
    refine ev_iconst (pc := 30) (v := (-1 : Int32)) X dX11_wrong_30 rfl ?_
    obtain rfl := Option.some.inj h
    exact ev_iret (pc := 31) X dX11_wrong_31
  · rw [if_neg hc] at h
    refine ev_aload_n (pc := 13) X 0 dX11_wrong_13 rfl rfl ?_
    refine ev_iload_n (pc := 14) X 2 dX11_wrong_14 rfl rfl ?_
    obtain ⟨v5, w4, hc, h⟩ := eB2 h
    refine ev_callV_i (pc := 15) (As := [.int x2]) (S := []) X hwX11_isCell klX11_120 hiX11_isCell hsX11_isCell (ci := 11) ⟨rfl, rfl⟩ ⟨Nat.le_of_ble_eq_true rfl, Nat.le_of_ble_eq_true rfl⟩ ⟨Nat.le_refl _, Nat.le_refl _⟩ rfl (Nat.le_of_ble_eq_true rfl) dX11_wrong_15 rfl (mX11_isCell (l := l) (D := D) (cI := cI) (cZ := cZ) hc).1 (mX11_isCell hc).2 ?_
    refine ev_if_eq (pc := 18) X 30 dX11_wrong_18 rfl (fun hc => ?_) (fun hc => ?_)
    · rw [if_pos hc] at h
      refine ev_iconst (pc := 30) (v := (-1 : Int32)) X dX11_wrong_30 rfl ?_
      obtain rfl := Option.some.inj h
      exact ev_iret (pc := 31) X dX11_wrong_31
    · rw [if_neg hc] at h
      refine ev_iload_n (pc := 21) X 3 dX11_wrong_21 rfl rfl ?_
      refine ev_iconst (pc := 22) (v := (0 : Int32)) X dX11_wrong_22 rfl ?_
      refine ev_iconst (pc := 23) (v := (1 : Int32)) X dX11_wrong_23 rfl ?_
      obtain ⟨v7, w6, hc, h⟩ := eB2 h
      refine ev_callS_i (pc := 24) (As := [.int x3, .int (0 : Int32), .int (1 : Int32)]) (S := []) X hwX11_in klX11_54 htX11_in ⟨Nat.le_of_ble_eq_true rfl, Nat.le_of_ble_eq_true rfl⟩ ⟨Nat.le_refl _, Nat.le_refl _⟩ rfl (Nat.le_of_ble_eq_true rfl) dX11_wrong_24 rfl (mX11_in hc) ?_
      refine ev_if_ne (pc := 27) X 32 dX11_wrong_27 rfl (fun hc => ?_) (fun hc => ?_)
      · rw [if_neg hc] at h
        refine ev_iconst (pc := 32) (v := (0 : Int32)) X dX11_wrong_32 rfl ?_
        refine ev_istore (pc := 33) (L' := [(4, .int (0 : Int32)), (0, .ref x0), (1, .int x1), (2, .int x2), (3, .int x3)]) X dX11_wrong_33 (by decide) rfl ?_
        refine ev_bipush (pc := 35) (v := (-9 : Int32)) X dX11_wrong_35 rfl ?_
        refine ev_istore (pc := 37) (L' := [(5, .int (-9 : Int32)), (4, .int (0 : Int32)), (0, .ref x0), (1, .int x1), (2, .int x2), (3, .int x3)]) X dX11_wrong_37 (by decide) rfl ?_
        refine ev_iconst (pc := 39) (v := (0 : Int32)) X dX11_wrong_39 rfl ?_
        refine ev_istore (pc := 40) (L' := [(6, .int (0 : Int32)), (5, .int (-9 : Int32)), (4, .int (0 : Int32)), (0, .ref x0), (1, .int x1), (2, .int x2), (3, .int x3)]) X dX11_wrong_40 (by decide) rfl ?_
        exact ev_weak (pc := 42) [3, 4, 5, 6, 2, 1, 0] rfl (sX11_wrong_42 eN _ _ _ _ _ _ _ _ _ h p e s m args below meth c r0 A X)
      · rw [if_pos hc] at h
        refine ev_iconst (pc := 30) (v := (-1 : Int32)) X dX11_wrong_30 rfl ?_
        obtain rfl := Option.some.inj h
        exact ev_iret (pc := 31) X dX11_wrong_31
def fX11_wrong (a0 : Nat) (a1 : Int32) (a2 : Int32) (a3 : Int32) (w : eW) : Option (Int32 × eW) := bif eO w a0 11 then fX11_wrong_0 a0 a1 a2 a3 w else none
theorem mX11_wrong {a0 : Nat} {a1 : Int32} {a2 : Int32} {a3 : Int32} {w : eW} {v : Int32} {w' : eW} (h : fX11_wrong a0 a1 a2 a3 w = some (v, w')) : eO w a0 11 = true ∧ eMN l D cI cZ 4 yX11_wrong cX11_wrong 8 (some .int) [.ref a0, .int a1, .int a2, .int a3] w (some (.int v)) w' := by
  obtain ⟨h0, h⟩ := eBif h
  exact ⟨h0, eMN_of [(0, .ref a0), (1, .int a1), (2, .int a2), (3, .int a3)] (plainFor_of_name (by decide)) (fun _ => rfl) (fun _ => Nat.le_of_ble_eq_true rfl) (fun p e s m args below meth c r0 A X => ev_weak (pc := 0) [0, 1, 2, 3] rfl (sX11_wrong_0 _ _ _ _ _ _ h p e s m args below meth c r0 A X))⟩
theorem dX11_look_0 : decode cX11_look 0 = .ok (.aload_n 0, 1) := by decide +kernel
theorem dX11_look_1 : decode cX11_look 1 = .ok (.iconst 0, 1) := by decide +kernel
theorem dX11_look_2 : decode cX11_look 2 = .ok (.putfield 50, 3) := by decide +kernel
theorem dX11_look_5 : decode cX11_look 5 = .ok (.aload_n 0, 1) := by decide +kernel
theorem dX11_look_6 : decode cX11_look 6 = .ok (.iload_n 1, 1) := by decide +kernel
theorem dX11_look_7 : decode cX11_look 7 = .ok (.invokevirtual 143, 3) := by decide +kernel
theorem dX11_look_10 : decode cX11_look 10 = .ok (.ifCond .eq 19, 3) := by decide +kernel
theorem dX11_look_13 : decode cX11_look 13 = .ok (.iload_n 2, 1) := by decide +kernel
theorem dX11_look_14 : decode cX11_look 14 = .ok (.iconst 1, 1) := by decide +kernel
theorem dX11_look_15 : decode cX11_look 15 = .ok (.aload_n 0, 1) := by decide +kernel
theorem dX11_look_16 : decode cX11_look 16 = .ok (.getfield 22, 3) := by decide +kernel
theorem dX11_look_19 : decode cX11_look 19 = .ok (.iload_n 1, 1) := by decide +kernel
theorem dX11_look_20 : decode cX11_look 20 = .ok (.invokestatic 137, 3) := by decide +kernel
theorem dX11_look_23 : decode cX11_look 23 = .ok (.invokestatic 54, 3) := by decide +kernel
theorem dX11_look_26 : decode cX11_look 26 = .ok (.ifCond .ne 5, 3) := by decide +kernel
theorem dX11_look_29 : decode cX11_look 29 = .ok (.iconst (-1), 1) := by decide +kernel
theorem dX11_look_30 : decode cX11_look 30 = .ok (.ireturn, 1) := by decide +kernel
theorem dX11_look_31 : decode cX11_look 31 = .ok (.iconst 0, 1) := by decide +kernel
theorem dX11_look_32 : decode cX11_look 32 = .ok (.istore_n 3, 1) := by decide +kernel
theorem dX11_look_33 : decode cX11_look 33 = .ok (.iconst 0, 1) := by decide +kernel
theorem dX11_look_34 : decode cX11_look 34 = .ok (.istore 4, 2) := by decide +kernel
theorem dX11_look_36 : decode cX11_look 36 = .ok (.iload 4, 2) := by decide +kernel
theorem dX11_look_38 : decode cX11_look 38 = .ok (.aload_n 0, 1) := by decide +kernel
theorem dX11_look_39 : decode cX11_look 39 = .ok (.getfield 22, 3) := by decide +kernel
theorem dX11_look_42 : decode cX11_look 42 = .ok (.iload_n 1, 1) := by decide +kernel
theorem dX11_look_43 : decode cX11_look 43 = .ok (.invokestatic 137, 3) := by decide +kernel
theorem dX11_look_46 : decode cX11_look 46 = .ok (.if_icmp .ge 92, 3) := by decide +kernel
theorem dX11_look_49 : decode cX11_look 49 = .ok (.iconst 0, 1) := by decide +kernel
theorem dX11_look_50 : decode cX11_look 50 = .ok (.istore 5, 2) := by decide +kernel
theorem dX11_look_52 : decode cX11_look 52 = .ok (.iload 5, 2) := by decide +kernel
theorem dX11_look_54 : decode cX11_look 54 = .ok (.iconst 4, 1) := by decide +kernel
theorem dX11_look_55 : decode cX11_look 55 = .ok (.if_icmp .ge 77, 3) := by decide +kernel
theorem dX11_look_58 : decode cX11_look 58 = .ok (.iload 5, 2) := by decide +kernel
theorem dX11_look_60 : decode cX11_look 60 = .ok (.aload_n 0, 1) := by decide +kernel
theorem dX11_look_61 : decode cX11_look 61 = .ok (.getfield 22, 3) := by decide +kernel
theorem dX11_look_64 : decode cX11_look 64 = .ok (.iload_n 1, 1) := by decide +kernel
theorem dX11_look_65 : decode cX11_look 65 = .ok (.iload 4, 2) := by decide +kernel
theorem dX11_look_67 : decode cX11_look 67 = .ok (.invokestatic 133, 3) := by decide +kernel
theorem dX11_look_70 : decode cX11_look 70 = .ok (.if_icmp .eq 29, 3) := by decide +kernel
theorem dX11_look_73 : decode cX11_look 73 = .ok (.aload_n 0, 1) := by decide +kernel
theorem dX11_look_74 : decode cX11_look 74 = .ok (.iload_n 1, 1) := by decide +kernel
theorem dX11_look_75 : decode cX11_look 75 = .ok (.iload 4, 2) := by decide +kernel
theorem dX11_look_77 : decode cX11_look 77 = .ok (.iload 5, 2) := by decide +kernel
theorem dX11_look_79 : decode cX11_look 79 = .ok (.aload_n 0, 1) := by decide +kernel
theorem dX11_look_80 : decode cX11_look 80 = .ok (.getfield 22, 3) := by decide +kernel
theorem dX11_look_83 : decode cX11_look 83 = .ok (.iload_n 1, 1) := by decide +kernel
theorem dX11_look_84 : decode cX11_look 84 = .ok (.invokestatic 137, 3) := by decide +kernel
theorem dX11_look_87 : decode cX11_look 87 = .ok (.invokevirtual 210, 3) := by decide +kernel
theorem dX11_look_90 : decode cX11_look 90 = .ok (.bipush (-9), 2) := by decide +kernel
theorem dX11_look_92 : decode cX11_look 92 = .ok (.if_icmp .eq 7, 3) := by decide +kernel
theorem dX11_look_95 : decode cX11_look 95 = .ok (.iconst 1, 1) := by decide +kernel
theorem dX11_look_96 : decode cX11_look 96 = .ok (.goto 4, 3) := by decide +kernel
theorem dX11_look_99 : decode cX11_look 99 = .ok (.iconst 0, 1) := by decide +kernel
theorem dX11_look_100 : decode cX11_look 100 = .ok (.istore 6, 2) := by decide +kernel
theorem dX11_look_102 : decode cX11_look 102 = .ok (.iload_n 3, 1) := by decide +kernel
theorem dX11_look_103 : decode cX11_look 103 = .ok (.iload 6, 2) := by decide +kernel
theorem dX11_look_105 : decode cX11_look 105 = .ok (.ifCond .eq 18, 3) := by decide +kernel
theorem dX11_look_108 : decode cX11_look 108 = .ok (.iconst 1, 1) := by decide +kernel
theorem dX11_look_109 : decode cX11_look 109 = .ok (.aload_n 0, 1) := by decide +kernel
theorem dX11_look_110 : decode cX11_look 110 = .ok (.iload_n 1, 1) := by decide +kernel
theorem dX11_look_111 : decode cX11_look 111 = .ok (.iload 4, 2) := by decide +kernel
theorem dX11_look_113 : decode cX11_look 113 = .ok (.iload 5, 2) := by decide +kernel
theorem dX11_look_115 : decode cX11_look 115 = .ok (.iload_n 2, 1) := by decide +kernel
theorem dX11_look_116 : decode cX11_look 116 = .ok (.invokevirtual 210, 3) := by decide +kernel
theorem dX11_look_119 : decode cX11_look 119 = .ok (.ishl, 1) := by decide +kernel
theorem dX11_look_120 : decode cX11_look 120 = .ok (.goto 4, 3) := by decide +kernel
theorem dX11_look_123 : decode cX11_look 123 = .ok (.iconst 0, 1) := by decide +kernel
theorem dX11_look_124 : decode cX11_look 124 = .ok (.ior, 1) := by decide +kernel
theorem dX11_look_125 : decode cX11_look 125 = .ok (.istore_n 3, 1) := by decide +kernel
theorem dX11_look_126 : decode cX11_look 126 = .ok (.iinc 5 1, 3) := by decide +kernel
theorem dX11_look_129 : decode cX11_look 129 = .ok (.goto (-77), 3) := by decide +kernel
theorem dX11_look_132 : decode cX11_look 132 = .ok (.iinc 4 1, 3) := by decide +kernel
theorem dX11_look_135 : decode cX11_look 135 = .ok (.goto (-99), 3) := by decide +kernel
theorem dX11_look_138 : decode cX11_look 138 = .ok (.iload_n 3, 1) := by decide +kernel
theorem dX11_look_139 : decode cX11_look 139 = .ok (.iconst 1, 1) := by decide +kernel
theorem dX11_look_140 : decode cX11_look 140 = .ok (.aload_n 0, 1) := by decide +kernel
theorem dX11_look_141 : decode cX11_look 141 = .ok (.aload_n 0, 1) := by decide +kernel
theorem dX11_look_142 : decode cX11_look 142 = .ok (.getfield 22, 3) := by decide +kernel
theorem dX11_look_145 : decode cX11_look 145 = .ok (.iload_n 1, 1) := by decide +kernel
theorem dX11_look_146 : decode cX11_look 146 = .ok (.iload_n 2, 1) := by decide +kernel
theorem dX11_look_147 : decode cX11_look 147 = .ok (.invokevirtual 140, 3) := by decide +kernel
theorem dX11_look_150 : decode cX11_look 150 = .ok (.ishl, 1) := by decide +kernel
theorem dX11_look_151 : decode cX11_look 151 = .ok (.iconst (-1), 1) := by decide +kernel
theorem dX11_look_152 : decode cX11_look 152 = .ok (.ixor, 1) := by decide +kernel
theorem dX11_look_153 : decode cX11_look 153 = .ok (.iand, 1) := by decide +kernel
theorem dX11_look_154 : decode cX11_look 154 = .ok (.istore_n 3, 1) := by decide +kernel
theorem dX11_look_155 : decode cX11_look 155 = .ok (.iconst 0, 1) := by decide +kernel
theorem dX11_look_156 : decode cX11_look 156 = .ok (.istore 4, 2) := by decide +kernel
theorem dX11_look_158 : decode cX11_look 158 = .ok (.iconst 0, 1) := by decide +kernel
theorem dX11_look_159 : decode cX11_look 159 = .ok (.istore 5, 2) := by decide +kernel
theorem dX11_look_161 : decode cX11_look 161 = .ok (.iload 5, 2) := by decide +kernel
theorem dX11_look_163 : decode cX11_look 163 = .ok (.bipush 20, 2) := by decide +kernel
theorem dX11_look_165 : decode cX11_look 165 = .ok (.if_icmp .ge 20, 3) := by decide +kernel
theorem dX11_look_168 : decode cX11_look 168 = .ok (.iload 4, 2) := by decide +kernel
theorem dX11_look_170 : decode cX11_look 170 = .ok (.iload_n 3, 1) := by decide +kernel
theorem dX11_look_171 : decode cX11_look 171 = .ok (.iload 5, 2) := by decide +kernel
theorem dX11_look_173 : decode cX11_look 173 = .ok (.ishr, 1) := by decide +kernel
theorem dX11_look_174 : decode cX11_look 174 = .ok (.iconst 1, 1) := by decide +kernel
theorem dX11_look_175 : decode cX11_look 175 = .ok (.iand, 1) := by decide +kernel
theorem dX11_look_176 : decode cX11_look 176 = .ok (.iadd, 1) := by decide +kernel
theorem dX11_look_177 : decode cX11_look 177 = .ok (.istore 4, 2) := by decide +kernel
theorem dX11_look_179 : decode cX11_look 179 = .ok (.iinc 5 1, 3) := by decide +kernel
theorem dX11_look_182 : decode cX11_look 182 = .ok (.goto (-21), 3) := by decide +kernel
theorem dX11_look_185 : decode cX11_look 185 = .ok (.iload 4, 2) := by decide +kernel
theorem dX11_look_187 : decode cX11_look 187 = .ok (.ireturn, 1) := by decide +kernel
def fX11_look_124 (K36 : Nat → Int32 → Int32 → Int32 → Int32 → eW → Option (Int32 × eW)) (K52 : Nat → Int32 → Int32 → Int32 → Int32 → Int32 → eW → Option (Int32 × eW)) (x0 : Nat) (x1 : Int32) (x2 : Int32) (x4 : Int32) (x5 : Int32) (t0 : Int32) (t1 : Int32) (w : eW) : Option (Int32 × eW) := K52 x0 x1 x2 (t0 ||| t1) x4 (x5 + (1 : Int32)) w
set_option maxRecDepth 20000 in
theorem sX11_look_124 {K36 : Nat → Int32 → Int32 → Int32 → Int32 → eW → Option (Int32 × eW)} {K52 : Nat → Int32 → Int32 → Int32 → Int32 → Int32 → eW → Option (Int32 × eW)} (hK36 : ∀ (x0 : Nat) (x1 : Int32) (x2 : Int32) (x3 : Int32) (x4 : Int32) (w : eW) (r : Int32 × eW), K36 x0 x1 x2 x3 x4 w = some r → eBN l D cI cZ 4 yX11_look cX11_look 7 (some .int) 36 [(0, .ref x0), (1, .int x1), (2, .int x2), (3, .int x3), (4, .int x4)] [] w (some (.int r.1)) r.2) (hK52 : ∀ (x0 : Nat) (x1 : Int32) (x2 : Int32) (x3 : Int32) (x4 : Int32) (x5 : Int32) (w : eW) (r : Int32 × eW), K52 x0 x1 x2 x3 x4 x5 w = some r → eBN l D cI cZ 4 yX11_look cX11_look 7 (some .int) 52 [(0, .ref x0), (1, .int x1), (2, .int x2), (3, .int x3), (4, .int x4), (5, .int x5)] [] w (some (.int r.1)) r.2) (x0 : Nat) (x1 : Int32) (x2 : Int32) (x4 : Int32) (x5 : Int32) (t0 : Int32) (t1 : Int32) (w : eW) (r : Int32 × eW) (h : fX11_look_124 K36 K52 x0 x1 x2 x4 x5 t0 t1 w = some r) : eBN l D cI cZ 4 yX11_look cX11_look 7 (some .int) 124 [(0, .ref x0), (1, .int x1), (2, .int x2), (4, .int x4), (5, .int x5)] [.int t1, .int t0] w (some (.int r.1)) r.2 := by
  rw [fX11_look_124] at h
  intro p e s m args below meth c r0 A X
  refine ev_ior (pc := 124) X dX11_look_124 ?_
  refine ev_istore_n (pc := 125) (L' := [(3, .int (t0 ||| t1)), (0, .ref x0), (1, .int x1), (2, .int x2), (4, .int x4), (5, .int x5)]) X dX11_look_125 rfl (by decide) rfl ?_
  refine ev_iinc (pc := 126) (v := x5 + (1 : Int32)) (L' := [(5, .int (x5 + (1 : Int32))), (3, .int (t0 ||| t1)), (0, .ref x0), (1, .int x1), (2, .int x2), (4, .int x4)]) X 5 dX11_look_126 rfl rfl (by decide) rfl ?_
  refine ev_goto (pc := 129) X 52 dX11_look_129 rfl ?_
  exact ev_weak (pc := 52) [2, 3, 4, 1, 5, 0] rfl (hK52 _ _ _ _ _ _ _ _ h p e s m args below meth c r0 A X)
def fX11_look_100 (K36 : Nat → Int32 → Int32 → Int32 → Int32 → eW → Option (Int32 × eW)) (K52 : Nat → Int32 → Int32 → Int32 → Int32 → Int32 → eW → Option (Int32 × eW)) (x0 : Nat) (x1 : Int32) (x2 : Int32) (x3 : Int32) (x4 : Int32) (x5 : Int32) (t0 : Int32) (w : eW) : Option (Int32 × eW) := if t0 = 0 then (fX11_look_124 K36 K52 x0 x1 x2 x4 x5 x3 (0 : Int32) w) else (eBind2 (fX11_otherwise x0 x1 x4 x5 x2 w) fun v2 w1 => fX11_look_124 K36 K52 x0 x1 x2 x4 x5 x3 ((1 : Int32) <<< (v2 &&& 31)) w1)
set_option maxRecDepth 20000 in
theorem sX11_look_100 {K36 : Nat → Int32 → Int32 → Int32 → Int32 → eW → Option (Int32 × eW)} {K52 : Nat → Int32 → Int32 → Int32 → Int32 → Int32 → eW → Option (Int32 × eW)} (hK36 : ∀ (x0 : Nat) (x1 : Int32) (x2 : Int32) (x3 : Int32) (x4 : Int32) (w : eW) (r : Int32 × eW), K36 x0 x1 x2 x3 x4 w = some r → eBN l D cI cZ 4 yX11_look cX11_look 7 (some .int) 36 [(0, .ref x0), (1, .int x1), (2, .int x2), (3, .int x3), (4, .int x4)] [] w (some (.int r.1)) r.2) (hK52 : ∀ (x0 : Nat) (x1 : Int32) (x2 : Int32) (x3 : Int32) (x4 : Int32) (x5 : Int32) (w : eW) (r : Int32 × eW), K52 x0 x1 x2 x3 x4 x5 w = some r → eBN l D cI cZ 4 yX11_look cX11_look 7 (some .int) 52 [(0, .ref x0), (1, .int x1), (2, .int x2), (3, .int x3), (4, .int x4), (5, .int x5)] [] w (some (.int r.1)) r.2) (x0 : Nat) (x1 : Int32) (x2 : Int32) (x3 : Int32) (x4 : Int32) (x5 : Int32) (t0 : Int32) (w : eW) (r : Int32 × eW) (h : fX11_look_100 K36 K52 x0 x1 x2 x3 x4 x5 t0 w = some r) : eBN l D cI cZ 4 yX11_look cX11_look 7 (some .int) 100 [(0, .ref x0), (1, .int x1), (2, .int x2), (3, .int x3), (4, .int x4), (5, .int x5)] [.int t0] w (some (.int r.1)) r.2 := by
  rw [fX11_look_100] at h
  intro p e s m args below meth c r0 A X
  refine ev_istore (pc := 100) (L' := [(6, .int t0), (0, .ref x0), (1, .int x1), (2, .int x2), (3, .int x3), (4, .int x4), (5, .int x5)]) X dX11_look_100 (by decide) rfl ?_
  refine ev_iload_n (pc := 102) X 4 dX11_look_102 rfl rfl ?_
  refine ev_iload (pc := 103) X 0 dX11_look_103 rfl ?_
  refine ev_if_eq (pc := 105) X 123 dX11_look_105 rfl (fun hc => ?_) (fun hc => ?_)
  · rw [if_pos hc] at h
    refine ev_iconst (pc := 123) (v := (0 : Int32)) X dX11_look_123 rfl ?_
    exact ev_weak (pc := 124) [1, 2, 3, 5, 6] rfl (sX11_look_124 hK36 hK52 _ _ _ _ _ _ _ _ _ h p e s m args below meth c r0 A X)
  · rw [if_neg hc] at h
    refine ev_iconst (pc := 108) (v := (1 : Int32)) X dX11_look_108 rfl ?_
    refine ev_aload_n (pc := 109) X 1 dX11_look_109 rfl rfl ?_
    refine ev_iload_n (pc := 110) X 2 dX11_look_110 rfl rfl ?_
    refine ev_iload (pc := 111) X 5 dX11_look_111 rfl ?_
    refine ev_iload (pc := 113) X 6 dX11_look_113 rfl ?_
    refine ev_iload_n (pc := 115) X 3 dX11_look_115 rfl rfl ?_
    obtain ⟨v2, w1, hc, h⟩ := eB2 h
    refine ev_callV_i (pc := 116) (As := [.int x1, .int x4, .int x5, .int x2]) (S := [.int (1 : Int32), .int x3]) X hwX11_otherwise klX11_210 hiX11_otherwise hsX11_otherwise (ci := 11) ⟨rfl, rfl⟩ ⟨Nat.le_of_ble_eq_true rfl, Nat.le_of_ble_eq_true rfl⟩ ⟨Nat.le_refl _, Nat.le_refl _⟩ rfl (Nat.le_of_ble_eq_true rfl) dX11_look_116 rfl (mX11_otherwise (l := l) (D := D) (cI := cI) (cZ := cZ) hc).1 (mX11_otherwise hc).2 ?_
    refine ev_ishl (pc := 119) X dX11_look_119 ?_
    refine ev_goto (pc := 120) X 124 dX11_look_120 rfl ?_
    exact ev_weak (pc := 124) [1, 2, 3, 5, 6] rfl (sX11_look_124 hK36 hK52 _ _ _ _ _ _ _ _ _ h p e s m args below meth c r0 A X)
def fX11_look_99 (K36 : Nat → Int32 → Int32 → Int32 → Int32 → eW → Option (Int32 × eW)) (K52 : Nat → Int32 → Int32 → Int32 → Int32 → Int32 → eW → Option (Int32 × eW)) (x0 : Nat) (x1 : Int32) (x2 : Int32) (x3 : Int32) (x4 : Int32) (x5 : Int32) (w : eW) : Option (Int32 × eW) := fX11_look_100 K36 K52 x0 x1 x2 x3 x4 x5 (0 : Int32) w
set_option maxRecDepth 20000 in
theorem sX11_look_99 {K36 : Nat → Int32 → Int32 → Int32 → Int32 → eW → Option (Int32 × eW)} {K52 : Nat → Int32 → Int32 → Int32 → Int32 → Int32 → eW → Option (Int32 × eW)} (hK36 : ∀ (x0 : Nat) (x1 : Int32) (x2 : Int32) (x3 : Int32) (x4 : Int32) (w : eW) (r : Int32 × eW), K36 x0 x1 x2 x3 x4 w = some r → eBN l D cI cZ 4 yX11_look cX11_look 7 (some .int) 36 [(0, .ref x0), (1, .int x1), (2, .int x2), (3, .int x3), (4, .int x4)] [] w (some (.int r.1)) r.2) (hK52 : ∀ (x0 : Nat) (x1 : Int32) (x2 : Int32) (x3 : Int32) (x4 : Int32) (x5 : Int32) (w : eW) (r : Int32 × eW), K52 x0 x1 x2 x3 x4 x5 w = some r → eBN l D cI cZ 4 yX11_look cX11_look 7 (some .int) 52 [(0, .ref x0), (1, .int x1), (2, .int x2), (3, .int x3), (4, .int x4), (5, .int x5)] [] w (some (.int r.1)) r.2) (x0 : Nat) (x1 : Int32) (x2 : Int32) (x3 : Int32) (x4 : Int32) (x5 : Int32) (w : eW) (r : Int32 × eW) (h : fX11_look_99 K36 K52 x0 x1 x2 x3 x4 x5 w = some r) : eBN l D cI cZ 4 yX11_look cX11_look 7 (some .int) 99 [(0, .ref x0), (1, .int x1), (2, .int x2), (3, .int x3), (4, .int x4), (5, .int x5)] [] w (some (.int r.1)) r.2 := by
  rw [fX11_look_99] at h
  intro p e s m args below meth c r0 A X
  refine ev_iconst (pc := 99) (v := (0 : Int32)) X dX11_look_99 rfl ?_
  exact ev_weak (pc := 100) [0, 1, 2, 3, 4, 5] rfl (sX11_look_100 hK36 hK52 _ _ _ _ _ _ _ _ _ h p e s m args below meth c r0 A X)
def fX11_look_52 (K36 : Nat → Int32 → Int32 → Int32 → Int32 → eW → Option (Int32 × eW)) : Nat → Nat → Int32 → Int32 → Int32 → Int32 → Int32 → eW → Option (Int32 × eW)
  | 0, _, _, _, _, _, _, _ => none
  | n + 1, x0, x1, x2, x3, x4, x5, w => if (4 : Int32) ≤ x5 then (K36 x0 x1 x2 x3 (x4 + (1 : Int32)) w) else ((eGR w x0 11 13).bind fun v1 => eBind2 (fX11_cardAt v1 x1 x4 w) fun v3 w2 => if x5 = v3 then (fX11_look_99 K36 (fX11_look_52 K36 n) x0 x1 x2 x3 x4 x5 w2) else ((eGR w2 x0 11 13).bind fun v4 => eBind2 (fX11_cardsOf v4 x1 w2) fun v6 w5 => eBind2 (fX11_otherwise x0 x1 x4 x5 v6 w5) fun v8 w7 => if v8 = (-9 : Int32) then (fX11_look_99 K36 (fX11_look_52 K36 n) x0 x1 x2 x3 x4 x5 w7) else (fX11_look_100 K36 (fX11_look_52 K36 n) x0 x1 x2 x3 x4 x5 (1 : Int32) w7)))
set_option maxRecDepth 20000 in
theorem sX11_look_52 {K36 : Nat → Int32 → Int32 → Int32 → Int32 → eW → Option (Int32 × eW)} (hK36 : ∀ (x0 : Nat) (x1 : Int32) (x2 : Int32) (x3 : Int32) (x4 : Int32) (w : eW) (r : Int32 × eW), K36 x0 x1 x2 x3 x4 w = some r → eBN l D cI cZ 4 yX11_look cX11_look 7 (some .int) 36 [(0, .ref x0), (1, .int x1), (2, .int x2), (3, .int x3), (4, .int x4)] [] w (some (.int r.1)) r.2) : ∀ (n : Nat) (x0 : Nat) (x1 : Int32) (x2 : Int32) (x3 : Int32) (x4 : Int32) (x5 : Int32) (w : eW) (r : Int32 × eW), fX11_look_52 K36 n x0 x1 x2 x3 x4 x5 w = some r → eBN l D cI cZ 4 yX11_look cX11_look 7 (some .int) 52 [(0, .ref x0), (1, .int x1), (2, .int x2), (3, .int x3), (4, .int x4), (5, .int x5)] [] w (some (.int r.1)) r.2 := by
  intro n
  induction n with
  | zero => intro x0 x1 x2 x3 x4 x5 w r h; exact absurd (show (none : Option (Int32 × eW)) = some r from h) (by simp)
  | succ n ih =>
    intro x0 x1 x2 x3 x4 x5 w r h
    rw [fX11_look_52] at h
    intro p e s m args below meth c r0 A X
    refine ev_iload (pc := 52) X 5 dX11_look_52 rfl ?_
    refine ev_iconst (pc := 54) (v := (4 : Int32)) X dX11_look_54 rfl ?_
    refine ev_icmp_ge (pc := 55) X 132 dX11_look_55 rfl (fun hc => ?_) (fun hc => ?_)
    · rw [if_pos hc] at h
      refine ev_iinc (pc := 132) (v := x4 + (1 : Int32)) (L' := [(4, .int (x4 + (1 : Int32))), (0, .ref x0), (1, .int x1), (2, .int x2), (3, .int x3), (5, .int x5)]) X 4 dX11_look_132 rfl rfl (by decide) rfl ?_
      refine ev_goto (pc := 135) X 36 dX11_look_135 rfl ?_
      exact ev_weak (pc := 36) [1, 2, 3, 4, 0] rfl (hK36 _ _ _ _ _ _ _ h p e s m args below meth c r0 A X)
    · rw [if_neg hc] at h
      refine ev_iload (pc := 58) X 5 dX11_look_58 rfl ?_
      refine ev_aload_n (pc := 60) X 0 dX11_look_60 rfl rfl ?_
      obtain ⟨v1, hv1, h⟩ := eBi h
      refine ev_getR (pc := 61) X hcX11 (k := 13) (by decide) kfX11_22 dX11_look_61 hv1 ?_
      refine ev_iload_n (pc := 64) X 1 dX11_look_64 rfl rfl ?_
      refine ev_iload (pc := 65) X 4 dX11_look_65 rfl ?_
      obtain ⟨v3, w2, hc, h⟩ := eB2 h
      refine ev_callS_i (pc := 67) (As := [.ref v1, .int x1, .int x4]) (S := [.int x5]) X hwX11_cardAt klX11_133 htX11_cardAt ⟨Nat.le_of_ble_eq_true rfl, Nat.le_of_ble_eq_true rfl⟩ ⟨Nat.le_refl _, Nat.le_refl _⟩ rfl (Nat.le_of_ble_eq_true rfl) dX11_look_67 rfl (mX11_cardAt hc) ?_
      refine ev_icmp_eq (pc := 70) X 99 dX11_look_70 rfl (fun hc => ?_) (fun hc => ?_)
      · rw [if_pos hc] at h
        exact ev_weak (pc := 99) [0, 1, 2, 3, 4, 5] rfl (sX11_look_99 hK36 (fun _ _ _ _ _ _ w r hh => ih _ _ _ _ _ _ w r hh) _ _ _ _ _ _ _ _ h p e s m args below meth c r0 A X)
      · rw [if_neg hc] at h
        refine ev_aload_n (pc := 73) X 0 dX11_look_73 rfl rfl ?_
        refine ev_iload_n (pc := 74) X 1 dX11_look_74 rfl rfl ?_
        refine ev_iload (pc := 75) X 4 dX11_look_75 rfl ?_
        refine ev_iload (pc := 77) X 5 dX11_look_77 rfl ?_
        refine ev_aload_n (pc := 79) X 0 dX11_look_79 rfl rfl ?_
        obtain ⟨v4, hv4, h⟩ := eBi h
        refine ev_getR (pc := 80) X hcX11 (k := 13) (by decide) kfX11_22 dX11_look_80 hv4 ?_
        refine ev_iload_n (pc := 83) X 1 dX11_look_83 rfl rfl ?_
        obtain ⟨v6, w5, hc, h⟩ := eB2 h
        refine ev_callS_i (pc := 84) (As := [.ref v4, .int x1]) (S := [.int x5, .int x4, .int x1, .ref x0]) X hwX11_cardsOf klX11_137 htX11_cardsOf ⟨Nat.le_of_ble_eq_true rfl, Nat.le_of_ble_eq_true rfl⟩ ⟨Nat.le_refl _, Nat.le_refl _⟩ rfl (Nat.le_of_ble_eq_true rfl) dX11_look_84 rfl (mX11_cardsOf hc) ?_
        obtain ⟨v8, w7, hc, h⟩ := eB2 h
        refine ev_callV_i (pc := 87) (As := [.int x1, .int x4, .int x5, .int v6]) (S := []) X hwX11_otherwise klX11_210 hiX11_otherwise hsX11_otherwise (ci := 11) ⟨rfl, rfl⟩ ⟨Nat.le_of_ble_eq_true rfl, Nat.le_of_ble_eq_true rfl⟩ ⟨Nat.le_refl _, Nat.le_refl _⟩ rfl (Nat.le_of_ble_eq_true rfl) dX11_look_87 rfl (mX11_otherwise (l := l) (D := D) (cI := cI) (cZ := cZ) hc).1 (mX11_otherwise hc).2 ?_
        refine ev_bipush (pc := 90) (v := (-9 : Int32)) X dX11_look_90 rfl ?_
        refine ev_icmp_eq (pc := 92) X 99 dX11_look_92 rfl (fun hc => ?_) (fun hc => ?_)
        · rw [if_pos hc] at h
          exact ev_weak (pc := 99) [0, 1, 2, 3, 4, 5] rfl (sX11_look_99 hK36 (fun _ _ _ _ _ _ w r hh => ih _ _ _ _ _ _ w r hh) _ _ _ _ _ _ _ _ h p e s m args below meth c r0 A X)
        · rw [if_neg hc] at h
          refine ev_iconst (pc := 95) (v := (1 : Int32)) X dX11_look_95 rfl ?_
          refine ev_goto (pc := 96) X 100 dX11_look_96 rfl ?_
          exact ev_weak (pc := 100) [0, 1, 2, 3, 4, 5] rfl (sX11_look_100 hK36 (fun _ _ _ _ _ _ w r hh => ih _ _ _ _ _ _ w r hh) _ _ _ _ _ _ _ _ _ h p e s m args below meth c r0 A X)
def fX11_look_161 : Nat → Int32 → Int32 → Int32 → eW → Option (Int32 × eW)
  | 0, _, _, _, _ => none
  | n + 1, x3, x4, x5, w => if (20 : Int32) ≤ x5 then (some (x4, w)) else (fX11_look_161 n x3 (x4 + ((x3 >>> (x5 &&& 31)) &&& (1 : Int32))) (x5 + (1 : Int32)) w)
set_option maxRecDepth 20000 in
theorem sX11_look_161  : ∀ (n : Nat) (x3 : Int32) (x4 : Int32) (x5 : Int32) (w : eW) (r : Int32 × eW), fX11_look_161 n x3 x4 x5 w = some r → eBN l D cI cZ 4 yX11_look cX11_look 7 (some .int) 161 [(3, .int x3), (4, .int x4), (5, .int x5)] [] w (some (.int r.1)) r.2 := by
  intro n
  induction n with
  | zero => intro x3 x4 x5 w r h; exact absurd (show (none : Option (Int32 × eW)) = some r from h) (by simp)
  | succ n ih =>
    intro x3 x4 x5 w r h
    rw [fX11_look_161] at h
    intro p e s m args below meth c r0 A X
    refine ev_iload (pc := 161) X 2 dX11_look_161 rfl ?_
    refine ev_bipush (pc := 163) (v := (20 : Int32)) X dX11_look_163 rfl ?_
    refine ev_icmp_ge (pc := 165) X 185 dX11_look_165 rfl (fun hc => ?_) (fun hc => ?_)
    · rw [if_pos hc] at h
      refine ev_iload (pc := 185) X 1 dX11_look_185 rfl ?_
      obtain rfl := Option.some.inj h
      exact ev_iret (pc := 187) X dX11_look_187
    · rw [if_neg hc] at h
      refine ev_iload (pc := 168) X 1 dX11_look_168 rfl ?_
      refine ev_iload_n (pc := 170) X 0 dX11_look_170 rfl rfl ?_
      refine ev_iload (pc := 171) X 2 dX11_look_171 rfl ?_
      refine ev_ishr (pc := 173) X dX11_look_173 ?_
      refine ev_iconst (pc := 174) (v := (1 : Int32)) X dX11_look_174 rfl ?_
      refine ev_iand (pc := 175) X dX11_look_175 ?_
      refine ev_iadd (pc := 176) X dX11_look_176 ?_
      refine ev_istore (pc := 177) (L' := [(4, .int (x4 + ((x3 >>> (x5 &&& 31)) &&& (1 : Int32)))), (3, .int x3), (5, .int x5)]) X dX11_look_177 (by decide) rfl ?_
      refine ev_iinc (pc := 179) (v := x5 + (1 : Int32)) (L' := [(5, .int (x5 + (1 : Int32))), (4, .int (x4 + ((x3 >>> (x5 &&& 31)) &&& (1 : Int32)))), (3, .int x3)]) X 2 dX11_look_179 rfl rfl (by decide) rfl ?_
      refine ev_goto (pc := 182) X 161 dX11_look_182 rfl ?_
      exact ev_weak (pc := 161) [2, 1, 0] rfl (ih _ _ _ _ _ h p e s m args below meth c r0 A X)
def fX11_look_36 : Nat → Nat → Int32 → Int32 → Int32 → Int32 → eW → Option (Int32 × eW)
  | 0, _, _, _, _, _, _ => none
  | n + 1, x0, x1, x2, x3, x4, w => (eGR w x0 11 13).bind fun v1 => eBind2 (fX11_cardsOf v1 x1 w) fun v3 w2 => if v3 ≤ x4 then ((eGR w2 x0 11 13).bind fun v4 => eBind2 (fX11_behind x0 v4 x1 x2 w2) fun v6 w5 => fX11_look_161 eN (x3 &&& (((1 : Int32) <<< (v6 &&& 31)) ^^^ (-1 : Int32))) (0 : Int32) (0 : Int32) w5) else (fX11_look_52 (fX11_look_36 n) eN x0 x1 x2 x3 x4 (0 : Int32) w2)
set_option maxRecDepth 20000 in
theorem sX11_look_36  : ∀ (n : Nat) (x0 : Nat) (x1 : Int32) (x2 : Int32) (x3 : Int32) (x4 : Int32) (w : eW) (r : Int32 × eW), fX11_look_36 n x0 x1 x2 x3 x4 w = some r → eBN l D cI cZ 4 yX11_look cX11_look 7 (some .int) 36 [(0, .ref x0), (1, .int x1), (2, .int x2), (3, .int x3), (4, .int x4)] [] w (some (.int r.1)) r.2 := by
  intro n
  induction n with
  | zero => intro x0 x1 x2 x3 x4 w r h; exact absurd (show (none : Option (Int32 × eW)) = some r from h) (by simp)
  | succ n ih =>
    intro x0 x1 x2 x3 x4 w r h
    rw [fX11_look_36] at h
    intro p e s m args below meth c r0 A X
    refine ev_iload (pc := 36) X 4 dX11_look_36 rfl ?_
    refine ev_aload_n (pc := 38) X 0 dX11_look_38 rfl rfl ?_
    obtain ⟨v1, hv1, h⟩ := eBi h
    refine ev_getR (pc := 39) X hcX11 (k := 13) (by decide) kfX11_22 dX11_look_39 hv1 ?_
    refine ev_iload_n (pc := 42) X 1 dX11_look_42 rfl rfl ?_
    obtain ⟨v3, w2, hc, h⟩ := eB2 h
    refine ev_callS_i (pc := 43) (As := [.ref v1, .int x1]) (S := [.int x4]) X hwX11_cardsOf klX11_137 htX11_cardsOf ⟨Nat.le_of_ble_eq_true rfl, Nat.le_of_ble_eq_true rfl⟩ ⟨Nat.le_refl _, Nat.le_refl _⟩ rfl (Nat.le_of_ble_eq_true rfl) dX11_look_43 rfl (mX11_cardsOf hc) ?_
    refine ev_icmp_ge (pc := 46) X 138 dX11_look_46 rfl (fun hc => ?_) (fun hc => ?_)
    · rw [if_pos hc] at h
      refine ev_iload_n (pc := 138) X 3 dX11_look_138 rfl rfl ?_
      refine ev_iconst (pc := 139) (v := (1 : Int32)) X dX11_look_139 rfl ?_
      refine ev_aload_n (pc := 140) X 0 dX11_look_140 rfl rfl ?_
      refine ev_aload_n (pc := 141) X 0 dX11_look_141 rfl rfl ?_
      obtain ⟨v4, hv4, h⟩ := eBi h
      refine ev_getR (pc := 142) X hcX11 (k := 13) (by decide) kfX11_22 dX11_look_142 hv4 ?_
      refine ev_iload_n (pc := 145) X 1 dX11_look_145 rfl rfl ?_
      refine ev_iload_n (pc := 146) X 2 dX11_look_146 rfl rfl ?_
      obtain ⟨v6, w5, hc, h⟩ := eB2 h
      refine ev_callV_i (pc := 147) (As := [.ref v4, .int x1, .int x2]) (S := [.int (1 : Int32), .int x3]) X hwX11_behind klX11_140 hiX11_behind hsX11_behind (ci := 11) ⟨rfl, rfl⟩ ⟨Nat.le_of_ble_eq_true rfl, Nat.le_of_ble_eq_true rfl⟩ ⟨Nat.le_refl _, Nat.le_refl _⟩ rfl (Nat.le_of_ble_eq_true rfl) dX11_look_147 rfl (mX11_behind (l := l) (D := D) (cI := cI) (cZ := cZ) hc).1 (mX11_behind hc).2 ?_
      refine ev_ishl (pc := 150) X dX11_look_150 ?_
      refine ev_iconst (pc := 151) (v := (-1 : Int32)) X dX11_look_151 rfl ?_
      refine ev_ixor (pc := 152) X dX11_look_152 ?_
      refine ev_iand (pc := 153) X dX11_look_153 ?_
      refine ev_istore_n (pc := 154) (L' := [(3, .int (x3 &&& (((1 : Int32) <<< (v6 &&& 31)) ^^^ (-1 : Int32)))), (0, .ref x0), (1, .int x1), (2, .int x2), (4, .int x4)]) X dX11_look_154 rfl (by decide) rfl ?_
      refine ev_iconst (pc := 155) (v := (0 : Int32)) X dX11_look_155 rfl ?_
      refine ev_istore (pc := 156) (L' := [(4, .int (0 : Int32)), (3, .int (x3 &&& (((1 : Int32) <<< (v6 &&& 31)) ^^^ (-1 : Int32)))), (0, .ref x0), (1, .int x1), (2, .int x2)]) X dX11_look_156 (by decide) rfl ?_
      refine ev_iconst (pc := 158) (v := (0 : Int32)) X dX11_look_158 rfl ?_
      refine ev_istore (pc := 159) (L' := [(5, .int (0 : Int32)), (4, .int (0 : Int32)), (3, .int (x3 &&& (((1 : Int32) <<< (v6 &&& 31)) ^^^ (-1 : Int32)))), (0, .ref x0), (1, .int x1), (2, .int x2)]) X dX11_look_159 (by decide) rfl ?_
      exact ev_weak (pc := 161) [2, 1, 0] rfl (sX11_look_161 eN _ _ _ _ _ h p e s m args below meth c r0 A X)
    · rw [if_neg hc] at h
      refine ev_iconst (pc := 49) (v := (0 : Int32)) X dX11_look_49 rfl ?_
      refine ev_istore (pc := 50) (L' := [(5, .int (0 : Int32)), (0, .ref x0), (1, .int x1), (2, .int x2), (3, .int x3), (4, .int x4)]) X dX11_look_50 (by decide) rfl ?_
      exact ev_weak (pc := 52) [1, 2, 3, 4, 5, 0] rfl (sX11_look_52 (fun _ _ _ _ _ w r hh => ih _ _ _ _ _ w r hh) eN _ _ _ _ _ _ _ _ h p e s m args below meth c r0 A X)
def fX11_look_0 (x0 : Nat) (x1 : Int32) (x2 : Int32) (w : eW) : Option (Int32 × eW) := (eP w x0 11 0 (.int (0 : Int32))).bind fun w1 => eBind2 (fX11_isBolt x0 x1 w1) fun v3 w2 => if v3 = 0 then (some ((-1 : Int32), w2)) else ((eGR w2 x0 11 13).bind fun v4 => eBind2 (fX11_cardsOf v4 x1 w2) fun v6 w5 => eBind2 (fX11_in x2 (1 : Int32) v6 w5) fun v8 w7 => if v8 = 0 then (some ((-1 : Int32), w7)) else (fX11_look_36 eN x0 x1 x2 (0 : Int32) (0 : Int32) w7))
set_option maxRecDepth 20000 in
theorem sX11_look_0  (x0 : Nat) (x1 : Int32) (x2 : Int32) (w : eW) (r : Int32 × eW) (h : fX11_look_0 x0 x1 x2 w = some r) : eBN l D cI cZ 4 yX11_look cX11_look 7 (some .int) 0 [(0, .ref x0), (1, .int x1), (2, .int x2)] [] w (some (.int r.1)) r.2 := by
  rw [fX11_look_0] at h
  intro p e s m args below meth c r0 A X
  refine ev_aload_n (pc := 0) X 0 dX11_look_0 rfl rfl ?_
  refine ev_iconst (pc := 1) (v := (0 : Int32)) X dX11_look_1 rfl ?_
  obtain ⟨w1, hw1, h⟩ := eBi h
  refine ev_putI (pc := 2) X hcX11 (k := 0) (by decide) kfX11_50 rfl rfl dX11_look_2 hw1 ?_
  refine ev_aload_n (pc := 5) X 0 dX11_look_5 rfl rfl ?_
  refine ev_iload_n (pc := 6) X 1 dX11_look_6 rfl rfl ?_
  obtain ⟨v3, w2, hc, h⟩ := eB2 h
  refine ev_callV_i (pc := 7) (As := [.int x1]) (S := []) X hwX11_isBolt klX11_143 hiX11_isBolt hsX11_isBolt (ci := 11) ⟨rfl, rfl⟩ ⟨Nat.le_of_ble_eq_true rfl, Nat.le_of_ble_eq_true rfl⟩ ⟨Nat.le_refl _, Nat.le_refl _⟩ rfl (Nat.le_of_ble_eq_true rfl) dX11_look_7 rfl (mX11_isBolt (l := l) (D := D) (cI := cI) (cZ := cZ) hc).1 (mX11_isBolt hc).2 ?_
  refine ev_if_eq (pc := 10) X 29 dX11_look_10 rfl (fun hc => ?_) (fun hc => ?_)
  · rw [if_pos hc] at h
    refine ev_iconst (pc := 29) (v := (-1 : Int32)) X dX11_look_29 rfl ?_
    obtain rfl := Option.some.inj h
    exact ev_iret (pc := 30) X dX11_look_30
  · rw [if_neg hc] at h
    refine ev_iload_n (pc := 13) X 2 dX11_look_13 rfl rfl ?_
    refine ev_iconst (pc := 14) (v := (1 : Int32)) X dX11_look_14 rfl ?_
    refine ev_aload_n (pc := 15) X 0 dX11_look_15 rfl rfl ?_
    obtain ⟨v4, hv4, h⟩ := eBi h
    refine ev_getR (pc := 16) X hcX11 (k := 13) (by decide) kfX11_22 dX11_look_16 hv4 ?_
    refine ev_iload_n (pc := 19) X 1 dX11_look_19 rfl rfl ?_
    obtain ⟨v6, w5, hc, h⟩ := eB2 h
    refine ev_callS_i (pc := 20) (As := [.ref v4, .int x1]) (S := [.int (1 : Int32), .int x2]) X hwX11_cardsOf klX11_137 htX11_cardsOf ⟨Nat.le_of_ble_eq_true rfl, Nat.le_of_ble_eq_true rfl⟩ ⟨Nat.le_refl _, Nat.le_refl _⟩ rfl (Nat.le_of_ble_eq_true rfl) dX11_look_20 rfl (mX11_cardsOf hc) ?_
    obtain ⟨v8, w7, hc, h⟩ := eB2 h
    refine ev_callS_i (pc := 23) (As := [.int x2, .int (1 : Int32), .int v6]) (S := []) X hwX11_in klX11_54 htX11_in ⟨Nat.le_of_ble_eq_true rfl, Nat.le_of_ble_eq_true rfl⟩ ⟨Nat.le_refl _, Nat.le_refl _⟩ rfl (Nat.le_of_ble_eq_true rfl) dX11_look_23 rfl (mX11_in hc) ?_
    refine ev_if_ne (pc := 26) X 31 dX11_look_26 rfl (fun hc => ?_) (fun hc => ?_)
    · rw [if_neg hc] at h
      refine ev_iconst (pc := 31) (v := (0 : Int32)) X dX11_look_31 rfl ?_
      refine ev_istore_n (pc := 32) (L' := [(3, .int (0 : Int32)), (0, .ref x0), (1, .int x1), (2, .int x2)]) X dX11_look_32 rfl (by decide) rfl ?_
      refine ev_iconst (pc := 33) (v := (0 : Int32)) X dX11_look_33 rfl ?_
      refine ev_istore (pc := 34) (L' := [(4, .int (0 : Int32)), (3, .int (0 : Int32)), (0, .ref x0), (1, .int x1), (2, .int x2)]) X dX11_look_34 (by decide) rfl ?_
      exact ev_weak (pc := 36) [2, 3, 4, 1, 0] rfl (sX11_look_36 eN _ _ _ _ _ _ _ h p e s m args below meth c r0 A X)
    · rw [if_pos hc] at h
      refine ev_iconst (pc := 29) (v := (-1 : Int32)) X dX11_look_29 rfl ?_
      obtain rfl := Option.some.inj h
      exact ev_iret (pc := 30) X dX11_look_30
def fX11_look (a0 : Nat) (a1 : Int32) (a2 : Int32) (w : eW) : Option (Int32 × eW) := bif eO w a0 11 then fX11_look_0 a0 a1 a2 w else none
theorem mX11_look {a0 : Nat} {a1 : Int32} {a2 : Int32} {w : eW} {v : Int32} {w' : eW} (h : fX11_look a0 a1 a2 w = some (v, w')) : eO w a0 11 = true ∧ eMN l D cI cZ 4 yX11_look cX11_look 7 (some .int) [.ref a0, .int a1, .int a2] w (some (.int v)) w' := by
  obtain ⟨h0, h⟩ := eBif h
  exact ⟨h0, eMN_of [(0, .ref a0), (1, .int a1), (2, .int a2)] (plainFor_of_name (by decide)) (fun _ => rfl) (fun _ => Nat.le_of_ble_eq_true rfl) (fun p e s m args below meth c r0 A X => ev_weak (pc := 0) [0, 1, 2] rfl (sX11_look_0 _ _ _ _ _ h p e s m args below meth c r0 A X))⟩
theorem dX11_rate_0 : decode cX11_rate 0 = .ok (.aload_n 0, 1) := by decide +kernel
theorem dX11_rate_1 : decode cX11_rate 1 = .ok (.iconst 0, 1) := by decide +kernel
theorem dX11_rate_2 : decode cX11_rate 2 = .ok (.putfield 50, 3) := by decide +kernel
theorem dX11_rate_5 : decode cX11_rate 5 = .ok (.iload_n 1, 1) := by decide +kernel
theorem dX11_rate_6 : decode cX11_rate 6 = .ok (.iconst 0, 1) := by decide +kernel
theorem dX11_rate_7 : decode cX11_rate 7 = .ok (.iconst 5, 1) := by decide +kernel
theorem dX11_rate_8 : decode cX11_rate 8 = .ok (.invokestatic 54, 3) := by decide +kernel
theorem dX11_rate_11 : decode cX11_rate 11 = .ok (.ifCond .eq 11, 3) := by decide +kernel
theorem dX11_rate_14 : decode cX11_rate 14 = .ok (.aload_n 0, 1) := by decide +kernel
theorem dX11_rate_15 : decode cX11_rate 15 = .ok (.iload_n 2, 1) := by decide +kernel
theorem dX11_rate_16 : decode cX11_rate 16 = .ok (.invokevirtual 143, 3) := by decide +kernel
theorem dX11_rate_19 : decode cX11_rate 19 = .ok (.ifCond .ne 6, 3) := by decide +kernel
theorem dX11_rate_22 : decode cX11_rate 22 = .ok (.ldc 214, 2) := by decide +kernel
theorem dX11_rate_24 : decode cX11_rate 24 = .ok (.ireturn, 1) := by decide +kernel
theorem dX11_rate_25 : decode cX11_rate 25 = .ok (.aload_n 0, 1) := by decide +kernel
theorem dX11_rate_26 : decode cX11_rate 26 = .ok (.getfield 22, 3) := by decide +kernel
theorem dX11_rate_29 : decode cX11_rate 29 = .ok (.iload_n 2, 1) := by decide +kernel
theorem dX11_rate_30 : decode cX11_rate 30 = .ok (.invokestatic 137, 3) := by decide +kernel
theorem dX11_rate_33 : decode cX11_rate 33 = .ok (.istore_n 3, 1) := by decide +kernel
theorem dX11_rate_34 : decode cX11_rate 34 = .ok (.iload_n 3, 1) := by decide +kernel
theorem dX11_rate_35 : decode cX11_rate 35 = .ok (.aload_n 0, 1) := by decide +kernel
theorem dX11_rate_36 : decode cX11_rate 36 = .ok (.aload_n 0, 1) := by decide +kernel
theorem dX11_rate_37 : decode cX11_rate 37 = .ok (.getfield 22, 3) := by decide +kernel
theorem dX11_rate_40 : decode cX11_rate 40 = .ok (.iload_n 2, 1) := by decide +kernel
theorem dX11_rate_41 : decode cX11_rate 41 = .ok (.invokevirtual 146, 3) := by decide +kernel
theorem dX11_rate_44 : decode cX11_rate 44 = .ok (.iadd, 1) := by decide +kernel
theorem dX11_rate_45 : decode cX11_rate 45 = .ok (.istore 4, 2) := by decide +kernel
theorem dX11_rate_47 : decode cX11_rate 47 = .ok (.iload_n 3, 1) := by decide +kernel
theorem dX11_rate_48 : decode cX11_rate 48 = .ok (.aload_n 0, 1) := by decide +kernel
theorem dX11_rate_49 : decode cX11_rate 49 = .ok (.iload_n 2, 1) := by decide +kernel
theorem dX11_rate_50 : decode cX11_rate 50 = .ok (.invokevirtual 149, 3) := by decide +kernel
theorem dX11_rate_53 : decode cX11_rate 53 = .ok (.isub, 1) := by decide +kernel
theorem dX11_rate_54 : decode cX11_rate 54 = .ok (.istore 5, 2) := by decide +kernel
theorem dX11_rate_56 : decode cX11_rate 56 = .ok (.aload_n 0, 1) := by decide +kernel
theorem dX11_rate_57 : decode cX11_rate 57 = .ok (.dup, 1) := by decide +kernel
theorem dX11_rate_58 : decode cX11_rate 58 = .ok (.getfield 215, 3) := by decide +kernel
theorem dX11_rate_61 : decode cX11_rate 61 = .ok (.iload_n 1, 1) := by decide +kernel
theorem dX11_rate_62 : decode cX11_rate 62 = .ok (.ifCond .ne 7, 3) := by decide +kernel
theorem dX11_rate_65 : decode cX11_rate 65 = .ok (.lconst 1, 1) := by decide +kernel
theorem dX11_rate_66 : decode cX11_rate 66 = .ok (.goto 50, 3) := by decide +kernel
theorem dX11_rate_69 : decode cX11_rate 69 = .ok (.iload_n 1, 1) := by decide +kernel
theorem dX11_rate_70 : decode cX11_rate 70 = .ok (.iconst 1, 1) := by decide +kernel
theorem dX11_rate_71 : decode cX11_rate 71 = .ok (.if_icmp .ne 9, 3) := by decide +kernel
theorem dX11_rate_74 : decode cX11_rate 74 = .ok (.ldc2_w 219, 3) := by decide +kernel
theorem dX11_rate_77 : decode cX11_rate 77 = .ok (.goto 39, 3) := by decide +kernel
theorem dX11_rate_80 : decode cX11_rate 80 = .ok (.iload_n 1, 1) := by decide +kernel
theorem dX11_rate_81 : decode cX11_rate 81 = .ok (.iconst 2, 1) := by decide +kernel
theorem dX11_rate_82 : decode cX11_rate 82 = .ok (.if_icmp .ne 9, 3) := by decide +kernel
theorem dX11_rate_85 : decode cX11_rate 85 = .ok (.ldc2_w 221, 3) := by decide +kernel
theorem dX11_rate_88 : decode cX11_rate 88 = .ok (.goto 28, 3) := by decide +kernel
theorem dX11_rate_91 : decode cX11_rate 91 = .ok (.iload_n 1, 1) := by decide +kernel
theorem dX11_rate_92 : decode cX11_rate 92 = .ok (.iconst 3, 1) := by decide +kernel
theorem dX11_rate_93 : decode cX11_rate 93 = .ok (.if_icmp .ne 9, 3) := by decide +kernel
theorem dX11_rate_96 : decode cX11_rate 96 = .ok (.ldc2_w 223, 3) := by decide +kernel
theorem dX11_rate_99 : decode cX11_rate 99 = .ok (.goto 17, 3) := by decide +kernel
theorem dX11_rate_102 : decode cX11_rate 102 = .ok (.iload_n 1, 1) := by decide +kernel
theorem dX11_rate_103 : decode cX11_rate 103 = .ok (.iconst 4, 1) := by decide +kernel
theorem dX11_rate_104 : decode cX11_rate 104 = .ok (.if_icmp .ne 9, 3) := by decide +kernel
theorem dX11_rate_107 : decode cX11_rate 107 = .ok (.ldc2_w 225, 3) := by decide +kernel
theorem dX11_rate_110 : decode cX11_rate 110 = .ok (.goto 6, 3) := by decide +kernel
theorem dX11_rate_113 : decode cX11_rate 113 = .ok (.ldc2_w 227, 3) := by decide +kernel
theorem dX11_rate_116 : decode cX11_rate 116 = .ok (.ladd, 1) := by decide +kernel
theorem dX11_rate_117 : decode cX11_rate 117 = .ok (.putfield 215, 3) := by decide +kernel
theorem dX11_rate_120 : decode cX11_rate 120 = .ok (.iload_n 1, 1) := by decide +kernel
theorem dX11_rate_121 : decode cX11_rate 121 = .ok (.ifCond .ne 7, 3) := by decide +kernel
theorem dX11_rate_124 : decode cX11_rate 124 = .ok (.iload_n 3, 1) := by decide +kernel
theorem dX11_rate_125 : decode cX11_rate 125 = .ok (.goto 57, 3) := by decide +kernel
theorem dX11_rate_128 : decode cX11_rate 128 = .ok (.iload_n 1, 1) := by decide +kernel
theorem dX11_rate_129 : decode cX11_rate 129 = .ok (.iconst 1, 1) := by decide +kernel
theorem dX11_rate_130 : decode cX11_rate 130 = .ok (.if_icmp .ne 8, 3) := by decide +kernel
theorem dX11_rate_133 : decode cX11_rate 133 = .ok (.iload 4, 2) := by decide +kernel
theorem dX11_rate_135 : decode cX11_rate 135 = .ok (.goto 47, 3) := by decide +kernel
theorem dX11_rate_138 : decode cX11_rate 138 = .ok (.iload_n 1, 1) := by decide +kernel
theorem dX11_rate_139 : decode cX11_rate 139 = .ok (.iconst 2, 1) := by decide +kernel
theorem dX11_rate_140 : decode cX11_rate 140 = .ok (.if_icmp .ne 8, 3) := by decide +kernel
theorem dX11_rate_143 : decode cX11_rate 143 = .ok (.iload 5, 2) := by decide +kernel
theorem dX11_rate_145 : decode cX11_rate 145 = .ok (.goto 37, 3) := by decide +kernel
theorem dX11_rate_148 : decode cX11_rate 148 = .ok (.iload_n 1, 1) := by decide +kernel
theorem dX11_rate_149 : decode cX11_rate 149 = .ok (.iconst 3, 1) := by decide +kernel
theorem dX11_rate_150 : decode cX11_rate 150 = .ok (.if_icmp .ne 10, 3) := by decide +kernel
theorem dX11_rate_153 : decode cX11_rate 153 = .ok (.iconst 2, 1) := by decide +kernel
theorem dX11_rate_154 : decode cX11_rate 154 = .ok (.iload 4, 2) := by decide +kernel
theorem dX11_rate_156 : decode cX11_rate 156 = .ok (.imul, 1) := by decide +kernel
theorem dX11_rate_157 : decode cX11_rate 157 = .ok (.goto 25, 3) := by decide +kernel
theorem dX11_rate_160 : decode cX11_rate 160 = .ok (.iload_n 1, 1) := by decide +kernel
theorem dX11_rate_161 : decode cX11_rate 161 = .ok (.iconst 4, 1) := by decide +kernel
theorem dX11_rate_162 : decode cX11_rate 162 = .ok (.if_icmp .ne 10, 3) := by decide +kernel
theorem dX11_rate_165 : decode cX11_rate 165 = .ok (.iload 5, 2) := by decide +kernel
theorem dX11_rate_167 : decode cX11_rate 167 = .ok (.iload_n 2, 1) := by decide +kernel
theorem dX11_rate_168 : decode cX11_rate 168 = .ok (.iadd, 1) := by decide +kernel
theorem dX11_rate_169 : decode cX11_rate 169 = .ok (.goto 13, 3) := by decide +kernel
theorem dX11_rate_172 : decode cX11_rate 172 = .ok (.iload_n 3, 1) := by decide +kernel
theorem dX11_rate_173 : decode cX11_rate 173 = .ok (.aload_n 0, 1) := by decide +kernel
theorem dX11_rate_174 : decode cX11_rate 174 = .ok (.aload_n 0, 1) := by decide +kernel
theorem dX11_rate_175 : decode cX11_rate 175 = .ok (.getfield 22, 3) := by decide +kernel
theorem dX11_rate_178 : decode cX11_rate 178 = .ok (.invokevirtual 169, 3) := by decide +kernel
theorem dX11_rate_181 : decode cX11_rate 181 = .ok (.iadd, 1) := by decide +kernel
theorem dX11_rate_182 : decode cX11_rate 182 = .ok (.ireturn, 1) := by decide +kernel
def fX11_rate_116 (x0 : Nat) (x1 : Int32) (x2 : Int32) (x3 : Int32) (x4 : Int32) (x5 : Int32) (t0 : Nat) (t1 : Int64) (t2 : Int64) (w : eW) : Option (Int32 × eW) := (eP w t0 11 1 (.long (t1 + t2))).bind fun w1 => if x1 = 0 then (some (x3, w1)) else (if x1 = (1 : Int32) then (some (x4, w1)) else (if x1 = (2 : Int32) then (some (x5, w1)) else (if x1 = (3 : Int32) then (some ((2 : Int32) * x4, w1)) else (if x1 = (4 : Int32) then (some (x5 + x2, w1)) else ((eGR w1 x0 11 13).bind fun v2 => eBind2 (fX11_piecesOf x0 v2 w1) fun v4 w3 => some (x3 + v4, w3))))))
set_option maxRecDepth 20000 in
theorem sX11_rate_116  (x0 : Nat) (x1 : Int32) (x2 : Int32) (x3 : Int32) (x4 : Int32) (x5 : Int32) (t0 : Nat) (t1 : Int64) (t2 : Int64) (w : eW) (r : Int32 × eW) (h : fX11_rate_116 x0 x1 x2 x3 x4 x5 t0 t1 t2 w = some r) : eBN l D cI cZ 4 yX11_rate cX11_rate 6 (some .int) 116 [(0, .ref x0), (1, .int x1), (2, .int x2), (3, .int x3), (4, .int x4), (5, .int x5)] [.long t2, .long t1, .ref t0] w (some (.int r.1)) r.2 := by
  rw [fX11_rate_116] at h
  intro p e s m args below meth c r0 A X
  refine ev_ladd (pc := 116) X dX11_rate_116 ?_
  obtain ⟨w1, hw1, h⟩ := eBi h
  refine ev_putL (pc := 117) X hcX11 (k := 1) (by decide) kfX11_215 rfl rfl dX11_rate_117 hw1 ?_
  refine ev_iload_n (pc := 120) X 1 dX11_rate_120 rfl rfl ?_
  refine ev_if_ne (pc := 121) X 128 dX11_rate_121 rfl (fun hc => ?_) (fun hc => ?_)
  · rw [if_neg hc] at h
    refine ev_iload_n (pc := 128) X 1 dX11_rate_128 rfl rfl ?_
    refine ev_iconst (pc := 129) (v := (1 : Int32)) X dX11_rate_129 rfl ?_
    refine ev_icmp_ne (pc := 130) X 138 dX11_rate_130 rfl (fun hc => ?_) (fun hc => ?_)
    · rw [if_neg hc] at h
      refine ev_iload_n (pc := 138) X 1 dX11_rate_138 rfl rfl ?_
      refine ev_iconst (pc := 139) (v := (2 : Int32)) X dX11_rate_139 rfl ?_
      refine ev_icmp_ne (pc := 140) X 148 dX11_rate_140 rfl (fun hc => ?_) (fun hc => ?_)
      · rw [if_neg hc] at h
        refine ev_iload_n (pc := 148) X 1 dX11_rate_148 rfl rfl ?_
        refine ev_iconst (pc := 149) (v := (3 : Int32)) X dX11_rate_149 rfl ?_
        refine ev_icmp_ne (pc := 150) X 160 dX11_rate_150 rfl (fun hc => ?_) (fun hc => ?_)
        · rw [if_neg hc] at h
          refine ev_iload_n (pc := 160) X 1 dX11_rate_160 rfl rfl ?_
          refine ev_iconst (pc := 161) (v := (4 : Int32)) X dX11_rate_161 rfl ?_
          refine ev_icmp_ne (pc := 162) X 172 dX11_rate_162 rfl (fun hc => ?_) (fun hc => ?_)
          · rw [if_neg hc] at h
            refine ev_iload_n (pc := 172) X 3 dX11_rate_172 rfl rfl ?_
            refine ev_aload_n (pc := 173) X 0 dX11_rate_173 rfl rfl ?_
            refine ev_aload_n (pc := 174) X 0 dX11_rate_174 rfl rfl ?_
            obtain ⟨v2, hv2, h⟩ := eBi h
            refine ev_getR (pc := 175) X hcX11 (k := 13) (by decide) kfX11_22 dX11_rate_175 hv2 ?_
            obtain ⟨v4, w3, hc, h⟩ := eB2 h
            refine ev_callV_i (pc := 178) (As := [.ref v2]) (S := [.int x3]) X hwX11_piecesOf klX11_169 hiX11_piecesOf hsX11_piecesOf (ci := 11) ⟨rfl, rfl⟩ ⟨Nat.le_of_ble_eq_true rfl, Nat.le_of_ble_eq_true rfl⟩ ⟨Nat.le_refl _, Nat.le_refl _⟩ rfl (Nat.le_of_ble_eq_true rfl) dX11_rate_178 rfl (mX11_piecesOf (l := l) (D := D) (cI := cI) (cZ := cZ) hc).1 (mX11_piecesOf hc).2 ?_
            refine ev_iadd (pc := 181) X dX11_rate_181 ?_
            obtain rfl := Option.some.inj h
            exact ev_iret (pc := 182) X dX11_rate_182
          · rw [if_pos hc] at h
            refine ev_iload (pc := 165) X 5 dX11_rate_165 rfl ?_
            refine ev_iload_n (pc := 167) X 2 dX11_rate_167 rfl rfl ?_
            refine ev_iadd (pc := 168) X dX11_rate_168 ?_
            refine ev_goto (pc := 169) X 182 dX11_rate_169 rfl ?_
            obtain rfl := Option.some.inj h
            exact ev_iret (pc := 182) X dX11_rate_182
        · rw [if_pos hc] at h
          refine ev_iconst (pc := 153) (v := (2 : Int32)) X dX11_rate_153 rfl ?_
          refine ev_iload (pc := 154) X 4 dX11_rate_154 rfl ?_
          refine ev_imul (pc := 156) X dX11_rate_156 ?_
          refine ev_goto (pc := 157) X 182 dX11_rate_157 rfl ?_
          obtain rfl := Option.some.inj h
          exact ev_iret (pc := 182) X dX11_rate_182
      · rw [if_pos hc] at h
        refine ev_iload (pc := 143) X 5 dX11_rate_143 rfl ?_
        refine ev_goto (pc := 145) X 182 dX11_rate_145 rfl ?_
        obtain rfl := Option.some.inj h
        exact ev_iret (pc := 182) X dX11_rate_182
    · rw [if_pos hc] at h
      refine ev_iload (pc := 133) X 4 dX11_rate_133 rfl ?_
      refine ev_goto (pc := 135) X 182 dX11_rate_135 rfl ?_
      obtain rfl := Option.some.inj h
      exact ev_iret (pc := 182) X dX11_rate_182
  · rw [if_pos hc] at h
    refine ev_iload_n (pc := 124) X 3 dX11_rate_124 rfl rfl ?_
    refine ev_goto (pc := 125) X 182 dX11_rate_125 rfl ?_
    obtain rfl := Option.some.inj h
    exact ev_iret (pc := 182) X dX11_rate_182
def fX11_rate_0 (x0 : Nat) (x1 : Int32) (x2 : Int32) (w : eW) : Option (Int32 × eW) := (eP w x0 11 0 (.int (0 : Int32))).bind fun w1 => eBind2 (fX11_in x1 (0 : Int32) (5 : Int32) w1) fun v3 w2 => if v3 = 0 then (some ((-1000000 : Int32), w2)) else (eBind2 (fX11_isBolt x0 x2 w2) fun v5 w4 => if v5 = 0 then (some ((-1000000 : Int32), w4)) else ((eGR w4 x0 11 13).bind fun v6 => eBind2 (fX11_cardsOf v6 x2 w4) fun v8 w7 => (eGR w7 x0 11 13).bind fun v9 => eBind2 (fX11_endOf x0 v9 x2 w7) fun v11 w10 => eBind2 (fX11_upOf x0 x2 w10) fun v13 w12 => (eGL w12 x0 11 1).bind fun v14 => if x1 = 0 then (fX11_rate_116 x0 x1 x2 v8 (v8 + v11) (v8 - v13) x0 v14 (1 : Int64) w12) else (if x1 = (1 : Int32) then (fX11_rate_116 x0 x1 x2 v8 (v8 + v11) (v8 - v13) x0 v14 (11 : Int64) w12) else (if x1 = (2 : Int32) then (fX11_rate_116 x0 x1 x2 v8 (v8 + v11) (v8 - v13) x0 v14 (101 : Int64) w12) else (if x1 = (3 : Int32) then (fX11_rate_116 x0 x1 x2 v8 (v8 + v11) (v8 - v13) x0 v14 (1011 : Int64) w12) else (if x1 = (4 : Int32) then (fX11_rate_116 x0 x1 x2 v8 (v8 + v11) (v8 - v13) x0 v14 (10101 : Int64) w12) else (fX11_rate_116 x0 x1 x2 v8 (v8 + v11) (v8 - v13) x0 v14 (100001 : Int64) w12)))))))
set_option maxRecDepth 20000 in
theorem sX11_rate_0  (x0 : Nat) (x1 : Int32) (x2 : Int32) (w : eW) (r : Int32 × eW) (h : fX11_rate_0 x0 x1 x2 w = some r) : eBN l D cI cZ 4 yX11_rate cX11_rate 6 (some .int) 0 [(0, .ref x0), (1, .int x1), (2, .int x2)] [] w (some (.int r.1)) r.2 := by
  rw [fX11_rate_0] at h
  intro p e s m args below meth c r0 A X
  refine ev_aload_n (pc := 0) X 0 dX11_rate_0 rfl rfl ?_
  refine ev_iconst (pc := 1) (v := (0 : Int32)) X dX11_rate_1 rfl ?_
  obtain ⟨w1, hw1, h⟩ := eBi h
  refine ev_putI (pc := 2) X hcX11 (k := 0) (by decide) kfX11_50 rfl rfl dX11_rate_2 hw1 ?_
  refine ev_iload_n (pc := 5) X 1 dX11_rate_5 rfl rfl ?_
  refine ev_iconst (pc := 6) (v := (0 : Int32)) X dX11_rate_6 rfl ?_
  refine ev_iconst (pc := 7) (v := (5 : Int32)) X dX11_rate_7 rfl ?_
  obtain ⟨v3, w2, hc, h⟩ := eB2 h
  refine ev_callS_i (pc := 8) (As := [.int x1, .int (0 : Int32), .int (5 : Int32)]) (S := []) X hwX11_in klX11_54 htX11_in ⟨Nat.le_of_ble_eq_true rfl, Nat.le_of_ble_eq_true rfl⟩ ⟨Nat.le_refl _, Nat.le_refl _⟩ rfl (Nat.le_of_ble_eq_true rfl) dX11_rate_8 rfl (mX11_in hc) ?_
  refine ev_if_eq (pc := 11) X 22 dX11_rate_11 rfl (fun hc => ?_) (fun hc => ?_)
  · rw [if_pos hc] at h
    refine ev_ldc (pc := 22) X kkX11_214 dX11_rate_22 ?_
    obtain rfl := Option.some.inj h
    exact ev_iret (pc := 24) X dX11_rate_24
  · rw [if_neg hc] at h
    refine ev_aload_n (pc := 14) X 0 dX11_rate_14 rfl rfl ?_
    refine ev_iload_n (pc := 15) X 2 dX11_rate_15 rfl rfl ?_
    obtain ⟨v5, w4, hc, h⟩ := eB2 h
    refine ev_callV_i (pc := 16) (As := [.int x2]) (S := []) X hwX11_isBolt klX11_143 hiX11_isBolt hsX11_isBolt (ci := 11) ⟨rfl, rfl⟩ ⟨Nat.le_of_ble_eq_true rfl, Nat.le_of_ble_eq_true rfl⟩ ⟨Nat.le_refl _, Nat.le_refl _⟩ rfl (Nat.le_of_ble_eq_true rfl) dX11_rate_16 rfl (mX11_isBolt (l := l) (D := D) (cI := cI) (cZ := cZ) hc).1 (mX11_isBolt hc).2 ?_
    refine ev_if_ne (pc := 19) X 25 dX11_rate_19 rfl (fun hc => ?_) (fun hc => ?_)
    · rw [if_neg hc] at h
      refine ev_aload_n (pc := 25) X 0 dX11_rate_25 rfl rfl ?_
      obtain ⟨v6, hv6, h⟩ := eBi h
      refine ev_getR (pc := 26) X hcX11 (k := 13) (by decide) kfX11_22 dX11_rate_26 hv6 ?_
      refine ev_iload_n (pc := 29) X 2 dX11_rate_29 rfl rfl ?_
      obtain ⟨v8, w7, hc, h⟩ := eB2 h
      refine ev_callS_i (pc := 30) (As := [.ref v6, .int x2]) (S := []) X hwX11_cardsOf klX11_137 htX11_cardsOf ⟨Nat.le_of_ble_eq_true rfl, Nat.le_of_ble_eq_true rfl⟩ ⟨Nat.le_refl _, Nat.le_refl _⟩ rfl (Nat.le_of_ble_eq_true rfl) dX11_rate_30 rfl (mX11_cardsOf hc) ?_
      refine ev_istore_n (pc := 33) (L' := [(3, .int v8), (0, .ref x0), (1, .int x1), (2, .int x2)]) X dX11_rate_33 rfl (by decide) rfl ?_
      refine ev_iload_n (pc := 34) X 0 dX11_rate_34 rfl rfl ?_
      refine ev_aload_n (pc := 35) X 1 dX11_rate_35 rfl rfl ?_
      refine ev_aload_n (pc := 36) X 1 dX11_rate_36 rfl rfl ?_
      obtain ⟨v9, hv9, h⟩ := eBi h
      refine ev_getR (pc := 37) X hcX11 (k := 13) (by decide) kfX11_22 dX11_rate_37 hv9 ?_
      refine ev_iload_n (pc := 40) X 3 dX11_rate_40 rfl rfl ?_
      obtain ⟨v11, w10, hc, h⟩ := eB2 h
      refine ev_callV_i (pc := 41) (As := [.ref v9, .int x2]) (S := [.int v8]) X hwX11_endOf klX11_146 hiX11_endOf hsX11_endOf (ci := 11) ⟨rfl, rfl⟩ ⟨Nat.le_of_ble_eq_true rfl, Nat.le_of_ble_eq_true rfl⟩ ⟨Nat.le_refl _, Nat.le_refl _⟩ rfl (Nat.le_of_ble_eq_true rfl) dX11_rate_41 rfl (mX11_endOf (l := l) (D := D) (cI := cI) (cZ := cZ) hc).1 (mX11_endOf hc).2 ?_
      refine ev_iadd (pc := 44) X dX11_rate_44 ?_
      refine ev_istore (pc := 45) (L' := [(4, .int (v8 + v11)), (3, .int v8), (0, .ref x0), (1, .int x1), (2, .int x2)]) X dX11_rate_45 (by decide) rfl ?_
      refine ev_iload_n (pc := 47) X 1 dX11_rate_47 rfl rfl ?_
      refine ev_aload_n (pc := 48) X 2 dX11_rate_48 rfl rfl ?_
      refine ev_iload_n (pc := 49) X 4 dX11_rate_49 rfl rfl ?_
      obtain ⟨v13, w12, hc, h⟩ := eB2 h
      refine ev_callV_i (pc := 50) (As := [.int x2]) (S := [.int v8]) X hwX11_upOf klX11_149 hiX11_upOf hsX11_upOf (ci := 11) ⟨rfl, rfl⟩ ⟨Nat.le_of_ble_eq_true rfl, Nat.le_of_ble_eq_true rfl⟩ ⟨Nat.le_refl _, Nat.le_refl _⟩ rfl (Nat.le_of_ble_eq_true rfl) dX11_rate_50 rfl (mX11_upOf (l := l) (D := D) (cI := cI) (cZ := cZ) hc).1 (mX11_upOf hc).2 ?_
      refine ev_isub (pc := 53) X dX11_rate_53 ?_
      refine ev_istore (pc := 54) (L' := [(5, .int (v8 - v13)), (4, .int (v8 + v11)), (3, .int v8), (0, .ref x0), (1, .int x1), (2, .int x2)]) X dX11_rate_54 (by decide) rfl ?_
      refine ev_aload_n (pc := 56) X 3 dX11_rate_56 rfl rfl ?_
      refine ev_dup (pc := 57) X dX11_rate_57 rfl ?_
      obtain ⟨v14, hv14, h⟩ := eBi h
      refine ev_getL (pc := 58) X hcX11 (k := 1) (by decide) kfX11_215 dX11_rate_58 hv14 ?_
      refine ev_iload_n (pc := 61) X 4 dX11_rate_61 rfl rfl ?_
      refine ev_if_ne (pc := 62) X 69 dX11_rate_62 rfl (fun hc => ?_) (fun hc => ?_)
      · rw [if_neg hc] at h
        refine ev_iload_n (pc := 69) X 4 dX11_rate_69 rfl rfl ?_
        refine ev_iconst (pc := 70) (v := (1 : Int32)) X dX11_rate_70 rfl ?_
        refine ev_icmp_ne (pc := 71) X 80 dX11_rate_71 rfl (fun hc => ?_) (fun hc => ?_)
        · rw [if_neg hc] at h
          refine ev_iload_n (pc := 80) X 4 dX11_rate_80 rfl rfl ?_
          refine ev_iconst (pc := 81) (v := (2 : Int32)) X dX11_rate_81 rfl ?_
          refine ev_icmp_ne (pc := 82) X 91 dX11_rate_82 rfl (fun hc => ?_) (fun hc => ?_)
          · rw [if_neg hc] at h
            refine ev_iload_n (pc := 91) X 4 dX11_rate_91 rfl rfl ?_
            refine ev_iconst (pc := 92) (v := (3 : Int32)) X dX11_rate_92 rfl ?_
            refine ev_icmp_ne (pc := 93) X 102 dX11_rate_93 rfl (fun hc => ?_) (fun hc => ?_)
            · rw [if_neg hc] at h
              refine ev_iload_n (pc := 102) X 4 dX11_rate_102 rfl rfl ?_
              refine ev_iconst (pc := 103) (v := (4 : Int32)) X dX11_rate_103 rfl ?_
              refine ev_icmp_ne (pc := 104) X 113 dX11_rate_104 rfl (fun hc => ?_) (fun hc => ?_)
              · rw [if_neg hc] at h
                refine ev_ldc2 (pc := 113) X kjX11_227 dX11_rate_113 ?_
                exact ev_weak (pc := 116) [3, 4, 5, 2, 1, 0] rfl (sX11_rate_116 _ _ _ _ _ _ _ _ _ _ _ h p e s m args below meth c r0 A X)
              · rw [if_pos hc] at h
                refine ev_ldc2 (pc := 107) X kjX11_225 dX11_rate_107 ?_
                refine ev_goto (pc := 110) X 116 dX11_rate_110 rfl ?_
                exact ev_weak (pc := 116) [3, 4, 5, 2, 1, 0] rfl (sX11_rate_116 _ _ _ _ _ _ _ _ _ _ _ h p e s m args below meth c r0 A X)
            · rw [if_pos hc] at h
              refine ev_ldc2 (pc := 96) X kjX11_223 dX11_rate_96 ?_
              refine ev_goto (pc := 99) X 116 dX11_rate_99 rfl ?_
              exact ev_weak (pc := 116) [3, 4, 5, 2, 1, 0] rfl (sX11_rate_116 _ _ _ _ _ _ _ _ _ _ _ h p e s m args below meth c r0 A X)
          · rw [if_pos hc] at h
            refine ev_ldc2 (pc := 85) X kjX11_221 dX11_rate_85 ?_
            refine ev_goto (pc := 88) X 116 dX11_rate_88 rfl ?_
            exact ev_weak (pc := 116) [3, 4, 5, 2, 1, 0] rfl (sX11_rate_116 _ _ _ _ _ _ _ _ _ _ _ h p e s m args below meth c r0 A X)
        · rw [if_pos hc] at h
          refine ev_ldc2 (pc := 74) X kjX11_219 dX11_rate_74 ?_
          refine ev_goto (pc := 77) X 116 dX11_rate_77 rfl ?_
          exact ev_weak (pc := 116) [3, 4, 5, 2, 1, 0] rfl (sX11_rate_116 _ _ _ _ _ _ _ _ _ _ _ h p e s m args below meth c r0 A X)
      · rw [if_pos hc] at h
        refine ev_lconst (pc := 65) (v := (1 : Int64)) X dX11_rate_65 rfl ?_
        refine ev_goto (pc := 66) X 116 dX11_rate_66 rfl ?_
        exact ev_weak (pc := 116) [3, 4, 5, 2, 1, 0] rfl (sX11_rate_116 _ _ _ _ _ _ _ _ _ _ _ h p e s m args below meth c r0 A X)
    · rw [if_pos hc] at h
      refine ev_ldc (pc := 22) X kkX11_214 dX11_rate_22 ?_
      obtain rfl := Option.some.inj h
      exact ev_iret (pc := 24) X dX11_rate_24
def fX11_rate (a0 : Nat) (a1 : Int32) (a2 : Int32) (w : eW) : Option (Int32 × eW) := bif eO w a0 11 then fX11_rate_0 a0 a1 a2 w else none
theorem mX11_rate {a0 : Nat} {a1 : Int32} {a2 : Int32} {w : eW} {v : Int32} {w' : eW} (h : fX11_rate a0 a1 a2 w = some (v, w')) : eO w a0 11 = true ∧ eMN l D cI cZ 4 yX11_rate cX11_rate 6 (some .int) [.ref a0, .int a1, .int a2] w (some (.int v)) w' := by
  obtain ⟨h0, h⟩ := eBif h
  exact ⟨h0, eMN_of [(0, .ref a0), (1, .int a1), (2, .int a2)] (plainFor_of_name (by decide)) (fun _ => rfl) (fun _ => Nat.le_of_ble_eq_true rfl) (fun p e s m args below meth c r0 A X => ev_weak (pc := 0) [0, 1, 2] rfl (sX11_rate_0 _ _ _ _ _ h p e s m args below meth c r0 A X))⟩
theorem dX11_keep_0 : decode cX11_keep 0 = .ok (.aload_n 0, 1) := by decide +kernel
theorem dX11_keep_1 : decode cX11_keep 1 = .ok (.iconst 0, 1) := by decide +kernel
theorem dX11_keep_2 : decode cX11_keep 2 = .ok (.putfield 50, 3) := by decide +kernel
theorem dX11_keep_5 : decode cX11_keep 5 = .ok (.iload_n 1, 1) := by decide +kernel
theorem dX11_keep_6 : decode cX11_keep 6 = .ok (.iconst 0, 1) := by decide +kernel
theorem dX11_keep_7 : decode cX11_keep 7 = .ok (.iconst 1, 1) := by decide +kernel
theorem dX11_keep_8 : decode cX11_keep 8 = .ok (.invokestatic 54, 3) := by decide +kernel
theorem dX11_keep_11 : decode cX11_keep 11 = .ok (.ifCond .ne 5, 3) := by decide +kernel
theorem dX11_keep_14 : decode cX11_keep 14 = .ok (.iconst (-1), 1) := by decide +kernel
theorem dX11_keep_15 : decode cX11_keep 15 = .ok (.ireturn, 1) := by decide +kernel
theorem dX11_keep_16 : decode cX11_keep 16 = .ok (.iconst 0, 1) := by decide +kernel
theorem dX11_keep_17 : decode cX11_keep 17 = .ok (.istore_n 2, 1) := by decide +kernel
theorem dX11_keep_18 : decode cX11_keep 18 = .ok (.iload_n 2, 1) := by decide +kernel
theorem dX11_keep_19 : decode cX11_keep 19 = .ok (.bipush 57, 2) := by decide +kernel
theorem dX11_keep_21 : decode cX11_keep 21 = .ok (.if_icmp .ge 26, 3) := by decide +kernel
theorem dX11_keep_24 : decode cX11_keep 24 = .ok (.aload_n 0, 1) := by decide +kernel
theorem dX11_keep_25 : decode cX11_keep 25 = .ok (.getfield 28, 3) := by decide +kernel
theorem dX11_keep_28 : decode cX11_keep 28 = .ok (.bipush 57, 2) := by decide +kernel
theorem dX11_keep_30 : decode cX11_keep 30 = .ok (.iload_n 1, 1) := by decide +kernel
theorem dX11_keep_31 : decode cX11_keep 31 = .ok (.imul, 1) := by decide +kernel
theorem dX11_keep_32 : decode cX11_keep 32 = .ok (.iload_n 2, 1) := by decide +kernel
theorem dX11_keep_33 : decode cX11_keep 33 = .ok (.iadd, 1) := by decide +kernel
theorem dX11_keep_34 : decode cX11_keep 34 = .ok (.aload_n 0, 1) := by decide +kernel
theorem dX11_keep_35 : decode cX11_keep 35 = .ok (.getfield 22, 3) := by decide +kernel
theorem dX11_keep_38 : decode cX11_keep 38 = .ok (.iload_n 2, 1) := by decide +kernel
theorem dX11_keep_39 : decode cX11_keep 39 = .ok (.iaload, 1) := by decide +kernel
theorem dX11_keep_40 : decode cX11_keep 40 = .ok (.iastore, 1) := by decide +kernel
theorem dX11_keep_41 : decode cX11_keep 41 = .ok (.iinc 2 1, 3) := by decide +kernel
theorem dX11_keep_44 : decode cX11_keep 44 = .ok (.goto (-26), 3) := by decide +kernel
theorem dX11_keep_47 : decode cX11_keep 47 = .ok (.aload_n 0, 1) := by decide +kernel
theorem dX11_keep_48 : decode cX11_keep 48 = .ok (.getfield 31, 3) := by decide +kernel
theorem dX11_keep_51 : decode cX11_keep 51 = .ok (.iload_n 1, 1) := by decide +kernel
theorem dX11_keep_52 : decode cX11_keep 52 = .ok (.iconst 1, 1) := by decide +kernel
theorem dX11_keep_53 : decode cX11_keep 53 = .ok (.bastore, 1) := by decide +kernel
theorem dX11_keep_54 : decode cX11_keep 54 = .ok (.aload_n 0, 1) := by decide +kernel
theorem dX11_keep_55 : decode cX11_keep 55 = .ok (.getfield 22, 3) := by decide +kernel
theorem dX11_keep_58 : decode cX11_keep 58 = .ok (.iconst 0, 1) := by decide +kernel
theorem dX11_keep_59 : decode cX11_keep 59 = .ok (.iaload, 1) := by decide +kernel
theorem dX11_keep_60 : decode cX11_keep 60 = .ok (.ireturn, 1) := by decide +kernel
def fX11_keep_18 : Nat → Nat → Int32 → Int32 → eW → Option (Int32 × eW)
  | 0, _, _, _, _ => none
  | n + 1, x0, x1, x2, w => if (57 : Int32) ≤ x2 then ((eGR w x0 11 16).bind fun v1 => (eSt w true v1 x1 (1 : Int32)).bind fun w2 => (eGR w2 x0 11 13).bind fun v3 => (eLd w2 false v3 (0 : Int32)).bind fun v4 => some (v4, w2)) else ((eGR w x0 11 15).bind fun v5 => (eGR w x0 11 13).bind fun v6 => (eLd w false v6 x2).bind fun v7 => (eSt w false v5 (((57 : Int32) * x1) + x2) v7).bind fun w8 => fX11_keep_18 n x0 x1 (x2 + (1 : Int32)) w8)
set_option maxRecDepth 20000 in
theorem sX11_keep_18  : ∀ (n : Nat) (x0 : Nat) (x1 : Int32) (x2 : Int32) (w : eW) (r : Int32 × eW), fX11_keep_18 n x0 x1 x2 w = some r → eBN l D cI cZ 1 yX11_keep cX11_keep 3 (some .int) 18 [(0, .ref x0), (1, .int x1), (2, .int x2)] [] w (some (.int r.1)) r.2 := by
  intro n
  induction n with
  | zero => intro x0 x1 x2 w r h; exact absurd (show (none : Option (Int32 × eW)) = some r from h) (by simp)
  | succ n ih =>
    intro x0 x1 x2 w r h
    rw [fX11_keep_18] at h
    intro p e s m args below meth c r0 A X
    refine ev_iload_n (pc := 18) X 2 dX11_keep_18 rfl rfl ?_
    refine ev_bipush (pc := 19) (v := (57 : Int32)) X dX11_keep_19 rfl ?_
    refine ev_icmp_ge (pc := 21) X 47 dX11_keep_21 rfl (fun hc => ?_) (fun hc => ?_)
    · rw [if_pos hc] at h
      refine ev_aload_n (pc := 47) X 0 dX11_keep_47 rfl rfl ?_
      obtain ⟨v1, hv1, h⟩ := eBi h
      refine ev_getR (pc := 48) X hcX11 (k := 16) (by decide) kfX11_31 dX11_keep_48 hv1 ?_
      refine ev_iload_n (pc := 51) X 1 dX11_keep_51 rfl rfl ?_
      refine ev_iconst (pc := 52) (v := (1 : Int32)) X dX11_keep_52 rfl ?_
      obtain ⟨w2, hw2, h⟩ := eBi h
      refine ev_zast (pc := 53) X dX11_keep_53 hw2 ?_
      refine ev_aload_n (pc := 54) X 0 dX11_keep_54 rfl rfl ?_
      obtain ⟨v3, hv3, h⟩ := eBi h
      refine ev_getR (pc := 55) X hcX11 (k := 13) (by decide) kfX11_22 dX11_keep_55 hv3 ?_
      refine ev_iconst (pc := 58) (v := (0 : Int32)) X dX11_keep_58 rfl ?_
      obtain ⟨v4, hv4, h⟩ := eBi h
      refine ev_iald (pc := 59) X dX11_keep_59 hv4 ?_
      obtain rfl := Option.some.inj h
      exact ev_iret (pc := 60) X dX11_keep_60
    · rw [if_neg hc] at h
      refine ev_aload_n (pc := 24) X 0 dX11_keep_24 rfl rfl ?_
      obtain ⟨v5, hv5, h⟩ := eBi h
      refine ev_getR (pc := 25) X hcX11 (k := 15) (by decide) kfX11_28 dX11_keep_25 hv5 ?_
      refine ev_bipush (pc := 28) (v := (57 : Int32)) X dX11_keep_28 rfl ?_
      refine ev_iload_n (pc := 30) X 1 dX11_keep_30 rfl rfl ?_
      refine ev_imul (pc := 31) X dX11_keep_31 ?_
      refine ev_iload_n (pc := 32) X 2 dX11_keep_32 rfl rfl ?_
      refine ev_iadd (pc := 33) X dX11_keep_33 ?_
      refine ev_aload_n (pc := 34) X 0 dX11_keep_34 rfl rfl ?_
      obtain ⟨v6, hv6, h⟩ := eBi h
      refine ev_getR (pc := 35) X hcX11 (k := 13) (by decide) kfX11_22 dX11_keep_35 hv6 ?_
      refine ev_iload_n (pc := 38) X 2 dX11_keep_38 rfl rfl ?_
      obtain ⟨v7, hv7, h⟩ := eBi h
      refine ev_iald (pc := 39) X dX11_keep_39 hv7 ?_
      obtain ⟨w8, hw8, h⟩ := eBi h
      refine ev_iast (pc := 40) X dX11_keep_40 hw8 ?_
      refine ev_iinc (pc := 41) (v := x2 + (1 : Int32)) (L' := [(2, .int (x2 + (1 : Int32))), (0, .ref x0), (1, .int x1)]) X 2 dX11_keep_41 rfl rfl (by decide) rfl ?_
      refine ev_goto (pc := 44) X 18 dX11_keep_44 rfl ?_
      exact ev_weak (pc := 18) [1, 2, 0] rfl (ih _ _ _ _ _ h p e s m args below meth c r0 A X)
def fX11_keep_0 (x0 : Nat) (x1 : Int32) (w : eW) : Option (Int32 × eW) := (eP w x0 11 0 (.int (0 : Int32))).bind fun w1 => eBind2 (fX11_in x1 (0 : Int32) (1 : Int32) w1) fun v3 w2 => if v3 = 0 then (some ((-1 : Int32), w2)) else (fX11_keep_18 eN x0 x1 (0 : Int32) w2)
set_option maxRecDepth 20000 in
theorem sX11_keep_0  (x0 : Nat) (x1 : Int32) (w : eW) (r : Int32 × eW) (h : fX11_keep_0 x0 x1 w = some r) : eBN l D cI cZ 1 yX11_keep cX11_keep 3 (some .int) 0 [(0, .ref x0), (1, .int x1)] [] w (some (.int r.1)) r.2 := by
  rw [fX11_keep_0] at h
  intro p e s m args below meth c r0 A X
  refine ev_aload_n (pc := 0) X 0 dX11_keep_0 rfl rfl ?_
  refine ev_iconst (pc := 1) (v := (0 : Int32)) X dX11_keep_1 rfl ?_
  obtain ⟨w1, hw1, h⟩ := eBi h
  refine ev_putI (pc := 2) X hcX11 (k := 0) (by decide) kfX11_50 rfl rfl dX11_keep_2 hw1 ?_
  refine ev_iload_n (pc := 5) X 1 dX11_keep_5 rfl rfl ?_
  refine ev_iconst (pc := 6) (v := (0 : Int32)) X dX11_keep_6 rfl ?_
  refine ev_iconst (pc := 7) (v := (1 : Int32)) X dX11_keep_7 rfl ?_
  obtain ⟨v3, w2, hc, h⟩ := eB2 h
  refine ev_callS_i (pc := 8) (As := [.int x1, .int (0 : Int32), .int (1 : Int32)]) (S := []) X hwX11_in klX11_54 htX11_in ⟨Nat.le_of_ble_eq_true rfl, Nat.le_of_ble_eq_true rfl⟩ ⟨Nat.le_refl _, Nat.le_refl _⟩ rfl (Nat.le_of_ble_eq_true rfl) dX11_keep_8 rfl (mX11_in hc) ?_
  refine ev_if_ne (pc := 11) X 16 dX11_keep_11 rfl (fun hc => ?_) (fun hc => ?_)
  · rw [if_neg hc] at h
    refine ev_iconst (pc := 16) (v := (0 : Int32)) X dX11_keep_16 rfl ?_
    refine ev_istore_n (pc := 17) (L' := [(2, .int (0 : Int32)), (0, .ref x0), (1, .int x1)]) X dX11_keep_17 rfl (by decide) rfl ?_
    exact ev_weak (pc := 18) [1, 2, 0] rfl (sX11_keep_18 eN _ _ _ _ _ h p e s m args below meth c r0 A X)
  · rw [if_pos hc] at h
    refine ev_iconst (pc := 14) (v := (-1 : Int32)) X dX11_keep_14 rfl ?_
    obtain rfl := Option.some.inj h
    exact ev_iret (pc := 15) X dX11_keep_15
def fX11_keep (a0 : Nat) (a1 : Int32) (w : eW) : Option (Int32 × eW) := bif eO w a0 11 then fX11_keep_0 a0 a1 w else none
theorem mX11_keep {a0 : Nat} {a1 : Int32} {w : eW} {v : Int32} {w' : eW} (h : fX11_keep a0 a1 w = some (v, w')) : eO w a0 11 = true ∧ eMN l D cI cZ 1 yX11_keep cX11_keep 3 (some .int) [.ref a0, .int a1] w (some (.int v)) w' := by
  obtain ⟨h0, h⟩ := eBif h
  exact ⟨h0, eMN_of [(0, .ref a0), (1, .int a1)] (plainFor_of_name (by decide)) (fun _ => rfl) (fun _ => Nat.le_of_ble_eq_true rfl) (fun p e s m args below meth c r0 A X => ev_weak (pc := 0) [0, 1] rfl (sX11_keep_0 _ _ _ _ h p e s m args below meth c r0 A X))⟩
theorem dX11_back_0 : decode cX11_back 0 = .ok (.aload_n 0, 1) := by decide +kernel
theorem dX11_back_1 : decode cX11_back 1 = .ok (.iconst 0, 1) := by decide +kernel
theorem dX11_back_2 : decode cX11_back 2 = .ok (.putfield 50, 3) := by decide +kernel
theorem dX11_back_5 : decode cX11_back 5 = .ok (.iload_n 1, 1) := by decide +kernel
theorem dX11_back_6 : decode cX11_back 6 = .ok (.iconst 0, 1) := by decide +kernel
theorem dX11_back_7 : decode cX11_back 7 = .ok (.iconst 1, 1) := by decide +kernel
theorem dX11_back_8 : decode cX11_back 8 = .ok (.invokestatic 54, 3) := by decide +kernel
theorem dX11_back_11 : decode cX11_back 11 = .ok (.ifCond .ne 5, 3) := by decide +kernel
theorem dX11_back_14 : decode cX11_back 14 = .ok (.iconst (-1), 1) := by decide +kernel
theorem dX11_back_15 : decode cX11_back 15 = .ok (.ireturn, 1) := by decide +kernel
theorem dX11_back_16 : decode cX11_back 16 = .ok (.aload_n 0, 1) := by decide +kernel
theorem dX11_back_17 : decode cX11_back 17 = .ok (.getfield 31, 3) := by decide +kernel
theorem dX11_back_20 : decode cX11_back 20 = .ok (.iload_n 1, 1) := by decide +kernel
theorem dX11_back_21 : decode cX11_back 21 = .ok (.baload, 1) := by decide +kernel
theorem dX11_back_22 : decode cX11_back 22 = .ok (.ifCond .ne 6, 3) := by decide +kernel
theorem dX11_back_25 : decode cX11_back 25 = .ok (.bipush (-2), 2) := by decide +kernel
theorem dX11_back_27 : decode cX11_back 27 = .ok (.ireturn, 1) := by decide +kernel
theorem dX11_back_28 : decode cX11_back 28 = .ok (.iconst 0, 1) := by decide +kernel
theorem dX11_back_29 : decode cX11_back 29 = .ok (.istore_n 2, 1) := by decide +kernel
theorem dX11_back_30 : decode cX11_back 30 = .ok (.iload_n 2, 1) := by decide +kernel
theorem dX11_back_31 : decode cX11_back 31 = .ok (.bipush 57, 2) := by decide +kernel
theorem dX11_back_33 : decode cX11_back 33 = .ok (.if_icmp .ge 26, 3) := by decide +kernel
theorem dX11_back_36 : decode cX11_back 36 = .ok (.aload_n 0, 1) := by decide +kernel
theorem dX11_back_37 : decode cX11_back 37 = .ok (.getfield 22, 3) := by decide +kernel
theorem dX11_back_40 : decode cX11_back 40 = .ok (.iload_n 2, 1) := by decide +kernel
theorem dX11_back_41 : decode cX11_back 41 = .ok (.aload_n 0, 1) := by decide +kernel
theorem dX11_back_42 : decode cX11_back 42 = .ok (.getfield 28, 3) := by decide +kernel
theorem dX11_back_45 : decode cX11_back 45 = .ok (.bipush 57, 2) := by decide +kernel
theorem dX11_back_47 : decode cX11_back 47 = .ok (.iload_n 1, 1) := by decide +kernel
theorem dX11_back_48 : decode cX11_back 48 = .ok (.imul, 1) := by decide +kernel
theorem dX11_back_49 : decode cX11_back 49 = .ok (.iload_n 2, 1) := by decide +kernel
theorem dX11_back_50 : decode cX11_back 50 = .ok (.iadd, 1) := by decide +kernel
theorem dX11_back_51 : decode cX11_back 51 = .ok (.iaload, 1) := by decide +kernel
theorem dX11_back_52 : decode cX11_back 52 = .ok (.iastore, 1) := by decide +kernel
theorem dX11_back_53 : decode cX11_back 53 = .ok (.iinc 2 1, 3) := by decide +kernel
theorem dX11_back_56 : decode cX11_back 56 = .ok (.goto (-26), 3) := by decide +kernel
theorem dX11_back_59 : decode cX11_back 59 = .ok (.aload_n 0, 1) := by decide +kernel
theorem dX11_back_60 : decode cX11_back 60 = .ok (.iconst 0, 1) := by decide +kernel
theorem dX11_back_61 : decode cX11_back 61 = .ok (.putfield 113, 3) := by decide +kernel
theorem dX11_back_64 : decode cX11_back 64 = .ok (.aload_n 0, 1) := by decide +kernel
theorem dX11_back_65 : decode cX11_back 65 = .ok (.getfield 22, 3) := by decide +kernel
theorem dX11_back_68 : decode cX11_back 68 = .ok (.iconst 0, 1) := by decide +kernel
theorem dX11_back_69 : decode cX11_back 69 = .ok (.iaload, 1) := by decide +kernel
theorem dX11_back_70 : decode cX11_back 70 = .ok (.ireturn, 1) := by decide +kernel
def fX11_back_30 : Nat → Nat → Int32 → Int32 → eW → Option (Int32 × eW)
  | 0, _, _, _, _ => none
  | n + 1, x0, x1, x2, w => if (57 : Int32) ≤ x2 then ((eP w x0 11 18 (.int (0 : Int32))).bind fun w1 => (eGR w1 x0 11 13).bind fun v2 => (eLd w1 false v2 (0 : Int32)).bind fun v3 => some (v3, w1)) else ((eGR w x0 11 13).bind fun v4 => (eGR w x0 11 15).bind fun v5 => (eLd w false v5 (((57 : Int32) * x1) + x2)).bind fun v6 => (eSt w false v4 x2 v6).bind fun w7 => fX11_back_30 n x0 x1 (x2 + (1 : Int32)) w7)
set_option maxRecDepth 20000 in
theorem sX11_back_30  : ∀ (n : Nat) (x0 : Nat) (x1 : Int32) (x2 : Int32) (w : eW) (r : Int32 × eW), fX11_back_30 n x0 x1 x2 w = some r → eBN l D cI cZ 1 yX11_back cX11_back 3 (some .int) 30 [(0, .ref x0), (1, .int x1), (2, .int x2)] [] w (some (.int r.1)) r.2 := by
  intro n
  induction n with
  | zero => intro x0 x1 x2 w r h; exact absurd (show (none : Option (Int32 × eW)) = some r from h) (by simp)
  | succ n ih =>
    intro x0 x1 x2 w r h
    rw [fX11_back_30] at h
    intro p e s m args below meth c r0 A X
    refine ev_iload_n (pc := 30) X 2 dX11_back_30 rfl rfl ?_
    refine ev_bipush (pc := 31) (v := (57 : Int32)) X dX11_back_31 rfl ?_
    refine ev_icmp_ge (pc := 33) X 59 dX11_back_33 rfl (fun hc => ?_) (fun hc => ?_)
    · rw [if_pos hc] at h
      refine ev_aload_n (pc := 59) X 0 dX11_back_59 rfl rfl ?_
      refine ev_iconst (pc := 60) (v := (0 : Int32)) X dX11_back_60 rfl ?_
      obtain ⟨w1, hw1, h⟩ := eBi h
      refine ev_putI (pc := 61) X hcX11 (k := 18) (by decide) kfX11_113 rfl rfl dX11_back_61 hw1 ?_
      refine ev_aload_n (pc := 64) X 0 dX11_back_64 rfl rfl ?_
      obtain ⟨v2, hv2, h⟩ := eBi h
      refine ev_getR (pc := 65) X hcX11 (k := 13) (by decide) kfX11_22 dX11_back_65 hv2 ?_
      refine ev_iconst (pc := 68) (v := (0 : Int32)) X dX11_back_68 rfl ?_
      obtain ⟨v3, hv3, h⟩ := eBi h
      refine ev_iald (pc := 69) X dX11_back_69 hv3 ?_
      obtain rfl := Option.some.inj h
      exact ev_iret (pc := 70) X dX11_back_70
    · rw [if_neg hc] at h
      refine ev_aload_n (pc := 36) X 0 dX11_back_36 rfl rfl ?_
      obtain ⟨v4, hv4, h⟩ := eBi h
      refine ev_getR (pc := 37) X hcX11 (k := 13) (by decide) kfX11_22 dX11_back_37 hv4 ?_
      refine ev_iload_n (pc := 40) X 2 dX11_back_40 rfl rfl ?_
      refine ev_aload_n (pc := 41) X 0 dX11_back_41 rfl rfl ?_
      obtain ⟨v5, hv5, h⟩ := eBi h
      refine ev_getR (pc := 42) X hcX11 (k := 15) (by decide) kfX11_28 dX11_back_42 hv5 ?_
      refine ev_bipush (pc := 45) (v := (57 : Int32)) X dX11_back_45 rfl ?_
      refine ev_iload_n (pc := 47) X 1 dX11_back_47 rfl rfl ?_
      refine ev_imul (pc := 48) X dX11_back_48 ?_
      refine ev_iload_n (pc := 49) X 2 dX11_back_49 rfl rfl ?_
      refine ev_iadd (pc := 50) X dX11_back_50 ?_
      obtain ⟨v6, hv6, h⟩ := eBi h
      refine ev_iald (pc := 51) X dX11_back_51 hv6 ?_
      obtain ⟨w7, hw7, h⟩ := eBi h
      refine ev_iast (pc := 52) X dX11_back_52 hw7 ?_
      refine ev_iinc (pc := 53) (v := x2 + (1 : Int32)) (L' := [(2, .int (x2 + (1 : Int32))), (0, .ref x0), (1, .int x1)]) X 2 dX11_back_53 rfl rfl (by decide) rfl ?_
      refine ev_goto (pc := 56) X 30 dX11_back_56 rfl ?_
      exact ev_weak (pc := 30) [1, 2, 0] rfl (ih _ _ _ _ _ h p e s m args below meth c r0 A X)
def fX11_back_0 (x0 : Nat) (x1 : Int32) (w : eW) : Option (Int32 × eW) := (eP w x0 11 0 (.int (0 : Int32))).bind fun w1 => eBind2 (fX11_in x1 (0 : Int32) (1 : Int32) w1) fun v3 w2 => if v3 = 0 then (some ((-1 : Int32), w2)) else ((eGR w2 x0 11 16).bind fun v4 => (eLd w2 true v4 x1).bind fun v5 => if v5 = 0 then (some ((-2 : Int32), w2)) else (fX11_back_30 eN x0 x1 (0 : Int32) w2))
set_option maxRecDepth 20000 in
theorem sX11_back_0  (x0 : Nat) (x1 : Int32) (w : eW) (r : Int32 × eW) (h : fX11_back_0 x0 x1 w = some r) : eBN l D cI cZ 1 yX11_back cX11_back 3 (some .int) 0 [(0, .ref x0), (1, .int x1)] [] w (some (.int r.1)) r.2 := by
  rw [fX11_back_0] at h
  intro p e s m args below meth c r0 A X
  refine ev_aload_n (pc := 0) X 0 dX11_back_0 rfl rfl ?_
  refine ev_iconst (pc := 1) (v := (0 : Int32)) X dX11_back_1 rfl ?_
  obtain ⟨w1, hw1, h⟩ := eBi h
  refine ev_putI (pc := 2) X hcX11 (k := 0) (by decide) kfX11_50 rfl rfl dX11_back_2 hw1 ?_
  refine ev_iload_n (pc := 5) X 1 dX11_back_5 rfl rfl ?_
  refine ev_iconst (pc := 6) (v := (0 : Int32)) X dX11_back_6 rfl ?_
  refine ev_iconst (pc := 7) (v := (1 : Int32)) X dX11_back_7 rfl ?_
  obtain ⟨v3, w2, hc, h⟩ := eB2 h
  refine ev_callS_i (pc := 8) (As := [.int x1, .int (0 : Int32), .int (1 : Int32)]) (S := []) X hwX11_in klX11_54 htX11_in ⟨Nat.le_of_ble_eq_true rfl, Nat.le_of_ble_eq_true rfl⟩ ⟨Nat.le_refl _, Nat.le_refl _⟩ rfl (Nat.le_of_ble_eq_true rfl) dX11_back_8 rfl (mX11_in hc) ?_
  refine ev_if_ne (pc := 11) X 16 dX11_back_11 rfl (fun hc => ?_) (fun hc => ?_)
  · rw [if_neg hc] at h
    refine ev_aload_n (pc := 16) X 0 dX11_back_16 rfl rfl ?_
    obtain ⟨v4, hv4, h⟩ := eBi h
    refine ev_getR (pc := 17) X hcX11 (k := 16) (by decide) kfX11_31 dX11_back_17 hv4 ?_
    refine ev_iload_n (pc := 20) X 1 dX11_back_20 rfl rfl ?_
    obtain ⟨v5, hv5, h⟩ := eBi h
    refine ev_zald (pc := 21) X dX11_back_21 hv5 ?_
    refine ev_if_ne (pc := 22) X 28 dX11_back_22 rfl (fun hc => ?_) (fun hc => ?_)
    · rw [if_neg hc] at h
      refine ev_iconst (pc := 28) (v := (0 : Int32)) X dX11_back_28 rfl ?_
      refine ev_istore_n (pc := 29) (L' := [(2, .int (0 : Int32)), (0, .ref x0), (1, .int x1)]) X dX11_back_29 rfl (by decide) rfl ?_
      exact ev_weak (pc := 30) [1, 2, 0] rfl (sX11_back_30 eN _ _ _ _ _ h p e s m args below meth c r0 A X)
    · rw [if_pos hc] at h
      refine ev_bipush (pc := 25) (v := (-2 : Int32)) X dX11_back_25 rfl ?_
      obtain rfl := Option.some.inj h
      exact ev_iret (pc := 27) X dX11_back_27
  · rw [if_pos hc] at h
    refine ev_iconst (pc := 14) (v := (-1 : Int32)) X dX11_back_14 rfl ?_
    obtain rfl := Option.some.inj h
    exact ev_iret (pc := 15) X dX11_back_15
def fX11_back (a0 : Nat) (a1 : Int32) (w : eW) : Option (Int32 × eW) := bif eO w a0 11 then fX11_back_0 a0 a1 w else none
theorem mX11_back {a0 : Nat} {a1 : Int32} {w : eW} {v : Int32} {w' : eW} (h : fX11_back a0 a1 w = some (v, w')) : eO w a0 11 = true ∧ eMN l D cI cZ 1 yX11_back cX11_back 3 (some .int) [.ref a0, .int a1] w (some (.int v)) w' := by
  obtain ⟨h0, h⟩ := eBif h
  exact ⟨h0, eMN_of [(0, .ref a0), (1, .int a1)] (plainFor_of_name (by decide)) (fun _ => rfl) (fun _ => Nat.le_of_ble_eq_true rfl) (fun p e s m args below meth c r0 A X => ev_weak (pc := 0) [0, 1] rfl (sX11_back_0 _ _ _ _ h p e s m args below meth c r0 A X))⟩
theorem dX11_count_0 : decode cX11_count 0 = .ok (.aload_n 0, 1) := by decide +kernel
theorem dX11_count_1 : decode cX11_count 1 = .ok (.iconst 0, 1) := by decide +kernel
theorem dX11_count_2 : decode cX11_count 2 = .ok (.putfield 50, 3) := by decide +kernel
theorem dX11_count_5 : decode cX11_count 5 = .ok (.iload_n 1, 1) := by decide +kernel
theorem dX11_count_6 : decode cX11_count 6 = .ok (.iconst 0, 1) := by decide +kernel
theorem dX11_count_7 : decode cX11_count 7 = .ok (.iconst 3, 1) := by decide +kernel
theorem dX11_count_8 : decode cX11_count 8 = .ok (.invokestatic 54, 3) := by decide +kernel
theorem dX11_count_11 : decode cX11_count 11 = .ok (.ifCond .eq 12, 3) := by decide +kernel
theorem dX11_count_14 : decode cX11_count 14 = .ok (.aload_n 0, 1) := by decide +kernel
theorem dX11_count_15 : decode cX11_count 15 = .ok (.getfield 13, 3) := by decide +kernel
theorem dX11_count_18 : decode cX11_count 18 = .ok (.iload_n 1, 1) := by decide +kernel
theorem dX11_count_19 : decode cX11_count 19 = .ok (.iaload, 1) := by decide +kernel
theorem dX11_count_20 : decode cX11_count 20 = .ok (.goto 16, 3) := by decide +kernel
theorem dX11_count_23 : decode cX11_count 23 = .ok (.iload_n 1, 1) := by decide +kernel
theorem dX11_count_24 : decode cX11_count 24 = .ok (.iconst 4, 1) := by decide +kernel
theorem dX11_count_25 : decode cX11_count 25 = .ok (.if_icmp .ne 10, 3) := by decide +kernel
theorem dX11_count_28 : decode cX11_count 28 = .ok (.aload_n 0, 1) := by decide +kernel
theorem dX11_count_29 : decode cX11_count 29 = .ok (.getfield 58, 3) := by decide +kernel
theorem dX11_count_32 : decode cX11_count 32 = .ok (.goto 4, 3) := by decide +kernel
theorem dX11_count_35 : decode cX11_count 35 = .ok (.iconst (-1), 1) := by decide +kernel
theorem dX11_count_36 : decode cX11_count 36 = .ok (.ireturn, 1) := by decide +kernel
def fX11_count_0 (x0 : Nat) (x1 : Int32) (w : eW) : Option (Int32 × eW) := (eP w x0 11 0 (.int (0 : Int32))).bind fun w1 => eBind2 (fX11_in x1 (0 : Int32) (3 : Int32) w1) fun v3 w2 => if v3 = 0 then (if x1 = (4 : Int32) then ((eGI w2 x0 11 3).bind fun v4 => some (v4, w2)) else (some ((-1 : Int32), w2))) else ((eGR w2 x0 11 9).bind fun v5 => (eLd w2 false v5 x1).bind fun v6 => some (v6, w2))
set_option maxRecDepth 20000 in
theorem sX11_count_0  (x0 : Nat) (x1 : Int32) (w : eW) (r : Int32 × eW) (h : fX11_count_0 x0 x1 w = some r) : eBN l D cI cZ 1 yX11_count cX11_count 2 (some .int) 0 [(0, .ref x0), (1, .int x1)] [] w (some (.int r.1)) r.2 := by
  rw [fX11_count_0] at h
  intro p e s m args below meth c r0 A X
  refine ev_aload_n (pc := 0) X 0 dX11_count_0 rfl rfl ?_
  refine ev_iconst (pc := 1) (v := (0 : Int32)) X dX11_count_1 rfl ?_
  obtain ⟨w1, hw1, h⟩ := eBi h
  refine ev_putI (pc := 2) X hcX11 (k := 0) (by decide) kfX11_50 rfl rfl dX11_count_2 hw1 ?_
  refine ev_iload_n (pc := 5) X 1 dX11_count_5 rfl rfl ?_
  refine ev_iconst (pc := 6) (v := (0 : Int32)) X dX11_count_6 rfl ?_
  refine ev_iconst (pc := 7) (v := (3 : Int32)) X dX11_count_7 rfl ?_
  obtain ⟨v3, w2, hc, h⟩ := eB2 h
  refine ev_callS_i (pc := 8) (As := [.int x1, .int (0 : Int32), .int (3 : Int32)]) (S := []) X hwX11_in klX11_54 htX11_in ⟨Nat.le_of_ble_eq_true rfl, Nat.le_of_ble_eq_true rfl⟩ ⟨Nat.le_refl _, Nat.le_refl _⟩ rfl (Nat.le_of_ble_eq_true rfl) dX11_count_8 rfl (mX11_in hc) ?_
  refine ev_if_eq (pc := 11) X 23 dX11_count_11 rfl (fun hc => ?_) (fun hc => ?_)
  · rw [if_pos hc] at h
    refine ev_iload_n (pc := 23) X 1 dX11_count_23 rfl rfl ?_
    refine ev_iconst (pc := 24) (v := (4 : Int32)) X dX11_count_24 rfl ?_
    refine ev_icmp_ne (pc := 25) X 35 dX11_count_25 rfl (fun hc => ?_) (fun hc => ?_)
    · rw [if_neg hc] at h
      refine ev_iconst (pc := 35) (v := (-1 : Int32)) X dX11_count_35 rfl ?_
      obtain rfl := Option.some.inj h
      exact ev_iret (pc := 36) X dX11_count_36
    · rw [if_pos hc] at h
      refine ev_aload_n (pc := 28) X 0 dX11_count_28 rfl rfl ?_
      obtain ⟨v4, hv4, h⟩ := eBi h
      refine ev_getI (pc := 29) X hcX11 (k := 3) (by decide) kfX11_58 dX11_count_29 hv4 ?_
      refine ev_goto (pc := 32) X 36 dX11_count_32 rfl ?_
      obtain rfl := Option.some.inj h
      exact ev_iret (pc := 36) X dX11_count_36
  · rw [if_neg hc] at h
    refine ev_aload_n (pc := 14) X 0 dX11_count_14 rfl rfl ?_
    obtain ⟨v5, hv5, h⟩ := eBi h
    refine ev_getR (pc := 15) X hcX11 (k := 9) (by decide) kfX11_13 dX11_count_15 hv5 ?_
    refine ev_iload_n (pc := 18) X 1 dX11_count_18 rfl rfl ?_
    obtain ⟨v6, hv6, h⟩ := eBi h
    refine ev_iald (pc := 19) X dX11_count_19 hv6 ?_
    refine ev_goto (pc := 20) X 36 dX11_count_20 rfl ?_
    obtain rfl := Option.some.inj h
    exact ev_iret (pc := 36) X dX11_count_36
def fX11_count (a0 : Nat) (a1 : Int32) (w : eW) : Option (Int32 × eW) := bif eO w a0 11 then fX11_count_0 a0 a1 w else none
theorem mX11_count {a0 : Nat} {a1 : Int32} {w : eW} {v : Int32} {w' : eW} (h : fX11_count a0 a1 w = some (v, w')) : eO w a0 11 = true ∧ eMN l D cI cZ 1 yX11_count cX11_count 2 (some .int) [.ref a0, .int a1] w (some (.int v)) w' := by
  obtain ⟨h0, h⟩ := eBif h
  exact ⟨h0, eMN_of [(0, .ref a0), (1, .int a1)] (plainFor_of_name (by decide)) (fun _ => rfl) (fun _ => Nat.le_of_ble_eq_true rfl) (fun p e s m args below meth c r0 A X => ev_weak (pc := 0) [0, 1] rfl (sX11_count_0 _ _ _ _ h p e s m args below meth c r0 A X))⟩
theorem dX11_trace_0 : decode cX11_trace 0 = .ok (.aload_n 0, 1) := by decide +kernel
theorem dX11_trace_1 : decode cX11_trace 1 = .ok (.iconst 0, 1) := by decide +kernel
theorem dX11_trace_2 : decode cX11_trace 2 = .ok (.putfield 50, 3) := by decide +kernel
theorem dX11_trace_5 : decode cX11_trace 5 = .ok (.aload_n 0, 1) := by decide +kernel
theorem dX11_trace_6 : decode cX11_trace 6 = .ok (.getfield 215, 3) := by decide +kernel
theorem dX11_trace_9 : decode cX11_trace 9 = .ok (.lreturn, 1) := by decide +kernel
def fX11_trace_0 (x0 : Nat) (w : eW) : Option (Int64 × eW) := (eP w x0 11 0 (.int (0 : Int32))).bind fun w1 => (eGL w1 x0 11 1).bind fun v2 => some (v2, w1)
set_option maxRecDepth 20000 in
theorem sX11_trace_0  (x0 : Nat) (w : eW) (r : Int64 × eW) (h : fX11_trace_0 x0 w = some r) : eBN l D cI cZ 0 yX11_trace cX11_trace 1 (some .long) 0 [(0, .ref x0)] [] w (some (.long r.1)) r.2 := by
  rw [fX11_trace_0] at h
  intro p e s m args below meth c r0 A X
  refine ev_aload_n (pc := 0) X 0 dX11_trace_0 rfl rfl ?_
  refine ev_iconst (pc := 1) (v := (0 : Int32)) X dX11_trace_1 rfl ?_
  obtain ⟨w1, hw1, h⟩ := eBi h
  refine ev_putI (pc := 2) X hcX11 (k := 0) (by decide) kfX11_50 rfl rfl dX11_trace_2 hw1 ?_
  refine ev_aload_n (pc := 5) X 0 dX11_trace_5 rfl rfl ?_
  obtain ⟨v2, hv2, h⟩ := eBi h
  refine ev_getL (pc := 6) X hcX11 (k := 1) (by decide) kfX11_215 dX11_trace_6 hv2 ?_
  obtain rfl := Option.some.inj h
  exact ev_lret (pc := 9) X dX11_trace_9
def fX11_trace (a0 : Nat) (w : eW) : Option (Int64 × eW) := bif eO w a0 11 then fX11_trace_0 a0 w else none
theorem mX11_trace {a0 : Nat} {w : eW} {v : Int64} {w' : eW} (h : fX11_trace a0 w = some (v, w')) : eO w a0 11 = true ∧ eMN l D cI cZ 0 yX11_trace cX11_trace 1 (some .long) [.ref a0] w (some (.long v)) w' := by
  obtain ⟨h0, h⟩ := eBif h
  exact ⟨h0, eMN_of [(0, .ref a0)] (plainFor_of_name (by decide)) (fun _ => rfl) (fun _ => Nat.le_of_ble_eq_true rfl) (fun p e s m args below meth c r0 A X => ev_weak (pc := 0) [0] rfl (sX11_trace_0 _ _ _ h p e s m args below meth c r0 A X))⟩
end GEN
