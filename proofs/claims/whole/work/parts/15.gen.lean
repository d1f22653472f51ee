section GEN
variable {l : Launch} {D : va_G} {cI cZ : ClassId}
theorem dX11_firstOf_0 : decode cX11_firstOf 0 = .ok (.aload_n 0, 1) := by decide +kernel
theorem dX11_firstOf_1 : decode cX11_firstOf 1 = .ok (.iconst 1, 1) := by decide +kernel
theorem dX11_firstOf_2 : decode cX11_firstOf 2 = .ok (.bipush 14, 2) := by decide +kernel
theorem dX11_firstOf_4 : decode cX11_firstOf 4 = .ok (.iload_n 1, 1) := by decide +kernel
theorem dX11_firstOf_5 : decode cX11_firstOf 5 = .ok (.imul, 1) := by decide +kernel
theorem dX11_firstOf_6 : decode cX11_firstOf 6 = .ok (.iadd, 1) := by decide +kernel
theorem dX11_firstOf_7 : decode cX11_firstOf 7 = .ok (.iaload, 1) := by decide +kernel
theorem dX11_firstOf_8 : decode cX11_firstOf 8 = .ok (.ireturn, 1) := by decide +kernel
def fX11_firstOf_0 (x0 : Nat) (x1 : Int32) (w : eW) : Option (Int32 × eW) := (eLd w false x0 ((1 : Int32) + ((14 : Int32) * x1))).bind fun v1 => some (v1, w)
set_option maxRecDepth 20000 in
theorem sX11_firstOf_0  (x0 : Nat) (x1 : Int32) (w : eW) (r : Int32 × eW) (h : fX11_firstOf_0 x0 x1 w = some r) : eBN l D cI cZ 0 yX11_firstOf cX11_firstOf 2 (some .int) 0 [(0, .ref x0), (1, .int x1)] [] w (some (.int r.1)) r.2 := by
  rw [fX11_firstOf_0] at h
  intro p e s m args below meth c r0 A X
  refine ev_aload_n (pc := 0) X 0 dX11_firstOf_0 rfl rfl ?_
  refine ev_iconst (pc := 1) (v := (1 : Int32)) X dX11_firstOf_1 rfl ?_
  refine ev_bipush (pc := 2) (v := (14 : Int32)) X dX11_firstOf_2 rfl ?_
  refine ev_iload_n (pc := 4) X 1 dX11_firstOf_4 rfl rfl ?_
  refine ev_imul (pc := 5) X dX11_firstOf_5 ?_
  refine ev_iadd (pc := 6) X dX11_firstOf_6 ?_
  obtain ⟨v1, hv1, h⟩ := eBi h
  refine ev_iald (pc := 7) X dX11_firstOf_7 hv1 ?_
  obtain rfl := Option.some.inj h
  exact ev_iret (pc := 8) X dX11_firstOf_8
def fX11_firstOf (a0 : Nat) (a1 : Int32) (w : eW) : Option (Int32 × eW) := fX11_firstOf_0 a0 a1 w
theorem mX11_firstOf {a0 : Nat} {a1 : Int32} {w : eW} {v : Int32} {w' : eW} (h : fX11_firstOf a0 a1 w = some (v, w')) : eMN l D cI cZ 0 yX11_firstOf cX11_firstOf 2 (some .int) [.ref a0, .int a1] w (some (.int v)) w' :=
  eMN_of [(0, .ref a0), (1, .int a1)] (plainFor_of_name (by decide)) (fun _ => rfl) (fun _ => Nat.le_of_ble_eq_true rfl) (fun p e s m args below meth c r0 A X => ev_weak (pc := 0) [0, 1] rfl (sX11_firstOf_0 _ _ _ _ h p e s m args below meth c r0 A X))
theorem dX11_cardsOf_0 : decode cX11_cardsOf 0 = .ok (.aload_n 0, 1) := by decide +kernel
theorem dX11_cardsOf_1 : decode cX11_cardsOf 1 = .ok (.iconst 1, 1) := by decide +kernel
theorem dX11_cardsOf_2 : decode cX11_cardsOf 2 = .ok (.bipush 14, 2) := by decide +kernel
theorem dX11_cardsOf_4 : decode cX11_cardsOf 4 = .ok (.iload_n 1, 1) := by decide +kernel
theorem dX11_cardsOf_5 : decode cX11_cardsOf 5 = .ok (.imul, 1) := by decide +kernel
theorem dX11_cardsOf_6 : decode cX11_cardsOf 6 = .ok (.iadd, 1) := by decide +kernel
theorem dX11_cardsOf_7 : decode cX11_cardsOf 7 = .ok (.iconst 1, 1) := by decide +kernel
theorem dX11_cardsOf_8 : decode cX11_cardsOf 8 = .ok (.iadd, 1) := by decide +kernel
theorem dX11_cardsOf_9 : decode cX11_cardsOf 9 = .ok (.iaload, 1) := by decide +kernel
theorem dX11_cardsOf_10 : decode cX11_cardsOf 10 = .ok (.ireturn, 1) := by decide +kernel
def fX11_cardsOf_0 (x0 : Nat) (x1 : Int32) (w : eW) : Option (Int32 × eW) := (eLd w false x0 (((1 : Int32) + ((14 : Int32) * x1)) + (1 : Int32))).bind fun v1 => some (v1, w)
set_option maxRecDepth 20000 in
theorem sX11_cardsOf_0  (x0 : Nat) (x1 : Int32) (w : eW) (r : Int32 × eW) (h : fX11_cardsOf_0 x0 x1 w = some r) : eBN l D cI cZ 0 yX11_cardsOf cX11_cardsOf 2 (some .int) 0 [(0, .ref x0), (1, .int x1)] [] w (some (.int r.1)) r.2 := by
  rw [fX11_cardsOf_0] at h
  intro p e s m args below meth c r0 A X
  refine ev_aload_n (pc := 0) X 0 dX11_cardsOf_0 rfl rfl ?_
  refine ev_iconst (pc := 1) (v := (1 : Int32)) X dX11_cardsOf_1 rfl ?_
  refine ev_bipush (pc := 2) (v := (14 : Int32)) X dX11_cardsOf_2 rfl ?_
  refine ev_iload_n (pc := 4) X 1 dX11_cardsOf_4 rfl rfl ?_
  refine ev_imul (pc := 5) X dX11_cardsOf_5 ?_
  refine ev_iadd (pc := 6) X dX11_cardsOf_6 ?_
  refine ev_iconst (pc := 7) (v := (1 : Int32)) X dX11_cardsOf_7 rfl ?_
  refine ev_iadd (pc := 8) X dX11_cardsOf_8 ?_
  obtain ⟨v1, hv1, h⟩ := eBi h
  refine ev_iald (pc := 9) X dX11_cardsOf_9 hv1 ?_
  obtain rfl := Option.some.inj h
  exact ev_iret (pc := 10) X dX11_cardsOf_10
def fX11_cardsOf (a0 : Nat) (a1 : Int32) (w : eW) : Option (Int32 × eW) := fX11_cardsOf_0 a0 a1 w
theorem mX11_cardsOf {a0 : Nat} {a1 : Int32} {w : eW} {v : Int32} {w' : eW} (h : fX11_cardsOf a0 a1 w = some (v, w')) : eMN l D cI cZ 0 yX11_cardsOf cX11_cardsOf 2 (some .int) [.ref a0, .int a1] w (some (.int v)) w' :=
  eMN_of [(0, .ref a0), (1, .int a1)] (plainFor_of_name (by decide)) (fun _ => rfl) (fun _ => Nat.le_of_ble_eq_true rfl) (fun p e s m args below meth c r0 A X => ev_weak (pc := 0) [0, 1] rfl (sX11_cardsOf_0 _ _ _ _ h p e s m args below meth c r0 A X))
theorem dX11_cardAt_0 : decode cX11_cardAt 0 = .ok (.aload_n 0, 1) := by decide +kernel
theorem dX11_cardAt_1 : decode cX11_cardAt 1 = .ok (.iconst 1, 1) := by decide +kernel
theorem dX11_cardAt_2 : decode cX11_cardAt 2 = .ok (.bipush 14, 2) := by decide +kernel
theorem dX11_cardAt_4 : decode cX11_cardAt 4 = .ok (.iload_n 1, 1) := by decide +kernel
theorem dX11_cardAt_5 : decode cX11_cardAt 5 = .ok (.imul, 1) := by decide +kernel
theorem dX11_cardAt_6 : decode cX11_cardAt 6 = .ok (.iadd, 1) := by decide +kernel
theorem dX11_cardAt_7 : decode cX11_cardAt 7 = .ok (.iconst 2, 1) := by decide +kernel
theorem dX11_cardAt_8 : decode cX11_cardAt 8 = .ok (.iadd, 1) := by decide +kernel
theorem dX11_cardAt_9 : decode cX11_cardAt 9 = .ok (.iload_n 2, 1) := by decide +kernel
theorem dX11_cardAt_10 : decode cX11_cardAt 10 = .ok (.iadd, 1) := by decide +kernel
theorem dX11_cardAt_11 : decode cX11_cardAt 11 = .ok (.iaload, 1) := by decide +kernel
theorem dX11_cardAt_12 : decode cX11_cardAt 12 = .ok (.ireturn, 1) := by decide +kernel
def fX11_cardAt_0 (x0 : Nat) (x1 : Int32) (x2 : Int32) (w : eW) : Option (Int32 × eW) := (eLd w false x0 ((((1 : Int32) + ((14 : Int32) * x1)) + (2 : Int32)) + x2)).bind fun v1 => some (v1, w)
set_option maxRecDepth 20000 in
theorem sX11_cardAt_0  (x0 : Nat) (x1 : Int32) (x2 : Int32) (w : eW) (r : Int32 × eW) (h : fX11_cardAt_0 x0 x1 x2 w = some r) : eBN l D cI cZ 0 yX11_cardAt cX11_cardAt 3 (some .int) 0 [(0, .ref x0), (1, .int x1), (2, .int x2)] [] w (some (.int r.1)) r.2 := by
  rw [fX11_cardAt_0] at h
  intro p e s m args below meth c r0 A X
  refine ev_aload_n (pc := 0) X 0 dX11_cardAt_0 rfl rfl ?_
  refine ev_iconst (pc := 1) (v := (1 : Int32)) X dX11_cardAt_1 rfl ?_
  refine ev_bipush (pc := 2) (v := (14 : Int32)) X dX11_cardAt_2 rfl ?_
  refine ev_iload_n (pc := 4) X 1 dX11_cardAt_4 rfl rfl ?_
  refine ev_imul (pc := 5) X dX11_cardAt_5 ?_
  refine ev_iadd (pc := 6) X dX11_cardAt_6 ?_
  refine ev_iconst (pc := 7) (v := (2 : Int32)) X dX11_cardAt_7 rfl ?_
  refine ev_iadd (pc := 8) X dX11_cardAt_8 ?_
  refine ev_iload_n (pc := 9) X 2 dX11_cardAt_9 rfl rfl ?_
  refine ev_iadd (pc := 10) X dX11_cardAt_10 ?_
  obtain ⟨v1, hv1, h⟩ := eBi h
  refine ev_iald (pc := 11) X dX11_cardAt_11 hv1 ?_
  obtain rfl := Option.some.inj h
  exact ev_iret (pc := 12) X dX11_cardAt_12
def fX11_cardAt (a0 : Nat) (a1 : Int32) (a2 : Int32) (w : eW) : Option (Int32 × eW) := fX11_cardAt_0 a0 a1 a2 w
theorem mX11_cardAt {a0 : Nat} {a1 : Int32} {a2 : Int32} {w : eW} {v : Int32} {w' : eW} (h : fX11_cardAt a0 a1 a2 w = some (v, w')) : eMN l D cI cZ 0 yX11_cardAt cX11_cardAt 3 (some .int) [.ref a0, .int a1, .int a2] w (some (.int v)) w' :=
  eMN_of [(0, .ref a0), (1, .int a1), (2, .int a2)] (plainFor_of_name (by decide)) (fun _ => rfl) (fun _ => Nat.le_of_ble_eq_true rfl) (fun p e s m args below meth c r0 A X => ev_weak (pc := 0) [0, 1, 2] rfl (sX11_cardAt_0 _ _ _ _ _ h p e s m args below meth c r0 A X))
theorem dX11_behind_0 : decode cX11_behind 0 = .ok (.aload_n 1, 1) := by decide +kernel
theorem dX11_behind_1 : decode cX11_behind 1 = .ok (.iload_n 2, 1) := by decide +kernel
theorem dX11_behind_2 : decode cX11_behind 2 = .ok (.invokestatic 129, 3) := by decide +kernel
theorem dX11_behind_5 : decode cX11_behind 5 = .ok (.istore 4, 2) := by decide +kernel
theorem dX11_behind_7 : decode cX11_behind 7 = .ok (.iconst 0, 1) := by decide +kernel
theorem dX11_behind_8 : decode cX11_behind 8 = .ok (.istore 5, 2) := by decide +kernel
theorem dX11_behind_10 : decode cX11_behind 10 = .ok (.iload 5, 2) := by decide +kernel
theorem dX11_behind_12 : decode cX11_behind 12 = .ok (.iload_n 3, 1) := by decide +kernel
theorem dX11_behind_13 : decode cX11_behind 13 = .ok (.if_icmp .ge 24, 3) := by decide +kernel
theorem dX11_behind_16 : decode cX11_behind 16 = .ok (.aload_n 0, 1) := by decide +kernel
theorem dX11_behind_17 : decode cX11_behind 17 = .ok (.iload 4, 2) := by decide +kernel
theorem dX11_behind_19 : decode cX11_behind 19 = .ok (.aload_n 1, 1) := by decide +kernel
theorem dX11_behind_20 : decode cX11_behind 20 = .ok (.iload_n 2, 1) := by decide +kernel
theorem dX11_behind_21 : decode cX11_behind 21 = .ok (.iload 5, 2) := by decide +kernel
theorem dX11_behind_23 : decode cX11_behind 23 = .ok (.invokestatic 133, 3) := by decide +kernel
theorem dX11_behind_26 : decode cX11_behind 26 = .ok (.invokevirtual 123, 3) := by decide +kernel
theorem dX11_behind_29 : decode cX11_behind 29 = .ok (.istore 4, 2) := by decide +kernel
theorem dX11_behind_31 : decode cX11_behind 31 = .ok (.iinc 5 1, 3) := by decide +kernel
theorem dX11_behind_34 : decode cX11_behind 34 = .ok (.goto (-24), 3) := by decide +kernel
theorem dX11_behind_37 : decode cX11_behind 37 = .ok (.iload 4, 2) := by decide +kernel
theorem dX11_behind_39 : decode cX11_behind 39 = .ok (.ireturn, 1) := by decide +kernel
def fX11_behind_10 : Nat → Nat → Nat → Int32 → Int32 → Int32 → Int32 → eW → Option (Int32 × eW)
  | 0, _, _, _, _, _, _, _ => none
  | n + 1, x0, x1, x2, x3, x4, x5, w => if x3 ≤ x5 then (some (x4, w)) else (eBind2 (fX11_cardAt x1 x2 x5 w) fun v2 w1 => eBind2 (fX11_leads x0 x4 v2 w1) fun v4 w3 => fX11_behind_10 n x0 x1 x2 x3 v4 (x5 + (1 : Int32)) w3)
set_option maxRecDepth 20000 in
theorem sX11_behind_10  : ∀ (n : Nat) (x0 : Nat) (x1 : Nat) (x2 : Int32) (x3 : Int32) (x4 : Int32) (x5 : Int32) (w : eW) (r : Int32 × eW), fX11_behind_10 n x0 x1 x2 x3 x4 x5 w = some r → eBN l D cI cZ 2 yX11_behind cX11_behind 6 (some .int) 10 [(0, .ref x0), (1, .ref x1), (2, .int x2), (3, .int x3), (4, .int x4), (5, .int x5)] [] w (some (.int r.1)) r.2 := by
  intro n
  induction n with
  | zero => intro x0 x1 x2 x3 x4 x5 w r h; exact absurd (show (none : Option (Int32 × eW)) = some r from h) (by simp)
  | succ n ih =>
    intro x0 x1 x2 x3 x4 x5 w r h
    rw [fX11_behind_10] at h
    intro p e s m args below meth c r0 A X
    refine ev_iload (pc := 10) X 5 dX11_behind_10 rfl ?_
    refine ev_iload_n (pc := 12) X 3 dX11_behind_12 rfl rfl ?_
    refine ev_icmp_ge (pc := 13) X 37 dX11_behind_13 rfl (fun hc => ?_) (fun hc => ?_)
    · rw [if_pos hc] at h
      refine ev_iload (pc := 37) X 4 dX11_behind_37 rfl ?_
      obtain rfl := Option.some.inj h
      exact ev_iret (pc := 39) X dX11_behind_39
    · rw [if_neg hc] at h
      refine ev_aload_n (pc := 16) X 0 dX11_behind_16 rfl rfl ?_
      refine ev_iload (pc := 17) X 4 dX11_behind_17 rfl ?_
      refine ev_aload_n (pc := 19) X 1 dX11_behind_19 rfl rfl ?_
      refine ev_iload_n (pc := 20) X 2 dX11_behind_20 rfl rfl ?_
      refine ev_iload (pc := 21) X 5 dX11_behind_21 rfl ?_
      obtain ⟨v2, w1, hc, h⟩ := eB2 h
      refine ev_callS_i (pc := 23) (As := [.ref x1, .int x2, .int x5]) (S := [.int x4, .ref x0]) X hwX11_cardAt klX11_133 htX11_cardAt ⟨Nat.le_of_ble_eq_true rfl, Nat.le_of_ble_eq_true rfl⟩ ⟨Nat.le_refl _, Nat.le_refl _⟩ rfl (Nat.le_of_ble_eq_true rfl) dX11_behind_23 rfl (mX11_cardAt hc) ?_
      obtain ⟨v4, w3, hc, h⟩ := eB2 h
      refine ev_callV_i (pc := 26) (As := [.int x4, .int v2]) (S := []) X hwX11_leads klX11_123 hiX11_leads hsX11_leads (ci := 11) ⟨rfl, rfl⟩ ⟨Nat.le_of_ble_eq_true rfl, Nat.le_of_ble_eq_true rfl⟩ ⟨Nat.le_refl _, Nat.le_refl _⟩ rfl (Nat.le_of_ble_eq_true rfl) dX11_behind_26 rfl (mX11_leads (l := l) (D := D) (cI := cI) (cZ := cZ) hc).1 (mX11_leads hc).2 ?_
      refine ev_istore (pc := 29) (L' := [(4, .int v4), (0, .ref x0), (1, .ref x1), (2, .int x2), (3, .int x3), (5, .int x5)]) X dX11_behind_29 (by decide) rfl ?_
      refine ev_iinc (pc := 31) (v := x5 + (1 : Int32)) (L' := [(5, .int (x5 + (1 : Int32))), (4, .int v4), (0, .ref x0), (1, .ref x1), (2, .int x2), (3, .int x3)]) X 5 dX11_behind_31 rfl rfl (by decide) rfl ?_
      refine ev_goto (pc := 34) X 10 dX11_behind_34 rfl ?_
      exact ev_weak (pc := 10) [2, 3, 4, 5, 1, 0] rfl (ih _ _ _ _ _ _ _ _ h p e s m args below meth c r0 A X)
def fX11_behind_0 (x0 : Nat) (x1 : Nat) (x2 : Int32) (x3 : Int32) (w : eW) : Option (Int32 × eW) := eBind2 (fX11_firstOf x1 x2 w) fun v2 w1 => fX11_behind_10 eN x0 x1 x2 x3 v2 (0 : Int32) w1
set_option maxRecDepth 20000 in
theorem sX11_behind_0  (x0 : Nat) (x1 : Nat) (x2 : Int32) (x3 : Int32) (w : eW) (r : Int32 × eW) (h : fX11_behind_0 x0 x1 x2 x3 w = some r) : eBN l D cI cZ 2 yX11_behind cX11_behind 6 (some .int) 0 [(0, .ref x0), (1, .ref x1), (2, .int x2), (3, .int x3)] [] w (some (.int r.1)) r.2 := by
  rw [fX11_behind_0] at h
  intro p e s m args below meth c r0 A X
  refine ev_aload_n (pc := 0) X 1 dX11_behind_0 rfl rfl ?_
  refine ev_iload_n (pc := 1) X 2 dX11_behind_1 rfl rfl ?_
  obtain ⟨v2, w1, hc, h⟩ := eB2 h
  refine ev_callS_i (pc := 2) (As := [.ref x1, .int x2]) (S := []) X hwX11_firstOf klX11_129 htX11_firstOf ⟨Nat.le_of_ble_eq_true rfl, Nat.le_of_ble_eq_true rfl⟩ ⟨Nat.le_refl _, Nat.le_refl _⟩ rfl (Nat.le_of_ble_eq_true rfl) dX11_behind_2 rfl (mX11_firstOf hc) ?_
  refine ev_istore (pc := 5) (L' := [(4, .int v2), (0, .ref x0), (1, .ref x1), (2, .int x2), (3, .int x3)]) X dX11_behind_5 (by decide) rfl ?_
  refine ev_iconst (pc := 7) (v := (0 : Int32)) X dX11_behind_7 rfl ?_
  refine ev_istore (pc := 8) (L' := [(5, .int (0 : Int32)), (4, .int v2), (0, .ref x0), (1, .ref x1), (2, .int x2), (3, .int x3)]) X dX11_behind_8 (by decide) rfl ?_
  exact ev_weak (pc := 10) [2, 3, 4, 5, 1, 0] rfl (sX11_behind_10 eN _ _ _ _ _ _ _ _ h p e s m args below meth c r0 A X)
def fX11_behind (a0 : Nat) (a1 : Nat) (a2 : Int32) (a3 : Int32) (w : eW) : Option (Int32 × eW) := bif eO w a0 11 then fX11_behind_0 a0 a1 a2 a3 w else none
theorem mX11_behind {a0 : Nat} {a1 : Nat} {a2 : Int32} {a3 : Int32} {w : eW} {v : Int32} {w' : eW} (h : fX11_behind a0 a1 a2 a3 w = some (v, w')) : eO w a0 11 = true ∧ eMN l D cI cZ 2 yX11_behind cX11_behind 6 (some .int) [.ref a0, .ref a1, .int a2, .int a3] w (some (.int v)) w' := by
  obtain ⟨h0, h⟩ := eBif h
  exact ⟨h0, eMN_of [(0, .ref a0), (1, .ref a1), (2, .int a2), (3, .int a3)] (plainFor_of_name (by decide)) (fun _ => rfl) (fun _ => Nat.le_of_ble_eq_true rfl) (fun p e s m args below meth c r0 A X => ev_weak (pc := 0) [0, 1, 2, 3] rfl (sX11_behind_0 _ _ _ _ _ _ h p e s m args below meth c r0 A X))⟩
theorem dX11_endOf_0 : decode cX11_endOf 0 = .ok (.aload_n 0, 1) := by decide +kernel
theorem dX11_endOf_1 : decode cX11_endOf 1 = .ok (.aload_n 1, 1) := by decide +kernel
theorem dX11_endOf_2 : decode cX11_endOf 2 = .ok (.iload_n 2, 1) := by decide +kernel
theorem dX11_endOf_3 : decode cX11_endOf 3 = .ok (.aload_n 1, 1) := by decide +kernel
theorem dX11_endOf_4 : decode cX11_endOf 4 = .ok (.iload_n 2, 1) := by decide +kernel
theorem dX11_endOf_5 : decode cX11_endOf 5 = .ok (.invokestatic 137, 3) := by decide +kernel
theorem dX11_endOf_8 : decode cX11_endOf 8 = .ok (.invokevirtual 140, 3) := by decide +kernel
theorem dX11_endOf_11 : decode cX11_endOf 11 = .ok (.ireturn, 1) := by decide +kernel
def fX11_endOf_0 (x0 : Nat) (x1 : Nat) (x2 : Int32) (w : eW) : Option (Int32 × eW) := eBind2 (fX11_cardsOf x1 x2 w) fun v2 w1 => eBind2 (fX11_behind x0 x1 x2 v2 w1) fun v4 w3 => some (v4, w3)
set_option maxRecDepth 20000 in
theorem sX11_endOf_0  (x0 : Nat) (x1 : Nat) (x2 : Int32) (w : eW) (r : Int32 × eW) (h : fX11_endOf_0 x0 x1 x2 w = some r) : eBN l D cI cZ 3 yX11_endOf cX11_endOf 3 (some .int) 0 [(0, .ref x0), (1, .ref x1), (2, .int x2)] [] w (some (.int r.1)) r.2 := by
  rw [fX11_endOf_0] at h
  intro p e s m args below meth c r0 A X
  refine ev_aload_n (pc := 0) X 0 dX11_endOf_0 rfl rfl ?_
  refine ev_aload_n (pc := 1) X 1 dX11_endOf_1 rfl rfl ?_
  refine ev_iload_n (pc := 2) X 2 dX11_endOf_2 rfl rfl ?_
  refine ev_aload_n (pc := 3) X 1 dX11_endOf_3 rfl rfl ?_
  refine ev_iload_n (pc := 4) X 2 dX11_endOf_4 rfl rfl ?_
  obtain ⟨v2, w1, hc, h⟩ := eB2 h
  refine ev_callS_i (pc := 5) (As := [.ref x1, .int x2]) (S := [.int x2, .ref x1, .ref x0]) X hwX11_cardsOf klX11_137 htX11_cardsOf ⟨Nat.le_of_ble_eq_true rfl, Nat.le_of_ble_eq_true rfl⟩ ⟨Nat.le_refl _, Nat.le_refl _⟩ rfl (Nat.le_of_ble_eq_true rfl) dX11_endOf_5 rfl (mX11_cardsOf hc) ?_
  obtain ⟨v4, w3, hc, h⟩ := eB2 h
  refine ev_callV_i (pc := 8) (As := [.ref x1, .int x2, .int v2]) (S := []) X hwX11_behind klX11_140 hiX11_behind hsX11_behind (ci := 11) ⟨rfl, rfl⟩ ⟨Nat.le_of_ble_eq_true rfl, Nat.le_of_ble_eq_true rfl⟩ ⟨Nat.le_refl _, Nat.le_refl _⟩ rfl (Nat.le_of_ble_eq_true rfl) dX11_endOf_8 rfl (mX11_behind (l := l) (D := D) (cI := cI) (cZ := cZ) hc).1 (mX11_behind hc).2 ?_
  obtain rfl := Option.some.inj h
  exact ev_iret (pc := 11) X dX11_endOf_11
def fX11_endOf (a0 : Nat) (a1 : Nat) (a2 : Int32) (w : eW) : Option (Int32 × eW) := bif eO w a0 11 then fX11_endOf_0 a0 a1 a2 w else none
theorem mX11_endOf {a0 : Nat} {a1 : Nat} {a2 : Int32} {w : eW} {v : Int32} {w' : eW} (h : fX11_endOf a0 a1 a2 w = some (v, w')) : eO w a0 11 = true ∧ eMN l D cI cZ 3 yX11_endOf cX11_endOf 3 (some .int) [.ref a0, .ref a1, .int a2] w (some (.int v)) w' := by
  obtain ⟨h0, h⟩ := eBif h
  exact ⟨h0, eMN_of [(0, .ref a0), (1, .ref a1), (2, .int a2)] (plainFor_of_name (by decide)) (fun _ => rfl) (fun _ => Nat.le_of_ble_eq_true rfl) (fun p e s m args below meth c r0 A X => ev_weak (pc := 0) [0, 1, 2] rfl (sX11_endOf_0 _ _ _ _ _ h p e s m args below meth c r0 A X))⟩
theorem dX11_upOf_0 : decode cX11_upOf 0 = .ok (.iconst 0, 1) := by decide +kernel
theorem dX11_upOf_1 : decode cX11_upOf 1 = .ok (.istore_n 2, 1) := by decide +kernel
theorem dX11_upOf_2 : decode cX11_upOf 2 = .ok (.iconst 0, 1) := by decide +kernel
theorem dX11_upOf_3 : decode cX11_upOf 3 = .ok (.istore_n 3, 1) := by decide +kernel
theorem dX11_upOf_4 : decode cX11_upOf 4 = .ok (.iload_n 3, 1) := by decide +kernel
theorem dX11_upOf_5 : decode cX11_upOf 5 = .ok (.aload_n 0, 1) := by decide +kernel
theorem dX11_upOf_6 : decode cX11_upOf 6 = .ok (.getfield 22, 3) := by decide +kernel
theorem dX11_upOf_9 : decode cX11_upOf 9 = .ok (.iload_n 1, 1) := by decide +kernel
theorem dX11_upOf_10 : decode cX11_upOf 10 = .ok (.invokestatic 137, 3) := by decide +kernel
theorem dX11_upOf_13 : decode cX11_upOf 13 = .ok (.if_icmp .ge 74, 3) := by decide +kernel
theorem dX11_upOf_16 : decode cX11_upOf 16 = .ok (.aload_n 0, 1) := by decide +kernel
theorem dX11_upOf_17 : decode cX11_upOf 17 = .ok (.aload_n 0, 1) := by decide +kernel
theorem dX11_upOf_18 : decode cX11_upOf 18 = .ok (.getfield 22, 3) := by decide +kernel
theorem dX11_upOf_21 : decode cX11_upOf 21 = .ok (.iload_n 1, 1) := by decide +kernel
theorem dX11_upOf_22 : decode cX11_upOf 22 = .ok (.iload_n 3, 1) := by decide +kernel
theorem dX11_upOf_23 : decode cX11_upOf 23 = .ok (.invokevirtual 140, 3) := by decide +kernel
theorem dX11_upOf_26 : decode cX11_upOf 26 = .ok (.istore 4, 2) := by decide +kernel
theorem dX11_upOf_28 : decode cX11_upOf 28 = .ok (.aload_n 0, 1) := by decide +kernel
theorem dX11_upOf_29 : decode cX11_upOf 29 = .ok (.aload_n 0, 1) := by decide +kernel
theorem dX11_upOf_30 : decode cX11_upOf 30 = .ok (.getfield 22, 3) := by decide +kernel
theorem dX11_upOf_33 : decode cX11_upOf 33 = .ok (.iload_n 1, 1) := by decide +kernel
theorem dX11_upOf_34 : decode cX11_upOf 34 = .ok (.iload_n 3, 1) := by decide +kernel
theorem dX11_upOf_35 : decode cX11_upOf 35 = .ok (.iconst 1, 1) := by decide +kernel
theorem dX11_upOf_36 : decode cX11_upOf 36 = .ok (.iadd, 1) := by decide +kernel
theorem dX11_upOf_37 : decode cX11_upOf 37 = .ok (.invokevirtual 140, 3) := by decide +kernel
theorem dX11_upOf_40 : decode cX11_upOf 40 = .ok (.istore 5, 2) := by decide +kernel
theorem dX11_upOf_42 : decode cX11_upOf 42 = .ok (.iload_n 2, 1) := by decide +kernel
theorem dX11_upOf_43 : decode cX11_upOf 43 = .ok (.aload_n 0, 1) := by decide +kernel
theorem dX11_upOf_44 : decode cX11_upOf 44 = .ok (.getfield 16, 3) := by decide +kernel
theorem dX11_upOf_47 : decode cX11_upOf 47 = .ok (.iload 5, 2) := by decide +kernel
theorem dX11_upOf_49 : decode cX11_upOf 49 = .ok (.iaload, 1) := by decide +kernel
theorem dX11_upOf_50 : decode cX11_upOf 50 = .ok (.aload_n 0, 1) := by decide +kernel
theorem dX11_upOf_51 : decode cX11_upOf 51 = .ok (.getfield 16, 3) := by decide +kernel
theorem dX11_upOf_54 : decode cX11_upOf 54 = .ok (.iload 4, 2) := by decide +kernel
theorem dX11_upOf_56 : decode cX11_upOf 56 = .ok (.iaload, 1) := by decide +kernel
theorem dX11_upOf_57 : decode cX11_upOf 57 = .ok (.if_icmp .le 21, 3) := by decide +kernel
theorem dX11_upOf_60 : decode cX11_upOf 60 = .ok (.aload_n 0, 1) := by decide +kernel
theorem dX11_upOf_61 : decode cX11_upOf 61 = .ok (.getfield 16, 3) := by decide +kernel
theorem dX11_upOf_64 : decode cX11_upOf 64 = .ok (.iload 5, 2) := by decide +kernel
theorem dX11_upOf_66 : decode cX11_upOf 66 = .ok (.iaload, 1) := by decide +kernel
theorem dX11_upOf_67 : decode cX11_upOf 67 = .ok (.aload_n 0, 1) := by decide +kernel
theorem dX11_upOf_68 : decode cX11_upOf 68 = .ok (.getfield 16, 3) := by decide +kernel
theorem dX11_upOf_71 : decode cX11_upOf 71 = .ok (.iload 4, 2) := by decide +kernel
theorem dX11_upOf_73 : decode cX11_upOf 73 = .ok (.iaload, 1) := by decide +kernel
theorem dX11_upOf_74 : decode cX11_upOf 74 = .ok (.isub, 1) := by decide +kernel
theorem dX11_upOf_75 : decode cX11_upOf 75 = .ok (.goto 4, 3) := by decide +kernel
theorem dX11_upOf_78 : decode cX11_upOf 78 = .ok (.iconst 0, 1) := by decide +kernel
theorem dX11_upOf_79 : decode cX11_upOf 79 = .ok (.iadd, 1) := by decide +kernel
theorem dX11_upOf_80 : decode cX11_upOf 80 = .ok (.istore_n 2, 1) := by decide +kernel
theorem dX11_upOf_81 : decode cX11_upOf 81 = .ok (.iinc 3 1, 3) := by decide +kernel
theorem dX11_upOf_84 : decode cX11_upOf 84 = .ok (.goto (-80), 3) := by decide +kernel
theorem dX11_upOf_87 : decode cX11_upOf 87 = .ok (.iload_n 2, 1) := by decide +kernel
theorem dX11_upOf_88 : decode cX11_upOf 88 = .ok (.ireturn, 1) := by decide +kernel
def fX11_upOf_79 (K4 : Nat → Int32 → Int32 → Int32 → eW → Option (Int32 × eW)) (x0 : Nat) (x1 : Int32) (x3 : Int32) (t0 : Int32) (t1 : Int32) (w : eW) : Option (Int32 × eW) := K4 x0 x1 (t0 + t1) (x3 + (1 : Int32)) w
set_option maxRecDepth 20000 in
theorem sX11_upOf_79 {K4 : Nat → Int32 → Int32 → Int32 → eW → Option (Int32 × eW)} (hK4 : ∀ (x0 : Nat) (x1 : Int32) (x2 : Int32) (x3 : Int32) (w : eW) (r : Int32 × eW), K4 x0 x1 x2 x3 w = some r → eBN l D cI cZ 3 yX11_upOf cX11_upOf 6 (some .int) 4 [(0, .ref x0), (1, .int x1), (2, .int x2), (3, .int x3)] [] w (some (.int r.1)) r.2) (x0 : Nat) (x1 : Int32) (x3 : Int32) (t0 : Int32) (t1 : Int32) (w : eW) (r : Int32 × eW) (h : fX11_upOf_79 K4 x0 x1 x3 t0 t1 w = some r) : eBN l D cI cZ 3 yX11_upOf cX11_upOf 6 (some .int) 79 [(0, .ref x0), (1, .int x1), (3, .int x3)] [.int t1, .int t0] w (some (.int r.1)) r.2 := by
  rw [fX11_upOf_79] at h
  intro p e s m args below meth c r0 A X
  refine ev_iadd (pc := 79) X dX11_upOf_79 ?_
  refine ev_istore_n (pc := 80) (L' := [(2, .int (t0 + t1)), (0, .ref x0), (1, .int x1), (3, .int x3)]) X dX11_upOf_80 rfl (by decide) rfl ?_
  refine ev_iinc (pc := 81) (v := x3 + (1 : Int32)) (L' := [(3, .int (x3 + (1 : Int32))), (2, .int (t0 + t1)), (0, .ref x0), (1, .int x1)]) X 3 dX11_upOf_81 rfl rfl (by decide) rfl ?_
  refine ev_goto (pc := 84) X 4 dX11_upOf_84 rfl ?_
  exact ev_weak (pc := 4) [2, 3, 1, 0] rfl (hK4 _ _ _ _ _ _ h p e s m args below meth c r0 A X)
def fX11_upOf_4 : Nat → Nat → Int32 → Int32 → Int32 → eW → Option (Int32 × eW)
  | 0, _, _, _, _, _ => none
  | n + 1, x0, x1, x2, x3, w => (eGR w x0 11 13).bind fun v1 => eBind2 (fX11_cardsOf v1 x1 w) fun v3 w2 => if v3 ≤ x3 then (some (x2, w2)) else ((eGR w2 x0 11 13).bind fun v4 => eBind2 (fX11_behind x0 v4 x1 x3 w2) fun v6 w5 => (eGR w5 x0 11 13).bind fun v7 => eBind2 (fX11_behind x0 v7 x1 (x3 + (1 : Int32)) w5) fun v9 w8 => (eGR w8 x0 11 10).bind fun v10 => (eLd w8 false v10 v9).bind fun v11 => (eGR w8 x0 11 10).bind fun v12 => (eLd w8 false v12 v6).bind fun v13 => if v11 ≤ v13 then (fX11_upOf_79 (fX11_upOf_4 n) x0 x1 x3 x2 (0 : Int32) w8) else ((eGR w8 x0 11 10).bind fun v14 => (eLd w8 false v14 v9).bind fun v15 => (eGR w8 x0 11 10).bind fun v16 => (eLd w8 false v16 v6).bind fun v17 => fX11_upOf_79 (fX11_upOf_4 n) x0 x1 x3 x2 (v15 - v17) w8))
set_option maxRecDepth 20000 in
theorem sX11_upOf_4  : ∀ (n : Nat) (x0 : Nat) (x1 : Int32) (x2 : Int32) (x3 : Int32) (w : eW) (r : Int32 × eW), fX11_upOf_4 n x0 x1 x2 x3 w = some r → eBN l D cI cZ 3 yX11_upOf cX11_upOf 6 (some .int) 4 [(0, .ref x0), (1, .int x1), (2, .int x2), (3, .int x3)] [] w (some (.int r.1)) r.2 := by
  intro n
  induction n with
  | zero => intro x0 x1 x2 x3 w r h; exact absurd (show (none : Option (Int32 × eW)) = some r from h) (by simp)
  | succ n ih =>
    intro x0 x1 x2 x3 w r h
    rw [fX11_upOf_4] at h
    intro p e s m args below meth c r0 A X
    refine ev_iload_n (pc := 4) X 3 dX11_upOf_4 rfl rfl ?_
    refine ev_aload_n (pc := 5) X 0 dX11_upOf_5 rfl rfl ?_
    obtain ⟨v1, hv1, h⟩ := eBi h
    refine ev_getR (pc := 6) X hcX11 (k := 13) (by decide) kfX11_22 dX11_upOf_6 hv1 ?_
    refine ev_iload_n (pc := 9) X 1 dX11_upOf_9 rfl rfl ?_
    obtain ⟨v3, w2, hc, h⟩ := eB2 h
    refine ev_callS_i (pc := 10) (As := [.ref v1, .int x1]) (S := [.int x3]) X hwX11_cardsOf klX11_137 htX11_cardsOf ⟨Nat.le_of_ble_eq_true rfl, Nat.le_of_ble_eq_true rfl⟩ ⟨Nat.le_refl _, Nat.le_refl _⟩ rfl (Nat.le_of_ble_eq_true rfl) dX11_upOf_10 rfl (mX11_cardsOf hc) ?_
    refine ev_icmp_ge (pc := 13) X 87 dX11_upOf_13 rfl (fun hc => ?_) (fun hc => ?_)
    · rw [if_pos hc] at h
      refine ev_iload_n (pc := 87) X 2 dX11_upOf_87 rfl rfl ?_
      obtain rfl := Option.some.inj h
      exact ev_iret (pc := 88) X dX11_upOf_88
    · rw [if_neg hc] at h
      refine ev_aload_n (pc := 16) X 0 dX11_upOf_16 rfl rfl ?_
      refine ev_aload_n (pc := 17) X 0 dX11_upOf_17 rfl rfl ?_
      obtain ⟨v4, hv4, h⟩ := eBi h
      refine ev_getR (pc := 18) X hcX11 (k := 13) (by decide) kfX11_22 dX11_upOf_18 hv4 ?_
      refine ev_iload_n (pc := 21) X 1 dX11_upOf_21 rfl rfl ?_
      refine ev_iload_n (pc := 22) X 3 dX11_upOf_22 rfl rfl ?_
      obtain ⟨v6, w5, hc, h⟩ := eB2 h
      refine ev_callV_i (pc := 23) (As := [.ref v4, .int x1, .int x3]) (S := []) X hwX11_behind klX11_140 hiX11_behind hsX11_behind (ci := 11) ⟨rfl, rfl⟩ ⟨Nat.le_of_ble_eq_true rfl, Nat.le_of_ble_eq_true rfl⟩ ⟨Nat.le_refl _, Nat.le_refl _⟩ rfl (Nat.le_of_ble_eq_true rfl) dX11_upOf_23 rfl (mX11_behind (l := l) (D := D) (cI := cI) (cZ := cZ) hc).1 (mX11_behind hc).2 ?_
      refine ev_istore (pc := 26) (L' := [(4, .int v6), (0, .ref x0), (1, .int x1), (2, .int x2), (3, .int x3)]) X dX11_upOf_26 (by decide) rfl ?_
      refine ev_aload_n (pc := 28) X 1 dX11_upOf_28 rfl rfl ?_
      refine ev_aload_n (pc := 29) X 1 dX11_upOf_29 rfl rfl ?_
      obtain ⟨v7, hv7, h⟩ := eBi h
      refine ev_getR (pc := 30) X hcX11 (k := 13) (by decide) kfX11_22 dX11_upOf_30 hv7 ?_
      refine ev_iload_n (pc := 33) X 2 dX11_upOf_33 rfl rfl ?_
      refine ev_iload_n (pc := 34) X 4 dX11_upOf_34 rfl rfl ?_
      refine ev_iconst (pc := 35) (v := (1 : Int32)) X dX11_upOf_35 rfl ?_
      refine ev_iadd (pc := 36) X dX11_upOf_36 ?_
      obtain ⟨v9, w8, hc, h⟩ := eB2 h
      refine ev_callV_i (pc := 37) (As := [.ref v7, .int x1, .int (x3 + (1 : Int32))]) (S := []) X hwX11_behind klX11_140 hiX11_behind hsX11_behind (ci := 11) ⟨rfl, rfl⟩ ⟨Nat.le_of_ble_eq_true rfl, Nat.le_of_ble_eq_true rfl⟩ ⟨Nat.le_refl _, Nat.le_refl _⟩ rfl (Nat.le_of_ble_eq_true rfl) dX11_upOf_37 rfl (mX11_behind (l := l) (D := D) (cI := cI) (cZ := cZ) hc).1 (mX11_behind hc).2 ?_
      refine ev_istore (pc := 40) (L' := [(5, .int v9), (4, .int v6), (0, .ref x0), (1, .int x1), (2, .int x2), (3, .int x3)]) X dX11_upOf_40 (by decide) rfl ?_
      refine ev_iload_n (pc := 42) X 4 dX11_upOf_42 rfl rfl ?_
      refine ev_aload_n (pc := 43) X 2 dX11_upOf_43 rfl rfl ?_
      obtain ⟨v10, hv10, h⟩ := eBi h
      refine ev_getR (pc := 44) X hcX11 (k := 10) (by decide) kfX11_16 dX11_upOf_44 hv10 ?_
      refine ev_iload (pc := 47) X 0 dX11_upOf_47 rfl ?_
      obtain ⟨v11, hv11, h⟩ := eBi h
      refine ev_iald (pc := 49) X dX11_upOf_49 hv11 ?_
      refine ev_aload_n (pc := 50) X 2 dX11_upOf_50 rfl rfl ?_
      obtain ⟨v12, hv12, h⟩ := eBi h
      refine ev_getR (pc := 51) X hcX11 (k := 10) (by decide) kfX11_16 dX11_upOf_51 hv12 ?_
      refine ev_iload (pc := 54) X 1 dX11_upOf_54 rfl ?_
      obtain ⟨v13, hv13, h⟩ := eBi h
      refine ev_iald (pc := 56) X dX11_upOf_56 hv13 ?_
      refine ev_icmp_le (pc := 57) X 78 dX11_upOf_57 rfl (fun hc => ?_) (fun hc => ?_)
      · rw [if_pos hc] at h
        refine ev_iconst (pc := 78) (v := (0 : Int32)) X dX11_upOf_78 rfl ?_
        exact ev_weak (pc := 79) [2, 3, 5] rfl (sX11_upOf_79 (fun _ _ _ _ w r hh => ih _ _ _ _ w r hh) _ _ _ _ _ _ _ h p e s m args below meth c r0 A X)
      · rw [if_neg hc] at h
        refine ev_aload_n (pc := 60) X 2 dX11_upOf_60 rfl rfl ?_
        obtain ⟨v14, hv14, h⟩ := eBi h
        refine ev_getR (pc := 61) X hcX11 (k := 10) (by decide) kfX11_16 dX11_upOf_61 hv14 ?_
        refine ev_iload (pc := 64) X 0 dX11_upOf_64 rfl ?_
        obtain ⟨v15, hv15, h⟩ := eBi h
        refine ev_iald (pc := 66) X dX11_upOf_66 hv15 ?_
        refine ev_aload_n (pc := 67) X 2 dX11_upOf_67 rfl rfl ?_
        obtain ⟨v16, hv16, h⟩ := eBi h
        refine ev_getR (pc := 68) X hcX11 (k := 10) (by decide) kfX11_16 dX11_upOf_68 hv16 ?_
        refine ev_iload (pc := 71) X 1 dX11_upOf_71 rfl ?_
        obtain ⟨v17, hv17, h⟩ := eBi h
        refine ev_iald (pc := 73) X dX11_upOf_73 hv17 ?_
        refine ev_isub (pc := 74) X dX11_upOf_74 ?_
        refine ev_goto (pc := 75) X 79 dX11_upOf_75 rfl ?_
        exact ev_weak (pc := 79) [2, 3, 5] rfl (sX11_upOf_79 (fun _ _ _ _ w r hh => ih _ _ _ _ w r hh) _ _ _ _ _ _ _ h p e s m args below meth c r0 A X)
def fX11_upOf_0 (x0 : Nat) (x1 : Int32) (w : eW) : Option (Int32 × eW) := fX11_upOf_4 eN x0 x1 (0 : Int32) (0 : Int32) w
set_option maxRecDepth 20000 in
theorem sX11_upOf_0  (x0 : Nat) (x1 : Int32) (w : eW) (r : Int32 × eW) (h : fX11_upOf_0 x0 x1 w = some r) : eBN l D cI cZ 3 yX11_upOf cX11_upOf 6 (some .int) 0 [(0, .ref x0), (1, .int x1)] [] w (some (.int r.1)) r.2 := by
  rw [fX11_upOf_0] at h
  intro p e s m args below meth c r0 A X
  refine ev_iconst (pc := 0) (v := (0 : Int32)) X dX11_upOf_0 rfl ?_
  refine ev_istore_n (pc := 1) (L' := [(2, .int (0 : Int32)), (0, .ref x0), (1, .int x1)]) X dX11_upOf_1 rfl (by decide) rfl ?_
  refine ev_iconst (pc := 2) (v := (0 : Int32)) X dX11_upOf_2 rfl ?_
  refine ev_istore_n (pc := 3) (L' := [(3, .int (0 : Int32)), (2, .int (0 : Int32)), (0, .ref x0), (1, .int x1)]) X dX11_upOf_3 rfl (by decide) rfl ?_
  exact ev_weak (pc := 4) [2, 3, 1, 0] rfl (sX11_upOf_4 eN _ _ _ _ _ _ h p e s m args below meth c r0 A X)
def fX11_upOf (a0 : Nat) (a1 : Int32) (w : eW) : Option (Int32 × eW) := bif eO w a0 11 then fX11_upOf_0 a0 a1 w else none
theorem mX11_upOf {a0 : Nat} {a1 : Int32} {w : eW} {v : Int32} {w' : eW} (h : fX11_upOf a0 a1 w = some (v, w')) : eO w a0 11 = true ∧ eMN l D cI cZ 3 yX11_upOf cX11_upOf 6 (some .int) [.ref a0, .int a1] w (some (.int v)) w' := by
  obtain ⟨h0, h⟩ := eBif h
  exact ⟨h0, eMN_of [(0, .ref a0), (1, .int a1)] (plainFor_of_name (by decide)) (fun _ => rfl) (fun _ => Nat.le_of_ble_eq_true rfl) (fun p e s m args below meth c r0 A X => ev_weak (pc := 0) [0, 1] rfl (sX11_upOf_0 _ _ _ _ h p e s m args below meth c r0 A X))⟩
theorem dX11_bolt_0 : decode cX11_bolt 0 = .ok (.aload_n 0, 1) := by decide +kernel
theorem dX11_bolt_1 : decode cX11_bolt 1 = .ok (.iconst 0, 1) := by decide +kernel
theorem dX11_bolt_2 : decode cX11_bolt 2 = .ok (.putfield 50, 3) := by decide +kernel
theorem dX11_bolt_5 : decode cX11_bolt 5 = .ok (.aload_n 0, 1) := by decide +kernel
theorem dX11_bolt_6 : decode cX11_bolt 6 = .ok (.iload_n 1, 1) := by decide +kernel
theorem dX11_bolt_7 : decode cX11_bolt 7 = .ok (.invokevirtual 143, 3) := by decide +kernel
theorem dX11_bolt_10 : decode cX11_bolt 10 = .ok (.ifCond .eq 12, 3) := by decide +kernel
theorem dX11_bolt_13 : decode cX11_bolt 13 = .ok (.iload_n 2, 1) := by decide +kernel
theorem dX11_bolt_14 : decode cX11_bolt 14 = .ok (.iconst 0, 1) := by decide +kernel
theorem dX11_bolt_15 : decode cX11_bolt 15 = .ok (.iconst 3, 1) := by decide +kernel
theorem dX11_bolt_16 : decode cX11_bolt 16 = .ok (.invokestatic 54, 3) := by decide +kernel
theorem dX11_bolt_19 : decode cX11_bolt 19 = .ok (.ifCond .ne 5, 3) := by decide +kernel
theorem dX11_bolt_22 : decode cX11_bolt 22 = .ok (.iconst (-1), 1) := by decide +kernel
theorem dX11_bolt_23 : decode cX11_bolt 23 = .ok (.ireturn, 1) := by decide +kernel
theorem dX11_bolt_24 : decode cX11_bolt 24 = .ok (.iload_n 2, 1) := by decide +kernel
theorem dX11_bolt_25 : decode cX11_bolt 25 = .ok (.ifCond .ne 14, 3) := by decide +kernel
theorem dX11_bolt_28 : decode cX11_bolt 28 = .ok (.aload_n 0, 1) := by decide +kernel
theorem dX11_bolt_29 : decode cX11_bolt 29 = .ok (.getfield 22, 3) := by decide +kernel
theorem dX11_bolt_32 : decode cX11_bolt 32 = .ok (.iload_n 1, 1) := by decide +kernel
theorem dX11_bolt_33 : decode cX11_bolt 33 = .ok (.invokestatic 129, 3) := by decide +kernel
theorem dX11_bolt_36 : decode cX11_bolt 36 = .ok (.goto 41, 3) := by decide +kernel
theorem dX11_bolt_39 : decode cX11_bolt 39 = .ok (.iload_n 2, 1) := by decide +kernel
theorem dX11_bolt_40 : decode cX11_bolt 40 = .ok (.iconst 1, 1) := by decide +kernel
theorem dX11_bolt_41 : decode cX11_bolt 41 = .ok (.if_icmp .ne 15, 3) := by decide +kernel
theorem dX11_bolt_44 : decode cX11_bolt 44 = .ok (.aload_n 0, 1) := by decide +kernel
theorem dX11_bolt_45 : decode cX11_bolt 45 = .ok (.aload_n 0, 1) := by decide +kernel
theorem dX11_bolt_46 : decode cX11_bolt 46 = .ok (.getfield 22, 3) := by decide +kernel
theorem dX11_bolt_49 : decode cX11_bolt 49 = .ok (.iload_n 1, 1) := by decide +kernel
theorem dX11_bolt_50 : decode cX11_bolt 50 = .ok (.invokevirtual 146, 3) := by decide +kernel
theorem dX11_bolt_53 : decode cX11_bolt 53 = .ok (.goto 24, 3) := by decide +kernel
theorem dX11_bolt_56 : decode cX11_bolt 56 = .ok (.iload_n 2, 1) := by decide +kernel
theorem dX11_bolt_57 : decode cX11_bolt 57 = .ok (.iconst 2, 1) := by decide +kernel
theorem dX11_bolt_58 : decode cX11_bolt 58 = .ok (.if_icmp .ne 14, 3) := by decide +kernel
theorem dX11_bolt_61 : decode cX11_bolt 61 = .ok (.aload_n 0, 1) := by decide +kernel
theorem dX11_bolt_62 : decode cX11_bolt 62 = .ok (.getfield 22, 3) := by decide +kernel
theorem dX11_bolt_65 : decode cX11_bolt 65 = .ok (.iload_n 1, 1) := by decide +kernel
theorem dX11_bolt_66 : decode cX11_bolt 66 = .ok (.invokestatic 137, 3) := by decide +kernel
theorem dX11_bolt_69 : decode cX11_bolt 69 = .ok (.goto 8, 3) := by decide +kernel
theorem dX11_bolt_72 : decode cX11_bolt 72 = .ok (.aload_n 0, 1) := by decide +kernel
theorem dX11_bolt_73 : decode cX11_bolt 73 = .ok (.iload_n 1, 1) := by decide +kernel
theorem dX11_bolt_74 : decode cX11_bolt 74 = .ok (.invokevirtual 149, 3) := by decide +kernel
theorem dX11_bolt_77 : decode cX11_bolt 77 = .ok (.ireturn, 1) := by decide +kernel
def fX11_bolt_0 (x0 : Nat) (x1 : Int32) (x2 : Int32) (w : eW) : Option (Int32 × eW) := (eP w x0 11 0 (.int (0 : Int32))).bind fun w1 => eBind2 (fX11_isBolt x0 x1 w1) fun v3 w2 => if v3 = 0 then (some ((-1 : Int32), w2)) else (eBind2 (fX11_in x2 (0 : Int32) (3 : Int32) w2) fun v5 w4 => if v5 = 0 then (some ((-1 : Int32), w4)) else (if x2 = 0 then ((eGR w4 x0 11 13).bind fun v14 => eBind2 (fX11_firstOf v14 x1 w4) fun v16 w15 => some (v16, w15)) else (if x2 = (1 : Int32) then ((eGR w4 x0 11 13).bind fun v11 => eBind2 (fX11_endOf x0 v11 x1 w4) fun v13 w12 => some (v13, w12)) else (if x2 = (2 : Int32) then ((eGR w4 x0 11 13).bind fun v8 => eBind2 (fX11_cardsOf v8 x1 w4) fun v10 w9 => some (v10, w9)) else (eBind2 (fX11_upOf x0 x1 w4) fun v7 w6 => some (v7, w6))))))
set_option maxRecDepth 20000 in
theorem sX11_bolt_0  (x0 : Nat) (x1 : Int32) (x2 : Int32) (w : eW) (r : Int32 × eW) (h : fX11_bolt_0 x0 x1 x2 w = some r) : eBN l D cI cZ 4 yX11_bolt cX11_bolt 3 (some .int) 0 [(0, .ref x0), (1, .int x1), (2, .int x2)] [] w (some (.int r.1)) r.2 := by
  rw [fX11_bolt_0] at h
  intro p e s m args below meth c r0 A X
  refine ev_aload_n (pc := 0) X 0 dX11_bolt_0 rfl rfl ?_
  refine ev_iconst (pc := 1) (v := (0 : Int32)) X dX11_bolt_1 rfl ?_
  obtain ⟨w1, hw1, h⟩ := eBi h
  refine ev_putI (pc := 2) X hcX11 (k := 0) (by decide) kfX11_50 rfl rfl dX11_bolt_2 hw1 ?_
  refine ev_aload_n (pc := 5) X 0 dX11_bolt_5 rfl rfl ?_
  refine ev_iload_n (pc := 6) X 1 dX11_bolt_6 rfl rfl ?_
  obtain ⟨v3, w2, hc, h⟩ := eB2 h
  refine ev_callV_i (pc := 7) (As := [.int x1]) (S := []) X hwX11_isBolt klX11_143 hiX11_isBolt hsX11_isBolt (ci := 11) ⟨rfl, rfl⟩ ⟨Nat.le_of_ble_eq_true rfl, Nat.le_of_ble_eq_true rfl⟩ ⟨Nat.le_refl _, Nat.le_refl _⟩ rfl (Nat.le_of_ble_eq_true rfl) dX11_bolt_7 rfl (mX11_isBolt (l := l) (D := D) (cI := cI) (cZ := cZ) hc).1 (mX11_isBolt hc).2 ?_
  refine ev_if_eq (pc := 10) X 22 dX11_bolt_10 rfl (fun hc => ?_) (fun hc => ?_)
  · rw [if_pos hc] at h
    refine ev_iconst (pc := 22) (v := (-1 : Int32)) X dX11_bolt_22 rfl ?_
    obtain rfl := Option.some.inj h
    exact ev_iret (pc := 23) X dX11_bolt_23
  · rw [if_neg hc] at h
    refine ev_iload_n (pc := 13) X 2 dX11_bolt_13 rfl rfl ?_
    refine ev_iconst (pc := 14) (v := (0 : Int32)) X dX11_bolt_14 rfl ?_
    refine ev_iconst (pc := 15) (v := (3 : Int32)) X dX11_bolt_15 rfl ?_
    obtain ⟨v5, w4, hc, h⟩ := eB2 h
    refine ev_callS_i (pc := 16) (As := [.int x2, .int (0 : Int32), .int (3 : Int32)]) (S := []) X hwX11_in klX11_54 htX11_in ⟨Nat.le_of_ble_eq_true rfl, Nat.le_of_ble_eq_true rfl⟩ ⟨Nat.le_refl _, Nat.le_refl _⟩ rfl (Nat.le_of_ble_eq_true rfl) dX11_bolt_16 rfl (mX11_in hc) ?_
    refine ev_if_ne (pc := 19) X 24 dX11_bolt_19 rfl (fun hc => ?_) (fun hc => ?_)
    · rw [if_neg hc] at h
      refine ev_iload_n (pc := 24) X 2 dX11_bolt_24 rfl rfl ?_
      refine ev_if_ne (pc := 25) X 39 dX11_bolt_25 rfl (fun hc => ?_) (fun hc => ?_)
      · rw [if_neg hc] at h
        refine ev_iload_n (pc := 39) X 2 dX11_bolt_39 rfl rfl ?_
        refine ev_iconst (pc := 40) (v := (1 : Int32)) X dX11_bolt_40 rfl ?_
        refine ev_icmp_ne (pc := 41) X 56 dX11_bolt_41 rfl (fun hc => ?_) (fun hc => ?_)
        · rw [if_neg hc] at h
          refine ev_iload_n (pc := 56) X 2 dX11_bolt_56 rfl rfl ?_
          refine ev_iconst (pc := 57) (v := (2 : Int32)) X dX11_bolt_57 rfl ?_
          refine ev_icmp_ne (pc := 58) X 72 dX11_bolt_58 rfl (fun hc => ?_) (fun hc => ?_)
          · rw [if_neg hc] at h
            refine ev_aload_n (pc := 72) X 0 dX11_bolt_72 rfl rfl ?_
            refine ev_iload_n (pc := 73) X 1 dX11_bolt_73 rfl rfl ?_
            obtain ⟨v7, w6, hc, h⟩ := eB2 h
            refine ev_callV_i (pc := 74) (As := [.int x1]) (S := []) X hwX11_upOf klX11_149 hiX11_upOf hsX11_upOf (ci := 11) ⟨rfl, rfl⟩ ⟨Nat.le_of_ble_eq_true rfl, Nat.le_of_ble_eq_true rfl⟩ ⟨Nat.le_refl _, Nat.le_refl _⟩ rfl (Nat.le_of_ble_eq_true rfl) dX11_bolt_74 rfl (mX11_upOf (l := l) (D := D) (cI := cI) (cZ := cZ) hc).1 (mX11_upOf hc).2 ?_
            obtain rfl := Option.some.inj h
            exact ev_iret (pc := 77) X dX11_bolt_77
          · rw [if_pos hc] at h
            refine ev_aload_n (pc := 61) X 0 dX11_bolt_61 rfl rfl ?_
            obtain ⟨v8, hv8, h⟩ := eBi h
            refine ev_getR (pc := 62) X hcX11 (k := 13) (by decide) kfX11_22 dX11_bolt_62 hv8 ?_
            refine ev_iload_n (pc := 65) X 1 dX11_bolt_65 rfl rfl ?_
            obtain ⟨v10, w9, hc, h⟩ := eB2 h
            refine ev_callS_i (pc := 66) (As := [.ref v8, .int x1]) (S := []) X hwX11_cardsOf klX11_137 htX11_cardsOf ⟨Nat.le_of_ble_eq_true rfl, Nat.le_of_ble_eq_true rfl⟩ ⟨Nat.le_refl _, Nat.le_refl _⟩ rfl (Nat.le_of_ble_eq_true rfl) dX11_bolt_66 rfl (mX11_cardsOf hc) ?_
            refine ev_goto (pc := 69) X 77 dX11_bolt_69 rfl ?_
            obtain rfl := Option.some.inj h
            exact ev_iret (pc := 77) X dX11_bolt_77
        · rw [if_pos hc] at h
          refine ev_aload_n (pc := 44) X 0 dX11_bolt_44 rfl rfl ?_
          refine ev_aload_n (pc := 45) X 0 dX11_bolt_45 rfl rfl ?_
          obtain ⟨v11, hv11, h⟩ := eBi h
          refine ev_getR (pc := 46) X hcX11 (k := 13) (by decide) kfX11_22 dX11_bolt_46 hv11 ?_
          refine ev_iload_n (pc := 49) X 1 dX11_bolt_49 rfl rfl ?_
          obtain ⟨v13, w12, hc, h⟩ := eB2 h
          refine ev_callV_i (pc := 50) (As := [.ref v11, .int x1]) (S := []) X hwX11_endOf klX11_146 hiX11_endOf hsX11_endOf (ci := 11) ⟨rfl, rfl⟩ ⟨Nat.le_of_ble_eq_true rfl, Nat.le_of_ble_eq_true rfl⟩ ⟨Nat.le_refl _, Nat.le_refl _⟩ rfl (Nat.le_of_ble_eq_true rfl) dX11_bolt_50 rfl (mX11_endOf (l := l) (D := D) (cI := cI) (cZ := cZ) hc).1 (mX11_endOf hc).2 ?_
          refine ev_goto (pc := 53) X 77 dX11_bolt_53 rfl ?_
          obtain rfl := Option.some.inj h
          exact ev_iret (pc := 77) X dX11_bolt_77
      · rw [if_pos hc] at h
        refine ev_aload_n (pc := 28) X 0 dX11_bolt_28 rfl rfl ?_
        obtain ⟨v14, hv14, h⟩ := eBi h
        refine ev_getR (pc := 29) X hcX11 (k := 13) (by decide) kfX11_22 dX11_bolt_29 hv14 ?_
        refine ev_iload_n (pc := 32) X 1 dX11_bolt_32 rfl rfl ?_
        obtain ⟨v16, w15, hc, h⟩ := eB2 h
        refine ev_callS_i (pc := 33) (As := [.ref v14, .int x1]) (S := []) X hwX11_firstOf klX11_129 htX11_firstOf ⟨Nat.le_of_ble_eq_true rfl, Nat.le_of_ble_eq_true rfl⟩ ⟨Nat.le_refl _, Nat.le_refl _⟩ rfl (Nat.le_of_ble_eq_true rfl) dX11_bolt_33 rfl (mX11_firstOf hc) ?_
        refine ev_goto (pc := 36) X 77 dX11_bolt_36 rfl ?_
        obtain rfl := Option.some.inj h
        exact ev_iret (pc := 77) X dX11_bolt_77
    · rw [if_pos hc] at h
      refine ev_iconst (pc := 22) (v := (-1 : Int32)) X dX11_bolt_22 rfl ?_
      obtain rfl := Option.some.inj h
      exact ev_iret (pc := 23) X dX11_bolt_23
def fX11_bolt (a0 : Nat) (a1 : Int32) (a2 : Int32) (w : eW) : Option (Int32 × eW) := bif eO w a0 11 then fX11_bolt_0 a0 a1 a2 w else none
theorem mX11_bolt {a0 : Nat} {a1 : Int32} {a2 : Int32} {w : eW} {v : Int32} {w' : eW} (h : fX11_bolt a0 a1 a2 w = some (v, w')) : eO w a0 11 = true ∧ eMN l D cI cZ 4 yX11_bolt cX11_bolt 3 (some .int) [.ref a0, .int a1, .int a2] w (some (.int v)) w' := by
  obtain ⟨h0, h⟩ := eBif h
  exact ⟨h0, eMN_of [(0, .ref a0), (1, .int a1), (2, .int a2)] (plainFor_of_name (by decide)) (fun _ => rfl) (fun _ => Nat.le_of_ble_eq_true rfl) (fun p e s m args below meth c r0 A X => ev_weak (pc := 0) [0, 1, 2] rfl (sX11_bolt_0 _ _ _ _ _ h p e s m args below meth c r0 A X))⟩
theorem dX11_card_0 : decode cX11_card 0 = .ok (.aload_n 0, 1) := by decide +kernel
theorem dX11_card_1 : decode cX11_card 1 = .ok (.iconst 0, 1) := by decide +kernel
theorem dX11_card_2 : decode cX11_card 2 = .ok (.putfield 50, 3) := by decide +kernel
theorem dX11_card_5 : decode cX11_card 5 = .ok (.aload_n 0, 1) := by decide +kernel
theorem dX11_card_6 : decode cX11_card 6 = .ok (.iload_n 1, 1) := by decide +kernel
theorem dX11_card_7 : decode cX11_card 7 = .ok (.invokevirtual 143, 3) := by decide +kernel
theorem dX11_card_10 : decode cX11_card 10 = .ok (.ifCond .eq 33, 3) := by decide +kernel
theorem dX11_card_13 : decode cX11_card 13 = .ok (.iload_n 2, 1) := by decide +kernel
theorem dX11_card_14 : decode cX11_card 14 = .ok (.iconst 0, 1) := by decide +kernel
theorem dX11_card_15 : decode cX11_card 15 = .ok (.aload_n 0, 1) := by decide +kernel
theorem dX11_card_16 : decode cX11_card 16 = .ok (.getfield 22, 3) := by decide +kernel
theorem dX11_card_19 : decode cX11_card 19 = .ok (.iload_n 1, 1) := by decide +kernel
theorem dX11_card_20 : decode cX11_card 20 = .ok (.invokestatic 137, 3) := by decide +kernel
theorem dX11_card_23 : decode cX11_card 23 = .ok (.iconst 1, 1) := by decide +kernel
theorem dX11_card_24 : decode cX11_card 24 = .ok (.isub, 1) := by decide +kernel
theorem dX11_card_25 : decode cX11_card 25 = .ok (.invokestatic 54, 3) := by decide +kernel
theorem dX11_card_28 : decode cX11_card 28 = .ok (.ifCond .eq 15, 3) := by decide +kernel
theorem dX11_card_31 : decode cX11_card 31 = .ok (.aload_n 0, 1) := by decide +kernel
theorem dX11_card_32 : decode cX11_card 32 = .ok (.getfield 22, 3) := by decide +kernel
theorem dX11_card_35 : decode cX11_card 35 = .ok (.iload_n 1, 1) := by decide +kernel
theorem dX11_card_36 : decode cX11_card 36 = .ok (.iload_n 2, 1) := by decide +kernel
theorem dX11_card_37 : decode cX11_card 37 = .ok (.invokestatic 133, 3) := by decide +kernel
theorem dX11_card_40 : decode cX11_card 40 = .ok (.goto 4, 3) := by decide +kernel
theorem dX11_card_43 : decode cX11_card 43 = .ok (.iconst (-1), 1) := by decide +kernel
theorem dX11_card_44 : decode cX11_card 44 = .ok (.ireturn, 1) := by decide +kernel
def fX11_card_43  (w : eW) : Option (Int32 × eW) := some ((-1 : Int32), w)
set_option maxRecDepth 20000 in
theorem sX11_card_43   (w : eW) (r : Int32 × eW) (h : fX11_card_43  w = some r) : eBN l D cI cZ 2 yX11_card cX11_card 3 (some .int) 43 [] [] w (some (.int r.1)) r.2 := by
  rw [fX11_card_43] at h
  intro p e s m args below meth c r0 A X
  refine ev_iconst (pc := 43) (v := (-1 : Int32)) X dX11_card_43 rfl ?_
  obtain rfl := Option.some.inj h
  exact ev_iret (pc := 44) X dX11_card_44
def fX11_card_0 (x0 : Nat) (x1 : Int32) (x2 : Int32) (w : eW) : Option (Int32 × eW) := (eP w x0 11 0 (.int (0 : Int32))).bind fun w1 => eBind2 (fX11_isBolt x0 x1 w1) fun v3 w2 => if v3 = 0 then (fX11_card_43 w2) else ((eGR w2 x0 11 13).bind fun v4 => eBind2 (fX11_cardsOf v4 x1 w2) fun v6 w5 => eBind2 (fX11_in x2 (0 : Int32) (v6 - (1 : Int32)) w5) fun v8 w7 => if v8 = 0 then (fX11_card_43 w7) else ((eGR w7 x0 11 13).bind fun v9 => eBind2 (fX11_cardAt v9 x1 x2 w7) fun v11 w10 => some (v11, w10)))
set_option maxRecDepth 20000 in
theorem sX11_card_0  (x0 : Nat) (x1 : Int32) (x2 : Int32) (w : eW) (r : Int32 × eW) (h : fX11_card_0 x0 x1 x2 w = some r) : eBN l D cI cZ 2 yX11_card cX11_card 3 (some .int) 0 [(0, .ref x0), (1, .int x1), (2, .int x2)] [] w (some (.int r.1)) r.2 := by
  rw [fX11_card_0] at h
  intro p e s m args below meth c r0 A X
  refine ev_aload_n (pc := 0) X 0 dX11_card_0 rfl rfl ?_
  refine ev_iconst (pc := 1) (v := (0 : Int32)) X dX11_card_1 rfl ?_
  obtain ⟨w1, hw1, h⟩ := eBi h
  refine ev_putI (pc := 2) X hcX11 (k := 0) (by decide) kfX11_50 rfl rfl dX11_card_2 hw1 ?_
  refine ev_aload_n (pc := 5) X 0 dX11_card_5 rfl rfl ?_
  refine ev_iload_n (pc := 6) X 1 dX11_card_6 rfl rfl ?_
  obtain ⟨v3, w2, hc, h⟩ := eB2 h
  refine ev_callV_i (pc := 7) (As := [.int x1]) (S := []) X hwX11_isBolt klX11_143 hiX11_isBolt hsX11_isBolt (ci := 11) ⟨rfl, rfl⟩ ⟨Nat.le_of_ble_eq_true rfl, Nat.le_of_ble_eq_true rfl⟩ ⟨Nat.le_refl _, Nat.le_refl _⟩ rfl (Nat.le_of_ble_eq_true rfl) dX11_card_7 rfl (mX11_isBolt (l := l) (D := D) (cI := cI) (cZ := cZ) hc).1 (mX11_isBolt hc).2 ?_
  refine ev_if_eq (pc := 10) X 43 dX11_card_10 rfl (fun hc => ?_) (fun hc => ?_)
  · rw [if_pos hc] at h
    exact ev_weak (pc := 43) [] rfl (sX11_card_43  _ _ h p e s m args below meth c r0 A X)
  · rw [if_neg hc] at h
    refine ev_iload_n (pc := 13) X 2 dX11_card_13 rfl rfl ?_
    refine ev_iconst (pc := 14) (v := (0 : Int32)) X dX11_card_14 rfl ?_
    refine ev_aload_n (pc := 15) X 0 dX11_card_15 rfl rfl ?_
    obtain ⟨v4, hv4, h⟩ := eBi h
    refine ev_getR (pc := 16) X hcX11 (k := 13) (by decide) kfX11_22 dX11_card_16 hv4 ?_
    refine ev_iload_n (pc := 19) X 1 dX11_card_19 rfl rfl ?_
    obtain ⟨v6, w5, hc, h⟩ := eB2 h
    refine ev_callS_i (pc := 20) (As := [.ref v4, .int x1]) (S := [.int (0 : Int32), .int x2]) X hwX11_cardsOf klX11_137 htX11_cardsOf ⟨Nat.le_of_ble_eq_true rfl, Nat.le_of_ble_eq_true rfl⟩ ⟨Nat.le_refl _, Nat.le_refl _⟩ rfl (Nat.le_of_ble_eq_true rfl) dX11_card_20 rfl (mX11_cardsOf hc) ?_
    refine ev_iconst (pc := 23) (v := (1 : Int32)) X dX11_card_23 rfl ?_
    refine ev_isub (pc := 24) X dX11_card_24 ?_
    obtain ⟨v8, w7, hc, h⟩ := eB2 h
    refine ev_callS_i (pc := 25) (As := [.int x2, .int (0 : Int32), .int (v6 - (1 : Int32))]) (S := []) X hwX11_in klX11_54 htX11_in ⟨Nat.le_of_ble_eq_true rfl, Nat.le_of_ble_eq_true rfl⟩ ⟨Nat.le_refl _, Nat.le_refl _⟩ rfl (Nat.le_of_ble_eq_true rfl) dX11_card_25 rfl (mX11_in hc) ?_
    refine ev_if_eq (pc := 28) X 43 dX11_card_28 rfl (fun hc => ?_) (fun hc => ?_)
    · rw [if_pos hc] at h
      exact ev_weak (pc := 43) [] rfl (sX11_card_43  _ _ h p e s m args below meth c r0 A X)
    · rw [if_neg hc] at h
      refine ev_aload_n (pc := 31) X 0 dX11_card_31 rfl rfl ?_
      obtain ⟨v9, hv9, h⟩ := eBi h
      refine ev_getR (pc := 32) X hcX11 (k := 13) (by decide) kfX11_22 dX11_card_32 hv9 ?_
      refine ev_iload_n (pc := 35) X 1 dX11_card_35 rfl rfl ?_
      refine ev_iload_n (pc := 36) X 2 dX11_card_36 rfl rfl ?_
      obtain ⟨v11, w10, hc, h⟩ := eB2 h
      refine ev_callS_i (pc := 37) (As := [.ref v9, .int x1, .int x2]) (S := []) X hwX11_cardAt klX11_133 htX11_cardAt ⟨Nat.le_of_ble_eq_true rfl, Nat.le_of_ble_eq_true rfl⟩ ⟨Nat.le_refl _, Nat.le_refl _⟩ rfl (Nat.le_of_ble_eq_true rfl) dX11_card_37 rfl (mX11_cardAt hc) ?_
      refine ev_goto (pc := 40) X 44 dX11_card_40 rfl ?_
      obtain rfl := Option.some.inj h
      exact ev_iret (pc := 44) X dX11_card_44
def fX11_card (a0 : Nat) (a1 : Int32) (a2 : Int32) (w : eW) : Option (Int32 × eW) := bif eO w a0 11 then fX11_card_0 a0 a1 a2 w else none
theorem mX11_card {a0 : Nat} {a1 : Int32} {a2 : Int32} {w : eW} {v : Int32} {w' : eW} (h : fX11_card a0 a1 a2 w = some (v, w')) : eO w a0 11 = true ∧ eMN l D cI cZ 2 yX11_card cX11_card 3 (some .int) [.ref a0, .int a1, .int a2] w (some (.int v)) w' := by
  obtain ⟨h0, h⟩ := eBif h
  exact ⟨h0, eMN_of [(0, .ref a0), (1, .int a1), (2, .int a2)] (plainFor_of_name (by decide)) (fun _ => rfl) (fun _ => Nat.le_of_ble_eq_true rfl) (fun p e s m args below meth c r0 A X => ev_weak (pc := 0) [0, 1, 2] rfl (sX11_card_0 _ _ _ _ _ h p e s m args below meth c r0 A X))⟩
theorem dX11_builds_0 : decode cX11_builds 0 = .ok (.iconst 0, 1) := by decide +kernel
theorem dX11_builds_1 : decode cX11_builds 1 = .ok (.istore_n 2, 1) := by decide +kernel
theorem dX11_builds_2 : decode cX11_builds 2 = .ok (.iload_n 2, 1) := by decide +kernel
theorem dX11_builds_3 : decode cX11_builds 3 = .ok (.bipush 20, 2) := by decide +kernel
theorem dX11_builds_5 : decode cX11_builds 5 = .ok (.if_icmp .ge 23, 3) := by decide +kernel
theorem dX11_builds_8 : decode cX11_builds 8 = .ok (.aload_n 0, 1) := by decide +kernel
theorem dX11_builds_9 : decode cX11_builds 9 = .ok (.getfield 38, 3) := by decide +kernel
theorem dX11_builds_12 : decode cX11_builds 12 = .ok (.iload_n 2, 1) := by decide +kernel
theorem dX11_builds_13 : decode cX11_builds 13 = .ok (.iconst 0, 1) := by decide +kernel
theorem dX11_builds_14 : decode cX11_builds 14 = .ok (.iastore, 1) := by decide +kernel
theorem dX11_builds_15 : decode cX11_builds 15 = .ok (.aload_n 0, 1) := by decide +kernel
theorem dX11_builds_16 : decode cX11_builds 16 = .ok (.getfield 41, 3) := by decide +kernel
theorem dX11_builds_19 : decode cX11_builds 19 = .ok (.iload_n 2, 1) := by decide +kernel
theorem dX11_builds_20 : decode cX11_builds 20 = .ok (.iconst 0, 1) := by decide +kernel
theorem dX11_builds_21 : decode cX11_builds 21 = .ok (.iastore, 1) := by decide +kernel
theorem dX11_builds_22 : decode cX11_builds 22 = .ok (.iinc 2 1, 3) := by decide +kernel
theorem dX11_builds_25 : decode cX11_builds 25 = .ok (.goto (-23), 3) := by decide +kernel
theorem dX11_builds_28 : decode cX11_builds 28 = .ok (.iconst 0, 1) := by decide +kernel
theorem dX11_builds_29 : decode cX11_builds 29 = .ok (.istore_n 2, 1) := by decide +kernel
theorem dX11_builds_30 : decode cX11_builds 30 = .ok (.iload_n 2, 1) := by decide +kernel
theorem dX11_builds_31 : decode cX11_builds 31 = .ok (.aload_n 1, 1) := by decide +kernel
theorem dX11_builds_32 : decode cX11_builds 32 = .ok (.iconst 0, 1) := by decide +kernel
theorem dX11_builds_33 : decode cX11_builds 33 = .ok (.iaload, 1) := by decide +kernel
theorem dX11_builds_34 : decode cX11_builds 34 = .ok (.if_icmp .ge 120, 3) := by decide +kernel
theorem dX11_builds_37 : decode cX11_builds 37 = .ok (.aload_n 1, 1) := by decide +kernel
theorem dX11_builds_38 : decode cX11_builds 38 = .ok (.iload_n 2, 1) := by decide +kernel
theorem dX11_builds_39 : decode cX11_builds 39 = .ok (.invokestatic 129, 3) := by decide +kernel
theorem dX11_builds_42 : decode cX11_builds 42 = .ok (.istore_n 3, 1) := by decide +kernel
theorem dX11_builds_43 : decode cX11_builds 43 = .ok (.iconst 0, 1) := by decide +kernel
theorem dX11_builds_44 : decode cX11_builds 44 = .ok (.istore 4, 2) := by decide +kernel
theorem dX11_builds_46 : decode cX11_builds 46 = .ok (.iload 4, 2) := by decide +kernel
theorem dX11_builds_48 : decode cX11_builds 48 = .ok (.aload_n 1, 1) := by decide +kernel
theorem dX11_builds_49 : decode cX11_builds 49 = .ok (.iload_n 2, 1) := by decide +kernel
theorem dX11_builds_50 : decode cX11_builds 50 = .ok (.invokestatic 137, 3) := by decide +kernel
theorem dX11_builds_53 : decode cX11_builds 53 = .ok (.if_icmp .ge 59, 3) := by decide +kernel
theorem dX11_builds_56 : decode cX11_builds 56 = .ok (.aload_n 1, 1) := by decide +kernel
theorem dX11_builds_57 : decode cX11_builds 57 = .ok (.iload_n 2, 1) := by decide +kernel
theorem dX11_builds_58 : decode cX11_builds 58 = .ok (.iload 4, 2) := by decide +kernel
theorem dX11_builds_60 : decode cX11_builds 60 = .ok (.invokestatic 133, 3) := by decide +kernel
theorem dX11_builds_63 : decode cX11_builds 63 = .ok (.istore 5, 2) := by decide +kernel
theorem dX11_builds_65 : decode cX11_builds 65 = .ok (.aload_n 0, 1) := by decide +kernel
theorem dX11_builds_66 : decode cX11_builds 66 = .ok (.iload_n 3, 1) := by decide +kernel
theorem dX11_builds_67 : decode cX11_builds 67 = .ok (.iload 5, 2) := by decide +kernel
theorem dX11_builds_69 : decode cX11_builds 69 = .ok (.invokevirtual 123, 3) := by decide +kernel
theorem dX11_builds_72 : decode cX11_builds 72 = .ok (.istore 6, 2) := by decide +kernel
theorem dX11_builds_74 : decode cX11_builds 74 = .ok (.aload_n 0, 1) := by decide +kernel
theorem dX11_builds_75 : decode cX11_builds 75 = .ok (.getfield 38, 3) := by decide +kernel
theorem dX11_builds_78 : decode cX11_builds 78 = .ok (.iload_n 3, 1) := by decide +kernel
theorem dX11_builds_79 : decode cX11_builds 79 = .ok (.dup2, 1) := by decide +kernel
theorem dX11_builds_80 : decode cX11_builds 80 = .ok (.iaload, 1) := by decide +kernel
theorem dX11_builds_81 : decode cX11_builds 81 = .ok (.iconst 1, 1) := by decide +kernel
theorem dX11_builds_82 : decode cX11_builds 82 = .ok (.iload 5, 2) := by decide +kernel
theorem dX11_builds_84 : decode cX11_builds 84 = .ok (.ishl, 1) := by decide +kernel
theorem dX11_builds_85 : decode cX11_builds 85 = .ok (.ior, 1) := by decide +kernel
theorem dX11_builds_86 : decode cX11_builds 86 = .ok (.iastore, 1) := by decide +kernel
theorem dX11_builds_87 : decode cX11_builds 87 = .ok (.aload_n 0, 1) := by decide +kernel
theorem dX11_builds_88 : decode cX11_builds 88 = .ok (.getfield 38, 3) := by decide +kernel
theorem dX11_builds_91 : decode cX11_builds 91 = .ok (.iload 6, 2) := by decide +kernel
theorem dX11_builds_93 : decode cX11_builds 93 = .ok (.dup2, 1) := by decide +kernel
theorem dX11_builds_94 : decode cX11_builds 94 = .ok (.iaload, 1) := by decide +kernel
theorem dX11_builds_95 : decode cX11_builds 95 = .ok (.iconst 1, 1) := by decide +kernel
theorem dX11_builds_96 : decode cX11_builds 96 = .ok (.iload 5, 2) := by decide +kernel
theorem dX11_builds_98 : decode cX11_builds 98 = .ok (.iconst 2, 1) := by decide +kernel
theorem dX11_builds_99 : decode cX11_builds 99 = .ok (.ixor, 1) := by decide +kernel
theorem dX11_builds_100 : decode cX11_builds 100 = .ok (.ishl, 1) := by decide +kernel
theorem dX11_builds_101 : decode cX11_builds 101 = .ok (.ior, 1) := by decide +kernel
theorem dX11_builds_102 : decode cX11_builds 102 = .ok (.iastore, 1) := by decide +kernel
theorem dX11_builds_103 : decode cX11_builds 103 = .ok (.iload 6, 2) := by decide +kernel
theorem dX11_builds_105 : decode cX11_builds 105 = .ok (.istore_n 3, 1) := by decide +kernel
theorem dX11_builds_106 : decode cX11_builds 106 = .ok (.iinc 4 1, 3) := by decide +kernel
theorem dX11_builds_109 : decode cX11_builds 109 = .ok (.goto (-63), 3) := by decide +kernel
theorem dX11_builds_112 : decode cX11_builds 112 = .ok (.aload_n 1, 1) := by decide +kernel
theorem dX11_builds_113 : decode cX11_builds 113 = .ok (.iload_n 2, 1) := by decide +kernel
theorem dX11_builds_114 : decode cX11_builds 114 = .ok (.invokestatic 137, 3) := by decide +kernel
theorem dX11_builds_117 : decode cX11_builds 117 = .ok (.ifCond .le 31, 3) := by decide +kernel
theorem dX11_builds_120 : decode cX11_builds 120 = .ok (.aload_n 0, 1) := by decide +kernel
theorem dX11_builds_121 : decode cX11_builds 121 = .ok (.getfield 41, 3) := by decide +kernel
theorem dX11_builds_124 : decode cX11_builds 124 = .ok (.aload_n 1, 1) := by decide +kernel
theorem dX11_builds_125 : decode cX11_builds 125 = .ok (.iload_n 2, 1) := by decide +kernel
theorem dX11_builds_126 : decode cX11_builds 126 = .ok (.invokestatic 129, 3) := by decide +kernel
theorem dX11_builds_129 : decode cX11_builds 129 = .ok (.dup2, 1) := by decide +kernel
theorem dX11_builds_130 : decode cX11_builds 130 = .ok (.iaload, 1) := by decide +kernel
theorem dX11_builds_131 : decode cX11_builds 131 = .ok (.iconst 1, 1) := by decide +kernel
theorem dX11_builds_132 : decode cX11_builds 132 = .ok (.iload_n 2, 1) := by decide +kernel
theorem dX11_builds_133 : decode cX11_builds 133 = .ok (.ishl, 1) := by decide +kernel
theorem dX11_builds_134 : decode cX11_builds 134 = .ok (.ior, 1) := by decide +kernel
theorem dX11_builds_135 : decode cX11_builds 135 = .ok (.iastore, 1) := by decide +kernel
theorem dX11_builds_136 : decode cX11_builds 136 = .ok (.aload_n 0, 1) := by decide +kernel
theorem dX11_builds_137 : decode cX11_builds 137 = .ok (.getfield 41, 3) := by decide +kernel
theorem dX11_builds_140 : decode cX11_builds 140 = .ok (.iload_n 3, 1) := by decide +kernel
theorem dX11_builds_141 : decode cX11_builds 141 = .ok (.dup2, 1) := by decide +kernel
theorem dX11_builds_142 : decode cX11_builds 142 = .ok (.iaload, 1) := by decide +kernel
theorem dX11_builds_143 : decode cX11_builds 143 = .ok (.iconst 1, 1) := by decide +kernel
theorem dX11_builds_144 : decode cX11_builds 144 = .ok (.iload_n 2, 1) := by decide +kernel
theorem dX11_builds_145 : decode cX11_builds 145 = .ok (.ishl, 1) := by decide +kernel
theorem dX11_builds_146 : decode cX11_builds 146 = .ok (.ior, 1) := by decide +kernel
theorem dX11_builds_147 : decode cX11_builds 147 = .ok (.iastore, 1) := by decide +kernel
theorem dX11_builds_148 : decode cX11_builds 148 = .ok (.iinc 2 1, 3) := by decide +kernel
theorem dX11_builds_151 : decode cX11_builds 151 = .ok (.goto (-121), 3) := by decide +kernel
theorem dX11_builds_154 : decode cX11_builds 154 = .ok (.return_, 1) := by decide +kernel
def fX11_builds_148 (K30 : Nat → Nat → Int32 → eW → Option (eW)) (x0 : Nat) (x1 : Nat) (x2 : Int32) (w : eW) : Option (eW) := K30 x0 x1 (x2 + (1 : Int32)) w
set_option maxRecDepth 20000 in
theorem sX11_builds_148 {K30 : Nat → Nat → Int32 → eW → Option (eW)} (hK30 : ∀ (x0 : Nat) (x1 : Nat) (x2 : Int32) (w : eW) (r : eW), K30 x0 x1 x2 w = some r → eBN l D cI cZ 2 yX11_builds cX11_builds 7 none 30 [(0, .ref x0), (1, .ref x1), (2, .int x2)] [] w none r) (x0 : Nat) (x1 : Nat) (x2 : Int32) (w : eW) (r : eW) (h : fX11_builds_148 K30 x0 x1 x2 w = some r) : eBN l D cI cZ 2 yX11_builds cX11_builds 7 none 148 [(0, .ref x0), (1, .ref x1), (2, .int x2)] [] w none r := by
  rw [fX11_builds_148] at h
  intro p e s m args below meth c r0 A X
  refine ev_iinc (pc := 148) (v := x2 + (1 : Int32)) (L' := [(2, .int (x2 + (1 : Int32))), (0, .ref x0), (1, .ref x1)]) X 2 dX11_builds_148 rfl rfl (by decide) rfl ?_
  refine ev_goto (pc := 151) X 30 dX11_builds_151 rfl ?_
  exact ev_weak (pc := 30) [1, 2, 0] rfl (hK30 _ _ _ _ _ h p e s m args below meth c r0 A X)
def fX11_builds_46 (K30 : Nat → Nat → Int32 → eW → Option (eW)) : Nat → Nat → Nat → Int32 → Int32 → Int32 → eW → Option (eW)
  | 0, _, _, _, _, _, _ => none
  | n + 1, x0, x1, x2, x3, x4, w => eBind2 (fX11_cardsOf x1 x2 w) fun v2 w1 => if v2 ≤ x4 then (eBind2 (fX11_cardsOf x1 x2 w1) fun v4 w3 => if v4 ≤ 0 then (fX11_builds_148 K30 x0 x1 x2 w3) else ((eGR w3 x0 11 20).bind fun v5 => eBind2 (fX11_firstOf x1 x2 w3) fun v7 w6 => (eLd w6 false v5 v7).bind fun v8 => (eSt w6 false v5 v7 (v8 ||| ((1 : Int32) <<< (x2 &&& 31)))).bind fun w9 => (eGR w9 x0 11 20).bind fun v10 => (eLd w9 false v10 x3).bind fun v11 => (eSt w9 false v10 x3 (v11 ||| ((1 : Int32) <<< (x2 &&& 31)))).bind fun w12 => fX11_builds_148 K30 x0 x1 x2 w12)) else (eBind2 (fX11_cardAt x1 x2 x4 w1) fun v14 w13 => eBind2 (fX11_leads x0 x3 v14 w13) fun v16 w15 => (eGR w15 x0 11 19).bind fun v17 => (eLd w15 false v17 x3).bind fun v18 => (eSt w15 false v17 x3 (v18 ||| ((1 : Int32) <<< (v14 &&& 31)))).bind fun w19 => (eGR w19 x0 11 19).bind fun v20 => (eLd w19 false v20 v16).bind fun v21 => (eSt w19 false v20 v16 (v21 ||| ((1 : Int32) <<< ((v14 ^^^ (2 : Int32)) &&& 31)))).bind fun w22 => fX11_builds_46 K30 n x0 x1 x2 v16 (x4 + (1 : Int32)) w22)
set_option maxRecDepth 20000 in
theorem sX11_builds_46 {K30 : Nat → Nat → Int32 → eW → Option (eW)} (hK30 : ∀ (x0 : Nat) (x1 : Nat) (x2 : Int32) (w : eW) (r : eW), K30 x0 x1 x2 w = some r → eBN l D cI cZ 2 yX11_builds cX11_builds 7 none 30 [(0, .ref x0), (1, .ref x1), (2, .int x2)] [] w none r) : ∀ (n : Nat) (x0 : Nat) (x1 : Nat) (x2 : Int32) (x3 : Int32) (x4 : Int32) (w : eW) (r : eW), fX11_builds_46 K30 n x0 x1 x2 x3 x4 w = some r → eBN l D cI cZ 2 yX11_builds cX11_builds 7 none 46 [(0, .ref x0), (1, .ref x1), (2, .int x2), (3, .int x3), (4, .int x4)] [] w none r := by
  intro n
  induction n with
  | zero => intro x0 x1 x2 x3 x4 w r h; exact absurd (show (none : Option (eW)) = some r from h) (by simp)
  | succ n ih =>
    intro x0 x1 x2 x3 x4 w r h
    rw [fX11_builds_46] at h
    intro p e s m args below meth c r0 A X
    refine ev_iload (pc := 46) X 4 dX11_builds_46 rfl ?_
    refine ev_aload_n (pc := 48) X 1 dX11_builds_48 rfl rfl ?_
    refine ev_iload_n (pc := 49) X 2 dX11_builds_49 rfl rfl ?_
    obtain ⟨v2, w1, hc, h⟩ := eB2 h
    refine ev_callS_i (pc := 50) (As := [.ref x1, .int x2]) (S := [.int x4]) X hwX11_cardsOf klX11_137 htX11_cardsOf ⟨Nat.le_of_ble_eq_true rfl, Nat.le_of_ble_eq_true rfl⟩ ⟨Nat.le_refl _, Nat.le_refl _⟩ rfl (Nat.le_of_ble_eq_true rfl) dX11_builds_50 rfl (mX11_cardsOf hc) ?_
    refine ev_icmp_ge (pc := 53) X 112 dX11_builds_53 rfl (fun hc => ?_) (fun hc => ?_)
    · rw [if_pos hc] at h
      refine ev_aload_n (pc := 112) X 1 dX11_builds_112 rfl rfl ?_
      refine ev_iload_n (pc := 113) X 2 dX11_builds_113 rfl rfl ?_
      obtain ⟨v4, w3, hc, h⟩ := eB2 h
      refine ev_callS_i (pc := 114) (As := [.ref x1, .int x2]) (S := []) X hwX11_cardsOf klX11_137 htX11_cardsOf ⟨Nat.le_of_ble_eq_true rfl, Nat.le_of_ble_eq_true rfl⟩ ⟨Nat.le_refl _, Nat.le_refl _⟩ rfl (Nat.le_of_ble_eq_true rfl) dX11_builds_114 rfl (mX11_cardsOf hc) ?_
      refine ev_if_le (pc := 117) X 148 dX11_builds_117 rfl (fun hc => ?_) (fun hc => ?_)
      · rw [if_pos hc] at h
        exact ev_weak (pc := 148) [0, 1, 2] rfl (sX11_builds_148 hK30 _ _ _ _ _ h p e s m args below meth c r0 A X)
      · rw [if_neg hc] at h
        refine ev_aload_n (pc := 120) X 0 dX11_builds_120 rfl rfl ?_
        obtain ⟨v5, hv5, h⟩ := eBi h
        refine ev_getR (pc := 121) X hcX11 (k := 20) (by decide) kfX11_41 dX11_builds_121 hv5 ?_
        refine ev_aload_n (pc := 124) X 1 dX11_builds_124 rfl rfl ?_
        refine ev_iload_n (pc := 125) X 2 dX11_builds_125 rfl rfl ?_
        obtain ⟨v7, w6, hc, h⟩ := eB2 h
        refine ev_callS_i (pc := 126) (As := [.ref x1, .int x2]) (S := [.ref v5]) X hwX11_firstOf klX11_129 htX11_firstOf ⟨Nat.le_of_ble_eq_true rfl, Nat.le_of_ble_eq_true rfl⟩ ⟨Nat.le_refl _, Nat.le_refl _⟩ rfl (Nat.le_of_ble_eq_true rfl) dX11_builds_126 rfl (mX11_firstOf hc) ?_
        refine ev_dup2 (pc := 129) X dX11_builds_129 rfl rfl ?_
        obtain ⟨v8, hv8, h⟩ := eBi h
        refine ev_iald (pc := 130) X dX11_builds_130 hv8 ?_
        refine ev_iconst (pc := 131) (v := (1 : Int32)) X dX11_builds_131 rfl ?_
        refine ev_iload_n (pc := 132) X 2 dX11_builds_132 rfl rfl ?_
        refine ev_ishl (pc := 133) X dX11_builds_133 ?_
        refine ev_ior (pc := 134) X dX11_builds_134 ?_
        obtain ⟨w9, hw9, h⟩ := eBi h
        refine ev_iast (pc := 135) X dX11_builds_135 hw9 ?_
        refine ev_aload_n (pc := 136) X 0 dX11_builds_136 rfl rfl ?_
        obtain ⟨v10, hv10, h⟩ := eBi h
        refine ev_getR (pc := 137) X hcX11 (k := 20) (by decide) kfX11_41 dX11_builds_137 hv10 ?_
        refine ev_iload_n (pc := 140) X 3 dX11_builds_140 rfl rfl ?_
        refine ev_dup2 (pc := 141) X dX11_builds_141 rfl rfl ?_
        obtain ⟨v11, hv11, h⟩ := eBi h
        refine ev_iald (pc := 142) X dX11_builds_142 hv11 ?_
        refine ev_iconst (pc := 143) (v := (1 : Int32)) X dX11_builds_143 rfl ?_
        refine ev_iload_n (pc := 144) X 2 dX11_builds_144 rfl rfl ?_
        refine ev_ishl (pc := 145) X dX11_builds_145 ?_
        refine ev_ior (pc := 146) X dX11_builds_146 ?_
        obtain ⟨w12, hw12, h⟩ := eBi h
        refine ev_iast (pc := 147) X dX11_builds_147 hw12 ?_
        exact ev_weak (pc := 148) [0, 1, 2] rfl (sX11_builds_148 hK30 _ _ _ _ _ h p e s m args below meth c r0 A X)
    · rw [if_neg hc] at h
      refine ev_aload_n (pc := 56) X 1 dX11_builds_56 rfl rfl ?_
      refine ev_iload_n (pc := 57) X 2 dX11_builds_57 rfl rfl ?_
      refine ev_iload (pc := 58) X 4 dX11_builds_58 rfl ?_
      obtain ⟨v14, w13, hc, h⟩ := eB2 h
      refine ev_callS_i (pc := 60) (As := [.ref x1, .int x2, .int x4]) (S := []) X hwX11_cardAt klX11_133 htX11_cardAt ⟨Nat.le_of_ble_eq_true rfl, Nat.le_of_ble_eq_true rfl⟩ ⟨Nat.le_refl _, Nat.le_refl _⟩ rfl (Nat.le_of_ble_eq_true rfl) dX11_builds_60 rfl (mX11_cardAt hc) ?_
      refine ev_istore (pc := 63) (L' := [(5, .int v14), (0, .ref x0), (1, .ref x1), (2, .int x2), (3, .int x3), (4, .int x4)]) X dX11_builds_63 (by decide) rfl ?_
      refine ev_aload_n (pc := 65) X 1 dX11_builds_65 rfl rfl ?_
      refine ev_iload_n (pc := 66) X 4 dX11_builds_66 rfl rfl ?_
      refine ev_iload (pc := 67) X 0 dX11_builds_67 rfl ?_
      obtain ⟨v16, w15, hc, h⟩ := eB2 h
      refine ev_callV_i (pc := 69) (As := [.int x3, .int v14]) (S := []) X hwX11_leads klX11_123 hiX11_leads hsX11_leads (ci := 11) ⟨rfl, rfl⟩ ⟨Nat.le_of_ble_eq_true rfl, Nat.le_of_ble_eq_true rfl⟩ ⟨Nat.le_refl _, Nat.le_refl _⟩ rfl (Nat.le_of_ble_eq_true rfl) dX11_builds_69 rfl (mX11_leads (l := l) (D := D) (cI := cI) (cZ := cZ) hc).1 (mX11_leads hc).2 ?_
      refine ev_istore (pc := 72) (L' := [(6, .int v16), (5, .int v14), (0, .ref x0), (1, .ref x1), (2, .int x2), (3, .int x3), (4, .int x4)]) X dX11_builds_72 (by decide) rfl ?_
      refine ev_aload_n (pc := 74) X 2 dX11_builds_74 rfl rfl ?_
      obtain ⟨v17, hv17, h⟩ := eBi h
      refine ev_getR (pc := 75) X hcX11 (k := 19) (by decide) kfX11_38 dX11_builds_75 hv17 ?_
      refine ev_iload_n (pc := 78) X 5 dX11_builds_78 rfl rfl ?_
      refine ev_dup2 (pc := 79) X dX11_builds_79 rfl rfl ?_
      obtain ⟨v18, hv18, h⟩ := eBi h
      refine ev_iald (pc := 80) X dX11_builds_80 hv18 ?_
      refine ev_iconst (pc := 81) (v := (1 : Int32)) X dX11_builds_81 rfl ?_
      refine ev_iload (pc := 82) X 1 dX11_builds_82 rfl ?_
      refine ev_ishl (pc := 84) X dX11_builds_84 ?_
      refine ev_ior (pc := 85) X dX11_builds_85 ?_
      obtain ⟨w19, hw19, h⟩ := eBi h
      refine ev_iast (pc := 86) X dX11_builds_86 hw19 ?_
      refine ev_aload_n (pc := 87) X 2 dX11_builds_87 rfl rfl ?_
      obtain ⟨v20, hv20, h⟩ := eBi h
      refine ev_getR (pc := 88) X hcX11 (k := 19) (by decide) kfX11_38 dX11_builds_88 hv20 ?_
      refine ev_iload (pc := 91) X 0 dX11_builds_91 rfl ?_
      refine ev_dup2 (pc := 93) X dX11_builds_93 rfl rfl ?_
      obtain ⟨v21, hv21, h⟩ := eBi h
      refine ev_iald (pc := 94) X dX11_builds_94 hv21 ?_
      refine ev_iconst (pc := 95) (v := (1 : Int32)) X dX11_builds_95 rfl ?_
      refine ev_iload (pc := 96) X 1 dX11_builds_96 rfl ?_
      refine ev_iconst (pc := 98) (v := (2 : Int32)) X dX11_builds_98 rfl ?_
      refine ev_ixor (pc := 99) X dX11_builds_99 ?_
      refine ev_ishl (pc := 100) X dX11_builds_100 ?_
      refine ev_ior (pc := 101) X dX11_builds_101 ?_
      obtain ⟨w22, hw22, h⟩ := eBi h
      refine ev_iast (pc := 102) X dX11_builds_102 hw22 ?_
      refine ev_iload (pc := 103) X 0 dX11_builds_103 rfl ?_
      refine ev_istore_n (pc := 105) (L' := [(3, .int v16), (6, .int v16), (5, .int v14), (0, .ref x0), (1, .ref x1), (2, .int x2), (4, .int x4)]) X dX11_builds_105 rfl (by decide) rfl ?_
      refine ev_iinc (pc := 106) (v := x4 + (1 : Int32)) (L' := [(4, .int (x4 + (1 : Int32))), (3, .int v16), (6, .int v16), (5, .int v14), (0, .ref x0), (1, .ref x1), (2, .int x2)]) X 6 dX11_builds_106 rfl rfl (by decide) rfl ?_
      refine ev_goto (pc := 109) X 46 dX11_builds_109 rfl ?_
      exact ev_weak (pc := 46) [4, 5, 6, 1, 0] rfl (ih _ _ _ _ _ _ _ h p e s m args below meth c r0 A X)
def fX11_builds_30 : Nat → Nat → Nat → Int32 → eW → Option (eW)
  | 0, _, _, _, _ => none
  | n + 1, x0, x1, x2, w => (eLd w false x1 (0 : Int32)).bind fun v1 => if v1 ≤ x2 then (some w) else (eBind2 (fX11_firstOf x1 x2 w) fun v3 w2 => fX11_builds_46 (fX11_builds_30 n) eN x0 x1 x2 v3 (0 : Int32) w2)
set_option maxRecDepth 20000 in
theorem sX11_builds_30  : ∀ (n : Nat) (x0 : Nat) (x1 : Nat) (x2 : Int32) (w : eW) (r : eW), fX11_builds_30 n x0 x1 x2 w = some r → eBN l D cI cZ 2 yX11_builds cX11_builds 7 none 30 [(0, .ref x0), (1, .ref x1), (2, .int x2)] [] w none r := by
  intro n
  induction n with
  | zero => intro x0 x1 x2 w r h; exact absurd (show (none : Option (eW)) = some r from h) (by simp)
  | succ n ih =>
    intro x0 x1 x2 w r h
    rw [fX11_builds_30] at h
    intro p e s m args below meth c r0 A X
    refine ev_iload_n (pc := 30) X 2 dX11_builds_30 rfl rfl ?_
    refine ev_aload_n (pc := 31) X 1 dX11_builds_31 rfl rfl ?_
    refine ev_iconst (pc := 32) (v := (0 : Int32)) X dX11_builds_32 rfl ?_
    obtain ⟨v1, hv1, h⟩ := eBi h
    refine ev_iald (pc := 33) X dX11_builds_33 hv1 ?_
    refine ev_icmp_ge (pc := 34) X 154 dX11_builds_34 rfl (fun hc => ?_) (fun hc => ?_)
    · rw [if_pos hc] at h
      obtain rfl := Option.some.inj h
      exact ev_vret (pc := 154) X dX11_builds_154
    · rw [if_neg hc] at h
      refine ev_aload_n (pc := 37) X 1 dX11_builds_37 rfl rfl ?_
      refine ev_iload_n (pc := 38) X 2 dX11_builds_38 rfl rfl ?_
      obtain ⟨v3, w2, hc, h⟩ := eB2 h
      refine ev_callS_i (pc := 39) (As := [.ref x1, .int x2]) (S := []) X hwX11_firstOf klX11_129 htX11_firstOf ⟨Nat.le_of_ble_eq_true rfl, Nat.le_of_ble_eq_true rfl⟩ ⟨Nat.le_refl _, Nat.le_refl _⟩ rfl (Nat.le_of_ble_eq_true rfl) dX11_builds_39 rfl (mX11_firstOf hc) ?_
      refine ev_istore_n (pc := 42) (L' := [(3, .int v3), (0, .ref x0), (1, .ref x1), (2, .int x2)]) X dX11_builds_42 rfl (by decide) rfl ?_
      refine ev_iconst (pc := 43) (v := (0 : Int32)) X dX11_builds_43 rfl ?_
      refine ev_istore (pc := 44) (L' := [(4, .int (0 : Int32)), (3, .int v3), (0, .ref x0), (1, .ref x1), (2, .int x2)]) X dX11_builds_44 (by decide) rfl ?_
      exact ev_weak (pc := 46) [2, 3, 4, 1, 0] rfl (sX11_builds_46 (fun _ _ _ w r hh => ih _ _ _ w r hh) eN _ _ _ _ _ _ _ h p e s m args below meth c r0 A X)
def fX11_builds_2 : Nat → Nat → Nat → Int32 → eW → Option (eW)
  | 0, _, _, _, _ => none
  | n + 1, x0, x1, x2, w => if (20 : Int32) ≤ x2 then (fX11_builds_30 eN x0 x1 (0 : Int32) w) else ((eGR w x0 11 19).bind fun v1 => (eSt w false v1 x2 (0 : Int32)).bind fun w2 => (eGR w2 x0 11 20).bind fun v3 => (eSt w2 false v3 x2 (0 : Int32)).bind fun w4 => fX11_builds_2 n x0 x1 (x2 + (1 : Int32)) w4)
set_option maxRecDepth 20000 in
theorem sX11_builds_2  : ∀ (n : Nat) (x0 : Nat) (x1 : Nat) (x2 : Int32) (w : eW) (r : eW), fX11_builds_2 n x0 x1 x2 w = some r → eBN l D cI cZ 2 yX11_builds cX11_builds 7 none 2 [(0, .ref x0), (1, .ref x1), (2, .int x2)] [] w none r := by
  intro n
  induction n with
  | zero => intro x0 x1 x2 w r h; exact absurd (show (none : Option (eW)) = some r from h) (by simp)
  | succ n ih =>
    intro x0 x1 x2 w r h
    rw [fX11_builds_2] at h
    intro p e s m args below meth c r0 A X
    refine ev_iload_n (pc := 2) X 2 dX11_builds_2 rfl rfl ?_
    refine ev_bipush (pc := 3) (v := (20 : Int32)) X dX11_builds_3 rfl ?_
    refine ev_icmp_ge (pc := 5) X 28 dX11_builds_5 rfl (fun hc => ?_) (fun hc => ?_)
    · rw [if_pos hc] at h
      refine ev_iconst (pc := 28) (v := (0 : Int32)) X dX11_builds_28 rfl ?_
      refine ev_istore_n (pc := 29) (L' := [(2, .int (0 : Int32)), (0, .ref x0), (1, .ref x1)]) X dX11_builds_29 rfl (by decide) rfl ?_
      exact ev_weak (pc := 30) [1, 2, 0] rfl (sX11_builds_30 eN _ _ _ _ _ h p e s m args below meth c r0 A X)
    · rw [if_neg hc] at h
      refine ev_aload_n (pc := 8) X 0 dX11_builds_8 rfl rfl ?_
      obtain ⟨v1, hv1, h⟩ := eBi h
      refine ev_getR (pc := 9) X hcX11 (k := 19) (by decide) kfX11_38 dX11_builds_9 hv1 ?_
      refine ev_iload_n (pc := 12) X 2 dX11_builds_12 rfl rfl ?_
      refine ev_iconst (pc := 13) (v := (0 : Int32)) X dX11_builds_13 rfl ?_
      obtain ⟨w2, hw2, h⟩ := eBi h
      refine ev_iast (pc := 14) X dX11_builds_14 hw2 ?_
      refine ev_aload_n (pc := 15) X 0 dX11_builds_15 rfl rfl ?_
      obtain ⟨v3, hv3, h⟩ := eBi h
      refine ev_getR (pc := 16) X hcX11 (k := 20) (by decide) kfX11_41 dX11_builds_16 hv3 ?_
      refine ev_iload_n (pc := 19) X 2 dX11_builds_19 rfl rfl ?_
      refine ev_iconst (pc := 20) (v := (0 : Int32)) X dX11_builds_20 rfl ?_
      obtain ⟨w4, hw4, h⟩ := eBi h
      refine ev_iast (pc := 21) X dX11_builds_21 hw4 ?_
      refine ev_iinc (pc := 22) (v := x2 + (1 : Int32)) (L' := [(2, .int (x2 + (1 : Int32))), (0, .ref x0), (1, .ref x1)]) X 2 dX11_builds_22 rfl rfl (by decide) rfl ?_
      refine ev_goto (pc := 25) X 2 dX11_builds_25 rfl ?_
      exact ev_weak (pc := 2) [1, 2, 0] rfl (ih _ _ _ _ _ h p e s m args below meth c r0 A X)
def fX11_builds_0 (x0 : Nat) (x1 : Nat) (w : eW) : Option (eW) := fX11_builds_2 eN x0 x1 (0 : Int32) w
set_option maxRecDepth 20000 in
theorem sX11_builds_0  (x0 : Nat) (x1 : Nat) (w : eW) (r : eW) (h : fX11_builds_0 x0 x1 w = some r) : eBN l D cI cZ 2 yX11_builds cX11_builds 7 none 0 [(0, .ref x0), (1, .ref x1)] [] w none r := by
  rw [fX11_builds_0] at h
  intro p e s m args below meth c r0 A X
  refine ev_iconst (pc := 0) (v := (0 : Int32)) X dX11_builds_0 rfl ?_
  refine ev_istore_n (pc := 1) (L' := [(2, .int (0 : Int32)), (0, .ref x0), (1, .ref x1)]) X dX11_builds_1 rfl (by decide) rfl ?_
  exact ev_weak (pc := 2) [1, 2, 0] rfl (sX11_builds_2 eN _ _ _ _ _ h p e s m args below meth c r0 A X)
def fX11_builds (a0 : Nat) (a1 : Nat) (w : eW) : Option (eW) := bif eO w a0 11 then fX11_builds_0 a0 a1 w else none
theorem mX11_builds {a0 : Nat} {a1 : Nat} {w : eW} {w' : eW} (h : fX11_builds a0 a1 w = some w') : eO w a0 11 = true ∧ eMN l D cI cZ 2 yX11_builds cX11_builds 7 none [.ref a0, .ref a1] w none w' := by
  obtain ⟨h0, h⟩ := eBif h
  exact ⟨h0, eMN_of [(0, .ref a0), (1, .ref a1)] (plainFor_of_name (by decide)) (fun _ => rfl) (fun _ => Nat.le_of_ble_eq_true rfl) (fun p e s m args below meth c r0 A X => ev_weak (pc := 0) [0, 1] rfl (sX11_builds_0 _ _ _ _ h p e s m args below meth c r0 A X))⟩
theorem dX11_road_0 : decode cX11_road 0 = .ok (.aload_n 0, 1) := by decide +kernel
theorem dX11_road_1 : decode cX11_road 1 = .ok (.iconst 0, 1) := by decide +kernel
theorem dX11_road_2 : decode cX11_road 2 = .ok (.putfield 50, 3) := by decide +kernel
theorem dX11_road_5 : decode cX11_road 5 = .ok (.aload_n 0, 1) := by decide +kernel
theorem dX11_road_6 : decode cX11_road 6 = .ok (.iload_n 1, 1) := by decide +kernel
theorem dX11_road_7 : decode cX11_road 7 = .ok (.invokevirtual 120, 3) := by decide +kernel
theorem dX11_road_10 : decode cX11_road 10 = .ok (.ifCond .eq 12, 3) := by decide +kernel
theorem dX11_road_13 : decode cX11_road 13 = .ok (.iload_n 2, 1) := by decide +kernel
theorem dX11_road_14 : decode cX11_road 14 = .ok (.iconst 0, 1) := by decide +kernel
theorem dX11_road_15 : decode cX11_road 15 = .ok (.iconst 3, 1) := by decide +kernel
theorem dX11_road_16 : decode cX11_road 16 = .ok (.invokestatic 54, 3) := by decide +kernel
theorem dX11_road_19 : decode cX11_road 19 = .ok (.ifCond .ne 5, 3) := by decide +kernel
theorem dX11_road_22 : decode cX11_road 22 = .ok (.iconst (-1), 1) := by decide +kernel
theorem dX11_road_23 : decode cX11_road 23 = .ok (.ireturn, 1) := by decide +kernel
theorem dX11_road_24 : decode cX11_road 24 = .ok (.aload_n 0, 1) := by decide +kernel
theorem dX11_road_25 : decode cX11_road 25 = .ok (.aload_n 0, 1) := by decide +kernel
theorem dX11_road_26 : decode cX11_road 26 = .ok (.getfield 22, 3) := by decide +kernel
theorem dX11_road_29 : decode cX11_road 29 = .ok (.invokevirtual 152, 3) := by decide +kernel
theorem dX11_road_32 : decode cX11_road 32 = .ok (.aload_n 0, 1) := by decide +kernel
theorem dX11_road_33 : decode cX11_road 33 = .ok (.getfield 38, 3) := by decide +kernel
theorem dX11_road_36 : decode cX11_road 36 = .ok (.iload_n 1, 1) := by decide +kernel
theorem dX11_road_37 : decode cX11_road 37 = .ok (.iaload, 1) := by decide +kernel
theorem dX11_road_38 : decode cX11_road 38 = .ok (.iload_n 2, 1) := by decide +kernel
theorem dX11_road_39 : decode cX11_road 39 = .ok (.ishr, 1) := by decide +kernel
theorem dX11_road_40 : decode cX11_road 40 = .ok (.iconst 1, 1) := by decide +kernel
theorem dX11_road_41 : decode cX11_road 41 = .ok (.iand, 1) := by decide +kernel
theorem dX11_road_42 : decode cX11_road 42 = .ok (.ireturn, 1) := by decide +kernel
def fX11_road_0 (x0 : Nat) (x1 : Int32) (x2 : Int32) (w : eW) : Option (Int32 × eW) := (eP w x0 11 0 (.int (0 : Int32))).bind fun w1 => eBind2 (fX11_isCell x0 x1 w1) fun v3 w2 => if v3 = 0 then (some ((-1 : Int32), w2)) else (eBind2 (fX11_in x2 (0 : Int32) (3 : Int32) w2) fun v5 w4 => if v5 = 0 then (some ((-1 : Int32), w4)) else ((eGR w4 x0 11 13).bind fun v6 => (fX11_builds x0 v6 w4).bind fun w7 => (eGR w7 x0 11 19).bind fun v8 => (eLd w7 false v8 x1).bind fun v9 => some ((v9 >>> (x2 &&& 31)) &&& (1 : Int32), w7)))
set_option maxRecDepth 20000 in
theorem sX11_road_0  (x0 : Nat) (x1 : Int32) (x2 : Int32) (w : eW) (r : Int32 × eW) (h : fX11_road_0 x0 x1 x2 w = some r) : eBN l D cI cZ 3 yX11_road cX11_road 3 (some .int) 0 [(0, .ref x0), (1, .int x1), (2, .int x2)] [] w (some (.int r.1)) r.2 := by
  rw [fX11_road_0] at h
  intro p e s m args below meth c r0 A X
  refine ev_aload_n (pc := 0) X 0 dX11_road_0 rfl rfl ?_
  refine ev_iconst (pc := 1) (v := (0 : Int32)) X dX11_road_1 rfl ?_
  obtain ⟨w1, hw1, h⟩ := eBi h
  refine ev_putI (pc := 2) X hcX11 (k := 0) (by decide) kfX11_50 rfl rfl dX11_road_2 hw1 ?_
  refine ev_aload_n (pc := 5) X 0 dX11_road_5 rfl rfl ?_
  refine ev_iload_n (pc := 6) X 1 dX11_road_6 rfl rfl ?_
  obtain ⟨v3, w2, hc, h⟩ := eB2 h
  refine ev_callV_i (pc := 7) (As := [.int x1]) (S := []) X hwX11_isCell klX11_120 hiX11_isCell hsX11_isCell (ci := 11) ⟨rfl, rfl⟩ ⟨Nat.le_of_ble_eq_true rfl, Nat.le_of_ble_eq_true rfl⟩ ⟨Nat.le_refl _, Nat.le_refl _⟩ rfl (Nat.le_of_ble_eq_true rfl) dX11_road_7 rfl (mX11_isCell (l := l) (D := D) (cI := cI) (cZ := cZ) hc).1 (mX11_isCell hc).2 ?_
  refine ev_if_eq (pc := 10) X 22 dX11_road_10 rfl (fun hc => ?_) (fun hc => ?_)
  · rw [if_pos hc] at h
    refine ev_iconst (pc := 22) (v := (-1 : Int32)) X dX11_road_22 rfl ?_
    obtain rfl := Option.some.inj h
    exact ev_iret (pc := 23) X dX11_road_23
  · rw [if_neg hc] at h
    refine ev_iload_n (pc := 13) X 2 dX11_road_13 rfl rfl ?_
    refine ev_iconst (pc := 14) (v := (0 : Int32)) X dX11_road_14 rfl ?_
    refine ev_iconst (pc := 15) (v := (3 : Int32)) X dX11_road_15 rfl ?_
    obtain ⟨v5, w4, hc, h⟩ := eB2 h
    refine ev_callS_i (pc := 16) (As := [.int x2, .int (0 : Int32), .int (3 : Int32)]) (S := []) X hwX11_in klX11_54 htX11_in ⟨Nat.le_of_ble_eq_true rfl, Nat.le_of_ble_eq_true rfl⟩ ⟨Nat.le_refl _, Nat.le_refl _⟩ rfl (Nat.le_of_ble_eq_true rfl) dX11_road_16 rfl (mX11_in hc) ?_
    refine ev_if_ne (pc := 19) X 24 dX11_road_19 rfl (fun hc => ?_) (fun hc => ?_)
    · rw [if_neg hc] at h
      refine ev_aload_n (pc := 24) X 0 dX11_road_24 rfl rfl ?_
      refine ev_aload_n (pc := 25) X 0 dX11_road_25 rfl rfl ?_
      obtain ⟨v6, hv6, h⟩ := eBi h
      refine ev_getR (pc := 26) X hcX11 (k := 13) (by decide) kfX11_22 dX11_road_26 hv6 ?_
      obtain ⟨w7, hc, h⟩ := eBi h
      refine ev_callV_v (pc := 29) (As := [.ref v6]) (S := []) X hwX11_builds klX11_152 hiX11_builds hsX11_builds (ci := 11) ⟨rfl, rfl⟩ ⟨Nat.le_of_ble_eq_true rfl, Nat.le_of_ble_eq_true rfl⟩ ⟨Nat.le_refl _, Nat.le_refl _⟩ rfl (Nat.le_of_ble_eq_true rfl) dX11_road_29 rfl (mX11_builds (l := l) (D := D) (cI := cI) (cZ := cZ) hc).1 (mX11_builds hc).2 ?_
      refine ev_aload_n (pc := 32) X 0 dX11_road_32 rfl rfl ?_
      obtain ⟨v8, hv8, h⟩ := eBi h
      refine ev_getR (pc := 33) X hcX11 (k := 19) (by decide) kfX11_38 dX11_road_33 hv8 ?_
      refine ev_iload_n (pc := 36) X 1 dX11_road_36 rfl rfl ?_
      obtain ⟨v9, hv9, h⟩ := eBi h
      refine ev_iald (pc := 37) X dX11_road_37 hv9 ?_
      refine ev_iload_n (pc := 38) X 2 dX11_road_38 rfl rfl ?_
      refine ev_ishr (pc := 39) X dX11_road_39 ?_
      refine ev_iconst (pc := 40) (v := (1 : Int32)) X dX11_road_40 rfl ?_
      refine ev_iand (pc := 41) X dX11_road_41 ?_
      obtain rfl := Option.some.inj h
      exact ev_iret (pc := 42) X dX11_road_42
    · rw [if_pos hc] at h
      refine ev_iconst (pc := 22) (v := (-1 : Int32)) X dX11_road_22 rfl ?_
      obtain rfl := Option.some.inj h
      exact ev_iret (pc := 23) X dX11_road_23
def fX11_road (a0 : Nat) (a1 : Int32) (a2 : Int32) (w : eW) : Option (Int32 × eW) := bif eO w a0 11 then fX11_road_0 a0 a1 a2 w else none
theorem mX11_road {a0 : Nat} {a1 : Int32} {a2 : Int32} {w : eW} {v : Int32} {w' : eW} (h : fX11_road a0 a1 a2 w = some (v, w')) : eO w a0 11 = true ∧ eMN l D cI cZ 3 yX11_road cX11_road 3 (some .int) [.ref a0, .int a1, .int a2] w (some (.int v)) w' := by
  obtain ⟨h0, h⟩ := eBif h
  exact ⟨h0, eMN_of [(0, .ref a0), (1, .int a1), (2, .int a2)] (plainFor_of_name (by decide)) (fun _ => rfl) (fun _ => Nat.le_of_ble_eq_true rfl) (fun p e s m args below meth c r0 A X => ev_weak (pc := 0) [0, 1, 2] rfl (sX11_road_0 _ _ _ _ _ h p e s m args below meth c r0 A X))⟩
theorem dX11_spreads_0 : decode cX11_spreads 0 = .ok (.iconst 0, 1) := by decide +kernel
theorem dX11_spreads_1 : decode cX11_spreads 1 = .ok (.istore_n 2, 1) := by decide +kernel
theorem dX11_spreads_2 : decode cX11_spreads 2 = .ok (.iload_n 2, 1) := by decide +kernel
theorem dX11_spreads_3 : decode cX11_spreads 3 = .ok (.bipush 20, 2) := by decide +kernel
theorem dX11_spreads_5 : decode cX11_spreads 5 = .ok (.if_icmp .ge 17, 3) := by decide +kernel
theorem dX11_spreads_8 : decode cX11_spreads 8 = .ok (.aload_n 0, 1) := by decide +kernel
theorem dX11_spreads_9 : decode cX11_spreads 9 = .ok (.getfield 44, 3) := by decide +kernel
theorem dX11_spreads_12 : decode cX11_spreads 12 = .ok (.iload_n 2, 1) := by decide +kernel
theorem dX11_spreads_13 : decode cX11_spreads 13 = .ok (.ldc 156, 2) := by decide +kernel
theorem dX11_spreads_15 : decode cX11_spreads 15 = .ok (.iastore, 1) := by decide +kernel
theorem dX11_spreads_16 : decode cX11_spreads 16 = .ok (.iinc 2 1, 3) := by decide +kernel
theorem dX11_spreads_19 : decode cX11_spreads 19 = .ok (.goto (-17), 3) := by decide +kernel
theorem dX11_spreads_22 : decode cX11_spreads 22 = .ok (.aload_n 0, 1) := by decide +kernel
theorem dX11_spreads_23 : decode cX11_spreads 23 = .ok (.getfield 44, 3) := by decide +kernel
theorem dX11_spreads_26 : decode cX11_spreads 26 = .ok (.iload_n 1, 1) := by decide +kernel
theorem dX11_spreads_27 : decode cX11_spreads 27 = .ok (.iconst 0, 1) := by decide +kernel
theorem dX11_spreads_28 : decode cX11_spreads 28 = .ok (.iastore, 1) := by decide +kernel
theorem dX11_spreads_29 : decode cX11_spreads 29 = .ok (.iconst 0, 1) := by decide +kernel
theorem dX11_spreads_30 : decode cX11_spreads 30 = .ok (.istore_n 2, 1) := by decide +kernel
theorem dX11_spreads_31 : decode cX11_spreads 31 = .ok (.iload_n 2, 1) := by decide +kernel
theorem dX11_spreads_32 : decode cX11_spreads 32 = .ok (.aload_n 0, 1) := by decide +kernel
theorem dX11_spreads_33 : decode cX11_spreads 33 = .ok (.invokevirtual 116, 3) := by decide +kernel
theorem dX11_spreads_36 : decode cX11_spreads 36 = .ok (.if_icmp .ge 139, 3) := by decide +kernel
theorem dX11_spreads_39 : decode cX11_spreads 39 = .ok (.iconst 0, 1) := by decide +kernel
theorem dX11_spreads_40 : decode cX11_spreads 40 = .ok (.istore_n 3, 1) := by decide +kernel
theorem dX11_spreads_41 : decode cX11_spreads 41 = .ok (.iload_n 3, 1) := by decide +kernel
theorem dX11_spreads_42 : decode cX11_spreads 42 = .ok (.aload_n 0, 1) := by decide +kernel
theorem dX11_spreads_43 : decode cX11_spreads 43 = .ok (.invokevirtual 116, 3) := by decide +kernel
theorem dX11_spreads_46 : decode cX11_spreads 46 = .ok (.if_icmp .ge 123, 3) := by decide +kernel
theorem dX11_spreads_49 : decode cX11_spreads 49 = .ok (.iconst 0, 1) := by decide +kernel
theorem dX11_spreads_50 : decode cX11_spreads 50 = .ok (.istore 4, 2) := by decide +kernel
theorem dX11_spreads_52 : decode cX11_spreads 52 = .ok (.iload 4, 2) := by decide +kernel
theorem dX11_spreads_54 : decode cX11_spreads 54 = .ok (.iconst 4, 1) := by decide +kernel
theorem dX11_spreads_55 : decode cX11_spreads 55 = .ok (.if_icmp .ge 108, 3) := by decide +kernel
theorem dX11_spreads_58 : decode cX11_spreads 58 = .ok (.aload_n 0, 1) := by decide +kernel
theorem dX11_spreads_59 : decode cX11_spreads 59 = .ok (.getfield 44, 3) := by decide +kernel
theorem dX11_spreads_62 : decode cX11_spreads 62 = .ok (.iload_n 3, 1) := by decide +kernel
theorem dX11_spreads_63 : decode cX11_spreads 63 = .ok (.iaload, 1) := by decide +kernel
theorem dX11_spreads_64 : decode cX11_spreads 64 = .ok (.ldc 156, 2) := by decide +kernel
theorem dX11_spreads_66 : decode cX11_spreads 66 = .ok (.if_icmp .ge 22, 3) := by decide +kernel
theorem dX11_spreads_69 : decode cX11_spreads 69 = .ok (.aload_n 0, 1) := by decide +kernel
theorem dX11_spreads_70 : decode cX11_spreads 70 = .ok (.getfield 38, 3) := by decide +kernel
theorem dX11_spreads_73 : decode cX11_spreads 73 = .ok (.iload_n 3, 1) := by decide +kernel
theorem dX11_spreads_74 : decode cX11_spreads 74 = .ok (.iaload, 1) := by decide +kernel
theorem dX11_spreads_75 : decode cX11_spreads 75 = .ok (.iload 4, 2) := by decide +kernel
theorem dX11_spreads_77 : decode cX11_spreads 77 = .ok (.ishr, 1) := by decide +kernel
theorem dX11_spreads_78 : decode cX11_spreads 78 = .ok (.iconst 1, 1) := by decide +kernel
theorem dX11_spreads_79 : decode cX11_spreads 79 = .ok (.iand, 1) := by decide +kernel
theorem dX11_spreads_80 : decode cX11_spreads 80 = .ok (.iconst 1, 1) := by decide +kernel
theorem dX11_spreads_81 : decode cX11_spreads 81 = .ok (.if_icmp .ne 7, 3) := by decide +kernel
theorem dX11_spreads_84 : decode cX11_spreads 84 = .ok (.iconst 1, 1) := by decide +kernel
theorem dX11_spreads_85 : decode cX11_spreads 85 = .ok (.goto 4, 3) := by decide +kernel
theorem dX11_spreads_88 : decode cX11_spreads 88 = .ok (.iconst 0, 1) := by decide +kernel
theorem dX11_spreads_89 : decode cX11_spreads 89 = .ok (.istore 5, 2) := by decide +kernel
theorem dX11_spreads_91 : decode cX11_spreads 91 = .ok (.iload 5, 2) := by decide +kernel
theorem dX11_spreads_93 : decode cX11_spreads 93 = .ok (.ifCond .eq 13, 3) := by decide +kernel
theorem dX11_spreads_96 : decode cX11_spreads 96 = .ok (.aload_n 0, 1) := by decide +kernel
theorem dX11_spreads_97 : decode cX11_spreads 97 = .ok (.iload_n 3, 1) := by decide +kernel
theorem dX11_spreads_98 : decode cX11_spreads 98 = .ok (.iload 4, 2) := by decide +kernel
theorem dX11_spreads_100 : decode cX11_spreads 100 = .ok (.invokevirtual 123, 3) := by decide +kernel
theorem dX11_spreads_103 : decode cX11_spreads 103 = .ok (.goto 4, 3) := by decide +kernel
theorem dX11_spreads_106 : decode cX11_spreads 106 = .ok (.iload_n 3, 1) := by decide +kernel
theorem dX11_spreads_107 : decode cX11_spreads 107 = .ok (.istore 6, 2) := by decide +kernel
theorem dX11_spreads_109 : decode cX11_spreads 109 = .ok (.aload_n 0, 1) := by decide +kernel
theorem dX11_spreads_110 : decode cX11_spreads 110 = .ok (.getfield 44, 3) := by decide +kernel
theorem dX11_spreads_113 : decode cX11_spreads 113 = .ok (.iload 6, 2) := by decide +kernel
theorem dX11_spreads_115 : decode cX11_spreads 115 = .ok (.iload 5, 2) := by decide +kernel
theorem dX11_spreads_117 : decode cX11_spreads 117 = .ok (.ifCond .eq 32, 3) := by decide +kernel
theorem dX11_spreads_120 : decode cX11_spreads 120 = .ok (.aload_n 0, 1) := by decide +kernel
theorem dX11_spreads_121 : decode cX11_spreads 121 = .ok (.getfield 44, 3) := by decide +kernel
theorem dX11_spreads_124 : decode cX11_spreads 124 = .ok (.iload_n 3, 1) := by decide +kernel
theorem dX11_spreads_125 : decode cX11_spreads 125 = .ok (.iaload, 1) := by decide +kernel
theorem dX11_spreads_126 : decode cX11_spreads 126 = .ok (.iconst 1, 1) := by decide +kernel
theorem dX11_spreads_127 : decode cX11_spreads 127 = .ok (.iadd, 1) := by decide +kernel
theorem dX11_spreads_128 : decode cX11_spreads 128 = .ok (.aload_n 0, 1) := by decide +kernel
theorem dX11_spreads_129 : decode cX11_spreads 129 = .ok (.getfield 44, 3) := by decide +kernel
theorem dX11_spreads_132 : decode cX11_spreads 132 = .ok (.iload 6, 2) := by decide +kernel
theorem dX11_spreads_134 : decode cX11_spreads 134 = .ok (.iaload, 1) := by decide +kernel
theorem dX11_spreads_135 : decode cX11_spreads 135 = .ok (.if_icmp .ge 14, 3) := by decide +kernel
theorem dX11_spreads_138 : decode cX11_spreads 138 = .ok (.aload_n 0, 1) := by decide +kernel
theorem dX11_spreads_139 : decode cX11_spreads 139 = .ok (.getfield 44, 3) := by decide +kernel
theorem dX11_spreads_142 : decode cX11_spreads 142 = .ok (.iload_n 3, 1) := by decide +kernel
theorem dX11_spreads_143 : decode cX11_spreads 143 = .ok (.iaload, 1) := by decide +kernel
theorem dX11_spreads_144 : decode cX11_spreads 144 = .ok (.iconst 1, 1) := by decide +kernel
theorem dX11_spreads_145 : decode cX11_spreads 145 = .ok (.iadd, 1) := by decide +kernel
theorem dX11_spreads_146 : decode cX11_spreads 146 = .ok (.goto 10, 3) := by decide +kernel
theorem dX11_spreads_149 : decode cX11_spreads 149 = .ok (.aload_n 0, 1) := by decide +kernel
theorem dX11_spreads_150 : decode cX11_spreads 150 = .ok (.getfield 44, 3) := by decide +kernel
theorem dX11_spreads_153 : decode cX11_spreads 153 = .ok (.iload 6, 2) := by decide +kernel
theorem dX11_spreads_155 : decode cX11_spreads 155 = .ok (.iaload, 1) := by decide +kernel
theorem dX11_spreads_156 : decode cX11_spreads 156 = .ok (.iastore, 1) := by decide +kernel
theorem dX11_spreads_157 : decode cX11_spreads 157 = .ok (.iinc 4 1, 3) := by decide +kernel
theorem dX11_spreads_160 : decode cX11_spreads 160 = .ok (.goto (-108), 3) := by decide +kernel
theorem dX11_spreads_163 : decode cX11_spreads 163 = .ok (.iinc 3 1, 3) := by decide +kernel
theorem dX11_spreads_166 : decode cX11_spreads 166 = .ok (.goto (-125), 3) := by decide +kernel
theorem dX11_spreads_169 : decode cX11_spreads 169 = .ok (.iinc 2 1, 3) := by decide +kernel
theorem dX11_spreads_172 : decode cX11_spreads 172 = .ok (.goto (-141), 3) := by decide +kernel
theorem dX11_spreads_175 : decode cX11_spreads 175 = .ok (.return_, 1) := by decide +kernel
def fX11_spreads_156 (K31 : Nat → Int32 → eW → Option (eW)) (K41 : Nat → Int32 → Int32 → eW → Option (eW)) (K52 : Nat → Int32 → Int32 → Int32 → eW → Option (eW)) (x0 : Nat) (x2 : Int32) (x3 : Int32) (x4 : Int32) (t0 : Nat) (t1 : Int32) (t2 : Int32) (w : eW) : Option (eW) := (eSt w false t0 t1 t2).bind fun w1 => K52 x0 x2 x3 (x4 + (1 : Int32)) w1
set_option maxRecDepth 20000 in
theorem sX11_spreads_156 {K31 : Nat → Int32 → eW → Option (eW)} {K41 : Nat → Int32 → Int32 → eW → Option (eW)} {K52 : Nat → Int32 → Int32 → Int32 → eW → Option (eW)} (hK31 : ∀ (x0 : Nat) (x2 : Int32) (w : eW) (r : eW), K31 x0 x2 w = some r → eBN l D cI cZ 2 yX11_spreads cX11_spreads 7 none 31 [(0, .ref x0), (2, .int x2)] [] w none r) (hK41 : ∀ (x0 : Nat) (x2 : Int32) (x3 : Int32) (w : eW) (r : eW), K41 x0 x2 x3 w = some r → eBN l D cI cZ 2 yX11_spreads cX11_spreads 7 none 41 [(0, .ref x0), (2, .int x2), (3, .int x3)] [] w none r) (hK52 : ∀ (x0 : Nat) (x2 : Int32) (x3 : Int32) (x4 : Int32) (w : eW) (r : eW), K52 x0 x2 x3 x4 w = some r → eBN l D cI cZ 2 yX11_spreads cX11_spreads 7 none 52 [(0, .ref x0), (2, .int x2), (3, .int x3), (4, .int x4)] [] w none r) (x0 : Nat) (x2 : Int32) (x3 : Int32) (x4 : Int32) (t0 : Nat) (t1 : Int32) (t2 : Int32) (w : eW) (r : eW) (h : fX11_spreads_156 K31 K41 K52 x0 x2 x3 x4 t0 t1 t2 w = some r) : eBN l D cI cZ 2 yX11_spreads cX11_spreads 7 none 156 [(0, .ref x0), (2, .int x2), (3, .int x3), (4, .int x4)] [.int t2, .int t1, .ref t0] w none r := by
  rw [fX11_spreads_156] at h
  intro p e s m args below meth c r0 A X
  obtain ⟨w1, hw1, h⟩ := eBi h
  refine ev_iast (pc := 156) X dX11_spreads_156 hw1 ?_
  refine ev_iinc (pc := 157) (v := x4 + (1 : Int32)) (L' := [(4, .int (x4 + (1 : Int32))), (0, .ref x0), (2, .int x2), (3, .int x3)]) X 3 dX11_spreads_157 rfl rfl (by decide) rfl ?_
  refine ev_goto (pc := 160) X 52 dX11_spreads_160 rfl ?_
  exact ev_weak (pc := 52) [1, 2, 3, 0] rfl (hK52 _ _ _ _ _ _ h p e s m args below meth c r0 A X)
def fX11_spreads_149 (K31 : Nat → Int32 → eW → Option (eW)) (K41 : Nat → Int32 → Int32 → eW → Option (eW)) (K52 : Nat → Int32 → Int32 → Int32 → eW → Option (eW)) (x0 : Nat) (x2 : Int32) (x3 : Int32) (x4 : Int32) (x6 : Int32) (t0 : Nat) (t1 : Int32) (w : eW) : Option (eW) := (eGR w x0 11 21).bind fun v1 => (eLd w false v1 x6).bind fun v2 => fX11_spreads_156 K31 K41 K52 x0 x2 x3 x4 t0 t1 v2 w
set_option maxRecDepth 20000 in
theorem sX11_spreads_149 {K31 : Nat → Int32 → eW → Option (eW)} {K41 : Nat → Int32 → Int32 → eW → Option (eW)} {K52 : Nat → Int32 → Int32 → Int32 → eW → Option (eW)} (hK31 : ∀ (x0 : Nat) (x2 : Int32) (w : eW) (r : eW), K31 x0 x2 w = some r → eBN l D cI cZ 2 yX11_spreads cX11_spreads 7 none 31 [(0, .ref x0), (2, .int x2)] [] w none r) (hK41 : ∀ (x0 : Nat) (x2 : Int32) (x3 : Int32) (w : eW) (r : eW), K41 x0 x2 x3 w = some r → eBN l D cI cZ 2 yX11_spreads cX11_spreads 7 none 41 [(0, .ref x0), (2, .int x2), (3, .int x3)] [] w none r) (hK52 : ∀ (x0 : Nat) (x2 : Int32) (x3 : Int32) (x4 : Int32) (w : eW) (r : eW), K52 x0 x2 x3 x4 w = some r → eBN l D cI cZ 2 yX11_spreads cX11_spreads 7 none 52 [(0, .ref x0), (2, .int x2), (3, .int x3), (4, .int x4)] [] w none r) (x0 : Nat) (x2 : Int32) (x3 : Int32) (x4 : Int32) (x6 : Int32) (t0 : Nat) (t1 : Int32) (w : eW) (r : eW) (h : fX11_spreads_149 K31 K41 K52 x0 x2 x3 x4 x6 t0 t1 w = some r) : eBN l D cI cZ 2 yX11_spreads cX11_spreads 7 none 149 [(0, .ref x0), (2, .int x2), (3, .int x3), (4, .int x4), (6, .int x6)] [.int t1, .ref t0] w none r := by
  rw [fX11_spreads_149] at h
  intro p e s m args below meth c r0 A X
  refine ev_aload_n (pc := 149) X 0 dX11_spreads_149 rfl rfl ?_
  obtain ⟨v1, hv1, h⟩ := eBi h
  refine ev_getR (pc := 150) X hcX11 (k := 21) (by decide) kfX11_44 dX11_spreads_150 hv1 ?_
  refine ev_iload (pc := 153) X 4 dX11_spreads_153 rfl ?_
  obtain ⟨v2, hv2, h⟩ := eBi h
  refine ev_iald (pc := 155) X dX11_spreads_155 hv2 ?_
  exact ev_weak (pc := 156) [0, 1, 2, 3] rfl (sX11_spreads_156 hK31 hK41 hK52 _ _ _ _ _ _ _ _ _ h p e s m args below meth c r0 A X)
def fX11_spreads_107 (K31 : Nat → Int32 → eW → Option (eW)) (K41 : Nat → Int32 → Int32 → eW → Option (eW)) (K52 : Nat → Int32 → Int32 → Int32 → eW → Option (eW)) (x0 : Nat) (x2 : Int32) (x3 : Int32) (x4 : Int32) (x5 : Int32) (t0 : Int32) (w : eW) : Option (eW) := (eGR w x0 11 21).bind fun v1 => if x5 = 0 then (fX11_spreads_149 K31 K41 K52 x0 x2 x3 x4 t0 v1 t0 w) else ((eGR w x0 11 21).bind fun v2 => (eLd w false v2 x3).bind fun v3 => (eGR w x0 11 21).bind fun v4 => (eLd w false v4 t0).bind fun v5 => if v5 ≤ (v3 + (1 : Int32)) then (fX11_spreads_149 K31 K41 K52 x0 x2 x3 x4 t0 v1 t0 w) else ((eGR w x0 11 21).bind fun v6 => (eLd w false v6 x3).bind fun v7 => fX11_spreads_156 K31 K41 K52 x0 x2 x3 x4 v1 t0 (v7 + (1 : Int32)) w))
set_option maxRecDepth 20000 in
theorem sX11_spreads_107 {K31 : Nat → Int32 → eW → Option (eW)} {K41 : Nat → Int32 → Int32 → eW → Option (eW)} {K52 : Nat → Int32 → Int32 → Int32 → eW → Option (eW)} (hK31 : ∀ (x0 : Nat) (x2 : Int32) (w : eW) (r : eW), K31 x0 x2 w = some r → eBN l D cI cZ 2 yX11_spreads cX11_spreads 7 none 31 [(0, .ref x0), (2, .int x2)] [] w none r) (hK41 : ∀ (x0 : Nat) (x2 : Int32) (x3 : Int32) (w : eW) (r : eW), K41 x0 x2 x3 w = some r → eBN l D cI cZ 2 yX11_spreads cX11_spreads 7 none 41 [(0, .ref x0), (2, .int x2), (3, .int x3)] [] w none r) (hK52 : ∀ (x0 : Nat) (x2 : Int32) (x3 : Int32) (x4 : Int32) (w : eW) (r : eW), K52 x0 x2 x3 x4 w = some r → eBN l D cI cZ 2 yX11_spreads cX11_spreads 7 none 52 [(0, .ref x0), (2, .int x2), (3, .int x3), (4, .int x4)] [] w none r) (x0 : Nat) (x2 : Int32) (x3 : Int32) (x4 : Int32) (x5 : Int32) (t0 : Int32) (w : eW) (r : eW) (h : fX11_spreads_107 K31 K41 K52 x0 x2 x3 x4 x5 t0 w = some r) : eBN l D cI cZ 2 yX11_spreads cX11_spreads 7 none 107 [(0, .ref x0), (2, .int x2), (3, .int x3), (4, .int x4), (5, .int x5)] [.int t0] w none r := by
  rw [fX11_spreads_107] at h
  intro p e s m args below meth c r0 A X
  refine ev_istore (pc := 107) (L' := [(6, .int t0), (0, .ref x0), (2, .int x2), (3, .int x3), (4, .int x4), (5, .int x5)]) X dX11_spreads_107 (by decide) rfl ?_
  refine ev_aload_n (pc := 109) X 1 dX11_spreads_109 rfl rfl ?_
  obtain ⟨v1, hv1, h⟩ := eBi h
  refine ev_getR (pc := 110) X hcX11 (k := 21) (by decide) kfX11_44 dX11_spreads_110 hv1 ?_
  refine ev_iload (pc := 113) X 0 dX11_spreads_113 rfl ?_
  refine ev_iload (pc := 115) X 5 dX11_spreads_115 rfl ?_
  refine ev_if_eq (pc := 117) X 149 dX11_spreads_117 rfl (fun hc => ?_) (fun hc => ?_)
  · rw [if_pos hc] at h
    exact ev_weak (pc := 149) [1, 2, 3, 4, 0] rfl (sX11_spreads_149 hK31 hK41 hK52 _ _ _ _ _ _ _ _ _ h p e s m args below meth c r0 A X)
  · rw [if_neg hc] at h
    refine ev_aload_n (pc := 120) X 1 dX11_spreads_120 rfl rfl ?_
    obtain ⟨v2, hv2, h⟩ := eBi h
    refine ev_getR (pc := 121) X hcX11 (k := 21) (by decide) kfX11_44 dX11_spreads_121 hv2 ?_
    refine ev_iload_n (pc := 124) X 3 dX11_spreads_124 rfl rfl ?_
    obtain ⟨v3, hv3, h⟩ := eBi h
    refine ev_iald (pc := 125) X dX11_spreads_125 hv3 ?_
    refine ev_iconst (pc := 126) (v := (1 : Int32)) X dX11_spreads_126 rfl ?_
    refine ev_iadd (pc := 127) X dX11_spreads_127 ?_
    refine ev_aload_n (pc := 128) X 1 dX11_spreads_128 rfl rfl ?_
    obtain ⟨v4, hv4, h⟩ := eBi h
    refine ev_getR (pc := 129) X hcX11 (k := 21) (by decide) kfX11_44 dX11_spreads_129 hv4 ?_
    refine ev_iload (pc := 132) X 0 dX11_spreads_132 rfl ?_
    obtain ⟨v5, hv5, h⟩ := eBi h
    refine ev_iald (pc := 134) X dX11_spreads_134 hv5 ?_
    refine ev_icmp_ge (pc := 135) X 149 dX11_spreads_135 rfl (fun hc => ?_) (fun hc => ?_)
    · rw [if_pos hc] at h
      exact ev_weak (pc := 149) [1, 2, 3, 4, 0] rfl (sX11_spreads_149 hK31 hK41 hK52 _ _ _ _ _ _ _ _ _ h p e s m args below meth c r0 A X)
    · rw [if_neg hc] at h
      refine ev_aload_n (pc := 138) X 1 dX11_spreads_138 rfl rfl ?_
      obtain ⟨v6, hv6, h⟩ := eBi h
      refine ev_getR (pc := 139) X hcX11 (k := 21) (by decide) kfX11_44 dX11_spreads_139 hv6 ?_
      refine ev_iload_n (pc := 142) X 3 dX11_spreads_142 rfl rfl ?_
      obtain ⟨v7, hv7, h⟩ := eBi h
      refine ev_iald (pc := 143) X dX11_spreads_143 hv7 ?_
      refine ev_iconst (pc := 144) (v := (1 : Int32)) X dX11_spreads_144 rfl ?_
      refine ev_iadd (pc := 145) X dX11_spreads_145 ?_
      refine ev_goto (pc := 146) X 156 dX11_spreads_146 rfl ?_
      exact ev_weak (pc := 156) [1, 2, 3, 4] rfl (sX11_spreads_156 hK31 hK41 hK52 _ _ _ _ _ _ _ _ _ h p e s m args below meth c r0 A X)
def fX11_spreads_89 (K31 : Nat → Int32 → eW → Option (eW)) (K41 : Nat → Int32 → Int32 → eW → Option (eW)) (K52 : Nat → Int32 → Int32 → Int32 → eW → Option (eW)) (x0 : Nat) (x2 : Int32) (x3 : Int32) (x4 : Int32) (t0 : Int32) (w : eW) : Option (eW) := if t0 = 0 then (fX11_spreads_107 K31 K41 K52 x0 x2 x3 x4 t0 x3 w) else (eBind2 (fX11_leads x0 x3 x4 w) fun v2 w1 => fX11_spreads_107 K31 K41 K52 x0 x2 x3 x4 t0 v2 w1)
set_option maxRecDepth 20000 in
theorem sX11_spreads_89 {K31 : Nat → Int32 → eW → Option (eW)} {K41 : Nat → Int32 → Int32 → eW → Option (eW)} {K52 : Nat → Int32 → Int32 → Int32 → eW → Option (eW)} (hK31 : ∀ (x0 : Nat) (x2 : Int32) (w : eW) (r : eW), K31 x0 x2 w = some r → eBN l D cI cZ 2 yX11_spreads cX11_spreads 7 none 31 [(0, .ref x0), (2, .int x2)] [] w none r) (hK41 : ∀ (x0 : Nat) (x2 : Int32) (x3 : Int32) (w : eW) (r : eW), K41 x0 x2 x3 w = some r → eBN l D cI cZ 2 yX11_spreads cX11_spreads 7 none 41 [(0, .ref x0), (2, .int x2), (3, .int x3)] [] w none r) (hK52 : ∀ (x0 : Nat) (x2 : Int32) (x3 : Int32) (x4 : Int32) (w : eW) (r : eW), K52 x0 x2 x3 x4 w = some r → eBN l D cI cZ 2 yX11_spreads cX11_spreads 7 none 52 [(0, .ref x0), (2, .int x2), (3, .int x3), (4, .int x4)] [] w none r) (x0 : Nat) (x2 : Int32) (x3 : Int32) (x4 : Int32) (t0 : Int32) (w : eW) (r : eW) (h : fX11_spreads_89 K31 K41 K52 x0 x2 x3 x4 t0 w = some r) : eBN l D cI cZ 2 yX11_spreads cX11_spreads 7 none 89 [(0, .ref x0), (2, .int x2), (3, .int x3), (4, .int x4)] [.int t0] w none r := by
  rw [fX11_spreads_89] at h
  intro p e s m args below meth c r0 A X
  refine ev_istore (pc := 89) (L' := [(5, .int t0), (0, .ref x0), (2, .int x2), (3, .int x3), (4, .int x4)]) X dX11_spreads_89 (by decide) rfl ?_
  refine ev_iload (pc := 91) X 0 dX11_spreads_91 rfl ?_
  refine ev_if_eq (pc := 93) X 106 dX11_spreads_93 rfl (fun hc => ?_) (fun hc => ?_)
  · rw [if_pos hc] at h
    refine ev_iload_n (pc := 106) X 3 dX11_spreads_106 rfl rfl ?_
    exact ev_weak (pc := 107) [1, 2, 3, 4, 0] rfl (sX11_spreads_107 hK31 hK41 hK52 _ _ _ _ _ _ _ _ h p e s m args below meth c r0 A X)
  · rw [if_neg hc] at h
    refine ev_aload_n (pc := 96) X 1 dX11_spreads_96 rfl rfl ?_
    refine ev_iload_n (pc := 97) X 3 dX11_spreads_97 rfl rfl ?_
    refine ev_iload (pc := 98) X 4 dX11_spreads_98 rfl ?_
    obtain ⟨v2, w1, hc, h⟩ := eB2 h
    refine ev_callV_i (pc := 100) (As := [.int x3, .int x4]) (S := []) X hwX11_leads klX11_123 hiX11_leads hsX11_leads (ci := 11) ⟨rfl, rfl⟩ ⟨Nat.le_of_ble_eq_true rfl, Nat.le_of_ble_eq_true rfl⟩ ⟨Nat.le_refl _, Nat.le_refl _⟩ rfl (Nat.le_of_ble_eq_true rfl) dX11_spreads_100 rfl (mX11_leads (l := l) (D := D) (cI := cI) (cZ := cZ) hc).1 (mX11_leads hc).2 ?_
    refine ev_goto (pc := 103) X 107 dX11_spreads_103 rfl ?_
    exact ev_weak (pc := 107) [1, 2, 3, 4, 0] rfl (sX11_spreads_107 hK31 hK41 hK52 _ _ _ _ _ _ _ _ h p e s m args below meth c r0 A X)
def fX11_spreads_88 (K31 : Nat → Int32 → eW → Option (eW)) (K41 : Nat → Int32 → Int32 → eW → Option (eW)) (K52 : Nat → Int32 → Int32 → Int32 → eW → Option (eW)) (x0 : Nat) (x2 : Int32) (x3 : Int32) (x4 : Int32) (w : eW) : Option (eW) := fX11_spreads_89 K31 K41 K52 x0 x2 x3 x4 (0 : Int32) w
set_option maxRecDepth 20000 in
theorem sX11_spreads_88 {K31 : Nat → Int32 → eW → Option (eW)} {K41 : Nat → Int32 → Int32 → eW → Option (eW)} {K52 : Nat → Int32 → Int32 → Int32 → eW → Option (eW)} (hK31 : ∀ (x0 : Nat) (x2 : Int32) (w : eW) (r : eW), K31 x0 x2 w = some r → eBN l D cI cZ 2 yX11_spreads cX11_spreads 7 none 31 [(0, .ref x0), (2, .int x2)] [] w none r) (hK41 : ∀ (x0 : Nat) (x2 : Int32) (x3 : Int32) (w : eW) (r : eW), K41 x0 x2 x3 w = some r → eBN l D cI cZ 2 yX11_spreads cX11_spreads 7 none 41 [(0, .ref x0), (2, .int x2), (3, .int x3)] [] w none r) (hK52 : ∀ (x0 : Nat) (x2 : Int32) (x3 : Int32) (x4 : Int32) (w : eW) (r : eW), K52 x0 x2 x3 x4 w = some r → eBN l D cI cZ 2 yX11_spreads cX11_spreads 7 none 52 [(0, .ref x0), (2, .int x2), (3, .int x3), (4, .int x4)] [] w none r) (x0 : Nat) (x2 : Int32) (x3 : Int32) (x4 : Int32) (w : eW) (r : eW) (h : fX11_spreads_88 K31 K41 K52 x0 x2 x3 x4 w = some r) : eBN l D cI cZ 2 yX11_spreads cX11_spreads 7 none 88 [(0, .ref x0), (2, .int x2), (3, .int x3), (4, .int x4)] [] w none r := by
  rw [fX11_spreads_88] at h
  intro p e s m args below meth c r0 A X
  refine ev_iconst (pc := 88) (v := (0 : Int32)) X dX11_spreads_88 rfl ?_
  exact ev_weak (pc := 89) [0, 1, 2, 3] rfl (sX11_spreads_89 hK31 hK41 hK52 _ _ _ _ _ _ _ h p e s m args below meth c r0 A X)
def fX11_spreads_52 (K31 : Nat → Int32 → eW → Option (eW)) (K41 : Nat → Int32 → Int32 → eW → Option (eW)) : Nat → Nat → Int32 → Int32 → Int32 → eW → Option (eW)
  | 0, _, _, _, _, _ => none
  | n + 1, x0, x2, x3, x4, w => if (4 : Int32) ≤ x4 then (K41 x0 x2 (x3 + (1 : Int32)) w) else ((eGR w x0 11 21).bind fun v1 => (eLd w false v1 x3).bind fun v2 => if (1000000 : Int32) ≤ v2 then (fX11_spreads_88 K31 K41 (fX11_spreads_52 K31 K41 n) x0 x2 x3 x4 w) else ((eGR w x0 11 19).bind fun v3 => (eLd w false v3 x3).bind fun v4 => if ((v4 >>> (x4 &&& 31)) &&& (1 : Int32)) = (1 : Int32) then (fX11_spreads_89 K31 K41 (fX11_spreads_52 K31 K41 n) x0 x2 x3 x4 (1 : Int32) w) else (fX11_spreads_88 K31 K41 (fX11_spreads_52 K31 K41 n) x0 x2 x3 x4 w)))
set_option maxRecDepth 20000 in
theorem sX11_spreads_52 {K31 : Nat → Int32 → eW → Option (eW)} {K41 : Nat → Int32 → Int32 → eW → Option (eW)} (hK31 : ∀ (x0 : Nat) (x2 : Int32) (w : eW) (r : eW), K31 x0 x2 w = some r → eBN l D cI cZ 2 yX11_spreads cX11_spreads 7 none 31 [(0, .ref x0), (2, .int x2)] [] w none r) (hK41 : ∀ (x0 : Nat) (x2 : Int32) (x3 : Int32) (w : eW) (r : eW), K41 x0 x2 x3 w = some r → eBN l D cI cZ 2 yX11_spreads cX11_spreads 7 none 41 [(0, .ref x0), (2, .int x2), (3, .int x3)] [] w none r) : ∀ (n : Nat) (x0 : Nat) (x2 : Int32) (x3 : Int32) (x4 : Int32) (w : eW) (r : eW), fX11_spreads_52 K31 K41 n x0 x2 x3 x4 w = some r → eBN l D cI cZ 2 yX11_spreads cX11_spreads 7 none 52 [(0, .ref x0), (2, .int x2), (3, .int x3), (4, .int x4)] [] w none r := by
  intro n
  induction n with
  | zero => intro x0 x2 x3 x4 w r h; exact absurd (show (none : Option (eW)) = some r from h) (by simp)
  | succ n ih =>
    intro x0 x2 x3 x4 w r h
    rw [fX11_spreads_52] at h
    intro p e s m args below meth c r0 A X
    refine ev_iload (pc := 52) X 3 dX11_spreads_52 rfl ?_
    refine ev_iconst (pc := 54) (v := (4 : Int32)) X dX11_spreads_54 rfl ?_
    refine ev_icmp_ge (pc := 55) X 163 dX11_spreads_55 rfl (fun hc => ?_) (fun hc => ?_)
    · rw [if_pos hc] at h
      refine ev_iinc (pc := 163) (v := x3 + (1 : Int32)) (L' := [(3, .int (x3 + (1 : Int32))), (0, .ref x0), (2, .int x2), (4, .int x4)]) X 2 dX11_spreads_163 rfl rfl (by decide) rfl ?_
      refine ev_goto (pc := 166) X 41 dX11_spreads_166 rfl ?_
      exact ev_weak (pc := 41) [1, 2, 0] rfl (hK41 _ _ _ _ _ h p e s m args below meth c r0 A X)
    · rw [if_neg hc] at h
      refine ev_aload_n (pc := 58) X 0 dX11_spreads_58 rfl rfl ?_
      obtain ⟨v1, hv1, h⟩ := eBi h
      refine ev_getR (pc := 59) X hcX11 (k := 21) (by decide) kfX11_44 dX11_spreads_59 hv1 ?_
      refine ev_iload_n (pc := 62) X 2 dX11_spreads_62 rfl rfl ?_
      obtain ⟨v2, hv2, h⟩ := eBi h
      refine ev_iald (pc := 63) X dX11_spreads_63 hv2 ?_
      refine ev_ldc (pc := 64) X kkX11_156 dX11_spreads_64 ?_
      refine ev_icmp_ge (pc := 66) X 88 dX11_spreads_66 rfl (fun hc => ?_) (fun hc => ?_)
      · rw [if_pos hc] at h
        exact ev_weak (pc := 88) [0, 1, 2, 3] rfl (sX11_spreads_88 hK31 hK41 (fun _ _ _ _ w r hh => ih _ _ _ _ w r hh) _ _ _ _ _ _ h p e s m args below meth c r0 A X)
      · rw [if_neg hc] at h
        refine ev_aload_n (pc := 69) X 0 dX11_spreads_69 rfl rfl ?_
        obtain ⟨v3, hv3, h⟩ := eBi h
        refine ev_getR (pc := 70) X hcX11 (k := 19) (by decide) kfX11_38 dX11_spreads_70 hv3 ?_
        refine ev_iload_n (pc := 73) X 2 dX11_spreads_73 rfl rfl ?_
        obtain ⟨v4, hv4, h⟩ := eBi h
        refine ev_iald (pc := 74) X dX11_spreads_74 hv4 ?_
        refine ev_iload (pc := 75) X 3 dX11_spreads_75 rfl ?_
        refine ev_ishr (pc := 77) X dX11_spreads_77 ?_
        refine ev_iconst (pc := 78) (v := (1 : Int32)) X dX11_spreads_78 rfl ?_
        refine ev_iand (pc := 79) X dX11_spreads_79 ?_
        refine ev_iconst (pc := 80) (v := (1 : Int32)) X dX11_spreads_80 rfl ?_
        refine ev_icmp_ne (pc := 81) X 88 dX11_spreads_81 rfl (fun hc => ?_) (fun hc => ?_)
        · rw [if_neg hc] at h
          exact ev_weak (pc := 88) [0, 1, 2, 3] rfl (sX11_spreads_88 hK31 hK41 (fun _ _ _ _ w r hh => ih _ _ _ _ w r hh) _ _ _ _ _ _ h p e s m args below meth c r0 A X)
        · rw [if_pos hc] at h
          refine ev_iconst (pc := 84) (v := (1 : Int32)) X dX11_spreads_84 rfl ?_
          refine ev_goto (pc := 85) X 89 dX11_spreads_85 rfl ?_
          exact ev_weak (pc := 89) [0, 1, 2, 3] rfl (sX11_spreads_89 hK31 hK41 (fun _ _ _ _ w r hh => ih _ _ _ _ w r hh) _ _ _ _ _ _ _ h p e s m args below meth c r0 A X)
def fX11_spreads_41 (K31 : Nat → Int32 → eW → Option (eW)) : Nat → Nat → Int32 → Int32 → eW → Option (eW)
  | 0, _, _, _, _ => none
  | n + 1, x0, x2, x3, w => eBind2 (fX11_cells x0 w) fun v2 w1 => if v2 ≤ x3 then (K31 x0 (x2 + (1 : Int32)) w1) else (fX11_spreads_52 K31 (fX11_spreads_41 K31 n) eN x0 x2 x3 (0 : Int32) w1)
set_option maxRecDepth 20000 in
theorem sX11_spreads_41 {K31 : Nat → Int32 → eW → Option (eW)} (hK31 : ∀ (x0 : Nat) (x2 : Int32) (w : eW) (r : eW), K31 x0 x2 w = some r → eBN l D cI cZ 2 yX11_spreads cX11_spreads 7 none 31 [(0, .ref x0), (2, .int x2)] [] w none r) : ∀ (n : Nat) (x0 : Nat) (x2 : Int32) (x3 : Int32) (w : eW) (r : eW), fX11_spreads_41 K31 n x0 x2 x3 w = some r → eBN l D cI cZ 2 yX11_spreads cX11_spreads 7 none 41 [(0, .ref x0), (2, .int x2), (3, .int x3)] [] w none r := by
  intro n
  induction n with
  | zero => intro x0 x2 x3 w r h; exact absurd (show (none : Option (eW)) = some r from h) (by simp)
  | succ n ih =>
    intro x0 x2 x3 w r h
    rw [fX11_spreads_41] at h
    intro p e s m args below meth c r0 A X
    refine ev_iload_n (pc := 41) X 2 dX11_spreads_41 rfl rfl ?_
    refine ev_aload_n (pc := 42) X 0 dX11_spreads_42 rfl rfl ?_
    obtain ⟨v2, w1, hc, h⟩ := eB2 h
    refine ev_callV_i (pc := 43) (As := []) (S := [.int x3]) X hwX11_cells klX11_116 hiX11_cells hsX11_cells (ci := 11) ⟨rfl, rfl⟩ ⟨Nat.le_of_ble_eq_true rfl, Nat.le_of_ble_eq_true rfl⟩ ⟨Nat.le_refl _, Nat.le_refl _⟩ rfl (Nat.le_of_ble_eq_true rfl) dX11_spreads_43 rfl (mX11_cells (l := l) (D := D) (cI := cI) (cZ := cZ) hc).1 (mX11_cells hc).2 ?_
    refine ev_icmp_ge (pc := 46) X 169 dX11_spreads_46 rfl (fun hc => ?_) (fun hc => ?_)
    · rw [if_pos hc] at h
      refine ev_iinc (pc := 169) (v := x2 + (1 : Int32)) (L' := [(2, .int (x2 + (1 : Int32))), (0, .ref x0), (3, .int x3)]) X 1 dX11_spreads_169 rfl rfl (by decide) rfl ?_
      refine ev_goto (pc := 172) X 31 dX11_spreads_172 rfl ?_
      exact ev_weak (pc := 31) [1, 0] rfl (hK31 _ _ _ _ h p e s m args below meth c r0 A X)
    · rw [if_neg hc] at h
      refine ev_iconst (pc := 49) (v := (0 : Int32)) X dX11_spreads_49 rfl ?_
      refine ev_istore (pc := 50) (L' := [(4, .int (0 : Int32)), (0, .ref x0), (2, .int x2), (3, .int x3)]) X dX11_spreads_50 (by decide) rfl ?_
      exact ev_weak (pc := 52) [1, 2, 3, 0] rfl (sX11_spreads_52 hK31 (fun _ _ _ w r hh => ih _ _ _ w r hh) eN _ _ _ _ _ _ h p e s m args below meth c r0 A X)
def fX11_spreads_31 : Nat → Nat → Int32 → eW → Option (eW)
  | 0, _, _, _ => none
  | n + 1, x0, x2, w => eBind2 (fX11_cells x0 w) fun v2 w1 => if v2 ≤ x2 then (some w1) else (fX11_spreads_41 (fX11_spreads_31 n) eN x0 x2 (0 : Int32) w1)
set_option maxRecDepth 20000 in
theorem sX11_spreads_31  : ∀ (n : Nat) (x0 : Nat) (x2 : Int32) (w : eW) (r : eW), fX11_spreads_31 n x0 x2 w = some r → eBN l D cI cZ 2 yX11_spreads cX11_spreads 7 none 31 [(0, .ref x0), (2, .int x2)] [] w none r := by
  intro n
  induction n with
  | zero => intro x0 x2 w r h; exact absurd (show (none : Option (eW)) = some r from h) (by simp)
  | succ n ih =>
    intro x0 x2 w r h
    rw [fX11_spreads_31] at h
    intro p e s m args below meth c r0 A X
    refine ev_iload_n (pc := 31) X 1 dX11_spreads_31 rfl rfl ?_
    refine ev_aload_n (pc := 32) X 0 dX11_spreads_32 rfl rfl ?_
    obtain ⟨v2, w1, hc, h⟩ := eB2 h
    refine ev_callV_i (pc := 33) (As := []) (S := [.int x2]) X hwX11_cells klX11_116 hiX11_cells hsX11_cells (ci := 11) ⟨rfl, rfl⟩ ⟨Nat.le_of_ble_eq_true rfl, Nat.le_of_ble_eq_true rfl⟩ ⟨Nat.le_refl _, Nat.le_refl _⟩ rfl (Nat.le_of_ble_eq_true rfl) dX11_spreads_33 rfl (mX11_cells (l := l) (D := D) (cI := cI) (cZ := cZ) hc).1 (mX11_cells hc).2 ?_
    refine ev_icmp_ge (pc := 36) X 175 dX11_spreads_36 rfl (fun hc => ?_) (fun hc => ?_)
    · rw [if_pos hc] at h
      obtain rfl := Option.some.inj h
      exact ev_vret (pc := 175) X dX11_spreads_175
    · rw [if_neg hc] at h
      refine ev_iconst (pc := 39) (v := (0 : Int32)) X dX11_spreads_39 rfl ?_
      refine ev_istore_n (pc := 40) (L' := [(3, .int (0 : Int32)), (0, .ref x0), (2, .int x2)]) X dX11_spreads_40 rfl (by decide) rfl ?_
      exact ev_weak (pc := 41) [1, 2, 0] rfl (sX11_spreads_41 (fun _ _ w r hh => ih _ _ w r hh) eN _ _ _ _ _ h p e s m args below meth c r0 A X)
def fX11_spreads_2 : Nat → Nat → Int32 → Int32 → eW → Option (eW)
  | 0, _, _, _, _ => none
  | n + 1, x0, x1, x2, w => if (20 : Int32) ≤ x2 then ((eGR w x0 11 21).bind fun v1 => (eSt w false v1 x1 (0 : Int32)).bind fun w2 => fX11_spreads_31 eN x0 (0 : Int32) w2) else ((eGR w x0 11 21).bind fun v3 => (eSt w false v3 x2 (1000000 : Int32)).bind fun w4 => fX11_spreads_2 n x0 x1 (x2 + (1 : Int32)) w4)
set_option maxRecDepth 20000 in
theorem sX11_spreads_2  : ∀ (n : Nat) (x0 : Nat) (x1 : Int32) (x2 : Int32) (w : eW) (r : eW), fX11_spreads_2 n x0 x1 x2 w = some r → eBN l D cI cZ 2 yX11_spreads cX11_spreads 7 none 2 [(0, .ref x0), (1, .int x1), (2, .int x2)] [] w none r := by
  intro n
  induction n with
  | zero => intro x0 x1 x2 w r h; exact absurd (show (none : Option (eW)) = some r from h) (by simp)
  | succ n ih =>
    intro x0 x1 x2 w r h
    rw [fX11_spreads_2] at h
    intro p e s m args below meth c r0 A X
    refine ev_iload_n (pc := 2) X 2 dX11_spreads_2 rfl rfl ?_
    refine ev_bipush (pc := 3) (v := (20 : Int32)) X dX11_spreads_3 rfl ?_
    refine ev_icmp_ge (pc := 5) X 22 dX11_spreads_5 rfl (fun hc => ?_) (fun hc => ?_)
    · rw [if_pos hc] at h
      refine ev_aload_n (pc := 22) X 0 dX11_spreads_22 rfl rfl ?_
      obtain ⟨v1, hv1, h⟩ := eBi h
      refine ev_getR (pc := 23) X hcX11 (k := 21) (by decide) kfX11_44 dX11_spreads_23 hv1 ?_
      refine ev_iload_n (pc := 26) X 1 dX11_spreads_26 rfl rfl ?_
      refine ev_iconst (pc := 27) (v := (0 : Int32)) X dX11_spreads_27 rfl ?_
      obtain ⟨w2, hw2, h⟩ := eBi h
      refine ev_iast (pc := 28) X dX11_spreads_28 hw2 ?_
      refine ev_iconst (pc := 29) (v := (0 : Int32)) X dX11_spreads_29 rfl ?_
      refine ev_istore_n (pc := 30) (L' := [(2, .int (0 : Int32)), (0, .ref x0), (1, .int x1)]) X dX11_spreads_30 rfl (by decide) rfl ?_
      exact ev_weak (pc := 31) [1, 0] rfl (sX11_spreads_31 eN _ _ _ _ h p e s m args below meth c r0 A X)
    · rw [if_neg hc] at h
      refine ev_aload_n (pc := 8) X 0 dX11_spreads_8 rfl rfl ?_
      obtain ⟨v3, hv3, h⟩ := eBi h
      refine ev_getR (pc := 9) X hcX11 (k := 21) (by decide) kfX11_44 dX11_spreads_9 hv3 ?_
      refine ev_iload_n (pc := 12) X 2 dX11_spreads_12 rfl rfl ?_
      refine ev_ldc (pc := 13) X kkX11_156 dX11_spreads_13 ?_
      obtain ⟨w4, hw4, h⟩ := eBi h
      refine ev_iast (pc := 15) X dX11_spreads_15 hw4 ?_
      refine ev_iinc (pc := 16) (v := x2 + (1 : Int32)) (L' := [(2, .int (x2 + (1 : Int32))), (0, .ref x0), (1, .int x1)]) X 2 dX11_spreads_16 rfl rfl (by decide) rfl ?_
      refine ev_goto (pc := 19) X 2 dX11_spreads_19 rfl ?_
      exact ev_weak (pc := 2) [1, 2, 0] rfl (ih _ _ _ _ _ h p e s m args below meth c r0 A X)
def fX11_spreads_0 (x0 : Nat) (x1 : Int32) (w : eW) : Option (eW) := fX11_spreads_2 eN x0 x1 (0 : Int32) w
set_option maxRecDepth 20000 in
theorem sX11_spreads_0  (x0 : Nat) (x1 : Int32) (w : eW) (r : eW) (h : fX11_spreads_0 x0 x1 w = some r) : eBN l D cI cZ 2 yX11_spreads cX11_spreads 7 none 0 [(0, .ref x0), (1, .int x1)] [] w none r := by
  rw [fX11_spreads_0] at h
  intro p e s m args below meth c r0 A X
  refine ev_iconst (pc := 0) (v := (0 : Int32)) X dX11_spreads_0 rfl ?_
  refine ev_istore_n (pc := 1) (L' := [(2, .int (0 : Int32)), (0, .ref x0), (1, .int x1)]) X dX11_spreads_1 rfl (by decide) rfl ?_
  exact ev_weak (pc := 2) [1, 2, 0] rfl (sX11_spreads_2 eN _ _ _ _ _ h p e s m args below meth c r0 A X)
def fX11_spreads (a0 : Nat) (a1 : Int32) (w : eW) : Option (eW) := bif eO w a0 11 then fX11_spreads_0 a0 a1 w else none
theorem mX11_spreads {a0 : Nat} {a1 : Int32} {w : eW} {w' : eW} (h : fX11_spreads a0 a1 w = some w') : eO w a0 11 = true ∧ eMN l D cI cZ 2 yX11_spreads cX11_spreads 7 none [.ref a0, .int a1] w none w' := by
  obtain ⟨h0, h⟩ := eBif h
  exact ⟨h0, eMN_of [(0, .ref a0), (1, .int a1)] (plainFor_of_name (by decide)) (fun _ => rfl) (fun _ => Nat.le_of_ble_eq_true rfl) (fun p e s m args below meth c r0 A X => ev_weak (pc := 0) [0, 1] rfl (sX11_spreads_0 _ _ _ _ h p e s m args below meth c r0 A X))⟩
theorem dX11_piecesOf_0 : decode cX11_piecesOf 0 = .ok (.aload_n 0, 1) := by decide +kernel
theorem dX11_piecesOf_1 : decode cX11_piecesOf 1 = .ok (.aload_n 1, 1) := by decide +kernel
theorem dX11_piecesOf_2 : decode cX11_piecesOf 2 = .ok (.invokevirtual 152, 3) := by decide +kernel
theorem dX11_piecesOf_5 : decode cX11_piecesOf 5 = .ok (.iconst 0, 1) := by decide +kernel
theorem dX11_piecesOf_6 : decode cX11_piecesOf 6 = .ok (.istore_n 2, 1) := by decide +kernel
theorem dX11_piecesOf_7 : decode cX11_piecesOf 7 = .ok (.iconst 0, 1) := by decide +kernel
theorem dX11_piecesOf_8 : decode cX11_piecesOf 8 = .ok (.istore_n 3, 1) := by decide +kernel
theorem dX11_piecesOf_9 : decode cX11_piecesOf 9 = .ok (.iconst 0, 1) := by decide +kernel
theorem dX11_piecesOf_10 : decode cX11_piecesOf 10 = .ok (.istore 4, 2) := by decide +kernel
theorem dX11_piecesOf_12 : decode cX11_piecesOf 12 = .ok (.iload 4, 2) := by decide +kernel
theorem dX11_piecesOf_14 : decode cX11_piecesOf 14 = .ok (.aload_n 0, 1) := by decide +kernel
theorem dX11_piecesOf_15 : decode cX11_piecesOf 15 = .ok (.getfield 13, 3) := by decide +kernel
theorem dX11_piecesOf_18 : decode cX11_piecesOf 18 = .ok (.iconst 2, 1) := by decide +kernel
theorem dX11_piecesOf_19 : decode cX11_piecesOf 19 = .ok (.iaload, 1) := by decide +kernel
theorem dX11_piecesOf_20 : decode cX11_piecesOf 20 = .ok (.if_icmp .ge 80, 3) := by decide +kernel
theorem dX11_piecesOf_23 : decode cX11_piecesOf 23 = .ok (.iload_n 2, 1) := by decide +kernel
theorem dX11_piecesOf_24 : decode cX11_piecesOf 24 = .ok (.iload 4, 2) := by decide +kernel
theorem dX11_piecesOf_26 : decode cX11_piecesOf 26 = .ok (.ishr, 1) := by decide +kernel
theorem dX11_piecesOf_27 : decode cX11_piecesOf 27 = .ok (.iconst 1, 1) := by decide +kernel
theorem dX11_piecesOf_28 : decode cX11_piecesOf 28 = .ok (.iand, 1) := by decide +kernel
theorem dX11_piecesOf_29 : decode cX11_piecesOf 29 = .ok (.ifCond .ne 65, 3) := by decide +kernel
theorem dX11_piecesOf_32 : decode cX11_piecesOf 32 = .ok (.iinc 3 1, 3) := by decide +kernel
theorem dX11_piecesOf_35 : decode cX11_piecesOf 35 = .ok (.aload_n 0, 1) := by decide +kernel
theorem dX11_piecesOf_36 : decode cX11_piecesOf 36 = .ok (.aload_n 0, 1) := by decide +kernel
theorem dX11_piecesOf_37 : decode cX11_piecesOf 37 = .ok (.getfield 19, 3) := by decide +kernel
theorem dX11_piecesOf_40 : decode cX11_piecesOf 40 = .ok (.iload 4, 2) := by decide +kernel
theorem dX11_piecesOf_42 : decode cX11_piecesOf 42 = .ok (.iaload, 1) := by decide +kernel
theorem dX11_piecesOf_43 : decode cX11_piecesOf 43 = .ok (.invokevirtual 157, 3) := by decide +kernel
theorem dX11_piecesOf_46 : decode cX11_piecesOf 46 = .ok (.iconst 0, 1) := by decide +kernel
theorem dX11_piecesOf_47 : decode cX11_piecesOf 47 = .ok (.istore 5, 2) := by decide +kernel
theorem dX11_piecesOf_49 : decode cX11_piecesOf 49 = .ok (.iload 5, 2) := by decide +kernel
theorem dX11_piecesOf_51 : decode cX11_piecesOf 51 = .ok (.aload_n 0, 1) := by decide +kernel
theorem dX11_piecesOf_52 : decode cX11_piecesOf 52 = .ok (.getfield 13, 3) := by decide +kernel
theorem dX11_piecesOf_55 : decode cX11_piecesOf 55 = .ok (.iconst 2, 1) := by decide +kernel
theorem dX11_piecesOf_56 : decode cX11_piecesOf 56 = .ok (.iaload, 1) := by decide +kernel
theorem dX11_piecesOf_57 : decode cX11_piecesOf 57 = .ok (.if_icmp .ge 37, 3) := by decide +kernel
theorem dX11_piecesOf_60 : decode cX11_piecesOf 60 = .ok (.iload_n 2, 1) := by decide +kernel
theorem dX11_piecesOf_61 : decode cX11_piecesOf 61 = .ok (.aload_n 0, 1) := by decide +kernel
theorem dX11_piecesOf_62 : decode cX11_piecesOf 62 = .ok (.getfield 44, 3) := by decide +kernel
theorem dX11_piecesOf_65 : decode cX11_piecesOf 65 = .ok (.aload_n 0, 1) := by decide +kernel
theorem dX11_piecesOf_66 : decode cX11_piecesOf 66 = .ok (.getfield 19, 3) := by decide +kernel
theorem dX11_piecesOf_69 : decode cX11_piecesOf 69 = .ok (.iload 5, 2) := by decide +kernel
theorem dX11_piecesOf_71 : decode cX11_piecesOf 71 = .ok (.iaload, 1) := by decide +kernel
theorem dX11_piecesOf_72 : decode cX11_piecesOf 72 = .ok (.iaload, 1) := by decide +kernel
theorem dX11_piecesOf_73 : decode cX11_piecesOf 73 = .ok (.ldc 156, 2) := by decide +kernel
theorem dX11_piecesOf_75 : decode cX11_piecesOf 75 = .ok (.if_icmp .ge 10, 3) := by decide +kernel
theorem dX11_piecesOf_78 : decode cX11_piecesOf 78 = .ok (.iconst 1, 1) := by decide +kernel
theorem dX11_piecesOf_79 : decode cX11_piecesOf 79 = .ok (.iload 5, 2) := by decide +kernel
theorem dX11_piecesOf_81 : decode cX11_piecesOf 81 = .ok (.ishl, 1) := by decide +kernel
theorem dX11_piecesOf_82 : decode cX11_piecesOf 82 = .ok (.goto 4, 3) := by decide +kernel
theorem dX11_piecesOf_85 : decode cX11_piecesOf 85 = .ok (.iconst 0, 1) := by decide +kernel
theorem dX11_piecesOf_86 : decode cX11_piecesOf 86 = .ok (.ior, 1) := by decide +kernel
theorem dX11_piecesOf_87 : decode cX11_piecesOf 87 = .ok (.istore_n 2, 1) := by decide +kernel
theorem dX11_piecesOf_88 : decode cX11_piecesOf 88 = .ok (.iinc 5 1, 3) := by decide +kernel
theorem dX11_piecesOf_91 : decode cX11_piecesOf 91 = .ok (.goto (-42), 3) := by decide +kernel
theorem dX11_piecesOf_94 : decode cX11_piecesOf 94 = .ok (.iinc 4 1, 3) := by decide +kernel
theorem dX11_piecesOf_97 : decode cX11_piecesOf 97 = .ok (.goto (-85), 3) := by decide +kernel
theorem dX11_piecesOf_100 : decode cX11_piecesOf 100 = .ok (.iload_n 3, 1) := by decide +kernel
theorem dX11_piecesOf_101 : decode cX11_piecesOf 101 = .ok (.ireturn, 1) := by decide +kernel
def fX11_piecesOf_86 (K12 : Nat → Int32 → Int32 → Int32 → eW → Option (Int32 × eW)) (K49 : Nat → Int32 → Int32 → Int32 → Int32 → eW → Option (Int32 × eW)) (x0 : Nat) (x3 : Int32) (x4 : Int32) (x5 : Int32) (t0 : Int32) (t1 : Int32) (w : eW) : Option (Int32 × eW) := K49 x0 (t0 ||| t1) x3 x4 (x5 + (1 : Int32)) w
set_option maxRecDepth 20000 in
theorem sX11_piecesOf_86 {K12 : Nat → Int32 → Int32 → Int32 → eW → Option (Int32 × eW)} {K49 : Nat → Int32 → Int32 → Int32 → Int32 → eW → Option (Int32 × eW)} (hK12 : ∀ (x0 : Nat) (x2 : Int32) (x3 : Int32) (x4 : Int32) (w : eW) (r : Int32 × eW), K12 x0 x2 x3 x4 w = some r → eBN l D cI cZ 3 yX11_piecesOf cX11_piecesOf 6 (some .int) 12 [(0, .ref x0), (2, .int x2), (3, .int x3), (4, .int x4)] [] w (some (.int r.1)) r.2) (hK49 : ∀ (x0 : Nat) (x2 : Int32) (x3 : Int32) (x4 : Int32) (x5 : Int32) (w : eW) (r : Int32 × eW), K49 x0 x2 x3 x4 x5 w = some r → eBN l D cI cZ 3 yX11_piecesOf cX11_piecesOf 6 (some .int) 49 [(0, .ref x0), (2, .int x2), (3, .int x3), (4, .int x4), (5, .int x5)] [] w (some (.int r.1)) r.2) (x0 : Nat) (x3 : Int32) (x4 : Int32) (x5 : Int32) (t0 : Int32) (t1 : Int32) (w : eW) (r : Int32 × eW) (h : fX11_piecesOf_86 K12 K49 x0 x3 x4 x5 t0 t1 w = some r) : eBN l D cI cZ 3 yX11_piecesOf cX11_piecesOf 6 (some .int) 86 [(0, .ref x0), (3, .int x3), (4, .int x4), (5, .int x5)] [.int t1, .int t0] w (some (.int r.1)) r.2 := by
  rw [fX11_piecesOf_86] at h
  intro p e s m args below meth c r0 A X
  refine ev_ior (pc := 86) X dX11_piecesOf_86 ?_
  refine ev_istore_n (pc := 87) (L' := [(2, .int (t0 ||| t1)), (0, .ref x0), (3, .int x3), (4, .int x4), (5, .int x5)]) X dX11_piecesOf_87 rfl (by decide) rfl ?_
  refine ev_iinc (pc := 88) (v := x5 + (1 : Int32)) (L' := [(5, .int (x5 + (1 : Int32))), (2, .int (t0 ||| t1)), (0, .ref x0), (3, .int x3), (4, .int x4)]) X 4 dX11_piecesOf_88 rfl rfl (by decide) rfl ?_
  refine ev_goto (pc := 91) X 49 dX11_piecesOf_91 rfl ?_
  exact ev_weak (pc := 49) [2, 1, 3, 4, 0] rfl (hK49 _ _ _ _ _ _ _ h p e s m args below meth c r0 A X)
def fX11_piecesOf_94 (K12 : Nat → Int32 → Int32 → Int32 → eW → Option (Int32 × eW)) (x0 : Nat) (x2 : Int32) (x3 : Int32) (x4 : Int32) (w : eW) : Option (Int32 × eW) := K12 x0 x2 x3 (x4 + (1 : Int32)) w
set_option maxRecDepth 20000 in
theorem sX11_piecesOf_94 {K12 : Nat → Int32 → Int32 → Int32 → eW → Option (Int32 × eW)} (hK12 : ∀ (x0 : Nat) (x2 : Int32) (x3 : Int32) (x4 : Int32) (w : eW) (r : Int32 × eW), K12 x0 x2 x3 x4 w = some r → eBN l D cI cZ 3 yX11_piecesOf cX11_piecesOf 6 (some .int) 12 [(0, .ref x0), (2, .int x2), (3, .int x3), (4, .int x4)] [] w (some (.int r.1)) r.2) (x0 : Nat) (x2 : Int32) (x3 : Int32) (x4 : Int32) (w : eW) (r : Int32 × eW) (h : fX11_piecesOf_94 K12 x0 x2 x3 x4 w = some r) : eBN l D cI cZ 3 yX11_piecesOf cX11_piecesOf 6 (some .int) 94 [(0, .ref x0), (2, .int x2), (3, .int x3), (4, .int x4)] [] w (some (.int r.1)) r.2 := by
  rw [fX11_piecesOf_94] at h
  intro p e s m args below meth c r0 A X
  refine ev_iinc (pc := 94) (v := x4 + (1 : Int32)) (L' := [(4, .int (x4 + (1 : Int32))), (0, .ref x0), (2, .int x2), (3, .int x3)]) X 3 dX11_piecesOf_94 rfl rfl (by decide) rfl ?_
  refine ev_goto (pc := 97) X 12 dX11_piecesOf_97 rfl ?_
  exact ev_weak (pc := 12) [1, 2, 3, 0] rfl (hK12 _ _ _ _ _ _ h p e s m args below meth c r0 A X)
def fX11_piecesOf_49 (K12 : Nat → Int32 → Int32 → Int32 → eW → Option (Int32 × eW)) : Nat → Nat → Int32 → Int32 → Int32 → Int32 → eW → Option (Int32 × eW)
  | 0, _, _, _, _, _, _ => none
  | n + 1, x0, x2, x3, x4, x5, w => (eGR w x0 11 9).bind fun v1 => (eLd w false v1 (2 : Int32)).bind fun v2 => if v2 ≤ x5 then (fX11_piecesOf_94 K12 x0 x2 x3 x4 w) else ((eGR w x0 11 21).bind fun v3 => (eGR w x0 11 11).bind fun v4 => (eLd w false v4 x5).bind fun v5 => (eLd w false v3 v5).bind fun v6 => if (1000000 : Int32) ≤ v6 then (fX11_piecesOf_86 K12 (fX11_piecesOf_49 K12 n) x0 x3 x4 x5 x2 (0 : Int32) w) else (fX11_piecesOf_86 K12 (fX11_piecesOf_49 K12 n) x0 x3 x4 x5 x2 ((1 : Int32) <<< (x5 &&& 31)) w))
set_option maxRecDepth 20000 in
theorem sX11_piecesOf_49 {K12 : Nat → Int32 → Int32 → Int32 → eW → Option (Int32 × eW)} (hK12 : ∀ (x0 : Nat) (x2 : Int32) (x3 : Int32) (x4 : Int32) (w : eW) (r : Int32 × eW), K12 x0 x2 x3 x4 w = some r → eBN l D cI cZ 3 yX11_piecesOf cX11_piecesOf 6 (some .int) 12 [(0, .ref x0), (2, .int x2), (3, .int x3), (4, .int x4)] [] w (some (.int r.1)) r.2) : ∀ (n : Nat) (x0 : Nat) (x2 : Int32) (x3 : Int32) (x4 : Int32) (x5 : Int32) (w : eW) (r : Int32 × eW), fX11_piecesOf_49 K12 n x0 x2 x3 x4 x5 w = some r → eBN l D cI cZ 3 yX11_piecesOf cX11_piecesOf 6 (some .int) 49 [(0, .ref x0), (2, .int x2), (3, .int x3), (4, .int x4), (5, .int x5)] [] w (some (.int r.1)) r.2 := by
  intro n
  induction n with
  | zero => intro x0 x2 x3 x4 x5 w r h; exact absurd (show (none : Option (Int32 × eW)) = some r from h) (by simp)
  | succ n ih =>
    intro x0 x2 x3 x4 x5 w r h
    rw [fX11_piecesOf_49] at h
    intro p e s m args below meth c r0 A X
    refine ev_iload (pc := 49) X 4 dX11_piecesOf_49 rfl ?_
    refine ev_aload_n (pc := 51) X 0 dX11_piecesOf_51 rfl rfl ?_
    obtain ⟨v1, hv1, h⟩ := eBi h
    refine ev_getR (pc := 52) X hcX11 (k := 9) (by decide) kfX11_13 dX11_piecesOf_52 hv1 ?_
    refine ev_iconst (pc := 55) (v := (2 : Int32)) X dX11_piecesOf_55 rfl ?_
    obtain ⟨v2, hv2, h⟩ := eBi h
    refine ev_iald (pc := 56) X dX11_piecesOf_56 hv2 ?_
    refine ev_icmp_ge (pc := 57) X 94 dX11_piecesOf_57 rfl (fun hc => ?_) (fun hc => ?_)
    · rw [if_pos hc] at h
      exact ev_weak (pc := 94) [0, 1, 2, 3] rfl (sX11_piecesOf_94 hK12 _ _ _ _ _ _ h p e s m args below meth c r0 A X)
    · rw [if_neg hc] at h
      refine ev_iload_n (pc := 60) X 1 dX11_piecesOf_60 rfl rfl ?_
      refine ev_aload_n (pc := 61) X 0 dX11_piecesOf_61 rfl rfl ?_
      obtain ⟨v3, hv3, h⟩ := eBi h
      refine ev_getR (pc := 62) X hcX11 (k := 21) (by decide) kfX11_44 dX11_piecesOf_62 hv3 ?_
      refine ev_aload_n (pc := 65) X 0 dX11_piecesOf_65 rfl rfl ?_
      obtain ⟨v4, hv4, h⟩ := eBi h
      refine ev_getR (pc := 66) X hcX11 (k := 11) (by decide) kfX11_19 dX11_piecesOf_66 hv4 ?_
      refine ev_iload (pc := 69) X 4 dX11_piecesOf_69 rfl ?_
      obtain ⟨v5, hv5, h⟩ := eBi h
      refine ev_iald (pc := 71) X dX11_piecesOf_71 hv5 ?_
      obtain ⟨v6, hv6, h⟩ := eBi h
      refine ev_iald (pc := 72) X dX11_piecesOf_72 hv6 ?_
      refine ev_ldc (pc := 73) X kkX11_156 dX11_piecesOf_73 ?_
      refine ev_icmp_ge (pc := 75) X 85 dX11_piecesOf_75 rfl (fun hc => ?_) (fun hc => ?_)
      · rw [if_pos hc] at h
        refine ev_iconst (pc := 85) (v := (0 : Int32)) X dX11_piecesOf_85 rfl ?_
        exact ev_weak (pc := 86) [0, 2, 3, 4] rfl (sX11_piecesOf_86 hK12 (fun _ _ _ _ _ w r hh => ih _ _ _ _ _ w r hh) _ _ _ _ _ _ _ _ h p e s m args below meth c r0 A X)
      · rw [if_neg hc] at h
        refine ev_iconst (pc := 78) (v := (1 : Int32)) X dX11_piecesOf_78 rfl ?_
        refine ev_iload (pc := 79) X 4 dX11_piecesOf_79 rfl ?_
        refine ev_ishl (pc := 81) X dX11_piecesOf_81 ?_
        refine ev_goto (pc := 82) X 86 dX11_piecesOf_82 rfl ?_
        exact ev_weak (pc := 86) [0, 2, 3, 4] rfl (sX11_piecesOf_86 hK12 (fun _ _ _ _ _ w r hh => ih _ _ _ _ _ w r hh) _ _ _ _ _ _ _ _ h p e s m args below meth c r0 A X)
def fX11_piecesOf_12 : Nat → Nat → Int32 → Int32 → Int32 → eW → Option (Int32 × eW)
  | 0, _, _, _, _, _ => none
  | n + 1, x0, x2, x3, x4, w => (eGR w x0 11 9).bind fun v1 => (eLd w false v1 (2 : Int32)).bind fun v2 => if v2 ≤ x4 then (some (x3, w)) else (if ((x2 >>> (x4 &&& 31)) &&& (1 : Int32)) = 0 then ((eGR w x0 11 11).bind fun v3 => (eLd w false v3 x4).bind fun v4 => (fX11_spreads x0 v4 w).bind fun w5 => fX11_piecesOf_49 (fX11_piecesOf_12 n) eN x0 x2 (x3 + (1 : Int32)) x4 (0 : Int32) w5) else (fX11_piecesOf_94 (fX11_piecesOf_12 n) x0 x2 x3 x4 w))
set_option maxRecDepth 20000 in
theorem sX11_piecesOf_12  : ∀ (n : Nat) (x0 : Nat) (x2 : Int32) (x3 : Int32) (x4 : Int32) (w : eW) (r : Int32 × eW), fX11_piecesOf_12 n x0 x2 x3 x4 w = some r → eBN l D cI cZ 3 yX11_piecesOf cX11_piecesOf 6 (some .int) 12 [(0, .ref x0), (2, .int x2), (3, .int x3), (4, .int x4)] [] w (some (.int r.1)) r.2 := by
  intro n
  induction n with
  | zero => intro x0 x2 x3 x4 w r h; exact absurd (show (none : Option (Int32 × eW)) = some r from h) (by simp)
  | succ n ih =>
    intro x0 x2 x3 x4 w r h
    rw [fX11_piecesOf_12] at h
    intro p e s m args below meth c r0 A X
    refine ev_iload (pc := 12) X 3 dX11_piecesOf_12 rfl ?_
    refine ev_aload_n (pc := 14) X 0 dX11_piecesOf_14 rfl rfl ?_
    obtain ⟨v1, hv1, h⟩ := eBi h
    refine ev_getR (pc := 15) X hcX11 (k := 9) (by decide) kfX11_13 dX11_piecesOf_15 hv1 ?_
    refine ev_iconst (pc := 18) (v := (2 : Int32)) X dX11_piecesOf_18 rfl ?_
    obtain ⟨v2, hv2, h⟩ := eBi h
    refine ev_iald (pc := 19) X dX11_piecesOf_19 hv2 ?_
    refine ev_icmp_ge (pc := 20) X 100 dX11_piecesOf_20 rfl (fun hc => ?_) (fun hc => ?_)
    · rw [if_pos hc] at h
      refine ev_iload_n (pc := 100) X 2 dX11_piecesOf_100 rfl rfl ?_
      obtain rfl := Option.some.inj h
      exact ev_iret (pc := 101) X dX11_piecesOf_101
    · rw [if_neg hc] at h
      refine ev_iload_n (pc := 23) X 1 dX11_piecesOf_23 rfl rfl ?_
      refine ev_iload (pc := 24) X 3 dX11_piecesOf_24 rfl ?_
      refine ev_ishr (pc := 26) X dX11_piecesOf_26 ?_
      refine ev_iconst (pc := 27) (v := (1 : Int32)) X dX11_piecesOf_27 rfl ?_
      refine ev_iand (pc := 28) X dX11_piecesOf_28 ?_
      refine ev_if_ne (pc := 29) X 94 dX11_piecesOf_29 rfl (fun hc => ?_) (fun hc => ?_)
      · rw [if_neg hc] at h
        exact ev_weak (pc := 94) [0, 1, 2, 3] rfl (sX11_piecesOf_94 (fun _ _ _ _ w r hh => ih _ _ _ _ w r hh) _ _ _ _ _ _ h p e s m args below meth c r0 A X)
      · rw [if_pos hc] at h
        refine ev_iinc (pc := 32) (v := x3 + (1 : Int32)) (L' := [(3, .int (x3 + (1 : Int32))), (0, .ref x0), (2, .int x2), (4, .int x4)]) X 2 dX11_piecesOf_32 rfl rfl (by decide) rfl ?_
        refine ev_aload_n (pc := 35) X 1 dX11_piecesOf_35 rfl rfl ?_
        refine ev_aload_n (pc := 36) X 1 dX11_piecesOf_36 rfl rfl ?_
        obtain ⟨v3, hv3, h⟩ := eBi h
        refine ev_getR (pc := 37) X hcX11 (k := 11) (by decide) kfX11_19 dX11_piecesOf_37 hv3 ?_
        refine ev_iload (pc := 40) X 3 dX11_piecesOf_40 rfl ?_
        obtain ⟨v4, hv4, h⟩ := eBi h
        refine ev_iald (pc := 42) X dX11_piecesOf_42 hv4 ?_
        obtain ⟨w5, hc, h⟩ := eBi h
        refine ev_callV_v (pc := 43) (As := [.int v4]) (S := []) X hwX11_spreads klX11_157 hiX11_spreads hsX11_spreads (ci := 11) ⟨rfl, rfl⟩ ⟨Nat.le_of_ble_eq_true rfl, Nat.le_of_ble_eq_true rfl⟩ ⟨Nat.le_refl _, Nat.le_refl _⟩ rfl (Nat.le_of_ble_eq_true rfl) dX11_piecesOf_43 rfl (mX11_spreads (l := l) (D := D) (cI := cI) (cZ := cZ) hc).1 (mX11_spreads hc).2 ?_
        refine ev_iconst (pc := 46) (v := (0 : Int32)) X dX11_piecesOf_46 rfl ?_
        refine ev_istore (pc := 47) (L' := [(5, .int (0 : Int32)), (3, .int (x3 + (1 : Int32))), (0, .ref x0), (2, .int x2), (4, .int x4)]) X dX11_piecesOf_47 (by decide) rfl ?_
        exact ev_weak (pc := 49) [2, 3, 1, 4, 0] rfl (sX11_piecesOf_49 (fun _ _ _ _ w r hh => ih _ _ _ _ w r hh) eN _ _ _ _ _ _ _ h p e s m args below meth c r0 A X)
def fX11_piecesOf_0 (x0 : Nat) (x1 : Nat) (w : eW) : Option (Int32 × eW) := (fX11_builds x0 x1 w).bind fun w1 => fX11_piecesOf_12 eN x0 (0 : Int32) (0 : Int32) (0 : Int32) w1
set_option maxRecDepth 20000 in
theorem sX11_piecesOf_0  (x0 : Nat) (x1 : Nat) (w : eW) (r : Int32 × eW) (h : fX11_piecesOf_0 x0 x1 w = some r) : eBN l D cI cZ 3 yX11_piecesOf cX11_piecesOf 6 (some .int) 0 [(0, .ref x0), (1, .ref x1)] [] w (some (.int r.1)) r.2 := by
  rw [fX11_piecesOf_0] at h
  intro p e s m args below meth c r0 A X
  refine ev_aload_n (pc := 0) X 0 dX11_piecesOf_0 rfl rfl ?_
  refine ev_aload_n (pc := 1) X 1 dX11_piecesOf_1 rfl rfl ?_
  obtain ⟨w1, hc, h⟩ := eBi h
  refine ev_callV_v (pc := 2) (As := [.ref x1]) (S := []) X hwX11_builds klX11_152 hiX11_builds hsX11_builds (ci := 11) ⟨rfl, rfl⟩ ⟨Nat.le_of_ble_eq_true rfl, Nat.le_of_ble_eq_true rfl⟩ ⟨Nat.le_refl _, Nat.le_refl _⟩ rfl (Nat.le_of_ble_eq_true rfl) dX11_piecesOf_2 rfl (mX11_builds (l := l) (D := D) (cI := cI) (cZ := cZ) hc).1 (mX11_builds hc).2 ?_
  refine ev_iconst (pc := 5) (v := (0 : Int32)) X dX11_piecesOf_5 rfl ?_
  refine ev_istore_n (pc := 6) (L' := [(2, .int (0 : Int32)), (0, .ref x0), (1, .ref x1)]) X dX11_piecesOf_6 rfl (by decide) rfl ?_
  refine ev_iconst (pc := 7) (v := (0 : Int32)) X dX11_piecesOf_7 rfl ?_
  refine ev_istore_n (pc := 8) (L' := [(3, .int (0 : Int32)), (2, .int (0 : Int32)), (0, .ref x0), (1, .ref x1)]) X dX11_piecesOf_8 rfl (by decide) rfl ?_
  refine ev_iconst (pc := 9) (v := (0 : Int32)) X dX11_piecesOf_9 rfl ?_
  refine ev_istore (pc := 10) (L' := [(4, .int (0 : Int32)), (3, .int (0 : Int32)), (2, .int (0 : Int32)), (0, .ref x0), (1, .ref x1)]) X dX11_piecesOf_10 (by decide) rfl ?_
  exact ev_weak (pc := 12) [3, 2, 1, 0] rfl (sX11_piecesOf_12 eN _ _ _ _ _ _ h p e s m args below meth c r0 A X)
def fX11_piecesOf (a0 : Nat) (a1 : Nat) (w : eW) : Option (Int32 × eW) := bif eO w a0 11 then fX11_piecesOf_0 a0 a1 w else none
theorem mX11_piecesOf {a0 : Nat} {a1 : Nat} {w : eW} {v : Int32} {w' : eW} (h : fX11_piecesOf a0 a1 w = some (v, w')) : eO w a0 11 = true ∧ eMN l D cI cZ 3 yX11_piecesOf cX11_piecesOf 6 (some .int) [.ref a0, .ref a1] w (some (.int v)) w' := by
  obtain ⟨h0, h⟩ := eBif h
  exact ⟨h0, eMN_of [(0, .ref a0), (1, .ref a1)] (plainFor_of_name (by decide)) (fun _ => rfl) (fun _ => Nat.le_of_ble_eq_true rfl) (fun p e s m args below meth c r0 A X => ev_weak (pc := 0) [0, 1] rfl (sX11_piecesOf_0 _ _ _ _ h p e s m args below meth c r0 A X))⟩
theorem dX11_isTown_0 : decode cX11_isTown 0 = .ok (.iconst 0, 1) := by decide +kernel
theorem dX11_isTown_1 : decode cX11_isTown 1 = .ok (.istore_n 2, 1) := by decide +kernel
theorem dX11_isTown_2 : decode cX11_isTown 2 = .ok (.iconst 0, 1) := by decide +kernel
theorem dX11_isTown_3 : decode cX11_isTown 3 = .ok (.istore_n 3, 1) := by decide +kernel
theorem dX11_isTown_4 : decode cX11_isTown 4 = .ok (.iload_n 3, 1) := by decide +kernel
theorem dX11_isTown_5 : decode cX11_isTown 5 = .ok (.aload_n 0, 1) := by decide +kernel
theorem dX11_isTown_6 : decode cX11_isTown 6 = .ok (.getfield 13, 3) := by decide +kernel
theorem dX11_isTown_9 : decode cX11_isTown 9 = .ok (.iconst 2, 1) := by decide +kernel
theorem dX11_isTown_10 : decode cX11_isTown 10 = .ok (.iaload, 1) := by decide +kernel
theorem dX11_isTown_11 : decode cX11_isTown 11 = .ok (.if_icmp .ge 29, 3) := by decide +kernel
theorem dX11_isTown_14 : decode cX11_isTown 14 = .ok (.iload_n 2, 1) := by decide +kernel
theorem dX11_isTown_15 : decode cX11_isTown 15 = .ok (.ifCond .ne 13, 3) := by decide +kernel
theorem dX11_isTown_18 : decode cX11_isTown 18 = .ok (.aload_n 0, 1) := by decide +kernel
theorem dX11_isTown_19 : decode cX11_isTown 19 = .ok (.getfield 19, 3) := by decide +kernel
theorem dX11_isTown_22 : decode cX11_isTown 22 = .ok (.iload_n 3, 1) := by decide +kernel
theorem dX11_isTown_23 : decode cX11_isTown 23 = .ok (.iaload, 1) := by decide +kernel
theorem dX11_isTown_24 : decode cX11_isTown 24 = .ok (.iload_n 1, 1) := by decide +kernel
theorem dX11_isTown_25 : decode cX11_isTown 25 = .ok (.if_icmp .ne 7, 3) := by decide +kernel
theorem dX11_isTown_28 : decode cX11_isTown 28 = .ok (.iconst 1, 1) := by decide +kernel
theorem dX11_isTown_29 : decode cX11_isTown 29 = .ok (.goto 4, 3) := by decide +kernel
theorem dX11_isTown_32 : decode cX11_isTown 32 = .ok (.iconst 0, 1) := by decide +kernel
theorem dX11_isTown_33 : decode cX11_isTown 33 = .ok (.istore_n 2, 1) := by decide +kernel
theorem dX11_isTown_34 : decode cX11_isTown 34 = .ok (.iinc 3 1, 3) := by decide +kernel
theorem dX11_isTown_37 : decode cX11_isTown 37 = .ok (.goto (-33), 3) := by decide +kernel
theorem dX11_isTown_40 : decode cX11_isTown 40 = .ok (.iload_n 2, 1) := by decide +kernel
theorem dX11_isTown_41 : decode cX11_isTown 41 = .ok (.ireturn, 1) := by decide +kernel
def fX11_isTown_33 (K4 : Nat → Int32 → Int32 → Int32 → eW → Option (Int32 × eW)) (x0 : Nat) (x1 : Int32) (x3 : Int32) (t0 : Int32) (w : eW) : Option (Int32 × eW) := K4 x0 x1 t0 (x3 + (1 : Int32)) w
set_option maxRecDepth 20000 in
theorem sX11_isTown_33 {K4 : Nat → Int32 → Int32 → Int32 → eW → Option (Int32 × eW)} (hK4 : ∀ (x0 : Nat) (x1 : Int32) (x2 : Int32) (x3 : Int32) (w : eW) (r : Int32 × eW), K4 x0 x1 x2 x3 w = some r → eBN l D cI cZ 0 yX11_isTown cX11_isTown 4 (some .boolean) 4 [(0, .ref x0), (1, .int x1), (2, .int x2), (3, .int x3)] [] w (some (.int r.1)) r.2) (x0 : Nat) (x1 : Int32) (x3 : Int32) (t0 : Int32) (w : eW) (r : Int32 × eW) (h : fX11_isTown_33 K4 x0 x1 x3 t0 w = some r) : eBN l D cI cZ 0 yX11_isTown cX11_isTown 4 (some .boolean) 33 [(0, .ref x0), (1, .int x1), (3, .int x3)] [.int t0] w (some (.int r.1)) r.2 := by
  rw [fX11_isTown_33] at h
  intro p e s m args below meth c r0 A X
  refine ev_istore_n (pc := 33) (L' := [(2, .int t0), (0, .ref x0), (1, .int x1), (3, .int x3)]) X dX11_isTown_33 rfl (by decide) rfl ?_
  refine ev_iinc (pc := 34) (v := x3 + (1 : Int32)) (L' := [(3, .int (x3 + (1 : Int32))), (2, .int t0), (0, .ref x0), (1, .int x1)]) X 3 dX11_isTown_34 rfl rfl (by decide) rfl ?_
  refine ev_goto (pc := 37) X 4 dX11_isTown_37 rfl ?_
  exact ev_weak (pc := 4) [2, 3, 1, 0] rfl (hK4 _ _ _ _ _ _ h p e s m args below meth c r0 A X)
def fX11_isTown_28 (K4 : Nat → Int32 → Int32 → Int32 → eW → Option (Int32 × eW)) (x0 : Nat) (x1 : Int32) (x3 : Int32) (w : eW) : Option (Int32 × eW) := fX11_isTown_33 K4 x0 x1 x3 (1 : Int32) w
set_option maxRecDepth 20000 in
theorem sX11_isTown_28 {K4 : Nat → Int32 → Int32 → Int32 → eW → Option (Int32 × eW)} (hK4 : ∀ (x0 : Nat) (x1 : Int32) (x2 : Int32) (x3 : Int32) (w : eW) (r : Int32 × eW), K4 x0 x1 x2 x3 w = some r → eBN l D cI cZ 0 yX11_isTown cX11_isTown 4 (some .boolean) 4 [(0, .ref x0), (1, .int x1), (2, .int x2), (3, .int x3)] [] w (some (.int r.1)) r.2) (x0 : Nat) (x1 : Int32) (x3 : Int32) (w : eW) (r : Int32 × eW) (h : fX11_isTown_28 K4 x0 x1 x3 w = some r) : eBN l D cI cZ 0 yX11_isTown cX11_isTown 4 (some .boolean) 28 [(0, .ref x0), (1, .int x1), (3, .int x3)] [] w (some (.int r.1)) r.2 := by
  rw [fX11_isTown_28] at h
  intro p e s m args below meth c r0 A X
  refine ev_iconst (pc := 28) (v := (1 : Int32)) X dX11_isTown_28 rfl ?_
  refine ev_goto (pc := 29) X 33 dX11_isTown_29 rfl ?_
  exact ev_weak (pc := 33) [0, 1, 2] rfl (sX11_isTown_33 hK4 _ _ _ _ _ _ h p e s m args below meth c r0 A X)
def fX11_isTown_4 : Nat → Nat → Int32 → Int32 → Int32 → eW → Option (Int32 × eW)
  | 0, _, _, _, _, _ => none
  | n + 1, x0, x1, x2, x3, w => (eGR w x0 11 9).bind fun v1 => (eLd w false v1 (2 : Int32)).bind fun v2 => if v2 ≤ x3 then ((eZ x2).bind fun v3 => some (v3, w)) else (if x2 = 0 then ((eGR w x0 11 11).bind fun v4 => (eLd w false v4 x3).bind fun v5 => if v5 = x1 then (fX11_isTown_28 (fX11_isTown_4 n) x0 x1 x3 w) else (fX11_isTown_33 (fX11_isTown_4 n) x0 x1 x3 (0 : Int32) w)) else (fX11_isTown_28 (fX11_isTown_4 n) x0 x1 x3 w))
set_option maxRecDepth 20000 in
theorem sX11_isTown_4  : ∀ (n : Nat) (x0 : Nat) (x1 : Int32) (x2 : Int32) (x3 : Int32) (w : eW) (r : Int32 × eW), fX11_isTown_4 n x0 x1 x2 x3 w = some r → eBN l D cI cZ 0 yX11_isTown cX11_isTown 4 (some .boolean) 4 [(0, .ref x0), (1, .int x1), (2, .int x2), (3, .int x3)] [] w (some (.int r.1)) r.2 := by
  intro n
  induction n with
  | zero => intro x0 x1 x2 x3 w r h; exact absurd (show (none : Option (Int32 × eW)) = some r from h) (by simp)
  | succ n ih =>
    intro x0 x1 x2 x3 w r h
    rw [fX11_isTown_4] at h
    intro p e s m args below meth c r0 A X
    refine ev_iload_n (pc := 4) X 3 dX11_isTown_4 rfl rfl ?_
    refine ev_aload_n (pc := 5) X 0 dX11_isTown_5 rfl rfl ?_
    obtain ⟨v1, hv1, h⟩ := eBi h
    refine ev_getR (pc := 6) X hcX11 (k := 9) (by decide) kfX11_13 dX11_isTown_6 hv1 ?_
    refine ev_iconst (pc := 9) (v := (2 : Int32)) X dX11_isTown_9 rfl ?_
    obtain ⟨v2, hv2, h⟩ := eBi h
    refine ev_iald (pc := 10) X dX11_isTown_10 hv2 ?_
    refine ev_icmp_ge (pc := 11) X 40 dX11_isTown_11 rfl (fun hc => ?_) (fun hc => ?_)
    · rw [if_pos hc] at h
      refine ev_iload_n (pc := 40) X 2 dX11_isTown_40 rfl rfl ?_
      obtain ⟨v3, hv3, h⟩ := eBi h
      obtain rfl := Option.some.inj h
      exact ev_zret (pc := 41) X dX11_isTown_41 hv3
    · rw [if_neg hc] at h
      refine ev_iload_n (pc := 14) X 2 dX11_isTown_14 rfl rfl ?_
      refine ev_if_ne (pc := 15) X 28 dX11_isTown_15 rfl (fun hc => ?_) (fun hc => ?_)
      · rw [if_neg hc] at h
        exact ev_weak (pc := 28) [0, 1, 3] rfl (sX11_isTown_28 (fun _ _ _ _ w r hh => ih _ _ _ _ w r hh) _ _ _ _ _ h p e s m args below meth c r0 A X)
      · rw [if_pos hc] at h
        refine ev_aload_n (pc := 18) X 0 dX11_isTown_18 rfl rfl ?_
        obtain ⟨v4, hv4, h⟩ := eBi h
        refine ev_getR (pc := 19) X hcX11 (k := 11) (by decide) kfX11_19 dX11_isTown_19 hv4 ?_
        refine ev_iload_n (pc := 22) X 3 dX11_isTown_22 rfl rfl ?_
        obtain ⟨v5, hv5, h⟩ := eBi h
        refine ev_iald (pc := 23) X dX11_isTown_23 hv5 ?_
        refine ev_iload_n (pc := 24) X 1 dX11_isTown_24 rfl rfl ?_
        refine ev_icmp_ne (pc := 25) X 32 dX11_isTown_25 rfl (fun hc => ?_) (fun hc => ?_)
        · rw [if_neg hc] at h
          refine ev_iconst (pc := 32) (v := (0 : Int32)) X dX11_isTown_32 rfl ?_
          exact ev_weak (pc := 33) [0, 1, 3] rfl (sX11_isTown_33 (fun _ _ _ _ w r hh => ih _ _ _ _ w r hh) _ _ _ _ _ _ h p e s m args below meth c r0 A X)
        · rw [if_pos hc] at h
          exact ev_weak (pc := 28) [0, 1, 3] rfl (sX11_isTown_28 (fun _ _ _ _ w r hh => ih _ _ _ _ w r hh) _ _ _ _ _ h p e s m args below meth c r0 A X)
def fX11_isTown_0 (x0 : Nat) (x1 : Int32) (w : eW) : Option (Int32 × eW) := fX11_isTown_4 eN x0 x1 (0 : Int32) (0 : Int32) w
set_option maxRecDepth 20000 in
theorem sX11_isTown_0  (x0 : Nat) (x1 : Int32) (w : eW) (r : Int32 × eW) (h : fX11_isTown_0 x0 x1 w = some r) : eBN l D cI cZ 0 yX11_isTown cX11_isTown 4 (some .boolean) 0 [(0, .ref x0), (1, .int x1)] [] w (some (.int r.1)) r.2 := by
  rw [fX11_isTown_0] at h
  intro p e s m args below meth c r0 A X
  refine ev_iconst (pc := 0) (v := (0 : Int32)) X dX11_isTown_0 rfl ?_
  refine ev_istore_n (pc := 1) (L' := [(2, .int (0 : Int32)), (0, .ref x0), (1, .int x1)]) X dX11_isTown_1 rfl (by decide) rfl ?_
  refine ev_iconst (pc := 2) (v := (0 : Int32)) X dX11_isTown_2 rfl ?_
  refine ev_istore_n (pc := 3) (L' := [(3, .int (0 : Int32)), (2, .int (0 : Int32)), (0, .ref x0), (1, .int x1)]) X dX11_isTown_3 rfl (by decide) rfl ?_
  exact ev_weak (pc := 4) [2, 3, 1, 0] rfl (sX11_isTown_4 eN _ _ _ _ _ _ h p e s m args below meth c r0 A X)
def fX11_isTown (a0 : Nat) (a1 : Int32) (w : eW) : Option (Int32 × eW) := bif eO w a0 11 then fX11_isTown_0 a0 a1 w else none
theorem mX11_isTown {a0 : Nat} {a1 : Int32} {w : eW} {v : Int32} {w' : eW} (h : fX11_isTown a0 a1 w = some (v, w')) : eO w a0 11 = true ∧ eMN l D cI cZ 0 yX11_isTown cX11_isTown 4 (some .boolean) [.ref a0, .int a1] w (some (.int v)) w' := by
  obtain ⟨h0, h⟩ := eBif h
  exact ⟨h0, eMN_of [(0, .ref a0), (1, .int a1)] (plainFor_of_name (by decide)) (fun _ => rfl) (fun _ => Nat.le_of_ble_eq_true rfl) (fun p e s m args below meth c r0 A X => ev_weak (pc := 0) [0, 1] rfl (sX11_isTown_0 _ _ _ _ h p e s m args below meth c r0 A X))⟩
theorem dX11_nowhere_0 : decode cX11_nowhere 0 = .ok (.iconst 0, 1) := by decide +kernel
theorem dX11_nowhere_1 : decode cX11_nowhere 1 = .ok (.istore_n 1, 1) := by decide +kernel
theorem dX11_nowhere_2 : decode cX11_nowhere 2 = .ok (.iconst 0, 1) := by decide +kernel
theorem dX11_nowhere_3 : decode cX11_nowhere 3 = .ok (.istore_n 2, 1) := by decide +kernel
theorem dX11_nowhere_4 : decode cX11_nowhere 4 = .ok (.iload_n 2, 1) := by decide +kernel
theorem dX11_nowhere_5 : decode cX11_nowhere 5 = .ok (.aload_n 0, 1) := by decide +kernel
theorem dX11_nowhere_6 : decode cX11_nowhere 6 = .ok (.getfield 22, 3) := by decide +kernel
theorem dX11_nowhere_9 : decode cX11_nowhere 9 = .ok (.iconst 0, 1) := by decide +kernel
theorem dX11_nowhere_10 : decode cX11_nowhere 10 = .ok (.iaload, 1) := by decide +kernel
theorem dX11_nowhere_11 : decode cX11_nowhere 11 = .ok (.if_icmp .ge 86, 3) := by decide +kernel
theorem dX11_nowhere_14 : decode cX11_nowhere 14 = .ok (.iconst 0, 1) := by decide +kernel
theorem dX11_nowhere_15 : decode cX11_nowhere 15 = .ok (.istore_n 3, 1) := by decide +kernel
theorem dX11_nowhere_16 : decode cX11_nowhere 16 = .ok (.iconst 0, 1) := by decide +kernel
theorem dX11_nowhere_17 : decode cX11_nowhere 17 = .ok (.istore 4, 2) := by decide +kernel
theorem dX11_nowhere_19 : decode cX11_nowhere 19 = .ok (.iload 4, 2) := by decide +kernel
theorem dX11_nowhere_21 : decode cX11_nowhere 21 = .ok (.aload_n 0, 1) := by decide +kernel
theorem dX11_nowhere_22 : decode cX11_nowhere 22 = .ok (.getfield 22, 3) := by decide +kernel
theorem dX11_nowhere_25 : decode cX11_nowhere 25 = .ok (.iload_n 2, 1) := by decide +kernel
theorem dX11_nowhere_26 : decode cX11_nowhere 26 = .ok (.invokestatic 137, 3) := by decide +kernel
theorem dX11_nowhere_29 : decode cX11_nowhere 29 = .ok (.if_icmp .gt 37, 3) := by decide +kernel
theorem dX11_nowhere_32 : decode cX11_nowhere 32 = .ok (.iload_n 3, 1) := by decide +kernel
theorem dX11_nowhere_33 : decode cX11_nowhere 33 = .ok (.ifCond .ne 21, 3) := by decide +kernel
theorem dX11_nowhere_36 : decode cX11_nowhere 36 = .ok (.aload_n 0, 1) := by decide +kernel
theorem dX11_nowhere_37 : decode cX11_nowhere 37 = .ok (.aload_n 0, 1) := by decide +kernel
theorem dX11_nowhere_38 : decode cX11_nowhere 38 = .ok (.aload_n 0, 1) := by decide +kernel
theorem dX11_nowhere_39 : decode cX11_nowhere 39 = .ok (.getfield 22, 3) := by decide +kernel
theorem dX11_nowhere_42 : decode cX11_nowhere 42 = .ok (.iload_n 2, 1) := by decide +kernel
theorem dX11_nowhere_43 : decode cX11_nowhere 43 = .ok (.iload 4, 2) := by decide +kernel
theorem dX11_nowhere_45 : decode cX11_nowhere 45 = .ok (.invokevirtual 140, 3) := by decide +kernel
theorem dX11_nowhere_48 : decode cX11_nowhere 48 = .ok (.invokevirtual 160, 3) := by decide +kernel
theorem dX11_nowhere_51 : decode cX11_nowhere 51 = .ok (.ifCond .eq 7, 3) := by decide +kernel
theorem dX11_nowhere_54 : decode cX11_nowhere 54 = .ok (.iconst 1, 1) := by decide +kernel
theorem dX11_nowhere_55 : decode cX11_nowhere 55 = .ok (.goto 4, 3) := by decide +kernel
theorem dX11_nowhere_58 : decode cX11_nowhere 58 = .ok (.iconst 0, 1) := by decide +kernel
theorem dX11_nowhere_59 : decode cX11_nowhere 59 = .ok (.istore_n 3, 1) := by decide +kernel
theorem dX11_nowhere_60 : decode cX11_nowhere 60 = .ok (.iinc 4 1, 3) := by decide +kernel
theorem dX11_nowhere_63 : decode cX11_nowhere 63 = .ok (.goto (-44), 3) := by decide +kernel
theorem dX11_nowhere_66 : decode cX11_nowhere 66 = .ok (.iload_n 1, 1) := by decide +kernel
theorem dX11_nowhere_67 : decode cX11_nowhere 67 = .ok (.aload_n 0, 1) := by decide +kernel
theorem dX11_nowhere_68 : decode cX11_nowhere 68 = .ok (.getfield 22, 3) := by decide +kernel
theorem dX11_nowhere_71 : decode cX11_nowhere 71 = .ok (.iload_n 2, 1) := by decide +kernel
theorem dX11_nowhere_72 : decode cX11_nowhere 72 = .ok (.invokestatic 137, 3) := by decide +kernel
theorem dX11_nowhere_75 : decode cX11_nowhere 75 = .ok (.ifCond .le 13, 3) := by decide +kernel
theorem dX11_nowhere_78 : decode cX11_nowhere 78 = .ok (.iload_n 3, 1) := by decide +kernel
theorem dX11_nowhere_79 : decode cX11_nowhere 79 = .ok (.ifCond .ne 9, 3) := by decide +kernel
theorem dX11_nowhere_82 : decode cX11_nowhere 82 = .ok (.iconst 1, 1) := by decide +kernel
theorem dX11_nowhere_83 : decode cX11_nowhere 83 = .ok (.iload_n 2, 1) := by decide +kernel
theorem dX11_nowhere_84 : decode cX11_nowhere 84 = .ok (.ishl, 1) := by decide +kernel
theorem dX11_nowhere_85 : decode cX11_nowhere 85 = .ok (.goto 4, 3) := by decide +kernel
theorem dX11_nowhere_88 : decode cX11_nowhere 88 = .ok (.iconst 0, 1) := by decide +kernel
theorem dX11_nowhere_89 : decode cX11_nowhere 89 = .ok (.ior, 1) := by decide +kernel
theorem dX11_nowhere_90 : decode cX11_nowhere 90 = .ok (.istore_n 1, 1) := by decide +kernel
theorem dX11_nowhere_91 : decode cX11_nowhere 91 = .ok (.iinc 2 1, 3) := by decide +kernel
theorem dX11_nowhere_94 : decode cX11_nowhere 94 = .ok (.goto (-90), 3) := by decide +kernel
theorem dX11_nowhere_97 : decode cX11_nowhere 97 = .ok (.iload_n 1, 1) := by decide +kernel
theorem dX11_nowhere_98 : decode cX11_nowhere 98 = .ok (.ireturn, 1) := by decide +kernel
def fX11_nowhere_59 (K4 : Nat → Int32 → Int32 → eW → Option (Int32 × eW)) (K19 : Nat → Int32 → Int32 → Int32 → Int32 → eW → Option (Int32 × eW)) (x0 : Nat) (x1 : Int32) (x2 : Int32) (x4 : Int32) (t0 : Int32) (w : eW) : Option (Int32 × eW) := K19 x0 x1 x2 t0 (x4 + (1 : Int32)) w
set_option maxRecDepth 20000 in
theorem sX11_nowhere_59 {K4 : Nat → Int32 → Int32 → eW → Option (Int32 × eW)} {K19 : Nat → Int32 → Int32 → Int32 → Int32 → eW → Option (Int32 × eW)} (hK4 : ∀ (x0 : Nat) (x1 : Int32) (x2 : Int32) (w : eW) (r : Int32 × eW), K4 x0 x1 x2 w = some r → eBN l D cI cZ 3 yX11_nowhere cX11_nowhere 5 (some .int) 4 [(0, .ref x0), (1, .int x1), (2, .int x2)] [] w (some (.int r.1)) r.2) (hK19 : ∀ (x0 : Nat) (x1 : Int32) (x2 : Int32) (x3 : Int32) (x4 : Int32) (w : eW) (r : Int32 × eW), K19 x0 x1 x2 x3 x4 w = some r → eBN l D cI cZ 3 yX11_nowhere cX11_nowhere 5 (some .int) 19 [(0, .ref x0), (1, .int x1), (2, .int x2), (3, .int x3), (4, .int x4)] [] w (some (.int r.1)) r.2) (x0 : Nat) (x1 : Int32) (x2 : Int32) (x4 : Int32) (t0 : Int32) (w : eW) (r : Int32 × eW) (h : fX11_nowhere_59 K4 K19 x0 x1 x2 x4 t0 w = some r) : eBN l D cI cZ 3 yX11_nowhere cX11_nowhere 5 (some .int) 59 [(0, .ref x0), (1, .int x1), (2, .int x2), (4, .int x4)] [.int t0] w (some (.int r.1)) r.2 := by
  rw [fX11_nowhere_59] at h
  intro p e s m args below meth c r0 A X
  refine ev_istore_n (pc := 59) (L' := [(3, .int t0), (0, .ref x0), (1, .int x1), (2, .int x2), (4, .int x4)]) X dX11_nowhere_59 rfl (by decide) rfl ?_
  refine ev_iinc (pc := 60) (v := x4 + (1 : Int32)) (L' := [(4, .int (x4 + (1 : Int32))), (3, .int t0), (0, .ref x0), (1, .int x1), (2, .int x2)]) X 4 dX11_nowhere_60 rfl rfl (by decide) rfl ?_
  refine ev_goto (pc := 63) X 19 dX11_nowhere_63 rfl ?_
  exact ev_weak (pc := 19) [2, 3, 4, 1, 0] rfl (hK19 _ _ _ _ _ _ _ h p e s m args below meth c r0 A X)
def fX11_nowhere_54 (K4 : Nat → Int32 → Int32 → eW → Option (Int32 × eW)) (K19 : Nat → Int32 → Int32 → Int32 → Int32 → eW → Option (Int32 × eW)) (x0 : Nat) (x1 : Int32) (x2 : Int32) (x4 : Int32) (w : eW) : Option (Int32 × eW) := fX11_nowhere_59 K4 K19 x0 x1 x2 x4 (1 : Int32) w
set_option maxRecDepth 20000 in
theorem sX11_nowhere_54 {K4 : Nat → Int32 → Int32 → eW → Option (Int32 × eW)} {K19 : Nat → Int32 → Int32 → Int32 → Int32 → eW → Option (Int32 × eW)} (hK4 : ∀ (x0 : Nat) (x1 : Int32) (x2 : Int32) (w : eW) (r : Int32 × eW), K4 x0 x1 x2 w = some r → eBN l D cI cZ 3 yX11_nowhere cX11_nowhere 5 (some .int) 4 [(0, .ref x0), (1, .int x1), (2, .int x2)] [] w (some (.int r.1)) r.2) (hK19 : ∀ (x0 : Nat) (x1 : Int32) (x2 : Int32) (x3 : Int32) (x4 : Int32) (w : eW) (r : Int32 × eW), K19 x0 x1 x2 x3 x4 w = some r → eBN l D cI cZ 3 yX11_nowhere cX11_nowhere 5 (some .int) 19 [(0, .ref x0), (1, .int x1), (2, .int x2), (3, .int x3), (4, .int x4)] [] w (some (.int r.1)) r.2) (x0 : Nat) (x1 : Int32) (x2 : Int32) (x4 : Int32) (w : eW) (r : Int32 × eW) (h : fX11_nowhere_54 K4 K19 x0 x1 x2 x4 w = some r) : eBN l D cI cZ 3 yX11_nowhere cX11_nowhere 5 (some .int) 54 [(0, .ref x0), (1, .int x1), (2, .int x2), (4, .int x4)] [] w (some (.int r.1)) r.2 := by
  rw [fX11_nowhere_54] at h
  intro p e s m args below meth c r0 A X
  refine ev_iconst (pc := 54) (v := (1 : Int32)) X dX11_nowhere_54 rfl ?_
  refine ev_goto (pc := 55) X 59 dX11_nowhere_55 rfl ?_
  exact ev_weak (pc := 59) [0, 1, 2, 3] rfl (sX11_nowhere_59 hK4 hK19 _ _ _ _ _ _ _ h p e s m args below meth c r0 A X)
def fX11_nowhere_89 (K4 : Nat → Int32 → Int32 → eW → Option (Int32 × eW)) (x0 : Nat) (x2 : Int32) (t0 : Int32) (t1 : Int32) (w : eW) : Option (Int32 × eW) := K4 x0 (t0 ||| t1) (x2 + (1 : Int32)) w
set_option maxRecDepth 20000 in
theorem sX11_nowhere_89 {K4 : Nat → Int32 → Int32 → eW → Option (Int32 × eW)} (hK4 : ∀ (x0 : Nat) (x1 : Int32) (x2 : Int32) (w : eW) (r : Int32 × eW), K4 x0 x1 x2 w = some r → eBN l D cI cZ 3 yX11_nowhere cX11_nowhere 5 (some .int) 4 [(0, .ref x0), (1, .int x1), (2, .int x2)] [] w (some (.int r.1)) r.2) (x0 : Nat) (x2 : Int32) (t0 : Int32) (t1 : Int32) (w : eW) (r : Int32 × eW) (h : fX11_nowhere_89 K4 x0 x2 t0 t1 w = some r) : eBN l D cI cZ 3 yX11_nowhere cX11_nowhere 5 (some .int) 89 [(0, .ref x0), (2, .int x2)] [.int t1, .int t0] w (some (.int r.1)) r.2 := by
  rw [fX11_nowhere_89] at h
  intro p e s m args below meth c r0 A X
  refine ev_ior (pc := 89) X dX11_nowhere_89 ?_
  refine ev_istore_n (pc := 90) (L' := [(1, .int (t0 ||| t1)), (0, .ref x0), (2, .int x2)]) X dX11_nowhere_90 rfl (by decide) rfl ?_
  refine ev_iinc (pc := 91) (v := x2 + (1 : Int32)) (L' := [(2, .int (x2 + (1 : Int32))), (1, .int (t0 ||| t1)), (0, .ref x0)]) X 2 dX11_nowhere_91 rfl rfl (by decide) rfl ?_
  refine ev_goto (pc := 94) X 4 dX11_nowhere_94 rfl ?_
  exact ev_weak (pc := 4) [2, 1, 0] rfl (hK4 _ _ _ _ _ h p e s m args below meth c r0 A X)
def fX11_nowhere_88 (K4 : Nat → Int32 → Int32 → eW → Option (Int32 × eW)) (x0 : Nat) (x2 : Int32) (t0 : Int32) (w : eW) : Option (Int32 × eW) := fX11_nowhere_89 K4 x0 x2 t0 (0 : Int32) w
set_option maxRecDepth 20000 in
theorem sX11_nowhere_88 {K4 : Nat → Int32 → Int32 → eW → Option (Int32 × eW)} (hK4 : ∀ (x0 : Nat) (x1 : Int32) (x2 : Int32) (w : eW) (r : Int32 × eW), K4 x0 x1 x2 w = some r → eBN l D cI cZ 3 yX11_nowhere cX11_nowhere 5 (some .int) 4 [(0, .ref x0), (1, .int x1), (2, .int x2)] [] w (some (.int r.1)) r.2) (x0 : Nat) (x2 : Int32) (t0 : Int32) (w : eW) (r : Int32 × eW) (h : fX11_nowhere_88 K4 x0 x2 t0 w = some r) : eBN l D cI cZ 3 yX11_nowhere cX11_nowhere 5 (some .int) 88 [(0, .ref x0), (2, .int x2)] [.int t0] w (some (.int r.1)) r.2 := by
  rw [fX11_nowhere_88] at h
  intro p e s m args below meth c r0 A X
  refine ev_iconst (pc := 88) (v := (0 : Int32)) X dX11_nowhere_88 rfl ?_
  exact ev_weak (pc := 89) [0, 1] rfl (sX11_nowhere_89 hK4 _ _ _ _ _ _ h p e s m args below meth c r0 A X)
def fX11_nowhere_19 (K4 : Nat → Int32 → Int32 → eW → Option (Int32 × eW)) : Nat → Nat → Int32 → Int32 → Int32 → Int32 → eW → Option (Int32 × eW)
  | 0, _, _, _, _, _, _ => none
  | n + 1, x0, x1, x2, x3, x4, w => (eGR w x0 11 13).bind fun v1 => eBind2 (fX11_cardsOf v1 x2 w) fun v3 w2 => if v3 < x4 then ((eGR w2 x0 11 13).bind fun v4 => eBind2 (fX11_cardsOf v4 x2 w2) fun v6 w5 => if v6 ≤ 0 then (fX11_nowhere_88 K4 x0 x2 x1 w5) else (if x3 = 0 then (fX11_nowhere_89 K4 x0 x2 x1 ((1 : Int32) <<< (x2 &&& 31)) w5) else (fX11_nowhere_88 K4 x0 x2 x1 w5))) else (if x3 = 0 then ((eGR w2 x0 11 13).bind fun v7 => eBind2 (fX11_behind x0 v7 x2 x4 w2) fun v9 w8 => eBind2 (fX11_isTown x0 v9 w8) fun v11 w10 => if v11 = 0 then (fX11_nowhere_59 K4 (fX11_nowhere_19 K4 n) x0 x1 x2 x4 (0 : Int32) w10) else (fX11_nowhere_54 K4 (fX11_nowhere_19 K4 n) x0 x1 x2 x4 w10)) else (fX11_nowhere_54 K4 (fX11_nowhere_19 K4 n) x0 x1 x2 x4 w2))
set_option maxRecDepth 20000 in
theorem sX11_nowhere_19 {K4 : Nat → Int32 → Int32 → eW → Option (Int32 × eW)} (hK4 : ∀ (x0 : Nat) (x1 : Int32) (x2 : Int32) (w : eW) (r : Int32 × eW), K4 x0 x1 x2 w = some r → eBN l D cI cZ 3 yX11_nowhere cX11_nowhere 5 (some .int) 4 [(0, .ref x0), (1, .int x1), (2, .int x2)] [] w (some (.int r.1)) r.2) : ∀ (n : Nat) (x0 : Nat) (x1 : Int32) (x2 : Int32) (x3 : Int32) (x4 : Int32) (w : eW) (r : Int32 × eW), fX11_nowhere_19 K4 n x0 x1 x2 x3 x4 w = some r → eBN l D cI cZ 3 yX11_nowhere cX11_nowhere 5 (some .int) 19 [(0, .ref x0), (1, .int x1), (2, .int x2), (3, .int x3), (4, .int x4)] [] w (some (.int r.1)) r.2 := by
  intro n
  induction n with
  | zero => intro x0 x1 x2 x3 x4 w r h; exact absurd (show (none : Option (Int32 × eW)) = some r from h) (by simp)
  | succ n ih =>
    intro x0 x1 x2 x3 x4 w r h
    rw [fX11_nowhere_19] at h
    intro p e s m args below meth c r0 A X
    refine ev_iload (pc := 19) X 4 dX11_nowhere_19 rfl ?_
    refine ev_aload_n (pc := 21) X 0 dX11_nowhere_21 rfl rfl ?_
    obtain ⟨v1, hv1, h⟩ := eBi h
    refine ev_getR (pc := 22) X hcX11 (k := 13) (by decide) kfX11_22 dX11_nowhere_22 hv1 ?_
    refine ev_iload_n (pc := 25) X 2 dX11_nowhere_25 rfl rfl ?_
    obtain ⟨v3, w2, hc, h⟩ := eB2 h
    refine ev_callS_i (pc := 26) (As := [.ref v1, .int x2]) (S := [.int x4]) X hwX11_cardsOf klX11_137 htX11_cardsOf ⟨Nat.le_of_ble_eq_true rfl, Nat.le_of_ble_eq_true rfl⟩ ⟨Nat.le_refl _, Nat.le_refl _⟩ rfl (Nat.le_of_ble_eq_true rfl) dX11_nowhere_26 rfl (mX11_cardsOf hc) ?_
    refine ev_icmp_gt (pc := 29) X 66 dX11_nowhere_29 rfl (fun hc => ?_) (fun hc => ?_)
    · rw [if_pos hc] at h
      refine ev_iload_n (pc := 66) X 1 dX11_nowhere_66 rfl rfl ?_
      refine ev_aload_n (pc := 67) X 0 dX11_nowhere_67 rfl rfl ?_
      obtain ⟨v4, hv4, h⟩ := eBi h
      refine ev_getR (pc := 68) X hcX11 (k := 13) (by decide) kfX11_22 dX11_nowhere_68 hv4 ?_
      refine ev_iload_n (pc := 71) X 2 dX11_nowhere_71 rfl rfl ?_
      obtain ⟨v6, w5, hc, h⟩ := eB2 h
      refine ev_callS_i (pc := 72) (As := [.ref v4, .int x2]) (S := [.int x1]) X hwX11_cardsOf klX11_137 htX11_cardsOf ⟨Nat.le_of_ble_eq_true rfl, Nat.le_of_ble_eq_true rfl⟩ ⟨Nat.le_refl _, Nat.le_refl _⟩ rfl (Nat.le_of_ble_eq_true rfl) dX11_nowhere_72 rfl (mX11_cardsOf hc) ?_
      refine ev_if_le (pc := 75) X 88 dX11_nowhere_75 rfl (fun hc => ?_) (fun hc => ?_)
      · rw [if_pos hc] at h
        exact ev_weak (pc := 88) [0, 2] rfl (sX11_nowhere_88 hK4 _ _ _ _ _ h p e s m args below meth c r0 A X)
      · rw [if_neg hc] at h
        refine ev_iload_n (pc := 78) X 3 dX11_nowhere_78 rfl rfl ?_
        refine ev_if_ne (pc := 79) X 88 dX11_nowhere_79 rfl (fun hc => ?_) (fun hc => ?_)
        · rw [if_neg hc] at h
          exact ev_weak (pc := 88) [0, 2] rfl (sX11_nowhere_88 hK4 _ _ _ _ _ h p e s m args below meth c r0 A X)
        · rw [if_pos hc] at h
          refine ev_iconst (pc := 82) (v := (1 : Int32)) X dX11_nowhere_82 rfl ?_
          refine ev_iload_n (pc := 83) X 2 dX11_nowhere_83 rfl rfl ?_
          refine ev_ishl (pc := 84) X dX11_nowhere_84 ?_
          refine ev_goto (pc := 85) X 89 dX11_nowhere_85 rfl ?_
          exact ev_weak (pc := 89) [0, 2] rfl (sX11_nowhere_89 hK4 _ _ _ _ _ _ h p e s m args below meth c r0 A X)
    · rw [if_neg hc] at h
      refine ev_iload_n (pc := 32) X 3 dX11_nowhere_32 rfl rfl ?_
      refine ev_if_ne (pc := 33) X 54 dX11_nowhere_33 rfl (fun hc => ?_) (fun hc => ?_)
      · rw [if_neg hc] at h
        exact ev_weak (pc := 54) [0, 1, 2, 4] rfl (sX11_nowhere_54 hK4 (fun _ _ _ _ _ w r hh => ih _ _ _ _ _ w r hh) _ _ _ _ _ _ h p e s m args below meth c r0 A X)
      · rw [if_pos hc] at h
        refine ev_aload_n (pc := 36) X 0 dX11_nowhere_36 rfl rfl ?_
        refine ev_aload_n (pc := 37) X 0 dX11_nowhere_37 rfl rfl ?_
        refine ev_aload_n (pc := 38) X 0 dX11_nowhere_38 rfl rfl ?_
        obtain ⟨v7, hv7, h⟩ := eBi h
        refine ev_getR (pc := 39) X hcX11 (k := 13) (by decide) kfX11_22 dX11_nowhere_39 hv7 ?_
        refine ev_iload_n (pc := 42) X 2 dX11_nowhere_42 rfl rfl ?_
        refine ev_iload (pc := 43) X 4 dX11_nowhere_43 rfl ?_
        obtain ⟨v9, w8, hc, h⟩ := eB2 h
        refine ev_callV_i (pc := 45) (As := [.ref v7, .int x2, .int x4]) (S := [.ref x0]) X hwX11_behind klX11_140 hiX11_behind hsX11_behind (ci := 11) ⟨rfl, rfl⟩ ⟨Nat.le_of_ble_eq_true rfl, Nat.le_of_ble_eq_true rfl⟩ ⟨Nat.le_refl _, Nat.le_refl _⟩ rfl (Nat.le_of_ble_eq_true rfl) dX11_nowhere_45 rfl (mX11_behind (l := l) (D := D) (cI := cI) (cZ := cZ) hc).1 (mX11_behind hc).2 ?_
        obtain ⟨v11, w10, hc, h⟩ := eB2 h
        refine ev_callV_i (pc := 48) (As := [.int v9]) (S := []) X hwX11_isTown klX11_160 hiX11_isTown hsX11_isTown (ci := 11) ⟨rfl, rfl⟩ ⟨Nat.le_of_ble_eq_true rfl, Nat.le_of_ble_eq_true rfl⟩ ⟨Nat.le_refl _, Nat.le_refl _⟩ rfl (Nat.le_of_ble_eq_true rfl) dX11_nowhere_48 rfl (mX11_isTown (l := l) (D := D) (cI := cI) (cZ := cZ) hc).1 (mX11_isTown hc).2 ?_
        refine ev_if_eq (pc := 51) X 58 dX11_nowhere_51 rfl (fun hc => ?_) (fun hc => ?_)
        · rw [if_pos hc] at h
          refine ev_iconst (pc := 58) (v := (0 : Int32)) X dX11_nowhere_58 rfl ?_
          exact ev_weak (pc := 59) [0, 1, 2, 4] rfl (sX11_nowhere_59 hK4 (fun _ _ _ _ _ w r hh => ih _ _ _ _ _ w r hh) _ _ _ _ _ _ _ h p e s m args below meth c r0 A X)
        · rw [if_neg hc] at h
          exact ev_weak (pc := 54) [0, 1, 2, 4] rfl (sX11_nowhere_54 hK4 (fun _ _ _ _ _ w r hh => ih _ _ _ _ _ w r hh) _ _ _ _ _ _ h p e s m args below meth c r0 A X)
def fX11_nowhere_4 : Nat → Nat → Int32 → Int32 → eW → Option (Int32 × eW)
  | 0, _, _, _, _ => none
  | n + 1, x0, x1, x2, w => (eGR w x0 11 13).bind fun v1 => (eLd w false v1 (0 : Int32)).bind fun v2 => if v2 ≤ x2 then (some (x1, w)) else (fX11_nowhere_19 (fX11_nowhere_4 n) eN x0 x1 x2 (0 : Int32) (0 : Int32) w)
set_option maxRecDepth 20000 in
theorem sX11_nowhere_4  : ∀ (n : Nat) (x0 : Nat) (x1 : Int32) (x2 : Int32) (w : eW) (r : Int32 × eW), fX11_nowhere_4 n x0 x1 x2 w = some r → eBN l D cI cZ 3 yX11_nowhere cX11_nowhere 5 (some .int) 4 [(0, .ref x0), (1, .int x1), (2, .int x2)] [] w (some (.int r.1)) r.2 := by
  intro n
  induction n with
  | zero => intro x0 x1 x2 w r h; exact absurd (show (none : Option (Int32 × eW)) = some r from h) (by simp)
  | succ n ih =>
    intro x0 x1 x2 w r h
    rw [fX11_nowhere_4] at h
    intro p e s m args below meth c r0 A X
    refine ev_iload_n (pc := 4) X 2 dX11_nowhere_4 rfl rfl ?_
    refine ev_aload_n (pc := 5) X 0 dX11_nowhere_5 rfl rfl ?_
    obtain ⟨v1, hv1, h⟩ := eBi h
    refine ev_getR (pc := 6) X hcX11 (k := 13) (by decide) kfX11_22 dX11_nowhere_6 hv1 ?_
    refine ev_iconst (pc := 9) (v := (0 : Int32)) X dX11_nowhere_9 rfl ?_
    obtain ⟨v2, hv2, h⟩ := eBi h
    refine ev_iald (pc := 10) X dX11_nowhere_10 hv2 ?_
    refine ev_icmp_ge (pc := 11) X 97 dX11_nowhere_11 rfl (fun hc => ?_) (fun hc => ?_)
    · rw [if_pos hc] at h
      refine ev_iload_n (pc := 97) X 1 dX11_nowhere_97 rfl rfl ?_
      obtain rfl := Option.some.inj h
      exact ev_iret (pc := 98) X dX11_nowhere_98
    · rw [if_neg hc] at h
      refine ev_iconst (pc := 14) (v := (0 : Int32)) X dX11_nowhere_14 rfl ?_
      refine ev_istore_n (pc := 15) (L' := [(3, .int (0 : Int32)), (0, .ref x0), (1, .int x1), (2, .int x2)]) X dX11_nowhere_15 rfl (by decide) rfl ?_
      refine ev_iconst (pc := 16) (v := (0 : Int32)) X dX11_nowhere_16 rfl ?_
      refine ev_istore (pc := 17) (L' := [(4, .int (0 : Int32)), (3, .int (0 : Int32)), (0, .ref x0), (1, .int x1), (2, .int x2)]) X dX11_nowhere_17 (by decide) rfl ?_
      exact ev_weak (pc := 19) [2, 3, 4, 1, 0] rfl (sX11_nowhere_19 (fun _ _ _ w r hh => ih _ _ _ w r hh) eN _ _ _ _ _ _ _ h p e s m args below meth c r0 A X)
def fX11_nowhere_0 (x0 : Nat) (w : eW) : Option (Int32 × eW) := fX11_nowhere_4 eN x0 (0 : Int32) (0 : Int32) w
set_option maxRecDepth 20000 in
theorem sX11_nowhere_0  (x0 : Nat) (w : eW) (r : Int32 × eW) (h : fX11_nowhere_0 x0 w = some r) : eBN l D cI cZ 3 yX11_nowhere cX11_nowhere 5 (some .int) 0 [(0, .ref x0)] [] w (some (.int r.1)) r.2 := by
  rw [fX11_nowhere_0] at h
  intro p e s m args below meth c r0 A X
  refine ev_iconst (pc := 0) (v := (0 : Int32)) X dX11_nowhere_0 rfl ?_
  refine ev_istore_n (pc := 1) (L' := [(1, .int (0 : Int32)), (0, .ref x0)]) X dX11_nowhere_1 rfl (by decide) rfl ?_
  refine ev_iconst (pc := 2) (v := (0 : Int32)) X dX11_nowhere_2 rfl ?_
  refine ev_istore_n (pc := 3) (L' := [(2, .int (0 : Int32)), (1, .int (0 : Int32)), (0, .ref x0)]) X dX11_nowhere_3 rfl (by decide) rfl ?_
  exact ev_weak (pc := 4) [2, 1, 0] rfl (sX11_nowhere_4 eN _ _ _ _ _ h p e s m args below meth c r0 A X)
def fX11_nowhere (a0 : Nat) (w : eW) : Option (Int32 × eW) := bif eO w a0 11 then fX11_nowhere_0 a0 w else none
theorem mX11_nowhere {a0 : Nat} {w : eW} {v : Int32} {w' : eW} (h : fX11_nowhere a0 w = some (v, w')) : eO w a0 11 = true ∧ eMN l D cI cZ 3 yX11_nowhere cX11_nowhere 5 (some .int) [.ref a0] w (some (.int v)) w' := by
  obtain ⟨h0, h⟩ := eBif h
  exact ⟨h0, eMN_of [(0, .ref a0)] (plainFor_of_name (by decide)) (fun _ => rfl) (fun _ => Nat.le_of_ble_eq_true rfl) (fun p e s m args below meth c r0 A X => ev_weak (pc := 0) [0] rfl (sX11_nowhere_0 _ _ _ h p e s m args below meth c r0 A X))⟩
theorem dX11_steep_0 : decode cX11_steep 0 = .ok (.bipush (-9), 2) := by decide +kernel
theorem dX11_steep_2 : decode cX11_steep 2 = .ok (.istore_n 1, 1) := by decide +kernel
theorem dX11_steep_3 : decode cX11_steep 3 = .ok (.iconst 0, 1) := by decide +kernel
theorem dX11_steep_4 : decode cX11_steep 4 = .ok (.istore_n 2, 1) := by decide +kernel
theorem dX11_steep_5 : decode cX11_steep 5 = .ok (.iload_n 2, 1) := by decide +kernel
theorem dX11_steep_6 : decode cX11_steep 6 = .ok (.aload_n 0, 1) := by decide +kernel
theorem dX11_steep_7 : decode cX11_steep 7 = .ok (.getfield 22, 3) := by decide +kernel
theorem dX11_steep_10 : decode cX11_steep 10 = .ok (.iconst 0, 1) := by decide +kernel
theorem dX11_steep_11 : decode cX11_steep 11 = .ok (.iaload, 1) := by decide +kernel
theorem dX11_steep_12 : decode cX11_steep 12 = .ok (.if_icmp .ge 70, 3) := by decide +kernel
theorem dX11_steep_15 : decode cX11_steep 15 = .ok (.iconst 0, 1) := by decide +kernel
theorem dX11_steep_16 : decode cX11_steep 16 = .ok (.istore_n 3, 1) := by decide +kernel
theorem dX11_steep_17 : decode cX11_steep 17 = .ok (.iload_n 3, 1) := by decide +kernel
theorem dX11_steep_18 : decode cX11_steep 18 = .ok (.aload_n 0, 1) := by decide +kernel
theorem dX11_steep_19 : decode cX11_steep 19 = .ok (.getfield 22, 3) := by decide +kernel
theorem dX11_steep_22 : decode cX11_steep 22 = .ok (.iload_n 2, 1) := by decide +kernel
theorem dX11_steep_23 : decode cX11_steep 23 = .ok (.invokestatic 137, 3) := by decide +kernel
theorem dX11_steep_26 : decode cX11_steep 26 = .ok (.if_icmp .ge 50, 3) := by decide +kernel
theorem dX11_steep_29 : decode cX11_steep 29 = .ok (.aload_n 0, 1) := by decide +kernel
theorem dX11_steep_30 : decode cX11_steep 30 = .ok (.aload_n 0, 1) := by decide +kernel
theorem dX11_steep_31 : decode cX11_steep 31 = .ok (.aload_n 0, 1) := by decide +kernel
theorem dX11_steep_32 : decode cX11_steep 32 = .ok (.getfield 22, 3) := by decide +kernel
theorem dX11_steep_35 : decode cX11_steep 35 = .ok (.iload_n 2, 1) := by decide +kernel
theorem dX11_steep_36 : decode cX11_steep 36 = .ok (.iload_n 3, 1) := by decide +kernel
theorem dX11_steep_37 : decode cX11_steep 37 = .ok (.invokevirtual 140, 3) := by decide +kernel
theorem dX11_steep_40 : decode cX11_steep 40 = .ok (.aload_n 0, 1) := by decide +kernel
theorem dX11_steep_41 : decode cX11_steep 41 = .ok (.aload_n 0, 1) := by decide +kernel
theorem dX11_steep_42 : decode cX11_steep 42 = .ok (.getfield 22, 3) := by decide +kernel
theorem dX11_steep_45 : decode cX11_steep 45 = .ok (.iload_n 2, 1) := by decide +kernel
theorem dX11_steep_46 : decode cX11_steep 46 = .ok (.iload_n 3, 1) := by decide +kernel
theorem dX11_steep_47 : decode cX11_steep 47 = .ok (.iconst 1, 1) := by decide +kernel
theorem dX11_steep_48 : decode cX11_steep 48 = .ok (.iadd, 1) := by decide +kernel
theorem dX11_steep_49 : decode cX11_steep 49 = .ok (.invokevirtual 140, 3) := by decide +kernel
theorem dX11_steep_52 : decode cX11_steep 52 = .ok (.invokevirtual 126, 3) := by decide +kernel
theorem dX11_steep_55 : decode cX11_steep 55 = .ok (.istore 4, 2) := by decide +kernel
theorem dX11_steep_57 : decode cX11_steep 57 = .ok (.iload 4, 2) := by decide +kernel
theorem dX11_steep_59 : decode cX11_steep 59 = .ok (.iload_n 1, 1) := by decide +kernel
theorem dX11_steep_60 : decode cX11_steep 60 = .ok (.if_icmp .le 8, 3) := by decide +kernel
theorem dX11_steep_63 : decode cX11_steep 63 = .ok (.iload 4, 2) := by decide +kernel
theorem dX11_steep_65 : decode cX11_steep 65 = .ok (.goto 4, 3) := by decide +kernel
theorem dX11_steep_68 : decode cX11_steep 68 = .ok (.iload_n 1, 1) := by decide +kernel
theorem dX11_steep_69 : decode cX11_steep 69 = .ok (.istore_n 1, 1) := by decide +kernel
theorem dX11_steep_70 : decode cX11_steep 70 = .ok (.iinc 3 1, 3) := by decide +kernel
theorem dX11_steep_73 : decode cX11_steep 73 = .ok (.goto (-56), 3) := by decide +kernel
theorem dX11_steep_76 : decode cX11_steep 76 = .ok (.iinc 2 1, 3) := by decide +kernel
theorem dX11_steep_79 : decode cX11_steep 79 = .ok (.goto (-74), 3) := by decide +kernel
theorem dX11_steep_82 : decode cX11_steep 82 = .ok (.iload_n 1, 1) := by decide +kernel
theorem dX11_steep_83 : decode cX11_steep 83 = .ok (.ireturn, 1) := by decide +kernel
def fX11_steep_69 (K5 : Nat → Int32 → Int32 → eW → Option (Int32 × eW)) (K17 : Nat → Int32 → Int32 → Int32 → eW → Option (Int32 × eW)) (x0 : Nat) (x2 : Int32) (x3 : Int32) (t0 : Int32) (w : eW) : Option (Int32 × eW) := K17 x0 t0 x2 (x3 + (1 : Int32)) w
set_option maxRecDepth 20000 in
theorem sX11_steep_69 {K5 : Nat → Int32 → Int32 → eW → Option (Int32 × eW)} {K17 : Nat → Int32 → Int32 → Int32 → eW → Option (Int32 × eW)} (hK5 : ∀ (x0 : Nat) (x1 : Int32) (x2 : Int32) (w : eW) (r : Int32 × eW), K5 x0 x1 x2 w = some r → eBN l D cI cZ 3 yX11_steep cX11_steep 5 (some .int) 5 [(0, .ref x0), (1, .int x1), (2, .int x2)] [] w (some (.int r.1)) r.2) (hK17 : ∀ (x0 : Nat) (x1 : Int32) (x2 : Int32) (x3 : Int32) (w : eW) (r : Int32 × eW), K17 x0 x1 x2 x3 w = some r → eBN l D cI cZ 3 yX11_steep cX11_steep 5 (some .int) 17 [(0, .ref x0), (1, .int x1), (2, .int x2), (3, .int x3)] [] w (some (.int r.1)) r.2) (x0 : Nat) (x2 : Int32) (x3 : Int32) (t0 : Int32) (w : eW) (r : Int32 × eW) (h : fX11_steep_69 K5 K17 x0 x2 x3 t0 w = some r) : eBN l D cI cZ 3 yX11_steep cX11_steep 5 (some .int) 69 [(0, .ref x0), (2, .int x2), (3, .int x3)] [.int t0] w (some (.int r.1)) r.2 := by
  rw [fX11_steep_69] at h
  intro p e s m args below meth c r0 A X
  refine ev_istore_n (pc := 69) (L' := [(1, .int t0), (0, .ref x0), (2, .int x2), (3, .int x3)]) X dX11_steep_69 rfl (by decide) rfl ?_
  refine ev_iinc (pc := 70) (v := x3 + (1 : Int32)) (L' := [(3, .int (x3 + (1 : Int32))), (1, .int t0), (0, .ref x0), (2, .int x2)]) X 3 dX11_steep_70 rfl rfl (by decide) rfl ?_
  refine ev_goto (pc := 73) X 17 dX11_steep_73 rfl ?_
  exact ev_weak (pc := 17) [2, 1, 3, 0] rfl (hK17 _ _ _ _ _ _ h p e s m args below meth c r0 A X)
def fX11_steep_17 (K5 : Nat → Int32 → Int32 → eW → Option (Int32 × eW)) : Nat → Nat → Int32 → Int32 → Int32 → eW → Option (Int32 × eW)
  | 0, _, _, _, _, _ => none
  | n + 1, x0, x1, x2, x3, w => (eGR w x0 11 13).bind fun v1 => eBind2 (fX11_cardsOf v1 x2 w) fun v3 w2 => if v3 ≤ x3 then (K5 x0 x1 (x2 + (1 : Int32)) w2) else ((eGR w2 x0 11 13).bind fun v4 => eBind2 (fX11_behind x0 v4 x2 x3 w2) fun v6 w5 => (eGR w5 x0 11 13).bind fun v7 => eBind2 (fX11_behind x0 v7 x2 (x3 + (1 : Int32)) w5) fun v9 w8 => eBind2 (fX11_step x0 v6 v9 w8) fun v11 w10 => if v11 ≤ x1 then (fX11_steep_69 K5 (fX11_steep_17 K5 n) x0 x2 x3 x1 w10) else (fX11_steep_69 K5 (fX11_steep_17 K5 n) x0 x2 x3 v11 w10))
set_option maxRecDepth 20000 in
theorem sX11_steep_17 {K5 : Nat → Int32 → Int32 → eW → Option (Int32 × eW)} (hK5 : ∀ (x0 : Nat) (x1 : Int32) (x2 : Int32) (w : eW) (r : Int32 × eW), K5 x0 x1 x2 w = some r → eBN l D cI cZ 3 yX11_steep cX11_steep 5 (some .int) 5 [(0, .ref x0), (1, .int x1), (2, .int x2)] [] w (some (.int r.1)) r.2) : ∀ (n : Nat) (x0 : Nat) (x1 : Int32) (x2 : Int32) (x3 : Int32) (w : eW) (r : Int32 × eW), fX11_steep_17 K5 n x0 x1 x2 x3 w = some r → eBN l D cI cZ 3 yX11_steep cX11_steep 5 (some .int) 17 [(0, .ref x0), (1, .int x1), (2, .int x2), (3, .int x3)] [] w (some (.int r.1)) r.2 := by
  intro n
  induction n with
  | zero => intro x0 x1 x2 x3 w r h; exact absurd (show (none : Option (Int32 × eW)) = some r from h) (by simp)
  | succ n ih =>
    intro x0 x1 x2 x3 w r h
    rw [fX11_steep_17] at h
    intro p e s m args below meth c r0 A X
    refine ev_iload_n (pc := 17) X 3 dX11_steep_17 rfl rfl ?_
    refine ev_aload_n (pc := 18) X 0 dX11_steep_18 rfl rfl ?_
    obtain ⟨v1, hv1, h⟩ := eBi h
    refine ev_getR (pc := 19) X hcX11 (k := 13) (by decide) kfX11_22 dX11_steep_19 hv1 ?_
    refine ev_iload_n (pc := 22) X 2 dX11_steep_22 rfl rfl ?_
    obtain ⟨v3, w2, hc, h⟩ := eB2 h
    refine ev_callS_i (pc := 23) (As := [.ref v1, .int x2]) (S := [.int x3]) X hwX11_cardsOf klX11_137 htX11_cardsOf ⟨Nat.le_of_ble_eq_true rfl, Nat.le_of_ble_eq_true rfl⟩ ⟨Nat.le_refl _, Nat.le_refl _⟩ rfl (Nat.le_of_ble_eq_true rfl) dX11_steep_23 rfl (mX11_cardsOf hc) ?_
    refine ev_icmp_ge (pc := 26) X 76 dX11_steep_26 rfl (fun hc => ?_) (fun hc => ?_)
    · rw [if_pos hc] at h
      refine ev_iinc (pc := 76) (v := x2 + (1 : Int32)) (L' := [(2, .int (x2 + (1 : Int32))), (0, .ref x0), (1, .int x1), (3, .int x3)]) X 2 dX11_steep_76 rfl rfl (by decide) rfl ?_
      refine ev_goto (pc := 79) X 5 dX11_steep_79 rfl ?_
      exact ev_weak (pc := 5) [1, 2, 0] rfl (hK5 _ _ _ _ _ h p e s m args below meth c r0 A X)
    · rw [if_neg hc] at h
      refine ev_aload_n (pc := 29) X 0 dX11_steep_29 rfl rfl ?_
      refine ev_aload_n (pc := 30) X 0 dX11_steep_30 rfl rfl ?_
      refine ev_aload_n (pc := 31) X 0 dX11_steep_31 rfl rfl ?_
      obtain ⟨v4, hv4, h⟩ := eBi h
      refine ev_getR (pc := 32) X hcX11 (k := 13) (by decide) kfX11_22 dX11_steep_32 hv4 ?_
      refine ev_iload_n (pc := 35) X 2 dX11_steep_35 rfl rfl ?_
      refine ev_iload_n (pc := 36) X 3 dX11_steep_36 rfl rfl ?_
      obtain ⟨v6, w5, hc, h⟩ := eB2 h
      refine ev_callV_i (pc := 37) (As := [.ref v4, .int x2, .int x3]) (S := [.ref x0]) X hwX11_behind klX11_140 hiX11_behind hsX11_behind (ci := 11) ⟨rfl, rfl⟩ ⟨Nat.le_of_ble_eq_true rfl, Nat.le_of_ble_eq_true rfl⟩ ⟨Nat.le_refl _, Nat.le_refl _⟩ rfl (Nat.le_of_ble_eq_true rfl) dX11_steep_37 rfl (mX11_behind (l := l) (D := D) (cI := cI) (cZ := cZ) hc).1 (mX11_behind hc).2 ?_
      refine ev_aload_n (pc := 40) X 0 dX11_steep_40 rfl rfl ?_
      refine ev_aload_n (pc := 41) X 0 dX11_steep_41 rfl rfl ?_
      obtain ⟨v7, hv7, h⟩ := eBi h
      refine ev_getR (pc := 42) X hcX11 (k := 13) (by decide) kfX11_22 dX11_steep_42 hv7 ?_
      refine ev_iload_n (pc := 45) X 2 dX11_steep_45 rfl rfl ?_
      refine ev_iload_n (pc := 46) X 3 dX11_steep_46 rfl rfl ?_
      refine ev_iconst (pc := 47) (v := (1 : Int32)) X dX11_steep_47 rfl ?_
      refine ev_iadd (pc := 48) X dX11_steep_48 ?_
      obtain ⟨v9, w8, hc, h⟩ := eB2 h
      refine ev_callV_i (pc := 49) (As := [.ref v7, .int x2, .int (x3 + (1 : Int32))]) (S := [.int v6, .ref x0]) X hwX11_behind klX11_140 hiX11_behind hsX11_behind (ci := 11) ⟨rfl, rfl⟩ ⟨Nat.le_of_ble_eq_true rfl, Nat.le_of_ble_eq_true rfl⟩ ⟨Nat.le_refl _, Nat.le_refl _⟩ rfl (Nat.le_of_ble_eq_true rfl) dX11_steep_49 rfl (mX11_behind (l := l) (D := D) (cI := cI) (cZ := cZ) hc).1 (mX11_behind hc).2 ?_
      obtain ⟨v11, w10, hc, h⟩ := eB2 h
      refine ev_callV_i (pc := 52) (As := [.int v6, .int v9]) (S := []) X hwX11_step klX11_126 hiX11_step hsX11_step (ci := 11) ⟨rfl, rfl⟩ ⟨Nat.le_of_ble_eq_true rfl, Nat.le_of_ble_eq_true rfl⟩ ⟨Nat.le_refl _, Nat.le_refl _⟩ rfl (Nat.le_of_ble_eq_true rfl) dX11_steep_52 rfl (mX11_step (l := l) (D := D) (cI := cI) (cZ := cZ) hc).1 (mX11_step hc).2 ?_
      refine ev_istore (pc := 55) (L' := [(4, .int v11), (0, .ref x0), (1, .int x1), (2, .int x2), (3, .int x3)]) X dX11_steep_55 (by decide) rfl ?_
      refine ev_iload (pc := 57) X 0 dX11_steep_57 rfl ?_
      refine ev_iload_n (pc := 59) X 2 dX11_steep_59 rfl rfl ?_
      refine ev_icmp_le (pc := 60) X 68 dX11_steep_60 rfl (fun hc => ?_) (fun hc => ?_)
      · rw [if_pos hc] at h
        refine ev_iload_n (pc := 68) X 2 dX11_steep_68 rfl rfl ?_
        exact ev_weak (pc := 69) [1, 3, 4] rfl (sX11_steep_69 hK5 (fun _ _ _ _ w r hh => ih _ _ _ _ w r hh) _ _ _ _ _ _ h p e s m args below meth c r0 A X)
      · rw [if_neg hc] at h
        refine ev_iload (pc := 63) X 0 dX11_steep_63 rfl ?_
        refine ev_goto (pc := 65) X 69 dX11_steep_65 rfl ?_
        exact ev_weak (pc := 69) [1, 3, 4] rfl (sX11_steep_69 hK5 (fun _ _ _ _ w r hh => ih _ _ _ _ w r hh) _ _ _ _ _ _ h p e s m args below meth c r0 A X)
def fX11_steep_5 : Nat → Nat → Int32 → Int32 → eW → Option (Int32 × eW)
  | 0, _, _, _, _ => none
  | n + 1, x0, x1, x2, w => (eGR w x0 11 13).bind fun v1 => (eLd w false v1 (0 : Int32)).bind fun v2 => if v2 ≤ x2 then (some (x1, w)) else (fX11_steep_17 (fX11_steep_5 n) eN x0 x1 x2 (0 : Int32) w)
set_option maxRecDepth 20000 in
theorem sX11_steep_5  : ∀ (n : Nat) (x0 : Nat) (x1 : Int32) (x2 : Int32) (w : eW) (r : Int32 × eW), fX11_steep_5 n x0 x1 x2 w = some r → eBN l D cI cZ 3 yX11_steep cX11_steep 5 (some .int) 5 [(0, .ref x0), (1, .int x1), (2, .int x2)] [] w (some (.int r.1)) r.2 := by
  intro n
  induction n with
  | zero => intro x0 x1 x2 w r h; exact absurd (show (none : Option (Int32 × eW)) = some r from h) (by simp)
  | succ n ih =>
    intro x0 x1 x2 w r h
    rw [fX11_steep_5] at h
    intro p e s m args below meth c r0 A X
    refine ev_iload_n (pc := 5) X 2 dX11_steep_5 rfl rfl ?_
    refine ev_aload_n (pc := 6) X 0 dX11_steep_6 rfl rfl ?_
    obtain ⟨v1, hv1, h⟩ := eBi h
    refine ev_getR (pc := 7) X hcX11 (k := 13) (by decide) kfX11_22 dX11_steep_7 hv1 ?_
    refine ev_iconst (pc := 10) (v := (0 : Int32)) X dX11_steep_10 rfl ?_
    obtain ⟨v2, hv2, h⟩ := eBi h
    refine ev_iald (pc := 11) X dX11_steep_11 hv2 ?_
    refine ev_icmp_ge (pc := 12) X 82 dX11_steep_12 rfl (fun hc => ?_) (fun hc => ?_)
    · rw [if_pos hc] at h
      refine ev_iload_n (pc := 82) X 1 dX11_steep_82 rfl rfl ?_
      obtain rfl := Option.some.inj h
      exact ev_iret (pc := 83) X dX11_steep_83
    · rw [if_neg hc] at h
      refine ev_iconst (pc := 15) (v := (0 : Int32)) X dX11_steep_15 rfl ?_
      refine ev_istore_n (pc := 16) (L' := [(3, .int (0 : Int32)), (0, .ref x0), (1, .int x1), (2, .int x2)]) X dX11_steep_16 rfl (by decide) rfl ?_
      exact ev_weak (pc := 17) [1, 2, 3, 0] rfl (sX11_steep_17 (fun _ _ _ w r hh => ih _ _ _ w r hh) eN _ _ _ _ _ _ h p e s m args below meth c r0 A X)
def fX11_steep_0 (x0 : Nat) (w : eW) : Option (Int32 × eW) := fX11_steep_5 eN x0 (-9 : Int32) (0 : Int32) w
set_option maxRecDepth 20000 in
theorem sX11_steep_0  (x0 : Nat) (w : eW) (r : Int32 × eW) (h : fX11_steep_0 x0 w = some r) : eBN l D cI cZ 3 yX11_steep cX11_steep 5 (some .int) 0 [(0, .ref x0)] [] w (some (.int r.1)) r.2 := by
  rw [fX11_steep_0] at h
  intro p e s m args below meth c r0 A X
  refine ev_bipush (pc := 0) (v := (-9 : Int32)) X dX11_steep_0 rfl ?_
  refine ev_istore_n (pc := 2) (L' := [(1, .int (-9 : Int32)), (0, .ref x0)]) X dX11_steep_2 rfl (by decide) rfl ?_
  refine ev_iconst (pc := 3) (v := (0 : Int32)) X dX11_steep_3 rfl ?_
  refine ev_istore_n (pc := 4) (L' := [(2, .int (0 : Int32)), (1, .int (-9 : Int32)), (0, .ref x0)]) X dX11_steep_4 rfl (by decide) rfl ?_
  exact ev_weak (pc := 5) [2, 1, 0] rfl (sX11_steep_5 eN _ _ _ _ _ h p e s m args below meth c r0 A X)
def fX11_steep (a0 : Nat) (w : eW) : Option (Int32 × eW) := bif eO w a0 11 then fX11_steep_0 a0 w else none
theorem mX11_steep {a0 : Nat} {w : eW} {v : Int32} {w' : eW} (h : fX11_steep a0 w = some (v, w')) : eO w a0 11 = true ∧ eMN l D cI cZ 3 yX11_steep cX11_steep 5 (some .int) [.ref a0] w (some (.int v)) w' := by
  obtain ⟨h0, h⟩ := eBif h
  exact ⟨h0, eMN_of [(0, .ref a0)] (plainFor_of_name (by decide)) (fun _ => rfl) (fun _ => Nat.le_of_ble_eq_true rfl) (fun p e s m args below meth c r0 A X => ev_weak (pc := 0) [0] rfl (sX11_steep_0 _ _ _ h p e s m args below meth c r0 A X))⟩
theorem dX11_ells_0 : decode cX11_ells 0 = .ok (.iconst 0, 1) := by decide +kernel
theorem dX11_ells_1 : decode cX11_ells 1 = .ok (.istore_n 1, 1) := by decide +kernel
theorem dX11_ells_2 : decode cX11_ells 2 = .ok (.iconst 0, 1) := by decide +kernel
theorem dX11_ells_3 : decode cX11_ells 3 = .ok (.istore_n 2, 1) := by decide +kernel
theorem dX11_ells_4 : decode cX11_ells 4 = .ok (.iload_n 2, 1) := by decide +kernel
theorem dX11_ells_5 : decode cX11_ells 5 = .ok (.aload_n 0, 1) := by decide +kernel
theorem dX11_ells_6 : decode cX11_ells 6 = .ok (.getfield 22, 3) := by decide +kernel
theorem dX11_ells_9 : decode cX11_ells 9 = .ok (.iconst 0, 1) := by decide +kernel
theorem dX11_ells_10 : decode cX11_ells 10 = .ok (.iaload, 1) := by decide +kernel
theorem dX11_ells_11 : decode cX11_ells 11 = .ok (.if_icmp .ge 20, 3) := by decide +kernel
theorem dX11_ells_14 : decode cX11_ells 14 = .ok (.iload_n 1, 1) := by decide +kernel
theorem dX11_ells_15 : decode cX11_ells 15 = .ok (.aload_n 0, 1) := by decide +kernel
theorem dX11_ells_16 : decode cX11_ells 16 = .ok (.getfield 22, 3) := by decide +kernel
theorem dX11_ells_19 : decode cX11_ells 19 = .ok (.iload_n 2, 1) := by decide +kernel
theorem dX11_ells_20 : decode cX11_ells 20 = .ok (.invokestatic 137, 3) := by decide +kernel
theorem dX11_ells_23 : decode cX11_ells 23 = .ok (.iadd, 1) := by decide +kernel
theorem dX11_ells_24 : decode cX11_ells 24 = .ok (.istore_n 1, 1) := by decide +kernel
theorem dX11_ells_25 : decode cX11_ells 25 = .ok (.iinc 2 1, 3) := by decide +kernel
theorem dX11_ells_28 : decode cX11_ells 28 = .ok (.goto (-24), 3) := by decide +kernel
theorem dX11_ells_31 : decode cX11_ells 31 = .ok (.iload_n 1, 1) := by decide +kernel
theorem dX11_ells_32 : decode cX11_ells 32 = .ok (.ireturn, 1) := by decide +kernel
def fX11_ells_4 : Nat → Nat → Int32 → Int32 → eW → Option (Int32 × eW)
  | 0, _, _, _, _ => none
  | n + 1, x0, x1, x2, w => (eGR w x0 11 13).bind fun v1 => (eLd w false v1 (0 : Int32)).bind fun v2 => if v2 ≤ x2 then (some (x1, w)) else ((eGR w x0 11 13).bind fun v3 => eBind2 (fX11_cardsOf v3 x2 w) fun v5 w4 => fX11_ells_4 n x0 (x1 + v5) (x2 + (1 : Int32)) w4)
set_option maxRecDepth 20000 in
theorem sX11_ells_4  : ∀ (n : Nat) (x0 : Nat) (x1 : Int32) (x2 : Int32) (w : eW) (r : Int32 × eW), fX11_ells_4 n x0 x1 x2 w = some r → eBN l D cI cZ 1 yX11_ells cX11_ells 3 (some .int) 4 [(0, .ref x0), (1, .int x1), (2, .int x2)] [] w (some (.int r.1)) r.2 := by
  intro n
  induction n with
  | zero => intro x0 x1 x2 w r h; exact absurd (show (none : Option (Int32 × eW)) = some r from h) (by simp)
  | succ n ih =>
    intro x0 x1 x2 w r h
    rw [fX11_ells_4] at h
    intro p e s m args below meth c r0 A X
    refine ev_iload_n (pc := 4) X 2 dX11_ells_4 rfl rfl ?_
    refine ev_aload_n (pc := 5) X 0 dX11_ells_5 rfl rfl ?_
    obtain ⟨v1, hv1, h⟩ := eBi h
    refine ev_getR (pc := 6) X hcX11 (k := 13) (by decide) kfX11_22 dX11_ells_6 hv1 ?_
    refine ev_iconst (pc := 9) (v := (0 : Int32)) X dX11_ells_9 rfl ?_
    obtain ⟨v2, hv2, h⟩ := eBi h
    refine ev_iald (pc := 10) X dX11_ells_10 hv2 ?_
    refine ev_icmp_ge (pc := 11) X 31 dX11_ells_11 rfl (fun hc => ?_) (fun hc => ?_)
    · rw [if_pos hc] at h
      refine ev_iload_n (pc := 31) X 1 dX11_ells_31 rfl rfl ?_
      obtain rfl := Option.some.inj h
      exact ev_iret (pc := 32) X dX11_ells_32
    · rw [if_neg hc] at h
      refine ev_iload_n (pc := 14) X 1 dX11_ells_14 rfl rfl ?_
      refine ev_aload_n (pc := 15) X 0 dX11_ells_15 rfl rfl ?_
      obtain ⟨v3, hv3, h⟩ := eBi h
      refine ev_getR (pc := 16) X hcX11 (k := 13) (by decide) kfX11_22 dX11_ells_16 hv3 ?_
      refine ev_iload_n (pc := 19) X 2 dX11_ells_19 rfl rfl ?_
      obtain ⟨v5, w4, hc, h⟩ := eB2 h
      refine ev_callS_i (pc := 20) (As := [.ref v3, .int x2]) (S := [.int x1]) X hwX11_cardsOf klX11_137 htX11_cardsOf ⟨Nat.le_of_ble_eq_true rfl, Nat.le_of_ble_eq_true rfl⟩ ⟨Nat.le_refl _, Nat.le_refl _⟩ rfl (Nat.le_of_ble_eq_true rfl) dX11_ells_20 rfl (mX11_cardsOf hc) ?_
      refine ev_iadd (pc := 23) X dX11_ells_23 ?_
      refine ev_istore_n (pc := 24) (L' := [(1, .int (x1 + v5)), (0, .ref x0), (2, .int x2)]) X dX11_ells_24 rfl (by decide) rfl ?_
      refine ev_iinc (pc := 25) (v := x2 + (1 : Int32)) (L' := [(2, .int (x2 + (1 : Int32))), (1, .int (x1 + v5)), (0, .ref x0)]) X 2 dX11_ells_25 rfl rfl (by decide) rfl ?_
      refine ev_goto (pc := 28) X 4 dX11_ells_28 rfl ?_
      exact ev_weak (pc := 4) [2, 1, 0] rfl (ih _ _ _ _ _ h p e s m args below meth c r0 A X)
def fX11_ells_0 (x0 : Nat) (w : eW) : Option (Int32 × eW) := fX11_ells_4 eN x0 (0 : Int32) (0 : Int32) w
set_option maxRecDepth 20000 in
theorem sX11_ells_0  (x0 : Nat) (w : eW) (r : Int32 × eW) (h : fX11_ells_0 x0 w = some r) : eBN l D cI cZ 1 yX11_ells cX11_ells 3 (some .int) 0 [(0, .ref x0)] [] w (some (.int r.1)) r.2 := by
  rw [fX11_ells_0] at h
  intro p e s m args below meth c r0 A X
  refine ev_iconst (pc := 0) (v := (0 : Int32)) X dX11_ells_0 rfl ?_
  refine ev_istore_n (pc := 1) (L' := [(1, .int (0 : Int32)), (0, .ref x0)]) X dX11_ells_1 rfl (by decide) rfl ?_
  refine ev_iconst (pc := 2) (v := (0 : Int32)) X dX11_ells_2 rfl ?_
  refine ev_istore_n (pc := 3) (L' := [(2, .int (0 : Int32)), (1, .int (0 : Int32)), (0, .ref x0)]) X dX11_ells_3 rfl (by decide) rfl ?_
  exact ev_weak (pc := 4) [2, 1, 0] rfl (sX11_ells_4 eN _ _ _ _ _ h p e s m args below meth c r0 A X)
def fX11_ells (a0 : Nat) (w : eW) : Option (Int32 × eW) := bif eO w a0 11 then fX11_ells_0 a0 w else none
theorem mX11_ells {a0 : Nat} {w : eW} {v : Int32} {w' : eW} (h : fX11_ells a0 w = some (v, w')) : eO w a0 11 = true ∧ eMN l D cI cZ 1 yX11_ells cX11_ells 3 (some .int) [.ref a0] w (some (.int v)) w' := by
  obtain ⟨h0, h⟩ := eBif h
  exact ⟨h0, eMN_of [(0, .ref a0)] (plainFor_of_name (by decide)) (fun _ => rfl) (fun _ => Nat.le_of_ble_eq_true rfl) (fun p e s m args below meth c r0 A X => ev_weak (pc := 0) [0] rfl (sX11_ells_0 _ _ _ h p e s m args below meth c r0 A X))⟩
theorem dX11_couldBe_0 : decode cX11_couldBe 0 = .ok (.iconst 0, 1) := by decide +kernel
theorem dX11_couldBe_1 : decode cX11_couldBe 1 = .ok (.istore_n 2, 1) := by decide +kernel
theorem dX11_couldBe_2 : decode cX11_couldBe 2 = .ok (.iload_n 2, 1) := by decide +kernel
theorem dX11_couldBe_3 : decode cX11_couldBe 3 = .ok (.aload_n 0, 1) := by decide +kernel
theorem dX11_couldBe_4 : decode cX11_couldBe 4 = .ok (.invokevirtual 116, 3) := by decide +kernel
theorem dX11_couldBe_7 : decode cX11_couldBe 7 = .ok (.if_icmp .ge 71, 3) := by decide +kernel
theorem dX11_couldBe_10 : decode cX11_couldBe 10 = .ok (.aload_n 0, 1) := by decide +kernel
theorem dX11_couldBe_11 : decode cX11_couldBe 11 = .ok (.getfield 38, 3) := by decide +kernel
theorem dX11_couldBe_14 : decode cX11_couldBe 14 = .ok (.iload_n 2, 1) := by decide +kernel
theorem dX11_couldBe_15 : decode cX11_couldBe 15 = .ok (.iconst 0, 1) := by decide +kernel
theorem dX11_couldBe_16 : decode cX11_couldBe 16 = .ok (.iastore, 1) := by decide +kernel
theorem dX11_couldBe_17 : decode cX11_couldBe 17 = .ok (.iconst 0, 1) := by decide +kernel
theorem dX11_couldBe_18 : decode cX11_couldBe 18 = .ok (.istore_n 3, 1) := by decide +kernel
theorem dX11_couldBe_19 : decode cX11_couldBe 19 = .ok (.iload_n 3, 1) := by decide +kernel
theorem dX11_couldBe_20 : decode cX11_couldBe 20 = .ok (.iconst 4, 1) := by decide +kernel
theorem dX11_couldBe_21 : decode cX11_couldBe 21 = .ok (.if_icmp .ge 51, 3) := by decide +kernel
theorem dX11_couldBe_24 : decode cX11_couldBe 24 = .ok (.aload_n 0, 1) := by decide +kernel
theorem dX11_couldBe_25 : decode cX11_couldBe 25 = .ok (.iload_n 2, 1) := by decide +kernel
theorem dX11_couldBe_26 : decode cX11_couldBe 26 = .ok (.iload_n 3, 1) := by decide +kernel
theorem dX11_couldBe_27 : decode cX11_couldBe 27 = .ok (.invokevirtual 123, 3) := by decide +kernel
theorem dX11_couldBe_30 : decode cX11_couldBe 30 = .ok (.istore 4, 2) := by decide +kernel
theorem dX11_couldBe_32 : decode cX11_couldBe 32 = .ok (.aload_n 0, 1) := by decide +kernel
theorem dX11_couldBe_33 : decode cX11_couldBe 33 = .ok (.getfield 38, 3) := by decide +kernel
theorem dX11_couldBe_36 : decode cX11_couldBe 36 = .ok (.iload_n 2, 1) := by decide +kernel
theorem dX11_couldBe_37 : decode cX11_couldBe 37 = .ok (.dup2, 1) := by decide +kernel
theorem dX11_couldBe_38 : decode cX11_couldBe 38 = .ok (.iaload, 1) := by decide +kernel
theorem dX11_couldBe_39 : decode cX11_couldBe 39 = .ok (.iload 4, 2) := by decide +kernel
theorem dX11_couldBe_41 : decode cX11_couldBe 41 = .ok (.bipush (-9), 2) := by decide +kernel
theorem dX11_couldBe_43 : decode cX11_couldBe 43 = .ok (.if_icmp .eq 20, 3) := by decide +kernel
theorem dX11_couldBe_46 : decode cX11_couldBe 46 = .ok (.aload_n 0, 1) := by decide +kernel
theorem dX11_couldBe_47 : decode cX11_couldBe 47 = .ok (.iload_n 2, 1) := by decide +kernel
theorem dX11_couldBe_48 : decode cX11_couldBe 48 = .ok (.iload 4, 2) := by decide +kernel
theorem dX11_couldBe_50 : decode cX11_couldBe 50 = .ok (.invokevirtual 126, 3) := by decide +kernel
theorem dX11_couldBe_53 : decode cX11_couldBe 53 = .ok (.iload_n 1, 1) := by decide +kernel
theorem dX11_couldBe_54 : decode cX11_couldBe 54 = .ok (.if_icmp .gt 9, 3) := by decide +kernel
theorem dX11_couldBe_57 : decode cX11_couldBe 57 = .ok (.iconst 1, 1) := by decide +kernel
theorem dX11_couldBe_58 : decode cX11_couldBe 58 = .ok (.iload_n 3, 1) := by decide +kernel
theorem dX11_couldBe_59 : decode cX11_couldBe 59 = .ok (.ishl, 1) := by decide +kernel
theorem dX11_couldBe_60 : decode cX11_couldBe 60 = .ok (.goto 4, 3) := by decide +kernel
theorem dX11_couldBe_63 : decode cX11_couldBe 63 = .ok (.iconst 0, 1) := by decide +kernel
theorem dX11_couldBe_64 : decode cX11_couldBe 64 = .ok (.ior, 1) := by decide +kernel
theorem dX11_couldBe_65 : decode cX11_couldBe 65 = .ok (.iastore, 1) := by decide +kernel
theorem dX11_couldBe_66 : decode cX11_couldBe 66 = .ok (.iinc 3 1, 3) := by decide +kernel
theorem dX11_couldBe_69 : decode cX11_couldBe 69 = .ok (.goto (-50), 3) := by decide +kernel
theorem dX11_couldBe_72 : decode cX11_couldBe 72 = .ok (.iinc 2 1, 3) := by decide +kernel
theorem dX11_couldBe_75 : decode cX11_couldBe 75 = .ok (.goto (-73), 3) := by decide +kernel
theorem dX11_couldBe_78 : decode cX11_couldBe 78 = .ok (.iconst 1, 1) := by decide +kernel
theorem dX11_couldBe_79 : decode cX11_couldBe 79 = .ok (.istore_n 2, 1) := by decide +kernel
theorem dX11_couldBe_80 : decode cX11_couldBe 80 = .ok (.aload_n 0, 1) := by decide +kernel
theorem dX11_couldBe_81 : decode cX11_couldBe 81 = .ok (.getfield 13, 3) := by decide +kernel
theorem dX11_couldBe_84 : decode cX11_couldBe 84 = .ok (.iconst 2, 1) := by decide +kernel
theorem dX11_couldBe_85 : decode cX11_couldBe 85 = .ok (.iaload, 1) := by decide +kernel
theorem dX11_couldBe_86 : decode cX11_couldBe 86 = .ok (.ifCond .le 57, 3) := by decide +kernel
theorem dX11_couldBe_89 : decode cX11_couldBe 89 = .ok (.aload_n 0, 1) := by decide +kernel
theorem dX11_couldBe_90 : decode cX11_couldBe 90 = .ok (.aload_n 0, 1) := by decide +kernel
theorem dX11_couldBe_91 : decode cX11_couldBe 91 = .ok (.getfield 19, 3) := by decide +kernel
theorem dX11_couldBe_94 : decode cX11_couldBe 94 = .ok (.iconst 0, 1) := by decide +kernel
theorem dX11_couldBe_95 : decode cX11_couldBe 95 = .ok (.iaload, 1) := by decide +kernel
theorem dX11_couldBe_96 : decode cX11_couldBe 96 = .ok (.invokevirtual 157, 3) := by decide +kernel
theorem dX11_couldBe_99 : decode cX11_couldBe 99 = .ok (.iconst 0, 1) := by decide +kernel
theorem dX11_couldBe_100 : decode cX11_couldBe 100 = .ok (.istore_n 3, 1) := by decide +kernel
theorem dX11_couldBe_101 : decode cX11_couldBe 101 = .ok (.iload_n 3, 1) := by decide +kernel
theorem dX11_couldBe_102 : decode cX11_couldBe 102 = .ok (.aload_n 0, 1) := by decide +kernel
theorem dX11_couldBe_103 : decode cX11_couldBe 103 = .ok (.getfield 13, 3) := by decide +kernel
theorem dX11_couldBe_106 : decode cX11_couldBe 106 = .ok (.iconst 2, 1) := by decide +kernel
theorem dX11_couldBe_107 : decode cX11_couldBe 107 = .ok (.iaload, 1) := by decide +kernel
theorem dX11_couldBe_108 : decode cX11_couldBe 108 = .ok (.if_icmp .ge 35, 3) := by decide +kernel
theorem dX11_couldBe_111 : decode cX11_couldBe 111 = .ok (.iload_n 2, 1) := by decide +kernel
theorem dX11_couldBe_112 : decode cX11_couldBe 112 = .ok (.ifCond .eq 23, 3) := by decide +kernel
theorem dX11_couldBe_115 : decode cX11_couldBe 115 = .ok (.aload_n 0, 1) := by decide +kernel
theorem dX11_couldBe_116 : decode cX11_couldBe 116 = .ok (.getfield 44, 3) := by decide +kernel
theorem dX11_couldBe_119 : decode cX11_couldBe 119 = .ok (.aload_n 0, 1) := by decide +kernel
theorem dX11_couldBe_120 : decode cX11_couldBe 120 = .ok (.getfield 19, 3) := by decide +kernel
theorem dX11_couldBe_123 : decode cX11_couldBe 123 = .ok (.iload_n 3, 1) := by decide +kernel
theorem dX11_couldBe_124 : decode cX11_couldBe 124 = .ok (.iaload, 1) := by decide +kernel
theorem dX11_couldBe_125 : decode cX11_couldBe 125 = .ok (.iaload, 1) := by decide +kernel
theorem dX11_couldBe_126 : decode cX11_couldBe 126 = .ok (.ldc 156, 2) := by decide +kernel
theorem dX11_couldBe_128 : decode cX11_couldBe 128 = .ok (.if_icmp .ge 7, 3) := by decide +kernel
theorem dX11_couldBe_131 : decode cX11_couldBe 131 = .ok (.iconst 1, 1) := by decide +kernel
theorem dX11_couldBe_132 : decode cX11_couldBe 132 = .ok (.goto 4, 3) := by decide +kernel
theorem dX11_couldBe_135 : decode cX11_couldBe 135 = .ok (.iconst 0, 1) := by decide +kernel
theorem dX11_couldBe_136 : decode cX11_couldBe 136 = .ok (.istore_n 2, 1) := by decide +kernel
theorem dX11_couldBe_137 : decode cX11_couldBe 137 = .ok (.iinc 3 1, 3) := by decide +kernel
theorem dX11_couldBe_140 : decode cX11_couldBe 140 = .ok (.goto (-39), 3) := by decide +kernel
theorem dX11_couldBe_143 : decode cX11_couldBe 143 = .ok (.iload_n 2, 1) := by decide +kernel
theorem dX11_couldBe_144 : decode cX11_couldBe 144 = .ok (.ireturn, 1) := by decide +kernel
def fX11_couldBe_64 (K2 : Nat → Int32 → Int32 → eW → Option (Int32 × eW)) (K19 : Nat → Int32 → Int32 → Int32 → eW → Option (Int32 × eW)) (x0 : Nat) (x1 : Int32) (x2 : Int32) (x3 : Int32) (t0 : Nat) (t1 : Int32) (t2 : Int32) (t3 : Int32) (w : eW) : Option (Int32 × eW) := (eSt w false t0 t1 (t2 ||| t3)).bind fun w1 => K19 x0 x1 x2 (x3 + (1 : Int32)) w1
set_option maxRecDepth 20000 in
theorem sX11_couldBe_64 {K2 : Nat → Int32 → Int32 → eW → Option (Int32 × eW)} {K19 : Nat → Int32 → Int32 → Int32 → eW → Option (Int32 × eW)} (hK2 : ∀ (x0 : Nat) (x1 : Int32) (x2 : Int32) (w : eW) (r : Int32 × eW), K2 x0 x1 x2 w = some r → eBN l D cI cZ 3 yX11_couldBe cX11_couldBe 5 (some .boolean) 2 [(0, .ref x0), (1, .int x1), (2, .int x2)] [] w (some (.int r.1)) r.2) (hK19 : ∀ (x0 : Nat) (x1 : Int32) (x2 : Int32) (x3 : Int32) (w : eW) (r : Int32 × eW), K19 x0 x1 x2 x3 w = some r → eBN l D cI cZ 3 yX11_couldBe cX11_couldBe 5 (some .boolean) 19 [(0, .ref x0), (1, .int x1), (2, .int x2), (3, .int x3)] [] w (some (.int r.1)) r.2) (x0 : Nat) (x1 : Int32) (x2 : Int32) (x3 : Int32) (t0 : Nat) (t1 : Int32) (t2 : Int32) (t3 : Int32) (w : eW) (r : Int32 × eW) (h : fX11_couldBe_64 K2 K19 x0 x1 x2 x3 t0 t1 t2 t3 w = some r) : eBN l D cI cZ 3 yX11_couldBe cX11_couldBe 5 (some .boolean) 64 [(0, .ref x0), (1, .int x1), (2, .int x2), (3, .int x3)] [.int t3, .int t2, .int t1, .ref t0] w (some (.int r.1)) r.2 := by
  rw [fX11_couldBe_64] at h
  intro p e s m args below meth c r0 A X
  refine ev_ior (pc := 64) X dX11_couldBe_64 ?_
  obtain ⟨w1, hw1, h⟩ := eBi h
  refine ev_iast (pc := 65) X dX11_couldBe_65 hw1 ?_
  refine ev_iinc (pc := 66) (v := x3 + (1 : Int32)) (L' := [(3, .int (x3 + (1 : Int32))), (0, .ref x0), (1, .int x1), (2, .int x2)]) X 3 dX11_couldBe_66 rfl rfl (by decide) rfl ?_
  refine ev_goto (pc := 69) X 19 dX11_couldBe_69 rfl ?_
  exact ev_weak (pc := 19) [1, 2, 3, 0] rfl (hK19 _ _ _ _ _ _ h p e s m args below meth c r0 A X)
def fX11_couldBe_63 (K2 : Nat → Int32 → Int32 → eW → Option (Int32 × eW)) (K19 : Nat → Int32 → Int32 → Int32 → eW → Option (Int32 × eW)) (x0 : Nat) (x1 : Int32) (x2 : Int32) (x3 : Int32) (t0 : Nat) (t1 : Int32) (t2 : Int32) (w : eW) : Option (Int32 × eW) := fX11_couldBe_64 K2 K19 x0 x1 x2 x3 t0 t1 t2 (0 : Int32) w
set_option maxRecDepth 20000 in
theorem sX11_couldBe_63 {K2 : Nat → Int32 → Int32 → eW → Option (Int32 × eW)} {K19 : Nat → Int32 → Int32 → Int32 → eW → Option (Int32 × eW)} (hK2 : ∀ (x0 : Nat) (x1 : Int32) (x2 : Int32) (w : eW) (r : Int32 × eW), K2 x0 x1 x2 w = some r → eBN l D cI cZ 3 yX11_couldBe cX11_couldBe 5 (some .boolean) 2 [(0, .ref x0), (1, .int x1), (2, .int x2)] [] w (some (.int r.1)) r.2) (hK19 : ∀ (x0 : Nat) (x1 : Int32) (x2 : Int32) (x3 : Int32) (w : eW) (r : Int32 × eW), K19 x0 x1 x2 x3 w = some r → eBN l D cI cZ 3 yX11_couldBe cX11_couldBe 5 (some .boolean) 19 [(0, .ref x0), (1, .int x1), (2, .int x2), (3, .int x3)] [] w (some (.int r.1)) r.2) (x0 : Nat) (x1 : Int32) (x2 : Int32) (x3 : Int32) (t0 : Nat) (t1 : Int32) (t2 : Int32) (w : eW) (r : Int32 × eW) (h : fX11_couldBe_63 K2 K19 x0 x1 x2 x3 t0 t1 t2 w = some r) : eBN l D cI cZ 3 yX11_couldBe cX11_couldBe 5 (some .boolean) 63 [(0, .ref x0), (1, .int x1), (2, .int x2), (3, .int x3)] [.int t2, .int t1, .ref t0] w (some (.int r.1)) r.2 := by
  rw [fX11_couldBe_63] at h
  intro p e s m args below meth c r0 A X
  refine ev_iconst (pc := 63) (v := (0 : Int32)) X dX11_couldBe_63 rfl ?_
  exact ev_weak (pc := 64) [0, 1, 2, 3] rfl (sX11_couldBe_64 hK2 hK19 _ _ _ _ _ _ _ _ _ _ h p e s m args below meth c r0 A X)
def fX11_couldBe_19 (K2 : Nat → Int32 → Int32 → eW → Option (Int32 × eW)) : Nat → Nat → Int32 → Int32 → Int32 → eW → Option (Int32 × eW)
  | 0, _, _, _, _, _ => none
  | n + 1, x0, x1, x2, x3, w => if (4 : Int32) ≤ x3 then (K2 x0 x1 (x2 + (1 : Int32)) w) else (eBind2 (fX11_leads x0 x2 x3 w) fun v2 w1 => (eGR w1 x0 11 19).bind fun v3 => (eLd w1 false v3 x2).bind fun v4 => if v2 = (-9 : Int32) then (fX11_couldBe_63 K2 (fX11_couldBe_19 K2 n) x0 x1 x2 x3 v3 x2 v4 w1) else (eBind2 (fX11_step x0 x2 v2 w1) fun v6 w5 => if x1 < v6 then (fX11_couldBe_63 K2 (fX11_couldBe_19 K2 n) x0 x1 x2 x3 v3 x2 v4 w5) else (fX11_couldBe_64 K2 (fX11_couldBe_19 K2 n) x0 x1 x2 x3 v3 x2 v4 ((1 : Int32) <<< (x3 &&& 31)) w5)))
set_option maxRecDepth 20000 in
theorem sX11_couldBe_19 {K2 : Nat → Int32 → Int32 → eW → Option (Int32 × eW)} (hK2 : ∀ (x0 : Nat) (x1 : Int32) (x2 : Int32) (w : eW) (r : Int32 × eW), K2 x0 x1 x2 w = some r → eBN l D cI cZ 3 yX11_couldBe cX11_couldBe 5 (some .boolean) 2 [(0, .ref x0), (1, .int x1), (2, .int x2)] [] w (some (.int r.1)) r.2) : ∀ (n : Nat) (x0 : Nat) (x1 : Int32) (x2 : Int32) (x3 : Int32) (w : eW) (r : Int32 × eW), fX11_couldBe_19 K2 n x0 x1 x2 x3 w = some r → eBN l D cI cZ 3 yX11_couldBe cX11_couldBe 5 (some .boolean) 19 [(0, .ref x0), (1, .int x1), (2, .int x2), (3, .int x3)] [] w (some (.int r.1)) r.2 := by
  intro n
  induction n with
  | zero => intro x0 x1 x2 x3 w r h; exact absurd (show (none : Option (Int32 × eW)) = some r from h) (by simp)
  | succ n ih =>
    intro x0 x1 x2 x3 w r h
    rw [fX11_couldBe_19] at h
    intro p e s m args below meth c r0 A X
    refine ev_iload_n (pc := 19) X 3 dX11_couldBe_19 rfl rfl ?_
    refine ev_iconst (pc := 20) (v := (4 : Int32)) X dX11_couldBe_20 rfl ?_
    refine ev_icmp_ge (pc := 21) X 72 dX11_couldBe_21 rfl (fun hc => ?_) (fun hc => ?_)
    · rw [if_pos hc] at h
      refine ev_iinc (pc := 72) (v := x2 + (1 : Int32)) (L' := [(2, .int (x2 + (1 : Int32))), (0, .ref x0), (1, .int x1), (3, .int x3)]) X 2 dX11_couldBe_72 rfl rfl (by decide) rfl ?_
      refine ev_goto (pc := 75) X 2 dX11_couldBe_75 rfl ?_
      exact ev_weak (pc := 2) [1, 2, 0] rfl (hK2 _ _ _ _ _ h p e s m args below meth c r0 A X)
    · rw [if_neg hc] at h
      refine ev_aload_n (pc := 24) X 0 dX11_couldBe_24 rfl rfl ?_
      refine ev_iload_n (pc := 25) X 2 dX11_couldBe_25 rfl rfl ?_
      refine ev_iload_n (pc := 26) X 3 dX11_couldBe_26 rfl rfl ?_
      obtain ⟨v2, w1, hc, h⟩ := eB2 h
      refine ev_callV_i (pc := 27) (As := [.int x2, .int x3]) (S := []) X hwX11_leads klX11_123 hiX11_leads hsX11_leads (ci := 11) ⟨rfl, rfl⟩ ⟨Nat.le_of_ble_eq_true rfl, Nat.le_of_ble_eq_true rfl⟩ ⟨Nat.le_refl _, Nat.le_refl _⟩ rfl (Nat.le_of_ble_eq_true rfl) dX11_couldBe_27 rfl (mX11_leads (l := l) (D := D) (cI := cI) (cZ := cZ) hc).1 (mX11_leads hc).2 ?_
      refine ev_istore (pc := 30) (L' := [(4, .int v2), (0, .ref x0), (1, .int x1), (2, .int x2), (3, .int x3)]) X dX11_couldBe_30 (by decide) rfl ?_
      refine ev_aload_n (pc := 32) X 1 dX11_couldBe_32 rfl rfl ?_
      obtain ⟨v3, hv3, h⟩ := eBi h
      refine ev_getR (pc := 33) X hcX11 (k := 19) (by decide) kfX11_38 dX11_couldBe_33 hv3 ?_
      refine ev_iload_n (pc := 36) X 3 dX11_couldBe_36 rfl rfl ?_
      refine ev_dup2 (pc := 37) X dX11_couldBe_37 rfl rfl ?_
      obtain ⟨v4, hv4, h⟩ := eBi h
      refine ev_iald (pc := 38) X dX11_couldBe_38 hv4 ?_
      refine ev_iload (pc := 39) X 0 dX11_couldBe_39 rfl ?_
      refine ev_bipush (pc := 41) (v := (-9 : Int32)) X dX11_couldBe_41 rfl ?_
      refine ev_icmp_eq (pc := 43) X 63 dX11_couldBe_43 rfl (fun hc => ?_) (fun hc => ?_)
      · rw [if_pos hc] at h
        exact ev_weak (pc := 63) [1, 2, 3, 4] rfl (sX11_couldBe_63 hK2 (fun _ _ _ _ w r hh => ih _ _ _ _ w r hh) _ _ _ _ _ _ _ _ _ h p e s m args below meth c r0 A X)
      · rw [if_neg hc] at h
        refine ev_aload_n (pc := 46) X 1 dX11_couldBe_46 rfl rfl ?_
        refine ev_iload_n (pc := 47) X 3 dX11_couldBe_47 rfl rfl ?_
        refine ev_iload (pc := 48) X 0 dX11_couldBe_48 rfl ?_
        obtain ⟨v6, w5, hc, h⟩ := eB2 h
        refine ev_callV_i (pc := 50) (As := [.int x2, .int v2]) (S := [.int v4, .int x2, .ref v3]) X hwX11_step klX11_126 hiX11_step hsX11_step (ci := 11) ⟨rfl, rfl⟩ ⟨Nat.le_of_ble_eq_true rfl, Nat.le_of_ble_eq_true rfl⟩ ⟨Nat.le_refl _, Nat.le_refl _⟩ rfl (Nat.le_of_ble_eq_true rfl) dX11_couldBe_50 rfl (mX11_step (l := l) (D := D) (cI := cI) (cZ := cZ) hc).1 (mX11_step hc).2 ?_
        refine ev_iload_n (pc := 53) X 2 dX11_couldBe_53 rfl rfl ?_
        refine ev_icmp_gt (pc := 54) X 63 dX11_couldBe_54 rfl (fun hc => ?_) (fun hc => ?_)
        · rw [if_pos hc] at h
          exact ev_weak (pc := 63) [1, 2, 3, 4] rfl (sX11_couldBe_63 hK2 (fun _ _ _ _ w r hh => ih _ _ _ _ w r hh) _ _ _ _ _ _ _ _ _ h p e s m args below meth c r0 A X)
        · rw [if_neg hc] at h
          refine ev_iconst (pc := 57) (v := (1 : Int32)) X dX11_couldBe_57 rfl ?_
          refine ev_iload_n (pc := 58) X 4 dX11_couldBe_58 rfl rfl ?_
          refine ev_ishl (pc := 59) X dX11_couldBe_59 ?_
          refine ev_goto (pc := 60) X 64 dX11_couldBe_60 rfl ?_
          exact ev_weak (pc := 64) [1, 2, 3, 4] rfl (sX11_couldBe_64 hK2 (fun _ _ _ _ w r hh => ih _ _ _ _ w r hh) _ _ _ _ _ _ _ _ _ _ h p e s m args below meth c r0 A X)
def fX11_couldBe_136 (K101 : Nat → Int32 → Int32 → eW → Option (Int32 × eW)) (x0 : Nat) (x3 : Int32) (t0 : Int32) (w : eW) : Option (Int32 × eW) := K101 x0 t0 (x3 + (1 : Int32)) w
set_option maxRecDepth 20000 in
theorem sX11_couldBe_136 {K101 : Nat → Int32 → Int32 → eW → Option (Int32 × eW)} (hK101 : ∀ (x0 : Nat) (x2 : Int32) (x3 : Int32) (w : eW) (r : Int32 × eW), K101 x0 x2 x3 w = some r → eBN l D cI cZ 3 yX11_couldBe cX11_couldBe 5 (some .boolean) 101 [(0, .ref x0), (2, .int x2), (3, .int x3)] [] w (some (.int r.1)) r.2) (x0 : Nat) (x3 : Int32) (t0 : Int32) (w : eW) (r : Int32 × eW) (h : fX11_couldBe_136 K101 x0 x3 t0 w = some r) : eBN l D cI cZ 3 yX11_couldBe cX11_couldBe 5 (some .boolean) 136 [(0, .ref x0), (3, .int x3)] [.int t0] w (some (.int r.1)) r.2 := by
  rw [fX11_couldBe_136] at h
  intro p e s m args below meth c r0 A X
  refine ev_istore_n (pc := 136) (L' := [(2, .int t0), (0, .ref x0), (3, .int x3)]) X dX11_couldBe_136 rfl (by decide) rfl ?_
  refine ev_iinc (pc := 137) (v := x3 + (1 : Int32)) (L' := [(3, .int (x3 + (1 : Int32))), (2, .int t0), (0, .ref x0)]) X 2 dX11_couldBe_137 rfl rfl (by decide) rfl ?_
  refine ev_goto (pc := 140) X 101 dX11_couldBe_140 rfl ?_
  exact ev_weak (pc := 101) [2, 1, 0] rfl (hK101 _ _ _ _ _ h p e s m args below meth c r0 A X)
def fX11_couldBe_135 (K101 : Nat → Int32 → Int32 → eW → Option (Int32 × eW)) (x0 : Nat) (x3 : Int32) (w : eW) : Option (Int32 × eW) := fX11_couldBe_136 K101 x0 x3 (0 : Int32) w
set_option maxRecDepth 20000 in
theorem sX11_couldBe_135 {K101 : Nat → Int32 → Int32 → eW → Option (Int32 × eW)} (hK101 : ∀ (x0 : Nat) (x2 : Int32) (x3 : Int32) (w : eW) (r : Int32 × eW), K101 x0 x2 x3 w = some r → eBN l D cI cZ 3 yX11_couldBe cX11_couldBe 5 (some .boolean) 101 [(0, .ref x0), (2, .int x2), (3, .int x3)] [] w (some (.int r.1)) r.2) (x0 : Nat) (x3 : Int32) (w : eW) (r : Int32 × eW) (h : fX11_couldBe_135 K101 x0 x3 w = some r) : eBN l D cI cZ 3 yX11_couldBe cX11_couldBe 5 (some .boolean) 135 [(0, .ref x0), (3, .int x3)] [] w (some (.int r.1)) r.2 := by
  rw [fX11_couldBe_135] at h
  intro p e s m args below meth c r0 A X
  refine ev_iconst (pc := 135) (v := (0 : Int32)) X dX11_couldBe_135 rfl ?_
  exact ev_weak (pc := 136) [0, 1] rfl (sX11_couldBe_136 hK101 _ _ _ _ _ h p e s m args below meth c r0 A X)
def fX11_couldBe_101 : Nat → Nat → Int32 → Int32 → eW → Option (Int32 × eW)
  | 0, _, _, _, _ => none
  | n + 1, x0, x2, x3, w => (eGR w x0 11 9).bind fun v1 => (eLd w false v1 (2 : Int32)).bind fun v2 => if v2 ≤ x3 then ((eZ x2).bind fun v3 => some (v3, w)) else (if x2 = 0 then (fX11_couldBe_135 (fX11_couldBe_101 n) x0 x3 w) else ((eGR w x0 11 21).bind fun v4 => (eGR w x0 11 11).bind fun v5 => (eLd w false v5 x3).bind fun v6 => (eLd w false v4 v6).bind fun v7 => if (1000000 : Int32) ≤ v7 then (fX11_couldBe_135 (fX11_couldBe_101 n) x0 x3 w) else (fX11_couldBe_136 (fX11_couldBe_101 n) x0 x3 (1 : Int32) w)))
set_option maxRecDepth 20000 in
theorem sX11_couldBe_101  : ∀ (n : Nat) (x0 : Nat) (x2 : Int32) (x3 : Int32) (w : eW) (r : Int32 × eW), fX11_couldBe_101 n x0 x2 x3 w = some r → eBN l D cI cZ 3 yX11_couldBe cX11_couldBe 5 (some .boolean) 101 [(0, .ref x0), (2, .int x2), (3, .int x3)] [] w (some (.int r.1)) r.2 := by
  intro n
  induction n with
  | zero => intro x0 x2 x3 w r h; exact absurd (show (none : Option (Int32 × eW)) = some r from h) (by simp)
  | succ n ih =>
    intro x0 x2 x3 w r h
    rw [fX11_couldBe_101] at h
    intro p e s m args below meth c r0 A X
    refine ev_iload_n (pc := 101) X 2 dX11_couldBe_101 rfl rfl ?_
    refine ev_aload_n (pc := 102) X 0 dX11_couldBe_102 rfl rfl ?_
    obtain ⟨v1, hv1, h⟩ := eBi h
    refine ev_getR (pc := 103) X hcX11 (k := 9) (by decide) kfX11_13 dX11_couldBe_103 hv1 ?_
    refine ev_iconst (pc := 106) (v := (2 : Int32)) X dX11_couldBe_106 rfl ?_
    obtain ⟨v2, hv2, h⟩ := eBi h
    refine ev_iald (pc := 107) X dX11_couldBe_107 hv2 ?_
    refine ev_icmp_ge (pc := 108) X 143 dX11_couldBe_108 rfl (fun hc => ?_) (fun hc => ?_)
    · rw [if_pos hc] at h
      refine ev_iload_n (pc := 143) X 1 dX11_couldBe_143 rfl rfl ?_
      obtain ⟨v3, hv3, h⟩ := eBi h
      obtain rfl := Option.some.inj h
      exact ev_zret (pc := 144) X dX11_couldBe_144 hv3
    · rw [if_neg hc] at h
      refine ev_iload_n (pc := 111) X 1 dX11_couldBe_111 rfl rfl ?_
      refine ev_if_eq (pc := 112) X 135 dX11_couldBe_112 rfl (fun hc => ?_) (fun hc => ?_)
      · rw [if_pos hc] at h
        exact ev_weak (pc := 135) [0, 2] rfl (sX11_couldBe_135 (fun _ _ _ w r hh => ih _ _ _ w r hh) _ _ _ _ h p e s m args below meth c r0 A X)
      · rw [if_neg hc] at h
        refine ev_aload_n (pc := 115) X 0 dX11_couldBe_115 rfl rfl ?_
        obtain ⟨v4, hv4, h⟩ := eBi h
        refine ev_getR (pc := 116) X hcX11 (k := 21) (by decide) kfX11_44 dX11_couldBe_116 hv4 ?_
        refine ev_aload_n (pc := 119) X 0 dX11_couldBe_119 rfl rfl ?_
        obtain ⟨v5, hv5, h⟩ := eBi h
        refine ev_getR (pc := 120) X hcX11 (k := 11) (by decide) kfX11_19 dX11_couldBe_120 hv5 ?_
        refine ev_iload_n (pc := 123) X 2 dX11_couldBe_123 rfl rfl ?_
        obtain ⟨v6, hv6, h⟩ := eBi h
        refine ev_iald (pc := 124) X dX11_couldBe_124 hv6 ?_
        obtain ⟨v7, hv7, h⟩ := eBi h
        refine ev_iald (pc := 125) X dX11_couldBe_125 hv7 ?_
        refine ev_ldc (pc := 126) X kkX11_156 dX11_couldBe_126 ?_
        refine ev_icmp_ge (pc := 128) X 135 dX11_couldBe_128 rfl (fun hc => ?_) (fun hc => ?_)
        · rw [if_pos hc] at h
          exact ev_weak (pc := 135) [0, 2] rfl (sX11_couldBe_135 (fun _ _ _ w r hh => ih _ _ _ w r hh) _ _ _ _ h p e s m args below meth c r0 A X)
        · rw [if_neg hc] at h
          refine ev_iconst (pc := 131) (v := (1 : Int32)) X dX11_couldBe_131 rfl ?_
          refine ev_goto (pc := 132) X 136 dX11_couldBe_132 rfl ?_
          exact ev_weak (pc := 136) [0, 2] rfl (sX11_couldBe_136 (fun _ _ _ w r hh => ih _ _ _ w r hh) _ _ _ _ _ h p e s m args below meth c r0 A X)
def fX11_couldBe_2 : Nat → Nat → Int32 → Int32 → eW → Option (Int32 × eW)
  | 0, _, _, _, _ => none
  | n + 1, x0, x1, x2, w => eBind2 (fX11_cells x0 w) fun v2 w1 => if v2 ≤ x2 then ((eGR w1 x0 11 9).bind fun v3 => (eLd w1 false v3 (2 : Int32)).bind fun v4 => if v4 ≤ 0 then ((eZ (1 : Int32)).bind fun v5 => some (v5, w1)) else ((eGR w1 x0 11 11).bind fun v6 => (eLd w1 false v6 (0 : Int32)).bind fun v7 => (fX11_spreads x0 v7 w1).bind fun w8 => fX11_couldBe_101 eN x0 (1 : Int32) (0 : Int32) w8)) else ((eGR w1 x0 11 19).bind fun v9 => (eSt w1 false v9 x2 (0 : Int32)).bind fun w10 => fX11_couldBe_19 (fX11_couldBe_2 n) eN x0 x1 x2 (0 : Int32) w10)
set_option maxRecDepth 20000 in
theorem sX11_couldBe_2  : ∀ (n : Nat) (x0 : Nat) (x1 : Int32) (x2 : Int32) (w : eW) (r : Int32 × eW), fX11_couldBe_2 n x0 x1 x2 w = some r → eBN l D cI cZ 3 yX11_couldBe cX11_couldBe 5 (some .boolean) 2 [(0, .ref x0), (1, .int x1), (2, .int x2)] [] w (some (.int r.1)) r.2 := by
  intro n
  induction n with
  | zero => intro x0 x1 x2 w r h; exact absurd (show (none : Option (Int32 × eW)) = some r from h) (by simp)
  | succ n ih =>
    intro x0 x1 x2 w r h
    rw [fX11_couldBe_2] at h
    intro p e s m args below meth c r0 A X
    refine ev_iload_n (pc := 2) X 2 dX11_couldBe_2 rfl rfl ?_
    refine ev_aload_n (pc := 3) X 0 dX11_couldBe_3 rfl rfl ?_
    obtain ⟨v2, w1, hc, h⟩ := eB2 h
    refine ev_callV_i (pc := 4) (As := []) (S := [.int x2]) X hwX11_cells klX11_116 hiX11_cells hsX11_cells (ci := 11) ⟨rfl, rfl⟩ ⟨Nat.le_of_ble_eq_true rfl, Nat.le_of_ble_eq_true rfl⟩ ⟨Nat.le_refl _, Nat.le_refl _⟩ rfl (Nat.le_of_ble_eq_true rfl) dX11_couldBe_4 rfl (mX11_cells (l := l) (D := D) (cI := cI) (cZ := cZ) hc).1 (mX11_cells hc).2 ?_
    refine ev_icmp_ge (pc := 7) X 78 dX11_couldBe_7 rfl (fun hc => ?_) (fun hc => ?_)
    · rw [if_pos hc] at h
      refine ev_iconst (pc := 78) (v := (1 : Int32)) X dX11_couldBe_78 rfl ?_
      refine ev_istore_n (pc := 79) (L' := [(2, .int (1 : Int32)), (0, .ref x0), (1, .int x1)]) X dX11_couldBe_79 rfl (by decide) rfl ?_
      refine ev_aload_n (pc := 80) X 1 dX11_couldBe_80 rfl rfl ?_
      obtain ⟨v3, hv3, h⟩ := eBi h
      refine ev_getR (pc := 81) X hcX11 (k := 9) (by decide) kfX11_13 dX11_couldBe_81 hv3 ?_
      refine ev_iconst (pc := 84) (v := (2 : Int32)) X dX11_couldBe_84 rfl ?_
      obtain ⟨v4, hv4, h⟩ := eBi h
      refine ev_iald (pc := 85) X dX11_couldBe_85 hv4 ?_
      refine ev_if_le (pc := 86) X 143 dX11_couldBe_86 rfl (fun hc => ?_) (fun hc => ?_)
      · rw [if_pos hc] at h
        refine ev_iload_n (pc := 143) X 0 dX11_couldBe_143 rfl rfl ?_
        obtain ⟨v5, hv5, h⟩ := eBi h
        obtain rfl := Option.some.inj h
        exact ev_zret (pc := 144) X dX11_couldBe_144 hv5
      · rw [if_neg hc] at h
        refine ev_aload_n (pc := 89) X 1 dX11_couldBe_89 rfl rfl ?_
        refine ev_aload_n (pc := 90) X 1 dX11_couldBe_90 rfl rfl ?_
        obtain ⟨v6, hv6, h⟩ := eBi h
        refine ev_getR (pc := 91) X hcX11 (k := 11) (by decide) kfX11_19 dX11_couldBe_91 hv6 ?_
        refine ev_iconst (pc := 94) (v := (0 : Int32)) X dX11_couldBe_94 rfl ?_
        obtain ⟨v7, hv7, h⟩ := eBi h
        refine ev_iald (pc := 95) X dX11_couldBe_95 hv7 ?_
        obtain ⟨w8, hc, h⟩ := eBi h
        refine ev_callV_v (pc := 96) (As := [.int v7]) (S := []) X hwX11_spreads klX11_157 hiX11_spreads hsX11_spreads (ci := 11) ⟨rfl, rfl⟩ ⟨Nat.le_of_ble_eq_true rfl, Nat.le_of_ble_eq_true rfl⟩ ⟨Nat.le_refl _, Nat.le_refl _⟩ rfl (Nat.le_of_ble_eq_true rfl) dX11_couldBe_96 rfl (mX11_spreads (l := l) (D := D) (cI := cI) (cZ := cZ) hc).1 (mX11_spreads hc).2 ?_
        refine ev_iconst (pc := 99) (v := (0 : Int32)) X dX11_couldBe_99 rfl ?_
        refine ev_istore_n (pc := 100) (L' := [(3, .int (0 : Int32)), (2, .int (1 : Int32)), (0, .ref x0), (1, .int x1)]) X dX11_couldBe_100 rfl (by decide) rfl ?_
        exact ev_weak (pc := 101) [2, 1, 0] rfl (sX11_couldBe_101 eN _ _ _ _ _ h p e s m args below meth c r0 A X)
    · rw [if_neg hc] at h
      refine ev_aload_n (pc := 10) X 0 dX11_couldBe_10 rfl rfl ?_
      obtain ⟨v9, hv9, h⟩ := eBi h
      refine ev_getR (pc := 11) X hcX11 (k := 19) (by decide) kfX11_38 dX11_couldBe_11 hv9 ?_
      refine ev_iload_n (pc := 14) X 2 dX11_couldBe_14 rfl rfl ?_
      refine ev_iconst (pc := 15) (v := (0 : Int32)) X dX11_couldBe_15 rfl ?_
      obtain ⟨w10, hw10, h⟩ := eBi h
      refine ev_iast (pc := 16) X dX11_couldBe_16 hw10 ?_
      refine ev_iconst (pc := 17) (v := (0 : Int32)) X dX11_couldBe_17 rfl ?_
      refine ev_istore_n (pc := 18) (L' := [(3, .int (0 : Int32)), (0, .ref x0), (1, .int x1), (2, .int x2)]) X dX11_couldBe_18 rfl (by decide) rfl ?_
      exact ev_weak (pc := 19) [1, 2, 3, 0] rfl (sX11_couldBe_19 (fun _ _ _ w r hh => ih _ _ _ w r hh) eN _ _ _ _ _ _ h p e s m args below meth c r0 A X)
def fX11_couldBe_0 (x0 : Nat) (x1 : Int32) (w : eW) : Option (Int32 × eW) := fX11_couldBe_2 eN x0 x1 (0 : Int32) w
set_option maxRecDepth 20000 in
theorem sX11_couldBe_0  (x0 : Nat) (x1 : Int32) (w : eW) (r : Int32 × eW) (h : fX11_couldBe_0 x0 x1 w = some r) : eBN l D cI cZ 3 yX11_couldBe cX11_couldBe 5 (some .boolean) 0 [(0, .ref x0), (1, .int x1)] [] w (some (.int r.1)) r.2 := by
  rw [fX11_couldBe_0] at h
  intro p e s m args below meth c r0 A X
  refine ev_iconst (pc := 0) (v := (0 : Int32)) X dX11_couldBe_0 rfl ?_
  refine ev_istore_n (pc := 1) (L' := [(2, .int (0 : Int32)), (0, .ref x0), (1, .int x1)]) X dX11_couldBe_1 rfl (by decide) rfl ?_
  exact ev_weak (pc := 2) [1, 2, 0] rfl (sX11_couldBe_2 eN _ _ _ _ _ h p e s m args below meth c r0 A X)
def fX11_couldBe (a0 : Nat) (a1 : Int32) (w : eW) : Option (Int32 × eW) := bif eO w a0 11 then fX11_couldBe_0 a0 a1 w else none
theorem mX11_couldBe {a0 : Nat} {a1 : Int32} {w : eW} {v : Int32} {w' : eW} (h : fX11_couldBe a0 a1 w = some (v, w')) : eO w a0 11 = true ∧ eMN l D cI cZ 3 yX11_couldBe cX11_couldBe 5 (some .boolean) [.ref a0, .int a1] w (some (.int v)) w' := by
  obtain ⟨h0, h⟩ := eBif h
  exact ⟨h0, eMN_of [(0, .ref a0), (1, .int a1)] (plainFor_of_name (by decide)) (fun _ => rfl) (fun _ => Nat.le_of_ble_eq_true rfl) (fun p e s m args below meth c r0 A X => ev_weak (pc := 0) [0, 1] rfl (sX11_couldBe_0 _ _ _ _ h p e s m args below meth c r0 A X))⟩
theorem dX11_leastSlope_0 : decode cX11_leastSlope 0 = .ok (.iconst 0, 1) := by decide +kernel
theorem dX11_leastSlope_1 : decode cX11_leastSlope 1 = .ok (.istore_n 1, 1) := by decide +kernel
theorem dX11_leastSlope_2 : decode cX11_leastSlope 2 = .ok (.aload_n 0, 1) := by decide +kernel
theorem dX11_leastSlope_3 : decode cX11_leastSlope 3 = .ok (.iload_n 1, 1) := by decide +kernel
theorem dX11_leastSlope_4 : decode cX11_leastSlope 4 = .ok (.invokevirtual 163, 3) := by decide +kernel
theorem dX11_leastSlope_7 : decode cX11_leastSlope 7 = .ok (.ifCond .ne 9, 3) := by decide +kernel
theorem dX11_leastSlope_10 : decode cX11_leastSlope 10 = .ok (.iinc 1 1, 3) := by decide +kernel
theorem dX11_leastSlope_13 : decode cX11_leastSlope 13 = .ok (.goto (-11), 3) := by decide +kernel
theorem dX11_leastSlope_16 : decode cX11_leastSlope 16 = .ok (.iload_n 1, 1) := by decide +kernel
theorem dX11_leastSlope_17 : decode cX11_leastSlope 17 = .ok (.ireturn, 1) := by decide +kernel
def fX11_leastSlope_2 : Nat → Nat → Int32 → eW → Option (Int32 × eW)
  | 0, _, _, _ => none
  | n + 1, x0, x1, w => eBind2 (fX11_couldBe x0 x1 w) fun v2 w1 => if v2 = 0 then (fX11_leastSlope_2 n x0 (x1 + (1 : Int32)) w1) else (some (x1, w1))
set_option maxRecDepth 20000 in
theorem sX11_leastSlope_2  : ∀ (n : Nat) (x0 : Nat) (x1 : Int32) (w : eW) (r : Int32 × eW), fX11_leastSlope_2 n x0 x1 w = some r → eBN l D cI cZ 4 yX11_leastSlope cX11_leastSlope 2 (some .int) 2 [(0, .ref x0), (1, .int x1)] [] w (some (.int r.1)) r.2 := by
  intro n
  induction n with
  | zero => intro x0 x1 w r h; exact absurd (show (none : Option (Int32 × eW)) = some r from h) (by simp)
  | succ n ih =>
    intro x0 x1 w r h
    rw [fX11_leastSlope_2] at h
    intro p e s m args below meth c r0 A X
    refine ev_aload_n (pc := 2) X 0 dX11_leastSlope_2 rfl rfl ?_
    refine ev_iload_n (pc := 3) X 1 dX11_leastSlope_3 rfl rfl ?_
    obtain ⟨v2, w1, hc, h⟩ := eB2 h
    refine ev_callV_i (pc := 4) (As := [.int x1]) (S := []) X hwX11_couldBe klX11_163 hiX11_couldBe hsX11_couldBe (ci := 11) ⟨rfl, rfl⟩ ⟨Nat.le_of_ble_eq_true rfl, Nat.le_of_ble_eq_true rfl⟩ ⟨Nat.le_refl _, Nat.le_refl _⟩ rfl (Nat.le_of_ble_eq_true rfl) dX11_leastSlope_4 rfl (mX11_couldBe (l := l) (D := D) (cI := cI) (cZ := cZ) hc).1 (mX11_couldBe hc).2 ?_
    refine ev_if_ne (pc := 7) X 16 dX11_leastSlope_7 rfl (fun hc => ?_) (fun hc => ?_)
    · rw [if_neg hc] at h
      refine ev_iload_n (pc := 16) X 1 dX11_leastSlope_16 rfl rfl ?_
      obtain rfl := Option.some.inj h
      exact ev_iret (pc := 17) X dX11_leastSlope_17
    · rw [if_pos hc] at h
      refine ev_iinc (pc := 10) (v := x1 + (1 : Int32)) (L' := [(1, .int (x1 + (1 : Int32))), (0, .ref x0)]) X 1 dX11_leastSlope_10 rfl rfl (by decide) rfl ?_
      refine ev_goto (pc := 13) X 2 dX11_leastSlope_13 rfl ?_
      exact ev_weak (pc := 2) [1, 0] rfl (ih _ _ _ _ h p e s m args below meth c r0 A X)
def fX11_leastSlope_0 (x0 : Nat) (w : eW) : Option (Int32 × eW) := fX11_leastSlope_2 eN x0 (0 : Int32) w
set_option maxRecDepth 20000 in
theorem sX11_leastSlope_0  (x0 : Nat) (w : eW) (r : Int32 × eW) (h : fX11_leastSlope_0 x0 w = some r) : eBN l D cI cZ 4 yX11_leastSlope cX11_leastSlope 2 (some .int) 0 [(0, .ref x0)] [] w (some (.int r.1)) r.2 := by
  rw [fX11_leastSlope_0] at h
  intro p e s m args below meth c r0 A X
  refine ev_iconst (pc := 0) (v := (0 : Int32)) X dX11_leastSlope_0 rfl ?_
  refine ev_istore_n (pc := 1) (L' := [(1, .int (0 : Int32)), (0, .ref x0)]) X dX11_leastSlope_1 rfl (by decide) rfl ?_
  exact ev_weak (pc := 2) [1, 0] rfl (sX11_leastSlope_2 eN _ _ _ _ h p e s m args below meth c r0 A X)
def fX11_leastSlope (a0 : Nat) (w : eW) : Option (Int32 × eW) := bif eO w a0 11 then fX11_leastSlope_0 a0 w else none
theorem mX11_leastSlope {a0 : Nat} {w : eW} {v : Int32} {w' : eW} (h : fX11_leastSlope a0 w = some (v, w')) : eO w a0 11 = true ∧ eMN l D cI cZ 4 yX11_leastSlope cX11_leastSlope 2 (some .int) [.ref a0] w (some (.int v)) w' := by
  obtain ⟨h0, h⟩ := eBif h
  exact ⟨h0, eMN_of [(0, .ref a0)] (plainFor_of_name (by decide)) (fun _ => rfl) (fun _ => Nat.le_of_ble_eq_true rfl) (fun p e s m args below meth c r0 A X => ev_weak (pc := 0) [0] rfl (sX11_leastSlope_0 _ _ _ h p e s m args below meth c r0 A X))⟩
theorem dX11_now_0 : decode cX11_now 0 = .ok (.aload_n 0, 1) := by decide +kernel
theorem dX11_now_1 : decode cX11_now 1 = .ok (.iconst 0, 1) := by decide +kernel
theorem dX11_now_2 : decode cX11_now 2 = .ok (.putfield 50, 3) := by decide +kernel
theorem dX11_now_5 : decode cX11_now 5 = .ok (.iload_n 1, 1) := by decide +kernel
theorem dX11_now_6 : decode cX11_now 6 = .ok (.iconst 0, 1) := by decide +kernel
theorem dX11_now_7 : decode cX11_now 7 = .ok (.bipush 6, 2) := by decide +kernel
theorem dX11_now_9 : decode cX11_now 9 = .ok (.invokestatic 54, 3) := by decide +kernel
theorem dX11_now_12 : decode cX11_now 12 = .ok (.ifCond .ne 5, 3) := by decide +kernel
theorem dX11_now_15 : decode cX11_now 15 = .ok (.iconst (-1), 1) := by decide +kernel
theorem dX11_now_16 : decode cX11_now 16 = .ok (.ireturn, 1) := by decide +kernel
theorem dX11_now_17 : decode cX11_now 17 = .ok (.iload_n 1, 1) := by decide +kernel
theorem dX11_now_18 : decode cX11_now 18 = .ok (.iconst 3, 1) := by decide +kernel
theorem dX11_now_19 : decode cX11_now 19 = .ok (.if_icmp .ge 37, 3) := by decide +kernel
theorem dX11_now_22 : decode cX11_now 22 = .ok (.iload_n 1, 1) := by decide +kernel
theorem dX11_now_23 : decode cX11_now 23 = .ok (.ifCond .ne 12, 3) := by decide +kernel
theorem dX11_now_26 : decode cX11_now 26 = .ok (.aload_n 0, 1) := by decide +kernel
theorem dX11_now_27 : decode cX11_now 27 = .ok (.getfield 22, 3) := by decide +kernel
theorem dX11_now_30 : decode cX11_now 30 = .ok (.iconst 0, 1) := by decide +kernel
theorem dX11_now_31 : decode cX11_now 31 = .ok (.iaload, 1) := by decide +kernel
theorem dX11_now_32 : decode cX11_now 32 = .ok (.goto 23, 3) := by decide +kernel
theorem dX11_now_35 : decode cX11_now 35 = .ok (.iload_n 1, 1) := by decide +kernel
theorem dX11_now_36 : decode cX11_now 36 = .ok (.iconst 1, 1) := by decide +kernel
theorem dX11_now_37 : decode cX11_now 37 = .ok (.if_icmp .ne 10, 3) := by decide +kernel
theorem dX11_now_40 : decode cX11_now 40 = .ok (.aload_n 0, 1) := by decide +kernel
theorem dX11_now_41 : decode cX11_now 41 = .ok (.invokevirtual 166, 3) := by decide +kernel
theorem dX11_now_44 : decode cX11_now 44 = .ok (.goto 11, 3) := by decide +kernel
theorem dX11_now_47 : decode cX11_now 47 = .ok (.aload_n 0, 1) := by decide +kernel
theorem dX11_now_48 : decode cX11_now 48 = .ok (.aload_n 0, 1) := by decide +kernel
theorem dX11_now_49 : decode cX11_now 49 = .ok (.getfield 22, 3) := by decide +kernel
theorem dX11_now_52 : decode cX11_now 52 = .ok (.invokevirtual 169, 3) := by decide +kernel
theorem dX11_now_55 : decode cX11_now 55 = .ok (.ireturn, 1) := by decide +kernel
theorem dX11_now_56 : decode cX11_now 56 = .ok (.iload_n 1, 1) := by decide +kernel
theorem dX11_now_57 : decode cX11_now 57 = .ok (.iconst 3, 1) := by decide +kernel
theorem dX11_now_58 : decode cX11_now 58 = .ok (.if_icmp .ne 10, 3) := by decide +kernel
theorem dX11_now_61 : decode cX11_now 61 = .ok (.aload_n 0, 1) := by decide +kernel
theorem dX11_now_62 : decode cX11_now 62 = .ok (.invokevirtual 173, 3) := by decide +kernel
theorem dX11_now_65 : decode cX11_now 65 = .ok (.goto 31, 3) := by decide +kernel
theorem dX11_now_68 : decode cX11_now 68 = .ok (.iload_n 1, 1) := by decide +kernel
theorem dX11_now_69 : decode cX11_now 69 = .ok (.iconst 4, 1) := by decide +kernel
theorem dX11_now_70 : decode cX11_now 70 = .ok (.if_icmp .ne 10, 3) := by decide +kernel
theorem dX11_now_73 : decode cX11_now 73 = .ok (.aload_n 0, 1) := by decide +kernel
theorem dX11_now_74 : decode cX11_now 74 = .ok (.invokevirtual 176, 3) := by decide +kernel
theorem dX11_now_77 : decode cX11_now 77 = .ok (.goto 19, 3) := by decide +kernel
theorem dX11_now_80 : decode cX11_now 80 = .ok (.iload_n 1, 1) := by decide +kernel
theorem dX11_now_81 : decode cX11_now 81 = .ok (.iconst 5, 1) := by decide +kernel
theorem dX11_now_82 : decode cX11_now 82 = .ok (.if_icmp .ne 10, 3) := by decide +kernel
theorem dX11_now_85 : decode cX11_now 85 = .ok (.aload_n 0, 1) := by decide +kernel
theorem dX11_now_86 : decode cX11_now 86 = .ok (.invokevirtual 179, 3) := by decide +kernel
theorem dX11_now_89 : decode cX11_now 89 = .ok (.goto 7, 3) := by decide +kernel
theorem dX11_now_92 : decode cX11_now 92 = .ok (.aload_n 0, 1) := by decide +kernel
theorem dX11_now_93 : decode cX11_now 93 = .ok (.getfield 113, 3) := by decide +kernel
theorem dX11_now_96 : decode cX11_now 96 = .ok (.ireturn, 1) := by decide +kernel
def fX11_now_0 (x0 : Nat) (x1 : Int32) (w : eW) : Option (Int32 × eW) := (eP w x0 11 0 (.int (0 : Int32))).bind fun w1 => eBind2 (fX11_in x1 (0 : Int32) (6 : Int32) w1) fun v3 w2 => if v3 = 0 then (some ((-1 : Int32), w2)) else (if (3 : Int32) ≤ x1 then (if x1 = (3 : Int32) then (eBind2 (fX11_nowhere x0 w2) fun v10 w9 => some (v10, w9)) else (if x1 = (4 : Int32) then (eBind2 (fX11_steep x0 w2) fun v8 w7 => some (v8, w7)) else (if x1 = (5 : Int32) then (eBind2 (fX11_leastSlope x0 w2) fun v6 w5 => some (v6, w5)) else ((eGI w2 x0 11 18).bind fun v4 => some (v4, w2))))) else (if x1 = 0 then ((eGR w2 x0 11 13).bind fun v16 => (eLd w2 false v16 (0 : Int32)).bind fun v17 => some (v17, w2)) else (if x1 = (1 : Int32) then (eBind2 (fX11_ells x0 w2) fun v15 w14 => some (v15, w14)) else ((eGR w2 x0 11 13).bind fun v11 => eBind2 (fX11_piecesOf x0 v11 w2) fun v13 w12 => some (v13, w12)))))
set_option maxRecDepth 20000 in
theorem sX11_now_0  (x0 : Nat) (x1 : Int32) (w : eW) (r : Int32 × eW) (h : fX11_now_0 x0 x1 w = some r) : eBN l D cI cZ 5 yX11_now cX11_now 2 (some .int) 0 [(0, .ref x0), (1, .int x1)] [] w (some (.int r.1)) r.2 := by
  rw [fX11_now_0] at h
  intro p e s m args below meth c r0 A X
  refine ev_aload_n (pc := 0) X 0 dX11_now_0 rfl rfl ?_
  refine ev_iconst (pc := 1) (v := (0 : Int32)) X dX11_now_1 rfl ?_
  obtain ⟨w1, hw1, h⟩ := eBi h
  refine ev_putI (pc := 2) X hcX11 (k := 0) (by decide) kfX11_50 rfl rfl dX11_now_2 hw1 ?_
  refine ev_iload_n (pc := 5) X 1 dX11_now_5 rfl rfl ?_
  refine ev_iconst (pc := 6) (v := (0 : Int32)) X dX11_now_6 rfl ?_
  refine ev_bipush (pc := 7) (v := (6 : Int32)) X dX11_now_7 rfl ?_
  obtain ⟨v3, w2, hc, h⟩ := eB2 h
  refine ev_callS_i (pc := 9) (As := [.int x1, .int (0 : Int32), .int (6 : Int32)]) (S := []) X hwX11_in klX11_54 htX11_in ⟨Nat.le_of_ble_eq_true rfl, Nat.le_of_ble_eq_true rfl⟩ ⟨Nat.le_refl _, Nat.le_refl _⟩ rfl (Nat.le_of_ble_eq_true rfl) dX11_now_9 rfl (mX11_in hc) ?_
  refine ev_if_ne (pc := 12) X 17 dX11_now_12 rfl (fun hc => ?_) (fun hc => ?_)
  · rw [if_neg hc] at h
    refine ev_iload_n (pc := 17) X 1 dX11_now_17 rfl rfl ?_
    refine ev_iconst (pc := 18) (v := (3 : Int32)) X dX11_now_18 rfl ?_
    refine ev_icmp_ge (pc := 19) X 56 dX11_now_19 rfl (fun hc => ?_) (fun hc => ?_)
    · rw [if_pos hc] at h
      refine ev_iload_n (pc := 56) X 1 dX11_now_56 rfl rfl ?_
      refine ev_iconst (pc := 57) (v := (3 : Int32)) X dX11_now_57 rfl ?_
      refine ev_icmp_ne (pc := 58) X 68 dX11_now_58 rfl (fun hc => ?_) (fun hc => ?_)
      · rw [if_neg hc] at h
        refine ev_iload_n (pc := 68) X 1 dX11_now_68 rfl rfl ?_
        refine ev_iconst (pc := 69) (v := (4 : Int32)) X dX11_now_69 rfl ?_
        refine ev_icmp_ne (pc := 70) X 80 dX11_now_70 rfl (fun hc => ?_) (fun hc => ?_)
        · rw [if_neg hc] at h
          refine ev_iload_n (pc := 80) X 1 dX11_now_80 rfl rfl ?_
          refine ev_iconst (pc := 81) (v := (5 : Int32)) X dX11_now_81 rfl ?_
          refine ev_icmp_ne (pc := 82) X 92 dX11_now_82 rfl (fun hc => ?_) (fun hc => ?_)
          · rw [if_neg hc] at h
            refine ev_aload_n (pc := 92) X 0 dX11_now_92 rfl rfl ?_
            obtain ⟨v4, hv4, h⟩ := eBi h
            refine ev_getI (pc := 93) X hcX11 (k := 18) (by decide) kfX11_113 dX11_now_93 hv4 ?_
            obtain rfl := Option.some.inj h
            exact ev_iret (pc := 96) X dX11_now_96
          · rw [if_pos hc] at h
            refine ev_aload_n (pc := 85) X 0 dX11_now_85 rfl rfl ?_
            obtain ⟨v6, w5, hc, h⟩ := eB2 h
            refine ev_callV_i (pc := 86) (As := []) (S := []) X hwX11_leastSlope klX11_179 hiX11_leastSlope hsX11_leastSlope (ci := 11) ⟨rfl, rfl⟩ ⟨Nat.le_of_ble_eq_true rfl, Nat.le_of_ble_eq_true rfl⟩ ⟨Nat.le_refl _, Nat.le_refl _⟩ rfl (Nat.le_of_ble_eq_true rfl) dX11_now_86 rfl (mX11_leastSlope (l := l) (D := D) (cI := cI) (cZ := cZ) hc).1 (mX11_leastSlope hc).2 ?_
            refine ev_goto (pc := 89) X 96 dX11_now_89 rfl ?_
            obtain rfl := Option.some.inj h
            exact ev_iret (pc := 96) X dX11_now_96
        · rw [if_pos hc] at h
          refine ev_aload_n (pc := 73) X 0 dX11_now_73 rfl rfl ?_
          obtain ⟨v8, w7, hc, h⟩ := eB2 h
          refine ev_callV_i (pc := 74) (As := []) (S := []) X hwX11_steep klX11_176 hiX11_steep hsX11_steep (ci := 11) ⟨rfl, rfl⟩ ⟨Nat.le_of_ble_eq_true rfl, Nat.le_of_ble_eq_true rfl⟩ ⟨Nat.le_refl _, Nat.le_refl _⟩ rfl (Nat.le_of_ble_eq_true rfl) dX11_now_74 rfl (mX11_steep (l := l) (D := D) (cI := cI) (cZ := cZ) hc).1 (mX11_steep hc).2 ?_
          refine ev_goto (pc := 77) X 96 dX11_now_77 rfl ?_
          obtain rfl := Option.some.inj h
          exact ev_iret (pc := 96) X dX11_now_96
      · rw [if_pos hc] at h
        refine ev_aload_n (pc := 61) X 0 dX11_now_61 rfl rfl ?_
        obtain ⟨v10, w9, hc, h⟩ := eB2 h
        refine ev_callV_i (pc := 62) (As := []) (S := []) X hwX11_nowhere klX11_173 hiX11_nowhere hsX11_nowhere (ci := 11) ⟨rfl, rfl⟩ ⟨Nat.le_of_ble_eq_true rfl, Nat.le_of_ble_eq_true rfl⟩ ⟨Nat.le_refl _, Nat.le_refl _⟩ rfl (Nat.le_of_ble_eq_true rfl) dX11_now_62 rfl (mX11_nowhere (l := l) (D := D) (cI := cI) (cZ := cZ) hc).1 (mX11_nowhere hc).2 ?_
        refine ev_goto (pc := 65) X 96 dX11_now_65 rfl ?_
        obtain rfl := Option.some.inj h
        exact ev_iret (pc := 96) X dX11_now_96
    · rw [if_neg hc] at h
      refine ev_iload_n (pc := 22) X 1 dX11_now_22 rfl rfl ?_
      refine ev_if_ne (pc := 23) X 35 dX11_now_23 rfl (fun hc => ?_) (fun hc => ?_)
      · rw [if_neg hc] at h
        refine ev_iload_n (pc := 35) X 1 dX11_now_35 rfl rfl ?_
        refine ev_iconst (pc := 36) (v := (1 : Int32)) X dX11_now_36 rfl ?_
        refine ev_icmp_ne (pc := 37) X 47 dX11_now_37 rfl (fun hc => ?_) (fun hc => ?_)
        · rw [if_neg hc] at h
          refine ev_aload_n (pc := 47) X 0 dX11_now_47 rfl rfl ?_
          refine ev_aload_n (pc := 48) X 0 dX11_now_48 rfl rfl ?_
          obtain ⟨v11, hv11, h⟩ := eBi h
          refine ev_getR (pc := 49) X hcX11 (k := 13) (by decide) kfX11_22 dX11_now_49 hv11 ?_
          obtain ⟨v13, w12, hc, h⟩ := eB2 h
          refine ev_callV_i (pc := 52) (As := [.ref v11]) (S := []) X hwX11_piecesOf klX11_169 hiX11_piecesOf hsX11_piecesOf (ci := 11) ⟨rfl, rfl⟩ ⟨Nat.le_of_ble_eq_true rfl, Nat.le_of_ble_eq_true rfl⟩ ⟨Nat.le_refl _, Nat.le_refl _⟩ rfl (Nat.le_of_ble_eq_true rfl) dX11_now_52 rfl (mX11_piecesOf (l := l) (D := D) (cI := cI) (cZ := cZ) hc).1 (mX11_piecesOf hc).2 ?_
          obtain rfl := Option.some.inj h
          exact ev_iret (pc := 55) X dX11_now_55
        · rw [if_pos hc] at h
          refine ev_aload_n (pc := 40) X 0 dX11_now_40 rfl rfl ?_
          obtain ⟨v15, w14, hc, h⟩ := eB2 h
          refine ev_callV_i (pc := 41) (As := []) (S := []) X hwX11_ells klX11_166 hiX11_ells hsX11_ells (ci := 11) ⟨rfl, rfl⟩ ⟨Nat.le_of_ble_eq_true rfl, Nat.le_of_ble_eq_true rfl⟩ ⟨Nat.le_refl _, Nat.le_refl _⟩ rfl (Nat.le_of_ble_eq_true rfl) dX11_now_41 rfl (mX11_ells (l := l) (D := D) (cI := cI) (cZ := cZ) hc).1 (mX11_ells hc).2 ?_
          refine ev_goto (pc := 44) X 55 dX11_now_44 rfl ?_
          obtain rfl := Option.some.inj h
          exact ev_iret (pc := 55) X dX11_now_55
      · rw [if_pos hc] at h
        refine ev_aload_n (pc := 26) X 0 dX11_now_26 rfl rfl ?_
        obtain ⟨v16, hv16, h⟩ := eBi h
        refine ev_getR (pc := 27) X hcX11 (k := 13) (by decide) kfX11_22 dX11_now_27 hv16 ?_
        refine ev_iconst (pc := 30) (v := (0 : Int32)) X dX11_now_30 rfl ?_
        obtain ⟨v17, hv17, h⟩ := eBi h
        refine ev_iald (pc := 31) X dX11_now_31 hv17 ?_
        refine ev_goto (pc := 32) X 55 dX11_now_32 rfl ?_
        obtain rfl := Option.some.inj h
        exact ev_iret (pc := 55) X dX11_now_55
  · rw [if_pos hc] at h
    refine ev_iconst (pc := 15) (v := (-1 : Int32)) X dX11_now_15 rfl ?_
    obtain rfl := Option.some.inj h
    exact ev_iret (pc := 16) X dX11_now_16
def fX11_now (a0 : Nat) (a1 : Int32) (w : eW) : Option (Int32 × eW) := bif eO w a0 11 then fX11_now_0 a0 a1 w else none
theorem mX11_now {a0 : Nat} {a1 : Int32} {w : eW} {v : Int32} {w' : eW} (h : fX11_now a0 a1 w = some (v, w')) : eO w a0 11 = true ∧ eMN l D cI cZ 5 yX11_now cX11_now 2 (some .int) [.ref a0, .int a1] w (some (.int v)) w' := by
  obtain ⟨h0, h⟩ := eBif h
  exact ⟨h0, eMN_of [(0, .ref a0), (1, .int a1)] (plainFor_of_name (by decide)) (fun _ => rfl) (fun _ => Nat.le_of_ble_eq_true rfl) (fun p e s m args below meth c r0 A X => ev_weak (pc := 0) [0, 1] rfl (sX11_now_0 _ _ _ _ h p e s m args below meth c r0 A X))⟩
end GEN
