/-! ===== the law's start ===== -/
def eFx (n n' : Nat) : Value → Bool
  | .ref i => decide (i < n) || decide (n' ≤ i)
  | _ => true
theorem e_cv_x {r r1 : Nat → Nat} {n n' : Nat} (h1 : ∀ i, i < n → r1 i = r i) (h2 : ∀ i, n' ≤ i → r1 i = r i) {v : Value} (hv : eFx n n' v = true) : e_cv r1 v = e_cv r v := by
  cases v with
  | ref i =>
    simp only [eFx, Bool.or_eq_true, decide_eq_true_eq] at hv
    rcases hv with h | h
    · simp [e_cv, h1 i h]
    · simp [e_cv, h2 i h]
  | _ => rfl
theorem e_S_x {r r1 : Nat → Nat} {n n' : Nat} (h1 : ∀ i, i < n → r1 i = r i) (h2 : ∀ i, n' ≤ i → r1 i = r i) {S : List Value} (hv : S.all (eFx n n') = true) : S.map (e_cv r1) = S.map (e_cv r) := by
  apply List.map_congr_left
  intro v hm
  exact e_cv_x h1 h2 (List.all_eq_true.mp hv v hm)
theorem e_L_x {r r1 : Nat → Nat} {n n' : Nat} (h1 : ∀ i, i < n → r1 i = r i) (h2 : ∀ i, n' ≤ i → r1 i = r i) {L : List (Nat × Value)} (hv : L.all (fun q => eFx n n' q.2) = true) : e_L r1 L = e_L r L := by
  unfold e_L
  apply List.map_congr_left
  intro q hm
  rw [e_cv_x h1 h2 (List.all_eq_true.mp hv q hm)]
section EVX
variable {p : Program} {l : Launch} {e : Env} {R : Room} {s : State} {m : MethodId} {args : Array Value} {below : List Frame} {meth : Method} {c : Code} {D : va_G} {cI cZ : ClassId} {A : Nat → Prop} {H0 : Heap} {nL : Nat} {Q : State → Prop} {cells slots : Nat} {r : Nat → Nat} {pc : Nat} {L L' : List (Nat × Value)} {S : List Value} {w w' : eW}
variable {y : MethodName} {cc : ByteArray} {ret0 : Option FieldType} {ci : Nat} {C : String} {T : u_T} {N : Nat} {ty : Nat → FieldType}
theorem ev_widen {k n : Nat} (h1 : cells ≤ k) (h2 : slots ≤ n) (kk : EV p l e R s m args below meth c D cI cZ A H0 nL Q k n r pc L S w) : EV p l e R s m args below meth c D cI cZ A H0 nL Q cells slots r pc L S w :=
  fun H locs ls hP hD hS hl => W.widen h1 h2 (kk H locs ls hP hD hS hl)
theorem ev_newX (X : eX p s m args meth c D cI cZ A H0 y cc nL ret0) (hC : eCl ci C T N ty) {idx : Nat} (hcl : Cond.classLink y.cls idx C ∈ eT) (hin : Cond.instantiable C N ∈ eT) (hini : Cond.initialized C ∈ eT) {fs : List Value} (hfs : ∀ r : Nat → Nat, fs.map (e_cv r) = fs) (hdef : ∀ j, j < N → defaultValue (ty j) = vp_V fs j)
    (hf : eFw w.length w = true) (hL : L.all (fun q => eFx w.length (w.length + 1) q.2) = true) (hS : S.all (eFx w.length (w.length + 1)) = true) (hc : cells + 1 ≤ R.cells) (hs : slots + N ≤ R.slots) (hd : decode cc pc = .ok (.new idx, 3))
    (kk : ∀ r' : Nat → Nat, (∀ i, w.length + 1 ≤ i → r' i = r i) → EV p l e R s m args below meth c D cI cZ A H0 nL Q (cells + 1) (slots + N) r' (pc + 3) L (.ref w.length :: S) (w ++ [.inr (ci, fs)])) : EV p l e R s m args below meth c D cI cZ A H0 nL Q cells slots r pc L S w := by
  intro H locs ls hP hD hSv hls
  refine va_new X.1 X.2.1 X.2.2.2.2.1 hC.2.1 ty hC.2.2.1 X.2.2.2.1 (X.2.2.2.2.1 _ hcl) (X.2.2.2.2.1 _ hin) (X.2.2.2.2.1 _ hini) X.2.2.2.2.2.2.2.1 hP hD hSv X.2.2.2.2.2.2.2.2.2.1 hC.1 hdef hc hs hd (fun q H1 hP1 hD1 hS1 => ?_)
  have g1 : ∀ i, i < w.length → va_up r w.length q i = r i := fun i hi => by simp [va_up, Nat.ne_of_lt hi]
  have g2 : ∀ i, w.length + 1 ≤ i → va_up r w.length q i = r i := fun i hi => by simp [va_up]; omega
  have e1 : e_cw cI cZ (va_up r w.length q) (w ++ [.inr (ci, fs)]) = e_cw cI cZ r w ++ [(q, .inr (ci, fs))] := by
    rw [e_cw_app, e_w_ag g1 hf]
    simp [va_up, e_cc, hfs]
  have := kk (va_up r w.length q) g2 H1 locs ls (by rw [e1]; exact hP1) (by rw [e1]; exact hD1) hS1 (by rw [e_L_x g1 g2 hL]; exact hls)
  rw [List.map_cons, e_S_x g1 g2 hS] at this
  simpa [e_cv, va_up] using this
theorem ev_callAX (X : eX p s m args meth c D cI cZ A H0 y cc nL ret0) {y1 : MethodName} {cc1 : ByteArray} {nL1 n1 d1 idx o : Nat} (hw : eMw y1 cc1 nL1 none n1) (hl : Cond.methodLink y.cls idx y1 ∈ eT) (hin : Cond.instanceMethod y1 ∈ eT) (hy : y1.name = "<init>") (hR : d1 + 1 ≤ R.frames ∧ 8 + (nL1 + 11) + 34 * d1 ≤ R.locals)
    (hn : ([] : List Value).length = n1) (hS8 : (S.map fun v => v.category).sum ≤ 8) (hd : decode cc pc = .ok (.invokespecial idx, 3)) (hM : eMA l D cI cZ d1 y1 cc1 nL1 [.ref o] w w') (hf : cells + (w'.length - w.length) ≤ R.cells ∧ slots + (e_wsz w' - e_wsz w) ≤ R.slots) (hfw : eFw w'.length w' = true) (hL : L.all (fun q => eFx w.length w'.length q.2) = true) (hSf : S.all (eFx w.length w'.length) = true)
    (k : ∀ r' : Nat → Nat, (∀ i, w'.length ≤ i → r' i = r i) → EV p l e R s m args below meth c D cI cZ A H0 nL Q (cells + (w'.length - w.length)) (slots + (e_wsz w' - e_wsz w)) r' (pc + 3) L S w') : EV p l e R s m args below meth c D cI cZ A H0 nL Q cells slots r pc L (.ref o :: S) w := by
  intro H locs ls hP hD hS hls T hT X0
  have hrun := va_runI (As := []) (b := r o) (rest := S.map (e_cv r)) (l := l) (e := e) (below := below) (meth := meth) (locs := locs) (cells := cells) (slots := slots) ⟨X.1, X.2.1, X.2.2.1, X.2.2.2.1, X.2.2.2.2.1⟩ (hM.2 r H.size) ⟨e_callB X hw hl hR, hy, X.2.2.2.2.1 _ hin⟩ (e_pre X hP hD _) (g := F0 m pc ls ((Value.ref o :: S).map (e_cv r))) rfl hn hls.1 (by simp [e_cv]) (lv_room (by rw [e_sum]; exact hS8)) hd hf
  obtain ⟨v1, st0, t, T', L2, h0, X', hL2, e1, e2, ⟨hv, r1, hag, hP', hD', hz, hk⟩, st⟩ := hrun T hT X0
  have hF := e_free hD hS X.2.2.2.2.2.2.2.2.2.1
  cases hv
  rw [h0] at hz hk
  have a1 : ∀ i, i < w.length → (fun i => if i < w'.length then r1 i else r i) i = r i := fun i hi => by
    by_cases h : i < w'.length
    · simp only [if_pos h]; exact hag i hi
    · simp only [if_neg h]
  have a2 : ∀ i, w'.length ≤ i → (fun i => if i < w'.length then r1 i else r i) i = r i := fun i hi => by
    simp only [if_neg (Nat.not_lt.mpr hi)]
  have a3 : e_cw cI cZ (fun i => if i < w'.length then r1 i else r i) w' = e_cw cI cZ r1 w' := e_w_ag (fun i hi => by simp only [if_pos hi]) hfw
  obtain ⟨t2, b1, b2⟩ := k (fun i => if i < w'.length then r1 i else r i) a2 T'.heap (locs ++ L2) ls (by rw [a3, e1]; exact hP') (by rw [a3]; exact hD'.weaken (fun k q _ h => hF q.1 h))
    ⟨Nat.le_trans hS.1 (by rw [e1]; exact hz), fun q h1 h2 => by rw [e1, hk q (Nat.lt_of_lt_of_le h1 hS.1) (fun z => h2 (hF q z))]; exact hS.2.1 q h1 h2, fun q hq => by
      rcases List.mem_append.mp hq with h | h
      · exact hS.2.2 q h
      · exact hF _ (hL2 q h)⟩ (by rw [e_L_x a1 a2 hL]; exact hls) T' rfl X'
  refine ⟨t2, st t2 ?_, b2⟩
  rw [e_S_x a1 a2 hSf] at b1
  exact b1
end EVX
set_option maxRecDepth 100000 in
theorem st_6 : w_1.length = 38 ∧ e_wsz w_1 ≤ 3000 ∧ w_2.length = 39 ∧ e_wsz w_2 ≤ 3100 ∧ w_3.length = 52 ∧ e_wsz w_3 ≤ 6000 := by decide +kernel
set_option maxRecDepth 100000 in
theorem st_7 : eFw 38 w_1 = true ∧ eFw 39 w_2 = true ∧ eFw 52 w_3 = true := by decide +kernel
theorem arr_of {s : State} {args : Array Value} {ty : FieldType} (h : (Cond.arrayClass ty).before args s = true) : ∃ cA : ClassId, ArrOfT s cA ty ∧ s.vm.findClass ("[" ++ ty.toString) = some cA := by
  obtain ⟨cB, kB, comp, hcB, hkB, hkind⟩ := Cond.arrayClass_spec h
  exact ⟨cB, fun n z => ⟨fun k h => (by cases h), kB, hkB, comp, hkind⟩, hcB⟩
set_option maxRecDepth 100000 in
set_option maxHeartbeats 4000000 in
theorem start_of (Rl : eS → Prop) (hsim : SimA Rl) (h0 : Rl g_0) {p : Program} {e : Env} {s : State} {m : MethodId} {below : List Frame} {meth : Method} {c : Code} (l : Launch) {b L : Nat} {xs : Nat → Int32} (hL : L ≤ 2048) (C0 : lw_At p s m meth c b L xs) : W p l e room_1 s m #[Value.ref b] below meth c s.heap [] 0 0 (lw_Z below #[Value.ref b] s) (entryFrame m ([Value.ref b] : List Value).toArray 4) := by
  obtain ⟨hx, hb, hr, hml, hown, hts, hX, hbl, hlocks, hgv⟩ := C0
  have hte : ∀ w ∈ eT, w.before #[Value.ref b] s = true := fun w h => hts w (List.mem_filter.mp h).1
  obtain ⟨c0, iS0, hKn0⟩ := u_known (C := RX0) (T := TX0) (N := 2) (n := 2) hte hcX0.2.1 (hte _ hnX0)
  obtain ⟨c1, iS1, hKn1⟩ := u_known (C := RX1) (T := TX1) (N := 6) (n := 6) hte hcX1.2.1 (hte _ hnX1)
  obtain ⟨c2, iS2, hKn2⟩ := u_known (C := RX2) (T := TX2) (N := 9) (n := 9) hte hcX2.2.1 (hte _ hnX2)
  obtain ⟨c3, iS3, hKn3⟩ := u_known (C := RX3) (T := TX3) (N := 3) (n := 3) hte hcX3.2.1 (hte _ hnX3)
  obtain ⟨c4, iS4, hKn4⟩ := u_known (C := RX4) (T := TX4) (N := 4) (n := 4) hte hcX4.2.1 (hte _ hnX4)
  obtain ⟨c5, iS5, hKn5⟩ := u_known (C := RX5) (T := TX5) (N := 3) (n := 3) hte hcX5.2.1 (hte _ hnX5)
  obtain ⟨c6, iS6, hKn6⟩ := u_known (C := RX6) (T := TX6) (N := 3) (n := 3) hte hcX6.2.1 (hte _ hnX6)
  obtain ⟨c7, iS7, hKn7⟩ := u_known (C := RX7) (T := TX7) (N := 1) (n := 1) hte hcX7.2.1 (hte _ hnX7)
  obtain ⟨c8, iS8, hKn8⟩ := u_known (C := RX8) (T := TX8) (N := 4) (n := 4) hte hcX8.2.1 (hte _ hnX8)
  obtain ⟨c9, iS9, hKn9⟩ := u_known (C := RX9) (T := TX9) (N := 4) (n := 4) hte hcX9.2.1 (hte _ hnX9)
  obtain ⟨c10, iS10, hKn10⟩ := u_known (C := RX10) (T := TX10) (N := 11) (n := 11) hte hcX10.2.1 (hte _ hnX10)
  obtain ⟨c11, iS11, hKn11⟩ := u_known (C := RX11) (T := TX11) (N := 23) (n := 23) hte hcX11.2.1 (hte _ hnX11)
  obtain ⟨cI, hI1, hI2⟩ := arr_of (hte _ haI)
  obtain ⟨cZ, hZ1, hZ2⟩ := arr_of (hte _ haZ)
  obtain ⟨dC, dI, hKc⟩ : ∃ (dC : Nat → ClassId) (dI : Nat → Nat → Nat), ∀ (k : Nat) (q : vw_C), vwCl[k]? = some q → u_Kn s q.1 q.2.1 q.2.2 (dC k) (dI k) := by
    refine ⟨fun k => if k = 0 then c0 else if k = 1 then c1 else if k = 2 then c2 else if k = 3 then c3 else if k = 4 then c4 else if k = 5 then c5 else if k = 6 then c6 else if k = 7 then c7 else if k = 8 then c8 else if k = 9 then c9 else if k = 10 then c10 else c11, fun k => if k = 0 then iS0 else if k = 1 then iS1 else if k = 2 then iS2 else if k = 3 then iS3 else if k = 4 then iS4 else if k = 5 then iS5 else if k = 6 then iS6 else if k = 7 then iS7 else if k = 8 then iS8 else if k = 9 then iS9 else if k = 10 then iS10 else iS11, ?_⟩
    intro k q hq
    match k, hq with
    | 0, hq => cases hq; exact hKn0
    | 1, hq => cases hq; exact hKn1
    | 2, hq => cases hq; exact hKn2
    | 3, hq => cases hq; exact hKn3
    | 4, hq => cases hq; exact hKn4
    | 5, hq => cases hq; exact hKn5
    | 6, hq => cases hq; exact hKn6
    | 7, hq => cases hq; exact hKn7
    | 8, hq => cases hq; exact hKn8
    | 9, hq => cases hq; exact hKn9
    | 10, hq => cases hq; exact hKn10
    | 11, hq => cases hq; exact hKn11
    | k + 12, hq => simp [vwCl] at hq
  have hK : va_K (dC, dI) vwCl (e_ty cI cZ) s := by
    refine ⟨hKc, fun k q h => ?_⟩
    match k, h with
    | 0, h => cases h; exact ⟨hI1, hI2⟩
    | 1, h => cases h; exact ⟨hZ1, hZ2⟩
    | k + 2, h => simp [e_ty] at h
  have hN : eNest s := by
    intro w hw
    have h1 := hts w (List.mem_append_right _ (List.mem_filter.mp hw).1)
    have h2 := (List.mem_filter.mp hw).2
    cases w <;> first | exact va_Nw.of rfl h1 | cases h2
  have X : eX p s m #[Value.ref b] meth c (dC, dI) cI cZ (fun q : Nat => s.heap.size ≤ q) s.heap ⟨RL, meth.name, ""⟩ cL_law 4 ret := ⟨hx, hb, hml, hown, hte, hr, hlocks, hK, hN, fun _ h => h, rfl⟩
  have hP : va_P (dC, dI) vwCl (e_cw cI cZ (fun _ => b) []) s.heap := fun k q h => by simp [e_cw] at h
  have hD : va_D (fun q : Nat => s.heap.size ≤ q) (e_cw cI cZ (fun _ => b) []) := ⟨fun i j p q h => by simp [e_cw] at h, fun k q h => by simp [e_cw] at h⟩
  have hl := lv_entry ([.ref b]) (n := 4) (Nat.le_of_ble_eq_true rfl)
  rw [lg_entry_eq]
  obtain ⟨s1, s2, s3, s4, s5, s6⟩ := st_6
  obtain ⟨f1, f2, f3⟩ := st_7
  have z0 : e_wsz w_0 = 11 := rfl
  have zl : e_wsz w_1 ≤ e_wsz w_2 := by rw [w_2, e_wsz_app]; omega
  have zz : e_wsz w_2 = e_wsz w_1 + 23 := by rw [w_2, e_wsz_app]; rfl
  have key : EV p l e room_1 s m #[Value.ref b] below meth c (dC, dI) cI cZ (fun q : Nat => s.heap.size ≤ q) s.heap 4 (lw_Z below #[Value.ref b] s) 0 0 (fun _ => b) 0 [(0, .ref 1000)] [] [] := by
    refine ev_newX (pc := 0) X hcX10 kcL_7 hnX10 hzX10 (fs := [.null, .null, .null, .null, .null, .int 0, .null, .null, .null, .null, .null]) (fun _ => rfl) (by decide +kernel) rfl rfl rfl (Nat.le_of_ble_eq_true rfl) (Nat.le_of_ble_eq_true rfl) dL_law_0 (fun r1 hr1 => ?_)
    refine ev_dup (pc := 3) X dL_law_3 rfl ?_
    refine ev_callAX (pc := 4) (w := w_0) (w' := w_1) (S := [.ref 0]) X hwX10_init klL_9 hiX10_init rfl ⟨Nat.le_of_ble_eq_true rfl, Nat.le_of_ble_eq_true rfl⟩ rfl (Nat.le_of_ble_eq_true rfl) dL_law_4 (mX10_init st_1) ⟨?_, ?_⟩ (by rw [s1]; exact f1) (by rw [s1]; rfl) (by rw [s1]; rfl) (fun r2 hr2 => ?_)
    · show 0 + 1 + (w_1.length - 1) ≤ 600000; omega
    · show 0 + 11 + (e_wsz w_1 - e_wsz w_0) ≤ 7302249; omega
    refine ev_astore_n (pc := 7) (L' := [(1, .ref 0), (0, .ref 1000)]) X dL_law_7 rfl (by decide) rfl ?_
    refine ev_newX (pc := 8) (w := w_1) X hcX11 kcL_10 hnX11 hzX11 (fs := [.int 0, .long 0, .null, .int 0, .int 0, .int 0, .int 0, .int 0, .int 0, .null, .null, .null, .int 0, .null, .null, .null, .null, .null, .int 0, .null, .null, .null, .null]) (fun _ => rfl) (by decide +kernel) (by rw [s1]; exact f1) (by rw [s1]; rfl) (by rw [s1]; rfl) ?_ ?_ dL_law_8 (fun r3 hr3 => ?_)
    · show 0 + 1 + (w_1.length - 1) + 1 ≤ 600000; omega
    · show 0 + 11 + (e_wsz w_1 - e_wsz w_0) + 23 ≤ 7302249; omega
    rw [s1]
    refine ev_dup (pc := 11) X dL_law_11 rfl ?_
    refine ev_callAX (pc := 12) (w := w_2) (w' := w_3) (S := [.ref 38]) X hwX11_init klL_12 hiX11_init rfl ⟨Nat.le_of_ble_eq_true rfl, Nat.le_of_ble_eq_true rfl⟩ rfl (Nat.le_of_ble_eq_true rfl) dL_law_12 (mX11_init st_2) ⟨?_, ?_⟩ (by rw [s5]; exact f3) (by rw [s3, s5]; rfl) (by rw [s3, s5]; rfl) (fun r4 hr4 => ?_)
    · show 0 + 1 + (w_1.length - 1) + 1 + (w_3.length - w_2.length) ≤ 600000; omega
    · show 0 + 11 + (e_wsz w_1 - e_wsz w_0) + 23 + (e_wsz w_3 - e_wsz w_2) ≤ 7302249; omega
    refine ev_astore_n (pc := 15) (L' := [(2, .ref 38), (1, .ref 0), (0, .ref 1000)]) X dL_law_15 rfl (by decide) rfl ?_
    refine ev_iconst (pc := 16) (v := (0 : Int32)) X dL_law_16 rfl ?_
    refine ev_istore_n (pc := 17) (L' := [(3, .int (0 : Int32)), (2, .ref 38), (1, .ref 0), (0, .ref 1000)]) X dL_law_17 rfl (by decide) rfl ?_
    refine ev_widen (k := 600000) (n := 7302249) ?_ ?_ ?_
    · show 0 + 1 + (w_1.length - 1) + 1 + (w_3.length - w_2.length) ≤ 600000; omega
    · show 0 + 11 + (e_wsz w_1 - e_wsz w_0) + 23 + (e_wsz w_3 - e_wsz w_2) ≤ 7302249; omega
    refine ev_weak (pc := 18) (L' := [(0, .ref 1000), (1, .ref 0), (2, .ref 38), (3, .int (nI 0))]) [3, 2, 1, 0] rfl ?_
    rw [st_4]
    exact law_loop Rl hsim hL hX hbl X (by rw [hr4 1000 (by omega), hr3 1000 (by omega), hr2 1000 (by omega), hr1 1000 (by decide)]) (L + 5) 0 g_0 h0 (by omega) (by omega)
  exact key s.heap [] _ hP hD va_S.rf hl
