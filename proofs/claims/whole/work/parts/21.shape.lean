/-! ===== the shape that the constructors leave, and what is read and written in it ===== -/
def sh0 : eW := [
  .inr (10, [.ref 1, .ref 6, .ref 14, .ref 17, .ref 20, .int 0, .ref 22, .ref 23, .ref 26, .ref 30, .ref 37]),
  .inr (1, [.int 0, .int 0, .int 0, .int 0, .ref 2, .ref 4]),
  .inr (7, [.ref 3]),
  .inl (false, 20, fun _ => 0),
  .inr (7, [.ref 5]),
  .inl (false, 4, fun _ => 0),
  .inr (2, [.ref 7, .int 0, .ref 9, .int 0, .int 0, .int 0, .int 0, .int 0, .int 0]),
  .inr (7, [.ref 8]),
  .inl (false, 200, fun _ => 0),
  .inr (1, [.int 0, .int 0, .int 0, .int 0, .ref 10, .ref 12]),
  .inr (7, [.ref 11]),
  .inl (false, 20, fun _ => 0),
  .inr (7, [.ref 13]),
  .inl (false, 4, fun _ => 0),
  .inr (0, [.ref 1, .ref 15]),
  .inr (7, [.ref 16]),
  .inl (false, 57, fun _ => 0),
  .inr (4, [.ref 14, .ref 18, .int 0, .int 0]),
  .inr (7, [.ref 19]),
  .inl (false, 570, fun _ => 0),
  .inr (7, [.ref 21]),
  .inl (false, 114, fun _ => 0),
  .inr (6, [.ref 1, .int 0, .int 0]),
  .inr (8, [.ref 1, .ref 14, .ref 22, .ref 24]),
  .inr (7, [.ref 25]),
  .inl (false, 20, fun _ => 0),
  .inr (9, [.ref 1, .ref 22, .ref 29, .ref 27]),
  .inr (7, [.ref 28]),
  .inl (false, 320, fun _ => 0),
  .inr (6, [.ref 1, .int 0, .int 0]),
  .inr (3, [.ref 33, .ref 36, .ref 31]),
  .inr (7, [.ref 32]),
  .inl (false, 7, fun _ => 0),
  .inr (0, [.ref 1, .ref 34]),
  .inr (7, [.ref 35]),
  .inl (false, 57, fun _ => 0),
  .inr (6, [.ref 1, .int 0, .int 0]),
  .inr (5, [.ref 14, .ref 22, .long 0]),
  .inr (11, [.int 0, .long 0, .ref 39, .int 0, .int 0, .int 0, .int 0, .int 0, .int 0, .ref 40, .ref 41, .ref 42, .int 0, .ref 43, .ref 44, .ref 45, .ref 46, .ref 47, .int 0, .ref 48, .ref 49, .ref 50, .ref 51]),
  .inl (false, 200, fun _ => 0),
  .inl (false, 8, fun _ => 0),
  .inl (false, 40, fun _ => 0),
  .inl (false, 8, fun _ => 0),
  .inl (false, 57, fun _ => 0),
  .inl (false, 57, fun _ => 0),
  .inl (false, 114, fun _ => 0),
  .inl (true, 2, fun _ => 0),
  .inl (false, 570, fun _ => 0),
  .inl (false, 20, fun _ => 0),
  .inl (false, 20, fun _ => 0),
  .inl (false, 20, fun _ => 0),
  .inl (false, 320, fun _ => 0)]
def eE (g : eS) : eW := eM sh0 g
def w_0 : eW := [.inr (10, [.null, .null, .null, .null, .null, .int 0, .null, .null, .null, .null, .null])]
def w_1 : eW := (fX10_init 0 w_0).getD []
def w_2 : eW := w_1 ++ [.inr (11, [.int 0, .long 0, .null, .int 0, .int 0, .int 0, .int 0, .int 0, .int 0, .null, .null, .null, .int 0, .null, .null, .null, .null, .null, .int 0, .null, .null, .null, .null])]
def w_3 : eW := (fX11_init 38 w_2).getD []
def g_0 : eS := ePr w_3
theorem e_getD {α : Type} {o : Option α} {d : α} (h : o.isSome = true) : o = some (o.getD d) := by
  cases o with
  | none => cases h
  | some x => rfl
set_option maxRecDepth 100000 in
theorem st_1 : fX10_init 0 w_0 = some w_1 := e_getD (by decide +kernel)
set_option maxRecDepth 100000 in
theorem st_2 : fX11_init 38 w_2 = some w_3 := e_getD (by decide +kernel)
set_option maxRecDepth 100000 in
theorem st_3 : eLike w_3 sh0 = true := by decide +kernel
theorem st_4 : w_3 = eE g_0 := eLike_M st_3
set_option maxRecDepth 100000 in
theorem st_5 : w_1.length = 38 ∧ e_wsz w_1 = e_wsz (sh0.take 38) := by decide +kernel
theorem tO (g : eS) : eO (eE g) 0 10 = true ∧
  eO (eE g) 1 1 = true ∧
  eO (eE g) 2 7 = true ∧
  eO (eE g) 4 7 = true ∧
  eO (eE g) 6 2 = true ∧
  eO (eE g) 7 7 = true ∧
  eO (eE g) 9 1 = true ∧
  eO (eE g) 10 7 = true ∧
  eO (eE g) 12 7 = true ∧
  eO (eE g) 14 0 = true ∧
  eO (eE g) 15 7 = true ∧
  eO (eE g) 17 4 = true ∧
  eO (eE g) 18 7 = true ∧
  eO (eE g) 20 7 = true ∧
  eO (eE g) 22 6 = true ∧
  eO (eE g) 23 8 = true ∧
  eO (eE g) 24 7 = true ∧
  eO (eE g) 26 9 = true ∧
  eO (eE g) 27 7 = true ∧
  eO (eE g) 29 6 = true ∧
  eO (eE g) 30 3 = true ∧
  eO (eE g) 31 7 = true ∧
  eO (eE g) 33 0 = true ∧
  eO (eE g) 34 7 = true ∧
  eO (eE g) 36 6 = true ∧
  eO (eE g) 37 5 = true ∧
  eO (eE g) 38 11 = true :=
  ⟨(eM_O sh0 g _ _),
  (eM_O sh0 g _ _),
  (eM_O sh0 g _ _),
  (eM_O sh0 g _ _),
  (eM_O sh0 g _ _),
  (eM_O sh0 g _ _),
  (eM_O sh0 g _ _),
  (eM_O sh0 g _ _),
  (eM_O sh0 g _ _),
  (eM_O sh0 g _ _),
  (eM_O sh0 g _ _),
  (eM_O sh0 g _ _),
  (eM_O sh0 g _ _),
  (eM_O sh0 g _ _),
  (eM_O sh0 g _ _),
  (eM_O sh0 g _ _),
  (eM_O sh0 g _ _),
  (eM_O sh0 g _ _),
  (eM_O sh0 g _ _),
  (eM_O sh0 g _ _),
  (eM_O sh0 g _ _),
  (eM_O sh0 g _ _),
  (eM_O sh0 g _ _),
  (eM_O sh0 g _ _),
  (eM_O sh0 g _ _),
  (eM_O sh0 g _ _),
  (eM_O sh0 g _ _)⟩
theorem tR (g : eS) : eGR (eE g) 0 10 0 = some 1 ∧
  eGR (eE g) 0 10 1 = some 6 ∧
  eGR (eE g) 0 10 2 = some 14 ∧
  eGR (eE g) 0 10 3 = some 17 ∧
  eGR (eE g) 0 10 4 = some 20 ∧
  eGR (eE g) 0 10 6 = some 22 ∧
  eGR (eE g) 0 10 7 = some 23 ∧
  eGR (eE g) 0 10 8 = some 26 ∧
  eGR (eE g) 0 10 9 = some 30 ∧
  eGR (eE g) 0 10 10 = some 37 ∧
  eGR (eE g) 1 1 4 = some 2 ∧
  eGR (eE g) 1 1 5 = some 4 ∧
  eGR (eE g) 2 7 0 = some 3 ∧
  eGR (eE g) 4 7 0 = some 5 ∧
  eGR (eE g) 6 2 0 = some 7 ∧
  eGR (eE g) 6 2 2 = some 9 ∧
  eGR (eE g) 7 7 0 = some 8 ∧
  eGR (eE g) 9 1 4 = some 10 ∧
  eGR (eE g) 9 1 5 = some 12 ∧
  eGR (eE g) 10 7 0 = some 11 ∧
  eGR (eE g) 12 7 0 = some 13 ∧
  eGR (eE g) 14 0 0 = some 1 ∧
  eGR (eE g) 14 0 1 = some 15 ∧
  eGR (eE g) 15 7 0 = some 16 ∧
  eGR (eE g) 17 4 0 = some 14 ∧
  eGR (eE g) 17 4 1 = some 18 ∧
  eGR (eE g) 18 7 0 = some 19 ∧
  eGR (eE g) 20 7 0 = some 21 ∧
  eGR (eE g) 22 6 0 = some 1 ∧
  eGR (eE g) 23 8 0 = some 1 ∧
  eGR (eE g) 23 8 1 = some 14 ∧
  eGR (eE g) 23 8 2 = some 22 ∧
  eGR (eE g) 23 8 3 = some 24 ∧
  eGR (eE g) 24 7 0 = some 25 ∧
  eGR (eE g) 26 9 0 = some 1 ∧
  eGR (eE g) 26 9 1 = some 22 ∧
  eGR (eE g) 26 9 2 = some 29 ∧
  eGR (eE g) 26 9 3 = some 27 ∧
  eGR (eE g) 27 7 0 = some 28 ∧
  eGR (eE g) 29 6 0 = some 1 ∧
  eGR (eE g) 30 3 0 = some 33 ∧
  eGR (eE g) 30 3 1 = some 36 ∧
  eGR (eE g) 30 3 2 = some 31 ∧
  eGR (eE g) 31 7 0 = some 32 ∧
  eGR (eE g) 33 0 0 = some 1 ∧
  eGR (eE g) 33 0 1 = some 34 ∧
  eGR (eE g) 34 7 0 = some 35 ∧
  eGR (eE g) 36 6 0 = some 1 ∧
  eGR (eE g) 37 5 0 = some 14 ∧
  eGR (eE g) 37 5 1 = some 22 ∧
  eGR (eE g) 38 11 2 = some 39 ∧
  eGR (eE g) 38 11 9 = some 40 ∧
  eGR (eE g) 38 11 10 = some 41 ∧
  eGR (eE g) 38 11 11 = some 42 ∧
  eGR (eE g) 38 11 13 = some 43 ∧
  eGR (eE g) 38 11 14 = some 44 ∧
  eGR (eE g) 38 11 15 = some 45 ∧
  eGR (eE g) 38 11 16 = some 46 ∧
  eGR (eE g) 38 11 17 = some 47 ∧
  eGR (eE g) 38 11 19 = some 48 ∧
  eGR (eE g) 38 11 20 = some 49 ∧
  eGR (eE g) 38 11 21 = some 50 ∧
  eGR (eE g) 38 11 22 = some 51 :=
  ⟨(eM_GR sh0 g _ _ _),
  (eM_GR sh0 g _ _ _),
  (eM_GR sh0 g _ _ _),
  (eM_GR sh0 g _ _ _),
  (eM_GR sh0 g _ _ _),
  (eM_GR sh0 g _ _ _),
  (eM_GR sh0 g _ _ _),
  (eM_GR sh0 g _ _ _),
  (eM_GR sh0 g _ _ _),
  (eM_GR sh0 g _ _ _),
  (eM_GR sh0 g _ _ _),
  (eM_GR sh0 g _ _ _),
  (eM_GR sh0 g _ _ _),
  (eM_GR sh0 g _ _ _),
  (eM_GR sh0 g _ _ _),
  (eM_GR sh0 g _ _ _),
  (eM_GR sh0 g _ _ _),
  (eM_GR sh0 g _ _ _),
  (eM_GR sh0 g _ _ _),
  (eM_GR sh0 g _ _ _),
  (eM_GR sh0 g _ _ _),
  (eM_GR sh0 g _ _ _),
  (eM_GR sh0 g _ _ _),
  (eM_GR sh0 g _ _ _),
  (eM_GR sh0 g _ _ _),
  (eM_GR sh0 g _ _ _),
  (eM_GR sh0 g _ _ _),
  (eM_GR sh0 g _ _ _),
  (eM_GR sh0 g _ _ _),
  (eM_GR sh0 g _ _ _),
  (eM_GR sh0 g _ _ _),
  (eM_GR sh0 g _ _ _),
  (eM_GR sh0 g _ _ _),
  (eM_GR sh0 g _ _ _),
  (eM_GR sh0 g _ _ _),
  (eM_GR sh0 g _ _ _),
  (eM_GR sh0 g _ _ _),
  (eM_GR sh0 g _ _ _),
  (eM_GR sh0 g _ _ _),
  (eM_GR sh0 g _ _ _),
  (eM_GR sh0 g _ _ _),
  (eM_GR sh0 g _ _ _),
  (eM_GR sh0 g _ _ _),
  (eM_GR sh0 g _ _ _),
  (eM_GR sh0 g _ _ _),
  (eM_GR sh0 g _ _ _),
  (eM_GR sh0 g _ _ _),
  (eM_GR sh0 g _ _ _),
  (eM_GR sh0 g _ _ _),
  (eM_GR sh0 g _ _ _),
  (eM_GR sh0 g _ _ _),
  (eM_GR sh0 g _ _ _),
  (eM_GR sh0 g _ _ _),
  (eM_GR sh0 g _ _ _),
  (eM_GR sh0 g _ _ _),
  (eM_GR sh0 g _ _ _),
  (eM_GR sh0 g _ _ _),
  (eM_GR sh0 g _ _ _),
  (eM_GR sh0 g _ _ _),
  (eM_GR sh0 g _ _ _),
  (eM_GR sh0 g _ _ _),
  (eM_GR sh0 g _ _ _),
  (eM_GR sh0 g _ _ _)⟩
theorem tI (g : eS) : eGI (eE g) 0 10 5 = some (g.1 0 5) ∧
  eGI (eE g) 1 1 0 = some (g.1 1 0) ∧
  eGI (eE g) 1 1 1 = some (g.1 1 1) ∧
  eGI (eE g) 1 1 2 = some (g.1 1 2) ∧
  eGI (eE g) 1 1 3 = some (g.1 1 3) ∧
  eGI (eE g) 6 2 1 = some (g.1 6 1) ∧
  eGI (eE g) 6 2 3 = some (g.1 6 3) ∧
  eGI (eE g) 6 2 4 = some (g.1 6 4) ∧
  eGI (eE g) 6 2 5 = some (g.1 6 5) ∧
  eGI (eE g) 6 2 6 = some (g.1 6 6) ∧
  eGI (eE g) 6 2 7 = some (g.1 6 7) ∧
  eGI (eE g) 6 2 8 = some (g.1 6 8) ∧
  eGI (eE g) 9 1 0 = some (g.1 9 0) ∧
  eGI (eE g) 9 1 1 = some (g.1 9 1) ∧
  eGI (eE g) 9 1 2 = some (g.1 9 2) ∧
  eGI (eE g) 9 1 3 = some (g.1 9 3) ∧
  eGI (eE g) 17 4 2 = some (g.1 17 2) ∧
  eGI (eE g) 17 4 3 = some (g.1 17 3) ∧
  eGI (eE g) 22 6 1 = some (g.1 22 1) ∧
  eGI (eE g) 22 6 2 = some (g.1 22 2) ∧
  eGI (eE g) 29 6 1 = some (g.1 29 1) ∧
  eGI (eE g) 29 6 2 = some (g.1 29 2) ∧
  eGI (eE g) 36 6 1 = some (g.1 36 1) ∧
  eGI (eE g) 36 6 2 = some (g.1 36 2) ∧
  eGI (eE g) 38 11 0 = some (g.1 38 0) ∧
  eGI (eE g) 38 11 3 = some (g.1 38 3) ∧
  eGI (eE g) 38 11 4 = some (g.1 38 4) ∧
  eGI (eE g) 38 11 5 = some (g.1 38 5) ∧
  eGI (eE g) 38 11 6 = some (g.1 38 6) ∧
  eGI (eE g) 38 11 7 = some (g.1 38 7) ∧
  eGI (eE g) 38 11 8 = some (g.1 38 8) ∧
  eGI (eE g) 38 11 12 = some (g.1 38 12) ∧
  eGI (eE g) 38 11 18 = some (g.1 38 18) :=
  ⟨(eM_GI g rfl),
  (eM_GI g rfl),
  (eM_GI g rfl),
  (eM_GI g rfl),
  (eM_GI g rfl),
  (eM_GI g rfl),
  (eM_GI g rfl),
  (eM_GI g rfl),
  (eM_GI g rfl),
  (eM_GI g rfl),
  (eM_GI g rfl),
  (eM_GI g rfl),
  (eM_GI g rfl),
  (eM_GI g rfl),
  (eM_GI g rfl),
  (eM_GI g rfl),
  (eM_GI g rfl),
  (eM_GI g rfl),
  (eM_GI g rfl),
  (eM_GI g rfl),
  (eM_GI g rfl),
  (eM_GI g rfl),
  (eM_GI g rfl),
  (eM_GI g rfl),
  (eM_GI g rfl),
  (eM_GI g rfl),
  (eM_GI g rfl),
  (eM_GI g rfl),
  (eM_GI g rfl),
  (eM_GI g rfl),
  (eM_GI g rfl),
  (eM_GI g rfl),
  (eM_GI g rfl)⟩
theorem tJ (g : eS) : eGL (eE g) 37 5 2 = some (g.2.2 37 2) ∧
  eGL (eE g) 38 11 1 = some (g.2.2 38 1) :=
  ⟨(eM_GL g rfl),
  (eM_GL g rfl)⟩
theorem tP (g : eS) (x : Int32) : eP (eE g) 0 10 5 (.int x) = some (eE (eSI g 0 5 x)) ∧
  eP (eE g) 1 1 0 (.int x) = some (eE (eSI g 1 0 x)) ∧
  eP (eE g) 1 1 1 (.int x) = some (eE (eSI g 1 1 x)) ∧
  eP (eE g) 1 1 2 (.int x) = some (eE (eSI g 1 2 x)) ∧
  eP (eE g) 1 1 3 (.int x) = some (eE (eSI g 1 3 x)) ∧
  eP (eE g) 6 2 1 (.int x) = some (eE (eSI g 6 1 x)) ∧
  eP (eE g) 6 2 3 (.int x) = some (eE (eSI g 6 3 x)) ∧
  eP (eE g) 6 2 4 (.int x) = some (eE (eSI g 6 4 x)) ∧
  eP (eE g) 6 2 5 (.int x) = some (eE (eSI g 6 5 x)) ∧
  eP (eE g) 6 2 6 (.int x) = some (eE (eSI g 6 6 x)) ∧
  eP (eE g) 6 2 7 (.int x) = some (eE (eSI g 6 7 x)) ∧
  eP (eE g) 6 2 8 (.int x) = some (eE (eSI g 6 8 x)) ∧
  eP (eE g) 9 1 0 (.int x) = some (eE (eSI g 9 0 x)) ∧
  eP (eE g) 9 1 1 (.int x) = some (eE (eSI g 9 1 x)) ∧
  eP (eE g) 9 1 2 (.int x) = some (eE (eSI g 9 2 x)) ∧
  eP (eE g) 9 1 3 (.int x) = some (eE (eSI g 9 3 x)) ∧
  eP (eE g) 17 4 2 (.int x) = some (eE (eSI g 17 2 x)) ∧
  eP (eE g) 17 4 3 (.int x) = some (eE (eSI g 17 3 x)) ∧
  eP (eE g) 22 6 1 (.int x) = some (eE (eSI g 22 1 x)) ∧
  eP (eE g) 22 6 2 (.int x) = some (eE (eSI g 22 2 x)) ∧
  eP (eE g) 29 6 1 (.int x) = some (eE (eSI g 29 1 x)) ∧
  eP (eE g) 29 6 2 (.int x) = some (eE (eSI g 29 2 x)) ∧
  eP (eE g) 36 6 1 (.int x) = some (eE (eSI g 36 1 x)) ∧
  eP (eE g) 36 6 2 (.int x) = some (eE (eSI g 36 2 x)) ∧
  eP (eE g) 38 11 0 (.int x) = some (eE (eSI g 38 0 x)) ∧
  eP (eE g) 38 11 3 (.int x) = some (eE (eSI g 38 3 x)) ∧
  eP (eE g) 38 11 4 (.int x) = some (eE (eSI g 38 4 x)) ∧
  eP (eE g) 38 11 5 (.int x) = some (eE (eSI g 38 5 x)) ∧
  eP (eE g) 38 11 6 (.int x) = some (eE (eSI g 38 6 x)) ∧
  eP (eE g) 38 11 7 (.int x) = some (eE (eSI g 38 7 x)) ∧
  eP (eE g) 38 11 8 (.int x) = some (eE (eSI g 38 8 x)) ∧
  eP (eE g) 38 11 12 (.int x) = some (eE (eSI g 38 12 x)) ∧
  eP (eE g) 38 11 18 (.int x) = some (eE (eSI g 38 18 x)) :=
  ⟨(eM_P g rfl x),
  (eM_P g rfl x),
  (eM_P g rfl x),
  (eM_P g rfl x),
  (eM_P g rfl x),
  (eM_P g rfl x),
  (eM_P g rfl x),
  (eM_P g rfl x),
  (eM_P g rfl x),
  (eM_P g rfl x),
  (eM_P g rfl x),
  (eM_P g rfl x),
  (eM_P g rfl x),
  (eM_P g rfl x),
  (eM_P g rfl x),
  (eM_P g rfl x),
  (eM_P g rfl x),
  (eM_P g rfl x),
  (eM_P g rfl x),
  (eM_P g rfl x),
  (eM_P g rfl x),
  (eM_P g rfl x),
  (eM_P g rfl x),
  (eM_P g rfl x),
  (eM_P g rfl x),
  (eM_P g rfl x),
  (eM_P g rfl x),
  (eM_P g rfl x),
  (eM_P g rfl x),
  (eM_P g rfl x),
  (eM_P g rfl x),
  (eM_P g rfl x),
  (eM_P g rfl x)⟩
theorem tQ (g : eS) (x : Int64) : eP (eE g) 37 5 2 (.long x) = some (eE (eSJ g 37 2 x)) ∧
  eP (eE g) 38 11 1 (.long x) = some (eE (eSJ g 38 1 x)) :=
  ⟨(eM_PL g rfl x),
  (eM_PL g rfl x)⟩
theorem tN (g : eS) : eLen (eE g) 3 = some 20 ∧
  eLen (eE g) 5 = some 4 ∧
  eLen (eE g) 8 = some 200 ∧
  eLen (eE g) 11 = some 20 ∧
  eLen (eE g) 13 = some 4 ∧
  eLen (eE g) 16 = some 57 ∧
  eLen (eE g) 19 = some 570 ∧
  eLen (eE g) 21 = some 114 ∧
  eLen (eE g) 25 = some 20 ∧
  eLen (eE g) 28 = some 320 ∧
  eLen (eE g) 32 = some 7 ∧
  eLen (eE g) 35 = some 57 ∧
  eLen (eE g) 39 = some 200 ∧
  eLen (eE g) 40 = some 8 ∧
  eLen (eE g) 41 = some 40 ∧
  eLen (eE g) 42 = some 8 ∧
  eLen (eE g) 43 = some 57 ∧
  eLen (eE g) 44 = some 57 ∧
  eLen (eE g) 45 = some 114 ∧
  eLen (eE g) 46 = some 2 ∧
  eLen (eE g) 47 = some 570 ∧
  eLen (eE g) 48 = some 20 ∧
  eLen (eE g) 49 = some 20 ∧
  eLen (eE g) 50 = some 20 ∧
  eLen (eE g) 51 = some 320 :=
  ⟨(eM_Len sh0 g _),
  (eM_Len sh0 g _),
  (eM_Len sh0 g _),
  (eM_Len sh0 g _),
  (eM_Len sh0 g _),
  (eM_Len sh0 g _),
  (eM_Len sh0 g _),
  (eM_Len sh0 g _),
  (eM_Len sh0 g _),
  (eM_Len sh0 g _),
  (eM_Len sh0 g _),
  (eM_Len sh0 g _),
  (eM_Len sh0 g _),
  (eM_Len sh0 g _),
  (eM_Len sh0 g _),
  (eM_Len sh0 g _),
  (eM_Len sh0 g _),
  (eM_Len sh0 g _),
  (eM_Len sh0 g _),
  (eM_Len sh0 g _),
  (eM_Len sh0 g _),
  (eM_Len sh0 g _),
  (eM_Len sh0 g _),
  (eM_Len sh0 g _),
  (eM_Len sh0 g _)⟩
theorem tL (g : eS) (i : Int32) : eLd (eE g) false 3 i = (if ¬ (i < 0 ∨ 20 ≤ i.toNatClampNeg) then some (g.2.1 3 i.toNatClampNeg) else none) ∧
  eLd (eE g) false 5 i = (if ¬ (i < 0 ∨ 4 ≤ i.toNatClampNeg) then some (g.2.1 5 i.toNatClampNeg) else none) ∧
  eLd (eE g) false 8 i = (if ¬ (i < 0 ∨ 200 ≤ i.toNatClampNeg) then some (g.2.1 8 i.toNatClampNeg) else none) ∧
  eLd (eE g) false 11 i = (if ¬ (i < 0 ∨ 20 ≤ i.toNatClampNeg) then some (g.2.1 11 i.toNatClampNeg) else none) ∧
  eLd (eE g) false 13 i = (if ¬ (i < 0 ∨ 4 ≤ i.toNatClampNeg) then some (g.2.1 13 i.toNatClampNeg) else none) ∧
  eLd (eE g) false 16 i = (if ¬ (i < 0 ∨ 57 ≤ i.toNatClampNeg) then some (g.2.1 16 i.toNatClampNeg) else none) ∧
  eLd (eE g) false 19 i = (if ¬ (i < 0 ∨ 570 ≤ i.toNatClampNeg) then some (g.2.1 19 i.toNatClampNeg) else none) ∧
  eLd (eE g) false 21 i = (if ¬ (i < 0 ∨ 114 ≤ i.toNatClampNeg) then some (g.2.1 21 i.toNatClampNeg) else none) ∧
  eLd (eE g) false 25 i = (if ¬ (i < 0 ∨ 20 ≤ i.toNatClampNeg) then some (g.2.1 25 i.toNatClampNeg) else none) ∧
  eLd (eE g) false 28 i = (if ¬ (i < 0 ∨ 320 ≤ i.toNatClampNeg) then some (g.2.1 28 i.toNatClampNeg) else none) ∧
  eLd (eE g) false 32 i = (if ¬ (i < 0 ∨ 7 ≤ i.toNatClampNeg) then some (g.2.1 32 i.toNatClampNeg) else none) ∧
  eLd (eE g) false 35 i = (if ¬ (i < 0 ∨ 57 ≤ i.toNatClampNeg) then some (g.2.1 35 i.toNatClampNeg) else none) ∧
  eLd (eE g) false 39 i = (if ¬ (i < 0 ∨ 200 ≤ i.toNatClampNeg) then some (g.2.1 39 i.toNatClampNeg) else none) ∧
  eLd (eE g) false 40 i = (if ¬ (i < 0 ∨ 8 ≤ i.toNatClampNeg) then some (g.2.1 40 i.toNatClampNeg) else none) ∧
  eLd (eE g) false 41 i = (if ¬ (i < 0 ∨ 40 ≤ i.toNatClampNeg) then some (g.2.1 41 i.toNatClampNeg) else none) ∧
  eLd (eE g) false 42 i = (if ¬ (i < 0 ∨ 8 ≤ i.toNatClampNeg) then some (g.2.1 42 i.toNatClampNeg) else none) ∧
  eLd (eE g) false 43 i = (if ¬ (i < 0 ∨ 57 ≤ i.toNatClampNeg) then some (g.2.1 43 i.toNatClampNeg) else none) ∧
  eLd (eE g) false 44 i = (if ¬ (i < 0 ∨ 57 ≤ i.toNatClampNeg) then some (g.2.1 44 i.toNatClampNeg) else none) ∧
  eLd (eE g) false 45 i = (if ¬ (i < 0 ∨ 114 ≤ i.toNatClampNeg) then some (g.2.1 45 i.toNatClampNeg) else none) ∧
  eLd (eE g) true 46 i = (if ¬ (i < 0 ∨ 2 ≤ i.toNatClampNeg) then some (g.2.1 46 i.toNatClampNeg) else none) ∧
  eLd (eE g) false 47 i = (if ¬ (i < 0 ∨ 570 ≤ i.toNatClampNeg) then some (g.2.1 47 i.toNatClampNeg) else none) ∧
  eLd (eE g) false 48 i = (if ¬ (i < 0 ∨ 20 ≤ i.toNatClampNeg) then some (g.2.1 48 i.toNatClampNeg) else none) ∧
  eLd (eE g) false 49 i = (if ¬ (i < 0 ∨ 20 ≤ i.toNatClampNeg) then some (g.2.1 49 i.toNatClampNeg) else none) ∧
  eLd (eE g) false 50 i = (if ¬ (i < 0 ∨ 20 ≤ i.toNatClampNeg) then some (g.2.1 50 i.toNatClampNeg) else none) ∧
  eLd (eE g) false 51 i = (if ¬ (i < 0 ∨ 320 ≤ i.toNatClampNeg) then some (g.2.1 51 i.toNatClampNeg) else none) :=
  ⟨(eM_Ld g rfl i),
  (eM_Ld g rfl i),
  (eM_Ld g rfl i),
  (eM_Ld g rfl i),
  (eM_Ld g rfl i),
  (eM_Ld g rfl i),
  (eM_Ld g rfl i),
  (eM_Ld g rfl i),
  (eM_Ld g rfl i),
  (eM_Ld g rfl i),
  (eM_Ld g rfl i),
  (eM_Ld g rfl i),
  (eM_Ld g rfl i),
  (eM_Ld g rfl i),
  (eM_Ld g rfl i),
  (eM_Ld g rfl i),
  (eM_Ld g rfl i),
  (eM_Ld g rfl i),
  (eM_Ld g rfl i),
  (eM_Ld g rfl i),
  (eM_Ld g rfl i),
  (eM_Ld g rfl i),
  (eM_Ld g rfl i),
  (eM_Ld g rfl i),
  (eM_Ld g rfl i)⟩
theorem tS (g : eS) (i x : Int32) : eSt (eE g) false 3 i x = (if ¬ (i < 0 ∨ 20 ≤ i.toNatClampNeg) then some (eE (eSA g 3 (upd (g.2.1 3) i.toNatClampNeg x))) else none) ∧
  eSt (eE g) false 5 i x = (if ¬ (i < 0 ∨ 4 ≤ i.toNatClampNeg) then some (eE (eSA g 5 (upd (g.2.1 5) i.toNatClampNeg x))) else none) ∧
  eSt (eE g) false 8 i x = (if ¬ (i < 0 ∨ 200 ≤ i.toNatClampNeg) then some (eE (eSA g 8 (upd (g.2.1 8) i.toNatClampNeg x))) else none) ∧
  eSt (eE g) false 11 i x = (if ¬ (i < 0 ∨ 20 ≤ i.toNatClampNeg) then some (eE (eSA g 11 (upd (g.2.1 11) i.toNatClampNeg x))) else none) ∧
  eSt (eE g) false 13 i x = (if ¬ (i < 0 ∨ 4 ≤ i.toNatClampNeg) then some (eE (eSA g 13 (upd (g.2.1 13) i.toNatClampNeg x))) else none) ∧
  eSt (eE g) false 16 i x = (if ¬ (i < 0 ∨ 57 ≤ i.toNatClampNeg) then some (eE (eSA g 16 (upd (g.2.1 16) i.toNatClampNeg x))) else none) ∧
  eSt (eE g) false 19 i x = (if ¬ (i < 0 ∨ 570 ≤ i.toNatClampNeg) then some (eE (eSA g 19 (upd (g.2.1 19) i.toNatClampNeg x))) else none) ∧
  eSt (eE g) false 21 i x = (if ¬ (i < 0 ∨ 114 ≤ i.toNatClampNeg) then some (eE (eSA g 21 (upd (g.2.1 21) i.toNatClampNeg x))) else none) ∧
  eSt (eE g) false 25 i x = (if ¬ (i < 0 ∨ 20 ≤ i.toNatClampNeg) then some (eE (eSA g 25 (upd (g.2.1 25) i.toNatClampNeg x))) else none) ∧
  eSt (eE g) false 28 i x = (if ¬ (i < 0 ∨ 320 ≤ i.toNatClampNeg) then some (eE (eSA g 28 (upd (g.2.1 28) i.toNatClampNeg x))) else none) ∧
  eSt (eE g) false 32 i x = (if ¬ (i < 0 ∨ 7 ≤ i.toNatClampNeg) then some (eE (eSA g 32 (upd (g.2.1 32) i.toNatClampNeg x))) else none) ∧
  eSt (eE g) false 35 i x = (if ¬ (i < 0 ∨ 57 ≤ i.toNatClampNeg) then some (eE (eSA g 35 (upd (g.2.1 35) i.toNatClampNeg x))) else none) ∧
  eSt (eE g) false 39 i x = (if ¬ (i < 0 ∨ 200 ≤ i.toNatClampNeg) then some (eE (eSA g 39 (upd (g.2.1 39) i.toNatClampNeg x))) else none) ∧
  eSt (eE g) false 40 i x = (if ¬ (i < 0 ∨ 8 ≤ i.toNatClampNeg) then some (eE (eSA g 40 (upd (g.2.1 40) i.toNatClampNeg x))) else none) ∧
  eSt (eE g) false 41 i x = (if ¬ (i < 0 ∨ 40 ≤ i.toNatClampNeg) then some (eE (eSA g 41 (upd (g.2.1 41) i.toNatClampNeg x))) else none) ∧
  eSt (eE g) false 42 i x = (if ¬ (i < 0 ∨ 8 ≤ i.toNatClampNeg) then some (eE (eSA g 42 (upd (g.2.1 42) i.toNatClampNeg x))) else none) ∧
  eSt (eE g) false 43 i x = (if ¬ (i < 0 ∨ 57 ≤ i.toNatClampNeg) then some (eE (eSA g 43 (upd (g.2.1 43) i.toNatClampNeg x))) else none) ∧
  eSt (eE g) false 44 i x = (if ¬ (i < 0 ∨ 57 ≤ i.toNatClampNeg) then some (eE (eSA g 44 (upd (g.2.1 44) i.toNatClampNeg x))) else none) ∧
  eSt (eE g) false 45 i x = (if ¬ (i < 0 ∨ 114 ≤ i.toNatClampNeg) then some (eE (eSA g 45 (upd (g.2.1 45) i.toNatClampNeg x))) else none) ∧
  eSt (eE g) true 46 i x = (if ¬ (i < 0 ∨ 2 ≤ i.toNatClampNeg) then some (eE (eSA g 46 (upd (g.2.1 46) i.toNatClampNeg (vp_nar .boolean x)))) else none) ∧
  eSt (eE g) false 47 i x = (if ¬ (i < 0 ∨ 570 ≤ i.toNatClampNeg) then some (eE (eSA g 47 (upd (g.2.1 47) i.toNatClampNeg x))) else none) ∧
  eSt (eE g) false 48 i x = (if ¬ (i < 0 ∨ 20 ≤ i.toNatClampNeg) then some (eE (eSA g 48 (upd (g.2.1 48) i.toNatClampNeg x))) else none) ∧
  eSt (eE g) false 49 i x = (if ¬ (i < 0 ∨ 20 ≤ i.toNatClampNeg) then some (eE (eSA g 49 (upd (g.2.1 49) i.toNatClampNeg x))) else none) ∧
  eSt (eE g) false 50 i x = (if ¬ (i < 0 ∨ 20 ≤ i.toNatClampNeg) then some (eE (eSA g 50 (upd (g.2.1 50) i.toNatClampNeg x))) else none) ∧
  eSt (eE g) false 51 i x = (if ¬ (i < 0 ∨ 320 ≤ i.toNatClampNeg) then some (eE (eSA g 51 (upd (g.2.1 51) i.toNatClampNeg x))) else none) :=
  ⟨(eM_St g rfl i x),
  (eM_St g rfl i x),
  (eM_St g rfl i x),
  (eM_St g rfl i x),
  (eM_St g rfl i x),
  (eM_St g rfl i x),
  (eM_St g rfl i x),
  (eM_St g rfl i x),
  (eM_St g rfl i x),
  (eM_St g rfl i x),
  (eM_St g rfl i x),
  (eM_St g rfl i x),
  (eM_St g rfl i x),
  (eM_St g rfl i x),
  (eM_St g rfl i x),
  (eM_St g rfl i x),
  (eM_St g rfl i x),
  (eM_St g rfl i x),
  (eM_St g rfl i x),
  (eM_St g rfl i x),
  (eM_St g rfl i x),
  (eM_St g rfl i x),
  (eM_St g rfl i x),
  (eM_St g rfl i x),
  (eM_St g rfl i x)⟩
