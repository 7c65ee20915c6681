/-! the law: its cases -/
section LAWC
variable {p : Program} {l : Launch} {e : Env} {s : State} {m : MethodId} {below : List Frame} {meth : Method} {c : Code} {D : va_G} {b : Nat} {cI cS : ClassId} {sA Ln : Nat} {xs : Nat → Int32} {cells slots : Nat} {Z : State → Prop}
set_option maxRecDepth 100000 in
theorem l_case_0 {h : St} {ii : Int32} (Cx : l_Cx p s m c D b cI cS sA Ln xs cells slots) (hJ : J h) (j : Nat) (hi : ii = nI j) (hj : j + 5 < Ln) (fin : ∀ h', J h' → LW p l e s m below meth c D b cI cS sA cells slots Z 813 ii [] h') : LW p l e s m below meth c D b cI cS sA cells slots Z 148 ii [] h := by
  refine l_a (n := 0) Cx (l_d rfl) rfl 2 rfl ?_
  refine l_scr Cx j 1 hi (by omega) rfl (l_d rfl) (l_d rfl) (l_d rfl) (l_d rfl) (l_d rfl) ?_
  refine l_scr Cx j 2 hi (by omega) rfl (l_d rfl) (l_d rfl) (l_d rfl) (l_d rfl) (l_d rfl) ?_
  refine l_scr Cx j 3 hi (by omega) rfl (l_d rfl) (l_d rfl) (l_d rfl) (l_d rfl) (l_d rfl) ?_
  refine l_call (o := 0) (as := [.int (xs (j + 1)), .int (xs (j + 2)), .int (xs (j + 3))]) (rst := []) Cx (pair_setRow hJ (xs (j + 1)) (xs (j + 2)) (xs (j + 3))) rfl rfl ⟨by decide, rfl⟩ (by decide) ⟨rfl, rfl⟩ (fun r1 h1 hv => ?_)
  obtain ⟨v, rfl, hM⟩ := hv
  refine l_a (n := 0) Cx (l_d rfl) rfl 1 rfl ?_
  refine l_scr Cx j 1 hi (by omega) rfl (l_d rfl) (l_d rfl) (l_d rfl) (l_d rfl) (l_d rfl) ?_
  refine l_scr Cx j 2 hi (by omega) rfl (l_d rfl) (l_d rfl) (l_d rfl) (l_d rfl) (l_d rfl) ?_
  refine l_scr Cx j 3 hi (by omega) rfl (l_d rfl) (l_d rfl) (l_d rfl) (l_d rfl) (l_d rfl) ?_
  refine l_call (o := 90) (as := [.int (xs (j + 1)), .int (xs (j + 2)), .int (xs (j + 3))]) (rst := [.int v]) Cx hM rfl rfl ⟨by decide, rfl⟩ (Nat.le_of_ble_eq_true rfl) ⟨rfl, rfl⟩ (fun r2 h2 hv2 => ?_)
  obtain ⟨rfl, hJ2⟩ := hv2
  exact l_eq Cx (l_d rfl) rfl (fin h2 hJ2)
set_option maxRecDepth 100000 in
theorem l_case_1 {h : St} {ii : Int32} (Cx : l_Cx p s m c D b cI cS sA Ln xs cells slots) (hJ : J h) (j : Nat) (hi : ii = nI j) (hj : j + 5 < Ln) (fin : ∀ h', J h' → LW p l e s m below meth c D b cI cS sA cells slots Z 813 ii [] h') : LW p l e s m below meth c D b cI cS sA cells slots Z 191 ii [] h := by
  refine l_a (n := 0) Cx (l_d rfl) rfl 2 rfl ?_
  refine l_scr Cx j 1 hi (by omega) rfl (l_d rfl) (l_d rfl) (l_d rfl) (l_d rfl) (l_d rfl) ?_
  refine l_scr Cx j 2 hi (by omega) rfl (l_d rfl) (l_d rfl) (l_d rfl) (l_d rfl) (l_d rfl) ?_
  refine l_scr Cx j 3 hi (by omega) rfl (l_d rfl) (l_d rfl) (l_d rfl) (l_d rfl) (l_d rfl) ?_
  refine l_scr Cx j 4 hi (by omega) rfl (l_d rfl) (l_d rfl) (l_d rfl) (l_d rfl) (l_d rfl) ?_
  refine l_scr Cx j 5 hi (by omega) rfl (l_d rfl) (l_d rfl) (l_d rfl) (l_d rfl) (l_d rfl) ?_
  refine l_call (o := 0) (as := [.int (xs (j + 1)), .int (xs (j + 2)), .int (xs (j + 3)), .int (xs (j + 4)), .int (xs (j + 5))]) (rst := []) Cx (pair_come hJ (xs (j + 1)) (xs (j + 2)) (xs (j + 3)) (xs (j + 4)) (xs (j + 5))) rfl rfl ⟨by decide, rfl⟩ (by decide) ⟨rfl, rfl⟩ (fun r1 h1 hv => ?_)
  obtain ⟨v, rfl, hM⟩ := hv
  refine l_a (n := 0) Cx (l_d rfl) rfl 1 rfl ?_
  refine l_scr Cx j 1 hi (by omega) rfl (l_d rfl) (l_d rfl) (l_d rfl) (l_d rfl) (l_d rfl) ?_
  refine l_scr Cx j 2 hi (by omega) rfl (l_d rfl) (l_d rfl) (l_d rfl) (l_d rfl) (l_d rfl) ?_
  refine l_scr Cx j 3 hi (by omega) rfl (l_d rfl) (l_d rfl) (l_d rfl) (l_d rfl) (l_d rfl) ?_
  refine l_scr Cx j 4 hi (by omega) rfl (l_d rfl) (l_d rfl) (l_d rfl) (l_d rfl) (l_d rfl) ?_
  refine l_scr Cx j 5 hi (by omega) rfl (l_d rfl) (l_d rfl) (l_d rfl) (l_d rfl) (l_d rfl) ?_
  refine l_call (o := 90) (as := [.int (xs (j + 1)), .int (xs (j + 2)), .int (xs (j + 3)), .int (xs (j + 4)), .int (xs (j + 5))]) (rst := [.int v]) Cx hM rfl rfl ⟨by decide, rfl⟩ (Nat.le_of_ble_eq_true rfl) ⟨rfl, rfl⟩ (fun r2 h2 hv2 => ?_)
  obtain ⟨rfl, hJ2⟩ := hv2
  exact l_eq Cx (l_d rfl) rfl (fin h2 hJ2)
set_option maxRecDepth 100000 in
theorem l_case_2 {h : St} {ii : Int32} (Cx : l_Cx p s m c D b cI cS sA Ln xs cells slots) (hJ : J h) (j : Nat) (hi : ii = nI j) (hj : j + 5 < Ln) (fin : ∀ h', J h' → LW p l e s m below meth c D b cI cS sA cells slots Z 813 ii [] h') : LW p l e s m below meth c D b cI cS sA cells slots Z 254 ii [] h := by
  refine l_a (n := 0) Cx (l_d rfl) rfl 2 rfl ?_
  refine l_scr Cx j 1 hi (by omega) rfl (l_d rfl) (l_d rfl) (l_d rfl) (l_d rfl) (l_d rfl) ?_
  refine l_call (o := 0) (as := [.int (xs (j + 1))]) (rst := []) Cx (pair_leave hJ (xs (j + 1))) rfl rfl ⟨by decide, rfl⟩ (by decide) ⟨rfl, rfl⟩ (fun r1 h1 hv => ?_)
  obtain ⟨v, rfl, hM⟩ := hv
  refine l_a (n := 0) Cx (l_d rfl) rfl 1 rfl ?_
  refine l_scr Cx j 1 hi (by omega) rfl (l_d rfl) (l_d rfl) (l_d rfl) (l_d rfl) (l_d rfl) ?_
  refine l_call (o := 90) (as := [.int (xs (j + 1))]) (rst := [.int v]) Cx hM rfl rfl ⟨by decide, rfl⟩ (Nat.le_of_ble_eq_true rfl) ⟨rfl, rfl⟩ (fun r2 h2 hv2 => ?_)
  obtain ⟨rfl, hJ2⟩ := hv2
  exact l_eq Cx (l_d rfl) rfl (fin h2 hJ2)
set_option maxRecDepth 100000 in
theorem l_case_3 {h : St} {ii : Int32} (Cx : l_Cx p s m c D b cI cS sA Ln xs cells slots) (hJ : J h) (j : Nat) (hi : ii = nI j) (hj : j + 5 < Ln) (fin : ∀ h', J h' → LW p l e s m below meth c D b cI cS sA cells slots Z 813 ii [] h') : LW p l e s m below meth c D b cI cS sA cells slots Z 277 ii [] h := by
  refine l_a (n := 0) Cx (l_d rfl) rfl 2 rfl ?_
  refine l_scr Cx j 1 hi (by omega) rfl (l_d rfl) (l_d rfl) (l_d rfl) (l_d rfl) (l_d rfl) ?_
  refine l_scr Cx j 2 hi (by omega) rfl (l_d rfl) (l_d rfl) (l_d rfl) (l_d rfl) (l_d rfl) ?_
  refine l_scr Cx j 3 hi (by omega) rfl (l_d rfl) (l_d rfl) (l_d rfl) (l_d rfl) (l_d rfl) ?_
  refine l_call (o := 0) (as := [.int (xs (j + 1)), .int (xs (j + 2)), .int (xs (j + 3))]) (rst := []) Cx (pair_move hJ (xs (j + 1)) (xs (j + 2)) (xs (j + 3))) rfl rfl ⟨by decide, rfl⟩ (by decide) ⟨rfl, rfl⟩ (fun r1 h1 hv => ?_)
  obtain ⟨v, rfl, hM⟩ := hv
  refine l_a (n := 0) Cx (l_d rfl) rfl 1 rfl ?_
  refine l_scr Cx j 1 hi (by omega) rfl (l_d rfl) (l_d rfl) (l_d rfl) (l_d rfl) (l_d rfl) ?_
  refine l_scr Cx j 2 hi (by omega) rfl (l_d rfl) (l_d rfl) (l_d rfl) (l_d rfl) (l_d rfl) ?_
  refine l_scr Cx j 3 hi (by omega) rfl (l_d rfl) (l_d rfl) (l_d rfl) (l_d rfl) (l_d rfl) ?_
  refine l_call (o := 90) (as := [.int (xs (j + 1)), .int (xs (j + 2)), .int (xs (j + 3))]) (rst := [.int v]) Cx hM rfl rfl ⟨by decide, rfl⟩ (Nat.le_of_ble_eq_true rfl) ⟨rfl, rfl⟩ (fun r2 h2 hv2 => ?_)
  obtain ⟨rfl, hJ2⟩ := hv2
  exact l_eq Cx (l_d rfl) rfl (fin h2 hJ2)
set_option maxRecDepth 100000 in
theorem l_case_4 {h : St} {ii : Int32} (Cx : l_Cx p s m c D b cI cS sA Ln xs cells slots) (hJ : J h) (j : Nat) (hi : ii = nI j) (hj : j + 5 < Ln) (fin : ∀ h', J h' → LW p l e s m below meth c D b cI cS sA cells slots Z 813 ii [] h') : LW p l e s m below meth c D b cI cS sA cells slots Z 320 ii [] h := by
  refine l_a (n := 0) Cx (l_d rfl) rfl 2 rfl ?_
  refine l_scr Cx j 1 hi (by omega) rfl (l_d rfl) (l_d rfl) (l_d rfl) (l_d rfl) (l_d rfl) ?_
  refine l_scr Cx j 2 hi (by omega) rfl (l_d rfl) (l_d rfl) (l_d rfl) (l_d rfl) (l_d rfl) ?_
  refine l_call (o := 0) (as := [.int (xs (j + 1)), .int (xs (j + 2))]) (rst := []) Cx (pair_turn hJ (xs (j + 1)) (xs (j + 2))) rfl rfl ⟨by decide, rfl⟩ (by decide) ⟨rfl, rfl⟩ (fun r1 h1 hv => ?_)
  obtain ⟨v, rfl, hM⟩ := hv
  refine l_a (n := 0) Cx (l_d rfl) rfl 1 rfl ?_
  refine l_scr Cx j 1 hi (by omega) rfl (l_d rfl) (l_d rfl) (l_d rfl) (l_d rfl) (l_d rfl) ?_
  refine l_scr Cx j 2 hi (by omega) rfl (l_d rfl) (l_d rfl) (l_d rfl) (l_d rfl) (l_d rfl) ?_
  refine l_call (o := 90) (as := [.int (xs (j + 1)), .int (xs (j + 2))]) (rst := [.int v]) Cx hM rfl rfl ⟨by decide, rfl⟩ (Nat.le_of_ble_eq_true rfl) ⟨rfl, rfl⟩ (fun r2 h2 hv2 => ?_)
  obtain ⟨rfl, hJ2⟩ := hv2
  exact l_eq Cx (l_d rfl) rfl (fin h2 hJ2)
set_option maxRecDepth 100000 in
theorem l_case_5 {h : St} {ii : Int32} (Cx : l_Cx p s m c D b cI cS sA Ln xs cells slots) (hJ : J h) (j : Nat) (hi : ii = nI j) (hj : j + 5 < Ln) (fin : ∀ h', J h' → LW p l e s m below meth c D b cI cS sA cells slots Z 813 ii [] h') : LW p l e s m below meth c D b cI cS sA cells slots Z 353 ii [] h := by
  refine l_a (n := 0) Cx (l_d rfl) rfl 2 rfl ?_
  refine l_scr Cx j 1 hi (by omega) rfl (l_d rfl) (l_d rfl) (l_d rfl) (l_d rfl) (l_d rfl) ?_
  refine l_call (o := 0) (as := [.int (xs (j + 1))]) (rst := []) Cx (pair_lift hJ (xs (j + 1))) rfl rfl ⟨by decide, rfl⟩ (by decide) ⟨rfl, rfl⟩ (fun r1 h1 hv => ?_)
  obtain ⟨v, rfl, hM⟩ := hv
  refine l_a (n := 0) Cx (l_d rfl) rfl 1 rfl ?_
  refine l_scr Cx j 1 hi (by omega) rfl (l_d rfl) (l_d rfl) (l_d rfl) (l_d rfl) (l_d rfl) ?_
  refine l_call (o := 90) (as := [.int (xs (j + 1))]) (rst := [.int v]) Cx hM rfl rfl ⟨by decide, rfl⟩ (Nat.le_of_ble_eq_true rfl) ⟨rfl, rfl⟩ (fun r2 h2 hv2 => ?_)
  obtain ⟨rfl, hJ2⟩ := hv2
  exact l_eq Cx (l_d rfl) rfl (fin h2 hJ2)
set_option maxRecDepth 100000 in
theorem l_case_6 {h : St} {ii : Int32} (Cx : l_Cx p s m c D b cI cS sA Ln xs cells slots) (hJ : J h) (j : Nat) (hi : ii = nI j) (hj : j + 5 < Ln) (fin : ∀ h', J h' → LW p l e s m below meth c D b cI cS sA cells slots Z 813 ii [] h') : LW p l e s m below meth c D b cI cS sA cells slots Z 376 ii [] h := by
  refine l_a (n := 0) Cx (l_d rfl) rfl 2 rfl ?_
  refine l_scr Cx j 1 hi (by omega) rfl (l_d rfl) (l_d rfl) (l_d rfl) (l_d rfl) (l_d rfl) ?_
  refine l_call (o := 0) (as := [.int (xs (j + 1))]) (rst := []) Cx (pair_lower hJ (xs (j + 1))) rfl rfl ⟨by decide, rfl⟩ (by decide) ⟨rfl, rfl⟩ (fun r1 h1 hv => ?_)
  obtain ⟨v, rfl, hM⟩ := hv
  refine l_a (n := 0) Cx (l_d rfl) rfl 1 rfl ?_
  refine l_scr Cx j 1 hi (by omega) rfl (l_d rfl) (l_d rfl) (l_d rfl) (l_d rfl) (l_d rfl) ?_
  refine l_call (o := 90) (as := [.int (xs (j + 1))]) (rst := [.int v]) Cx hM rfl rfl ⟨by decide, rfl⟩ (Nat.le_of_ble_eq_true rfl) ⟨rfl, rfl⟩ (fun r2 h2 hv2 => ?_)
  obtain ⟨rfl, hJ2⟩ := hv2
  exact l_eq Cx (l_d rfl) rfl (fin h2 hJ2)
set_option maxRecDepth 100000 in
theorem l_case_7 {h : St} {ii : Int32} (Cx : l_Cx p s m c D b cI cS sA Ln xs cells slots) (hJ : J h) (j : Nat) (hi : ii = nI j) (hj : j + 5 < Ln) (fin : ∀ h', J h' → LW p l e s m below meth c D b cI cS sA cells slots Z 813 ii [] h') : LW p l e s m below meth c D b cI cS sA cells slots Z 399 ii [] h := by
  refine l_a (n := 0) Cx (l_d rfl) rfl 2 rfl ?_
  refine l_scr Cx j 1 hi (by omega) rfl (l_d rfl) (l_d rfl) (l_d rfl) (l_d rfl) (l_d rfl) ?_
  refine l_call (o := 0) (as := [.int (xs (j + 1))]) (rst := []) Cx (pair_setLimit hJ (xs (j + 1))) rfl rfl ⟨by decide, rfl⟩ (by decide) ⟨rfl, rfl⟩ (fun r1 h1 hv => ?_)
  obtain ⟨v, rfl, hM⟩ := hv
  refine l_a (n := 0) Cx (l_d rfl) rfl 1 rfl ?_
  refine l_scr Cx j 1 hi (by omega) rfl (l_d rfl) (l_d rfl) (l_d rfl) (l_d rfl) (l_d rfl) ?_
  refine l_call (o := 90) (as := [.int (xs (j + 1))]) (rst := [.int v]) Cx hM rfl rfl ⟨by decide, rfl⟩ (Nat.le_of_ble_eq_true rfl) ⟨rfl, rfl⟩ (fun r2 h2 hv2 => ?_)
  obtain ⟨rfl, hJ2⟩ := hv2
  exact l_eq Cx (l_d rfl) rfl (fin h2 hJ2)
set_option maxRecDepth 100000 in
theorem l_case_8 {h : St} {ii : Int32} (Cx : l_Cx p s m c D b cI cS sA Ln xs cells slots) (hJ : J h) (j : Nat) (hi : ii = nI j) (hj : j + 5 < Ln) (fin : ∀ h', J h' → LW p l e s m below meth c D b cI cS sA cells slots Z 813 ii [] h') : LW p l e s m below meth c D b cI cS sA cells slots Z 422 ii [] h := by
  refine l_a (n := 0) Cx (l_d rfl) rfl 2 rfl ?_
  refine l_scr Cx j 1 hi (by omega) rfl (l_d rfl) (l_d rfl) (l_d rfl) (l_d rfl) (l_d rfl) ?_
  refine l_scr Cx j 2 hi (by omega) rfl (l_d rfl) (l_d rfl) (l_d rfl) (l_d rfl) (l_d rfl) ?_
  refine l_call (o := 0) (as := [.int (xs (j + 1)), .int (xs (j + 2))]) (rst := []) Cx (pair_setRule hJ (xs (j + 1)) (xs (j + 2))) rfl rfl ⟨by decide, rfl⟩ (by decide) ⟨rfl, rfl⟩ (fun r1 h1 hv => ?_)
  obtain ⟨v, rfl, hM⟩ := hv
  refine l_a (n := 0) Cx (l_d rfl) rfl 1 rfl ?_
  refine l_scr Cx j 1 hi (by omega) rfl (l_d rfl) (l_d rfl) (l_d rfl) (l_d rfl) (l_d rfl) ?_
  refine l_scr Cx j 2 hi (by omega) rfl (l_d rfl) (l_d rfl) (l_d rfl) (l_d rfl) (l_d rfl) ?_
  refine l_call (o := 90) (as := [.int (xs (j + 1)), .int (xs (j + 2))]) (rst := [.int v]) Cx hM rfl rfl ⟨by decide, rfl⟩ (Nat.le_of_ble_eq_true rfl) ⟨rfl, rfl⟩ (fun r2 h2 hv2 => ?_)
  obtain ⟨rfl, hJ2⟩ := hv2
  exact l_eq Cx (l_d rfl) rfl (fin h2 hJ2)
set_option maxRecDepth 100000 in
theorem l_case_9 {h : St} {ii : Int32} (Cx : l_Cx p s m c D b cI cS sA Ln xs cells slots) (hJ : J h) (j : Nat) (hi : ii = nI j) (hj : j + 5 < Ln) (fin : ∀ h', J h' → LW p l e s m below meth c D b cI cS sA cells slots Z 813 ii [] h') : LW p l e s m below meth c D b cI cS sA cells slots Z 455 ii [] h := by
  refine l_a (n := 0) Cx (l_d rfl) rfl 2 rfl ?_
  refine l_call (o := 0) (as := []) (rst := []) Cx (pair_frame hJ) rfl rfl ⟨by decide, rfl⟩ (by decide) ⟨rfl, rfl⟩ (fun r1 h1 hv => ?_)
  obtain ⟨v, rfl, hM⟩ := hv
  refine l_a (n := 0) Cx (l_d rfl) rfl 1 rfl ?_
  refine l_call (o := 90) (as := []) (rst := [.int v]) Cx hM rfl rfl ⟨by decide, rfl⟩ (Nat.le_of_ble_eq_true rfl) ⟨rfl, rfl⟩ (fun r2 h2 hv2 => ?_)
  obtain ⟨rfl, hJ2⟩ := hv2
  exact l_eq Cx (l_d rfl) rfl (fin h2 hJ2)
set_option maxRecDepth 100000 in
theorem l_case_10 {h : St} {ii : Int32} (Cx : l_Cx p s m c D b cI cS sA Ln xs cells slots) (hJ : J h) (j : Nat) (hi : ii = nI j) (hj : j + 5 < Ln) (fin : ∀ h', J h' → LW p l e s m below meth c D b cI cS sA cells slots Z 813 ii [] h') : LW p l e s m below meth c D b cI cS sA cells slots Z 468 ii [] h := by
  refine l_a (n := 0) Cx (l_d rfl) rfl 2 rfl ?_
  refine l_call (o := 0) (as := []) (rst := []) Cx (pair_undo hJ) rfl rfl ⟨by decide, rfl⟩ (by decide) ⟨rfl, rfl⟩ (fun r1 h1 hv => ?_)
  obtain ⟨v, rfl, hM⟩ := hv
  refine l_a (n := 0) Cx (l_d rfl) rfl 1 rfl ?_
  refine l_call (o := 90) (as := []) (rst := [.int v]) Cx hM rfl rfl ⟨by decide, rfl⟩ (Nat.le_of_ble_eq_true rfl) ⟨rfl, rfl⟩ (fun r2 h2 hv2 => ?_)
  obtain ⟨rfl, hJ2⟩ := hv2
  exact l_eq Cx (l_d rfl) rfl (fin h2 hJ2)
set_option maxRecDepth 100000 in
theorem l_case_11 {h : St} {ii : Int32} (Cx : l_Cx p s m c D b cI cS sA Ln xs cells slots) (hJ : J h) (j : Nat) (hi : ii = nI j) (hj : j + 5 < Ln) (fin : ∀ h', J h' → LW p l e s m below meth c D b cI cS sA cells slots Z 813 ii [] h') : LW p l e s m below meth c D b cI cS sA cells slots Z 481 ii [] h := by
  refine l_a (n := 0) Cx (l_d rfl) rfl 2 rfl ?_
  refine l_scr Cx j 1 hi (by omega) rfl (l_d rfl) (l_d rfl) (l_d rfl) (l_d rfl) (l_d rfl) ?_
  refine l_call (o := 0) (as := [.int (xs (j + 1))]) (rst := []) Cx (pair_append hJ (xs (j + 1))) rfl rfl ⟨by decide, rfl⟩ (by decide) ⟨rfl, rfl⟩ (fun r1 h1 hv => ?_)
  obtain ⟨v, rfl, hM⟩ := hv
  refine l_a (n := 0) Cx (l_d rfl) rfl 1 rfl ?_
  refine l_scr Cx j 1 hi (by omega) rfl (l_d rfl) (l_d rfl) (l_d rfl) (l_d rfl) (l_d rfl) ?_
  refine l_call (o := 90) (as := [.int (xs (j + 1))]) (rst := [.int v]) Cx hM rfl rfl ⟨by decide, rfl⟩ (Nat.le_of_ble_eq_true rfl) ⟨rfl, rfl⟩ (fun r2 h2 hv2 => ?_)
  obtain ⟨rfl, hJ2⟩ := hv2
  exact l_eq Cx (l_d rfl) rfl (fin h2 hJ2)
set_option maxRecDepth 100000 in
theorem l_case_12 {h : St} {ii : Int32} (Cx : l_Cx p s m c D b cI cS sA Ln xs cells slots) (hJ : J h) (j : Nat) (hi : ii = nI j) (hj : j + 5 < Ln) (fin : ∀ h', J h' → LW p l e s m below meth c D b cI cS sA cells slots Z 813 ii [] h') : LW p l e s m below meth c D b cI cS sA cells slots Z 504 ii [] h := by
  refine l_a (n := 0) Cx (l_d rfl) rfl 2 rfl ?_
  refine l_call (o := 0) (as := []) (rst := []) Cx (pair_clearText hJ) rfl rfl ⟨by decide, rfl⟩ (by decide) ⟨rfl, rfl⟩ (fun r1 h1 hv => ?_)
  obtain ⟨v, rfl, hM⟩ := hv
  refine l_a (n := 0) Cx (l_d rfl) rfl 1 rfl ?_
  refine l_call (o := 90) (as := []) (rst := [.int v]) Cx hM rfl rfl ⟨by decide, rfl⟩ (Nat.le_of_ble_eq_true rfl) ⟨rfl, rfl⟩ (fun r2 h2 hv2 => ?_)
  obtain ⟨rfl, hJ2⟩ := hv2
  exact l_eq Cx (l_d rfl) rfl (fin h2 hJ2)
set_option maxRecDepth 100000 in
theorem l_case_13 {h : St} {ii : Int32} (Cx : l_Cx p s m c D b cI cS sA Ln xs cells slots) (hJ : J h) (j : Nat) (hi : ii = nI j) (hj : j + 5 < Ln) (fin : ∀ h', J h' → LW p l e s m below meth c D b cI cS sA cells slots Z 813 ii [] h') : LW p l e s m below meth c D b cI cS sA cells slots Z 517 ii [] h := by
  refine l_a (n := 0) Cx (l_d rfl) rfl 2 rfl ?_
  refine l_call (o := 0) (as := []) (rst := []) Cx (pair_run hJ) rfl rfl ⟨by decide, rfl⟩ (by decide) ⟨rfl, rfl⟩ (fun r1 h1 hv => ?_)
  obtain ⟨v, rfl, hM⟩ := hv
  refine l_a (n := 0) Cx (l_d rfl) rfl 1 rfl ?_
  refine l_call (o := 90) (as := []) (rst := [.int v]) Cx hM rfl rfl ⟨by decide, rfl⟩ (Nat.le_of_ble_eq_true rfl) ⟨rfl, rfl⟩ (fun r2 h2 hv2 => ?_)
  obtain ⟨rfl, hJ2⟩ := hv2
  exact l_eq Cx (l_d rfl) rfl (fin h2 hJ2)
set_option maxRecDepth 100000 in
theorem l_case_14 {h : St} {ii : Int32} (Cx : l_Cx p s m c D b cI cS sA Ln xs cells slots) (hJ : J h) (j : Nat) (hi : ii = nI j) (hj : j + 5 < Ln) (fin : ∀ h', J h' → LW p l e s m below meth c D b cI cS sA cells slots Z 813 ii [] h') : LW p l e s m below meth c D b cI cS sA cells slots Z 530 ii [] h := by
  refine l_a (n := 0) Cx (l_d rfl) rfl 2 rfl ?_
  refine l_scr Cx j 1 hi (by omega) rfl (l_d rfl) (l_d rfl) (l_d rfl) (l_d rfl) (l_d rfl) ?_
  refine l_call (o := 0) (as := [.int (xs (j + 1))]) (rst := []) Cx (pair_failure hJ (xs (j + 1))) rfl rfl ⟨by decide, rfl⟩ (by decide) ⟨rfl, rfl⟩ (fun r1 h1 hv => ?_)
  obtain ⟨v, rfl, hM⟩ := hv
  refine l_a (n := 0) Cx (l_d rfl) rfl 1 rfl ?_
  refine l_scr Cx j 1 hi (by omega) rfl (l_d rfl) (l_d rfl) (l_d rfl) (l_d rfl) (l_d rfl) ?_
  refine l_call (o := 90) (as := [.int (xs (j + 1))]) (rst := [.int v]) Cx hM rfl rfl ⟨by decide, rfl⟩ (Nat.le_of_ble_eq_true rfl) ⟨rfl, rfl⟩ (fun r2 h2 hv2 => ?_)
  obtain ⟨rfl, hJ2⟩ := hv2
  exact l_eq Cx (l_d rfl) rfl (fin h2 hJ2)
set_option maxRecDepth 100000 in
theorem l_case_15 {h : St} {ii : Int32} (Cx : l_Cx p s m c D b cI cS sA Ln xs cells slots) (hJ : J h) (j : Nat) (hi : ii = nI j) (hj : j + 5 < Ln) (fin : ∀ h', J h' → LW p l e s m below meth c D b cI cS sA cells slots Z 813 ii [] h') : LW p l e s m below meth c D b cI cS sA cells slots Z 553 ii [] h := by
  refine l_a (n := 0) Cx (l_d rfl) rfl 2 rfl ?_
  refine l_scr Cx j 1 hi (by omega) rfl (l_d rfl) (l_d rfl) (l_d rfl) (l_d rfl) (l_d rfl) ?_
  refine l_call (o := 0) (as := [.int (xs (j + 1))]) (rst := []) Cx (pair_count hJ (xs (j + 1))) rfl rfl ⟨by decide, rfl⟩ (by decide) ⟨rfl, rfl⟩ (fun r1 h1 hv => ?_)
  obtain ⟨v, rfl, hM⟩ := hv
  refine l_a (n := 0) Cx (l_d rfl) rfl 1 rfl ?_
  refine l_scr Cx j 1 hi (by omega) rfl (l_d rfl) (l_d rfl) (l_d rfl) (l_d rfl) (l_d rfl) ?_
  refine l_call (o := 90) (as := [.int (xs (j + 1))]) (rst := [.int v]) Cx hM rfl rfl ⟨by decide, rfl⟩ (Nat.le_of_ble_eq_true rfl) ⟨rfl, rfl⟩ (fun r2 h2 hv2 => ?_)
  obtain ⟨rfl, hJ2⟩ := hv2
  exact l_eq Cx (l_d rfl) rfl (fin h2 hJ2)
set_option maxRecDepth 100000 in
theorem l_case_16 {h : St} {ii : Int32} (Cx : l_Cx p s m c D b cI cS sA Ln xs cells slots) (hJ : J h) (j : Nat) (hi : ii = nI j) (hj : j + 5 < Ln) (fin : ∀ h', J h' → LW p l e s m below meth c D b cI cS sA cells slots Z 813 ii [] h') : LW p l e s m below meth c D b cI cS sA cells slots Z 576 ii [] h := by
  refine l_a (n := 0) Cx (l_d rfl) rfl 2 rfl ?_
  refine l_scr Cx j 1 hi (by omega) rfl (l_d rfl) (l_d rfl) (l_d rfl) (l_d rfl) (l_d rfl) ?_
  refine l_scr Cx j 2 hi (by omega) rfl (l_d rfl) (l_d rfl) (l_d rfl) (l_d rfl) (l_d rfl) ?_
  refine l_call (o := 0) (as := [.int (xs (j + 1)), .int (xs (j + 2))]) (rst := []) Cx (pair_puppet hJ (xs (j + 1)) (xs (j + 2))) rfl rfl ⟨by decide, rfl⟩ (by decide) ⟨rfl, rfl⟩ (fun r1 h1 hv => ?_)
  obtain ⟨v, rfl, hM⟩ := hv
  refine l_a (n := 0) Cx (l_d rfl) rfl 1 rfl ?_
  refine l_scr Cx j 1 hi (by omega) rfl (l_d rfl) (l_d rfl) (l_d rfl) (l_d rfl) (l_d rfl) ?_
  refine l_scr Cx j 2 hi (by omega) rfl (l_d rfl) (l_d rfl) (l_d rfl) (l_d rfl) (l_d rfl) ?_
  refine l_call (o := 90) (as := [.int (xs (j + 1)), .int (xs (j + 2))]) (rst := [.int v]) Cx hM rfl rfl ⟨by decide, rfl⟩ (Nat.le_of_ble_eq_true rfl) ⟨rfl, rfl⟩ (fun r2 h2 hv2 => ?_)
  obtain ⟨rfl, hJ2⟩ := hv2
  exact l_eq Cx (l_d rfl) rfl (fin h2 hJ2)
set_option maxRecDepth 100000 in
theorem l_case_17 {h : St} {ii : Int32} (Cx : l_Cx p s m c D b cI cS sA Ln xs cells slots) (hJ : J h) (j : Nat) (hi : ii = nI j) (hj : j + 5 < Ln) (fin : ∀ h', J h' → LW p l e s m below meth c D b cI cS sA cells slots Z 813 ii [] h') : LW p l e s m below meth c D b cI cS sA cells slots Z 609 ii [] h := by
  refine l_a (n := 0) Cx (l_d rfl) rfl 2 rfl ?_
  refine l_scr Cx j 1 hi (by omega) rfl (l_d rfl) (l_d rfl) (l_d rfl) (l_d rfl) (l_d rfl) ?_
  refine l_scr Cx j 2 hi (by omega) rfl (l_d rfl) (l_d rfl) (l_d rfl) (l_d rfl) (l_d rfl) ?_
  refine l_call (o := 0) (as := [.int (xs (j + 1)), .int (xs (j + 2))]) (rst := []) Cx (pair_line hJ (xs (j + 1)) (xs (j + 2))) rfl rfl ⟨by decide, rfl⟩ (by decide) ⟨rfl, rfl⟩ (fun r1 h1 hv => ?_)
  obtain ⟨v, rfl, hM⟩ := hv
  refine l_a (n := 0) Cx (l_d rfl) rfl 1 rfl ?_
  refine l_scr Cx j 1 hi (by omega) rfl (l_d rfl) (l_d rfl) (l_d rfl) (l_d rfl) (l_d rfl) ?_
  refine l_scr Cx j 2 hi (by omega) rfl (l_d rfl) (l_d rfl) (l_d rfl) (l_d rfl) (l_d rfl) ?_
  refine l_call (o := 90) (as := [.int (xs (j + 1)), .int (xs (j + 2))]) (rst := [.int v]) Cx hM rfl rfl ⟨by decide, rfl⟩ (Nat.le_of_ble_eq_true rfl) ⟨rfl, rfl⟩ (fun r2 h2 hv2 => ?_)
  obtain ⟨rfl, hJ2⟩ := hv2
  exact l_eq Cx (l_d rfl) rfl (fin h2 hJ2)
set_option maxRecDepth 100000 in
theorem l_case_18 {h : St} {ii : Int32} (Cx : l_Cx p s m c D b cI cS sA Ln xs cells slots) (hJ : J h) (j : Nat) (hi : ii = nI j) (hj : j + 5 < Ln) (fin : ∀ h', J h' → LW p l e s m below meth c D b cI cS sA cells slots Z 813 ii [] h') : LW p l e s m below meth c D b cI cS sA cells slots Z 642 ii [] h := by
  refine l_a (n := 0) Cx (l_d rfl) rfl 2 rfl ?_
  refine l_scr Cx j 1 hi (by omega) rfl (l_d rfl) (l_d rfl) (l_d rfl) (l_d rfl) (l_d rfl) ?_
  refine l_scr Cx j 2 hi (by omega) rfl (l_d rfl) (l_d rfl) (l_d rfl) (l_d rfl) (l_d rfl) ?_
  refine l_call (o := 0) (as := [.int (xs (j + 1)), .int (xs (j + 2))]) (rst := []) Cx (pair_shown hJ (xs (j + 1)) (xs (j + 2))) rfl rfl ⟨by decide, rfl⟩ (by decide) ⟨rfl, rfl⟩ (fun r1 h1 hv => ?_)
  obtain ⟨v, rfl, hM⟩ := hv
  refine l_a (n := 0) Cx (l_d rfl) rfl 1 rfl ?_
  refine l_scr Cx j 1 hi (by omega) rfl (l_d rfl) (l_d rfl) (l_d rfl) (l_d rfl) (l_d rfl) ?_
  refine l_scr Cx j 2 hi (by omega) rfl (l_d rfl) (l_d rfl) (l_d rfl) (l_d rfl) (l_d rfl) ?_
  refine l_call (o := 90) (as := [.int (xs (j + 1)), .int (xs (j + 2))]) (rst := [.int v]) Cx hM rfl rfl ⟨by decide, rfl⟩ (Nat.le_of_ble_eq_true rfl) ⟨rfl, rfl⟩ (fun r2 h2 hv2 => ?_)
  obtain ⟨rfl, hJ2⟩ := hv2
  exact l_eq Cx (l_d rfl) rfl (fin h2 hJ2)
set_option maxRecDepth 100000 in
theorem l_case_19 {h : St} {ii : Int32} (Cx : l_Cx p s m c D b cI cS sA Ln xs cells slots) (hJ : J h) (j : Nat) (hi : ii = nI j) (hj : j + 5 < Ln) (fin : ∀ h', J h' → LW p l e s m below meth c D b cI cS sA cells slots Z 813 ii [] h') : LW p l e s m below meth c D b cI cS sA cells slots Z 675 ii [] h := by
  refine l_a (n := 0) Cx (l_d rfl) rfl 2 rfl ?_
  refine l_scr Cx j 1 hi (by omega) rfl (l_d rfl) (l_d rfl) (l_d rfl) (l_d rfl) (l_d rfl) ?_
  refine l_scr Cx j 2 hi (by omega) rfl (l_d rfl) (l_d rfl) (l_d rfl) (l_d rfl) (l_d rfl) ?_
  refine l_call (o := 0) (as := [.int (xs (j + 1)), .int (xs (j + 2))]) (rst := []) Cx (pair_dot hJ (xs (j + 1)) (xs (j + 2))) rfl rfl ⟨by decide, rfl⟩ (by decide) ⟨rfl, rfl⟩ (fun r1 h1 hv => ?_)
  obtain ⟨v, rfl, hM⟩ := hv
  refine l_a (n := 0) Cx (l_d rfl) rfl 1 rfl ?_
  refine l_scr Cx j 1 hi (by omega) rfl (l_d rfl) (l_d rfl) (l_d rfl) (l_d rfl) (l_d rfl) ?_
  refine l_scr Cx j 2 hi (by omega) rfl (l_d rfl) (l_d rfl) (l_d rfl) (l_d rfl) (l_d rfl) ?_
  refine l_call (o := 90) (as := [.int (xs (j + 1)), .int (xs (j + 2))]) (rst := [.int v]) Cx hM rfl rfl ⟨by decide, rfl⟩ (Nat.le_of_ble_eq_true rfl) ⟨rfl, rfl⟩ (fun r2 h2 hv2 => ?_)
  obtain ⟨rfl, hJ2⟩ := hv2
  exact l_eq Cx (l_d rfl) rfl (fin h2 hJ2)
set_option maxRecDepth 100000 in
theorem l_case_20 {h : St} {ii : Int32} (Cx : l_Cx p s m c D b cI cS sA Ln xs cells slots) (hJ : J h) (j : Nat) (hi : ii = nI j) (hj : j + 5 < Ln) (fin : ∀ h', J h' → LW p l e s m below meth c D b cI cS sA cells slots Z 813 ii [] h') : LW p l e s m below meth c D b cI cS sA cells slots Z 708 ii [] h := by
  refine l_a (n := 0) Cx (l_d rfl) rfl 2 rfl ?_
  refine l_scr Cx j 1 hi (by omega) rfl (l_d rfl) (l_d rfl) (l_d rfl) (l_d rfl) (l_d rfl) ?_
  refine l_call (o := 0) (as := [.int (xs (j + 1))]) (rst := []) Cx (pair_clash hJ (xs (j + 1))) rfl rfl ⟨by decide, rfl⟩ (by decide) ⟨rfl, rfl⟩ (fun r1 h1 hv => ?_)
  obtain ⟨v, rfl, hM⟩ := hv
  refine l_a (n := 0) Cx (l_d rfl) rfl 1 rfl ?_
  refine l_scr Cx j 1 hi (by omega) rfl (l_d rfl) (l_d rfl) (l_d rfl) (l_d rfl) (l_d rfl) ?_
  refine l_call (o := 90) (as := [.int (xs (j + 1))]) (rst := [.int v]) Cx hM rfl rfl ⟨by decide, rfl⟩ (Nat.le_of_ble_eq_true rfl) ⟨rfl, rfl⟩ (fun r2 h2 hv2 => ?_)
  obtain ⟨rfl, hJ2⟩ := hv2
  exact l_eq Cx (l_d rfl) rfl (fin h2 hJ2)
set_option maxRecDepth 100000 in
theorem l_case_21 {h : St} {ii : Int32} (Cx : l_Cx p s m c D b cI cS sA Ln xs cells slots) (hJ : J h) (j : Nat) (hi : ii = nI j) (hj : j + 5 < Ln) (fin : ∀ h', J h' → LW p l e s m below meth c D b cI cS sA cells slots Z 813 ii [] h') : LW p l e s m below meth c D b cI cS sA cells slots Z 731 ii [] h := by
  refine l_a (n := 0) Cx (l_d rfl) rfl 2 rfl ?_
  refine l_scr Cx j 1 hi (by omega) rfl (l_d rfl) (l_d rfl) (l_d rfl) (l_d rfl) (l_d rfl) ?_
  refine l_scr Cx j 2 hi (by omega) rfl (l_d rfl) (l_d rfl) (l_d rfl) (l_d rfl) (l_d rfl) ?_
  refine l_call (o := 0) (as := [.int (xs (j + 1)), .int (xs (j + 2))]) (rst := []) Cx (pair_hiddenIn hJ (xs (j + 1)) (xs (j + 2))) rfl rfl ⟨by decide, rfl⟩ (by decide) ⟨rfl, rfl⟩ (fun r1 h1 hv => ?_)
  obtain ⟨v, rfl, hM⟩ := hv
  refine l_a (n := 0) Cx (l_d rfl) rfl 1 rfl ?_
  refine l_scr Cx j 1 hi (by omega) rfl (l_d rfl) (l_d rfl) (l_d rfl) (l_d rfl) (l_d rfl) ?_
  refine l_scr Cx j 2 hi (by omega) rfl (l_d rfl) (l_d rfl) (l_d rfl) (l_d rfl) (l_d rfl) ?_
  refine l_call (o := 90) (as := [.int (xs (j + 1)), .int (xs (j + 2))]) (rst := [.int v]) Cx hM rfl rfl ⟨by decide, rfl⟩ (Nat.le_of_ble_eq_true rfl) ⟨rfl, rfl⟩ (fun r2 h2 hv2 => ?_)
  obtain ⟨rfl, hJ2⟩ := hv2
  exact l_eq Cx (l_d rfl) rfl (fin h2 hJ2)
set_option maxRecDepth 100000 in
theorem l_case_22 {h : St} {ii : Int32} (Cx : l_Cx p s m c D b cI cS sA Ln xs cells slots) (hJ : J h) (j : Nat) (hi : ii = nI j) (hj : j + 5 < Ln) (fin : ∀ h', J h' → LW p l e s m below meth c D b cI cS sA cells slots Z 813 ii [] h') : LW p l e s m below meth c D b cI cS sA cells slots Z 764 ii [] h := by
  refine l_a (n := 0) Cx (l_d rfl) rfl 2 rfl ?_
  refine l_call (o := 0) (as := []) (rst := []) Cx (pair_allShownIn hJ) rfl rfl ⟨by decide, rfl⟩ (by decide) ⟨rfl, rfl⟩ (fun r1 h1 hv => ?_)
  obtain ⟨v, rfl, hM⟩ := hv
  refine l_a (n := 0) Cx (l_d rfl) rfl 1 rfl ?_
  refine l_call (o := 90) (as := []) (rst := [.int v]) Cx hM rfl rfl ⟨by decide, rfl⟩ (Nat.le_of_ble_eq_true rfl) ⟨rfl, rfl⟩ (fun r2 h2 hv2 => ?_)
  obtain ⟨rfl, hJ2⟩ := hv2
  exact l_eq Cx (l_d rfl) rfl (fin h2 hJ2)
set_option maxRecDepth 100000 in
theorem l_case_23 {h : St} {ii : Int32} (Cx : l_Cx p s m c D b cI cS sA Ln xs cells slots) (hJ : J h) (j : Nat) (hi : ii = nI j) (hj : j + 5 < Ln) (fin : ∀ h', J h' → LW p l e s m below meth c D b cI cS sA cells slots Z 813 ii [] h') : LW p l e s m below meth c D b cI cS sA cells slots Z 777 ii [] h := by
  refine l_a (n := 0) Cx (l_d rfl) rfl 2 rfl ?_
  refine l_scr Cx j 1 hi (by omega) rfl (l_d rfl) (l_d rfl) (l_d rfl) (l_d rfl) (l_d rfl) ?_
  refine l_call (o := 0) (as := [.int (xs (j + 1))]) (rst := []) Cx (pair_bestStep hJ (xs (j + 1))) rfl rfl ⟨by decide, rfl⟩ (by decide) ⟨rfl, rfl⟩ (fun r1 h1 hv => ?_)
  obtain ⟨v, rfl, hM⟩ := hv
  refine l_a (n := 0) Cx (l_d rfl) rfl 1 rfl ?_
  refine l_scr Cx j 1 hi (by omega) rfl (l_d rfl) (l_d rfl) (l_d rfl) (l_d rfl) (l_d rfl) ?_
  refine l_call (o := 90) (as := [.int (xs (j + 1))]) (rst := [.int v]) Cx hM rfl rfl ⟨by decide, rfl⟩ (Nat.le_of_ble_eq_true rfl) ⟨rfl, rfl⟩ (fun r2 h2 hv2 => ?_)
  obtain ⟨rfl, hJ2⟩ := hv2
  exact l_eq Cx (l_d rfl) rfl (fin h2 hJ2)
set_option maxRecDepth 100000 in
theorem l_case_24 {h : St} {ii : Int32} (Cx : l_Cx p s m c D b cI cS sA Ln xs cells slots) (hJ : J h) (j : Nat) (hi : ii = nI j) (hj : j + 5 < Ln) (fin : ∀ h', J h' → LW p l e s m below meth c D b cI cS sA cells slots Z 813 ii [] h') : LW p l e s m below meth c D b cI cS sA cells slots Z 800 ii [] h := by
  refine l_a (n := 0) Cx (l_d rfl) rfl 2 rfl ?_
  refine l_call (o := 0) (as := []) (rst := []) Cx (pair_worstLine hJ) rfl rfl ⟨by decide, rfl⟩ (by decide) ⟨rfl, rfl⟩ (fun r1 h1 hv => ?_)
  obtain ⟨v, rfl, hM⟩ := hv
  refine l_a (n := 0) Cx (l_d rfl) rfl 1 rfl ?_
  refine l_call (o := 90) (as := []) (rst := [.int v]) Cx hM rfl rfl ⟨by decide, rfl⟩ (Nat.le_of_ble_eq_true rfl) ⟨rfl, rfl⟩ (fun r2 h2 hv2 => ?_)
  obtain ⟨rfl, hJ2⟩ := hv2
  exact l_eq Cx (l_d rfl) rfl (fin h2 hJ2)
end LAWC
