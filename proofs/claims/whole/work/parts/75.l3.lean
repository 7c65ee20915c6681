/-! the law: its loop -/
section LAWL
variable {p : Program} {l : Launch} {e : Env} {s : State} {m : MethodId} {below : List Frame} {meth : Method} {c : Code} {D : va_G} {b : Nat} {cI cS : ClassId} {sA Ln : Nat} {xs : Nat → Int32} {cells slots : Nat} {Z : State → Prop}
set_option maxRecDepth 100000 in
theorem l_table {pc : Nat} {dflt lo hi : Int} {offs : Array Int} {len r1 r2 : Nat} {nest : Bool} {hh : List Nat} {sw : List (Int32 × Nat)} (ho : e_op 205 pc = some (.tableswitch dflt lo hi offs, len, r1, r2, nest, hh, sw)) : (pc : Int) + dflt = (r1 : Int) ∧ e_swT pc lo hi offs sw = true := by
  obtain ⟨hok, -⟩ := okm_at ok_L_law ho
  simp only [e_okB, Bool.and_eq_true, decide_eq_true_eq] at hok
  exact ⟨by first | exact hok.2.1 | exact hok.2.2.1 | exact hok.2.1.1 | exact hok.2.1.2 | exact hok.2.2, by first | exact hok.2.2 | exact hok.2.2.2 | exact hok.2.1 | exact hok.2.2.1⟩
set_option maxRecDepth 100000 in
theorem l_next {h : St} {ii : Int32} (Cx : l_Cx p s m c D b cI cS sA Ln xs cells slots) (j : Nat) (hi : ii = nI j) (kk : LW p l e s m below meth c D b cI cS sA cells slots Z 18 (nI (j + 6)) [] h) : LW p l e s m below meth c D b cI cS sA cells slots Z 813 ii [] h := by
  intro H locs ls hS hlo hl
  refine lv_iinc (k := 0) (x := ii) (v := nI (j + 6)) Cx.1 Cx.2.1 (l_d (pc := 813) rfl) hl rfl ?_ (by decide) rfl (fun ls' hl' => ?_)
  · rw [hi]; exact iI_add (j : Int) (6 : Int)
  · exact lv_goto Cx.1 Cx.2.1 (l_d (pc := 816) rfl) rfl (kk H locs ls' hS hlo hl')
set_option maxRecDepth 100000 in
theorem l_loop (Cx : l_Cx p s m c D b cI cS sA Ln xs cells slots) (fin : ∀ (h : St) (ii : Int32), LW p l e s m below meth c D b cI cS sA cells slots Z 819 ii [] h) : ∀ (mm j : Nat) (h : St), J h → Ln ≤ j + 6 * mm → j ≤ 4000 → LW p l e s m below meth c D b cI cS sA cells slots Z 18 (nI j) [] h := by
  intro mm
  have hd : ∀ (j : Nat) (h : St), j ≤ 4000 → (j + 5 < Ln → LW p l e s m below meth c D b cI cS sA cells slots Z 27 (nI j) [] h) → LW p l e s m below meth c D b cI cS sA cells slots Z 18 (nI j) [] h := by
    intro j h hj4 kk H locs ls hS hlo hl
    obtain ⟨hx, hb, hml, hown, hts, hK, hX, hsA, hbs, hLn, -⟩ := id Cx
    refine lv_iload_n hx hb (l_d (pc := 18) rfl) rfl (lv_at hl 0 rfl) ?_
    refine lv_aload_n hx hb (l_d (pc := 19) rfl) rfl (lv_at hl 3 rfl) ?_
    refine va_slen (A := fun q => b ≤ q) hx hb hX (by omega) (by omega) (l_S hbs hS hlo) (l_d (pc := 20) rfl) ?_
    refine lv_bipush hx hb (v := 6) (l_d (pc := 21) rfl) rfl ?_
    refine lv_isub hx hb (l_d (pc := 23) rfl) ?_
    have e1 : Int32.ofNat Ln - 6 = iI ((Ln : Int) - 6) := iI_sub (Ln : Int) 6
    rw [e1]
    refine lv_icmp_gt hx hb (l_d (pc := 24) rfl) (tgt := 819) rfl (fun _ => fin h _ H locs ls hS hlo hl) (fun g => ?_)
    have g2 : ¬ ((Ln : Int) - 6 < j) := fun z => g ((iI_lt (a := (Ln : Int) - 6) (b := j) (by omega) (by omega)).mpr z)
    exact kk (by omega) H locs ls hS hlo hl
  induction mm with
  | zero => 
    intro j h hJ hm hj
    exact hd j h hj (fun z => by omega)
  | succ mm ih =>
    intro j h hJ hm hj4
    refine hd j h hj4 (fun hj => ?_)
    have nx : ∀ h', J h' → LW p l e s m below meth c D b cI cS sA cells slots Z 813 (nI j) [] h' := fun h' hJ' => l_next Cx j rfl (ih (j + 6) h' hJ' (by omega) (by have := Cx.2.2.2.2.2.2.2.2.2.1; omega))
    intro H locs ls hS hlo hl
    obtain ⟨hx, hb, hml, hown, hts, hK, hX, hsA, hbs, hLn, -⟩ := id Cx
    refine lv_aload_n hx hb (l_d (pc := 27) rfl) rfl (lv_at hl 3 rfl) ?_
    refine lv_iload_n hx hb (l_d (pc := 28) rfl) rfl (lv_at hl 0 rfl) ?_
    refine va_sld (A := fun q => b ≤ q) hx hb hX (by omega) (by omega) (l_S hbs hS hlo) (vp_in_nI (show j < Ln by omega) (by omega)) (l_d (pc := 29) rfl) ?_
    refine lv_bipush hx hb (v := 31) (l_d (pc := 30) rfl) rfl ?_
    refine lv_iand hx hb (l_d (pc := 32) rfl) ?_
    obtain ⟨t1, t2⟩ := l_table (pc := 33) rfl
    refine e_table_ok hx hb (l_d (pc := 33) rfl) t1 t2 ?_
    generalize xs (nI j).toNatClampNeg &&& 31 = x
    refine w_if (fun _ => l_case_0 Cx hJ j rfl hj nx H locs ls hS hlo hl) (fun _ => ?_)
    refine w_if (fun _ => l_case_1 Cx hJ j rfl hj nx H locs ls hS hlo hl) (fun _ => ?_)
    refine w_if (fun _ => l_case_2 Cx hJ j rfl hj nx H locs ls hS hlo hl) (fun _ => ?_)
    refine w_if (fun _ => l_case_3 Cx hJ j rfl hj nx H locs ls hS hlo hl) (fun _ => ?_)
    refine w_if (fun _ => l_case_4 Cx hJ j rfl hj nx H locs ls hS hlo hl) (fun _ => ?_)
    refine w_if (fun _ => l_case_5 Cx hJ j rfl hj nx H locs ls hS hlo hl) (fun _ => ?_)
    refine w_if (fun _ => l_case_6 Cx hJ j rfl hj nx H locs ls hS hlo hl) (fun _ => ?_)
    refine w_if (fun _ => l_case_7 Cx hJ j rfl hj nx H locs ls hS hlo hl) (fun _ => ?_)
    refine w_if (fun _ => l_case_8 Cx hJ j rfl hj nx H locs ls hS hlo hl) (fun _ => ?_)
    refine w_if (fun _ => l_case_9 Cx hJ j rfl hj nx H locs ls hS hlo hl) (fun _ => ?_)
    refine w_if (fun _ => l_case_10 Cx hJ j rfl hj nx H locs ls hS hlo hl) (fun _ => ?_)
    refine w_if (fun _ => l_case_11 Cx hJ j rfl hj nx H locs ls hS hlo hl) (fun _ => ?_)
    refine w_if (fun _ => l_case_12 Cx hJ j rfl hj nx H locs ls hS hlo hl) (fun _ => ?_)
    refine w_if (fun _ => l_case_13 Cx hJ j rfl hj nx H locs ls hS hlo hl) (fun _ => ?_)
    refine w_if (fun _ => l_case_14 Cx hJ j rfl hj nx H locs ls hS hlo hl) (fun _ => ?_)
    refine w_if (fun _ => l_case_15 Cx hJ j rfl hj nx H locs ls hS hlo hl) (fun _ => ?_)
    refine w_if (fun _ => l_case_16 Cx hJ j rfl hj nx H locs ls hS hlo hl) (fun _ => ?_)
    refine w_if (fun _ => l_case_17 Cx hJ j rfl hj nx H locs ls hS hlo hl) (fun _ => ?_)
    refine w_if (fun _ => l_case_18 Cx hJ j rfl hj nx H locs ls hS hlo hl) (fun _ => ?_)
    refine w_if (fun _ => l_case_19 Cx hJ j rfl hj nx H locs ls hS hlo hl) (fun _ => ?_)
    refine w_if (fun _ => l_case_20 Cx hJ j rfl hj nx H locs ls hS hlo hl) (fun _ => ?_)
    refine w_if (fun _ => l_case_21 Cx hJ j rfl hj nx H locs ls hS hlo hl) (fun _ => ?_)
    refine w_if (fun _ => l_case_22 Cx hJ j rfl hj nx H locs ls hS hlo hl) (fun _ => ?_)
    refine w_if (fun _ => l_case_23 Cx hJ j rfl hj nx H locs ls hS hlo hl) (fun _ => ?_)
    refine w_if (fun _ => l_case_24 Cx hJ j rfl hj nx H locs ls hS hlo hl) (fun _ => ?_)
    exact nx h hJ H locs ls hS hlo hl
end LAWL
