/-! the law: from its entry -/
theorem e_inst_all : (List.range 13).all (fun c => decide (Cond.instantiable (e_ct c).1 (e_ct c).2.2.1 ∈ e_WS)) = true := by decide +kernel
theorem e_arr_all : (Cond.arrayClass .int) ∈ e_WS ∧ (Cond.arrayOver (.object "PuppetTurns$Scene")) ∈ e_WS := by decide +kernel
theorem k_known {s : State} {args : Array Value} (hts : ∀ w ∈ e_WS, w.before args s = true) : ∃ (D : va_G) (cI cS : ClassId), va_K D e_cls (e_tys cI cS) s := by
  have hkn : ∀ c : Nat, ∃ (q : ClassId × (Nat → Nat)), c < 13 → u_Kn s (e_ct c).1 (e_ct c).2.1 (e_ct c).2.2.1 q.1 q.2 := by
    intro c
    by_cases hc : c < 13
    · obtain ⟨cC, iS, h⟩ := u_known hts (e_uws hc) (hts _ (of_decide_eq_true (List.all_eq_true.mp e_inst_all c (List.mem_range.mpr hc))))
      exact ⟨(cC, iS), fun _ => h⟩
    · exact ⟨(0, fun _ => 0), fun z => absurd z hc⟩
  obtain ⟨cI, kI, compI, i1, i2, i3⟩ := Cond.arrayClass_spec (hts _ e_arr_all.1)
  obtain ⟨compS, cS, kS, s1, s2, s3, s4, s5⟩ := Cond.arrayOver_spec (hts _ e_arr_all.2)
  refine ⟨(fun c => (Classical.choose (hkn c)).1, fun c => (Classical.choose (hkn c)).2), cI, cS, fun c q hq => ?_, fun k q hk => ?_⟩
  · have hc : c < 13 := by
      have := (List.getElem?_eq_some_iff.mp hq).1
      simpa [e_cls] using this
    have e1 := (e_cls_at hc).symm.trans hq
    cases e1
    exact Classical.choose_spec (hkn c) hc
  · match k, hk with
    | 0, hk => cases hk; exact ⟨fun N z => ⟨(fun k h => by cases h), kI, i2, compI, i3⟩, i1⟩
    | 1, hk => cases hk; exact ⟨fun N z => ⟨(fun k h => by cases h), kS, s3, compS, s4⟩, kS, compS, s3, s4, s1, s5⟩
    | k + 2, hk => simp [e_tys] at hk
section LAWS
variable {p : Program} {l : Launch} {e : Env} {s : State} {m : MethodId} {below : List Frame} {meth : Method} {c : Code} {D : va_G} {cI cS : ClassId} {sA Ln : Nat} {xs : Nat → Int32} {Z : State → Prop}
set_option maxRecDepth 100000 in
theorem l_start (hx : p.tables.exec = Jvm.exec) (hb : c.code = mBy 205) (hml : c.maxLocals = 4) (hown : s.vm.findClass (mNm 205).cls = some m.cls) (hts : ∀ w ∈ e_WS, w.before #[.ref sA] s = true) (hK : va_K D e_cls (e_tys cI cS) s) (hX : va_X sA Ln xs s s.heap) (hsA : sA < s.heap.size) (hLn : Ln ≤ 3072)
    (fin : ∀ (h : St) (ii : Int32), LW p l e s m below meth c D s.heap.size cI cS sA 109 23905 Z 819 ii [] h) : W p l e room_1 s m #[.ref sA] below meth c s.heap [] 0 0 Z (entryFrame m ([Value.ref sA] : List Value).toArray 4) := by
  have Cx : p_Cx p s m c D cI cS sA := ⟨hx, hb, hml, hown, hts, hK⟩
  have Lx : l_Cx p s m c D s.heap.size cI cS sA Ln xs 109 23905 := ⟨hx, hb, hml, hown, hts, hK, hX, hsA, rfl, hLn, by omega, by omega⟩
  have key : PW p l e s m below meth c D s.heap.size cI cS sA Z 0 0 0 [(0, .ref sA)] [] (0, fun _ _ => none, fun _ _ => 0, fun _ _ => 0) := by
    refine p_new Cx (x := 7) (cc := 11) rfl rfl (by decide) (by decide) ?_
    intro H locs ls hS hlo hl
    refine lv_dup hx hb (l_d (pc := 3) rfl) rfl ?_
    refine p_init (o := 0) (r1 := 91) (rst := [.ref 0]) Cx (k_P_0 ⟨rfl, rfl⟩) (pc := 4) rfl rfl rfl (by decide) (by decide) (by decide) ?_ H locs ls hS hlo hl
    intro H locs ls hS hlo hl
    refine lv_astore_n hx hb (l_d (pc := 7) rfl) rfl hl (by decide) rfl (fun ls hl => ?_)
    refine p_new Cx (x := 10) (cc := 12) (pc := 8) rfl rfl (by decide) (by decide) ?_ H locs ls hS hlo hl
    intro H locs ls hS hlo hl
    refine lv_dup hx hb (l_d (pc := 11) rfl) rfl ?_
    refine p_init (o := 90) (r1 := 122) (rst := [.ref 90]) Cx (k_M ⟨rfl, rfl⟩) (pc := 12) rfl rfl rfl (by decide) (by decide) (by decide) ?_ H locs ls hS hlo hl
    intro H locs ls hS hlo hl
    refine lv_astore_n hx hb (l_d (pc := 15) rfl) rfl hl (by decide) rfl (fun ls hl => ?_)
    refine lv_iconst hx hb (v := 0) (l_d (pc := 16) rfl) rfl ?_
    refine lv_istore_n hx hb (l_d (pc := 17) rfl) rfl hl (by decide) rfl (fun ls hl => ?_)
    exact l_loop Lx fin 512 0 h9 J9 (by omega) (by omega) H locs ls (k_end hS) hlo hl
  have := key s.heap [] _ ⟨rfl, fun _ _ => rfl, fun o ho => absurd ho (Nat.not_lt_zero _)⟩ (fun q hq => by cases hq) (lv_entry [.ref sA] (n := 4) (Nat.le_of_ble_eq_true rfl))
  rw [lg_entry_eq]
  exact this
end LAWS
