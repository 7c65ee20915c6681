/-! the law: its beginning, in which the objects are made -/
section LAWP
variable {p : Program} {l : Launch} {e : Env} {s : State} {m : MethodId} {below : List Frame} {meth : Method} {c : Code} {D : va_G} {b : Nat} {cI cS : ClassId} {sA Ln : Nat} {xs : Nat → Int32} {Z : State → Prop}
/-- what the prefix knows -/
def p_Cx (p : Program) (s : State) (m : MethodId) (c : Code) (D : va_G) (cI cS : ClassId) (sA : Nat) : Prop :=
  p.tables.exec = Jvm.exec ∧ c.code = mBy 107 ∧ c.maxLocals = 14 ∧ s.vm.findClass (mNm 107).cls = some m.cls ∧ (∀ w ∈ e_WS, w.before #[.ref sA] s = true) ∧ va_K D e_cls (e_tys cI cS) s
def PW (p : Program) (l : Launch) (e : Env) (s : State) (m : MethodId) (below : List Frame) (meth : Method) (c : Code) (D : va_G) (b : Nat) (cI cS : ClassId) (sA : Nat) (Z : State → Prop) (pc cells slots : Nat) (L : List (Nat × Value)) (st : List Value) (h : Kt) : Prop :=
  ∀ (H : Heap) (locs : List Loc) (ls : Array Slot), e_Sim D b cI cS s.heap (k_emb h) H → (∀ q ∈ locs, b ≤ q.base) → lv_has ls 14 L → W p l e room_1 s m #[.ref sA] below meth c H locs cells slots Z (F0 m pc ls st)
theorem p_new {pc x cc n : Nat} {nest : Bool} {r2 : Nat} {hh : List Nat} {sw : List (Int32 × Nat)} {cells slots : Nat} {L : List (Nat × Value)} {st : List Value} {h h' : Kt} (Cx : p_Cx p s m c D cI cS sA) (ho : e_op 107 pc = some (.new x, 3, cc, r2, nest, hh, sw)) (hg : k_new h cc = some (n, h')) (hc : cells + 1 ≤ room_1.cells) (hs : slots + (e_ct cc).2.2.1 ≤ room_1.slots)
    (kk : PW p l e s m below meth c D b cI cS sA Z (pc + 3) (cells + 1) (slots + (e_ct cc).2.2.1) L (.ref (b + n) :: st) h') : PW p l e s m below meth c D b cI cS sA Z pc cells slots L st h := by
  intro H locs ls hS hlo hl
  obtain ⟨hx, hb, hml, hown, hts, hK⟩ := Cx
  obtain ⟨hok, hneed⟩ := okm_at ok_L_law ho
  obtain ⟨hdg, hsw⟩ := okb_dec hok
  dsimp only at hdg hsw
  exact e_new_ok (y := 107) hx hb hown hts hK hS (IC_ok.2.2.2.2.2.2.2.1 _ _ _ hg) hneed hc hs hdg (fun H' hS' => kk H' locs ls hS' hlo hl)
theorem p_init {pc r1 x r2 o : Nat} {nest : Bool} {hh : List Nat} {sw : List (Int32 × Nat)} {cells slots : Nat} {L : List (Nat × Value)} {rst : List Value} {h h' : Kt} (Cx : p_Cx p s m c D cI cS sA) (hC : CC r1 [.ref o] h (fun r g => r = none ∧ g = h')) (ho : e_op 107 pc = some (.invokespecial x, 3, r1, r2, nest, hh, sw)) (hr1 : Nat.beq r1 1000 = false) (hr2 : r2 = 0) (hcat : e_cat rst ≤ 8) (hc : cells + (mRm r1).cells ≤ room_1.cells) (hs : slots + (mRm r1).slots ≤ room_1.slots)
    (kk : PW p l e s m below meth c D b cI cS sA Z (pc + 3) (cells + (mRm r1).cells) (slots + (mRm r1).slots) L (rst.map (e_v b)) h') : PW p l e s m below meth c D b cI cS sA Z pc cells slots L (.ref (b + o) :: rst.map (e_v b)) h := by
  intro H locs ls hS hlo hl
  obtain ⟨hx, hb, hml, hown, hts, hK⟩ := Cx
  obtain ⟨hok, hneed⟩ := okm_at ok_L_law ho
  obtain ⟨hdg, hsw⟩ := okb_dec hok
  dsimp only at hdg hsw
  subst hr2
  simp only [e_okB, hr1, cond_false, Bool.and_eq_true, decide_eq_true_eq] at hok
  have hnw : ∀ w ∈ e_need 107 (.invokespecial x) r1 0 nest sw, w ∈ e_WS := hneed
  simp only [e_need, hr1, cond_false] at hnw
  obtain ⟨hcall, hini⟩ : e_callOk 107 r1 0 = true ∧ ((mNm r1).name = "<init>" ∧ mRet r1 = none) := by
    obtain ⟨-, h2⟩ := hok
    exact ⟨h2.2.1.1, h2.2.1.2, h2.2.2⟩
  obtain ⟨CB, CN⟩ := e_calls (y := 107) (R := room_1) (x := x) (n := 0) (nest := nest) hts hcall (hnw _ (by simp)) (hnw _ (by simp)) (hnw _ (by simp)) (by decide) (by decide)
  rw [hini.2] at CB CN
  have hM := hC l D b cI cS s.heap
  have S : CallFix p m c (mBy 107) (mML 107) s #[.ref sA] e_WS (mNm 107).cls := ⟨hx, hb, hml, hown, hts⟩
  have hPc : ∀ U : State, U.heap = H → s.WarmedH U.vm → e_Pc D b cI cS s.heap (k_emb h) [.ref o] ((([.ref o] : List Value).map (e_v b)).toArray) U := fun U hU hW => ⟨rfl, by rw [hU]; exact hS, va_K.moved hW.alike hK⟩
  have hsz : ls.size = mML 107 := hl.1
  have hrestW : ∀ g : JFrame, g.monitorRoom = 0 → 2 * g.monitorRoom + ((rst.map (e_v b)).map fun v => v.category).sum ≤ 8 := fun g hg => by rw [hg, e_cat_sum]; omega
  have fin : ∀ (r : Option Value) (σ' : Sg) (H' : Heap) (locs' : List Loc), (∃ g, σ' = IC.1 g ∧ (r = none ∧ g = h')) → e_Sim D b cI cS s.heap σ' H' → (∀ q ∈ locs', b ≤ q.base) → W p l e room_1 s m #[.ref sA] below meth c H' locs' (cells + (mRm r1).cells) (slots + (mRm r1).slots) Z (F0 m (pc + 3) ls ((r.toList ++ rst).map (e_v b))) := by
    intro r σ' H' locs' ⟨g, e1, e2, e3⟩ hS' hlo'
    subst e1; subst e2; subst e3
    exact kk H' locs' ls hS' hlo' hl
  cases nest with
  | false => exact e_back (va_runI (b := b + o) (As := []) S hM ⟨CB rfl, hini.1, hts _ (hnw _ (by simp))⟩ ⟨e_blind, hPc⟩ rfl rfl hsz rfl (hrestW _ rfl) hdg ⟨hc, hs⟩) hlo fin
  | true => exact e_back (va_runIN (b := b + o) (As := []) S hM ⟨CN rfl, hini.1, hts _ (hnw _ (by simp))⟩ ⟨e_blind, hPc⟩ rfl rfl hsz rfl (hrestW _ rfl) hdg ⟨hc, hs⟩) hlo fin
end LAWP
/-! the law: from its entry -/
theorem e_inst_all : (List.range 12).all (fun c => decide (Cond.instantiable (e_ct c).1 (e_ct c).2.2.1 ∈ e_WS)) = true := by decide +kernel
theorem e_arr_all : (Cond.arrayClass .int) ∈ e_WS ∧ (Cond.arrayOver (.object "PuppetTurns$Scene")) ∈ e_WS := by decide +kernel
theorem k_known {s : State} {args : Array Value} (hts : ∀ w ∈ e_WS, w.before args s = true) : ∃ (D : va_G) (cI cS : ClassId), va_K D e_cls (e_tys cI cS) s := by
  have hkn : ∀ c : Nat, ∃ (q : ClassId × (Nat → Nat)), c < 12 → u_Kn s (e_ct c).1 (e_ct c).2.1 (e_ct c).2.2.1 q.1 q.2 := by
    intro c
    by_cases hc : c < 12
    · obtain ⟨cC, iS, h⟩ := u_known hts (e_uws hc) (hts _ (of_decide_eq_true (List.all_eq_true.mp e_inst_all c (List.mem_range.mpr hc))))
      exact ⟨(cC, iS), fun _ => h⟩
    · exact ⟨(0, fun _ => 0), fun z => absurd z hc⟩
  obtain ⟨cI, kI, compI, i1, i2, i3⟩ := Cond.arrayClass_spec (hts _ e_arr_all.1)
  obtain ⟨compS, cS, kS, s1, s2, s3, s4, s5⟩ := Cond.arrayOver_spec (hts _ e_arr_all.2)
  refine ⟨(fun c => (Classical.choose (hkn c)).1, fun c => (Classical.choose (hkn c)).2), cI, cS, fun c q hq => ?_, fun k q hk => ?_⟩
  · have hc : c < 12 := by
      have := (List.getElem?_eq_some_iff.mp hq).1
      simpa [e_cls] using this
    have e1 := (e_cls_at hc).symm.trans hq
    cases e1
    exact Classical.choose_spec (hkn c) hc
  · match k, hk with
    | 0, hk => cases hk; exact ⟨fun N z => ⟨(fun k h => by cases h), kI, i2, compI, i3⟩, i1⟩
    | 1, hk => cases hk; exact ⟨fun N z => ⟨(fun k h => by cases h), kS, s3, compS, s4⟩, kS, compS, s3, s4, s1, s5⟩
    | k + 2, hk => simp [e_tys] at hk
section LAWS
variable {p : Program} {l : Launch} {e : Env} {s : State} {m : MethodId} {below : List Frame} {meth : Method} {c : Code} {D : va_G} {cI cS : ClassId} {sA Ln : Nat} {xs : Nat → Int32} {Z : State → Prop}
set_option maxRecDepth 100000 in
theorem l_start (hx : p.tables.exec = Jvm.exec) (hb : c.code = mBy 107) (hml : c.maxLocals = 14) (hown : s.vm.findClass (mNm 107).cls = some m.cls) (hts : ∀ w ∈ e_WS, w.before #[.ref sA] s = true) (hK : va_K D e_cls (e_tys cI cS) s) (hX : va_X sA Ln xs s s.heap) (hsA : sA < s.heap.size) (hLn : Ln ≤ 260) (hnm : meth.name = (mNm 107).name)
    (hret : e_Ret p l e room_1 s m #[.ref sA] below meth c D s.heap.size cI cS s.heap Z 107 (fun r σ => ∃ h', σ = IS.1 h' ∧ QL r h')) : W p l e room_1 s m #[.ref sA] below meth c s.heap [] 0 0 Z (entryFrame m ([Value.ref sA] : List Value).toArray 14) := by
  have Cx : p_Cx p s m c D cI cS sA := ⟨hx, hb, hml, hown, hts, hK⟩
  have Ex : e_Cx p l e room_1 s m #[.ref sA] below meth c D s.heap.size cI cS s.heap Z 107 (fun r σ => ∃ h', σ = IS.1 h' ∧ QL r h') := ⟨hx, hb, hml, hown, hts, hK, by decide, by decide, hnm, hret, fun _ => ⟨sA, Ln, xs, rfl, hsA, hLn, hX⟩⟩
  have key : PW p l e s m below meth c D s.heap.size cI cS sA Z 0 0 0 [(0, .ref sA)] [] (0, fun _ _ => none, fun _ _ => 0, fun _ _ => 0) := by
    refine p_new Cx (x := 13) (cc := 11) rfl rfl (by decide) (by decide) ?_
    intro H locs ls hS hlo hl
    refine lv_dup hx hb (m_d ok_L_law (pc := 3) rfl) rfl ?_
    refine p_init (o := 0) (r1 := 72) (rst := [.ref 0]) Cx (k_P_0 ⟨rfl, rfl⟩) (pc := 4) rfl rfl rfl (by decide) (by decide) (by decide) ?_ H locs ls hS hlo hl
    intro H locs ls hS hlo hl
    refine lv_astore_n hx hb (m_d ok_L_law (pc := 7) rfl) rfl hl (by decide) rfl (fun ls hl => ?_)
    refine l_first p l e room_1 s m #[.ref sA] below meth c D s.heap.size cI cS s.heap Z Ex H locs _ _ ls (k_end hS) hlo (by decide) (by decide) ⟨rfl, _, hl, fun j w hj => ?_⟩
    match j, hj with
    | 0, hj => cases hj; exact List.mem_cons_of_mem _ List.mem_cons_self
    | 1, hj => cases hj; exact List.mem_cons_self
    | j + 2, hj =>
      have h2 : e_get (e_pad 12) j = some w := hj
      rw [e_pad_get] at h2
      cases h2
  have := key s.heap [] _ ⟨rfl, fun _ _ => rfl, fun o ho => absurd ho (Nat.not_lt_zero _)⟩ (fun q hq => by cases hq) (lv_entry [.ref sA] (n := 14) (Nat.le_of_ble_eq_true rfl))
  rw [lg_entry_eq]
  exact this
end LAWS
