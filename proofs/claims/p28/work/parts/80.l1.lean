/-! the law's script: cell, and the places that call it -/
theorem m_d {y pc : Nat} {i : Instr} {len r1 r2 : Nat} {nest : Bool} {hh : List Nat} {sw : List (Int32 × Nat)} (hM : OkM y) (ho : e_op y pc = some (i, len, r1, r2, nest, hh, sw)) : decode (mBy y) pc = .ok (i, len) := by
  obtain ⟨hok, -⟩ := okm_at hM ho
  exact (okb_dec hok).1
def xPc (sA n : Nat) (xs : Nat → Int32) (i : Int32) (H : Heap) : Array Value → State → Prop := fun a U => a = ([Value.ref sA, .int i] : List Value).toArray ∧ U.heap = H ∧ va_X sA n xs U H ∧ sA < H.size
def xQc (H : Heap) : Array Value → State → Outcome → State → Prop := fun _ _ oc t => ∃ v : Int32, oc = .returned (some (.int v)) ∧ t.heap = H
theorem xPc_blind {sA n : Nat} {xs : Nat → Int32} {i : Int32} {H : Heap} : FrameBlind (xPc sA n xs i H) := fun a U g mk q => by
  obtain ⟨q0, q1, q2, q3⟩ := q
  exact ⟨q0, q1, va_X.moved (u := U) (U := U.calling g mk a) (Vm.Alike.refl U.vm) q2, q3⟩
set_option maxRecDepth 100000 in
set_option maxHeartbeats 4000000 in
theorem c_L_cell (l : Launch) (b sA n : Nat) (xs : Nat → Int32) (j : Nat) (H : Heap) (hj : j ≤ 18) (hn : n ≤ 260) : Met l (mNm y_L_cell) (mWs y_L_cell) (mRm y_L_cell) (xPc sA n xs (nI j) H) (xQc H) 0 0 (fun q => b ≤ q) := by
  refine Met.ofW (cc := mBy y_L_cell) (maxL := mML y_L_cell) (ret := mRet y_L_cell) rfl rfl ?_
  intro p e s m args below meth c s₁ B hml hv
  obtain ⟨rfl, rfl, hX, hsz⟩ := hv
  have hx := B.exec
  have hb := B.bytes
  have hr := B.returns
  have hlocks := B.notSynchronized
  rw [lg_entry_eq]
  have hl := lv_entry [Value.ref sA, .int (nI j)] (n := 2) (Nat.le_of_ble_eq_true rfl)
  have hS : va_S (fun q => s.heap.size ≤ q) s.heap s.heap [] := ⟨Nat.le_refl _, fun _ _ _ => rfl, fun q hq => by cases hq⟩
  have fin : ∀ (ls : Array Slot) (v : Int32), W p l e (headSpec (mWs y_L_cell) (mRm y_L_cell)).room s m ([Value.ref sA, .int (nI j)] : List Value).toArray below meth c s.heap [] 0 0 (MQ below (xQc s.heap) ([Value.ref sA, .int (nI j)] : List Value).toArray s 0 0 (fun q => b ≤ q)) (F0 m 24 ls [.int v]) := fun ls v =>
    W.iret hx hb hr (fun t ht _ => ⟨v, rfl, ht⟩) (fun q hq => by cases hq) (m_d ok_L_cell (pc := 24) rfl)
  refine lv_iload_n hx hb (m_d ok_L_cell (pc := 0) rfl) rfl (lv_at hl 1 rfl) ?_
  refine lv_aload_n hx hb (m_d ok_L_cell (pc := 1) rfl) rfl (lv_at hl 0 rfl) ?_
  refine va_slen (A := fun q => s.heap.size ≤ q) hx hb hX hsz (by omega) hS (m_d ok_L_cell (pc := 2) rfl) ?_
  refine lv_icmp_ge hx hb (m_d ok_L_cell (pc := 3) rfl) (tgt := 12) rfl (fun _ => ?_) (fun g => ?_)
  · refine lv_sipush hx hb (v := 7919) (m_d ok_L_cell (pc := 12) rfl) (by decide) ?_
    refine lv_iload_n hx hb (m_d ok_L_cell (pc := 15) rfl) rfl (lv_at hl 1 rfl) ?_
    refine lv_iconst hx hb (v := 3) (m_d ok_L_cell (pc := 16) rfl) (by decide) ?_
    refine lv_iadd hx hb (m_d ok_L_cell (pc := 17) rfl) ?_
    refine lv_imul hx hb (m_d ok_L_cell (pc := 18) rfl) ?_
    refine lv_iload_n hx hb (m_d ok_L_cell (pc := 19) rfl) rfl (lv_at hl 1 rfl) ?_
    refine lv_bipush hx hb (v := 11) (m_d ok_L_cell (pc := 20) rfl) (by decide) ?_
    refine lv_iadd hx hb (m_d ok_L_cell (pc := 22) rfl) ?_
    refine lv_imul hx hb (m_d ok_L_cell (pc := 23) rfl) ?_
    exact fin _ _
  · have hjn : j < n := by
      refine Nat.not_le.mp (fun z => g ?_)
      exact nI_le z (by omega)
    refine lv_aload_n hx hb (m_d ok_L_cell (pc := 6) rfl) rfl (lv_at hl 0 rfl) ?_
    refine lv_iload_n hx hb (m_d ok_L_cell (pc := 7) rfl) rfl (lv_at hl 1 rfl) ?_
    refine va_sld (A := fun q => s.heap.size ≤ q) hx hb hX hsz (by omega) hS (vp_in_nI hjn (by omega)) (m_d ok_L_cell (pc := 8) rfl) ?_
    refine lv_goto hx hb (m_d ok_L_cell (pc := 9) rfl) (tgt := 24) rfl ?_
    exact fin _ _
/-- behind a call of cell: any int -/
theorem s_call {pc : Nat} {hh : List Nat} {L : List (Option Value)} {B : Nat × Nat} {h : St} {Q : Option Value → St → Prop} (ho : e_op 107 pc = some (.invokestatic 92, 3, 100, 2, false, hh, [])) (kk : ∀ v : Int32, e_RunI IS y_L_law (pc + 3) L [.int v] B h Q)
    {p : Program} {l : Launch} {e : Env} {R : Room} {s : State} {m : MethodId} {args : Array Value} {below : List Frame} {meth : Method} {c : Code} {D : va_G} {b : Nat} {cI cS : ClassId} {H0 : Heap} {Z : State → Prop} (Cx : e_Cx p l e R s m args below meth c D b cI cS H0 Z y_L_law (fun r σ => ∃ h', σ = IS.1 h' ∧ Q r h'))
    {H : Heap} {locs : List Loc} {cells slots : Nat} {ls : Array Slot} (hS : e_Sim D b cI cS H0 (IS.1 h) H) (hlo : ∀ q ∈ locs, b ≤ q.base) (hc1 : cells + B.1 ≤ R.cells) (hc2 : slots + B.2 ≤ R.slots) (hL : e_LH b (e_x0 y_L_law args) ls (mML y_L_law) L)
    {sA n : Nat} {xs : Nat → Int32} (hsA : sA < b) (hn : n ≤ 260) (hX : va_X sA n xs s H0) (j : Nat) (hj : j ≤ 18) : W p l e R s m args below meth c H locs cells slots Z (F0 m pc ls [.int (nI j), .ref sA]) := by
  obtain ⟨hx, hb, hml, hown, hts, hK, hfr, hlc, hnm, hret, hscr⟩ := id Cx
  obtain ⟨hok, hneed⟩ := okm_at ok_L_law ho
  obtain ⟨hdg, hsw⟩ := okb_dec hok
  dsimp only at hdg hsw
  have hnw : ∀ w ∈ ([e_link 107 100 92 false, .initialized (mNm 100).cls, .code (mNm 100) (mBy 100) (mML 100) (mRet 100), .static (mNm 100)] : List Cond), w ∈ e_WS := hneed
  have hcall : e_callOk 107 100 2 = true := by decide +kernel
  obtain ⟨CB, CN⟩ := e_calls (y := 107) (R := R) (x := 92) (n := 2) (nest := false) hts hcall (hnw _ (by simp)) (hnw _ (by simp)) (hnw _ (by simp)) hfr hlc
  have hM := c_L_cell l b sA n xs j H hj hn
  have S : CallFix p m c (mBy 107) (mML 107) s args e_WS (mNm 107).cls := ⟨hx, hb, hml, hown, hts⟩
  have hXH : va_X sA n xs s H := hX.kept (hS.2.1 sA hsA)
  have hPc : ∀ U : State, U.heap = H → s.WarmedH U.vm → xPc sA n xs (nI j) H ([Value.ref sA, .int (nI j)] : List Value).toArray U := fun U hU hW => ⟨rfl, hU, hXH.moved hW.alike, by rw [hS.1]; omega⟩
  have hsz : ls.size = mML 107 := by obtain ⟨-, lv, h1, -⟩ := hL; exact h1.1
  have hr := va_runS (l := l) (cells := cells) (slots := slots) (locs := locs) (below := below) (meth := meth) (e := e) (H := H) (g := F0 m pc ls [.int (nI j), .ref sA]) (As := [Value.ref sA, .int (nI j)]) (rest := []) S hM ⟨CB rfl, hts _ (hnw _ (by simp))⟩ ⟨xPc_blind, hPc⟩ rfl rfl hsz rfl (show 2 * 0 + 0 ≤ 8 by decide) hdg ⟨by show cells + 0 ≤ _; omega, by show slots + 0 ≤ _; omega⟩
  intro T hT X
  obtain ⟨v, st₀, t, T', Lc, h0, X', hLc, e1, e2, ⟨w, hv, hQ⟩, st⟩ := hr T hT X
  have hv : v = some (.int w) := by
    injection hv
  subst hv
  have hH : T'.heap = H := e1.trans hQ
  obtain ⟨t2, a1, b1⟩ := kk w p l e R s m args below meth c D b cI cS H0 Z Cx T'.heap (locs ++ Lc) (cells + 0) (slots + 0) ls (by rw [hH]; exact hS) (fun q hq => (List.mem_append.mp hq).elim (hlo q) (hLc q)) hc1 hc2 hL T' rfl X'
  exact ⟨t2, st t2 a1, b1⟩
theorem x0_law {sA : Nat} : e_x0 y_L_law #[.ref sA] = some sA := rfl
/-- the two places in the loop -/
theorem s_cellA {pc : Nat} {hh h1 h2 : List Nat} {L : List (Option Value)} {B : Nat × Nat} {h : St} {Q : Option Value → St → Prop} (o0 : e_op 107 pc = some (.aload_n 0, 1, 0, 0, false, h1, [])) (o1 : e_op 107 (pc + 1) = some (.iload_n 2, 1, 0, 0, false, h2, [])) (ho : e_op 107 (pc + 2) = some (.invokestatic 92, 3, 100, 2, false, hh, [])) (j : Nat) (hj : j ≤ 18) (g0 : e_get L 0 = some (.float 0)) (g2 : e_get L 2 = some (.int (nI j))) (kk : ∀ v : Int32, e_RunI IS y_L_law (pc + 5) L [.int v] B h Q) : e_RunI IS y_L_law pc L [] B h Q := by
  intro p l e R s m args below meth c D b cI cS H0 Z Cx H locs cells slots ls hS hlo hc1 hc2 hL
  obtain ⟨hx, hb, hml, hown, hts, hK, hfr, hlc, hnm, hret, hscr⟩ := id Cx
  obtain ⟨sA, n, xs, ha, hsA, hn, hX⟩ := hscr rfl
  have q0 := e_LH_get hL g0
  have q2 := e_LH_get hL g2
  rw [ha, x0_law] at q0
  refine lv_aload_n hx hb (m_d ok_L_law o0) rfl q0 ?_
  refine lv_iload_n hx hb (m_d ok_L_law o1) rfl q2 ?_
  exact s_call ho kk Cx hS hlo hc1 hc2 hL hsA hn hX j hj
/-- the place behind the loop -/
theorem s_cellB {L : List (Option Value)} {B : Nat × Nat} {h : St} {Q : Option Value → St → Prop} (g0 : e_get L 0 = some (.float 0)) (kk : ∀ v : Int32, e_RunI IS y_L_law 209 L [.int v] B h Q) : e_RunI IS y_L_law 203 L [] B h Q := by
  intro p l e R s m args below meth c D b cI cS H0 Z Cx H locs cells slots ls hS hlo hc1 hc2 hL
  obtain ⟨hx, hb, hml, hown, hts, hK, hfr, hlc, hnm, hret, hscr⟩ := id Cx
  obtain ⟨sA, n, xs, ha, hsA, hn, hX⟩ := hscr rfl
  have q0 := e_LH_get hL g0
  rw [ha, x0_law] at q0
  refine lv_aload_n hx hb (m_d ok_L_law (pc := 203) rfl) rfl q0 ?_
  refine lv_bipush hx hb (v := 18) (m_d ok_L_law (pc := 204) rfl) (by decide) ?_
  exact s_call (pc := 206) rfl kk Cx hS hlo hc1 hc2 hL hsA hn hX 18 (by omega)
