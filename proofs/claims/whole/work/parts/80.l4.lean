/-! the law: its beginning, in which the objects are made -/
section LAWP
variable {p : Program} {l : Launch} {e : Env} {s : State} {m : MethodId} {below : List Frame} {meth : Method} {c : Code} {D : va_G} {b : Nat} {cI cS : ClassId} {sA Ln : Nat} {xs : Nat → Int32} {Z : State → Prop}
/-- what the prefix knows -/
def p_Cx (p : Program) (s : State) (m : MethodId) (c : Code) (D : va_G) (cI cS : ClassId) (sA : Nat) : Prop :=
  p.tables.exec = Jvm.exec ∧ c.code = mBy 205 ∧ c.maxLocals = 4 ∧ s.vm.findClass (mNm 205).cls = some m.cls ∧ (∀ w ∈ e_WS, w.before #[.ref sA] s = true) ∧ va_K D e_cls (e_tys cI cS) s
def PW (p : Program) (l : Launch) (e : Env) (s : State) (m : MethodId) (below : List Frame) (meth : Method) (c : Code) (D : va_G) (b : Nat) (cI cS : ClassId) (sA : Nat) (Z : State → Prop) (pc cells slots : Nat) (L : List (Nat × Value)) (st : List Value) (h : Kt) : Prop :=
  ∀ (H : Heap) (locs : List Loc) (ls : Array Slot), e_Sim D b cI cS s.heap (k_emb h) H → (∀ q ∈ locs, b ≤ q.base) → lv_has ls 4 L → W p l e room_1 s m #[.ref sA] below meth c H locs cells slots Z (F0 m pc ls st)
theorem p_new {pc x cc n : Nat} {nest : Bool} {r2 : Nat} {hh : List Nat} {sw : List (Int32 × Nat)} {cells slots : Nat} {L : List (Nat × Value)} {st : List Value} {h h' : Kt} (Cx : p_Cx p s m c D cI cS sA) (ho : e_op 205 pc = some (.new x, 3, cc, r2, nest, hh, sw)) (hg : k_new h cc = some (n, h')) (hc : cells + 1 ≤ room_1.cells) (hs : slots + (e_ct cc).2.2.1 ≤ room_1.slots)
    (kk : PW p l e s m below meth c D b cI cS sA Z (pc + 3) (cells + 1) (slots + (e_ct cc).2.2.1) L (.ref (b + n) :: st) h') : PW p l e s m below meth c D b cI cS sA Z pc cells slots L st h := by
  intro H locs ls hS hlo hl
  obtain ⟨hx, hb, hml, hown, hts, hK⟩ := Cx
  obtain ⟨hok, hneed⟩ := okm_at ok_L_law ho
  obtain ⟨hdg, hsw⟩ := okb_dec hok
  dsimp only at hdg hsw
  exact e_new_ok (y := 205) hx hb hown hts hK hS (IC_ok.2.2.2.2.2.2.2.1 _ _ _ hg) hneed hc hs hdg (fun H' hS' => kk H' locs ls hS' hlo hl)
theorem p_init {pc r1 x r2 o : Nat} {nest : Bool} {hh : List Nat} {sw : List (Int32 × Nat)} {cells slots : Nat} {L : List (Nat × Value)} {rst : List Value} {h h' : Kt} (Cx : p_Cx p s m c D cI cS sA) (hC : CC r1 [.ref o] h (fun r g => r = none ∧ g = h')) (ho : e_op 205 pc = some (.invokespecial x, 3, r1, r2, nest, hh, sw)) (hr1 : Nat.beq r1 1000 = false) (hr2 : r2 = 0) (hcat : e_cat rst ≤ 8) (hc : cells + (mRm r1).cells ≤ room_1.cells) (hs : slots + (mRm r1).slots ≤ room_1.slots)
    (kk : PW p l e s m below meth c D b cI cS sA Z (pc + 3) (cells + (mRm r1).cells) (slots + (mRm r1).slots) L (rst.map (e_v b)) h') : PW p l e s m below meth c D b cI cS sA Z pc cells slots L (.ref (b + o) :: rst.map (e_v b)) h := by
  intro H locs ls hS hlo hl
  obtain ⟨hx, hb, hml, hown, hts, hK⟩ := Cx
  obtain ⟨hok, hneed⟩ := okm_at ok_L_law ho
  obtain ⟨hdg, hsw⟩ := okb_dec hok
  dsimp only at hdg hsw
  subst hr2
  simp only [e_okB, hr1, cond_false, Bool.and_eq_true, decide_eq_true_eq] at hok
  have hnw : ∀ w ∈ e_need 205 (.invokespecial x) r1 0 nest sw, w ∈ e_WS := hneed
  simp only [e_need, hr1, cond_false] at hnw
  obtain ⟨hcall, hini⟩ : e_callOk 205 r1 0 = true ∧ ((mNm r1).name = "<init>" ∧ mRet r1 = none) := by
    obtain ⟨-, h2⟩ := hok
    exact ⟨h2.2.1.1, h2.2.1.2, h2.2.2⟩
  obtain ⟨CB, CN⟩ := e_calls (y := 205) (R := room_1) (x := x) (n := 0) (nest := nest) hts hcall (hnw _ (by simp)) (hnw _ (by simp)) (hnw _ (by simp)) (by decide) (by decide)
  rw [hini.2] at CB CN
  have hM := hC l D b cI cS s.heap
  have S : CallFix p m c (mBy 205) (mML 205) s #[.ref sA] e_WS (mNm 205).cls := ⟨hx, hb, hml, hown, hts⟩
  have hPc : ∀ U : State, U.heap = H → s.WarmedH U.vm → e_Pc D b cI cS s.heap (k_emb h) [.ref o] ((([.ref o] : List Value).map (e_v b)).toArray) U := fun U hU hW => ⟨rfl, by rw [hU]; exact hS, va_K.moved hW.alike hK⟩
  have hsz : ls.size = mML 205 := hl.1
  have hrestW : ∀ g : JFrame, g.monitorRoom = 0 → 2 * g.monitorRoom + ((rst.map (e_v b)).map fun v => v.category).sum ≤ 8 := fun g hg => by rw [hg, e_cat_sum]; omega
  have fin : ∀ (r : Option Value) (σ' : Sg) (H' : Heap) (locs' : List Loc), (∃ g, σ' = IC.1 g ∧ (r = none ∧ g = h')) → e_Sim D b cI cS s.heap σ' H' → (∀ q ∈ locs', b ≤ q.base) → W p l e room_1 s m #[.ref sA] below meth c H' locs' (cells + (mRm r1).cells) (slots + (mRm r1).slots) Z (F0 m (pc + 3) ls ((r.toList ++ rst).map (e_v b))) := by
    intro r σ' H' locs' ⟨g, e1, e2, e3⟩ hS' hlo'
    subst e1; subst e2; subst e3
    exact kk H' locs' ls hS' hlo' hl
  cases nest with
  | false => exact e_back (va_runI (b := b + o) (As := []) S hM ⟨CB rfl, hini.1, hts _ (hnw _ (by simp))⟩ ⟨e_blind, hPc⟩ rfl rfl hsz rfl (hrestW _ rfl) hdg ⟨hc, hs⟩) hlo fin
  | true => exact e_back (va_runIN (b := b + o) (As := []) S hM ⟨CN rfl, hini.1, hts _ (hnw _ (by simp))⟩ ⟨e_blind, hPc⟩ rfl rfl hsz rfl (hrestW _ rfl) hdg ⟨hc, hs⟩) hlo fin
end LAWP
