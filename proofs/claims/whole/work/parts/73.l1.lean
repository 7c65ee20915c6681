/-! the law: its own instructions; its script is read as it lies -/
theorem l_d {pc : Nat} {i : Instr} {len r1 r2 : Nat} {nest : Bool} {hh : List Nat} {sw : List (Int32 × Nat)} (ho : e_op 205 pc = some (i, len, r1, r2, nest, hh, sw)) : decode (mBy 205) pc = .ok (i, len) := by
  obtain ⟨hok, -⟩ := okm_at ok_L_law ho
  exact (okb_dec hok).1
def l_Cx (p : Program) (s : State) (m : MethodId) (c : Code) (D : va_G) (b : Nat) (cI cS : ClassId) (sA Ln : Nat) (xs : Nat → Int32) (cells slots : Nat) : Prop :=
  p.tables.exec = Jvm.exec ∧ c.code = mBy 205 ∧ c.maxLocals = 4 ∧ s.vm.findClass (mNm 205).cls = some m.cls ∧ (∀ w ∈ e_WS, w.before #[.ref sA] s = true) ∧ va_K D e_cls (e_tys cI cS) s ∧ va_X sA Ln xs s s.heap ∧ sA < b ∧ b = s.heap.size ∧ Ln ≤ 3072 ∧ cells ≤ 600000 ∧ slots ≤ 7302250
abbrev LL (b sA : Nat) (i : Int32) : List (Nat × Value) := [(3, .int i), (2, .ref (b + 90)), (1, .ref (b + 0)), (0, .ref sA)]
def LW (p : Program) (l : Launch) (e : Env) (s : State) (m : MethodId) (below : List Frame) (meth : Method) (c : Code) (D : va_G) (b : Nat) (cI cS : ClassId) (sA cells slots : Nat) (Z : State → Prop) (pc : Nat) (i : Int32) (st : List Value) (h : St) : Prop :=
  ∀ (H : Heap) (locs : List Loc) (ls : Array Slot), e_Sim D b cI cS s.heap (IS.1 h) H → (∀ q ∈ locs, b ≤ q.base) → lv_has ls 4 (LL b sA i) → W p l e room_1 s m #[.ref sA] below meth c H locs cells slots Z (F0 m pc ls st)
section LAW
variable {p : Program} {l : Launch} {e : Env} {s : State} {m : MethodId} {below : List Frame} {meth : Method} {c : Code} {D : va_G} {b : Nat} {cI cS : ClassId} {sA Ln : Nat} {xs : Nat → Int32} {cells slots : Nat} {Z : State → Prop}
theorem l_S {h : St} {H : Heap} {locs : List Loc} (hb : b = s.heap.size) (hS : e_Sim D b cI cS s.heap (IS.1 h) H) (hlo : ∀ q ∈ locs, b ≤ q.base) : va_S (fun q => b ≤ q) s.heap H locs := by
  obtain ⟨h1, h2, -⟩ := hS
  exact ⟨by rw [h1, hb]; omega, fun q hq _ => h2 q (by omega), hlo⟩
theorem l_a {pc i n : Nat} {st : List Value} {h : St} {ii : Int32} {k : Fin 4} (Cx : l_Cx p s m c D b cI cS sA Ln xs cells slots) (hd : decode (mBy 205) pc = .ok (.aload_n k, 1)) (hk : (k : Nat) = i) (q : Nat) {x : Nat} (hq : (LL b sA ii)[q]? = some (i, .ref x)) (kk : LW p l e s m below meth c D b cI cS sA cells slots Z (pc + 1) ii (.ref x :: st) h) : LW p l e s m below meth c D b cI cS sA cells slots Z pc ii st h := by
  intro H locs ls hS hlo hl
  exact lv_aload_n Cx.1 Cx.2.1 hd hk (lv_at hl q hq) (kk H locs ls hS hlo hl)
theorem l_scr {pc : Nat} {st : List Value} {h : St} {ii : Int32} (Cx : l_Cx p s m c D b cI cS sA Ln xs cells slots) (j k : Nat) (hi : ii = nI j) (hj : j + k < Ln) {v : Int32} (hv : Int32.ofInt (k : Int) = v) (d0 : decode (mBy 205) pc = .ok (.aload_n 0, 1)) (d1 : decode (mBy 205) (pc + 1) = .ok (.iload_n 3, 1)) (d2 : decode (mBy 205) (pc + 2) = .ok (.iconst (k : Int), 1)) (d3 : decode (mBy 205) (pc + 3) = .ok (.iadd, 1)) (d4 : decode (mBy 205) (pc + 4) = .ok (.iaload, 1)) (kk : LW p l e s m below meth c D b cI cS sA cells slots Z (pc + 5) ii (.int (xs (j + k)) :: st) h) : LW p l e s m below meth c D b cI cS sA cells slots Z pc ii st h := by
  intro H locs ls hS hlo hl
  obtain ⟨hx, hb, hml, hown, hts, hK, hX, hsA, hbs, hLn, -⟩ := Cx
  refine lv_aload_n hx hb d0 rfl (lv_at hl 3 rfl) ?_
  refine lv_iload_n hx hb d1 rfl (lv_at hl 0 rfl) ?_
  refine lv_iconst hx hb d2 hv ?_
  refine lv_iadd hx hb d3 ?_
  have e1 : ii + v = nI (j + k) := by rw [hi, ← hv]; exact iI_add (j : Int) (k : Int)
  rw [e1]
  refine va_sld (A := fun q => b ≤ q) hx hb hX (by omega) (by omega) (l_S hbs hS hlo) (vp_in_nI hj (by omega)) d4 ?_
  rw [nI_clamp (by omega)]
  exact kk H locs ls hS hlo hl
theorem l_call {pc r1 n x o : Nat} {nest : Bool} {hh : List Nat} {sw : List (Int32 × Nat)} {as rst : List Value} {h : St} {ii : Int32} {Q' : Option Value → St → Prop} (Cx : l_Cx p s m c D b cI cS sA Ln xs cells slots) (hC : SC r1 (.ref o :: as) h Q') (ho : e_op 205 pc = some (.invokevirtual x, 3, r1, n, nest, hh, sw)) (hn : as.length = n) (hobj : o < 109 ∧ (e_SH o).1 = mCi r1) (hcat : e_cat rst ≤ 8) (hr0 : (mRm r1).cells = 0 ∧ (mRm r1).slots = 0)
    (kk : ∀ r h', Q' r h' → LW p l e s m below meth c D b cI cS sA cells slots Z (pc + 3) ii ((r.toList ++ rst).map (e_v b)) h') : LW p l e s m below meth c D b cI cS sA cells slots Z pc ii ((as.map (e_v b)).reverse ++ .ref (b + o) :: rst.map (e_v b)) h := by
  intro H locs ls hS hlo hl
  obtain ⟨hx, hb, hml, hown, hts, hK, hX, hsA, hbs, hLn, hcl, hsl⟩ := Cx
  obtain ⟨hok, hneed⟩ := okm_at ok_L_law ho
  obtain ⟨hdg, hsw⟩ := okb_dec hok
  dsimp only at hdg hsw
  simp only [e_okB, Bool.and_eq_true, decide_eq_true_eq] at hok
  have hnw : ∀ w ∈ e_need 205 (.invokevirtual x) r1 n nest sw, w ∈ e_WS := hneed
  simp only [e_need] at hnw
  have hci : mCi r1 < 13 := by simpa [Nat.blt_eq] using hok.2.2.1.2
  obtain ⟨CB, CN⟩ := e_calls (y := 205) (R := room_1) (x := x) (n := n) (nest := nest) hts hok.2.2.1.1 (hnw _ (by simp)) (hnw _ (by simp)) (hnw _ (by simp)) (by decide) (by decide)
  have hM := hC l D b cI cS s.heap
  have S : CallFix p m c (mBy 205) (mML 205) s #[.ref sA] e_WS (mNm 205).cls := ⟨hx, hb, hml, hown, hts⟩
  have hPc : ∀ U : State, U.heap = H → s.WarmedH U.vm → e_Pc D b cI cS s.heap (IS.1 h) (.ref o :: as) (((.ref o :: as).map (e_v b)).toArray) U := fun U hU hW => ⟨rfl, by rw [hU]; exact hS, va_K.moved hW.alike hK⟩
  have hsz : ls.size = mML 205 := hl.1
  have hrestW : ∀ g : JFrame, g.monitorRoom = 0 → 2 * g.monitorRoom + ((rst.map (e_v b)).map fun v => v.category).sum ≤ 8 := fun g hg => by rw [hg, e_cat_sum]; omega
  have hroom : cells + (mRm r1).cells ≤ room_1.cells ∧ slots + (mRm r1).slots ≤ room_1.slots := by rw [hr0.1, hr0.2]; exact ⟨hcl, hsl⟩
  have fin : ∀ (r : Option Value) (σ' : Sg) (H' : Heap) (locs' : List Loc), (∃ h', σ' = IS.1 h' ∧ Q' r h') → e_Sim D b cI cS s.heap σ' H' → (∀ q ∈ locs', b ≤ q.base) → W p l e room_1 s m #[.ref sA] below meth c H' locs' (cells + (mRm r1).cells) (slots + (mRm r1).slots) Z (F0 m (pc + 3) ls ((r.toList ++ rst).map (e_v b))) := by
    intro r σ' H' locs' ⟨h', e1, hQ'⟩ hS' hlo'
    subst e1
    rw [hr0.1, hr0.2]
    exact kk r h' hQ' H' locs' ls hS' hlo' hl
  have hlen : (as.map (e_v b)).length = n := by simp [hn]
  have hrec : ∃ cellB : Cell, H[b + o]? = some cellB ∧ cellB.vm.isStatics = false ∧ s.vm.findClass (mNm r1).cls = some cellB.cls := by
    have := va_recv (q0 := 0) hK (va_one (sim_obj hS hobj.1 hobj.2 hci)) (e_cls_at hci) rfl
    rw [hok.2.2.2] at this
    exact this
  have hstk : (as.map (e_v b)).reverse ++ .ref (b + o) :: rst.map (e_v b) = (as.map (e_v b)).reverse ++ .ref (b + o) :: rst.map (e_v b) := rfl
  cases nest with
  | false => exact e_back (va_runV (b := b + o) (As := as.map (e_v b)) S hM ⟨CB rfl, hts _ (hnw _ (by simp)), hts _ (hnw _ (by simp))⟩ ⟨e_blind, hrec, hPc⟩ rfl hlen hsz hstk (hrestW _ rfl) hdg hroom) hlo fin
  | true => exact e_back (va_runVN (b := b + o) (As := as.map (e_v b)) S hM ⟨CN rfl, hts _ (hnw _ (by simp)), hts _ (hnw _ (by simp))⟩ ⟨e_blind, hrec, hPc⟩ rfl hlen hsz hstk (hrestW _ rfl) hdg hroom) hlo fin
theorem l_eq {pc tgt : Nat} {off : Int} {st : List Value} {h : St} {ii v : Int32} (Cx : l_Cx p s m c D b cI cS sA Ln xs cells slots) (hd : decode (mBy 205) pc = .ok (.if_icmp .eq off, 3)) (ht : (pc : Int) + off = (tgt : Int)) (kk : LW p l e s m below meth c D b cI cS sA cells slots Z tgt ii st h) : LW p l e s m below meth c D b cI cS sA cells slots Z pc ii (.int v :: .int v :: st) h := by
  intro H locs ls hS hlo hl
  exact lv_icmp_eq Cx.1 Cx.2.1 hd ht (fun _ => kk H locs ls hS hlo hl) (fun z => absurd rfl z)
end LAW
