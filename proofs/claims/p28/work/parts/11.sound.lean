section ESOUND
variable {p : Program} {l : Launch} {e : Env} {R : Room} {s : State} {m : MethodId} {args : Array Value} {below : List Frame} {meth : Method} {c : Code} {H : Heap} {locs : List Loc} {cells slots : Nat} {Z : State → Prop}
variable {D : va_G} {b : Nat} {cI cS : ClassId} {H0 : Heap} {σ σ' : Sg} {y pc : Nat} {ls : Array Slot} {rest : List Value}
theorem e_sw_spec {x : Int32} {d : Nat} {k : Nat → Prop} : ∀ {sw : List (Int32 × Nat)}, e_sw sw d x k → (∃ t, (x, t) ∈ sw ∧ k t) ∨ ((∀ q ∈ sw, ¬ q.1 = x) ∧ k d)
  | [], h => Or.inr ⟨fun _ h => (by cases h), h⟩
  | (v, t) :: r, h => by
    unfold e_sw at h
    by_cases hx : x = v
    · rw [if_pos hx] at h
      exact Or.inl ⟨t, by rw [hx]; exact List.mem_cons_self, h⟩
    · rw [if_neg hx] at h
      rcases e_sw_spec h with ⟨t', h1, h2⟩ | ⟨h1, h2⟩
      · exact Or.inl ⟨t', List.mem_cons_of_mem _ h1, h2⟩
      · exact Or.inr ⟨fun q hq => (List.mem_cons.mp hq).elim (fun z => by rw [z]; exact fun w => hx w.symm) (h1 q), h2⟩
theorem e_table_ok {dflt lo hi : Int} {offs : Array Int} {len r1 : Nat} {sw : List (Int32 × Nat)} {x : Int32} (hx : p.tables.exec = Jvm.exec) (hb : c.code = mBy y) (hdg : decode (mBy y) pc = .ok (.tableswitch dflt lo hi offs, len)) (h1 : (pc : Int) + dflt = (r1 : Int)) (h2 : e_swT pc lo hi offs sw = true)
    (kk : e_sw sw r1 x (fun t => W p l e R s m args below meth c H locs cells slots Z (F0 m t ls rest))) : W p l e R s m args below meth c H locs cells slots Z (F0 m pc ls (.int x :: rest)) := by
  unfold e_swT at h2
  rw [Bool.and_eq_true] at h2
  rcases e_sw_spec kk with ⟨t, g1, g2⟩ | ⟨g1, g2⟩
  · have g3 := List.all_eq_true.mp h2.1 _ g1
    simp only [Bool.and_eq_true, decide_eq_true_eq] at g3
    exact lv_tableIn hx hb hdg g3.1.1 g3.1.2 g3.2 (by omega) g2
  · refine lv_tableOut hx hb hdg ?_ h1 g2
    by_cases hlo : x.toInt < lo
    · exact Or.inl hlo
    · by_cases hhi : hi < x.toInt
      · exact Or.inr hhi
      · exfalso
        have g3 := List.all_eq_true.mp h2.2 (x.toInt - lo).toNat (List.mem_range.mpr (by omega))
        obtain ⟨q, g4, g5⟩ := List.any_eq_true.mp g3
        have g6 := of_decide_eq_true g5
        exact g1 q g4 (Int32.toInt_inj.mp (by rw [g6]; omega))
theorem e_osw_out {d : Int} {x : Int} : ∀ {ps : List (Int × Int)}, (∀ a ∈ ps, ¬ a.1 = x) → Op.lookupswitch.offset ps d x = d
  | [], _ => by simp [Op.lookupswitch.offset]
  | (a, o) :: r, h => by
    rw [Op.lookupswitch.offset_cons, if_neg (h _ List.mem_cons_self)]
    exact e_osw_out (fun z hz => h z (List.mem_cons_of_mem _ hz))
theorem e_lookup_ok {dflt : Int} {ps : Array (Int × Int)} {len r1 : Nat} {sw : List (Int32 × Nat)} {x : Int32} (hx : p.tables.exec = Jvm.exec) (hb : c.code = mBy y) (hdg : decode (mBy y) pc = .ok (.lookupswitch dflt ps, len)) (h1 : (pc : Int) + dflt = (r1 : Int)) (h2 : e_swL pc dflt ps sw = true)
    (kk : e_sw sw r1 x (fun t => W p l e R s m args below meth c H locs cells slots Z (F0 m t ls rest))) : W p l e R s m args below meth c H locs cells slots Z (F0 m pc ls (.int x :: rest)) := by
  unfold e_swL at h2
  rw [Bool.and_eq_true, Bool.and_eq_true] at h2
  rcases e_sw_spec kk with ⟨t, g1, g2⟩ | ⟨g1, g2⟩
  · have g3 := List.all_eq_true.mp h2.1.1 _ g1
    simp only [decide_eq_true_eq] at g3
    exact lv_lookup hx hb hdg h2.2 g3 (by omega) g2
  · refine lv_lookup hx hb hdg h2.2 (e_osw_out (d := dflt) fun a ha => ?_) h1 g2
    have g3 := List.all_eq_true.mp h2.1.2 a ha
    obtain ⟨q, g4, g5⟩ := List.any_eq_true.mp g3
    have g6 := of_decide_eq_true g5
    exact fun z => g1 q g4 (Int32.toInt_inj.mp (by rw [g6]; exact z))
end ESOUND
theorem e_run_map {η : Type} {I : e_IT η} {y pc : Nat} {L : List (Option Value)} {st : List Value} {B : Nat × Nat} {h : η} {Q : Option Value → η → Prop} (k : e_RunI I y pc L st B h Q) : e_Run y pc L st B (I.1 h) (fun r σ => ∃ h', σ = I.1 h' ∧ Q r h') := k
theorem e_dropW {n : Nat} : ∀ {st : List Value}, n ≤ st.length → st = st.take n ++ st.drop n := fun {st} _ => (List.take_append_drop n st).symm
theorem e_isP_ok {η : Type} {I : e_IT η} (i1 : ∀ h o c k v, I.2.1 h o c k = some v → g_get (I.1 h) o c k = some v) {h : η} {ci : Nat} : ∀ {st : List Value} {n : Nat}, e_isP I h ci st n = true → e_isO (I.1 h) ci st n = true
  | [], n, k => by cases n <;> simp [e_isP] at k
  | v :: r, 0, k => by
    cases v <;> simp only [e_isP] at k <;> try (cases k)
    next o =>
      cases hg : I.2.1 h o ci 0 with
      | none => rw [hg] at k; cases k
      | some w =>
        obtain ⟨g1, g2, -⟩ := g_get_spec (i1 _ _ _ _ _ hg)
        show (Nat.blt o (I.1 h).1.1 && Nat.beq ((I.1 h).1.2 o).1 ci) = true
        rw [Bool.and_eq_true]
        exact ⟨by simpa [Nat.blt_eq] using g1, by simpa using g2⟩
  | v :: r, n + 1, k => by
    have k' : e_isP I h ci r n = true := by cases v <;> simpa [e_isP] using k
    have k2 := e_isP_ok i1 k'
    cases v <;> simpa [e_isO] using k2
set_option maxHeartbeats 8000000 in
theorem e_call_ok {η : Type} {I : e_IT η} {y r1 n x pc : Nat} {i : Instr} {virt nest : Bool} {L : List (Option Value)} {st : List Value} {B : Nat × Nat} {h : η} {Q : Option Value → η → Prop} {K : Nat → List (Option Value) → List Value → Nat × Nat → η → Prop} (i1 : ∀ h o c k v, I.2.1 h o c k = some v → g_get (I.1 h) o c k = some v) (ih : ∀ pc L st B h, K pc L st B h → e_RunI I y pc L st B h Q)
    (hk : e_call I r1 (if virt then n + 1 else n) virt pc L st B h K) (hdg : decode (mBy y) pc = .ok (i, 3)) (hok : e_callOk y r1 n = true) (hneed : ∀ w ∈ ([e_link y r1 x nest, .initialized (mNm r1).cls, .code (mNm r1) (mBy r1) (mML r1) (mRet r1)] : List Cond), w ∈ e_WS)
    (hkind : (i = .invokestatic x ∧ virt = false ∧ (Cond.static (mNm r1)) ∈ e_WS) ∨ (i = .invokevirtual x ∧ virt = true ∧ (Cond.instanceMethod (mNm r1)) ∈ e_WS ∧ (Cond.selects (mNm r1).cls (mNm r1) (mNm r1)) ∈ e_WS ∧ mCi r1 < 12 ∧ (e_ct (mCi r1)).1 = (mNm r1).cls) ∨ (i = .invokespecial x ∧ virt = true ∧ (Cond.instanceMethod (mNm r1)) ∈ e_WS ∧ (mNm r1).name = "<init>" ∧ mRet r1 = none)) : e_RunI I y pc L st B h Q := by
  intro p l e R s m args below meth c D b cI cS H0 Z Cx H locs cells slots ls hS hlo hc1 hc2 hL
  obtain ⟨hx, hb, hml, hown, hts, hK, hfr, hlc, hnm, hret, -⟩ := id Cx
  unfold e_call at hk
  cases hq : (Nat.ble (if virt then n + 1 else n) st.length && (Nat.ble (e_cat (st.drop (if virt then n + 1 else n))) 8 && (Nat.ble (mRm r1).cells B.1 && (Nat.ble (mRm r1).slots B.2 && (!virt || e_isP I h (mCi r1) st ((if virt then n + 1 else n) - 1)))))) with
  | false => rw [hq] at hk; exact hk.elim
  | true =>
    rw [hq] at hk
    simp only [Bool.and_eq_true] at hq
    obtain ⟨k1, k2, k3, k4, k5⟩ := hq
    have k1 := Nat.le_of_ble_eq_true k1
    have k2 := Nat.le_of_ble_eq_true k2
    have k3 := Nat.le_of_ble_eq_true k3
    have k4 := Nat.le_of_ble_eq_true k4
    simp only [cond_true] at hk
    have hk : e_CallI I r1 (st.take (if virt then n + 1 else n)).reverse h (fun r h' => K (pc + 3) L (r.toList ++ st.drop (if virt then n + 1 else n)) (B.1 - (mRm r1).cells, B.2 - (mRm r1).slots) h') := by
      cases hz : (Nat.beq (mRm r1).cells 0 && Nat.beq (mRm r1).slots 0) with
      | false => rw [hz] at hk; exact hk
      | true =>
        rw [hz] at hk
        rw [Bool.and_eq_true] at hz
        rw [Nat.eq_of_beq_eq_true hz.1, Nat.eq_of_beq_eq_true hz.2]
        exact hk
    obtain ⟨CB, CN⟩ := e_calls (R := R) (x := x) (n := n) (nest := nest) hts hok (hneed _ (by simp)) (hneed _ (by simp)) (hneed _ (by simp)) hfr hlc
    have hM := hk l D b cI cS H0
    have S : CallFix p m c (mBy y) (mML y) s args e_WS (mNm y).cls := ⟨hx, hb, hml, hown, hts⟩
    have hPc : ∀ U : State, U.heap = H → s.WarmedH U.vm → e_Pc D b cI cS H0 (I.1 h) ((st.take (if virt then n + 1 else n)).reverse) (((st.take (if virt then n + 1 else n)).reverse.map (e_v b)).toArray) U := fun U hU hW => ⟨rfl, by rw [hU]; exact hS, va_K.moved hW.alike hK⟩
    have hsz : ls.size = mML y := by obtain ⟨-, lv, h1, -⟩ := hL; exact h1.1
    have hrestW : ∀ g : JFrame, g.monitorRoom = 0 → 2 * g.monitorRoom + (((st.drop (if virt then n + 1 else n)).map (e_v b)).map fun v => v.category).sum ≤ 8 := fun g hg => by rw [hg, e_cat_sum]; omega
    have hroom : cells + (mRm r1).cells ≤ R.cells ∧ slots + (mRm r1).slots ≤ R.slots := ⟨by omega, by omega⟩
    have fin : ∀ (r : Option Value) (σ' : Sg) (H' : Heap) (locs' : List Loc), (∃ h', σ' = I.1 h' ∧ K (pc + 3) L (r.toList ++ st.drop (if virt then n + 1 else n)) (B.1 - (mRm r1).cells, B.2 - (mRm r1).slots) h') → e_Sim D b cI cS H0 σ' H' → (∀ q ∈ locs', b ≤ q.base) → W p l e R s m args below meth c H' locs' (cells + (mRm r1).cells) (slots + (mRm r1).slots) Z (F0 m (pc + 3) ls ((r.toList ++ st.drop (if virt then n + 1 else n)).map (e_v b))) := by
      intro r σ' H' locs' ⟨h', e1, hK'⟩ hS' hlo'
      subst e1
      exact ih _ _ _ _ _ hK' p l e R s m args below meth c D b cI cS H0 Z Cx H' locs' _ _ ls hS' hlo' (by show cells + (mRm r1).cells + (B.1 - (mRm r1).cells) ≤ R.cells; omega) (by show slots + (mRm r1).slots + (B.2 - (mRm r1).slots) ≤ R.slots; omega) hL
    rcases hkind with ⟨rfl, rfl, hst⟩ | ⟨rfl, rfl, hin, hse, hci, hcn⟩ | ⟨rfl, rfl, hin, hini, hret0⟩
    · simp only [Bool.false_eq_true, if_false] at *
      have hstk : st.map (e_v b) = ((st.take n).reverse.map (e_v b)).reverse ++ (st.drop n).map (e_v b) := by
        rw [← List.map_reverse, List.reverse_reverse, ← List.map_append, List.take_append_drop]
      have hlen : ((st.take n).reverse.map (e_v b)).length = n := by simp; omega
      cases nest with
      | false => exact e_back (va_runS S hM ⟨CB rfl, hts _ hst⟩ ⟨e_blind, hPc⟩ rfl hlen hsz hstk (hrestW _ rfl) hdg hroom) hlo fin
      | true => exact e_back (va_runSN S hM ⟨CN rfl, hts _ hst, trivial⟩ ⟨e_blind, hPc⟩ rfl hlen hsz hstk (hrestW _ rfl) hdg hroom) hlo fin
    · simp only [if_true, Nat.add_sub_cancel, Bool.not_true, Bool.false_or] at *
      obtain ⟨pre, o, rst, z1, z2, z3, z4⟩ := e_isO_spec (e_isP_ok i1 k5)
      have hd : st.drop (n + 1) = rst := by rw [z1, ← z2]; simp
      have ht : (st.take (n + 1)).reverse = .ref o :: pre.reverse := by
        have e0 : pre ++ Value.ref o :: rst = (pre ++ [Value.ref o]) ++ rst := by simp
        rw [z1, ← z2, e0, List.take_left' (by simp)]
        simp
      rw [ht] at hM hPc
      rw [hd] at hM fin hrestW
      have hstk : st.map (e_v b) = (pre.reverse.map (e_v b)).reverse ++ .ref (b + o) :: rst.map (e_v b) := by
        rw [z1]; simp [e_v]
      have hlen : (pre.reverse.map (e_v b)).length = n := by simp [z2]
      have hrec : ∃ cellB : Cell, H[b + o]? = some cellB ∧ cellB.vm.isStatics = false ∧ s.vm.findClass (mNm r1).cls = some cellB.cls := by
        have := va_recv (q0 := 0) hK (va_one (sim_obj hS z3 z4 hci)) (e_cls_at hci) rfl
        rw [hcn] at this
        exact this
      cases nest with
      | false => exact e_back (va_runV (b := b + o) (As := pre.reverse.map (e_v b)) S hM ⟨CB rfl, hts _ hin, hts _ hse⟩ ⟨e_blind, hrec, hPc⟩ rfl hlen hsz hstk (hrestW _ rfl) hdg hroom) hlo fin
      | true => exact e_back (va_runVN (b := b + o) (As := pre.reverse.map (e_v b)) S hM ⟨CN rfl, hts _ hin, hts _ hse⟩ ⟨e_blind, hrec, hPc⟩ rfl hlen hsz hstk (hrestW _ rfl) hdg hroom) hlo fin
    · simp only [if_true, Nat.add_sub_cancel, Bool.not_true, Bool.false_or] at *
      obtain ⟨pre, o, rst, z1, z2, z3, z4⟩ := e_isO_spec (e_isP_ok i1 k5)
      have hd : st.drop (n + 1) = rst := by rw [z1, ← z2]; simp
      have ht : (st.take (n + 1)).reverse = .ref o :: pre.reverse := by
        have e0 : pre ++ Value.ref o :: rst = (pre ++ [Value.ref o]) ++ rst := by simp
        rw [z1, ← z2, e0, List.take_left' (by simp)]
        simp
      rw [ht] at hM hPc
      rw [hd] at hM fin hrestW
      rw [hret0] at CB CN
      have hstk : st.map (e_v b) = (pre.reverse.map (e_v b)).reverse ++ .ref (b + o) :: rst.map (e_v b) := by
        rw [z1]; simp [e_v]
      have hlen : (pre.reverse.map (e_v b)).length = n := by simp [z2]
      cases nest with
      | false => exact e_back (va_runI (b := b + o) (As := pre.reverse.map (e_v b)) S hM ⟨CB rfl, hini, hts _ hin⟩ ⟨e_blind, hPc⟩ rfl hlen hsz hstk (hrestW _ rfl) hdg hroom) hlo fin
      | true => exact e_back (va_runIN (b := b + o) (As := pre.reverse.map (e_v b)) S hM ⟨CN rfl, hini, hts _ hin⟩ ⟨e_blind, hPc⟩ rfl hlen hsz hstk (hrestW _ rfl) hdg hroom) hlo fin
