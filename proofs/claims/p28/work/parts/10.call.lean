section ECALL
variable {p : Program} {l : Launch} {e : Env} {R : Room} {s : State} {m : MethodId} {args : Array Value} {below : List Frame} {meth : Method} {c : Code} {H : Heap} {locs : List Loc} {cells slots : Nat} {Z : State → Prop}
variable {D : va_G} {b : Nat} {cI cS : ClassId} {H0 : Heap} {σ σ' : Sg} {y pc : Nat} {ls : Array Slot} {rest : List Value}
set_option maxHeartbeats 4000000 in
theorem e_copy_ok {a a0 n0 n1 j idx : Nat} {n sp dp : Int32} (hx : p.tables.exec = Jvm.exec) (hb : c.code = mBy y) (hml : c.maxLocals = ls.size) (hown : s.vm.findClass (mNm y).cls = some m.cls) (hts : ∀ w ∈ e_WS, w.before args s = true) (hK : va_K D e_cls (e_tys cI cS) s) (hS : e_Sim D b cI cS H0 σ H) (hl1 : g_len σ a = some n1) (hl0 : g_len σ a0 = some n0) (hn : n = nI j) (hj1 : j ≤ n1) (hj0 : j ≤ n0) (hsp : sp = 0) (hdp : dp = 0)
    (hw : ∀ w ∈ ([.methodLink (mNm y).cls idx arraycopyName, .native arraycopyName, .static arraycopyName, .initialized "java/lang/System"] : List Cond), w ∈ e_WS) (hframes : 1 ≤ R.frames) (hlocals : (rest.map fun v => v.category).sum + (nativeFrameWords "java/lang/System" "arraycopy" 5 + 11) ≤ R.locals) (hdg : decode (mBy y) pc = .ok (.invokestatic idx, 3)) (hlo : ∀ q ∈ locs, b ≤ q.base)
    (kk : ∀ (H' : Heap) (locs' : List Loc), e_Sim D b cI cS H0 (g_wr σ a (e_cpy (σ.2.2.2 a0) (σ.2.2.2 a) j)) H' → (∀ q ∈ locs', b ≤ q.base) → W p l e R s m args below meth c H' locs' cells slots Z (F0 m (pc + 3) ls rest)) : W p l e R s m args below meth c H locs cells slots Z (F0 m pc ls (.int n :: .int dp :: .ref (b + a) :: .int sp :: .ref (b + a0) :: rest)) := by
  subst hn; subst hsp; subst hdp
  obtain ⟨s1, s2, s3, s4⟩ := g_len_spec hl1
  obtain ⟨r1, r2, r3, r4⟩ := g_len_spec hl0
  have hc0 : H[b + a0]? = some (vp_cell cI (n0, .inl (σ.2.2.2 a0))) := sim_arr hS hl0
  have hc1 : H[b + a]? = some (vp_cell cI (n1, .inl (σ.2.2.2 a))) := sim_arr hS hl1
  have hcl : (nI j).toNatClampNeg = j := nI_clamp (by omega)
  have hti : (nI j).toInt = (j : Int) := nI_toInt (by omega)
  intro T hT X
  obtain ⟨-, k0, hk0, cm0, hkk0⟩ := (hK.2 0 _ rfl).1 n0 (fun k => .int (σ.2.2.2 a0 k))
  obtain ⟨-, k1, hk1, cm1, hkk1⟩ := (hK.2 0 _ rfl).1 n1 (fun k => .int (σ.2.2.2 a k))
  obtain ⟨vm', X', step⟩ := X.arraycopy hx hown (hts (.methodLink (mNm y).cls idx arraycopyName) (hw _ (by simp))) (hts (.native arraycopyName) (hw _ (by simp))) (hts (.static arraycopyName) (hw _ (by simp))) (hts (.initialized "java/lang/System") (hw _ (by simp))) (src := b + a0) (dst := b + a) (cs := vp_cell cI (n0, .inl (σ.2.2.2 a0))) (cd := vp_cell cI (n1, .inl (σ.2.2.2 a))) (srcPos := 0) (destPos := 0) (n := nI j) (by rw [hT]; exact hc0) (by rw [hT]; exact hc1)
    (fun _ h => by cases h) (fun _ h => by cases h) (fun h => by cases h) (fun h => by cases h) hk0 hk1 hkk0 hkk1 (by simp [refKind]) (by decide) (by decide) (nI_pos (by omega))
    (by rw [hti]; show ¬ (0 : Int) + _ > ((arrV cI n0 (fun k => .int (σ.2.2.2 a0 k))).slots.size : Int); rw [arrV_size]; omega)
    (by rw [hti]; show ¬ (0 : Int) + _ > ((arrV cI n1 (fun k => .int (σ.2.2.2 a k))).slots.size : Int); rw [arrV_size]; omega)
    (fun vm₁ _ i hi => by
      rw [hcl] at hi
      have e1 : (vp_cell cI (n0, .inl (σ.2.2.2 a0))).slots.getD ((0 : Int32).toNatClampNeg + i) .null = .int (σ.2.2.2 a0 i) := by
        show (arrV cI n0 (fun k => .int (σ.2.2.2 a0 k))).slots.getD (0 + i) _ = _
        rw [Array.getD_eq_getD_getElem?, arrV_read _ _ (by omega), Nat.zero_add]
        rfl
      refine ⟨?_, ?_⟩
      · rw [e1]
        rfl
      · rw [e1]
        exact trivial)
    (g := F0 m pc ls (.int (nI j) :: .int 0 :: .ref (b + a) :: .int 0 :: .ref (b + a0) :: rest)) rfl (by rw [hml]) (rest := rest) rfl (by rw [hb]; exact hdg) hframes (by show 2 * 0 + _ + _ ≤ _; omega)
  have e1 : copied (vp_cell cI (n0, .inl (σ.2.2.2 a0))) (vp_cell cI (n1, .inl (σ.2.2.2 a))) 0 0 (nI j) = vp_cell cI (n1, .inl (va_cpy (σ.2.2.2 a0) (σ.2.2.2 a) (0 : Int32).toNatClampNeg (0 : Int32).toNatClampNeg (nI j).toNatClampNeg)) := va_copied (fun z => .int z) cI cI (σ.2.2.2 a0) (σ.2.2.2 a) (by rw [hcl]; show 0 + j ≤ n0; omega)
  have e2 : va_cpy (σ.2.2.2 a0) (σ.2.2.2 a) (0 : Int32).toNatClampNeg (0 : Int32).toNatClampNeg (nI j).toNatClampNeg = e_cpy (σ.2.2.2 a0) (σ.2.2.2 a) j := by
    rw [hcl]
    funext k
    show (if 0 ≤ k ∧ k < 0 + j then σ.2.2.2 a0 (0 + (k - 0)) else σ.2.2.2 a k) = if k < j then σ.2.2.2 a0 k else σ.2.2.2 a k
    simp
  rw [e1, e2] at X' step
  have hl : b + a < H.size := (Array.getElem?_eq_some_iff.mp hc1).1
  generalize hC : vp_cell cI (n1, .inl (e_cpy (σ.2.2.2 a0) (σ.2.2.2 a) j)) = C at X' step
  have hheap : ((T.setVm vm').setCell (b + a) C).heap = H.setIfInBounds (b + a) C := by rw [← hT]; rfl
  obtain ⟨t, a1, b1⟩ := kk _ _ (sim_upd (H' := H.setIfInBounds (b + a) C) hS rfl (fun q hq => e_ent_congr rfl rfl rfl (u1_n _ _ hq)) (by simp) (fun q hq => by simp [Array.getElem?_setIfInBounds, Ne.symm hq]) (by
      rw [e_ent_int (σ := g_wr σ a (e_cpy (σ.2.2.2 a0) (σ.2.2.2 a) j)) s2]
      show (H.setIfInBounds (b + a) C)[b + a]? = some (vp_cell cI ((σ.1.2 a).2, .inl (u1 σ.2.2.2 a (e_cpy (σ.2.2.2 a0) (σ.2.2.2 a) j) a)))
      rw [s3, u1_s, hC]
      simp [Array.getElem?_setIfInBounds, hl])) (fun q hq => by
      rcases List.mem_append.mp hq with h | h
      · exact hlo q h
      · obtain ⟨z, -, hz⟩ := List.mem_map.mp h
        rw [← hz]
        exact Nat.le_add_right _ _) _ hheap X'
  exact ⟨t, step t a1, b1⟩
theorem e_blind {as : List Value} : FrameBlind (e_Pc D b cI cS H0 σ as) := fun a U g mk q => by
  obtain ⟨q0, qS, qK⟩ := q
  exact ⟨q0, qS, va_K.moved (u := U) (U := U.calling g mk a) (Vm.Alike.refl U.vm) qK⟩
/-- what a caller's tables say of a callee -/
theorem e_calls {r1 x n : Nat} {nest : Bool} (hts : ∀ w ∈ e_WS, w.before args s = true) (hok : e_callOk y r1 n = true) (hw1 : e_link y r1 x nest ∈ e_WS) (hw2 : (Cond.initialized (mNm r1).cls) ∈ e_WS) (hw3 : (Cond.code (mNm r1) (mBy r1) (mML r1) (mRet r1)) ∈ e_WS) (hf : (mRm y).frames ≤ R.frames) (hl : (mRm y).locals ≤ R.locals) :
    (nest = false → CallB R s args (mNm y).cls x (mNm r1) (mBy r1) (mML r1) (mRet r1) (mWs r1) (mRm r1) (mRm r1).cells (mRm r1).slots n) ∧ (nest = true → va_CN R s args (mNm y).cls x (mNm r1) "PuppetTurns" (mBy r1) (mML r1) (mRet r1) (mWs r1) (mRm r1) (mRm r1).cells (mRm r1).slots n) := by
  unfold e_callOk at hok
  simp only [Bool.and_eq_true] at hok
  obtain ⟨⟨⟨⟨⟨o1, o2⟩, o3⟩, o4⟩, o5⟩, -⟩ := hok
  have o1 := of_decide_eq_true o1
  have o2 := of_decide_eq_true o2
  have o3 := of_decide_eq_true o3
  have o4 := Nat.le_of_ble_eq_true o4
  have o5 := Nat.le_of_ble_eq_true o5
  have hws : ∀ w ∈ mWs r1, ∀ (a' : Array Value) (U : State), s.WarmedH U.vm → w.before a' U = true := by
    intro w hw a' U hW
    have hm : w ∈ e_WS := (List.mem_cons.mp hw).elim (fun h => h ▸ hw3) id
    exact e_warm hm hW (hts w hm)
  have hsig : ∀ sig, parseMethodDescriptor (mNm r1).desc = some sig → n = sig.parameters.length := by
    intro sig h
    rw [h] at o3
    exact (Option.some.inj o3).symm
  refine ⟨fun hn => ?_, fun hn => ?_⟩
  · subst hn
    exact ⟨rfl, rfl, by omega, by omega, hws, List.mem_cons_self, hts _ hw3, hts _ hw2, ⟨o1, o2⟩, hsig, hts _ hw1⟩
  · subst hn
    exact ⟨⟨rfl, rfl, by omega, by omega, hws, List.mem_cons_self⟩, hts _ hw3, hts _ hw2, ⟨o1, o2⟩, hsig, hts _ hw1⟩
/-- behind a call -/
theorem e_back {r1 : Nat} {st0 rst : List Value} {Q : Option Value → Sg → Prop} {a : Array Value} (hr : va_Run p l e R s m args below meth c H locs cells slots (mRm r1).cells (mRm r1).slots (F0 m pc ls st0) (rst.map (e_v b)) (e_Qc D b cI cS H0 Q a) (fun q => b ≤ q)) (hlo : ∀ q ∈ locs, b ≤ q.base)
    (kk : ∀ (r : Option Value) (σ' : Sg) (H' : Heap) (locs' : List Loc), Q r σ' → e_Sim D b cI cS H0 σ' H' → (∀ q ∈ locs', b ≤ q.base) → W p l e R s m args below meth c H' locs' (cells + (mRm r1).cells) (slots + (mRm r1).slots) Z (F0 m (pc + 3) ls ((r.toList ++ rst).map (e_v b)))) : W p l e R s m args below meth c H locs cells slots Z (F0 m pc ls st0) := by
  intro T hT X
  obtain ⟨v, st₀, t, T', L, h0, X', hL, e1, e2, ⟨r, σ', hv, hQ, hS'⟩, st⟩ := hr T hT X
  have hv : v = r.map (e_v b) := by
    injection hv
  subst hv
  rw [← e1] at hS'
  obtain ⟨t2, a1, b1⟩ := kk r σ' T'.heap (locs ++ L) hQ hS' (fun q hq => (List.mem_append.mp hq).elim (hlo q) (hL q)) T' rfl X'
  refine ⟨t2, st t2 ?_, b1⟩
  have e3 : (r.toList ++ rst).map (e_v b) = (r.map (e_v b)).toList ++ rst.map (e_v b) := by cases r <;> simp
  rw [e3] at a1
  exact a1
theorem e_cat_sum : ∀ st : List Value, ((st.map (e_v b)).map fun v => v.category).sum = e_cat st
  | [] => rfl
  | v :: r => by simp only [List.map_cons, List.sum_cons, e_cat, e_v_cat, e_cat_sum r]
theorem e_isO_spec {ci : Nat} : ∀ {st : List Value} {n : Nat}, e_isO σ ci st n = true → ∃ (pre : List Value) (o : Nat) (rst : List Value), st = pre ++ .ref o :: rst ∧ pre.length = n ∧ o < σ.1.1 ∧ (σ.1.2 o).1 = ci
  | [], n, h => by cases n <;> simp [e_isO] at h
  | v :: r, 0, h => by
    cases v <;> simp only [e_isO] at h <;> try (cases h)
    next o =>
      rw [Bool.and_eq_true] at h
      exact ⟨[], o, r, rfl, rfl, by simpa [Nat.blt_eq] using h.1, Nat.eq_of_beq_eq_true h.2⟩
  | v :: r, n + 1, h => by
    have h' : e_isO σ ci r n = true := by cases v <;> simpa [e_isO] using h
    obtain ⟨pre, o, rst, h1, h2, h3, h4⟩ := e_isO_spec h'
    exact ⟨v :: pre, o, rst, by rw [h1]; rfl, by simp [h2], h3, h4⟩
end ECALL
