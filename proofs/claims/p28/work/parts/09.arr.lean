section EARR
variable {p : Program} {l : Launch} {e : Env} {R : Room} {s : State} {m : MethodId} {args : Array Value} {below : List Frame} {meth : Method} {c : Code} {H : Heap} {locs : List Loc} {cells slots : Nat} {Z : State → Prop}
variable {D : va_G} {b : Nat} {cI cS : ClassId} {H0 : Heap} {σ σ' : Sg} {y pc : Nat} {ls : Array Slot} {rest : List Value}
theorem g_len_spec {a n : Nat} (h : g_len σ a = some n) : a < σ.1.1 ∧ (σ.1.2 a).1 = 100 ∧ (σ.1.2 a).2 = n ∧ n < 2147483648 := by
  unfold g_len at h
  cases hq : (Nat.blt a σ.1.1 && (Nat.beq (σ.1.2 a).1 100 && Nat.blt (σ.1.2 a).2 2147483648)) with
  | false => rw [hq] at h; cases h
  | true =>
    rw [hq] at h
    rw [Bool.and_eq_true, Bool.and_eq_true] at hq
    have h1 : a < σ.1.1 := by simpa [Nat.blt_eq] using hq.1
    have h2 : (σ.1.2 a).2 < 2147483648 := by simpa [Nat.blt_eq] using hq.2.2
    have h3 := Option.some.inj h
    exact ⟨h1, Nat.eq_of_beq_eq_true hq.2.1, h3, by rw [← h3]; exact h2⟩
theorem sim_arr {a n : Nat} (hS : e_Sim D b cI cS H0 σ H) (h : g_len σ a = some n) : va_at D e_cls (b + a, .inl (cI, n, .inl (σ.2.2.2 a))) H := by
  obtain ⟨h1, h2, h3, -⟩ := g_len_spec h
  have := hS.2.2 a h1
  rwa [e_ent_int h2, h3] at this
theorem e_alen_ok {a n : Nat} (hx : p.tables.exec = Jvm.exec) (hb : c.code = mBy y) (hK : va_K D e_cls (e_tys cI cS) s) (hS : e_Sim D b cI cS H0 σ H) (h : g_len σ a = some n) (hdg : decode (mBy y) pc = .ok (.arraylength, 1))
    (kk : W p l e R s m args below meth c H locs cells slots Z (F0 m (pc + 1) ls (.int (nI n) :: rest))) : W p l e R s m args below meth c H locs cells slots Z (F0 m pc ls (.ref (b + a) :: rest)) := by
  have h1 : H[b + a]? = some (arrV cI n (fun j => .int (σ.2.2.2 a j))) := sim_arr hS h
  exact W.alen (n := nI n) hx hb h1 ((hK.2 0 _ rfl).1 n _) (by rw [arrV_size] <;> rfl) rfl rfl hdg kk
theorem g_rlen_spec {a n : Nat} (h : g_rlen σ a = some n) : a < σ.1.1 ∧ (σ.1.2 a).1 = 101 ∧ (σ.1.2 a).2 = n := by
  unfold g_rlen at h
  cases hq : (Nat.blt a σ.1.1 && Nat.beq (σ.1.2 a).1 101) with
  | false => rw [hq] at h; cases h
  | true =>
    rw [hq] at h
    rw [Bool.and_eq_true] at hq
    exact ⟨by simpa [Nat.blt_eq] using hq.1, Nat.eq_of_beq_eq_true hq.2, Option.some.inj h⟩
theorem e_rlen_ok {a n : Nat} (hx : p.tables.exec = Jvm.exec) (hb : c.code = mBy y) (hK : va_K D e_cls (e_tys cI cS) s) (hS : e_Sim D b cI cS H0 σ H) (h : g_rlen σ a = some n) (hdg : decode (mBy y) pc = .ok (.arraylength, 1))
    (kk : W p l e R s m args below meth c H locs cells slots Z (F0 m (pc + 1) ls (.int (nI n) :: rest))) : W p l e R s m args below meth c H locs cells slots Z (F0 m pc ls (.ref (b + a) :: rest)) := by
  obtain ⟨h1, h2, h3⟩ := g_rlen_spec h
  subst h3
  have h5 := hS.2.2 a h1
  rw [e_ent_ref h2] at h5
  exact va_alen hx hb hK (va_one h5) 0 1 rfl rfl (v := nI (σ.1.2 a).2) rfl hdg kk
theorem e_iald_ok {a n j : Nat} {i : Int32} (hx : p.tables.exec = Jvm.exec) (hb : c.code = mBy y) (hK : va_K D e_cls (e_tys cI cS) s) (hS : e_Sim D b cI cS H0 σ H) (h : g_len σ a = some n) (hi : i = nI j) (hj : j < n) (hdg : decode (mBy y) pc = .ok (.iaload, 1))
    (kk : W p l e R s m args below meth c H locs cells slots Z (F0 m (pc + 1) ls (.int (σ.2.2.2 a j) :: rest))) : W p l e R s m args below meth c H locs cells slots Z (F0 m pc ls (.int i :: .ref (b + a) :: rest)) := by
  obtain ⟨-, -, -, h4⟩ := g_len_spec h
  subst hi
  refine va_iald hx hb hK (va_one (sim_arr hS h)) 0 0 rfl rfl (vp_in_nI hj (by omega)) hdg ?_
  rw [nI_clamp (by omega)]
  exact kk
theorem e_iast_ok {a n j : Nat} {i x : Int32} (hx : p.tables.exec = Jvm.exec) (hb : c.code = mBy y) (hK : va_K D e_cls (e_tys cI cS) s) (hS : e_Sim D b cI cS H0 σ H) (h : g_len σ a = some n) (hi : i = nI j) (hj : j < n) (hdg : decode (mBy y) pc = .ok (.iastore, 1)) (hlo : ∀ q ∈ locs, b ≤ q.base)
    (kk : ∀ (H' : Heap) (locs' : List Loc), e_Sim D b cI cS H0 (g_wr σ a (u1 (σ.2.2.2 a) j x)) H' → (∀ q ∈ locs', b ≤ q.base) → W p l e R s m args below meth c H' locs' cells slots Z (F0 m (pc + 1) ls rest)) : W p l e R s m args below meth c H locs cells slots Z (F0 m pc ls (.int x :: .int i :: .ref (b + a) :: rest)) := by
  obtain ⟨h1, h2, h3, h4⟩ := g_len_spec h
  subst hi
  have hc : H[b + a]? = some (arrV cI n (fun j => .int (σ.2.2.2 a j))) := sim_arr hS h
  refine W.iast hx hb hc ((hK.2 0 _ rfl).1 n _) (fun q => by cases q) (by rw [arrV_size]; exact vp_in_nI hj (by omega)) rfl rfl hdg fun H1 e1 z oq => ?_
  rw [nI_clamp (by omega)] at e1 ⊢
  refine kk H1 _ (sim_upd hS rfl (fun q hq => e_ent_congr rfl rfl rfl (u1_n _ _ hq)) z oq ?_) ?_
  · rw [e_ent_int (σ := g_wr σ a (u1 (σ.2.2.2 a) j x)) h2]
    show H1[b + a]? = some (vp_cell _ _)
    rw [e1, vp_cell_i, arrV_store]
    show _ = some (arrV cI (σ.1.2 a).2 (fun k => .int (u1 σ.2.2.2 a (u1 (σ.2.2.2 a) j x) a k)))
    rw [h3, u1_s]
    congr 2
    funext q
    by_cases hq : q = j
    · subst hq
      simp [updV, u1]
    · simp [updV, u1, hq]
  · intro q hq
    rcases List.mem_append.mp hq with h | h
    · exact hlo q h
    · rw [List.mem_singleton.mp h]
      exact Nat.le_add_right _ _
theorem g_rget_spec {a j : Nat} {v : Value} (h : g_rget σ a j = some v) : a < σ.1.1 ∧ (σ.1.2 a).1 = 101 ∧ j < (σ.1.2 a).2 ∧ (σ.1.2 a).2 < 2147483648 ∧ v = va_rf (σ.2.1 a j) := by
  unfold g_rget at h
  cases hq : (Nat.blt a σ.1.1 && (Nat.beq (σ.1.2 a).1 101 && (Nat.blt j (σ.1.2 a).2 && Nat.blt (σ.1.2 a).2 2147483648))) with
  | false => rw [hq] at h; cases h
  | true =>
    rw [hq] at h
    rw [Bool.and_eq_true, Bool.and_eq_true, Bool.and_eq_true] at hq
    exact ⟨by simpa [Nat.blt_eq] using hq.1, Nat.eq_of_beq_eq_true hq.2.1, by simpa [Nat.blt_eq] using hq.2.2.1, by simpa [Nat.blt_eq] using hq.2.2.2, (Option.some.inj h).symm⟩
theorem e_aald_ok {a j : Nat} {i : Int32} {v : Value} (hx : p.tables.exec = Jvm.exec) (hb : c.code = mBy y) (hK : va_K D e_cls (e_tys cI cS) s) (hS : e_Sim D b cI cS H0 σ H) (h : g_rget σ a j = some v) (hi : i = nI j) (hdg : decode (mBy y) pc = .ok (.aaload, 1))
    (kk : W p l e R s m args below meth c H locs cells slots Z (F0 m (pc + 1) ls (e_v b v :: rest))) : W p l e R s m args below meth c H locs cells slots Z (F0 m pc ls (.int i :: .ref (b + a) :: rest)) := by
  obtain ⟨h1, h2, h3, h4, rfl⟩ := g_rget_spec h
  subst hi
  have h5 := hS.2.2 a h1
  rw [e_ent_ref h2] at h5
  refine va_aldq hx hb hK (va_one h5) 0 1 rfl rfl (vp_in_nI h3 (by omega)) hdg ?_
  rw [nI_clamp (by omega), ← e_va_map]
  exact kk
theorem g_rput_spec {a j : Nat} {v : Value} (h : g_rput σ a j v = some σ') : a < σ.1.1 ∧ (σ.1.2 a).1 = 101 ∧ j < (σ.1.2 a).2 ∧ (σ.1.2 a).2 < 2147483648 ∧ ∃ o, v = .ref o ∧ o < σ.1.1 ∧ (σ.1.2 o).1 = 5 ∧ σ' = (σ.1, u2 σ.2.1 a j (some o), σ.2.2) := by
  unfold g_rput at h
  cases hq : (Nat.blt a σ.1.1 && (Nat.beq (σ.1.2 a).1 101 && (Nat.blt j (σ.1.2 a).2 && Nat.blt (σ.1.2 a).2 2147483648))) with
  | false => rw [hq] at h; cases h
  | true =>
    rw [hq] at h
    rw [Bool.and_eq_true, Bool.and_eq_true, Bool.and_eq_true] at hq
    refine ⟨by simpa [Nat.blt_eq] using hq.1, Nat.eq_of_beq_eq_true hq.2.1, by simpa [Nat.blt_eq] using hq.2.2.1, by simpa [Nat.blt_eq] using hq.2.2.2, ?_⟩
    simp only [cond_true] at h
    split at h
    · next o =>
      cases hr : (Nat.blt o σ.1.1 && Nat.beq (σ.1.2 o).1 5) with
      | false => rw [hr] at h; cases h
      | true =>
        rw [hr] at h
        rw [Bool.and_eq_true] at hr
        exact ⟨o, rfl, by simpa [Nat.blt_eq] using hr.1, Nat.eq_of_beq_eq_true hr.2, (Option.some.inj h).symm⟩
    · cases h
set_option maxHeartbeats 4000000 in
theorem e_aast_ok {a j : Nat} {i : Int32} {v : Value} (hx : p.tables.exec = Jvm.exec) (hb : c.code = mBy y) (hK : va_K D e_cls (e_tys cI cS) s) (hS : e_Sim D b cI cS H0 σ H) (h : g_rput σ a j v = some σ') (hi : i = nI j) (hdg : decode (mBy y) pc = .ok (.aastore, 1)) (hlo : ∀ q ∈ locs, b ≤ q.base)
    (kk : ∀ (H' : Heap) (locs' : List Loc), e_Sim D b cI cS H0 σ' H' → (∀ q ∈ locs', b ≤ q.base) → W p l e R s m args below meth c H' locs' cells slots Z (F0 m (pc + 1) ls rest)) : W p l e R s m args below meth c H locs cells slots Z (F0 m pc ls (e_v b v :: .int i :: .ref (b + a) :: rest)) := by
  obtain ⟨h1, h2, h3, h4, o, rfl, h5, h6, rfl⟩ := g_rput_spec h
  subst hi
  have h7 := hS.2.2 a h1
  rw [e_ent_ref h2] at h7
  have hca : H[b + a]? = some (arrV cS (σ.1.2 a).2 (fun k => va_rf ((σ.2.1 a k).map (fun j => b + j)))) := h7
  obtain ⟨r', hr', cellV, g1, g2, g3, -⟩ := sim_obj hS h5 h6 (show 5 < 12 by decide)
  have hr : r' = ((e_ct 5).1, (e_ct 5).2.1, (e_ct 5).2.2.1) := Option.some.inj (hr'.symm.trans (e_cls_at (show 5 < 12 by decide)))
  have hcls := (hK.1 5 _ (e_cls_at (show 5 < 12 by decide))).2
  obtain ⟨kA, comp, k1, k2, k3, -⟩ := (hK.2 1 _ rfl).2
  have hcomp : comp = D.1 5 := Option.some.inj (k3.symm.trans hcls.1)
  subst hcomp
  obtain ⟨kC, hkC, -⟩ := hcls.2
  refine W.aast hx hb hca (fun q h => by cases h) (fun h => by cases h) k1 k2 rfl hkC ⟨fun h => (vp_in_nI h3 (by omega)) (Or.inl h), by rw [arrV_size, nI_clamp (by omega)]; exact h3⟩ g1 (fun q h => by rw [g3] at h; cases h) (by rw [g2]; exact hkC) (by rw [g2]; exact va_assign hcls) rfl rfl hdg fun H1 e1 z oq => ?_
  rw [nI_clamp (by omega)] at e1 ⊢
  refine kk H1 _ (sim_upd hS rfl (fun q hq => e_ent_congr rfl (u1_n _ _ hq) rfl rfl) z oq ?_) ?_
  · rw [e_ent_ref (σ := (σ.1, u2 σ.2.1 a j (some o), σ.2.2)) h2]
    show H1[b + a]? = some (vp_cell _ _)
    rw [e1, vp_cell_q, arrV_store]
    congr 2
    funext q
    by_cases hq : q = j
    · subst hq
      simp [updV, u2, u1, va_rf]
    · simp [updV, u2, u1, hq]
  · intro q hq
    rcases List.mem_append.mp hq with h | h
    · exact hlo q h
    · rw [List.mem_singleton.mp h]
      exact Nat.le_add_right _ _
set_option maxHeartbeats 4000000 in
theorem e_new_ok {o cc idx : Nat} (hx : p.tables.exec = Jvm.exec) (hb : c.code = mBy y) (hown : s.vm.findClass (mNm y).cls = some m.cls) (hts : ∀ w ∈ e_WS, w.before args s = true) (hK : va_K D e_cls (e_tys cI cS) s) (hS : e_Sim D b cI cS H0 σ H) (h : g_new σ cc = some (o, σ'))
    (hw : ∀ w ∈ ([.classLink (mNm y).cls idx (e_ct cc).1, .instantiable (e_ct cc).1 (e_ct cc).2.2.1, .initialized (e_ct cc).1] : List Cond), w ∈ e_WS) (hcells : cells + 1 ≤ R.cells) (hslots : slots + (e_ct cc).2.2.1 ≤ R.slots) (hdg : decode (mBy y) pc = .ok (.new idx, 3))
    (kk : ∀ (H' : Heap), e_Sim D b cI cS H0 σ' H' → W p l e R s m args below meth c H' locs (cells + 1) (slots + (e_ct cc).2.2.1) Z (F0 m (pc + 3) ls (.ref (b + o) :: rest))) : W p l e R s m args below meth c H locs cells slots Z (F0 m pc ls rest) := by
  unfold g_new at h
  cases hq : Nat.blt cc 12 with
  | false => rw [hq] at h; cases h
  | true =>
    rw [hq] at h
    have hc : cc < 12 := by simpa [Nat.blt_eq] using hq
    simp only [cond_true, Option.some.injEq, Prod.mk.injEq] at h
    obtain ⟨rfl, rfl⟩ := h
    have hKn := hK.1 cc _ (e_cls_at hc)
    refine W.newcK hx hb hown (hts _ (hw _ (by simp))) (hts _ (hw _ (by simp))) (hts _ (hw _ (by simp))) rfl hdg hcells hslots hKn.2.1 rfl fun H1 kC hkC e1 z1 o1 => ?_
    rw [hS.1] at e1 ⊢
    refine kk H1 (sim_new hS rfl (fun q hq => e_ent_congr (u1_n _ _ hq) (u1_n _ _ hq) (u1_n _ _ hq) rfl) (by rw [z1]) o1 ?_)
    rw [e_ent_obj (c := cc) (by simp [u1]) hc]
    refine ⟨_, e_cls_at hc, (u_born (e_fty cc) hts (e_uws hc) hKn hkC e1 (e_ty_all cc hc)).to (fun j hj => ?_)⟩
    unfold vp_V
    rw [List.getD_eq_getElem?_getD, e_fl_at hj]
    simp only [Option.getD_some, e_fv, u1_s]
    rcases e_kinds cc hc j hj with h1 | h1 | h1
    · rw [h1]; rfl
    · rw [h1]; rfl
    · revert h1
      cases e_fty cc j <;> simp [e_isR, e_isI, defaultValue, va_rf]
set_option maxHeartbeats 4000000 in
theorem e_newI_ok {o n : Nat} {i : Int32} (hx : p.tables.exec = Jvm.exec) (hb : c.code = mBy y) (hts : ∀ w ∈ e_WS, w.before args s = true) (hK : va_K D e_cls (e_tys cI cS) s) (hS : e_Sim D b cI cS H0 σ H) (h : g_newI σ n = some (o, σ')) (hi : i = nI n) (hn : n < 100000)
    (hw : (Cond.arrayClass .int) ∈ e_WS) (hcells : cells + 1 ≤ R.cells) (hslots : slots + n ≤ R.slots) (hdg : decode (mBy y) pc = .ok (.newarray .int, 2))
    (kk : ∀ (H' : Heap), e_Sim D b cI cS H0 σ' H' → W p l e R s m args below meth c H' locs (cells + 1) (slots + n) Z (F0 m (pc + 2) ls (.ref (b + o) :: rest))) : W p l e R s m args below meth c H locs cells slots Z (F0 m pc ls (.int i :: rest)) := by
  unfold g_newI at h
  simp only [Option.some.injEq, Prod.mk.injEq] at h
  obtain ⟨rfl, rfl⟩ := h
  subst hi
  refine va_newaK (atype := .int) hx hb (hts _ hw) rfl hdg rfl (nI_pos (by omega)) (nI_clamp (by omega)) (by show n * 4 ≤ _; omega) hcells hslots rfl fun H1 cA e1 z1 o1 hAr hNm => ?_
  have hcA : cA = cI := Option.some.inj (hNm.symm.trans (hK.2 0 _ rfl).2)
  subst hcA
  rw [hS.1] at e1 ⊢
  refine kk H1 (sim_new hS rfl (fun q hq => e_ent_congr (u1_n _ _ hq) rfl rfl (u1_n _ _ hq)) (by rw [z1]) o1 ?_)
  rw [e_ent_int (by simp [u1])]
  show H1[_]? = some (vp_cell _ _)
  rw [e1, vp_cell_i]
  simp [u1_s]
  rfl
set_option maxHeartbeats 4000000 in
theorem e_newR_ok {o n idx : Nat} {i : Int32} (hx : p.tables.exec = Jvm.exec) (hb : c.code = mBy y) (hown : s.vm.findClass (mNm y).cls = some m.cls) (hts : ∀ w ∈ e_WS, w.before args s = true) (hK : va_K D e_cls (e_tys cI cS) s) (hS : e_Sim D b cI cS H0 σ H) (h : g_newR σ n = some (o, σ')) (hi : i = nI n) (hn : n < 100000)
    (hw : ∀ w ∈ ([.classLink (mNm y).cls idx "PuppetTurns$Scene", .arrayOver (.object "PuppetTurns$Scene")] : List Cond), w ∈ e_WS) (hcells : cells + 1 ≤ R.cells) (hslots : slots + n ≤ R.slots) (hdg : decode (mBy y) pc = .ok (.anewarray idx, 3))
    (kk : ∀ (H' : Heap), e_Sim D b cI cS H0 σ' H' → W p l e R s m args below meth c H' locs (cells + 1) (slots + n) Z (F0 m (pc + 3) ls (.ref (b + o) :: rest))) : W p l e R s m args below meth c H locs cells slots Z (F0 m pc ls (.int i :: rest)) := by
  unfold g_newR at h
  simp only [Option.some.injEq, Prod.mk.injEq] at h
  obtain ⟨rfl, rfl⟩ := h
  subst hi
  refine W.anew hx hb hown (hts (.classLink (mNm y).cls idx "PuppetTurns$Scene") (hw _ (by simp))) (hts (.arrayOver (.object "PuppetTurns$Scene")) (hw _ (by simp))) rfl hdg rfl (nI_pos (by omega)) (by rw [nI_clamp (by omega)]; omega) hcells (by rw [nI_clamp (by omega)]; exact hslots) fun cA kA comp f1 f2 f3 f4 => ?_
  rw [nI_clamp (by omega)]
  have hcA : cA = cS := by
    obtain ⟨_, _, _, _, _, g4⟩ := (hK.2 1 _ rfl).2
    exact Option.some.inj (f1.symm.trans g4)
  subst hcA
  generalize hH1 : H.push ({ cls := cA, slots := Array.replicate n .null, vm := .none } : Cell) = H1
  have z1 : H1.size = H.size + 1 := by rw [← hH1, Array.size_push]
  have e1 : H1[H.size]? = some (arrV cA n (fun _ => .null)) := by rw [← hH1, Array.getElem?_push_size, ← arrV_new]
  have o1 : ∀ q : Nat, q < H.size → H1[q]? = H[q]? := fun q hq => by rw [← hH1, Array.getElem?_push, if_neg (Nat.ne_of_lt hq)]
  rw [hS.1] at e1 ⊢
  refine kk H1 (sim_new hS rfl (fun q hq => e_ent_congr (u1_n _ _ hq) (u1_n _ _ hq) rfl rfl) z1 o1 ?_)
  rw [e_ent_ref (by simp [u1])]
  show H1[_]? = some (vp_cell _ _)
  rw [e1, vp_cell_q]
  simp [u1_s, va_rf]
end EARR
