section EHEAP
variable {p : Program} {l : Launch} {e : Env} {R : Room} {s : State} {m : MethodId} {args : Array Value} {below : List Frame} {meth : Method} {c : Code} {H : Heap} {locs : List Loc} {cells slots : Nat} {Z : State → Prop}
variable {D : va_G} {b : Nat} {cI cS : ClassId} {H0 : Heap} {σ σ' : Sg} {y pc : Nat} {ls : Array Slot} {rest : List Value}
theorem g_get_spec {o k cc : Nat} {v : Value} (h : g_get σ o cc k = some v) : o < σ.1.1 ∧ (σ.1.2 o).1 = cc ∧ v = (bif e_isI (e_fty cc k) then .int (σ.2.2.1 o k) else va_rf (σ.2.1 o k)) := by
  unfold g_get at h
  cases hq : (Nat.blt o σ.1.1 && Nat.beq (σ.1.2 o).1 cc) with
  | false => rw [hq] at h; cases h
  | true =>
    rw [hq] at h
    rw [Bool.and_eq_true] at hq
    exact ⟨by simpa [Nat.blt_eq] using hq.1, Nat.eq_of_beq_eq_true hq.2, (Option.some.inj h).symm⟩
theorem e_fv_get {o k cc : Nat} : e_v b (bif e_isI (e_fty cc k) then .int (σ.2.2.1 o k) else va_rf (σ.2.1 o k)) = e_fv b σ cc o k := by
  unfold e_fv
  cases e_isI (e_fty cc k) with
  | true => rfl
  | false => exact e_va_map _ _
theorem sim_obj {o cc : Nat} (hS : e_Sim D b cI cS H0 σ H) (ho : o < σ.1.1) (hcl : (σ.1.2 o).1 = cc) (hc : cc < 12) : va_at D e_cls (b + o, .inr (cc, e_fl b σ cc o)) H := by
  have := hS.2.2 o ho
  rwa [e_ent_obj hcl hc] at this
theorem va_one {q : Nat × va_E} (h : va_at D e_cls q H) : va_P D e_cls [q] H := by
  intro k x hk
  cases k with
  | zero => cases hk; exact h
  | succ k => simp at hk
theorem e_getf_ok {o cc k idx : Nat} {nest : Bool} {v : Value} (hx : p.tables.exec = Jvm.exec) (hb : c.code = mBy y) (hown : s.vm.findClass (mNm y).cls = some m.cls) (hts : ∀ w ∈ e_WS, w.before args s = true) (hK : va_K D e_cls (e_tys cI cS) s) (hS : e_Sim D b cI cS H0 σ H) (hg : g_get σ o cc k = some v) (hc : cc < 12) (hk : k < (e_ct cc).2.2.1)
    (hw : (bif nest then Cond.fieldLinkNest (mNm y).cls idx ((e_ct cc).2.1 k).1 ((e_ct cc).2.1 k).2.1 ((e_ct cc).2.1 k).2.2.1 "PuppetTurns" else Cond.fieldLink (mNm y).cls idx ((e_ct cc).2.1 k).1 ((e_ct cc).2.1 k).2.1 ((e_ct cc).2.1 k).2.2.1) ∈ e_WS) (hdg : decode (mBy y) pc = .ok (.getfield idx, 3))
    (kk : W p l e R s m args below meth c H locs cells slots Z (F0 m (pc + 3) ls (e_v b v :: rest))) : W p l e R s m args below meth c H locs cells slots Z (F0 m pc ls (.ref (b + o) :: rest)) := by
  obtain ⟨ho, hcl, rfl⟩ := g_get_spec hg
  rw [e_fv_get] at kk
  have hP := va_one (sim_obj hS ho hcl hc)
  cases nest with
  | false => exact va_get (own := (mNm y).cls) (C := (e_ct cc).1) (T := (e_ct cc).2.1) (N := (e_ct cc).2.2.1) (Ts := e_WS) hx hb hts (e_uws hc) hown hK hP 0 rfl (e_cls_at hc) k hk (hts _ hw) (fun _ h => h) (e_fl_at hk) hdg kk
  | true => exact va_getN (own := (mNm y).cls) (host := "PuppetTurns") (C := (e_ct cc).1) (T := (e_ct cc).2.1) (N := (e_ct cc).2.2.1) (Ts := e_WS) hx hb hts (e_uws hc) hown hK hP 0 rfl (e_cls_at hc) k hk (hts _ hw) (fun _ h => h) (e_fl_at hk) hdg kk
theorem g_put_spec {o k cc : Nat} {v : Value} (h : g_put σ o cc k v = some σ') : o < σ.1.1 ∧ (σ.1.2 o).1 = cc ∧
    ((∃ x, v = .int x ∧ e_isI (e_fty cc k) = true ∧ σ' = (σ.1, σ.2.1, u2 σ.2.2.1 o k x, σ.2.2.2)) ∨ (∃ j, v = .ref j ∧ e_isI (e_fty cc k) = false ∧ σ' = (σ.1, u2 σ.2.1 o k (some j), σ.2.2))) := by
  unfold g_put at h
  cases hq : (Nat.blt o σ.1.1 && Nat.beq (σ.1.2 o).1 cc) with
  | false => rw [hq] at h; cases h
  | true =>
    rw [hq] at h
    rw [Bool.and_eq_true] at hq
    refine ⟨by simpa [Nat.blt_eq] using hq.1, Nat.eq_of_beq_eq_true hq.2, ?_⟩
    simp only [cond_true] at h
    split at h
    · next x =>
      cases hi : e_isI (e_fty cc k) with
      | true => rw [hi] at h; exact Or.inl ⟨x, rfl, rfl, (Option.some.inj h).symm⟩
      | false => rw [hi] at h; cases h
    · next j =>
      cases hi : e_isI (e_fty cc k) with
      | true => rw [hi] at h; cases h
      | false => rw [hi] at h; exact Or.inr ⟨j, rfl, rfl, (Option.some.inj h).symm⟩
    · cases h
/-- what a write to a field makes of the list of fields, and of the other objects -/
theorem put_fl {o k cc : Nat} {v : Value} (h : g_put σ o cc k v = some σ') (hc : cc < 12) : σ'.1 = σ.1 ∧ e_fl b σ' cc o = (e_fl b σ cc o).set k (e_v b v) ∧ ∀ q, q ≠ o → e_ent b cI cS σ' q = e_ent b cI cS σ q := by
  obtain ⟨ho, hcl, h | h⟩ := g_put_spec h
  · obtain ⟨x, rfl, hi, rfl⟩ := h
    refine ⟨rfl, e_fl_set ?_ ?_, fun q hq => e_ent_congr rfl rfl ?_ rfl⟩
    · simp [e_fv, hi, u2, u1, e_v]
    · intro j hj
      simp [e_fv, u2, u1, hj]
    · simp [u2, u1, hq]
  · obtain ⟨j, rfl, hi, rfl⟩ := h
    refine ⟨rfl, e_fl_set ?_ ?_, fun q hq => e_ent_congr rfl ?_ rfl rfl⟩
    · simp [e_fv, hi, u2, u1, e_v, va_rf]
    · intro i hj
      simp [e_fv, u2, u1, hj]
    · simp [u2, u1, hq]
theorem e_narrow_ref (t : FieldType) (a : Nat) : narrow t (.ref a) = .ref a := by cases t <;> rfl
theorem put_fit {o k cc : Nat} {v : Value} (h : g_put σ o cc k v = some σ') (hc : cc < 12) (hk : k < (e_ct cc).2.2.1) (hbo : e_fty cc k = .boolean → v = .int 0 ∨ v = .int 1) : narrow (e_fty cc k) (e_v b v) = e_v b v ∧ fits (e_fty cc k) (e_v b v) = true := by
  obtain ⟨ho, hcl, h | h⟩ := g_put_spec h
  · obtain ⟨x, rfl, hi, -⟩ := h
    rcases e_kinds cc hc k hk with h1 | h1 | h1
    · rw [h1]; exact ⟨rfl, rfl⟩
    · rcases hbo h1 with h2 | h2
      · rw [h1, h2]; exact ⟨rfl, show fits .boolean (.int 0) = true by decide⟩
      · rw [h1, h2]; exact ⟨rfl, show fits .boolean (.int 1) = true by decide⟩
    · revert hi h1; cases e_fty cc k <;> simp [e_isI, e_isR]
  · obtain ⟨j, rfl, hi, -⟩ := h
    rcases e_kinds cc hc k hk with h1 | h1 | h1
    · rw [h1] at hi; cases hi
    · rw [h1] at hi; cases hi
    · refine ⟨e_narrow_ref _ _, ?_⟩
      revert h1
      cases e_fty cc k <;> simp [e_isR, e_v, fits]
set_option maxHeartbeats 4000000 in
theorem e_putf_ok {o cc k idx : Nat} {nest : Bool} {v : Value} (hx : p.tables.exec = Jvm.exec) (hb : c.code = mBy y) (hown : s.vm.findClass (mNm y).cls = some m.cls) (hts : ∀ w ∈ e_WS, w.before args s = true) (hK : va_K D e_cls (e_tys cI cS) s) (hnm : meth.name = (mNm y).name) (hS : e_Sim D b cI cS H0 σ H) (hg : g_put σ o cc k v = some σ') (hc : cc < 12) (hk : k < (e_ct cc).2.2.1) (hbo : e_fty cc k = .boolean → v = .int 0 ∨ v = .int 1)
    (hfin : ((e_ct cc).2.1 k).2.2.2 = false ∨ ((mNm y).name = "<init>" ∧ ((e_ct cc).2.1 k).1 = (mNm y).cls ∧ nest = false))
    (hw : (bif nest then Cond.fieldLinkNest (mNm y).cls idx ((e_ct cc).2.1 k).1 ((e_ct cc).2.1 k).2.1 ((e_ct cc).2.1 k).2.2.1 "PuppetTurns" else Cond.fieldLink (mNm y).cls idx ((e_ct cc).2.1 k).1 ((e_ct cc).2.1 k).2.1 ((e_ct cc).2.1 k).2.2.1) ∈ e_WS) (hdg : decode (mBy y) pc = .ok (.putfield idx, 3)) (hlo : ∀ q ∈ locs, b ≤ q.base)
    (kk : ∀ (H' : Heap) (locs' : List Loc), e_Sim D b cI cS H0 σ' H' → (∀ q ∈ locs', b ≤ q.base) → W p l e R s m args below meth c H' locs' cells slots Z (F0 m (pc + 3) ls rest)) : W p l e R s m args below meth c H locs cells slots Z (F0 m pc ls (e_v b v :: .ref (b + o) :: rest)) := by
  obtain ⟨ho, hcl, -⟩ := g_put_spec hg
  obtain ⟨hσ, hfl, hot⟩ := put_fl (b := b) (cI := cI) (cS := cS) hg hc
  obtain ⟨hn, hfit⟩ := put_fit (b := b) hg hc hk hbo
  have hd := e_ty_all cc hc k hk
  have hap := va_apart (own := (mNm y).cls) hts (e_uws hc) (e_fty cc) (e_ty_all cc hc) (e_nm_all cc hc) hK (e_cls_at hc)
  obtain ⟨r, h1, cell, q1, q2, q3, q4⟩ := sim_obj hS ho hcl hc
  have hr : r = ((e_ct cc).1, (e_ct cc).2.1, (e_ct cc).2.2.1) := Option.some.inj (h1.symm.trans (e_cls_at hc))
  subst hr
  obtain ⟨hSl, hfc, kC, hkC, hkind⟩ := hK.1 cc _ (e_cls_at hc)
  obtain ⟨cf, kf, fi, f, hi, hsl⟩ := hSl k hk
  have hlay := hts _ (e_uws hc _ (u_in_lay hk))
  have hst := (u_facts hfc hkC (u_lays hts (e_uws hc) hk) hi).1
  have fin : ∀ (H' : Heap) (j : Nat), H'[b + o]? = some (cell.setSlot f.slot (e_v b v)) → H'.size = H.size → (∀ q, q ≠ b + o → H'[q]? = H[q]?) → W p l e R s m args below meth c H' (locs ++ [⟨b + o, j⟩]) cells slots Z (F0 m (pc + 3) ls rest) := by
    intro H' j e1 e2 e3
    rw [hsl] at e1
    refine kk H' _ (sim_upd hS (by rw [hσ]) hot e2 e3 ?_) ?_
    · rw [e_ent_obj (by rw [hσ]; exact hcl) hc, hfl]
      exact ⟨_, e_cls_at hc, t_OB.to (V := updV (vp_V (e_fl b σ cc o)) k (e_v b v)) ⟨_, e1, q2, q3, t_set q4 hap hk _⟩ (fun j _ => vp_updV_set (by rw [e_fl_len]; exact hk) _ j)⟩
    · intro q hq
      rcases List.mem_append.mp hq with h | h
      · exact hlo q h
      · rw [List.mem_singleton.mp h]
        exact Nat.le_add_right _ _
  unfold u_lay at hlay
  cases hf : ((e_ct cc).2.1 k).2.2.2 with
  | false =>
    rw [if_neg (by rw [hf]; decide)] at hlay
    have h6 := u_store hfc hkC hkind hlay hi hd hn hfit
    cases nest with
    | false => exact W.putK hx hb (f := f) ⟨hown, hts _ hw, ⟨_, _, _, hi⟩, hst⟩ (by rw [q2]; exact h6) q1 q3 (by rw [hsl]; exact k2_hasslot (q4 k hk)) rfl rfl hdg (fun H' e1 e2 e3 => fin H' _ e1 e2 e3)
    | true => exact va_WputK hx hb (f := f) hown (hts _ hw) hi hst (by rw [q2]; exact h6) q1 q3 (by rw [hsl]; exact k2_hasslot (q4 k hk)) rfl rfl hdg (fun H' e1 e2 e3 => fin H' _ e1 e2 e3)
  | true =>
    rw [if_pos hf] at hlay
    rcases hfin with h7 | ⟨hin, hdecl, hne⟩
    · rw [hf] at h7; cases h7
    · subst hne
      have hcf : m.cls = cf := by
        obtain ⟨_, _, c', _, _, _, -, -, hf', -, -, -, hown2, -⟩ := Cond.laysFinal_spec hlay
        have e1 : c' = cf := by have := hi.symm.trans hf'; simp at this; exact this.1.symm
        rw [hdecl] at hown2
        rw [← e1]; exact Option.some.inj (hown.symm.trans hown2)
      have h6 := u_fits hfc hkC hkind (Or.inr hlay) hi hd hn hfit
      exact W.putFinK hx hb hown (hts _ hw) hi hst hcf (by rw [hnm]; exact hin) (by rw [q2]; exact h6) q1 q3 (by rw [hsl]; exact k2_hasslot (q4 k hk)) rfl rfl hdg (fun H' e1 e2 e3 => fin H' _ e1 e2 e3)
end EHEAP
