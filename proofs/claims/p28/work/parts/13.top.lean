set_option maxHeartbeats 4000000 in
/-- a method's contract, out of its weakest precondition -/
theorem e_call_of {η : Type} {I : e_IT η} (hI : e_IOk I) {y n : Nat} (hM : OkM y) (hy : plainName (mNm y).cls = true) {as : List Value} {h : η} {Q : Option Value → η → Prop} (hlen : Nat.ble (e_args as).length (mML y) = true) (hwp : e_wp I y Q n 0 (e_L0 as (mML y)) [] ((mRm y).cells, (mRm y).slots) h) (hyl : Nat.beq y y_L_law = false := by rfl) : e_CallI I y as h Q := by
  intro l D b cI cS H0
  refine Met.ofW (cc := mBy y) (maxL := mML y) (ret := mRet y) hy rfl ?_
  intro p e s m args below meth c s₁ B hml hv
  obtain ⟨rfl, hS, hK⟩ := hv
  have hx := B.exec
  have hb := B.bytes
  have hr := B.returns
  have hlocks := B.notSynchronized
  have hts := atoms_spec (ws := mWs y) B.pre
  have hret : e_Ret p l e (mRm y) s m (as.map (e_v b)).toArray below meth c D b cI cS H0 (MQ below (e_Qc D b cI cS H0 (fun r σ => ∃ h', σ = I.1 h' ∧ Q r h')) (as.map (e_v b)).toArray s (mRm y).cells (mRm y).slots (fun q => b ≤ q)) y (fun r σ => ∃ h', σ = I.1 h' ∧ Q r h') := by
    intro r σ H locs cells slots pc ls hQ hS' hlo hc hs hdg hok
    refine W.widen hc hs ?_
    revert hok
    cases r with
    | none =>
      cases hm : mRet y with
      | none => intro _; exact W.vret hx hb (hr.trans hm) (fun t ht hW => ⟨none, σ, rfl, hQ, by rw [ht]; exact hS'⟩) hlo hdg
      | some t => intro z; cases t <;> exact z.elim
    | some v =>
      cases hm : mRet y with
      | none => intro z; exact z.elim
      | some t =>
        intro z
        cases t <;> cases v <;> first
          | exact z.elim
          | exact W.iret hx hb (hr.trans hm) (fun t ht hW => ⟨some _, σ, rfl, hQ, by rw [ht]; exact hS'⟩) hlo hdg
          | exact W.lret hx hb (hr.trans hm) (fun t ht hW => ⟨some _, σ, rfl, hQ, by rw [ht]; exact hS'⟩) hlo hdg
          | exact W.zret hx hb (hr.trans hm) (by rcases z with rfl | rfl <;> rfl) (fun t ht hW => ⟨some _, σ, rfl, hQ, by rw [ht]; exact hS'⟩) hlo hdg
          | exact W.aret hx hb (hr.trans hm) (Or.inl ⟨_, rfl⟩) (Or.inr ⟨_, rfl⟩) (fun t ht hW => ⟨some _, σ, rfl, hQ, by rw [ht]; exact hS'⟩) hlo hdg
  rw [lg_entry_eq]
  exact e_wp_ok hI hM n 0 _ [] _ h hwp p l e (mRm y) s m _ below meth c D b cI cS H0 _ ⟨hx, hb, hml, findClass_of_methodNamed B.named, fun w hw => hts w (List.mem_cons_of_mem _ hw), hK, Nat.le_refl _, Nat.le_refl _, (name_of_methodNamed B.named B.method).1, hret, fun z => absurd (hyl.symm.trans z) (by decide)⟩ s.heap [] 0 0 _ hS (fun q hq => (by cases hq)) (by simp) (by simp) (by rw [e_x0_no hyl]; exact e_LH_entry b (mML y) as (Nat.le_of_ble_eq_true hlen))
