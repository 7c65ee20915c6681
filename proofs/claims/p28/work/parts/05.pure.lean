section EPURE
variable {p : Program} {l : Launch} {e : Env} {R : Room} {s : State} {m : MethodId} {args : Array Value} {below : List Frame} {meth : Method} {c : Code} {H : Heap} {locs : List Loc} {cells slots : Nat} {Z : State → Prop}
set_option maxHeartbeats 4000000 in
theorem e_pure_ok {y b pc nL r1 : Nat} {x0 : Option Nat} {i : Instr} {sw : List (Int32 × Nat)} {L L' : List (Option Value)} {st st' : List Value} {ls : Array Slot} (hx : p.tables.exec = Jvm.exec) (hb : c.code = mBy y) (hown : s.vm.findClass (mNm y).cls = some m.cls)
    (hsw : e_swOk i sw = true) (hw : ∀ w ∈ e_need y i r1 0 false sw, w.before args s = true) (hdg : decode (mBy y) pc = .ok (i, e_len i)) (hL : e_LH b x0 ls nL L) (h : e_pure i sw r1 L st = some (L', st'))
    (kk : ∀ ls', e_LH b x0 ls' nL L' → W p l e R s m args below meth c H locs cells slots Z (F0 m (pc + e_len i) ls' (st'.map (e_v b)))) :
    W p l e R s m args below meth c H locs cells slots Z (F0 m pc ls (st.map (e_v b))) := by
  unfold e_pure at h
  split at h
  -- iconst
  · split at h
    · cases h
      simp only [e_swOk] at hsw
      exact lv_iconst hx hb hdg (of_decide_eq_true hsw) (kk ls hL)
    · cases h
  -- bipush
  · split at h
    · cases h
      simp only [e_swOk] at hsw
      exact lv_bipush hx hb hdg (of_decide_eq_true hsw) (kk ls hL)
    · cases h
  -- sipush
  · split at h
    · cases h
      simp only [e_swOk] at hsw
      exact lv_sipush hx hb hdg (of_decide_eq_true hsw) (kk ls hL)
    · cases h
  -- ldc
  · split at h
    · cases h
      exact lv_ldc hx hb hown (hw _ (by simp [e_need])) hdg (kk ls hL)
    · cases h
  -- lconst
  · cases h
    exact lv_lconst hx hb hdg rfl (kk ls hL)
  -- ldc2
  · cases h
    exact lv_ldc2 hx hb hown (hw _ (by simp [e_need])) hdg (kk ls hL)
  -- iload
  · split at h
    · next x hg => cases h; exact lv_iload hx hb hdg (e_LH_get hL hg) (kk ls hL)
    · cases h
  · split at h
    · next x hg => cases h; exact lv_iload_n hx hb hdg rfl (e_LH_get hL hg) (kk ls hL)
    · cases h
  · split at h
    · next x hg => cases h; exact lv_aload hx hb hdg (e_LH_get hL hg) (kk ls hL)
    · cases h
  · split at h
    · next x hg => cases h; exact lv_aload_n hx hb hdg rfl (e_LH_get hL hg) (kk ls hL)
    · cases h
  · split at h
    · next x hg => cases h; exact lv_lload hx hb hdg (e_LH_get hL hg) (kk ls hL)
    · cases h
  · split at h
    · next x hg => cases h; exact lv_lload_n hx hb hdg rfl (e_LH_get hL hg) (kk ls hL)
    · cases h
  -- stores
  · split at h
    · obtain ⟨L1, h1, h2⟩ := Option.map_eq_some_iff.mp h
      cases h2
      obtain ⟨hk, lv, hl, h3⟩ := e_LH_st1 hL h1
      exact lv_istore hx hb hdg hl hk rfl (fun ls' h' => kk ls' (h3 ls' h'))
    · cases h
  · split at h
    · obtain ⟨L1, h1, h2⟩ := Option.map_eq_some_iff.mp h
      cases h2
      obtain ⟨hk, lv, hl, h3⟩ := e_LH_st1 hL h1
      exact lv_istore_n hx hb hdg rfl hl hk rfl (fun ls' h' => kk ls' (h3 ls' h'))
    · cases h
  · split at h
    · obtain ⟨L1, h1, h2⟩ := Option.map_eq_some_iff.mp h
      cases h2
      obtain ⟨hk, lv, hl, h3⟩ := e_LH_st1 hL h1
      exact lv_astore_n hx hb hdg rfl hl hk rfl (fun ls' h' => kk ls' (h3 ls' h'))
    · cases h
  · split at h
    · obtain ⟨L1, h1, h2⟩ := Option.map_eq_some_iff.mp h
      cases h2
      obtain ⟨hk, lv, hl, h3⟩ := e_LH_st1 hL h1
      exact lv_astore hx hb hdg hl hk rfl (fun ls' h' => kk ls' (h3 ls' h'))
    · cases h
  · split at h
    · obtain ⟨L1, h1, h2⟩ := Option.map_eq_some_iff.mp h
      cases h2
      obtain ⟨hk, lv, hl, h3⟩ := e_LH_st2 hL h1
      exact lv_lstore hx hb hdg hl hk rfl (fun ls' h' => kk ls' (h3 ls' h'))
    · cases h
  · split at h
    · obtain ⟨L1, h1, h2⟩ := Option.map_eq_some_iff.mp h
      cases h2
      obtain ⟨hk, lv, hl, h3⟩ := e_LH_st2 hL h1
      exact lv_lstore_n hx hb hdg rfl hl hk rfl (fun ls' h' => kk ls' (h3 ls' h'))
    · cases h
  -- iinc
  · split at h
    · split at h
      · next k n _ v _ _ x hg =>
        obtain ⟨L1, h1, h2⟩ := Option.map_eq_some_iff.mp h
        cases h2
        simp only [e_swOk] at hsw
        have hv := of_decide_eq_true hsw
        obtain ⟨hk, lv, hl, h3⟩ := e_LH_st1 hL h1
        obtain ⟨hn, l0, hl0, hm0⟩ := hL
        have hgm := hm0 _ _ hg
        obtain ⟨q, hq⟩ := List.getElem?_of_mem hgm
        have hboth : lv_has ls nL (lv ++ l0) := ⟨hl.1, hl.2.1, fun z hz => (List.mem_append.mp hz).elim (hl.2.2 z) (hl0.2.2 z)⟩
        refine lv_iinc (k := lv.length + q) (v := x + v) hx hb hdg hboth (by rw [List.getElem?_append_right (by omega), Nat.add_sub_cancel_left]; exact hq) (by rw [hv]) hk rfl (fun ls' h' => kk ls' (h3 ls' ⟨h'.1, h'.2.1, fun z hz => h'.2.2 z ?_⟩))
        rcases List.mem_cons.mp hz with h4 | h4
        · rw [h4]; exact List.mem_cons_self
        · obtain ⟨h5, h6⟩ := List.mem_filter.mp h4
          exact List.mem_cons_of_mem _ (List.mem_filter.mpr ⟨List.mem_append_left _ h5, h6⟩)
      · cases h
    · cases h
  -- arithmetic
  · split at h
    · cases h; exact lv_iadd hx hb hdg (kk ls hL)
    · cases h
  · split at h
    · cases h; exact lv_isub hx hb hdg (kk ls hL)
    · cases h
  · split at h
    · cases h; exact lv_imul hx hb hdg (kk ls hL)
    · cases h
  · split at h
    · cases h; exact lv_iand hx hb hdg (kk ls hL)
    · cases h
  · split at h
    · cases h; exact lv_ior hx hb hdg (kk ls hL)
    · cases h
  · split at h
    · cases h; exact lv_ineg hx hb hdg (kk ls hL)
    · cases h
  · split at h
    · cases h; exact lv_ishl hx hb hdg (kk ls hL)
    · cases h
  · split at h
    · cases h; exact lv_ishr hx hb hdg (kk ls hL)
    · cases h
  · split at h
    · cases h; exact lv_ladd hx hb hdg (kk ls hL)
    · cases h
  · split at h
    · cases h; exact lv_lsub hx hb hdg (kk ls hL)
    · cases h
  · split at h
    · cases h; exact lv_lmul hx hb hdg (kk ls hL)
    · cases h
  · split at h
    · cases h; exact lv_land hx hb hdg (kk ls hL)
    · cases h
  · split at h
    · cases h; exact lv_lor hx hb hdg (kk ls hL)
    · cases h
  · split at h
    · cases h; exact lv_lshl hx hb hdg rfl (kk ls hL)
    · cases h
  · split at h
    · cases h; exact lv_lushr hx hb hdg rfl (kk ls hL)
    · cases h
  · split at h
    · cases h; exact lv_l2i hx hb hdg rfl (kk ls hL)
    · cases h
  · split at h
    · cases h; exact lv_i2l hx hb hdg rfl (kk ls hL)
    · cases h
  · split at h
    · cases h; exact W.lcmp hx hb hdg (kk ls hL)
    · cases h
  -- dup
  · split at h
    · next v st1 =>
      cases hc : Nat.beq v.category 1 with
      | false => rw [hc] at h; cases h
      | true =>
        rw [hc] at h
        cases h
        have := Nat.eq_of_beq_eq_true hc
        exact lv_dup hx hb hdg (by rw [e_v_cat]; exact this) (kk ls hL)
    · cases h
  · split at h
    · next a b1 st1 =>
      cases hc : (Nat.beq a.category 1 && Nat.beq b1.category 1) with
      | false => rw [hc] at h; cases h
      | true =>
        rw [hc] at h
        cases h
        rw [Bool.and_eq_true] at hc
        have h1 := Nat.eq_of_beq_eq_true hc.1
        have h2 := Nat.eq_of_beq_eq_true hc.2
        exact lv_dup2_11 hx hb hdg (by rw [e_v_cat]; exact h1) (by rw [e_v_cat]; exact h2) (kk ls hL)
    · cases h
  · split at h
    · next v st1 =>
      cases hc : Nat.beq v.category 1 with
      | false => rw [hc] at h; cases h
      | true =>
        rw [hc] at h
        cases h
        have := Nat.eq_of_beq_eq_true hc
        exact lv_pop hx hb hdg (by rw [e_v_cat]; exact this) (kk ls hL)
    · cases h
  · cases h
end EPURE
