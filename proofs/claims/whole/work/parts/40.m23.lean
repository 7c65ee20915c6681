/-! the acts of a play -/
def actC (c : Nat) (a : Nat → Int) (S : Nat → Int) : Int :=
  if c = 102 then (if S 5 = 9999 then -103 else 0)
  else if c = 109 then (if thr S (a 0) ∧ (-15 ≤ a 1 ∧ a 1 ≤ 63) ∧ (-15 ≤ a 2 ∧ a 2 ≤ 47) then 0 else -101)
  else if c = 116 then (if thr S (a 0) ∧ (0 ≤ a 1 ∧ a 1 ≤ 3) then 0 else -101)
  else if c = 108 then (if 1 ≤ a 0 ∧ a 0 ≤ 8 then 0 else -101)
  else (if thr S (a 0) then 0 else -101)
def actS (c : Nat) (a : Nat → Int) (S : Nat → Int) : Nat → Int :=
  if c = 102 then frS S
  else if c = 109 then mvS S (a 0).toNat (a 1) (a 2)
  else if c = 116 then u1 S (26 + 9 * (a 0).toNat + 5) (a 1)
  else if c = 108 then u1 S 2 (a 0)
  else if c = 117 then ordS S (S 1).toNat (lftO (od S) (pos S (a 0) (S 1).toNat).toNat)
  else ordS S (S 1).toNat (lowO (od S) (pos S (a 0) (S 1).toNat).toNat (S 1).toNat)
theorem Eqv.u {S S' : Nat → Int} (e : Eqv S S') {i : Nat} (hi : i ≠ 1) (v : Int) : Eqv (u1 S i v) (u1 S' i v) := by
  intro j hj hg
  rw [u1_n _ _ (show (1 : Nat) ≠ i by omega)] at hg
  by_cases z : j = i
  · subst z; rw [u1_s, u1_s]
  · rw [u1_n _ _ z, u1_n _ _ z]; exact e j hj hg
theorem nArg_c {c : Nat} (h : nArg c ≤ 3) : c = 102 ∨ c = 109 ∨ c = 116 ∨ c = 117 ∨ c = 100 ∨ c = 108 := by
  unfold nArg at h
  split at h
  · omega
  · split at h
    · omega
    · split at h
      · omega
      · split at h <;> omega
theorem actC_cg {S S' : Nat → Int} (e : Eqv S S') (hW : WF S) (c : Nat) (a : Nat → Int) : actC c a S' = actC c a S := by
  have h1 := e.pos hW (a 0)
  unfold actC thr
  rw [h1, e 5 (by omega) (by omega)]
theorem pos_lt {S : Nat → Int} (hW : WF S) {p : Int} (h : thr S p) : (pos S p (S 1).toNat).toNat < (S 1).toNat ∧ pos S p (S 1).toNat = ((pos S p (S 1).toNat).toNat : Int) := by
  rcases pos_b S p (S 1).toNat with h1 | ⟨h1, h2⟩
  · exact absurd h1 h
  · omega
theorem actS_cg {S S' : Nat → Int} (e : Eqv S S') (hW : WF S) (c : Nat) (a : Nat → Int) (hC : 0 ≤ actC c a S) : Eqv (actS c a S) (actS c a S') := by
  have h1 := e.pos hW (a 0)
  have hS : ∀ i, i < 270 → ¬ (6 ≤ i ∧ i < 26) → S' i = S i := fun i hi hg => e i hi (by omega)
  unfold actC at hC
  unfold actS
  split
  · exact frS_cg e hW
  · next g1 =>
    rw [if_neg g1] at hC
    split
    · exact (e.u (by omega) _).u (by omega) _
    · next g2 =>
      rw [if_neg g2] at hC
      split
      · exact e.u (by omega) _
      · next g3 =>
        rw [if_neg g3] at hC
        split
        · exact e.u (by omega) _
        · next g4 =>
          rw [if_neg g4] at hC
          have ht : thr S (a 0) := by
            apply Classical.byContradiction
            intro z
            rw [if_neg z] at hC
            omega
          have hp := (pos_lt hW ht).1
          rw [h1, e.n]
          split
          · refine ordS_cg hS (fun k hk => ?_)
            unfold lftO
            split
            · exact e.od hW hp
            · split
              · exact e.od hW (by omega)
              · exact e.od hW hk
          · refine ordS_cg hS (fun k hk => ?_)
            unfold lowO
            split
            · exact e.od hW hk
            · split
              · exact e.od hW (by omega)
              · exact e.od hW hp
theorem ro_ord (S : Nat → Int) {n : Nat} (hn : n ≤ 20) (o : Nat → Nat) : ROrd S n o (ordS S n o) := by
  refine ⟨rfl, fun k hk => ?_, fun i h1 h2 => ?_⟩
  · unfold ordS
    rw [if_neg (by omega), if_pos (by omega), show 6 + k - 6 = k by omega]
  · unfold ordS
    rw [if_neg h1, if_neg h2]
theorem rf_fr {S : Nat → Int} (hW : WF S) : RFr S (frS S) := by
  have hn := hW.n
  refine ⟨rfl, fun k hk => ?_, fun i h1 h2 => ?_⟩
  · unfold frS
    rw [if_neg (by omega), if_pos (by omega), show 6 + k - 6 = k by omega]
  · unfold frS
    rw [if_neg h1, if_neg h2]
theorem actS_wf {S : Nat → Int} (hW : WF S) (c : Nat) (a : Nat → Int) (hC : 0 ≤ actC c a S) : WF (actS c a S) := by
  have hn := hW.n
  unfold actC at hC
  unfold actS
  split
  · next g1 =>
    rw [if_pos g1] at hC
    exact wf_fr hW (rf_fr hW) (fun z => by rw [if_pos z] at hC; omega)
  · next g1 =>
    rw [if_neg g1] at hC
    split
    · next g2 =>
      rw [if_pos g2] at hC
      have ht : thr S (a 0) ∧ (-15 ≤ a 1 ∧ a 1 ≤ 63) ∧ (-15 ≤ a 2 ∧ a 2 ≤ 47) := by
        apply Classical.byContradiction
        intro z
        rw [if_neg z] at hC
        omega
      have hb := thr_b hW ht.1
      exact hW.mv (by omega) ht.2.1 ht.2.2
    · next g2 =>
      rw [if_neg g2] at hC
      split
      · next g3 =>
        rw [if_pos g3] at hC
        have ht : thr S (a 0) ∧ (0 ≤ a 1 ∧ a 1 ≤ 3) := by
          apply Classical.byContradiction
          intro z
          rw [if_neg z] at hC
          omega
        have hb := thr_b hW ht.1
        exact hW.tu (by omega) ht.2
      · next g3 =>
        rw [if_neg g3] at hC
        split
        · next g4 =>
          rw [if_pos g4] at hC
          exact hW.li (by apply Classical.byContradiction; intro z; rw [if_neg z] at hC; omega)
        · next g4 =>
          rw [if_neg g4] at hC
          have ht : thr S (a 0) := by
            apply Classical.byContradiction
            intro z
            rw [if_neg z] at hC
            omega
          have hp := (pos_lt hW ht).1
          split
          · exact wf_lft hW hp (ro_ord S hn.2.1 _)
          · exact wf_low hW hp (ro_ord S hn.2.1 _)
theorem rg_s {v : Int} (h : -1000 < v ∧ v < 1000) : rg v := ⟨by have := h.1; omega, by have := h.2; omega⟩
set_option maxHeartbeats 2000000 in
theorem c_M_codeOf {S : Nat → Int} {x1 x2 x3 x4 : Int32} {h : St} {Q : Option Value → St → Prop} (hS : MS S h) (hW : WF S) (c : Nat) (a : Nat → Int) (hc : nArg c ≤ 3) (ha : ∀ j, j < nArg c → -1000 < a j ∧ a j < 1000) (hQ : Q (some (.int (iI (actC c a S)))) h) (h1 : x1 = iI c) (h2 : 0 < nArg c → x2 = iI (a 0)) (h3 : 1 < nArg c → x3 = iI (a 1)) (h4 : 2 < nArg c → x4 = iI (a 2)) : SC y_M_codeOf [.ref 90, .int x1, .int x2, .int x3, .int x4] h Q := by
  rcases nArg_c hc with rfl | rfl | rfl | rfl | rfl | rfl
  · subst h1
    refine w_call IS_ok [] ok_M_codeOf rfl rfl ?_
    refine c_M_frameCode hS hW ?_
    have e : actC 102 a S = if S 5 = 9999 then -103 else 0 := rfl
    rw [e] at hQ
    split at hQ
    · next g => rw [if_pos g]; exact hQ
    · next g => rw [if_neg g]; exact hQ
  · subst h1
    refine w_call IS_ok [] ok_M_codeOf rfl rfl ?_
    refine c_M_moveCode hS hW (a 0) (a 1) (a 2) ?_ (h2 (by decide)) (h3 (by decide)) (h4 (by decide)) (rg_s (ha 0 (by decide))) (rg_s (ha 1 (by decide))) (rg_s (ha 2 (by decide)))
    have e : actC 109 a S = if thr S (a 0) ∧ (-15 ≤ a 1 ∧ a 1 ≤ 63) ∧ (-15 ≤ a 2 ∧ a 2 ≤ 47) then 0 else -101 := rfl
    rw [e] at hQ
    split at hQ
    · next g => rw [if_pos g]; exact hQ
    · next g => rw [if_neg g]; exact hQ
  · subst h1
    refine w_call IS_ok [] ok_M_codeOf rfl rfl ?_
    refine c_M_turnCode hS hW (a 0) (a 1) ?_ (h2 (by decide)) (h3 (by decide)) (rg_s (ha 0 (by decide))) (rg_s (ha 1 (by decide)))
    have e : actC 116 a S = if thr S (a 0) ∧ (0 ≤ a 1 ∧ a 1 ≤ 3) then 0 else -101 := rfl
    rw [e] at hQ
    split at hQ
    · next g => rw [if_pos g]; exact hQ
    · next g => rw [if_neg g]; exact hQ
  · subst h1
    refine w_call IS_ok [] ok_M_codeOf rfl rfl ?_
    refine c_M_thereCode hS hW (a 0) ?_ (h2 (by decide)) (rg_s (ha 0 (by decide)))
    have e : actC 117 a S = if thr S (a 0) then 0 else -101 := rfl
    rw [e] at hQ
    split at hQ
    · next g => rw [if_pos g]; exact hQ
    · next g => rw [if_neg g]; exact hQ
  · subst h1
    refine w_call IS_ok [] ok_M_codeOf rfl rfl ?_
    refine c_M_thereCode hS hW (a 0) ?_ (h2 (by decide)) (rg_s (ha 0 (by decide)))
    have e : actC 100 a S = if thr S (a 0) then 0 else -101 := rfl
    rw [e] at hQ
    split at hQ
    · next g => rw [if_pos g]; exact hQ
    · next g => rw [if_neg g]; exact hQ
  · subst h1
    refine w_call IS_ok [] ok_M_codeOf rfl rfl ?_
    refine c_M_limitCode (a 0) ?_ (h2 (by decide)) (rg_s (ha 0 (by decide)))
    have e : actC 108 a S = if 1 ≤ a 0 ∧ a 0 ≤ 8 then 0 else -101 := rfl
    rw [e] at hQ
    split at hQ
    · next g => rw [if_pos g]; exact hQ
    · next g => rw [if_neg g]; exact hQ
theorem hidN_le (S : Nat → Int) : hidN S ≤ 20 := sm_le (b := 1) (fun i _ => by split <;> omega)
theorem lns_le (S : Nat → Int) (p n : Nat) : lns S p n ≤ n := by
  have := sm_le (f := fun y => if stn S p y then 1 else 0) (b := 1) (n := n) (fun i _ => by split <;> omega)
  unfold lns
  omega
set_option maxHeartbeats 2000000 in
theorem c_M_carry {S : Nat → Int} {x1 x2 x3 x4 : Int32} {h : St} {Q : Option Value → St → Prop} (hS : MS S h) (hW : WF S) (c : Nat) (a : Nat → Int) (hc : nArg c ≤ 3) (hC : 0 ≤ actC c a S) (hQ : ∀ h' S' (r : Nat), Sm [] [98, 96, 91] h h' → MS S' h' → Eqv (actS c a S) S' → r < 1000 → Q (some (.int (iI r))) h') (h1 : x1 = iI c) (h2 : 0 < nArg c → x2 = iI (a 0)) (h3 : 1 < nArg c → x3 = iI (a 1)) (h4 : 2 < nArg c → x4 = iI (a 2)) : SC y_M_carry [.ref 90, .int x1, .int x2, .int x3, .int x4] h Q := by
  have hn := hW.n
  rcases nArg_c hc with rfl | rfl | rfl | rfl | rfl | rfl
  · subst h1
    refine w_call IS_ok [] ok_M_carry rfl rfl ?_
    refine c_M_frameNow hS hW (fun h' S' hs hM hR => ?_)
    exact hQ h' S' (hidN S) (hs.mo (by decide) (by decide)) hM (fr_eqv hW hR) (by have := hidN_le S; omega)
  · subst h1
    have e : actC 109 a S = if thr S (a 0) ∧ (-15 ≤ a 1 ∧ a 1 ≤ 63) ∧ (-15 ≤ a 2 ∧ a 2 ≤ 47) then 0 else -101 := rfl
    have g : thr S (a 0) ∧ (-15 ≤ a 1 ∧ a 1 ≤ 63) ∧ (-15 ≤ a 2 ∧ a 2 ≤ 47) := by
      apply Classical.byContradiction
      intro z
      rw [e, if_neg z] at hC
      omega
    have hb := thr_b hW g.1
    refine w_call IS_ok [] ok_M_carry rfl rfl ?_
    refine c_M_moveNow hS (a 0).toNat (a 1) (a 2) (hW.mv (by omega) g.2.1 g.2.2).wp (by omega) (fun h' hs hM => ?_) ((h2 (by decide)).trans (congrArg iI (by omega))) (h3 (by decide)) (h4 (by decide))
    exact hQ h' _ (lns (mvS S (a 0).toNat (a 1) (a 2)) (a 0).toNat 48) (hs.mo (by decide) (by decide)) hM (Eqv.rf _) (by have := lns_le (mvS S (a 0).toNat (a 1) (a 2)) (a 0).toNat 48; omega)
  · subst h1
    have e : actC 116 a S = if thr S (a 0) ∧ (0 ≤ a 1 ∧ a 1 ≤ 3) then 0 else -101 := rfl
    have g : thr S (a 0) ∧ (0 ≤ a 1 ∧ a 1 ≤ 3) := by
      apply Classical.byContradiction
      intro z
      rw [e, if_neg z] at hC
      omega
    have hb := thr_b hW g.1
    have hw := (hW.wp (a 0).toNat (by omega)).2.2.2.2.2.1
    refine w_call IS_ok [] ok_M_carry rfl rfl ?_
    refine c_M_turnNow hS (a 0).toNat (a 1) (by omega) (fun h' hs hM => ?_) ((h2 (by decide)).trans (congrArg iI (by omega))) (h3 (by decide))
    have := hQ h' _ (S (26 + 9 * (a 0).toNat + 5)).toNat (hs.mo (by decide) (by decide)) hM (Eqv.rf _) (by omega)
    rw [show (((S (26 + 9 * (a 0).toNat + 5)).toNat : Nat) : Int) = S (26 + 9 * (a 0).toNat + 5) by omega] at this
    exact this
  · subst h1
    have e : actC 117 a S = if thr S (a 0) then 0 else -101 := rfl
    have g : thr S (a 0) := by
      apply Classical.byContradiction
      intro z
      rw [e, if_neg z] at hC
      omega
    refine w_call IS_ok [] ok_M_carry rfl rfl ?_
    refine c_M_liftNow hS hW (a 0) g (fun h' S' q hs hM hp hq hR => ?_) (h2 (by decide))
    refine hQ h' S' q (hs.mo (by decide) (by decide)) hM ?_ (by omega)
    have := ord_eqv hR
    rw [show q = (pos S (a 0) (S 1).toNat).toNat by omega] at this
    exact this
  · subst h1
    have e : actC 100 a S = if thr S (a 0) then 0 else -101 := rfl
    have g : thr S (a 0) := by
      apply Classical.byContradiction
      intro z
      rw [e, if_neg z] at hC
      omega
    refine w_call IS_ok [] ok_M_carry rfl rfl ?_
    refine c_M_lowerNow hS hW (a 0) g (fun h' S' q hs hM hp hq hR => ?_) (h2 (by decide))
    refine hQ h' S' q (hs.mo (by decide) (by decide)) hM ?_ (by omega)
    have := ord_eqv hR
    rw [show q = (pos S (a 0) (S 1).toNat).toNat by omega] at this
    exact this
  · subst h1
    have hw := hW.2.2.1
    refine w_call IS_ok [] ok_M_carry rfl rfl ?_
    refine c_M_limitNow hS (a 0) (fun h' hs hM => ?_) (h2 (by decide))
    have := hQ h' _ (S 2).toNat (hs.mo (by decide) (by decide)) hM (Eqv.rf _) (by omega)
    rw [show (((S 2).toNat : Nat) : Int) = S 2 by omega] at this
    exact this
