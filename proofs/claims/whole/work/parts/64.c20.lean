/-! the class: its reader, in small -/
def RS (N : Nat) (T : Nat → Nat) (i d c : Nat) (fl : Int) (h : St) : Prop := CT N T h ∧ h.1 75 3 = iI (i : Nat) ∧ h.1 75 4 = iI (d : Nat) ∧ h.1 79 1 = iI (c : Nat) ∧ h.1 75 5 = iI fl
abbrev SmQ (h h' : St) : Prop := Sm [(79, 1), (75, 3), (75, 4), (75, 5)] [81, 83] h h'
theorem CT.sm {N : Nat} {T : Nat → Nat} {X : List (Nat × Nat)} {Y : List Nat} {h h' : St} (hT : CT N T h) (a : Sm X Y h h') (hx : (76, 1) ∉ X) (hy : 78 ∉ Y) : CT N T h' := ⟨by rw [a.1 _ _ hx]; exact hT.1, fun i hi => by rw [a.2 78 hy]; exact hT.2 i hi⟩
theorem RS.row {N : Nat} {T : Nat → Nat} {i d c : Nat} {fl : Int} {Y : List Nat} {h h' : St} (r : RS N T i d c fl h) (a : Sm [] Y h h') (hy : 78 ∉ Y) : RS N T i d c fl h' := ⟨r.1.sm a (by simp) hy, by rw [a.1 _ _ (by simp)]; exact r.2.1, by rw [a.1 _ _ (by simp)]; exact r.2.2.1, by rw [a.1 _ _ (by simp)]; exact r.2.2.2.1, by rw [a.1 _ _ (by simp)]; exact r.2.2.2.2⟩
theorem RS.plc {N : Nat} {T : Nat → Nat} {i d c : Nat} {fl : Int} {h : St} (r : RS N T i d c fl h) {x : Int32} {j : Nat} (hx : x = iI (j : Nat)) : RS N T j d c fl (pg h 75 3 x) := ⟨r.1.sm (Sm.pg (X := [(75, 3)]) (Y := []) _ (by decide)) (by decide) (by decide), by rw [pg_s]; exact hx, r.2.2.1, r.2.2.2.1, r.2.2.2.2⟩
theorem c_Script_at {N : Nat} {T : Nat → Nat} {x : Int32} {h : St} {Q : Option Value → St → Prop} (hB : TxB N T) (hT : CT N T h) (i : Nat) (hi : i < 1000) (hQ : Q (some (.int (iI (chr N T i : Nat)))) h) (hx : x = iI (i : Nat)) : SC y_Script_at [.ref 76, .int x] h Q := by
  refine w_call IS_ok [] ok_Script_at rfl rfl ?_
  have hb := hB.1
  unfold chr at hQ
  refine w_le N i (fun g => ?_) (fun g => ?_) hT.1 hx
  · rw [if_neg (by omega)] at hQ
    exact hQ
  · rw [if_pos (by omega)] at hQ
    refine c_Cells_get1 CA_77 i (by omega) ?_ hx
    rw [hT.2 i (by omega)]
    exact hQ
theorem c_Read_isDigit {x : Int32} {h : St} {Q : Option Value → St → Prop} (a : Nat) (ha : a ≤ 255) (hQ : Q (some (.int (bI (isDb a = true)))) h) (hx : x = iI (a : Nat)) : SC y_Read_isDigit [.int x] h Q := by
  refine w_call IS_ok [] ok_Read_isDigit rfl rfl ?_
  refine c_P_within a 48 57 ?_ hx rfl rfl
  refine ⟨bI_01 _, ?_⟩
  rw [bI_iff (show isDb a = true ↔ (48 ≤ (a : Int) ∧ (a : Int) ≤ 57) by simp only [isDb, decide_eq_true_eq]; omega)] at hQ
  exact hQ
theorem c_Read_fail {N : Nat} {T : Nat → Nat} {i d c : Nat} {fl : Int} {x : Int32} {h : St} {Q : Option Value → St → Prop} (r : RS N T i d c fl h) (hfl : -1 ≤ fl ∧ fl < 1000) (p : Nat) (hQ : ∀ h', Sm [(75, 5)] [] h h' → RS N T i d c (if fl < 0 then (p : Int) else fl) h' → Q none h') (hx : x = iI (p : Nat)) : SC y_Read_fail [.ref 75, .int x] h Q := by
  refine w_call IS_ok [] ok_Read_fail rfl rfl ?_
  refine w_le 0 fl (fun g => ?_) (fun g => ?_) rfl r.2.2.2.2
  · exact hQ h Sm.rf (by rw [if_neg (by omega)]; exact r)
  · have s1 : Sm [(75, 5)] [] h (pg h 75 5 x) := Sm.pg _ (by decide)
    exact hQ (pg h 75 5 x) s1 ⟨r.1.sm s1 (by decide) (by decide), r.2.1, r.2.2.1, r.2.2.2.1, by rw [pg_s, if_pos g]; exact hx⟩
theorem c_Read_expect {N : Nat} {T : Nat → Nat} {i d c : Nat} {fl : Int} {x : Int32} {h : St} {Q : Option Value → St → Prop} (hB : TxB N T) (r : RS N T i d c fl h) (hfl : -1 ≤ fl ∧ fl < 1000) (hi : i < 500) (a : Nat) (ha : a ≤ 255) (hQ1 : chr N T i = a → ∀ h', Sm [(75, 3), (75, 5)] [] h h' → RS N T (i + 1) d c fl h' → Q none h') (hQ0 : chr N T i ≠ a → ∀ h', Sm [(75, 3), (75, 5)] [] h h' → RS N T i d c (if fl < 0 then (i : Int) else fl) h' → Q none h') (hx : x = iI (a : Nat)) : SC y_Read_expect [.ref 75, .int x] h Q := by
  refine w_call IS_ok [] ok_Read_expect rfl rfl ?_
  have hc := chr_b hB i
  refine c_Script_at hB r.1 i (by omega) ?_ r.2.1
  refine w_eq (chr N T i : Nat) a (fun g => ?_) (fun g => ?_) rfl hx
  · exact hQ1 (by omega) (pg h 75 3 (h.1 75 3 + 1)) (Sm.pg _ (by decide)) (r.plc (iI_1 r.2.1))
  · exact c_Read_fail r hfl i (fun h' s1 r' => hQ0 (by omega) h' (s1.mo (by decide) (by decide)) r') r.2.1
set_option maxHeartbeats 1000000 in
theorem c_Read_readNumber {N : Nat} {T : Nat → Nat} {i d c : Nat} {fl : Int} {x : Int32} {h : St} {Q : Option Value → St → Prop} (hB : TxB N T) (r : RS N T i d c fl h) (hfl : -1 ≤ fl ∧ fl < 1000) (hi : i < 500) (b : Nat) (hb : b ≤ 1) (q : Nat) (hq : q = i + (if b = 1 ∧ chr N T i = 45 then 1 else 0)) (hQ : ∀ h', Sm [(75, 3), (75, 5)] [] h h' → RS N T (q + nd (chr N T) q) d c (if fl < 0 then (if nd (chr N T) q = 0 ∨ isDb (chr N T (q + nd (chr N T) q)) = true then ((q + nd (chr N T) q : Nat) : Int) else fl) else fl) h' → Q (some (.int (iI (if b = 1 ∧ chr N T i = 45 then -(nv (chr N T) q : Int) else nv (chr N T) q)))) h') (hx : x = iI (b : Nat)) : SC y_Read_readNumber [.ref 75, .int x] h Q := by
  refine w_call IS_ok [34] ok_Read_readNumber rfl rfl ?_
  have hqi : q ≤ i + 1 := by rw [hq]; split <;> omega
  have at34 : ∀ (hc : St) (z2 : Int32), Sm [(75, 3), (75, 5)] [] h hc → RS N T q d c fl hc → z2 = iI (if b = 1 ∧ chr N T i = 45 then -1 else 1) → SR y_Read_readNumber 34 [some (.ref 75), some (.int x), some (.int z2), none, none] [] hc Q := by
    intro hc z2 hs hr e2
    obtain ⟨n3, n1, n0⟩ := nd_b (chr N T) q
    refine w_loop IS_ok [39] ok_Read_readNumber ?_
    have at107 : ∀ (hd : St) (z3 z4 : Int32) (j v : Nat), Sm [(75, 3), (75, 5)] [] h hd → RS N T (q + j) d c fl hd → j = nd (chr N T) q → v = nv (chr N T) q → z3 = iI (v : Nat) → z4 = iI (j : Nat) → SR y_Read_readNumber 107 [some (.ref 75), some (.int x), some (.int z2), some (.int z3), some (.int z4)] [] hd Q := by
      intro hd z3 z4 j v hsd hrd ej ev e3 e4
      subst ej; subst ev
      have val : z2 * z3 = iI (if b = 1 ∧ chr N T i = 45 then -(nv (chr N T) q : Int) else nv (chr N T) q) := by
        rw [e2, e3]
        refine (iI_mul _ _).trans (congrArg iI ?_)
        split <;> omega
      have hcb := chr_b hB (q + nd (chr N T) q)
      have bad : (nd (chr N T) q = 0 ∨ isDb (chr N T (q + nd (chr N T) q)) = true) → SR y_Read_readNumber 129 [some (.ref 75), some (.int x), some (.int z2), some (.int z3), some (.int z4)] [] hd Q := by
        intro hg
        refine w_loop IS_ok [] ok_Read_readNumber ?_
        refine c_Read_fail hrd hfl (q + nd (chr N T) q) (fun h' s' r' => ?_) hrd.2.1
        have := hQ h' (hsd.t (s'.mo (by decide) (by decide))) (by rw [if_pos hg]; exact r')
        rw [← val] at this
        exact this
      refine w_loop IS_ok [129] ok_Read_readNumber ?_
      refine w_eq (nd (chr N T) q : Nat) 0 (fun g => bad (Or.inl (by omega))) (fun g => ?_) e4 rfl
      refine c_Script_at hB hrd.1 (q + nd (chr N T) q) (by omega) ?_ hrd.2.1
      refine c_Read_isDigit _ hcb ?_ rfl
      refine w_b (fun g2 => ?_) (fun g2 => bad (Or.inr g2))
      have hno : ¬ (nd (chr N T) q = 0 ∨ isDb (chr N T (q + nd (chr N T) q)) = true) := by rintro (z | z); omega; exact g2 z
      have := hQ hd hsd (by rw [if_neg hno, ite_self]; exact hrd)
      rw [← val] at this
      exact this
    have step : ∀ (hd : St) (z3 z4 : Int32) (j v : Nat), Sm [(75, 3), (75, 5)] [] h hd → RS N T (q + j) d c fl hd → z3 = iI (v : Nat) → z4 = iI (j : Nat) → v < 1000 → j ≤ 3 → isDb (chr N T (q + j)) = true → (∀ (he : St) (w3 w4 : Int32), Sm [(75, 3), (75, 5)] [] h he → RS N T (q + (j + 1)) d c fl he → w3 = iI (10 * v + (chr N T (q + j) - 48) : Nat) → w4 = iI (j + 1 : Nat) → SR y_Read_readNumber 39 [some (.ref 75), some (.int x), some (.int z2), some (.int w3), some (.int w4)] [] he Q) → SR y_Read_readNumber 71 [some (.ref 75), some (.int x), some (.int z2), some (.int z3), some (.int z4)] [] hd Q := by
      intro hd z3 z4 j v hsd hrd e3 e4 hv hj hdg kk
      have hcb := chr_b hB (q + j)
      have hdg2 : 48 ≤ chr N T (q + j) := by simp only [isDb, decide_eq_true_eq] at hdg; exact hdg.1
      refine w_loop IS_ok [39] ok_Read_readNumber ?_
      refine c_Script_at hB hrd.1 (q + j) (by omega) ?_ hrd.2.1
      refine kk (pg hd 75 3 (hd.1 75 3 + 1)) _ _ (hsd.t (Sm.pg _ (by decide))) (hrd.plc (iI_1 hrd.2.1)) ?_ (iI_1 e4)
      rw [e3]
      exact (congrArg (fun z => z + iI (chr N T (q + j) : Nat) - 48) (iI_mul v 10)).trans ((congrArg (· - 48) (iI_add _ _)).trans ((iI_sub _ 48).trans (congrArg iI (by omega))))
    have loop : ∀ (f j v : Nat) (hd : St) (z3 z4 : Int32), j + f = 4 → 1 ≤ j → j ≤ 3 → v < 10 ^ j → ext (chr N T) q f j v = (nv (chr N T) q, nd (chr N T) q) → Sm [(75, 3), (75, 5)] [] h hd → RS N T (q + j) d c fl hd → z3 = iI (v : Nat) → z4 = iI (j : Nat) → SR y_Read_readNumber 39 [some (.ref 75), some (.int x), some (.int z2), some (.int z3), some (.int z4)] [] hd Q := by
      intro f
      induction f with
      | zero => intro j v hd z3 z4 hf h1 h3; omega
      | succ f ih =>
        intro j v hd z3 z4 hf hj1 hj3 hv hext hsd hrd e3 e4
        have hv3 : v < 1000 := Nat.lt_of_lt_of_le hv (Nat.pow_le_pow_right (n := 10) (by decide) hj3)
        have hcb := chr_b hB (q + j)
        unfold ext at hext
        have stop : ¬ (isDb (chr N T (q + j)) = true ∧ 0 < v ∧ j < 3) → SR y_Read_readNumber 107 [some (.ref 75), some (.int x), some (.int z2), some (.int z3), some (.int z4)] [] hd Q := by
          intro hg
          rw [if_neg hg] at hext
          injection hext with a1 a2
          exact at107 hd z3 z4 j v hsd hrd a2 a1 e3 e4
        refine w_loop IS_ok [71, 107] ok_Read_readNumber ?_
        refine w_le 3 j (fun g => stop (fun z => by omega)) (fun g => ?_) rfl e4
        refine c_Script_at hB hrd.1 (q + j) (by omega) ?_ hrd.2.1
        refine c_Read_isDigit _ hcb ?_ rfl
        refine w_b (fun g2 => stop (fun z => g2 z.1)) (fun g2 => ?_)
        refine w_eq j 0 (fun g3 => by omega) (fun g3 => ?_) e4 rfl
        refine w_le v 0 (fun g4 => stop (fun z => by omega)) (fun g4 => ?_) e3 rfl
        rw [if_pos ⟨g2, by omega, by omega⟩] at hext
        refine step hd z3 z4 j v hsd hrd e3 e4 hv3 hj3 g2 (fun he w3 w4 hse hre f3 f4 => ?_)
        have hd9 : chr N T (q + j) ≤ 57 := by simp only [isDb, decide_eq_true_eq] at g2; exact g2.2
        exact ih (j + 1) _ he w3 w4 (by omega) (by omega) (by omega) (by rw [Nat.pow_succ]; omega) hext hse hre f3 f4
    have hcb := chr_b hB q
    refine w_loop IS_ok [71, 107] ok_Read_readNumber ?_
    refine w_le 3 0 (fun g => by omega) (fun g => ?_) rfl rfl
    refine c_Script_at hB hr.1 q (by omega) ?_ hr.2.1
    refine c_Read_isDigit _ hcb ?_ rfl
    refine w_b (fun g2 => ?_) (fun g2 => ?_)
    · have hnd : nd (chr N T) q = 0 := if_neg g2
      have hnv : nv (chr N T) q = 0 := if_neg g2
      exact at107 hc _ _ 0 0 hs hr hnd.symm hnv.symm rfl rfl
    · have hnd : nd (chr N T) q = (ext (chr N T) q 3 1 (chr N T q - 48)).2 := if_pos g2
      have hnv : nv (chr N T) q = (ext (chr N T) q 3 1 (chr N T q - 48)).1 := if_pos g2
      have hd9 : chr N T q ≤ 57 := by simp only [isDb, decide_eq_true_eq] at g2; exact g2.2
      refine step hc _ _ 0 0 hs hr rfl rfl (by omega) (by omega) g2 (fun he w3 w4 hse hre f3 f4 => ?_)
      exact loop 3 1 (chr N T q - 48) he w3 w4 (by omega) (by omega) (by omega) (by omega) (by rw [hnd, hnv]) hse hre (f3.trans (congrArg iI (by rw [Nat.add_zero]; omega))) f4
  refine w_eq b 0 (fun g => ?_) (fun g => ?_) hx rfl
  · have hn : ¬ (b = 1 ∧ chr N T i = 45) := fun z => by omega
    rw [if_neg hn, Nat.add_zero] at hq
    subst hq
    exact at34 h _ Sm.rf r (by rw [if_neg hn]; rfl)
  · have hc := chr_b hB i
    refine c_Script_at hB r.1 i (by omega) ?_ r.2.1
    refine w_eq (chr N T i : Nat) 45 (fun g2 => ?_) (fun g2 => ?_) rfl rfl
    · have hy : b = 1 ∧ chr N T i = 45 := ⟨by omega, by omega⟩
      rw [if_pos hy] at hq
      subst hq
      exact at34 (pg h 75 3 (h.1 75 3 + 1)) _ (Sm.pg _ (by decide)) (r.plc (iI_1 r.2.1)) (by rw [if_pos hy]; rfl)
    · have hn : ¬ (b = 1 ∧ chr N T i = 45) := fun z => by omega
      rw [if_neg hn, Nat.add_zero] at hq
      subst hq
      exact at34 h _ Sm.rf r (by rw [if_neg hn]; rfl)
