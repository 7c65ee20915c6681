/-! the class: a frame, whole -/
theorem frC_bnd {S : Nat → Int} {hd : Nat → Bool} {b : Int} (h : ∀ p, p < 20 → ∀ j, j < 3 → 0 ≤ S (26 + 9 * p + (6 + j)) ∧ S (26 + 9 * p + (6 + j)) ≤ b) : ∀ (k : Nat), ∀ p, p < 20 → ∀ j, j < 3 → 0 ≤ frC S hd k (26 + 9 * p + (6 + j)) ∧ frC S hd k (26 + 9 * p + (6 + j)) ≤ b + k
  | 0, p, hp, j, hj => by have := h p hp j hj; show 0 ≤ S _ ∧ S _ ≤ _; omega
  | k + 1, p, hp, j, hj => by
    have ih := frC_bnd (hd := hd) h k
    have i := ih p hp j hj
    have i0 := ih p hp 0 (by omega)
    have i1 := ih p hp 1 (by omega)
    have i2 := ih p hp 2 (by omega)
    show 0 ≤ frP (frC S hd k) (hd (od S k)) (od S k) _ ∧ frP (frC S hd k) (hd (od S k)) (od S k) _ ≤ _
    by_cases z : od S k = p
    · rw [z]
      generalize frC S hd k = T at *
      have : j = 0 ∨ j = 1 ∨ j = 2 := by omega
      rcases this with rfl | rfl | rfl
      · unfold frP
        rw [u1_n _ _ (by omega), u1_n _ _ (by omega), u1_s]
        have : T (26 + 9 * p + (6 + 0)) = T (26 + 9 * p + 6) := rfl
        split <;> omega
      · unfold frP
        rw [u1_n _ _ (by omega), u1_s]
        have : T (26 + 9 * p + (6 + 1)) = T (26 + 9 * p + 7) := rfl
        split <;> omega
      · unfold frP
        rw [u1_s]
        have e7 : T (26 + 9 * p + (6 + 1)) = T (26 + 9 * p + 7) := rfl
        have e8 : T (26 + 9 * p + (6 + 2)) = T (26 + 9 * p + 8) := rfl
        split
        · omega
        · split <;> omega
    · rw [frP_o (by omega) (by omega) (by omega)]
      omega
theorem frS_c {S : Nat → Int} {i : Nat} (h5 : i ≠ 5) (h : ¬ (6 ≤ i ∧ i < 26)) : frS S i = frC S (hdd S) (S 1).toNat i := by unfold frS; rw [if_neg h5, if_neg h]
theorem WG.fr {b : Int} {S : Nat → Int} (hG : WG b S) : WG (b + 20) (frS S) := by
  obtain ⟨g0, g1, g2, g3, g4, g5, god, ginj, gy, gc⟩ := id hG
  have o : ∀ i, (i < 26 ∨ 206 ≤ i) → frC S (hdd S) (S 1).toNat i = S i := fun i hi => frC_o (fun j hj => (god j hj).2.1) hi
  have e : ∀ i, i ≠ 5 → i < 6 → frS S i = S i := fun i h1 h2 => by rw [frS_c h1 (by omega), o i (by omega)]
  have e1 := e 1 (by omega) (by omega)
  have hl := turnL_len (hdd S) (S 3) (S 4).toNat (S 1).toNat (od S)
  have eo : ∀ k, k < (S 1).toNat → frS S (6 + k) = (fl (turnL (hdd S) (S 3) (S 4).toNat (S 1).toNat (od S)) k : Int) := fun k hk => by unfold frS; rw [if_neg (by omega), if_pos (by omega), show 6 + k - 6 = k by omega]
  have eod : ∀ k, k < (S 1).toNat → od (frS S) k = fl (turnL (hdd S) (S 3) (S 4).toNat (S 1).toNat (od S)) k := fun k hk => by show (frS S (6 + k)).toNat = _; rw [eo k hk]; rfl
  refine ⟨by rw [e 0 (by omega) (by omega)]; exact g0, by rw [e1]; exact g1, by rw [e 2 (by omega) (by omega)]; exact g2, by rw [e 3 (by omega) (by omega)]; exact g3, by rw [e 4 (by omega) (by omega)]; exact g4, by show 0 ≤ S 5 + 1 ∧ S 5 + 1 ≤ _; omega, fun k hk => ?_, fun j k hj hk he => ?_, fun p hp => ?_, fun p hp j hj => ?_⟩
  · rw [e1] at hk
    obtain ⟨j, hj, hx⟩ := turnL_mem (fl_mem (l := turnL (hdd S) (S 3) (S 4).toNat (S 1).toNat (od S)) (k := k) (by omega))
    have := god j hj
    rw [eod k hk, eo k hk, ← hx, e 0 (by omega) (by omega)]
    exact ⟨rfl, this.2.1, by omega⟩
  · rw [e1] at hj hk
    rw [eod j hj, eod k hk] at he
    refine Classical.byContradiction fun z => ?_
    have nd := turnL_nd (B := hdd S) (rule := S 3) (step := (S 4).toNat) (o := od S) (fun j k hj hk hjk he => hjk (ginj j k hj hk he))
    rcases Nat.lt_or_gt_of_ne z with h1 | h1
    · exact fl_ne nd h1 (by rw [turnL_len]; exact hk) he
    · exact fl_ne nd h1 (by rw [turnL_len]; exact hj) he.symm
  · rw [frS_c (by omega) (by omega)]
    rw [frC_c (i := 1) (by omega)]
    exact gy p hp
  · rw [frS_c (by omega) (by omega)]
    have := frC_bnd (hd := hdd S) gc (S 1).toNat p hp j hj
    omega

theorem c_Surv_hiddenPuppets_1 {B : Nat → Nat} {h : St} {Q : Option Value → St → Prop} (hB : ∀ p, p < 20 → h.2 19 p = iI (B p : Nat) ∧ B p < 2000) (hQ : Q (some (.int (iI (sm (fun p => if 0 < B p then 1 else 0) 20 : Nat)))) h) : SC y_Surv_hiddenPuppets [.ref 15] h Q := by
  refine w_call IS_ok [4] ok_Surv_hiddenPuppets rfl rfl ?_
  have hle : ∀ k, sm (fun p => if 0 < B p then 1 else 0) k ≤ k := fun k => by
    have := sm_le (f := fun p => if 0 < B p then 1 else 0) (b := 1) (n := k) (fun i _ => by split <;> omega)
    omega
  have loop : ∀ (m k : Nat) (z1 z2 : Int32), 20 ≤ k + m → k ≤ 20 → z1 = iI (sm (fun p => if 0 < B p then 1 else 0) k : Nat) → z2 = iI k → SR y_Surv_hiddenPuppets 4 [some (.ref 15), some (.int z1), some (.int z2)] [] h Q := by
    intro m
    induction m with
    | zero =>
      intro k z1 z2 hm hk e1 e2
      have : k = 20 := by omega
      subst this
      refine w_loop IS_ok [4] ok_Surv_hiddenPuppets ?_
      exact w_le 20 20 (fun _ => by rw [e1]; exact hQ) (fun _ => by omega) rfl e2
    | succ m ih =>
      intro k z1 z2 hm hk e1 e2
      refine w_loop IS_ok [4] ok_Surv_hiddenPuppets ?_
      refine w_le 20 k (fun g => ?_) (fun g => ?_) rfl e2
      · have : k = 20 := by omega
        subst this
        rw [e1]; exact hQ
      refine c_Surv_isHidden_1 hB k (by omega) ?_ e2
      refine w_b (fun g2 => ?_) (fun g2 => ?_)
      · refine ih (k + 1) _ _ (by omega) (by omega) ?_ (iI_1 e2)
        rw [e1]
        show _ = iI ((sm (fun p => if 0 < B p then 1 else 0) k + if 0 < B k then 1 else 0 : Nat) : Int)
        rw [if_neg g2]; rfl
      · refine ih (k + 1) _ _ (by omega) (by omega) ?_ (iI_1 e2)
        show _ = iI ((sm (fun p => if 0 < B p then 1 else 0) k + if 0 < B k then 1 else 0 : Nat) : Int)
        rw [if_pos g2]
        exact iI_1 e1
  exact loop 20 0 _ _ (by omega) (by omega) rfl rfl
theorem c_Surv_hiddenBits_1 {B : Nat → Nat} {h : St} {Q : Option Value → St → Prop} (hB : ∀ p, p < 20 → h.2 19 p = iI (B p : Nat) ∧ B p < 2000) (hQ : ∀ w, w < 2 ^ 20 → (∀ p, p < 20 → w.testBit p = decide (0 < B p)) → Q (some (.int (nI w))) h) : SC y_Surv_hiddenBits [.ref 15] h Q := by
  refine w_call IS_ok [4] ok_Surv_hiddenBits rfl rfl ?_
  have loop : ∀ (m k w : Nat) (z1 z2 : Int32), 20 ≤ k + m → k ≤ 20 → w < 2 ^ 20 → (∀ p, p < 20 → w.testBit p = (decide (p < k) && decide (0 < B p))) → z1 = nI w → z2 = iI k → SR y_Surv_hiddenBits 4 [some (.ref 15), some (.int z1), some (.int z2)] [] h Q := by
    intro m
    induction m with
    | zero =>
      intro k w z1 z2 hm hk hw hb e1 e2
      have : k = 20 := by omega
      subst this
      refine w_loop IS_ok [4] ok_Surv_hiddenBits ?_
      exact w_le 20 20 (fun _ => by rw [e1]; exact hQ w hw (fun p hp => by rw [hb p hp]; simp [hp])) (fun _ => by omega) rfl e2
    | succ m ih =>
      intro k w z1 z2 hm hk hw hb e1 e2
      refine w_loop IS_ok [4] ok_Surv_hiddenBits ?_
      refine w_le 20 k (fun g => ?_) (fun g => ?_) rfl e2
      · have : k = 20 := by omega
        subst this
        rw [e1]; exact hQ w hw (fun p hp => by rw [hb p hp]; simp [hp])
      refine c_Surv_isHidden_1 hB k (by omega) ?_ e2
      refine w_b (fun g2 => ?_) (fun g2 => ?_)
      · refine ih (k + 1) w _ _ (by omega) (by omega) hw (fun p hp => ?_) e1 (iI_1 e2)
        rw [hb p hp]
        by_cases z : p = k
        · subst z; simp [g2]
        · simp [show (p < k + 1) = (p < k) from propext (by omega)]
      · refine ih (k + 1) (w ||| 2 ^ k) _ _ (by omega) (by omega) (bit_or_b hw (by omega)) (fun p hp => ?_) ?_ (iI_1 e2)
        · rw [bit_or_t, hb p hp]
          by_cases z : p = k
          · subst z; simp [g2]
          · simp [show (p < k + 1) = (p < k) from propext (by omega), show ¬ k = p from fun y => z y.symm]
        · rw [e1, e2]
          exact bit_or (by omega)
  exact loop 20 0 0 _ _ (by omega) (by omega) (by decide) (fun p hp => by simp) rfl rfl
set_option maxHeartbeats 2000000 in
theorem c_Scene_makeFrame_1 {b : Int} {S : Nat → Int} {x2 : Int32} {h : St} {Q : Option Value → St → Prop} (hC : CS 1 S h) (hG : WG b S) (hb : b ≤ 19000) (mf : Int) (hmf : 0 ≤ mf ∧ mf ≤ 2000000) (hF : mf ≤ S 5 → Q (some (.int (-103))) h) (hQ : S 5 < mf → ∀ h', Sm [(1, 8)] [5, 7, 17, 19] h h' → CS 1 (frS S) h' → (∀ p, p < 20 → h'.2 19 p = iI (hT S (od S) (S 1).toNat 48 p : Nat) ∧ hT S (od S) (S 1).toNat 48 p < 2000) → Q (some (.int (iI (hidN S)))) h') (hx : x2 = iI mf) : SC y_Scene_makeFrame [.ref 1, .ref 15, .int x2] h Q := by
  obtain ⟨g0, g1, g2, g3, g4, g5, god, ginj, gy, gc⟩ := id hG
  have hn1 : S 1 = ((S 1).toNat : Int) := by omega
  have hTb : ∀ p, hT S (od S) (S 1).toNat 48 p < 2000 := fun p => by have := hT_le S (od S) (S 1).toNat 48 p; omega
  have o : ∀ k i, k ≤ (S 1).toNat → (i < 26 ∨ 206 ≤ i) → frC S (hdd S) k i = S i := fun k i hk hi => frC_o (fun j hj => (god j (by omega)).2.1) hi
  refine w_call IS_ok [18] ok_Scene_makeFrame rfl rfl ?_
  refine w_lt (S 5) mf (fun g => ?_) (fun g => hF g) hC.1.2.2.2.2.2 hx
  refine c_Surv_look_1 hC hG (fun h1 hs1 hst hhd => ?_)
  -- behind the counts
  have fin : ∀ (hc : St) (L3 : Option Value), Sm [] [5, 17, 19] h hc → CS 1 (frC S (hdd S) (S 1).toNat) hc → (∀ p, p < 20 → hc.2 19 p = iI (hT S (od S) (S 1).toNat 48 p : Nat)) → SR y_Scene_makeFrame 45 [some (.ref 1), some (.ref 15), some (.int x2), L3] [] hc Q := by
    intro hc L3 hsm hCc hhc
    have hord : ∀ k, k < (S 1).toNat → hc.2 7 k = iI (od S k : Nat) ∧ od S k < 20 := fun k hk => ⟨by rw [hsm.2 _ (by decide)]; exact (hC.2.2.1 k hk).trans (congrArg iI (god k hk).1), (god k hk).2.1⟩
    have f3 : hc.1 1 3 = iI (S 1).toNat := by rw [hsm.1 _ _ (by decide)]; exact hC.1.1.trans (congrArg iI hn1)
    have f6 : hc.1 1 6 = iI (S 3) := by rw [hsm.1 _ _ (by decide)]; exact hC.1.2.2.2.1
    have f7 : hc.1 1 7 = iI (S 4).toNat := by rw [hsm.1 _ _ (by decide)]; exact hC.1.2.2.2.2.1.trans (congrArg iI (by omega))
    have at73 : ∀ (hd : St), Sm [] [7] hc hd → (∀ k, k < (S 1).toNat → hd.2 7 k = iI (fl (turnL (hdd S) (S 3) (S 4).toNat (S 1).toNat (od S)) k : Nat)) → SR y_Scene_makeFrame 73 [some (.ref 1), some (.ref 15), some (.int x2), L3] [] hd Q := by
      intro hd hsd hr
      refine w_loop IS_ok [] ok_Scene_makeFrame ?_
      have hs5 : Sm [(1, 8)] [5, 7, 17, 19] h (pg hd 1 8 (hd.1 1 8 + 1)) := ((hsm.mo (by decide) (by decide)).t (hsd.mo (by decide) (by decide))).t (Sm.pg _ (by decide))
      refine c_Surv_hiddenPuppets_1 (h := pg hd 1 8 (hd.1 1 8 + 1)) (B := fun p => hT S (od S) (S 1).toNat 48 p) (fun p hp => ⟨(congrFun (hsd.2 19 (by decide)) p).trans (hhc p hp), hTb p⟩) ?_
      have hq := hQ g (pg hd 1 8 (hd.1 1 8 + 1)) hs5 (hCc.mk2 (hsd.2 _ (by decide)) (hsd.2 _ (by decide)) ⟨?_, ?_, ?_, ?_, ?_, ?_⟩ (fun k hk => ?_) ?_ (fun i hi => frS_c (by omega) (by omega))) (fun p hp => ⟨(congrFun (hsd.2 19 (by decide)) p).trans (hhc p hp), hTb p⟩)
      · rw [show sm (fun p => if 0 < hT S (od S) (S 1).toNat 48 p then 1 else 0) 20 = hidN S from sm_congr (fun p _ => by simp [hdd])]
        exact hq
      · rw [frS_c (by omega) (by omega), pg_n _ _ _ _ (by omega), hsd.1 _ _ (by decide)]; exact hCc.1.1
      · rw [frS_c (by omega) (by omega), pg_n _ _ _ _ (by omega), hsd.1 _ _ (by decide)]; exact hCc.1.2.1
      · rw [frS_c (by omega) (by omega), pg_n _ _ _ _ (by omega), hsd.1 _ _ (by decide)]; exact hCc.1.2.2.1
      · rw [frS_c (by omega) (by omega), pg_n _ _ _ _ (by omega), hsd.1 _ _ (by decide)]; exact hCc.1.2.2.2.1
      · rw [frS_c (by omega) (by omega), pg_n _ _ _ _ (by omega), hsd.1 _ _ (by decide)]; exact hCc.1.2.2.2.2.1
      · rw [pg_s, hsd.1 _ _ (by decide), hsm.1 _ _ (by decide)]
        exact (congrArg (· + 1) hC.1.2.2.2.2.2).trans (iI_add _ 1)
      · rw [frS_c (by omega) (by omega), o _ _ (Nat.le_refl _) (by omega)] at hk
        refine (hr k hk).trans (congrArg iI ?_)
        unfold frS
        rw [if_neg (by omega), if_pos (by omega), show 6 + k - 6 = k by omega]
      · exact frS_c (by omega) (by omega)
    refine w_loop IS_ok [73] ok_Scene_makeFrame ?_
    refine w_eq (S 3) 1 (fun g6 => ?_) (fun g6 => ?_) f6 rfl
    · refine c_Scene_rotate_1 (n := (S 1).toNat) (s := (S 4).toNat) (o := od S) f3 f7 (by omega) (by omega) (fun k hk => (hord k hk).1) (fun hd hsd hr => ?_)
      refine at73 hd hsd (fun k hk => ?_)
      rw [hr k hk]
      unfold turnL
      rw [if_neg (by omega), if_pos g6, fl_ol hk]
    · refine w_eq (S 3) 2 (fun g7 => ?_) (fun g7 => ?_) f6 rfl
      · refine c_Scene_bringHidden_1 (n := (S 1).toNat) (o := od S) (B := fun p => hT S (od S) (S 1).toNat 48 p) (fun p hp => ⟨hhc p hp, hTb p⟩) f3 (by omega) hord (fun hd hsd hr => ?_)
        refine at73 hd hsd (fun k hk => ?_)
        rw [hr k hk]
        unfold turnL
        rw [if_pos g7]
        rfl
      · refine at73 hc Sm.rf (fun k hk => ?_)
        rw [(hord k hk).1]
        unfold turnL
        rw [if_neg g7, if_neg g6, fl_ol hk]
  have loop : ∀ (m k : Nat) (hc : St) (z : Int32), (S 1).toNat ≤ k + m → k ≤ (S 1).toNat → Sm [] [5, 17, 19] h hc → CS 1 (frC S (hdd S) k) hc → (∀ p, p < 20 → hc.2 19 p = iI (hT S (od S) (S 1).toNat 48 p : Nat)) → z = iI k → SR y_Scene_makeFrame 18 [some (.ref 1), some (.ref 15), some (.int x2), some (.int z)] [] hc Q := by
    intro m
    induction m with
    | zero =>
      intro k hc z hm hk hsm hCc hhc hz
      have : k = (S 1).toNat := by omega
      subst this
      refine w_loop IS_ok [18, 45] ok_Scene_makeFrame ?_
      exact w_le (S 1) (S 1).toNat (fun _ => fin hc _ hsm hCc hhc) (fun _ => by omega) ((hsm.1 _ _ (by decide)).trans hC.1.1) hz
    | succ m ih =>
      intro k hc z hm hk hsm hCc hhc hz
      refine w_loop IS_ok [18, 45] ok_Scene_makeFrame ?_
      refine w_le (S 1) k (fun g => ?_) (fun g => ?_) ((hsm.1 _ _ (by decide)).trans hC.1.1) hz
      · have : k = (S 1).toNat := by omega
        subst this
        exact fin hc _ hsm hCc hhc
      have hkn : k < (S 1).toNat := by omega
      have o2 := god k hkn
      refine c_Cells_get1 CA_6 k (by omega) ?_ hz
      have eo : hc.2 7 k = iI (od S k : Nat) := by rw [hsm.2 _ (by decide)]; exact (hC.2.2.1 k hkn).trans (congrArg iI o2.1)
      have hbd := frC_bnd (hd := hdd S) gc k (od S k) o2.2.1
      refine c_Scene_countHidden_1 hCc (by rw [o k 1 hk (by omega)]; omega) (B := fun p => hT S (od S) (S 1).toNat 48 p) (fun p hp => ⟨hhc p hp, hTb p⟩) (od S k) o2.2.1 (fun j hj => by have := hbd j hj; omega) (fun h' hs' hC' => ?_) eo
      exact ih (k + 1) h' _ (by omega) (by omega) (hsm.t (hs'.mo (by decide) (by decide))) hC' (fun p hp => by rw [hs'.2 _ (by decide)]; exact hhc p hp) (iI_1 hz)
  exact loop (S 1).toNat 0 h1 _ (by omega) (by omega) (hs1.mo (by decide) (by decide)) (hC.sm hs1 (by decide) (by decide)) hhd rfl

theorem c_Surv_hiddenPuppets_24 {B : Nat → Nat} {h : St} {Q : Option Value → St → Prop} (hB : ∀ p, p < 20 → h.2 35 p = iI (B p : Nat) ∧ B p < 2000) (hQ : Q (some (.int (iI (sm (fun p => if 0 < B p then 1 else 0) 20 : Nat)))) h) : SC y_Surv_hiddenPuppets [.ref 31] h Q := by
  refine w_call IS_ok [4] ok_Surv_hiddenPuppets rfl rfl ?_
  have hle : ∀ k, sm (fun p => if 0 < B p then 1 else 0) k ≤ k := fun k => by
    have := sm_le (f := fun p => if 0 < B p then 1 else 0) (b := 1) (n := k) (fun i _ => by split <;> omega)
    omega
  have loop : ∀ (m k : Nat) (z1 z2 : Int32), 20 ≤ k + m → k ≤ 20 → z1 = iI (sm (fun p => if 0 < B p then 1 else 0) k : Nat) → z2 = iI k → SR y_Surv_hiddenPuppets 4 [some (.ref 31), some (.int z1), some (.int z2)] [] h Q := by
    intro m
    induction m with
    | zero =>
      intro k z1 z2 hm hk e1 e2
      have : k = 20 := by omega
      subst this
      refine w_loop IS_ok [4] ok_Surv_hiddenPuppets ?_
      exact w_le 20 20 (fun _ => by rw [e1]; exact hQ) (fun _ => by omega) rfl e2
    | succ m ih =>
      intro k z1 z2 hm hk e1 e2
      refine w_loop IS_ok [4] ok_Surv_hiddenPuppets ?_
      refine w_le 20 k (fun g => ?_) (fun g => ?_) rfl e2
      · have : k = 20 := by omega
        subst this
        rw [e1]; exact hQ
      refine c_Surv_isHidden_24 hB k (by omega) ?_ e2
      refine w_b (fun g2 => ?_) (fun g2 => ?_)
      · refine ih (k + 1) _ _ (by omega) (by omega) ?_ (iI_1 e2)
        rw [e1]
        show _ = iI ((sm (fun p => if 0 < B p then 1 else 0) k + if 0 < B k then 1 else 0 : Nat) : Int)
        rw [if_neg g2]; rfl
      · refine ih (k + 1) _ _ (by omega) (by omega) ?_ (iI_1 e2)
        show _ = iI ((sm (fun p => if 0 < B p then 1 else 0) k + if 0 < B k then 1 else 0 : Nat) : Int)
        rw [if_pos g2]
        exact iI_1 e1
  exact loop 20 0 _ _ (by omega) (by omega) rfl rfl
theorem c_Surv_hiddenBits_24 {B : Nat → Nat} {h : St} {Q : Option Value → St → Prop} (hB : ∀ p, p < 20 → h.2 35 p = iI (B p : Nat) ∧ B p < 2000) (hQ : ∀ w, w < 2 ^ 20 → (∀ p, p < 20 → w.testBit p = decide (0 < B p)) → Q (some (.int (nI w))) h) : SC y_Surv_hiddenBits [.ref 31] h Q := by
  refine w_call IS_ok [4] ok_Surv_hiddenBits rfl rfl ?_
  have loop : ∀ (m k w : Nat) (z1 z2 : Int32), 20 ≤ k + m → k ≤ 20 → w < 2 ^ 20 → (∀ p, p < 20 → w.testBit p = (decide (p < k) && decide (0 < B p))) → z1 = nI w → z2 = iI k → SR y_Surv_hiddenBits 4 [some (.ref 31), some (.int z1), some (.int z2)] [] h Q := by
    intro m
    induction m with
    | zero =>
      intro k w z1 z2 hm hk hw hb e1 e2
      have : k = 20 := by omega
      subst this
      refine w_loop IS_ok [4] ok_Surv_hiddenBits ?_
      exact w_le 20 20 (fun _ => by rw [e1]; exact hQ w hw (fun p hp => by rw [hb p hp]; simp [hp])) (fun _ => by omega) rfl e2
    | succ m ih =>
      intro k w z1 z2 hm hk hw hb e1 e2
      refine w_loop IS_ok [4] ok_Surv_hiddenBits ?_
      refine w_le 20 k (fun g => ?_) (fun g => ?_) rfl e2
      · have : k = 20 := by omega
        subst this
        rw [e1]; exact hQ w hw (fun p hp => by rw [hb p hp]; simp [hp])
      refine c_Surv_isHidden_24 hB k (by omega) ?_ e2
      refine w_b (fun g2 => ?_) (fun g2 => ?_)
      · refine ih (k + 1) w _ _ (by omega) (by omega) hw (fun p hp => ?_) e1 (iI_1 e2)
        rw [hb p hp]
        by_cases z : p = k
        · subst z; simp [g2]
        · simp [show (p < k + 1) = (p < k) from propext (by omega)]
      · refine ih (k + 1) (w ||| 2 ^ k) _ _ (by omega) (by omega) (bit_or_b hw (by omega)) (fun p hp => ?_) ?_ (iI_1 e2)
        · rw [bit_or_t, hb p hp]
          by_cases z : p = k
          · subst z; simp [g2]
          · simp [show (p < k + 1) = (p < k) from propext (by omega), show ¬ k = p from fun y => z y.symm]
        · rw [e1, e2]
          exact bit_or (by omega)
  exact loop 20 0 0 _ _ (by omega) (by omega) (by decide) (fun p hp => by simp) rfl rfl
set_option maxHeartbeats 2000000 in
theorem c_Scene_makeFrame_24 {b : Int} {S : Nat → Int} {x2 : Int32} {h : St} {Q : Option Value → St → Prop} (hC : CS 24 S h) (hG : WG b S) (hb : b ≤ 19000) (mf : Int) (hmf : 0 ≤ mf ∧ mf ≤ 2000000) (hF : mf ≤ S 5 → Q (some (.int (-103))) h) (hQ : S 5 < mf → ∀ h', Sm [(24, 8)] [28, 30, 33, 35] h h' → CS 24 (frS S) h' → (∀ p, p < 20 → h'.2 35 p = iI (hT S (od S) (S 1).toNat 48 p : Nat) ∧ hT S (od S) (S 1).toNat 48 p < 2000) → Q (some (.int (iI (hidN S)))) h') (hx : x2 = iI mf) : SC y_Scene_makeFrame [.ref 24, .ref 31, .int x2] h Q := by
  obtain ⟨g0, g1, g2, g3, g4, g5, god, ginj, gy, gc⟩ := id hG
  have hn1 : S 1 = ((S 1).toNat : Int) := by omega
  have hTb : ∀ p, hT S (od S) (S 1).toNat 48 p < 2000 := fun p => by have := hT_le S (od S) (S 1).toNat 48 p; omega
  have o : ∀ k i, k ≤ (S 1).toNat → (i < 26 ∨ 206 ≤ i) → frC S (hdd S) k i = S i := fun k i hk hi => frC_o (fun j hj => (god j (by omega)).2.1) hi
  refine w_call IS_ok [18] ok_Scene_makeFrame rfl rfl ?_
  refine w_lt (S 5) mf (fun g => ?_) (fun g => hF g) hC.1.2.2.2.2.2 hx
  refine c_Surv_look_24 hC hG (fun h1 hs1 hst hhd => ?_)
  -- behind the counts
  have fin : ∀ (hc : St) (L3 : Option Value), Sm [] [28, 33, 35] h hc → CS 24 (frC S (hdd S) (S 1).toNat) hc → (∀ p, p < 20 → hc.2 35 p = iI (hT S (od S) (S 1).toNat 48 p : Nat)) → SR y_Scene_makeFrame 45 [some (.ref 24), some (.ref 31), some (.int x2), L3] [] hc Q := by
    intro hc L3 hsm hCc hhc
    have hord : ∀ k, k < (S 1).toNat → hc.2 30 k = iI (od S k : Nat) ∧ od S k < 20 := fun k hk => ⟨by rw [hsm.2 _ (by decide)]; exact (hC.2.2.1 k hk).trans (congrArg iI (god k hk).1), (god k hk).2.1⟩
    have f3 : hc.1 24 3 = iI (S 1).toNat := by rw [hsm.1 _ _ (by decide)]; exact hC.1.1.trans (congrArg iI hn1)
    have f6 : hc.1 24 6 = iI (S 3) := by rw [hsm.1 _ _ (by decide)]; exact hC.1.2.2.2.1
    have f7 : hc.1 24 7 = iI (S 4).toNat := by rw [hsm.1 _ _ (by decide)]; exact hC.1.2.2.2.2.1.trans (congrArg iI (by omega))
    have at73 : ∀ (hd : St), Sm [] [30] hc hd → (∀ k, k < (S 1).toNat → hd.2 30 k = iI (fl (turnL (hdd S) (S 3) (S 4).toNat (S 1).toNat (od S)) k : Nat)) → SR y_Scene_makeFrame 73 [some (.ref 24), some (.ref 31), some (.int x2), L3] [] hd Q := by
      intro hd hsd hr
      refine w_loop IS_ok [] ok_Scene_makeFrame ?_
      have hs5 : Sm [(24, 8)] [28, 30, 33, 35] h (pg hd 24 8 (hd.1 24 8 + 1)) := ((hsm.mo (by decide) (by decide)).t (hsd.mo (by decide) (by decide))).t (Sm.pg _ (by decide))
      refine c_Surv_hiddenPuppets_24 (h := pg hd 24 8 (hd.1 24 8 + 1)) (B := fun p => hT S (od S) (S 1).toNat 48 p) (fun p hp => ⟨(congrFun (hsd.2 35 (by decide)) p).trans (hhc p hp), hTb p⟩) ?_
      have hq := hQ g (pg hd 24 8 (hd.1 24 8 + 1)) hs5 (hCc.mk2 (hsd.2 _ (by decide)) (hsd.2 _ (by decide)) ⟨?_, ?_, ?_, ?_, ?_, ?_⟩ (fun k hk => ?_) ?_ (fun i hi => frS_c (by omega) (by omega))) (fun p hp => ⟨(congrFun (hsd.2 35 (by decide)) p).trans (hhc p hp), hTb p⟩)
      · rw [show sm (fun p => if 0 < hT S (od S) (S 1).toNat 48 p then 1 else 0) 20 = hidN S from sm_congr (fun p _ => by simp [hdd])]
        exact hq
      · rw [frS_c (by omega) (by omega), pg_n _ _ _ _ (by omega), hsd.1 _ _ (by decide)]; exact hCc.1.1
      · rw [frS_c (by omega) (by omega), pg_n _ _ _ _ (by omega), hsd.1 _ _ (by decide)]; exact hCc.1.2.1
      · rw [frS_c (by omega) (by omega), pg_n _ _ _ _ (by omega), hsd.1 _ _ (by decide)]; exact hCc.1.2.2.1
      · rw [frS_c (by omega) (by omega), pg_n _ _ _ _ (by omega), hsd.1 _ _ (by decide)]; exact hCc.1.2.2.2.1
      · rw [frS_c (by omega) (by omega), pg_n _ _ _ _ (by omega), hsd.1 _ _ (by decide)]; exact hCc.1.2.2.2.2.1
      · rw [pg_s, hsd.1 _ _ (by decide), hsm.1 _ _ (by decide)]
        exact (congrArg (· + 1) hC.1.2.2.2.2.2).trans (iI_add _ 1)
      · rw [frS_c (by omega) (by omega), o _ _ (Nat.le_refl _) (by omega)] at hk
        refine (hr k hk).trans (congrArg iI ?_)
        unfold frS
        rw [if_neg (by omega), if_pos (by omega), show 6 + k - 6 = k by omega]
      · exact frS_c (by omega) (by omega)
    refine w_loop IS_ok [73] ok_Scene_makeFrame ?_
    refine w_eq (S 3) 1 (fun g6 => ?_) (fun g6 => ?_) f6 rfl
    · refine c_Scene_rotate_24 (n := (S 1).toNat) (s := (S 4).toNat) (o := od S) f3 f7 (by omega) (by omega) (fun k hk => (hord k hk).1) (fun hd hsd hr => ?_)
      refine at73 hd hsd (fun k hk => ?_)
      rw [hr k hk]
      unfold turnL
      rw [if_neg (by omega), if_pos g6, fl_ol hk]
    · refine w_eq (S 3) 2 (fun g7 => ?_) (fun g7 => ?_) f6 rfl
      · refine c_Scene_bringHidden_24 (n := (S 1).toNat) (o := od S) (B := fun p => hT S (od S) (S 1).toNat 48 p) (fun p hp => ⟨hhc p hp, hTb p⟩) f3 (by omega) hord (fun hd hsd hr => ?_)
        refine at73 hd hsd (fun k hk => ?_)
        rw [hr k hk]
        unfold turnL
        rw [if_pos g7]
        rfl
      · refine at73 hc Sm.rf (fun k hk => ?_)
        rw [(hord k hk).1]
        unfold turnL
        rw [if_neg g7, if_neg g6, fl_ol hk]
  have loop : ∀ (m k : Nat) (hc : St) (z : Int32), (S 1).toNat ≤ k + m → k ≤ (S 1).toNat → Sm [] [28, 33, 35] h hc → CS 24 (frC S (hdd S) k) hc → (∀ p, p < 20 → hc.2 35 p = iI (hT S (od S) (S 1).toNat 48 p : Nat)) → z = iI k → SR y_Scene_makeFrame 18 [some (.ref 24), some (.ref 31), some (.int x2), some (.int z)] [] hc Q := by
    intro m
    induction m with
    | zero =>
      intro k hc z hm hk hsm hCc hhc hz
      have : k = (S 1).toNat := by omega
      subst this
      refine w_loop IS_ok [18, 45] ok_Scene_makeFrame ?_
      exact w_le (S 1) (S 1).toNat (fun _ => fin hc _ hsm hCc hhc) (fun _ => by omega) ((hsm.1 _ _ (by decide)).trans hC.1.1) hz
    | succ m ih =>
      intro k hc z hm hk hsm hCc hhc hz
      refine w_loop IS_ok [18, 45] ok_Scene_makeFrame ?_
      refine w_le (S 1) k (fun g => ?_) (fun g => ?_) ((hsm.1 _ _ (by decide)).trans hC.1.1) hz
      · have : k = (S 1).toNat := by omega
        subst this
        exact fin hc _ hsm hCc hhc
      have hkn : k < (S 1).toNat := by omega
      have o2 := god k hkn
      refine c_Cells_get1 CA_29 k (by omega) ?_ hz
      have eo : hc.2 30 k = iI (od S k : Nat) := by rw [hsm.2 _ (by decide)]; exact (hC.2.2.1 k hkn).trans (congrArg iI o2.1)
      have hbd := frC_bnd (hd := hdd S) gc k (od S k) o2.2.1
      refine c_Scene_countHidden_24 hCc (by rw [o k 1 hk (by omega)]; omega) (B := fun p => hT S (od S) (S 1).toNat 48 p) (fun p hp => ⟨hhc p hp, hTb p⟩) (od S k) o2.2.1 (fun j hj => by have := hbd j hj; omega) (fun h' hs' hC' => ?_) eo
      exact ih (k + 1) h' _ (by omega) (by omega) (hsm.t (hs'.mo (by decide) (by decide))) hC' (fun p hp => by rw [hs'.2 _ (by decide)]; exact hhc p hp) (iI_1 hz)
  exact loop (S 1).toNat 0 h1 _ (by omega) (by omega) (hs1.mo (by decide) (by decide)) (hC.sm hs1 (by decide) (by decide)) hhd rfl
