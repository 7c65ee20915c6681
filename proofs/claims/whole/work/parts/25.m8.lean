/-! a frame -/
theorem w_10 {A B : Prop} (f : B) : if (1 : Int32) = 0 then A else B := w_f (by decide) f
theorem w_00 {A B : Prop} (f : A) : if (0 : Int32) = 0 then A else B := w_t rfl f
/-- a puppet is hidden on any line -/
def hdd (S : Nat → Int) (p : Nat) : Bool := decide (0 < hT S (od S) (S 1).toNat 48 p)
def frP (T : Nat → Int) (b : Bool) (p : Nat) : Nat → Int :=
  u1 (u1 (u1 T (26 + 9 * p + 6) (T (26 + 9 * p + 6) + (if b then 1 else 0))) (26 + 9 * p + 7) (if b then T (26 + 9 * p + 7) + 1 else 0)) (26 + 9 * p + 8) (if (if b then T (26 + 9 * p + 7) + 1 else 0) ≤ T (26 + 9 * p + 8) then T (26 + 9 * p + 8) else (if b then T (26 + 9 * p + 7) + 1 else 0))
/-- the counts of the first ones by the order, behind a frame -/
def frC (S : Nat → Int) (hd : Nat → Bool) : Nat → (Nat → Int)
  | 0 => S
  | k + 1 => frP (frC S hd k) (hd (od S k)) (od S k)
theorem frP_o {T : Nat → Int} {b : Bool} {p i : Nat} (h : i ≠ 26 + 9 * p + 6) (h1 : i ≠ 26 + 9 * p + 7) (h2 : i ≠ 26 + 9 * p + 8) : frP T b p i = T i := by
  unfold frP
  rw [u1_n _ _ h2, u1_n _ _ h1, u1_n _ _ h]
theorem frC_o {S : Nat → Int} {hd : Nat → Bool} {i : Nat} : ∀ {k : Nat}, (∀ j, j < k → od S j < 20) → (i < 26 ∨ 206 ≤ i) → frC S hd k i = S i
  | 0, _, _ => rfl
  | k + 1, hb, hi => by
    have := hb k (by omega)
    unfold frC
    rw [frP_o (by omega) (by omega) (by omega)]
    exact frC_o (fun j hj => hb j (by omega)) hi
theorem frC_p {S : Nat → Int} {hd : Nat → Bool} {p i : Nat} (hi : i < 9) : ∀ {k : Nat}, (∀ j, j < k → od S j ≠ p) → frC S hd k (26 + 9 * p + i) = S (26 + 9 * p + i)
  | 0, _ => rfl
  | k + 1, hb => by
    have := hb k (by omega)
    unfold frC
    rw [frP_o (by omega) (by omega) (by omega)]
    exact frC_p hi (fun j hj => hb j (by omega))
theorem frC_c {S : Nat → Int} {hd : Nat → Bool} {p i : Nat} (hi : i < 6) : ∀ {k : Nat}, frC S hd k (26 + 9 * p + i) = S (26 + 9 * p + i)
  | 0 => rfl
  | k + 1 => by
    unfold frC
    rw [frP_o (by omega) (by omega) (by omega)]
    exact frC_c hi
def RFr (S S' : Nat → Int) : Prop := S' 5 = S 5 + 1 ∧ (∀ k, k < (S 1).toNat → S' (6 + k) = fl (turnL (hdd S) (S 3) (S 4).toNat (S 1).toNat (od S)) k) ∧ ∀ i, i ≠ 5 → ¬ (6 ≤ i ∧ i < 26) → S' i = frC S (hdd S) (S 1).toNat i
def hidN (S : Nat → Int) : Nat := sm (fun p => if hdd S p then 1 else 0) 20
theorem wf_oi {S : Nat → Int} (h : WF S) {j k : Nat} (hj : j < (S 1).toNat) (hk : k < (S 1).toNat) (he : od S j = od S k) : j = k := by
  have h1 := (h.od hj).1
  have h2 := (h.od hk).1
  exact h.inj hj hk (by omega)
set_option maxHeartbeats 4000000 in
theorem c_M_frameNow {S : Nat → Int} {h : St} {Q : Option Value → St → Prop} (hS : MS S h) (hW : WF S) (hQ : ∀ h' S', Sm [] [98, 96, 91] h h' → MS S' h' → RFr S S' → Q (some (.int (iI (hidN S)))) h') : SC y_M_frameNow [.ref 90] h Q := by
  refine w_call IS_ok [13] ok_M_frameNow rfl rfl ?_
  obtain ⟨hn1, hn2, -⟩ := hW.n
  have hod := fun k hk => hW.od (k := k) hk
  have hlim := hW.lim
  have h5 := hW.2.2.2.2.2.1
  have h3 := hW.2.2.2.1
  have h4 := hW.2.2.2.2.1
  have hWP := hW.wp
  refine c_M_hidden_91 hS hWP (S 1).toNat (od S) hn1 hn2 (by omega) (fun k hk => (hod k hk).2.1) (fun k hk => by rw [hS]; exact congrArg iI (hod k hk).1) (fun h1 w hs1 hw hb _ => ?_) rfl
  have hM1 := hS.sm hs1 (by decide)
  have hbit : ∀ p, p < 20 → w.testBit p = hdd S p := hb
  have fin : ∀ (hc : St) (L2 L3 L4 : Option Value), Sm [] [98, 96, 91] h hc → MS (frC S (hdd S) (S 1).toNat) hc → SR y_M_frameNow 146 [some (.ref 90), some (.int (nI w)), L2, L3, L4] [] hc Q := by
    intro hc L2 L3 L4 hsm hM
    refine w_loop IS_ok [] ok_M_frameNow ?_
    have ho : ∀ i, i < 26 ∨ 206 ≤ i → frC S (hdd S) (S 1).toNat i = S i := fun i hi => frC_o (fun j hj => (hod j hj).2.1) hi
    refine w_ix 3 ?_ rfl (show 3 < 270 by omega)
    refine w_ix 4 ?_ rfl (show 4 < 270 by omega)
    refine c_M_takeTurn_91 (S 1).toNat (od S) (hdd S) (S 3) (S 4).toNat w (by rw [hM, ho 1 (by omega)]; exact congrArg iI hn1) hn2 (fun k hk => (hod k hk).2.1) (fun k hk => by rw [hM, ho (6 + k) (by omega)]; exact congrArg iI (hod k hk).1) (by omega) (by omega) hw hbit (fun h2 hs2 hrow hrest => ?_) rfl (by rw [← ho 3 (by omega)]; exact hM 3) (by rw [show (((S 4).toNat : Nat) : Int) = S 4 by omega, ← ho 4 (by omega)]; exact hM 4) rfl
    refine w_ix 5 ?_ rfl (show 5 < 270 by omega)
    refine w_ix 5 ?_ rfl (show 5 < 270 by omega)
    have e5 : h2.2 91 5 + 1 = iI (S 5 + 1) := by
      rw [hrest 5 (by omega), hM, ho 5 (by omega)]
      exact iI_add _ 1
    refine c_M_ones w ?_ hw
    have hones : onesN w 20 = hidN S := sm_congr (fun p hp => by rw [hbit p hp])
    rw [hones]
    refine hQ (wa h2 91 5 (h2.2 91 5 + 1)) (u1 (fun i => if 6 ≤ i ∧ i < 6 + (S 1).toNat then (fl (turnL (hdd S) (S 3) (S 4).toNat (S 1).toNat (od S)) (i - 6) : Int) else frC S (hdd S) (S 1).toNat i) 5 (S 5 + 1)) ((hsm.t (hs2.mo (fun _ z => z) (by decide))).t (Sm.wa _ _ (by decide))) ?_ ⟨u1_s _ _ _, fun k hk => ?_, fun i hi1 hi2 => ?_⟩
    · rw [e5]
      refine MS.wa (fun i => ?_) _ _
      by_cases hi : 6 ≤ i ∧ i < 6 + (S 1).toNat
      · rw [if_pos hi]
        have := hrow (i - 6) (by omega)
        rwa [show 6 + (i - 6) = i by omega] at this
      · rw [if_neg hi, hrest i (by omega)]
        exact hM i
    · rw [u1_n _ _ (by omega), if_pos (by omega)]
      rw [show 6 + k - 6 = k by omega]
    · rw [u1_n _ _ hi1, if_neg (by omega)]
  have loop : ∀ (m k : Nat), (S 1).toNat + 1 ≤ k + m → k ≤ (S 1).toNat → ∀ (hc : St) (z : Int32) (L3 L4 : Option Value), Sm [] [98, 96, 91] h hc → MS (frC S (hdd S) k) hc → z = iI k → SR y_M_frameNow 13 [some (.ref 90), some (.int (nI w)), some (.int z), L3, L4] [] hc Q := by
    intro m
    induction m with
    | zero => intro k h1 h2; omega
    | succ m ih =>
      intro k g1 g2 hc z L3 L4 hsm hM hz
      refine w_loop IS_ok [47, 146] ok_M_frameNow ?_
      have ho : ∀ i, i < 26 ∨ 206 ≤ i → frC S (hdd S) k i = S i := fun i hi => frC_o (fun j hj => (hod j (by omega)).2.1) hi
      refine w_ix 1 (w_le (S 1) k (fun g3 => ?_) (fun g3 => ?_) (by rw [← ho 1 (by omega)]; exact hM 1) hz) rfl (show 1 < 270 by omega)
      · have : k = (S 1).toNat := by omega
        subst this
        exact fin hc _ _ _ hsm hM
      · have hk : k < (S 1).toNat := by omega
        have hokk := hod k hk
        have hv : hc.2 91 (6 + k) = iI (od S k) := by rw [hM, ho (6 + k) (by omega)]; exact congrArg iI hokk.1
        have ix6 : (6 : Int32) + z = iI ((6 + k : Nat) : Int) := by rw [hz]; exact (iI_add 6 k).trans (congrArg iI (by omega))
        refine w_ix (6 + k) ?_ ix6 (show 6 + k < 270 by omega)
        have hp : ∀ i, i < 9 → frC S (hdd S) k (26 + 9 * od S k + i) = S (26 + 9 * od S k + i) := fun i hi => frC_p hi (fun j hj z => by have := wf_oi hW (j := j) (k := k) (by omega) hk z; omega)
        obtain ⟨-, -, -, -, -, -, c6, c7, c8⟩ := hWP (od S k) hokk.2.1
        generalize hT : frC S (hdd S) k = T at *
        generalize hpp : od S k = p at *
        have p6 := hp 6 (by omega)
        have p7 := hp 7 (by omega)
        have p8 := hp 8 (by omega)
        have hnx : frC S (hdd S) (k + 1) = frP T (hdd S p) p := by show frP (frC S (hdd S) k) (hdd S (od S k)) (od S k) = _; rw [hT, hpp]
        have eb : (nI w >>> (hc.2 91 (6 + k) &&& 31)) &&& 1 = iI (if hdd S p then 1 else 0) := by rw [hv]; exact bit_is hw hokk.2.1 (hbit _ hokk.2.1)
        refine w_eq (if hdd S p then 1 else 0 : Int) 1 (fun g4 => ?_) (fun g4 => ?_) eb rfl (by split <;> omega)
        · have hd : hdd S p = true := by
            cases hh : hdd S p with
            | true => rfl
            | false => rw [hh] at g4; cases g4
          refine w_loop IS_ok [13] ok_M_frameNow ?_
          refine c_M_of hM p 6 ?_ hv rfl hokk.2.1 (by omega)
          refine c_M_put' p 6 ?_ hv rfl hokk.2.1 (by omega)
          have hM2 : MS (u1 T (26 + 9 * p + 6) (T (26 + 9 * p + 6) + 1)) (wa hc 91 (26 + 9 * p + 6) (iI (T (26 + 9 * p + 6)) + 1)) := by rw [show iI (T (26 + 9 * p + 6)) + 1 = iI (T (26 + 9 * p + 6) + 1) from iI_add _ 1]; exact hM.wa _ _
          refine c_M_of hM2 p 7 ?_ hv rfl hokk.2.1 (by omega)
          refine c_M_put' p 7 ?_ hv rfl hokk.2.1 (by omega)
          rw [u1_n _ _ (by omega)]
          have hM3 : MS (u1 (u1 T (26 + 9 * p + 6) (T (26 + 9 * p + 6) + 1)) (26 + 9 * p + 7) (T (26 + 9 * p + 7) + 1)) (wa (wa hc 91 (26 + 9 * p + 6) (iI (T (26 + 9 * p + 6)) + 1)) 91 (26 + 9 * p + 7) (iI (T (26 + 9 * p + 7)) + 1)) := by rw [show iI (T (26 + 9 * p + 7)) + 1 = iI (T (26 + 9 * p + 7) + 1) from iI_add _ 1]; exact hM2.wa _ _
          have r7 : u1 (u1 T (26 + 9 * p + 6) (T (26 + 9 * p + 6) + 1)) (26 + 9 * p + 7) (T (26 + 9 * p + 7) + 1) (26 + 9 * p + 7) = T (26 + 9 * p + 7) + 1 := u1_s _ _ _
          have r8 : u1 (u1 T (26 + 9 * p + 6) (T (26 + 9 * p + 6) + 1)) (26 + 9 * p + 7) (T (26 + 9 * p + 7) + 1) (26 + 9 * p + 8) = T (26 + 9 * p + 8) := by rw [u1_n _ _ (by omega), u1_n _ _ (by omega)]
          have done : ∀ v : Int32, v = iI (if T (26 + 9 * p + 7) + 1 ≤ T (26 + 9 * p + 8) then T (26 + 9 * p + 8) else T (26 + 9 * p + 7) + 1) → ∀ (L3 L4 : Option Value), SR y_M_frameNow 13 [some (.ref 90), some (.int (nI w)), some (.int (z + 1)), L3, L4] [] (wa (wa (wa hc 91 (26 + 9 * p + 6) (iI (T (26 + 9 * p + 6)) + 1)) 91 (26 + 9 * p + 7) (iI (T (26 + 9 * p + 7)) + 1)) 91 (26 + 9 * p + 8) v) Q := by
            intro v hv2 L3 L4
            refine ih (k + 1) (by omega) (by omega) _ _ _ _ (((hsm.t (Sm.wa _ _ (by decide))).t (Sm.wa _ _ (by decide))).t (Sm.wa _ _ (by decide))) ?_ (iI_1 hz)
            rw [hnx, hd, hv2]
            exact hM3.wa _ _
          refine c_M_of hM3 p 7 ?_ hv rfl hokk.2.1 (by omega)
          refine c_M_of hM3 p 8 ?_ hv rfl hokk.2.1 (by omega)
          rw [r7, r8]
          refine w_le (T (26 + 9 * p + 7) + 1) (T (26 + 9 * p + 8)) (fun g5 => ?_) (fun g5 => ?_) rfl rfl
          · refine c_M_of hM3 p 8 ?_ hv rfl hokk.2.1 (by omega)
            refine c_M_put' p 8 ?_ hv rfl hokk.2.1 (by omega)
            exact done _ (by rw [if_pos g5, r8]) _ _
          · refine c_M_of hM3 p 7 ?_ hv rfl hokk.2.1 (by omega)
            refine c_M_put' p 8 ?_ hv rfl hokk.2.1 (by omega)
            exact done _ (by rw [if_neg (by omega), r7]) _ _
        · have hd : hdd S p = false := by
            cases hh : hdd S p with
            | false => rfl
            | true => rw [hh] at g4; exact absurd rfl g4
          refine w_loop IS_ok [13] ok_M_frameNow ?_
          refine c_M_of hM p 6 ?_ hv rfl hokk.2.1 (by omega)
          refine c_M_put' p 6 ?_ hv rfl hokk.2.1 (by omega)
          have hM2 : MS (u1 T (26 + 9 * p + 6) (T (26 + 9 * p + 6) + 0)) (wa hc 91 (26 + 9 * p + 6) (iI (T (26 + 9 * p + 6)) + 0)) := by rw [show iI (T (26 + 9 * p + 6)) + 0 = iI (T (26 + 9 * p + 6) + 0) from iI_add _ 0]; exact hM.wa _ _
          refine c_M_put' p 7 ?_ hv rfl hokk.2.1 (by omega)
          have hM3 : MS (u1 (u1 T (26 + 9 * p + 6) (T (26 + 9 * p + 6) + 0)) (26 + 9 * p + 7) 0) (wa (wa hc 91 (26 + 9 * p + 6) (iI (T (26 + 9 * p + 6)) + 0)) 91 (26 + 9 * p + 7) 0) := hM2.wa _ 0
          have r7 : u1 (u1 T (26 + 9 * p + 6) (T (26 + 9 * p + 6) + 0)) (26 + 9 * p + 7) 0 (26 + 9 * p + 7) = 0 := u1_s _ _ _
          have r8 : u1 (u1 T (26 + 9 * p + 6) (T (26 + 9 * p + 6) + 0)) (26 + 9 * p + 7) 0 (26 + 9 * p + 8) = T (26 + 9 * p + 8) := by rw [u1_n _ _ (by omega), u1_n _ _ (by omega)]
          have done : ∀ v : Int32, v = iI (if (0 : Int) ≤ T (26 + 9 * p + 8) then T (26 + 9 * p + 8) else 0) → ∀ (L3 L4 : Option Value), SR y_M_frameNow 13 [some (.ref 90), some (.int (nI w)), some (.int (z + 1)), L3, L4] [] (wa (wa (wa hc 91 (26 + 9 * p + 6) (iI (T (26 + 9 * p + 6)) + 0)) 91 (26 + 9 * p + 7) 0) 91 (26 + 9 * p + 8) v) Q := by
            intro v hv2 L3 L4
            refine ih (k + 1) (by omega) (by omega) _ _ _ _ (((hsm.t (Sm.wa _ _ (by decide))).t (Sm.wa _ _ (by decide))).t (Sm.wa _ _ (by decide))) ?_ (iI_1 hz)
            rw [hnx, hd, hv2]
            exact hM3.wa _ _
          refine c_M_of hM3 p 7 ?_ hv rfl hokk.2.1 (by omega)
          refine c_M_of hM3 p 8 ?_ hv rfl hokk.2.1 (by omega)
          rw [r7, r8]
          refine w_le 0 (T (26 + 9 * p + 8)) (fun g5 => ?_) (fun g5 => ?_) rfl rfl
          · refine c_M_of hM3 p 8 ?_ hv rfl hokk.2.1 (by omega)
            refine c_M_put' p 8 ?_ hv rfl hokk.2.1 (by omega)
            exact done _ (by rw [if_pos g5, r8]) _ _
          · refine c_M_of hM3 p 7 ?_ hv rfl hokk.2.1 (by omega)
            refine c_M_put' p 8 ?_ hv rfl hokk.2.1 (by omega)
            exact done _ (by rw [if_neg (by omega), r7]) _ _
  exact loop ((S 1).toNat + 1) 0 (by omega) (by omega) h1 _ _ _ (hs1.mo (fun _ z => z) (by decide)) hM1 rfl
