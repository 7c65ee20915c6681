/-! forecasts -/
def hB (S : Nat → Int) (o : Nat → Nat) (p : Nat) : Bool := decide (0 < hT S o (S 1).toNat 48 p)
/-- the order behind some frames -/
def oF (S : Nat → Int) (rule : Int) (step : Nat) : Nat → (Nat → Nat)
  | 0 => od S
  | t + 1 => fl (turnL (hB S (oF S rule step t)) rule step (S 1).toNat (oF S rule step t))
theorem oF_b {S : Nat → Int} (hW : WF S) (rule : Int) (step : Nat) : ∀ (t k : Nat), k < (S 1).toNat → ∃ j, j < (S 1).toNat ∧ oF S rule step t k = od S j
  | 0, k, hk => ⟨k, hk, rfl⟩
  | t + 1, k, hk => by
    have h1 := fl_mem (l := turnL (hB S (oF S rule step t)) rule step (S 1).toNat (oF S rule step t)) (k := k) (by rw [turnL_len]; exact hk)
    obtain ⟨j, hj, e⟩ := turnL_mem h1
    obtain ⟨i, hi, e2⟩ := oF_b hW rule step t j hj
    refine ⟨i, hi, ?_⟩
    show fl (turnL (hB S (oF S rule step t)) rule step (S 1).toNat (oF S rule step t)) k = _
    rw [← e, e2]
theorem oF_20 {S : Nat → Int} (hW : WF S) (rule : Int) (step t k : Nat) (hk : k < (S 1).toNat) : oF S rule step t k < 20 := by
  obtain ⟨j, hj, e⟩ := oF_b hW rule step t k hk
  rw [e]
  exact (hW.od hj).2.1
/-- in how many of some frames a puppet is hidden -/
def ofn (S : Nat → Int) (rule : Int) (step p : Nat) (t : Nat) : Nat := sm (fun i => if hB S (oF S rule step i) p then 1 else 0) t
theorem ofn_le (S : Nat → Int) (rule : Int) (step p t : Nat) : ofn S rule step p t ≤ t := by
  have := sm_le (f := fun i => if hB S (oF S rule step i) p then 1 else 0) (b := 1) (n := t) (fun i _ => by split <;> omega)
  unfold ofn
  omega
/-- the trial stands behind t frames -/
def Tri (S : Nat → Int) (rule : Int) (step t : Nat) (h : St) : Prop := (∀ k, k < (S 1).toNat → h.2 95 k = iI (oF S rule step t k)) ∧ ∀ p, p < 20 → h.2 97 p = iI (ofn S rule step p t)
set_option maxHeartbeats 1000000 in
theorem c_M_beginTrial {S : Nat → Int} {h : St} {Q : Option Value → St → Prop} (hS : MS S h) (hW : WF S) (hQ : ∀ h', Sm [] [95, 97] h h' → (∀ rule step, Tri S rule step 0 h') → Q none h') : SC y_M_beginTrial [.ref 90] h Q := by
  refine w_call IS_ok [2] ok_M_beginTrial rfl rfl ?_
  have hn := hW.n
  have zero : ∀ (m k : Nat), 21 ≤ k + m → k ≤ 20 → ∀ (hc : St) (z : Int32), Sm [] [95, 97] h hc → (∀ j, j < (S 1).toNat → hc.2 95 j = iI (od S j)) → (∀ p, p < k → hc.2 97 p = 0) → z = iI k → SR y_M_beginTrial 35 [some (.ref 90), some (.int z)] [] hc Q := by
    intro m
    induction m with
    | zero => intro k q1 q2; omega
    | succ m ih =>
      intro k q1 q2 hc z hsm ho hz e
      refine w_loop IS_ok [35] ok_M_beginTrial ?_
      refine w_le 20 k (fun q3 => ?_) (fun q3 => ?_) rfl e
      · exact hQ hc hsm (fun rule step => ⟨ho, fun p hp => hz p (by omega)⟩)
      · refine w_ix k ?_ e (show k < 20 by omega)
        refine ih (k + 1) (by omega) (by omega) (wa hc 97 k 0) _ (hsm.t (Sm.wa _ _ (by decide))) (fun j hj => by rw [wa_o _ _ _ _ (by decide)]; exact ho j hj) (fun p hp => ?_) (iI_1 e)
        by_cases hpk : p = k
        · rw [hpk, wa_s]
        · rw [wa_n _ _ _ _ hpk]; exact hz p (by omega)
  have loop : ∀ (m k : Nat), (S 1).toNat + 1 ≤ k + m → k ≤ (S 1).toNat → ∀ (hc : St) (z : Int32), Sm [] [95, 97] h hc → (∀ j, j < k → hc.2 95 j = iI (od S j)) → z = iI k → SR y_M_beginTrial 2 [some (.ref 90), some (.int z)] [] hc Q := by
    intro m
    induction m with
    | zero => intro k q1 q2; omega
    | succ m ih =>
      intro k q1 q2 hc z hsm ho e
      have hMc := hS.sm hsm (by decide)
      refine w_loop IS_ok [2, 35] ok_M_beginTrial ?_
      refine w_ix 1 (w_le (S 1) k (fun q3 => ?_) (fun q3 => ?_) (hMc 1) e) rfl (show 1 < 270 by omega)
      · have : k = (S 1).toNat := by omega
        subst this
        exact zero 21 0 (by omega) (by omega) hc _ hsm ho (fun p hp => by omega) rfl
      · refine w_ix (6 + k) ?_ (by rw [e]; exact (iI_add 6 k).trans (congrArg iI (by omega))) (show 6 + k < 270 by omega)
        refine w_ix k ?_ e (show k < 20 by omega)
        refine ih (k + 1) (by omega) (by omega) (wa hc 95 k (hc.2 91 (6 + k))) _ (hsm.t (Sm.wa _ _ (by decide))) (fun j hj => ?_) (iI_1 e)
        by_cases hjk : j = k
        · rw [hjk, wa_s, hMc]; exact congrArg iI (hW.od (by omega)).1
        · rw [wa_n _ _ _ _ hjk]; exact ho j (by omega)
  exact loop ((S 1).toNat + 1) 0 (by omega) (by omega) h _ Sm.rf (fun j hj => by omega) rfl
set_option maxHeartbeats 1000000 in
theorem c_M_tryFrame {S : Nat → Int} {x1 x2 : Int32} {h : St} {Q : Option Value → St → Prop} (hS : MS S h) (hW : WF S) (rule : Int) (step t : Nat) (hru : 0 ≤ rule ∧ rule ≤ 2) (hst : step ≤ 19) (ht : t ≤ 100) (hT : Tri S rule step t h) (hQ : ∀ (h' : St) (w : Nat), Sm [] [98, 97, 96, 95] h h' → Tri S rule step (t + 1) h' → w < 2 ^ 20 → (∀ p, p < 20 → w.testBit p = hB S (oF S rule step t) p) → Q (some (.int (nI w))) h') (h1 : x1 = iI rule) (h2 : x2 = iI step) : SC y_M_tryFrame [.ref 90, .int x1, .int x2] h Q := by
  refine w_call IS_ok [13] ok_M_tryFrame rfl rfl ?_
  obtain ⟨hn1, hn2, -⟩ := hW.n
  have hlim := hW.lim
  refine c_M_hidden_95 hS hW.wp (S 1).toNat (oF S rule step t) hn1 hn2 (by omega) (fun k hk => oF_20 hW rule step t k hk) (fun k hk => by rw [Nat.zero_add]; exact hT.1 k hk) (fun hc w hs hw hb _ => ?_) rfl
  have loop : ∀ (m k : Nat), 21 ≤ k + m → k ≤ 20 → ∀ (hd : St) (z : Int32), Sm [] [98, 97, 96, 95] h hd → hd.2 95 = h.2 95 → (∀ p, p < k → hd.2 97 p = iI (ofn S rule step p (t + 1))) → (∀ p, k ≤ p → p < 20 → hd.2 97 p = iI (ofn S rule step p t)) → z = iI k → SR y_M_tryFrame 13 [some (.ref 90), some (.int x1), some (.int x2), some (.int (nI w)), some (.int z)] [] hd Q := by
    intro m
    induction m with
    | zero => intro k q1 q2; omega
    | succ m ih =>
      intro k q1 q2 hd z hsm h95 hlo hhi e
      refine w_loop IS_ok [13] ok_M_tryFrame ?_
      refine w_le 20 k (fun q3 => ?_) (fun q3 => ?_) rfl e
      · have hk : k = 20 := by omega
        subst hk
        have hMd := hS.sm hsm (by decide)
        refine c_M_takeTurn_95 (S 1).toNat (oF S rule step t) (hB S (oF S rule step t)) rule step w (by rw [hMd]; exact congrArg iI hn1) hn2 (fun k hk => oF_20 hW rule step t k hk) (fun k hk => by rw [Nat.zero_add, h95]; exact hT.1 k hk) hru hst hw hb (fun he hse hrow _ => ?_) rfl h1 h2 rfl
        refine hQ he w (hsm.t (hse.mo (by decide) (by decide))) ⟨fun k hk => ?_, fun p hp => ?_⟩ hw hb
        · have := hrow k hk
          rw [Nat.zero_add] at this
          exact this
        · rw [hse.2 97 (by decide)]
          exact hlo p hp
      · refine w_ix k ?_ e (show k < 20 by omega)
        refine w_ix k ?_ e (show k < 20 by omega)
        have ev : hd.2 97 k + ((nI w >>> (z &&& 31)) &&& 1) = iI (ofn S rule step k (t + 1)) := by
          rw [e, bit_is (B := hB S (oF S rule step t)) hw (by omega) (hb k (by omega)), hhi k (by omega) (by omega), iI_add]
          refine congrArg iI ?_
          show _ = ((ofn S rule step k t + (if hB S (oF S rule step t) k then 1 else 0) : Nat) : Int)
          cases hB S (oF S rule step t) k <;> simp
        refine ih (k + 1) (by omega) (by omega) (wa hd 97 k _) _ (hsm.t (Sm.wa _ _ (by decide))) (by rw [wa_o _ _ _ _ (by decide)]; exact h95) (fun p hp => ?_) (fun p hp1 hp2 => ?_) (iI_1 e)
        · by_cases hpk : p = k
          · rw [hpk, wa_s]; exact ev
          · rw [wa_n _ _ _ _ hpk]; exact hlo p (by omega)
        · rw [wa_n _ _ _ _ (by omega)]; exact hhi p (by omega) hp2
  exact loop 21 0 (by omega) (by omega) hc _ (hs.mo (by decide) (by decide)) (hs.2 95 (by decide)) (fun p hp => by omega) (fun p _ hp => by rw [hs.2 97 (by decide)]; exact hT.2 p hp) rfl
/-- what hiddenIn answers -/
def HinR (S : Nat → Int) (p f r : Int) : Prop := (¬ (thr S p ∧ (1 ≤ f ∧ f ≤ 60)) ∧ r = -101) ∨ ((thr S p ∧ (1 ≤ f ∧ f ≤ 60)) ∧ r = ofn S (S 3) (S 4).toNat p.toNat f.toNat)
abbrev SmF (h h' : St) : Prop := Sm [(90, 0)] [98, 97, 96, 95] h h'
set_option maxHeartbeats 1000000 in
theorem c_M_hiddenIn {S : Nat → Int} {x1 x2 : Int32} {h : St} {Q : Option Value → St → Prop} (hS : MS S h) (hW : WF S) (p f : Int) (hQ : ∀ h' r, SmF h h' → HinR S p f r → Q (some (.int (iI r))) h') (h1 : x1 = iI p) (h2 : x2 = iI f) (rp : rg p) (rf : rg f) : SC y_M_hiddenIn [.ref 90, .int x1, .int x2] h Q := by
  refine w_call IS_ok [35] ok_M_hiddenIn rfl rfl ?_
  have s0 : SmF h (pf h 0 0) := Sm.pf _ (by decide)
  have hM := hS.sm s0 (by decide)
  refine c_M_isThere hM hW p ?_ h1 rp
  refine w_b (fun g1 => hQ _ _ s0 (Or.inl ⟨fun z => g1 z.1, rfl⟩)) (fun g1 => ?_)
  refine c_M_in f 1 60 ?_ h2 rfl rfl rf (by omega) (by omega)
  refine w_b (fun g2 => hQ _ _ s0 (Or.inl ⟨fun z => g2 z.2, rfl⟩)) (fun g2 => ?_)
  have hb := thr_b hW g1
  have h3 := hW.2.2.2.1
  have h4 := hW.2.2.2.2.1
  refine c_M_beginTrial hM hW (fun hc hsc hTc => ?_)
  have loop : ∀ (m t : Nat), f.toNat + 1 ≤ t + m → t ≤ f.toNat → ∀ (hd : St) (w : Nat) (vw z : Int32), SmF h hd → Tri S (S 3) (S 4).toNat t hd → w < 2 ^ 20 → (∀ q, q < 20 → w.testBit q = decide (0 < ofn S (S 3) (S 4).toNat q t)) → vw = nI w → z = iI t → SR y_M_hiddenIn 35 [some (.ref 90), some (.int x1), some (.int x2), some (.int vw), some (.int z)] [] hd Q := by
    intro m
    induction m with
    | zero => intro t q1 q2; omega
    | succ m ih =>
      intro t q1 q2 hd w vw z hsm hT hw hbit ew e
      have hMd := hS.sm hsm (by decide)
      refine w_loop IS_ok [35] ok_M_hiddenIn ?_
      refine w_le f t (fun q3 => ?_) (fun q3 => ?_) h2 e
      · have ht : t = f.toNat := by omega
        have hp20 : p.toNat < 20 := by omega
        have hfin := hQ hd _ hsm (Or.inr ⟨⟨g1, g2⟩, rfl⟩)
        rw [← ht] at hfin
        refine w_eq w 0 (fun q4 => ?_) (fun q4 => ?_) ew rfl
        · have h5 := hbit p.toNat hp20
          rw [show w = 0 by omega, Nat.zero_testBit] at h5
          have : ¬ 0 < ofn S (S 3) (S 4).toNat p.toNat t := fun z => by rw [decide_eq_true z] at h5; cases h5
          rw [show ofn S (S 3) (S 4).toNat p.toNat t = 0 by omega] at hfin
          exact hfin
        · refine w_ix p.toNat ?_ (by rw [h1]; exact congrArg iI (by omega)) (show p.toNat < 20 by omega)
          rw [← hT.2 p.toNat hp20] at hfin
          exact hfin
      · refine w_ix 3 ?_ rfl (show 3 < 270 by omega)
        refine w_ix 4 ?_ rfl (show 4 < 270 by omega)
        refine c_M_tryFrame hMd hW (S 3) (S 4).toNat t h3 (by omega) (by omega) hT (fun he v hse hTe hv hvb => ?_) (hMd 3) (by rw [show (((S 4).toNat : Nat) : Int) = S 4 by omega]; exact hMd 4)
        refine ih (t + 1) (by omega) (by omega) he (w ||| v) _ _ (hsm.t (hse.mo (by decide) (by decide))) hTe (Nat.or_lt_two_pow hw hv) (fun q hq => ?_) (by rw [ew, fa_or]) (iI_1 e)
        rw [Nat.testBit_or, hbit q hq, hvb q hq]
        show _ = decide (0 < ofn S (S 3) (S 4).toNat q t + (if hB S (oF S (S 3) (S 4).toNat t) q then 1 else 0))
        cases hB S (oF S (S 3) (S 4).toNat t) q <;> simp
  have e0 := loop (f.toNat + 1) 0 (by omega) (by omega) hc 0 0 0 (s0.t (hsc.mo (by decide) (by decide))) (hTc _ _) (by decide) (fun q hq => by simp [ofn, sm]) rfl rfl
  exact e0
