/-! what the acts make of the state -/
theorem iI_p {x : Int32} {k : Nat} (h : x = iI k) (hk : 0 < k) : x + (-1) = iI ((k - 1 : Nat) : Int) := by
  rw [h, show (-1 : Int32) = iI (-1) from by decide, iI_add]
  exact congrArg iI (by omega)
theorem u1_app {α : Type} (f : Nat → α) (k : Nat) (x : α) (j : Nat) : u1 f k x j = if j = k then x else f j := rfl
theorem MS.wa {S : Nat → Int} {h : St} (hS : MS S h) (i : Nat) (z : Int) : MS (u1 S i z) (wa h 91 i (iI z)) := MS_set hS i z h.1
def mvS (S : Nat → Int) (p : Nat) (x y : Int) : Nat → Int := u1 (u1 S (26 + 9 * p) x) (26 + 9 * p + 1) y
theorem c_M_put' {x y z : Int32} {h : St} {Q : Option Value → St → Prop} (pu k : Nat) (hQ : Q none (wa h 91 (26 + 9 * pu + k) z)) (hx : x = iI pu) (hy : y = iI k) (hp : pu < 20) (hk : k < 9) : SC y_M_put [.ref 90, .int x, .int y, .int z] h Q := c_M_put pu k hQ hx hy hp hk
theorem c_M_moveNow {S : Nat → Int} {x1 x2 x3 : Int32} {h : St} {Q : Option Value → St → Prop} (hS : MS S h) (p : Nat) (x y : Int) (hW : WP (mvS S p x y)) (hp : p < 20) (hQ : ∀ h', Sm [] [91] h h' → MS (mvS S p x y) h' → Q (some (.int (iI (lns (mvS S p x y) p 48)))) h') (h1 : x1 = iI p) (h2 : x2 = iI x) (h3 : x3 = iI y) : SC y_M_moveNow [.ref 90, .int x1, .int x2, .int x3] h Q := by
  refine w_call IS_ok [] ok_M_moveNow rfl rfl ?_
  subst h2; subst h3
  refine c_M_put' p 0 ?_ h1 rfl hp (by omega)
  refine c_M_put' p 1 ?_ h1 rfl hp (by omega)
  have hM : MS (mvS S p x y) (wa (wa h 91 (26 + 9 * p + 0) (iI x)) 91 (26 + 9 * p + 1) (iI y)) := (hS.wa _ _).wa _ _
  exact c_M_linesOf hM hW p (hQ _ ((Sm.wa _ _ (by decide)).t (Sm.wa _ _ (by decide))) hM) h1 hp
theorem c_M_turnNow {S : Nat → Int} {x1 x2 : Int32} {h : St} {Q : Option Value → St → Prop} (hS : MS S h) (p : Nat) (f : Int) (hp : p < 20) (hQ : ∀ h', Sm [] [91] h h' → MS (u1 S (26 + 9 * p + 5) f) h' → Q (some (.int (iI (S (26 + 9 * p + 5))))) h') (h1 : x1 = iI p) (h2 : x2 = iI f) : SC y_M_turnNow [.ref 90, .int x1, .int x2] h Q := by
  refine w_call IS_ok [] ok_M_turnNow rfl rfl ?_
  subst h2
  refine c_M_of hS p 5 ?_ h1 rfl hp (by omega)
  refine c_M_put' p 5 ?_ h1 rfl hp (by omega)
  exact hQ _ (Sm.wa _ _ (by decide)) (hS.wa _ _)
theorem c_M_limitNow {S : Nat → Int} {x1 : Int32} {h : St} {Q : Option Value → St → Prop} (hS : MS S h) (l : Int) (hQ : ∀ h', Sm [] [91] h h' → MS (u1 S 2 l) h' → Q (some (.int (iI (S 2)))) h') (h1 : x1 = iI l) : SC y_M_limitNow [.ref 90, .int x1] h Q := by
  refine w_call IS_ok [] ok_M_limitNow rfl rfl ?_
  subst h1
  refine w_ix 2 ?_ rfl (show 2 < 270 by omega)
  refine w_ix 2 ?_ rfl (show 2 < 270 by omega)
  have := hQ (wa h 91 2 (iI l)) (Sm.wa _ _ (by decide)) (hS.wa _ _)
  rw [← hS 2] at this
  exact this
theorem c_M_limitCode {x1 : Int32} {h : St} {Q : Option Value → St → Prop} (l : Int) (hQ : Q (some (.int (if 1 ≤ l ∧ l ≤ 8 then 0 else -101))) h) (h1 : x1 = iI l) (hl : rg l) : SC y_M_limitCode [.int x1] h Q := by
  refine w_call IS_ok [] ok_M_limitCode rfl rfl ?_
  refine c_M_in l 1 8 ?_ h1 rfl rfl hl (by omega) (by omega)
  refine w_b (fun h2 => ?_) (fun h2 => ?_)
  · rw [if_neg h2] at hQ; exact hQ
  · rw [if_pos h2] at hQ; exact hQ
theorem c_M_thereCode {S : Nat → Int} {x1 : Int32} {h : St} {Q : Option Value → St → Prop} (hS : MS S h) (hW : WF S) (p : Int) (hQ : Q (some (.int (if thr S p then 0 else -101))) h) (h1 : x1 = iI p) (hp : rg p) : SC y_M_thereCode [.ref 90, .int x1] h Q := by
  refine w_call IS_ok [] ok_M_thereCode rfl rfl ?_
  refine c_M_isThere hS hW p ?_ h1 hp
  refine w_b (fun h2 => ?_) (fun h2 => ?_)
  · rw [if_neg h2] at hQ; exact hQ
  · rw [if_pos h2] at hQ; exact hQ
theorem c_M_moveCode {S : Nat → Int} {x1 x2 x3 : Int32} {h : St} {Q : Option Value → St → Prop} (hS : MS S h) (hW : WF S) (p x y : Int) (hQ : Q (some (.int (if thr S p ∧ (-15 ≤ x ∧ x ≤ 63) ∧ (-15 ≤ y ∧ y ≤ 47) then 0 else -101))) h) (h1 : x1 = iI p) (h2 : x2 = iI x) (h3 : x3 = iI y) (hp : rg p) (hx : rg x) (hy : rg y) : SC y_M_moveCode [.ref 90, .int x1, .int x2, .int x3] h Q := by
  refine w_call IS_ok [] ok_M_moveCode rfl rfl ?_
  refine c_M_isThere hS hW p ?_ h1 hp
  refine w_b (fun h4 => ?_) (fun h4 => ?_)
  · rw [if_neg (fun z => h4 z.1)] at hQ; exact hQ
  · refine c_M_isPlace x y ?_ h2 h3 hx hy
    refine w_b (fun h5 => ?_) (fun h5 => ?_)
    · rw [if_neg (fun z => h5 z.2)] at hQ; exact hQ
    · rw [if_pos ⟨h4, h5⟩] at hQ; exact hQ
theorem c_M_turnCode {S : Nat → Int} {x1 x2 : Int32} {h : St} {Q : Option Value → St → Prop} (hS : MS S h) (hW : WF S) (p f : Int) (hQ : Q (some (.int (if thr S p ∧ (0 ≤ f ∧ f ≤ 3) then 0 else -101))) h) (h1 : x1 = iI p) (h2 : x2 = iI f) (hp : rg p) (hf : rg f) : SC y_M_turnCode [.ref 90, .int x1, .int x2] h Q := by
  refine w_call IS_ok [] ok_M_turnCode rfl rfl ?_
  refine c_M_isThere hS hW p ?_ h1 hp
  refine w_b (fun h4 => ?_) (fun h4 => ?_)
  · rw [if_neg (fun z => h4 z.1)] at hQ; exact hQ
  · refine c_M_in f 0 3 ?_ h2 rfl rfl hf (by omega) (by omega)
    refine w_b (fun h5 => ?_) (fun h5 => ?_)
    · rw [if_neg (fun z => h5 z.2)] at hQ; exact hQ
    · rw [if_pos ⟨h4, h5⟩] at hQ; exact hQ
theorem c_M_frameCode {S : Nat → Int} {h : St} {Q : Option Value → St → Prop} (hS : MS S h) (hW : WF S) (hQ : Q (some (.int (if S 5 = 9999 then -103 else 0))) h) : SC y_M_frameCode [.ref 90] h Q := by
  refine w_call IS_ok [] ok_M_frameCode rfl rfl ?_
  have := hW.2.2.2.2.2.1
  refine w_ix 5 (w_eq (S 5) 9999 (fun h1 => ?_) (fun h1 => ?_) (hS 5)) rfl (show 5 < 270 by omega)
  · rw [if_pos h1] at hQ; exact hQ
  · rw [if_neg h1] at hQ; exact hQ
/-- the order is another one, and all else as before -/
def ROrd (S : Nat → Int) (n : Nat) (o : Nat → Nat) (S' : Nat → Int) : Prop := S' 1 = n ∧ (∀ k, k < n → S' (6 + k) = o k) ∧ ∀ i, i ≠ 1 → ¬ (6 ≤ i ∧ i < 26) → S' i = S i
def outO (o : Nat → Nat) (q : Nat) : Nat → Nat := fun k => if k < q then o k else o (k + 1)
def lftO (o : Nat → Nat) (q : Nat) : Nat → Nat := fun k => if k = 0 then o q else if k ≤ q then o (k - 1) else o k
def lowO (o : Nat → Nat) (q n : Nat) : Nat → Nat := fun k => if k < q then o k else if k + 1 < n then o (k + 1) else o q
set_option maxHeartbeats 1000000 in
theorem c_M_takeOut {S : Nat → Int} {x1 : Int32} {h : St} {Q : Option Value → St → Prop} (hS : MS S h) (hW : WF S) (q : Nat) (hq : q < (S 1).toNat) (hQ : ∀ h' S', Sm [] [91] h h' → MS S' h' → ROrd S ((S 1).toNat - 1) (outO (od S) q) S' → Q none h') (h1 : x1 = iI q) : SC y_M_takeOut [.ref 90, .int x1] h Q := by
  refine w_call IS_ok [12] ok_M_takeOut rfl rfl ?_
  obtain ⟨hn1, hn2, -⟩ := hW.n
  have hod := fun k hk => hW.od (k := k) hk
  generalize hn : (S 1).toNat = n at *
  refine w_ix 1 ?_ rfl (show 1 < 270 by omega)
  refine w_ix 1 ?_ rfl (show 1 < 270 by omega)
  have loop : ∀ (m k : Nat), n ≤ k + m → q ≤ k → k ≤ n - 1 → ∀ (hc : St) (S' : Nat → Int) (z : Int32), Sm [] [91] h hc → MS S' hc → S' 1 = (n - 1 : Nat) → (∀ j, j < k → S' (6 + j) = outO (od S) q j) → (∀ j, k ≤ j → j < n → S' (6 + j) = od S j) → (∀ i, i ≠ 1 → ¬ (6 ≤ i ∧ i < 26) → S' i = S i) → z = iI k → SR y_M_takeOut 12 [some (.ref 90), some (.int x1), some (.int z)] [] hc Q := by
    intro m
    induction m with
    | zero => intro k g1 g2 g3; omega
    | succ m ih =>
      intro k g1 g2 g3 hc S' z hsm hM e1 elo ehi eo hz
      refine w_loop IS_ok [12] ok_M_takeOut ?_
      have ix6 : (6 : Int32) + z = iI ((6 + k : Nat) : Int) := by rw [hz]; exact (iI_add 6 k).trans (congrArg iI (by omega))
      refine w_ix 1 (w_le (n - 1 : Nat) k (fun g4 => ?_) (fun g4 => ?_) ((hM 1).trans (by rw [e1])) hz) rfl (show 1 < 270 by omega)
      · have : k = n - 1 := by omega
        subst this
        exact hQ hc S' hsm hM ⟨e1, elo, eo⟩
      · refine w_ix (6 + k + 1) ?_ (iI_1 ix6) (show 6 + k + 1 < 270 by omega)
        refine w_ix (6 + k) ?_ ix6 (show 6 + k < 270 by omega)
        have ev : hc.2 91 (6 + k + 1) = iI (od S (k + 1)) := by rw [hM]; exact congrArg iI (ehi (k + 1) (by omega) (by omega))
        refine ih (k + 1) (by omega) (by omega) (by omega) (wa hc 91 (6 + k) (hc.2 91 (6 + k + 1))) (u1 S' (6 + k) (od S (k + 1))) _ (hsm.t (Sm.wa _ _ (by decide))) (by rw [ev]; exact hM.wa _ _) (by rw [u1_n _ _ (by omega)]; exact e1) (fun j hj => ?_) (fun j hj1 hj2 => ?_) (fun i hi1 hi2 => ?_) (iI_1 hz)
        · by_cases hjk : j = k
          · rw [hjk, u1_s]
            unfold outO
            rw [if_neg (by omega)]
          · rw [u1_n _ _ (by omega)]; exact elo j (by omega)
        · rw [u1_n _ _ (by omega)]; exact ehi j (by omega) hj2
        · rw [u1_n _ _ (by omega)]; exact eo i hi1 hi2
  have ev : h.2 91 1 - 1 = iI ((n - 1 : Nat) : Int) := by rw [hS, hn1]; exact (iI_sub _ 1).trans (congrArg iI (by omega))
  refine loop n q (by omega) (by omega) (by omega) (wa h 91 1 (h.2 91 1 - 1)) (u1 S 1 (n - 1 : Nat)) _ (Sm.wa _ _ (by decide)) (by rw [ev]; exact hS.wa _ _) (u1_s _ _ _) (fun j hj => ?_) (fun j hj1 hj2 => ?_) (fun i hi1 hi2 => u1_n _ _ hi1) h1
  · rw [u1_n _ _ (by omega)]
    unfold outO
    rw [if_pos hj]
    exact (hod j (by omega)).1
  · rw [u1_n _ _ (by omega)]; exact (hod j hj2).1
set_option maxHeartbeats 1000000 in
theorem c_M_liftNow {S : Nat → Int} {x1 : Int32} {h : St} {Q : Option Value → St → Prop} (hS : MS S h) (hW : WF S) (p : Int) (hp : thr S p) (hQ : ∀ h' S' (q : Nat), Sm [] [91] h h' → MS S' h' → pos S p (S 1).toNat = q → q < (S 1).toNat → ROrd S (S 1).toNat (lftO (od S) q) S' → Q (some (.int (iI q))) h') (h1 : x1 = iI p) : SC y_M_liftNow [.ref 90, .int x1] h Q := by
  refine w_call IS_ok [8] ok_M_liftNow rfl rfl ?_
  obtain ⟨hn1, hn2, -⟩ := hW.n
  have hpb := thr_b hW hp
  refine c_M_positionOf hS hW p ?_ h1 (by omega)
  obtain ⟨q, hq⟩ : ∃ q : Nat, pos S p (S 1).toNat = q := ⟨(pos S p (S 1).toNat).toNat, by have := pos_b S p (S 1).toNat; omega⟩
  have hqa := pos_at hq
  have hod := fun k hk => hW.od (k := k) hk
  have hpq : S (6 + q) = (od S q : Int) := (hod q hqa.1).1
  rw [hq]
  have loop : ∀ (m k : Nat), k ≤ m → k ≤ q → ∀ (hc : St) (S' : Nat → Int) (z : Int32), Sm [] [91] h hc → MS S' hc → S' 1 = S 1 → (∀ j, k < j → j ≤ q → S' (6 + j) = od S (j - 1)) → (∀ j, j ≤ k ∨ q < j → j < (S 1).toNat → S' (6 + j) = od S j) → (∀ i, i ≠ 1 → ¬ (6 ≤ i ∧ i < 26) → S' i = S i) → z = iI k → SR y_M_liftNow 8 [some (.ref 90), some (.int x1), some (.int (iI q)), some (.int z)] [] hc Q := by
    have last : ∀ (hc : St) (S' : Nat → Int), Sm [] [91] h hc → MS S' hc → S' 1 = S 1 → (∀ j, 0 < j → j ≤ q → S' (6 + j) = od S (j - 1)) → (∀ j, j ≤ 0 ∨ q < j → j < (S 1).toNat → S' (6 + j) = od S j) → (∀ i, i ≠ 1 → ¬ (6 ≤ i ∧ i < 26) → S' i = S i) → ∀ z, z = iI (0 : Nat) → SR y_M_liftNow 8 [some (.ref 90), some (.int x1), some (.int (iI q)), some (.int z)] [] hc Q := by
      intro hc S' hsm hM e1 elo ehi eo z hz
      refine w_loop IS_ok [] ok_M_liftNow ?_
      refine w_le 0 0 (fun _ => ?_) (fun g => by omega) hz rfl
      refine w_ix 6 ?_ rfl (show 6 < 270 by omega)
      refine hQ (wa hc 91 6 x1) (u1 S' 6 (od S q)) q (hsm.t (Sm.wa _ _ (by decide))) ?_ hq hqa.1 ⟨by rw [u1_n _ _ (by omega), e1]; exact hn1, fun k hk => ?_, fun i hi1 hi2 => ?_⟩
      · rw [h1, ← hqa.2, hpq]; exact hM.wa _ _
      · unfold lftO
        by_cases hk0 : k = 0
        · rw [if_pos hk0, hk0]; exact u1_s _ _ _
        · rw [if_neg hk0, u1_n _ _ (by omega)]
          by_cases hkq : k ≤ q
          · rw [if_pos hkq]; exact elo k (by omega) hkq
          · rw [if_neg hkq]; exact ehi k (by omega) hk
      · rw [u1_n _ _ (by omega)]; exact eo i hi1 hi2
    intro m
    induction m with
    | zero =>
      intro k g1 g2 hc S' z hsm hM e1 elo ehi eo hz
      have : k = 0 := by omega
      subst this
      exact last hc S' hsm hM e1 elo ehi eo z hz
    | succ m ih =>
      intro k g1 g2 hc S' z hsm hM e1 elo ehi eo hz
      by_cases hk : k = 0
      · subst hk
        exact last hc S' hsm hM e1 elo ehi eo z hz
      · refine w_loop IS_ok [8] ok_M_liftNow ?_
        refine w_le k 0 (fun g => by omega) (fun _ => ?_) hz rfl
        have ix6 : (6 : Int32) + z = iI ((6 + k : Nat) : Int) := by rw [hz]; exact (iI_add 6 k).trans (congrArg iI (by omega))
        have ix5 : (6 : Int32) + z - 1 = iI ((6 + (k - 1) : Nat) : Int) := by rw [ix6]; exact (iI_sub _ 1).trans (congrArg iI (by omega))
        refine w_ix (6 + (k - 1)) ?_ ix5 (show 6 + (k - 1) < 270 by omega)
        refine w_ix (6 + k) ?_ ix6 (show 6 + k < 270 by omega)
        have ev : hc.2 91 (6 + (k - 1)) = iI (od S (k - 1)) := by rw [hM]; exact congrArg iI (ehi (k - 1) (by omega) (by omega))
        refine ih (k - 1) (by omega) (by omega) (wa hc 91 (6 + k) (hc.2 91 (6 + (k - 1)))) (u1 S' (6 + k) (od S (k - 1))) _ (hsm.t (Sm.wa _ _ (by decide))) (by rw [ev]; exact hM.wa _ _) (by rw [u1_n _ _ (by omega)]; exact e1) (fun j hj1 hj2 => ?_) (fun j hj1 hj2 => ?_) (fun i hi1 hi2 => ?_) (iI_p hz (by omega))
        · by_cases hjk : j = k
          · rw [hjk]; exact u1_s _ _ _
          · rw [u1_n _ _ (by omega)]; exact elo j (by omega) hj2
        · rw [u1_n _ _ (by omega)]; exact ehi j (by omega) hj2
        · rw [u1_n _ _ (by omega)]; exact eo i hi1 hi2
  exact loop q q (by omega) (by omega) h S _ Sm.rf hS rfl (fun j g1 g2 => by omega) (fun j _ hj => (hod j hj).1) (fun i _ _ => rfl) rfl
theorem c_M_lowerNow {S : Nat → Int} {x1 : Int32} {h : St} {Q : Option Value → St → Prop} (hS : MS S h) (hW : WF S) (p : Int) (hp : thr S p) (hQ : ∀ h' S' (q : Nat), Sm [] [91] h h' → MS S' h' → pos S p (S 1).toNat = q → q < (S 1).toNat → ROrd S (S 1).toNat (lowO (od S) q (S 1).toNat) S' → Q (some (.int (iI q))) h') (h1 : x1 = iI p) : SC y_M_lowerNow [.ref 90, .int x1] h Q := by
  refine w_call IS_ok [] ok_M_lowerNow rfl rfl ?_
  obtain ⟨hn1, hn2, -⟩ := hW.n
  have hpb := thr_b hW hp
  refine c_M_positionOf hS hW p ?_ h1 (by omega)
  obtain ⟨q, hq⟩ : ∃ q : Nat, pos S p (S 1).toNat = q := ⟨(pos S p (S 1).toNat).toNat, by have := pos_b S p (S 1).toNat; omega⟩
  have hqa := pos_at hq
  have hpq : S (6 + q) = (od S q : Int) := (hW.od hqa.1).1
  rw [hq]
  refine c_M_takeOut hS hW q hqa.1 (fun h' S' hsm hM hR => ?_) rfl
  obtain ⟨r1, r2, r3⟩ := hR
  have ix6 : (6 : Int32) + h'.2 91 1 = iI ((6 + ((S 1).toNat - 1) : Nat) : Int) := by rw [hM, r1]; exact (iI_add 6 _).trans (congrArg iI (by omega))
  refine w_ix 1 ?_ rfl (show 1 < 270 by omega)
  refine w_ix (6 + ((S 1).toNat - 1)) ?_ ix6 (show 6 + ((S 1).toNat - 1) < 270 by omega)
  refine w_ix 1 ?_ rfl (show 1 < 270 by omega)
  refine w_ix 1 ?_ rfl (show 1 < 270 by omega)
  have ev : (wa h' 91 (6 + ((S 1).toNat - 1)) x1).2 91 1 + 1 = iI (S 1) := by
    rw [wa_n _ _ _ _ (by omega), hM, r1]
    exact (iI_add _ 1).trans (congrArg iI (by omega))
  refine hQ (wa (wa h' 91 (6 + ((S 1).toNat - 1)) x1) 91 1 ((wa h' 91 (6 + ((S 1).toNat - 1)) x1).2 91 1 + 1)) (u1 (u1 S' (6 + ((S 1).toNat - 1)) (od S q)) 1 (S 1)) q ((hsm.t (Sm.wa _ _ (by decide))).t (Sm.wa _ _ (by decide))) ?_ hq hqa.1 ⟨by rw [u1_s]; exact hn1, fun k hk => ?_, fun i hi1 hi2 => ?_⟩
  · rw [ev]
    refine MS.wa ?_ _ _
    rw [h1, ← hqa.2, hpq]
    exact hM.wa _ _
  · rw [u1_n _ _ (by omega)]
    unfold lowO
    by_cases hkn : k + 1 = (S 1).toNat
    · have : k = (S 1).toNat - 1 := by omega
      rw [this, u1_s, if_neg (by omega), if_neg (by omega)]
    · rw [u1_n _ _ (by omega), r2 k (by omega)]
      unfold outO
      by_cases hkq : k < q
      · rw [if_pos hkq, if_pos hkq]
      · rw [if_neg hkq, if_neg hkq, if_pos (by omega)]
  · rw [u1_n _ _ hi1, u1_n _ _ (by omega)]
    exact r3 i hi1 hi2
