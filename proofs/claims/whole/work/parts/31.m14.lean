/-- every puppet would have been shown on all its lines in one of t frames at least -/
def allS (S : Nat → Int) (t : Nat) : Prop := ∀ k, k < (S 1).toNat → ∃ i, i < t ∧ hB S (oF S (S 3) (S 4).toNat i) (od S k) = false
def AllR (S : Nat → Int) (r : Int) : Prop := (∃ t : Nat, t ≤ 60 ∧ r = t ∧ allS S t ∧ ∀ u, u < t → ¬ allS S u) ∨ (r = -109 ∧ ∀ u, u ≤ 60 → ¬ allS S u)
theorem nat_zero_bits {w : Nat} (h : ∀ p, p < 20 → w.testBit p = false) (hw : w < 2 ^ 20) : w = 0 := by
  apply Nat.eq_of_testBit_eq
  intro i
  rw [Nat.zero_testBit]
  by_cases hi : i < 20
  · exact h i hi
  · exact Nat.testBit_lt_two_pow (Nat.lt_of_lt_of_le hw (Nat.pow_le_pow_right (by decide) (by omega)))
set_option maxHeartbeats 2000000 in
theorem c_M_allShownIn {S : Nat → Int} {h : St} {Q : Option Value → St → Prop} (hS : MS S h) (hW : WF S) (hQ : ∀ h' r, SmF h h' → AllR S r → Q (some (.int (iI r))) h') : SC y_M_allShownIn [.ref 90] h Q := by
  refine w_call IS_ok [13] ok_M_allShownIn rfl rfl ?_
  have s0 : SmF h (pf h 0 0) := Sm.pf _ (by decide)
  have hM := hS.sm s0 (by decide)
  have h3 := hW.2.2.2.1
  have h4 := hW.2.2.2.2.1
  have hn := hW.n
  refine c_M_beginTrial hM hW (fun hc hsc hTc => ?_)
  have s1 : SmF h hc := s0.t (hsc.mo (by decide) (by decide))
  have hMc := hS.sm s1 (by decide)
  -- who is left behind t frames
  have loop : ∀ (m t : Nat), 61 ≤ t + m → t ≤ 60 → ∀ (hd : St) (w : Nat) (vw z : Int32), SmF h hd → Tri S (S 3) (S 4).toNat t hd → w < 2 ^ 20 → (∀ q, q < 20 → (w.testBit q = true ↔ (∃ k, k < (S 1).toNat ∧ od S k = q) ∧ ∀ i, i < t → hB S (oF S (S 3) (S 4).toNat i) q = true)) → (∀ u, u < t → ¬ allS S u) → vw = nI w → z = iI t → SR y_M_allShownIn 45 [some (.ref 90), some (.int vw), some (.int z)] [] hd Q := by
    intro m
    induction m with
    | zero => intro t q1 q2; omega
    | succ m ih =>
      intro t q1 q2 hd w vw z hsm hT hw hbit hno ew e
      have hMd := hS.sm hsm (by decide)
      have key : w = 0 ↔ allS S t := by
        constructor
        · intro hw0 k hk
          have hod := hW.od hk
          have h5 := hbit (od S k) hod.2.1
          rw [hw0, Nat.zero_testBit] at h5
          apply Classical.byContradiction
          intro hne
          have : ∀ i, i < t → hB S (oF S (S 3) (S 4).toNat i) (od S k) = true := fun i hi => by
            cases hb : hB S (oF S (S 3) (S 4).toNat i) (od S k) with
            | true => rfl
            | false => exact absurd ⟨i, hi, hb⟩ hne
          have := h5.mpr ⟨⟨k, hk, rfl⟩, this⟩
          cases this
        · intro ha
          refine nat_zero_bits (fun p hp => ?_) hw
          cases hb : w.testBit p with
          | false => rfl
          | true =>
            obtain ⟨⟨k, hk, e1⟩, h6⟩ := (hbit p hp).mp hb
            obtain ⟨i, hi, h7⟩ := ha k hk
            rw [e1, h6 i hi] at h7
            cases h7
      refine w_loop IS_ok [45] ok_M_allShownIn ?_
      refine w_eq w 0 (fun q3 => ?_) (fun q3 => ?_) ew rfl
      · refine w_eq w 0 (fun q4 => ?_) (fun q4 => absurd q3 q4) ew rfl
        rw [e]
        exact hQ _ _ hsm (Or.inl ⟨t, q2, rfl, key.mp (by omega), hno⟩)
      · refine w_le 60 t (fun q4 => ?_) (fun q4 => ?_) rfl e
        · refine w_eq w 0 (fun q5 => absurd q5 q3) (fun _ => ?_) ew rfl
          refine hQ _ _ hsm (Or.inr ⟨rfl, fun u hu => ?_⟩)
          by_cases hut : u = t
          · rw [hut]; exact fun z => q3 (by have := key.mpr z; omega)
          · exact hno u (by omega)
        · refine w_ix 3 ?_ rfl (show 3 < 270 by omega)
          refine w_ix 4 ?_ rfl (show 4 < 270 by omega)
          refine c_M_tryFrame hMd hW (S 3) (S 4).toNat t h3 (by omega) (by omega) hT (fun he v hse hTe hv hvb => ?_) (hMd 3) (by rw [show (((S 4).toNat : Nat) : Int) = S 4 by omega]; exact hMd 4)
          refine ih (t + 1) (by omega) (by omega) he (w &&& v) _ _ (hsm.t (hse.mo (by decide) (by decide))) hTe (Nat.lt_of_le_of_lt Nat.and_le_left hw) (fun q hq => ?_) (fun u hu => ?_) (by rw [ew, fa_and]) (iI_1 e)
          · rw [Nat.testBit_and, hvb q hq, Bool.and_eq_true, hbit q hq]
            constructor
            · intro ⟨⟨a, b⟩, c⟩
              refine ⟨a, fun i hi => ?_⟩
              by_cases hit : i = t
              · rw [hit]; exact c
              · exact b i (by omega)
            · intro ⟨a, b⟩
              exact ⟨⟨a, fun i hi => b i (by omega)⟩, b t (by omega)⟩
          · by_cases hut : u = t
            · rw [hut]; exact fun z => q3 (by have := key.mpr z; omega)
            · exact hno u (by omega)
  have first : ∀ (m k : Nat), (S 1).toNat + 1 ≤ k + m → k ≤ (S 1).toNat → ∀ (w : Nat) (vw z : Int32), w < 2 ^ 20 → (∀ q, q < 20 → (w.testBit q = true ↔ ∃ j, j < k ∧ od S j = q)) → vw = nI w → z = iI k → SR y_M_allShownIn 13 [some (.ref 90), some (.int vw), some (.int z)] [] hc Q := by
    intro m
    induction m with
    | zero => intro k q1 q2; omega
    | succ m ih =>
      intro k q1 q2 w vw z hw hbit ew e
      refine w_loop IS_ok [13, 45] ok_M_allShownIn ?_
      refine w_ix 1 (w_le (S 1) k (fun q3 => ?_) (fun q3 => ?_) (hMc 1) e) rfl (show 1 < 270 by omega)
      · have hk : k = (S 1).toNat := by omega
        subst hk
        exact loop 61 0 (by omega) (by omega) hc w _ _ s1 (hTc _ _) hw (fun q hq => by rw [hbit q hq]; exact ⟨fun a => ⟨a, fun i hi => by omega⟩, fun a => a.1⟩) (fun u hu => by omega) ew rfl
      · have hod := hW.od (k := k) (by omega)
        have hv : hc.2 91 (6 + k) = iI (od S k) := by rw [hMc]; exact congrArg iI hod.1
        refine w_ix (6 + k) ?_ (by rw [e]; exact (iI_add 6 k).trans (congrArg iI (by omega))) (show 6 + k < 270 by omega)
        refine ih (k + 1) (by omega) (by omega) (w ||| 2 ^ od S k) _ _ (bit_or_b hw hod.2.1) (fun q hq => ?_) ?_ (iI_1 e)
        · rw [bit_or_t, Bool.or_eq_true, hbit q hq, decide_eq_true_eq]
          constructor
          · rintro (⟨j, hj, e1⟩ | e1)
            · exact ⟨j, by omega, e1⟩
            · exact ⟨k, by omega, e1⟩
          · rintro ⟨j, hj, e1⟩
            by_cases hjk : j = k
            · rw [hjk] at e1; exact Or.inr e1
            · exact Or.inl ⟨j, by omega, e1⟩
        · show vw ||| ((1 : Int32) <<< (hc.2 91 (6 + k) &&& 31)) = nI (w ||| 2 ^ od S k)
          rw [ew, hv, bit_or hod.2.1]
  exact first ((S 1).toNat + 1) 0 (by omega) (by omega) 0 _ _ (by decide) (fun q hq => by simp) rfl rfl
def mxF (f : Nat → Nat) : Nat → Nat
  | 0 => 0
  | n + 1 => if mxF f n < f n then f n else mxF f n
theorem mxF_z {f : Nat → Nat} : ∀ {n : Nat}, (∀ i, i < n → f i = 0) → mxF f n = 0
  | 0, _ => rfl
  | n + 1, h => by
    unfold mxF
    rw [mxF_z (fun i hi => h i (by omega)), h n (by omega)]
    rfl
theorem mxF_b {f : Nat → Nat} {b : Nat} : ∀ {n : Nat}, (∀ i, i < n → f i ≤ b) → mxF f n ≤ b
  | 0, _ => Nat.zero_le _
  | n + 1, h => by
    unfold mxF
    have := mxF_b (f := f) (b := b) (n := n) (fun i hi => h i (by omega))
    have := h n (by omega)
    split <;> omega
/-- the greatest number of 20 frames in which one puppet is hidden, by rule 1 and a step -/
def grb (S : Nat → Int) (step : Nat) : Nat := mxF (fun p => ofn S 1 step p 20) 20
theorem grb_b (S : Nat → Int) (step : Nat) : grb S step ≤ 20 := mxF_b (fun i _ => ofn_le S 1 step i 20)
set_option maxHeartbeats 1000000 in
theorem c_M_greatestBy {S : Nat → Int} {x1 : Int32} {h : St} {Q : Option Value → St → Prop} (hS : MS S h) (hW : WF S) (step : Nat) (hst : step ≤ 19) (hQ : ∀ h', SmF h h' → Q (some (.int (iI (grb S step)))) h') (h1 : x1 = iI step) : SC y_M_greatestBy [.ref 90, .int x1] h Q := by
  refine w_call IS_ok [8] ok_M_greatestBy rfl rfl ?_
  refine c_M_beginTrial hS hW (fun hc hsc hTc => ?_)
  have s1 : SmF h hc := hsc.mo (by decide) (by decide)
  have last : ∀ (hd : St) (w : Nat), SmF h hd → Tri S 1 step 20 hd → w < 2 ^ 20 → (∀ q, q < 20 → w.testBit q = decide (0 < ofn S 1 step q 20)) → ∀ (m k : Nat), 21 ≤ k + m → k ≤ 20 → ∀ (v z : Int32), v = iI (mxF (fun p => ofn S 1 step p 20) k) → z = iI k → SR y_M_greatestBy 34 [some (.ref 90), some (.int x1), some (.int (nI w)), some (.int v), some (.int z)] [] hd Q := by
    intro hd w hsm hT hw hbit m
    induction m with
    | zero => intro k q1 q2; omega
    | succ m ih =>
      intro k q1 q2 v z ev e
      have hb := mxF_b (f := fun p => ofn S 1 step p 20) (b := 20) (n := k) (fun i _ => ofn_le S 1 step i 20)
      refine w_loop IS_ok [34] ok_M_greatestBy ?_
      refine w_le 20 k (fun q3 => ?_) (fun q3 => ?_) rfl e
      · have hk : k = 20 := by omega
        subst hk
        rw [ev]
        exact hQ hd hsm
      · refine w_eq w 0 (fun q4 => ?_) (fun q4 => ?_) rfl rfl
        · have hz : ∀ p, p < 20 → ofn S 1 step p 20 = 0 := fun p hp => by
            have h5 := hbit p hp
            rw [show w = 0 by omega, Nat.zero_testBit] at h5
            have : ¬ 0 < ofn S 1 step p 20 := fun z => by rw [decide_eq_true z] at h5; cases h5
            omega
          have h6 := hQ hd hsm
          unfold grb at h6
          rw [mxF_z hz] at h6
          rw [ev, mxF_z (fun i hi => hz i (by omega))]
          exact h6
        · have hk20 : k < 20 := by omega
          have hok := ofn_le S 1 step k 20
          refine w_ix k (w_le (ofn S 1 step k 20) (mxF (fun p => ofn S 1 step p 20) k) (fun q5 => ?_) (fun q5 => ?_) (hT.2 k hk20) ev) e (show k < 20 by omega)
          · exact ih (k + 1) (by omega) (by omega) _ _ (by simp only [mxF]; rw [if_neg (by omega)]; exact ev) (iI_1 e)
          · refine w_ix k ?_ e (show k < 20 by omega)
            exact ih (k + 1) (by omega) (by omega) _ _ (by simp only [mxF]; rw [if_pos (by omega)]; exact hT.2 k hk20) (iI_1 e)
  have loop : ∀ (m t : Nat), 21 ≤ t + m → t ≤ 20 → ∀ (hd : St) (w : Nat) (vw z : Int32), SmF h hd → Tri S 1 step t hd → w < 2 ^ 20 → (∀ q, q < 20 → w.testBit q = decide (0 < ofn S 1 step q t)) → vw = nI w → z = iI t → SR y_M_greatestBy 8 [some (.ref 90), some (.int x1), some (.int vw), some (.int z), none] [] hd Q := by
    intro m
    induction m with
    | zero => intro t q1 q2; omega
    | succ m ih =>
      intro t q1 q2 hd w vw z hsm hT hw hbit ew e
      have hMd := hS.sm hsm (by decide)
      refine w_loop IS_ok [8, 34] ok_M_greatestBy ?_
      refine w_le 20 t (fun q3 => ?_) (fun q3 => ?_) rfl e
      · have ht : t = 20 := by omega
        subst ht
        subst ew
        exact last hd w hsm hT hw hbit 21 0 (by omega) (by omega) _ _ rfl rfl
      · refine c_M_tryFrame hMd hW 1 step t (by omega) hst (by omega) hT (fun he v hse hTe hv hvb => ?_) rfl h1
        refine ih (t + 1) (by omega) (by omega) he (w ||| v) _ _ (hsm.t (hse.mo (by decide) (by decide))) hTe (Nat.or_lt_two_pow hw hv) (fun q hq => ?_) (by rw [ew, fa_or]) (iI_1 e)
        rw [Nat.testBit_or, hbit q hq, hvb q hq]
        show _ = decide (0 < ofn S 1 step q t + (if hB S (oF S 1 step t) q then 1 else 0))
        cases hB S (oF S 1 step t) q <;> simp
  exact loop 21 0 (by omega) (by omega) hc 0 _ _ s1 (hTc _ _) (by decide) (fun q hq => by simp [ofn, sm]) rfl rfl
/-- the best step among the first ones, and its number -/
def bsF (g : Nat → Nat) : Nat → Nat × Nat
  | 0 => (1, g 1)
  | k + 1 => if g (k + 2) < (bsF g k).2 then (k + 2, g (k + 2)) else bsF g k
theorem bsF_b {g : Nat → Nat} (hg : ∀ s, g s ≤ 20) : ∀ k : Nat, (bsF g k).1 ≤ k + 1 ∧ (bsF g k).2 ≤ 20
  | 0 => ⟨by show (1 : Nat) ≤ 1; omega, hg 1⟩
  | k + 1 => by
    have := bsF_b hg k
    unfold bsF
    split
    · exact ⟨by show k + 2 ≤ _; omega, hg _⟩
    · exact ⟨by omega, this.2⟩
/-- what bestStep answers -/
def BstR (S : Nat → Int) (w r : Int) : Prop := (¬ (0 ≤ w ∧ w ≤ 1) ∧ r = -101) ∨ (w = 0 ∧ r = (bsF (grb S) 18).1) ∨ (w = 1 ∧ r = (bsF (grb S) 18).2)
set_option maxHeartbeats 1000000 in
theorem c_M_bestStep {S : Nat → Int} {x1 : Int32} {h : St} {Q : Option Value → St → Prop} (hS : MS S h) (hW : WF S) (w : Int) (hQ : ∀ h' r, SmF h h' → BstR S w r → Q (some (.int (iI r))) h') (h1 : x1 = iI w) (rw' : rg w) : SC y_M_bestStep [.ref 90, .int x1] h Q := by
  refine w_call IS_ok [28] ok_M_bestStep rfl rfl ?_
  have s0 : SmF h (pf h 0 0) := Sm.pf _ (by decide)
  have hM := hS.sm s0 (by decide)
  refine c_M_in w 0 1 ?_ h1 rfl rfl rw' (by omega) (by omega)
  refine w_b (fun g1 => hQ _ _ s0 (Or.inl ⟨g1, rfl⟩)) (fun g1 => ?_)
  refine c_M_greatestBy hM hW 1 (by omega) (fun hc hsc => ?_) rfl
  have loop : ∀ (m k : Nat), 19 ≤ k + m → k ≤ 18 → ∀ (hd : St) (v2 v3 z : Int32) (L5 : Option Value), SmF h hd → v2 = iI (bsF (grb S) k).1 → v3 = iI (bsF (grb S) k).2 → z = iI (k + 2 : Nat) → SR y_M_bestStep 28 [some (.ref 90), some (.int x1), some (.int v2), some (.int v3), some (.int z), L5] [] hd Q := by
    intro m
    induction m with
    | zero => intro k q1 q2; omega
    | succ m ih =>
      intro k q1 q2 hd v2 v3 z L5 hsm e2 e3 e
      have hMd := hS.sm hsm (by decide)
      have hbb := bsF_b (g := grb S) (fun s => grb_b S s) k
      refine w_loop IS_ok [28] ok_M_bestStep ?_
      refine w_lt 19 (k + 2 : Nat) (fun q3 => ?_) (fun q3 => ?_) rfl e
      · have hk : k = 18 := by omega
        subst hk
        refine w_eq w 0 (fun q4 => ?_) (fun q4 => ?_) h1 rfl
        · rw [e2]
          exact hQ _ _ hsm (Or.inr (Or.inl ⟨q4, rfl⟩))
        · rw [e3]
          exact hQ _ _ hsm (Or.inr (Or.inr ⟨by omega, rfl⟩))
      · refine c_M_greatestBy hMd hW (k + 2) (by omega) (fun he hse => ?_) e
        have hgb := grb_b S (k + 2)
        refine w_le (bsF (grb S) k).2 (grb S (k + 2)) (fun q4 => ?_) (fun q4 => ?_) e3 rfl
        · refine w_le (bsF (grb S) k).2 (grb S (k + 2)) (fun _ => ?_) (fun q5 => by omega) e3 rfl
          exact ih (k + 1) (by omega) (by omega) he _ _ _ _ (hsm.t hse) (by simp only [bsF]; rw [if_neg (by omega)]; exact e2) (by simp only [bsF]; rw [if_neg (by omega)]; exact e3) (iI_1 e)
        · refine w_le (bsF (grb S) k).2 (grb S (k + 2)) (fun q5 => by omega) (fun _ => ?_) e3 rfl
          exact ih (k + 1) (by omega) (by omega) he _ _ _ _ (hsm.t hse) (by simp only [bsF]; rw [if_pos (by omega)]; exact e) (by simp only [bsF]; rw [if_pos (by omega)]) (iI_1 e)
  exact loop 19 0 (by omega) (by omega) hc _ _ _ _ (s0.t hsc) rfl rfl rfl
