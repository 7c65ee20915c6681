/-! the order, who is shown on a line -/
theorem iI_1 {x : Int32} {k : Nat} (h : x = iI k) : x + 1 = iI ((k + 1 : Nat) : Int) := by rw [h, iI_lit, iI_add]; rfl
abbrev od (S : Nat → Int) (k : Nat) : Nat := (S (6 + k)).toNat
theorem WF.n {S : Nat → Int} (h : WF S) : S 1 = ((S 1).toNat : Int) ∧ (S 1).toNat ≤ 20 ∧ 0 ≤ S 0 ∧ S 0 ≤ 20 ∧ S 1 ≤ S 0 := by obtain ⟨h0, h1, -⟩ := h; omega
theorem WF.od {S : Nat → Int} (h : WF S) {k : Nat} (hk : k < (S 1).toNat) : S (6 + k) = (od S k : Int) ∧ od S k < 20 ∧ S (6 + k) < S 0 := by
  obtain ⟨h0, -, -, -, -, -, h1, -⟩ := h
  have := h1 k hk
  unfold Jvm.Pilot.CPuppetTurnsLaw_law_r5978_f2d878.od
  omega
theorem WF.inj {S : Nat → Int} (h : WF S) {j k : Nat} (hj : j < (S 1).toNat) (hk : k < (S 1).toNat) (he : S (6 + j) = S (6 + k)) : j = k := by
  obtain ⟨-, -, -, -, -, -, -, h1, -⟩ := h
  rcases Nat.lt_trichotomy j k with h2 | h2 | h2
  · exact absurd he (h1 j k h2 hk)
  · exact h2
  · exact absurd he.symm (h1 k j h2 hj)
theorem WF.lim {S : Nat → Int} (h : WF S) : 1 ≤ S 2 ∧ S 2 ≤ 8 := h.2.2.1
theorem WF.wp {S : Nat → Int} (h : WF S) : WP S := h.2.2.2.2.2.2.2.2.1
/-- the position of a puppet in the order, or -109 -/
def pos (S : Nat → Int) (p : Int) : Nat → Int
  | 0 => -109
  | k + 1 => if S (6 + k) = p then k else pos S p k
theorem pos_b (S : Nat → Int) (p : Int) : ∀ n : Nat, pos S p n = -109 ∨ (0 ≤ pos S p n ∧ pos S p n < n)
  | 0 => Or.inl rfl
  | k + 1 => by
    unfold pos
    split
    · exact Or.inr (by omega)
    · rcases pos_b S p k with h | h
      · exact Or.inl h
      · exact Or.inr (by omega)
theorem pos_no {S : Nat → Int} {p : Int} : ∀ {n : Nat}, pos S p n = -109 ↔ ∀ k, k < n → S (6 + k) ≠ p
  | 0 => by simp [pos]
  | n + 1 => by
    unfold pos
    by_cases h : S (6 + n) = p
    · rw [if_pos h]
      exact ⟨fun z => by omega, fun z => absurd h (z n (by omega))⟩
    · rw [if_neg h, pos_no (n := n)]
      refine ⟨fun z k hk => ?_, fun z k hk => z k (by omega)⟩
      by_cases hkn : k = n
      · rw [hkn]; exact h
      · exact z k (by omega)
theorem pos_at {S : Nat → Int} {p : Int} : ∀ {n k : Nat}, pos S p n = (k : Int) → k < n ∧ S (6 + k) = p
  | 0, k, h => by unfold pos at h; omega
  | n + 1, k, h => by
    unfold pos at h
    by_cases hp : S (6 + n) = p
    · rw [if_pos hp] at h
      have : k = n := by omega
      subst this
      exact ⟨by omega, hp⟩
    · rw [if_neg hp] at h
      have := pos_at h
      exact ⟨by omega, this.2⟩
theorem pos_is {S : Nat → Int} (hW : WF S) {k : Nat} (hk : k < (S 1).toNat) {p : Int} (hp : S (6 + k) = p) : pos S p (S 1).toNat = k := by
  rcases pos_b S p (S 1).toNat with h | ⟨h1, h2⟩
  · exact absurd hp (pos_no.mp h k hk)
  · have h3 := pos_at (S := S) (p := p) (n := (S 1).toNat) (k := (pos S p (S 1).toNat).toNat) (by omega)
    have := hW.inj h3.1 hk (h3.2.trans hp.symm)
    omega
/-- there is such a puppet -/
abbrev thr (S : Nat → Int) (p : Int) : Prop := pos S p (S 1).toNat ≠ -109
theorem thr_b {S : Nat → Int} (hW : WF S) {p : Int} (h : thr S p) : 0 ≤ p ∧ p < S 0 ∧ p < 20 := by
  rcases pos_b S p (S 1).toNat with h1 | ⟨h1, h2⟩
  · exact absurd h1 h
  · have h3 := pos_at (S := S) (p := p) (n := (S 1).toNat) (k := (pos S p (S 1).toNat).toNat) (by omega)
    have h4 := hW.od h3.1
    have h5 := hW.n
    omega
theorem c_M_positionOf {S : Nat → Int} {x : Int32} {h : St} {Q : Option Value → St → Prop} (hS : MS S h) (hW : WF S) (p : Int) (hQ : Q (some (.int (iI (pos S p (S 1).toNat)))) h) (hx : x = iI p) (hp : rg p) : SC y_M_positionOf [.ref 90, .int x] h Q := by
  refine w_call IS_ok [5] ok_M_positionOf rfl rfl ?_
  obtain ⟨hn1, hn2, -⟩ := hW.n
  generalize hn : (S 1).toNat = n at *
  have loop : ∀ (m k : Nat), n + 1 ≤ k + m → k ≤ n → ∀ v w : Int32, v = iI (pos S p k) → w = iI k → SR y_M_positionOf 5 [some (.ref 90), some (.int x), some (.int v), some (.int w)] [] h Q := by
    intro m
    induction m with
    | zero => intro k h1 h2; omega
    | succ m ih =>
      intro k h1 h2 v w hv hw
      refine w_loop IS_ok [5] ok_M_positionOf ?_
      refine w_ix 1 (w_le (S 1) k (fun h3 => ?_) (fun h3 => ?_) (hS 1) hw) rfl (show 1 < 270 by omega)
      · have : k = n := by omega
        subst this
        rw [← hv] at hQ
        exact hQ
      · have ho := hW.od (k := k) (by omega)
        refine w_ix (6 + k) (w_eq (S (6 + k)) p (fun h4 => ?_) (fun h4 => ?_) (hS _) hx) ?_ (show 6 + k < 270 by omega)
        · exact ih (k + 1) (by omega) (by omega) _ _ (by simp only [pos, if_pos h4]; exact hw) (iI_1 hw)
        · exact ih (k + 1) (by omega) (by omega) _ _ (by simp only [pos, if_neg h4]; exact hv) (iI_1 hw)
        · subst hw
          simp only [iI_lit, iI_nat, iI_add, iI_sub, iI_mul, iI_neg]
          congr 1
  exact loop (n + 1) 0 (by omega) (by omega) _ _ rfl rfl
theorem c_M_isThere {S : Nat → Int} {x : Int32} {h : St} {Q : Option Value → St → Prop} (hS : MS S h) (hW : WF S) (p : Int) (hQ : Q (some (.int (bI (thr S p)))) h) (hx : x = iI p) (hp : rg p) : SC y_M_isThere [.ref 90, .int x] h Q := by
  refine w_call IS_ok [] ok_M_isThere rfl rfl ?_
  obtain ⟨hn1, hn2, h0, h1, h2⟩ := hW.n
  refine w_ix 0 ?_ rfl (show 0 < 270 by omega)
  refine c_M_in p 0 (S 0 - 1) ?_ hx rfl ?_ hp (by omega) (by omega)
  · refine w_b (fun h3 => ?_) (fun h3 => ?_)
    · refine ⟨Or.inl rfl, ?_⟩
      rw [bI_f (fun z => h3 (by have := thr_b hW z; omega))] at hQ
      exact hQ
    · refine c_M_positionOf hS hW p ?_ hx hp
      have := pos_b S p (S 1).toNat
      refine w_eq (pos S p (S 1).toNat) (-109) (fun h4 => ?_) (fun h4 => ?_)
      · rw [bI_f (fun z => z h4)] at hQ
        exact ⟨Or.inl rfl, hQ⟩
      · rw [bI_t h4] at hQ
        exact ⟨Or.inr rfl, hQ⟩
  · show h.2 91 0 - 1 = _
    rw [hS 0, iI_lit, iI_sub]
    rfl
/-- how many of the first ones by an order stand on a line -/
def cn (S : Nat → Int) (o : Nat → Nat) (y : Int) (k : Nat) : Nat := sm (fun j => if stn S (o j) y then 1 else 0) k
theorem cn_le (S : Nat → Int) (o : Nat → Nat) (y : Int) (k : Nat) : cn S o y k ≤ k := by
  have := sm_le (f := fun j => if stn S (o j) y then 1 else 0) (b := 1) (n := k) (fun i _ => by split <;> omega)
  unfold cn
  omega
theorem cn_t {S : Nat → Int} {o : Nat → Nat} {y : Int} {k : Nat} (h : stn S (o k) y) : cn S o y (k + 1) = cn S o y k + 1 := by simp only [cn, sm, if_pos h]
theorem cn_f {S : Nat → Int} {o : Nat → Nat} {y : Int} {k : Nat} (h : ¬ stn S (o k) y) : cn S o y (k + 1) = cn S o y k := by simp only [cn, sm, if_neg h]; rfl
theorem cn_mono {S : Nat → Int} {o : Nat → Nat} {y : Int} {j k : Nat} (h : j ≤ k) : cn S o y j ≤ cn S o y k := sm_mono h
theorem cn_lt {S : Nat → Int} {o : Nat → Nat} {y : Int} {j k : Nat} (h : j < k) (hs : stn S (o j) y) : cn S o y j < cn S o y k := by
  have h1 := cn_t hs
  have h2 : cn S o y (j + 1) ≤ cn S o y k := cn_mono h
  omega
theorem c_M_standing {S : Nat → Int} {x : Int32} {h : St} {Q : Option Value → St → Prop} (hS : MS S h) (hW : WF S) (y : Int) (hQ : Q (some (.int (iI (cn S (od S) y (S 1).toNat)))) h) (hx : x = iI y) (hy : rg y) : SC y_M_standing [.ref 90, .int x] h Q := by
  refine w_call IS_ok [4] ok_M_standing rfl rfl ?_
  obtain ⟨hn1, hn2, -⟩ := hW.n
  generalize hn : (S 1).toNat = n at *
  have loop : ∀ (m k : Nat), n + 1 ≤ k + m → k ≤ n → SR y_M_standing 4 [some (.ref 90), some (.int x), some (.int (iI (cn S (od S) y k))), some (.int (iI k))] [] h Q := by
    intro m
    induction m with
    | zero => intro k h1 h2; omega
    | succ m ih =>
      intro k h1 h2
      refine w_loop IS_ok [4] ok_M_standing ?_
      refine w_ix 1 (w_le (S 1) k (fun h3 => ?_) (fun h3 => ?_) (hS 1)) rfl (show 1 < 270 by omega)
      · have : k = n := by omega
        subst this
        exact hQ
      · have ho := hW.od (k := k) (by omega)
        refine w_ix (6 + k) ?_ ?_ (show 6 + k < 270 by omega)
        · refine c_M_stands hS hW.wp (od S k) y ?_ ((hS _).trans (by rw [ho.1])) hx ho.2.1 hy
          have key : ∀ z : Int32, z = iI (cn S (od S) y (k + 1)) → SR y_M_standing 4 [some (.ref 90), some (.int x), some (.int z), some (.int (iI k + 1))] [] h Q := by
            intro z hz
            rw [hz, iI_lit, iI_add]
            exact ih (k + 1) (by omega) (by omega)
          refine w_b (fun h4 => key _ ?_) (fun h4 => key _ ?_)
          · rw [cn_f h4]
            simp only [iI_lit, iI_add]
            rfl
          · rw [cn_t h4]
            simp only [iI_lit, iI_add]
            rfl
        · simp only [iI_lit, iI_nat, iI_add, iI_sub, iI_mul, iI_neg]
          congr 1
  exact loop (n + 1) 0 (by omega) (by omega)
/-- the k-th by the order is shown on the line -/
abbrev vis (S : Nat → Int) (y : Int) (k : Nat) : Prop := stn S (od S k) y ∧ (cn S (od S) y k : Int) < S 2
/-- what is shown on a line as the told one -/
def ShoR (S : Nat → Int) (y i r : Int) : Prop := (∃ k, k < (S 1).toNat ∧ vis S y k ∧ (cn S (od S) y k : Int) = i ∧ r = S (6 + k)) ∨ (r = -109 ∧ ∀ k, k < (S 1).toNat → vis S y k → (cn S (od S) y k : Int) ≠ i)
set_option maxHeartbeats 1000000 in
theorem c_M_shownOn {S : Nat → Int} {x z : Int32} {h : St} {Q : Option Value → St → Prop} (hS : MS S h) (hW : WF S) (y i : Int) (hQ : ∀ r, ShoR S y i r → Q (some (.int (iI r))) h) (hx : x = iI y) (hz : z = iI i) (hy : rg y) (hi : rg i) : SC y_M_shownOn [.ref 90, .int x, .int z] h Q := by
  refine w_call IS_ok [5] ok_M_shownOn rfl rfl ?_
  obtain ⟨hn1, hn2, -⟩ := hW.n
  have hlim := hW.lim
  have loop : ∀ (m k : Nat), (S 1).toNat + 1 ≤ k + m → k ≤ (S 1).toNat → (∀ j, j < k → vis S y j → (cn S (od S) y j : Int) ≠ i) → ∀ v w : Int32, v = iI (cn S (od S) y k) → w = iI k → SR y_M_shownOn 5 [some (.ref 90), some (.int x), some (.int z), some (.int v), some (.int w)] [] h Q := by
    intro m
    induction m with
    | zero => intro k h1 h2; omega
    | succ m ih =>
      intro k h1 h2 hno v w hv hw
      have hcn := cn_le S (od S) y k
      refine w_loop IS_ok [5] ok_M_shownOn ?_
      refine w_ix 1 (w_le (S 1) k (fun h3 => ?_) (fun h3 => ?_) (hS 1) hw) rfl (show 1 < 270 by omega)
      · exact hQ _ (Or.inr ⟨rfl, fun j hj => hno j (by omega)⟩)
      · refine w_ix 2 (w_le (S 2) (cn S (od S) y k) (fun h5 => ?_) (fun h5 => ?_) (hS 2) hv) rfl (show 2 < 270 by omega)
        · refine hQ _ (Or.inr ⟨rfl, fun j hj hv => ?_⟩)
          by_cases hjk : j < k
          · exact hno j hjk hv
          · have : cn S (od S) y k ≤ cn S (od S) y j := cn_mono (by omega)
            have := hv.2
            omega
        · have ho := hW.od (k := k) (by omega)
          refine w_ix (6 + k) ?_ ?_ (show 6 + k < 270 by omega)
          · refine c_M_stands hS hW.wp (od S k) y ?_ ((hS _).trans (by rw [ho.1])) hx ho.2.1 hy
            refine w_b (fun h4 => ?_) (fun h4 => ?_)
            · exact ih (k + 1) (by omega) (by omega) (fun j hj hvs => by
                by_cases hjk : j = k
                · subst hjk; exact absurd hvs.1 h4
                · exact hno j (by omega) hvs) _ _ (by rw [cn_f h4]; exact hv) (iI_1 hw)
            · refine w_eq (cn S (od S) y k) i (fun h6 => ?_) (fun h6 => ?_) hv hz
              · refine w_ix (6 + k) ?_ ?_ (show 6 + k < 270 by omega)
                · have := hQ _ (Or.inl ⟨k, by omega, ⟨h4, h5⟩, h6, rfl⟩)
                  rw [← hS] at this
                  exact this
                · rw [hw]
                  simp only [iI_lit, iI_nat, iI_add, iI_sub, iI_mul, iI_neg]
                  congr 1
              · exact ih (k + 1) (by omega) (by omega) (fun j hj hvs => by
                  by_cases hjk : j = k
                  · subst hjk; exact h6
                  · exact hno j (by omega) hvs) _ _ (by rw [cn_t h4]; exact iI_1 hv) (iI_1 hw)
          · rw [hw]
            simp only [iI_lit, iI_nat, iI_add, iI_sub, iI_mul, iI_neg]
            congr 1
  exact loop ((S 1).toNat + 1) 0 (by omega) (by omega) (fun j hj => by omega) _ _ rfl rfl
