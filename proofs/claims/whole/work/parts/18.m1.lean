/-! truth values, sums -/
def bI (c : Prop) [Decidable c] : Int32 := if c then 1 else 0
theorem bI_01 (c : Prop) [Decidable c] : bI c = 0 ∨ bI c = 1 := by unfold bI; by_cases h : c <;> simp [h]
theorem bI_t {c : Prop} [Decidable c] (h : c) : bI c = 1 := if_pos h
theorem bI_f {c : Prop} [Decidable c] (h : ¬ c) : bI c = 0 := if_neg h
theorem bI_iff {c d : Prop} [Decidable c] [Decidable d] (h : c ↔ d) : bI c = bI d := by unfold bI; by_cases hc : c <;> simp [hc, ← h]
theorem w_b {c : Prop} [Decidable c] {A B : Prop} (f : ¬ c → A) (g : c → B) : if bI c = 0 then A else B := by
  by_cases h : c
  · rw [bI_t h]; exact w_f (by decide) (g h)
  · rw [bI_f h]; exact w_t rfl (f h)
def sm (f : Nat → Nat) : Nat → Nat
  | 0 => 0
  | n + 1 => sm f n + f n
theorem sm_congr {f g : Nat → Nat} : ∀ {n : Nat}, (∀ i, i < n → f i = g i) → sm f n = sm g n
  | 0, _ => rfl
  | n + 1, h => by simp only [sm]; rw [sm_congr (fun i hi => h i (by omega)), h n (by omega)]
theorem sm_le {f : Nat → Nat} {b : Nat} : ∀ {n : Nat}, (∀ i, i < n → f i ≤ b) → sm f n ≤ n * b
  | 0, _ => by simp [sm]
  | n + 1, h => by
    have := sm_le (f := f) (b := b) (n := n) (fun i hi => h i (by omega))
    have := h n (by omega)
    simp only [sm, Nat.succ_mul]
    omega
theorem sm_zero {f : Nat → Nat} : ∀ {n : Nat}, sm f n = 0 ↔ ∀ i, i < n → f i = 0
  | 0 => by simp [sm]
  | n + 1 => by
    simp only [sm, Nat.add_eq_zero_iff, sm_zero (f := f) (n := n)]
    constructor
    · intro ⟨h1, h2⟩ i hi
      by_cases h : i = n
      · rw [h]; exact h2
      · exact h1 i (by omega)
    · intro h
      exact ⟨fun i hi => h i (by omega), h n (by omega)⟩
theorem sm_add (f g : Nat → Nat) : ∀ n : Nat, sm (fun i => f i + g i) n = sm f n + sm g n
  | 0 => rfl
  | n + 1 => by simp only [sm, sm_add f g n]; omega
theorem sm_swap (f : Nat → Nat → Nat) (a : Nat) : ∀ b : Nat, sm (fun i => sm (f i) a) b = sm (fun j => sm (fun i => f i j) b) a
  | 0 => by
    have : ∀ a, sm (fun _ => 0) a = 0 := fun a => sm_zero.mpr (fun _ _ => rfl)
    simp only [sm, this]
  | b + 1 => by
    simp only [sm, sm_swap f a b, sm_add]
theorem sm_mono {f : Nat → Nat} {a b : Nat} (h : a ≤ b) : sm f a ≤ sm f b := by
  induction b with
  | zero => rw [Nat.le_zero.mp h]; exact Nat.le_refl _
  | succ b ih =>
    by_cases hb : a = b + 1
    · rw [hb]; exact Nat.le_refl _
    · have := ih (by omega); simp only [sm]; omega
/-! the state of the reference by whole numbers -/
def MS (S : Nat → Int) (h : St) : Prop := ∀ i, h.2 91 i = iI (S i)
def hgh (S : Nat → Int) (p : Nat) : Int := if S (26 + 9 * p + 2) = 1 then 16 else 8
abbrev stn (S : Nat → Int) (p : Nat) (y : Int) : Prop := S (26 + 9 * p + 1) ≤ y ∧ y < S (26 + 9 * p + 1) + hgh S p
/-- the bounds of what a puppet has -/
def WP (S : Nat → Int) : Prop := ∀ p, p < 20 → (-15 ≤ S (26 + 9 * p) ∧ S (26 + 9 * p) ≤ 63) ∧ (-15 ≤ S (26 + 9 * p + 1) ∧ S (26 + 9 * p + 1) ≤ 47) ∧ (0 ≤ S (26 + 9 * p + 2) ∧ S (26 + 9 * p + 2) ≤ 1) ∧ (0 ≤ S (26 + 9 * p + 3) ∧ S (26 + 9 * p + 3) ≤ 7) ∧ (0 ≤ S (26 + 9 * p + 4) ∧ S (26 + 9 * p + 4) ≤ 9) ∧ (0 ≤ S (26 + 9 * p + 5) ∧ S (26 + 9 * p + 5) ≤ 3) ∧ (0 ≤ S (26 + 9 * p + 6) ∧ S (26 + 9 * p + 6) ≤ S 5) ∧ (0 ≤ S (26 + 9 * p + 7) ∧ S (26 + 9 * p + 7) ≤ S 5) ∧ (0 ≤ S (26 + 9 * p + 8) ∧ S (26 + 9 * p + 8) ≤ S 5)
def WF (S : Nat → Int) : Prop := (0 ≤ S 0 ∧ S 0 ≤ 20) ∧ (0 ≤ S 1 ∧ S 1 ≤ S 0) ∧ (1 ≤ S 2 ∧ S 2 ≤ 8) ∧ (0 ≤ S 3 ∧ S 3 ≤ 2) ∧ (1 ≤ S 4 ∧ S 4 ≤ 19) ∧ (0 ≤ S 5 ∧ S 5 ≤ 9999) ∧ (∀ k, k < (S 1).toNat → 0 ≤ S (6 + k) ∧ S (6 + k) < S 0) ∧ (∀ j k, j < k → k < (S 1).toNat → S (6 + j) ≠ S (6 + k)) ∧ WP S ∧ (∀ i, i < 64 → 0 ≤ S (206 + i) ∧ S (206 + i) ≤ 255) ∧ (∀ p : Nat, (p : Int) < S 0 → 1 ≤ S (26 + 9 * p + 4)) ∧ (∀ p : Nat, p < 20 → S 0 ≤ p → ∀ j, j < 9 → S (26 + 9 * p + j) = 0)
theorem hgh_b (S : Nat → Int) (p : Nat) : hgh S p = 8 ∨ hgh S p = 16 := by unfold hgh; by_cases h : S (26 + 9 * p + 2) = 1 <;> simp [h]
theorem c_M_in {x y z : Int32} {h : St} {Q : Option Value → St → Prop} (v a b : Int) (hQ : Q (some (.int (bI (a ≤ v ∧ v ≤ b)))) h) (hx : x = iI v) (hy : y = iI a) (hz : z = iI b) (rv : rg v) (ra : rg a) (rb : rg b) : SC y_M_in [.int x, .int y, .int z] h Q := by
  refine w_call IS_ok [] ok_M_in rfl rfl ?_
  refine w_lt v a (fun h1 => ?_) (fun h1 => w_lt b v (fun h2 => ?_) (fun h2 => ?_) hz hx) hx hy
  · exact ⟨Or.inl rfl, by rwa [bI_f (by omega)] at hQ⟩
  · exact ⟨Or.inl rfl, by rwa [bI_f (by omega)] at hQ⟩
  · exact ⟨Or.inr rfl, by rwa [bI_t (by omega)] at hQ⟩
theorem c_M_of {S : Nat → Int} {x y : Int32} {h : St} {Q : Option Value → St → Prop} (hS : MS S h) (pu k : Nat) (hQ : Q (some (.int (iI (S (26 + 9 * pu + k))))) h) (hx : x = iI pu) (hy : y = iI k) (hp : pu < 20) (hk : k < 9) : SC y_M_of [.ref 90, .int x, .int y] h Q := by
  refine w_call IS_ok [] ok_M_of rfl rfl ?_
  subst hx; subst hy
  rw [← hS] at hQ
  refine w_ix (26 + 9 * pu + k) hQ ?_ ?_
  · simp only [iI_lit, iI_nat, iI_add, iI_sub, iI_mul, iI_neg]
    congr 1
  · show _ < 270
    omega
theorem c_M_put {x y z : Int32} {h : St} {Q : Option Value → St → Prop} (pu k : Nat) (hQ : Q none (h.1, u1 h.2 91 (u1 (h.2 91) (26 + 9 * pu + k) z))) (hx : x = iI pu) (hy : y = iI k) (hp : pu < 20) (hk : k < 9) : SC y_M_put [.ref 90, .int x, .int y, .int z] h Q := by
  refine w_call IS_ok [] ok_M_put rfl rfl ?_
  subst hx; subst hy
  refine w_ix (26 + 9 * pu + k) hQ ?_ ?_
  · simp only [iI_lit, iI_nat, iI_add, iI_sub, iI_mul, iI_neg]
    congr 1
  · show _ < 270
    omega
theorem MS_set {S : Nat → Int} {h : St} (hS : MS S h) (i : Nat) (z : Int) (F : Nat → Nat → Int32) : MS (u1 S i z) (F, u1 h.2 91 (u1 (h.2 91) i (iI z))) := by
  intro j
  show u1 h.2 91 (u1 (h.2 91) i (iI z)) 91 j = _
  rw [u1_s]
  unfold u1
  by_cases hj : j = i
  · rw [if_pos hj, if_pos hj]
  · rw [if_neg hj, if_neg hj]; exact hS j
theorem c_M_highOf {S : Nat → Int} {x : Int32} {h : St} {Q : Option Value → St → Prop} (hS : MS S h) (hW : WP S) (pu : Nat) (hQ : Q (some (.int (iI (hgh S pu)))) h) (hx : x = iI pu) (hp : pu < 20) : SC y_M_highOf [.ref 90, .int x] h Q := by
  refine w_call IS_ok [] ok_M_highOf rfl rfl ?_
  refine c_M_of hS pu 2 ?_ hx rfl hp (by omega)
  have := (hW pu hp).2.2.1
  refine w_eq (S (26 + 9 * pu + 2)) 1 (fun h1 => ?_) (fun h1 => ?_)
  · unfold hgh at hQ; rw [if_pos h1] at hQ; exact hQ
  · unfold hgh at hQ; rw [if_neg h1] at hQ; exact hQ
theorem c_M_stands {S : Nat → Int} {x y : Int32} {h : St} {Q : Option Value → St → Prop} (hS : MS S h) (hW : WP S) (pu : Nat) (l : Int) (hQ : Q (some (.int (bI (stn S pu l)))) h) (hx : x = iI pu) (hy : y = iI l) (hp : pu < 20) (hl : rg l) : SC y_M_stands [.ref 90, .int x, .int y] h Q := by
  refine w_call IS_ok [] ok_M_stands rfl rfl ?_
  refine c_M_of hS pu 1 ?_ hx rfl hp (by omega)
  refine c_M_of hS pu 1 ?_ hx rfl hp (by omega)
  refine c_M_highOf hS hW pu ?_ hx hp
  have := (hW pu hp).2.1
  have := hgh_b S pu
  refine c_M_in l (S (26 + 9 * pu + 1)) (S (26 + 9 * pu + 1) + hgh S pu - 1) ?_ hy rfl ?_ hl (by omega) (by omega)
  · refine ⟨bI_01 _, ?_⟩
    rw [bI_iff (d := stn S pu l) (by omega)]
    exact hQ
  · simp only [iI_lit, iI_nat, iI_add, iI_sub, iI_mul, iI_neg]
    rfl
theorem c_M_isPlace {x y : Int32} {h : St} {Q : Option Value → St → Prop} (a b : Int) (hQ : Q (some (.int (bI ((-15 ≤ a ∧ a ≤ 63) ∧ (-15 ≤ b ∧ b ≤ 47))))) h) (hx : x = iI a) (hy : y = iI b) (ha : rg a) (hb : rg b) : SC y_M_isPlace [.int x, .int y] h Q := by
  refine w_call IS_ok [] ok_M_isPlace rfl rfl ?_
  refine c_M_in a (-15) 63 ?_ hx rfl rfl ha (by omega) (by omega)
  refine w_b (fun h1 => ?_) (fun h1 => ?_)
  · exact ⟨Or.inl rfl, by rwa [bI_f (by omega)] at hQ⟩
  · refine c_M_in b (-15) 47 ?_ hy rfl rfl hb (by omega) (by omega)
    refine w_b (fun h2 => ?_) (fun h2 => ?_)
    · exact ⟨Or.inl rfl, by rwa [bI_f (by omega)] at hQ⟩
    · exact ⟨Or.inr rfl, by rwa [bI_t (by omega)] at hQ⟩
/-- the number of lines on which a puppet stands -/
def lns (S : Nat → Int) (p : Nat) (n : Nat) : Nat := sm (fun y => if stn S p y then 1 else 0) n
theorem c_M_linesOf {S : Nat → Int} {x : Int32} {h : St} {Q : Option Value → St → Prop} (hS : MS S h) (hW : WP S) (pu : Nat) (hQ : Q (some (.int (iI (lns S pu 48)))) h) (hx : x = iI pu) (hp : pu < 20) : SC y_M_linesOf [.ref 90, .int x] h Q := by
  refine w_call IS_ok [4] ok_M_linesOf rfl rfl ?_
  have loop : ∀ (n k : Nat), 48 + 1 ≤ k + n → k ≤ 48 → SR y_M_linesOf 4 [some (.ref 90), some (.int x), some (.int (iI (lns S pu k))), some (.int (iI k))] [] h Q := by
    intro n
    induction n with
    | zero => intro k h1 h2; omega
    | succ n ih =>
      intro k h1 h2
      refine w_loop IS_ok [4] ok_M_linesOf ?_
      have hl : lns S pu k ≤ k * 1 := sm_le (fun i _ => by split <;> omega)
      refine w_le 48 k (fun h3 => ?_) (fun h3 => ?_)
      · have : k = 48 := by omega
        subst this
        exact hQ
      · refine c_M_stands hS hW pu k ?_ hx rfl hp (by omega)
        have key : ∀ z : Int32, z = iI (lns S pu (k + 1)) → SR y_M_linesOf 4 [some (.ref 90), some (.int x), some (.int z), some (.int (iI k + 1))] [] h Q := by
          intro z hz
          rw [hz, iI_lit, iI_add]
          exact ih (k + 1) (by omega) (by omega)
        refine w_b (fun h4 => key _ ?_) (fun h4 => key _ ?_)
        · simp only [iI_lit, iI_add, lns, sm, if_neg h4]
          rfl
        · simp only [iI_lit, iI_add, lns, sm, if_pos h4]
          rfl
  exact loop 49 0 (by omega) (by omega)
