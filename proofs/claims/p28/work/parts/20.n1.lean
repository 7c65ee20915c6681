/-! numbers, states: 1 -/
def bI (c : Prop) [Decidable c] : Int32 := if c then 1 else 0
theorem bI_01 (c : Prop) [Decidable c] : bI c = 0 ∨ bI c = 1 := by unfold bI; by_cases h : c <;> simp [h]
theorem bI_t {c : Prop} [Decidable c] (h : c) : bI c = 1 := if_pos h
theorem bI_f {c : Prop} [Decidable c] (h : ¬ c) : bI c = 0 := if_neg h
theorem bI_iff {c d : Prop} [Decidable c] [Decidable d] (h : c ↔ d) : bI c = bI d := by unfold bI; by_cases hc : c <;> simp [hc, ← h]
theorem w_b {c : Prop} [Decidable c] {A B : Prop} (f : ¬ c → A) (g : c → B) : if bI c = 0 then A else B := by
  by_cases h : c
  · rw [bI_t h]; exact w_f (by decide) (g h)
  · rw [bI_f h]; exact w_t rfl (f h)
def sm (f : Nat → Nat) : Nat → Nat
  | 0 => 0
  | n + 1 => sm f n + f n
theorem sm_congr {f g : Nat → Nat} : ∀ {n : Nat}, (∀ i, i < n → f i = g i) → sm f n = sm g n
  | 0, _ => rfl
  | n + 1, h => by simp only [sm]; rw [sm_congr (fun i hi => h i (by omega)), h n (by omega)]
theorem sm_le {f : Nat → Nat} {b : Nat} : ∀ {n : Nat}, (∀ i, i < n → f i ≤ b) → sm f n ≤ n * b
  | 0, _ => by simp [sm]
  | n + 1, h => by
    have := sm_le (f := f) (b := b) (n := n) (fun i hi => h i (by omega))
    have := h n (by omega)
    simp only [sm, Nat.succ_mul]
    omega
theorem sm_zero {f : Nat → Nat} : ∀ {n : Nat}, sm f n = 0 ↔ ∀ i, i < n → f i = 0
  | 0 => by simp [sm]
  | n + 1 => by
    simp only [sm, Nat.add_eq_zero_iff, sm_zero (f := f) (n := n)]
    constructor
    · intro ⟨h1, h2⟩ i hi
      by_cases h : i = n
      · rw [h]; exact h2
      · exact h1 i (by omega)
    · intro h
      exact ⟨fun i hi => h i (by omega), h n (by omega)⟩
theorem sm_add (f g : Nat → Nat) : ∀ n : Nat, sm (fun i => f i + g i) n = sm f n + sm g n
  | 0 => rfl
  | n + 1 => by simp only [sm, sm_add f g n]; omega
theorem sm_mono {f : Nat → Nat} {a b : Nat} (h : a ≤ b) : sm f a ≤ sm f b := by
  induction b with
  | zero => rw [Nat.le_zero.mp h]; exact Nat.le_refl _
  | succ b ih =>
    by_cases hb : a = b + 1
    · rw [hb]; exact Nat.le_refl _
    · have := ih (by omega); simp only [sm]; omega
def hgh (S : Nat → Int) (p : Nat) : Int := if S (26 + 9 * p + 2) = 1 then 16 else 8
abbrev stn (S : Nat → Int) (p : Nat) (y : Int) : Prop := S (26 + 9 * p + 1) ≤ y ∧ y < S (26 + 9 * p + 1) + hgh S p
/-- the bounds of what a puppet has -/
def WP (S : Nat → Int) : Prop := ∀ p, p < 20 → (-15 ≤ S (26 + 9 * p) ∧ S (26 + 9 * p) ≤ 63) ∧ (-15 ≤ S (26 + 9 * p + 1) ∧ S (26 + 9 * p + 1) ≤ 47) ∧ (0 ≤ S (26 + 9 * p + 2) ∧ S (26 + 9 * p + 2) ≤ 1) ∧ (0 ≤ S (26 + 9 * p + 3) ∧ S (26 + 9 * p + 3) ≤ 7) ∧ (0 ≤ S (26 + 9 * p + 4) ∧ S (26 + 9 * p + 4) ≤ 9) ∧ (0 ≤ S (26 + 9 * p + 5) ∧ S (26 + 9 * p + 5) ≤ 3) ∧ (0 ≤ S (26 + 9 * p + 6) ∧ S (26 + 9 * p + 6) ≤ S 5) ∧ (0 ≤ S (26 + 9 * p + 7) ∧ S (26 + 9 * p + 7) ≤ S 5) ∧ (0 ≤ S (26 + 9 * p + 8) ∧ S (26 + 9 * p + 8) ≤ S 5)
def WF (S : Nat → Int) : Prop := (0 ≤ S 0 ∧ S 0 ≤ 20) ∧ (0 ≤ S 1 ∧ S 1 ≤ S 0) ∧ (1 ≤ S 2 ∧ S 2 ≤ 8) ∧ (0 ≤ S 3 ∧ S 3 ≤ 2) ∧ (1 ≤ S 4 ∧ S 4 ≤ 19) ∧ (0 ≤ S 5 ∧ S 5 ≤ 9999) ∧ (∀ k, k < (S 1).toNat → 0 ≤ S (6 + k) ∧ S (6 + k) < S 0) ∧ (∀ j k, j < k → k < (S 1).toNat → S (6 + j) ≠ S (6 + k)) ∧ WP S ∧ (∀ i, i < 64 → 0 ≤ S (206 + i) ∧ S (206 + i) ≤ 255) ∧ (∀ p : Nat, (p : Int) < S 0 → 1 ≤ S (26 + 9 * p + 4)) ∧ (∀ p : Nat, p < 20 → S 0 ≤ p → ∀ j, j < 9 → S (26 + 9 * p + j) = 0)
theorem hgh_b (S : Nat → Int) (p : Nat) : hgh S p = 8 ∨ hgh S p = 16 := by unfold hgh; by_cases h : S (26 + 9 * p + 2) = 1 <;> simp [h]
/-- the number of lines on which a puppet stands -/
def lns (S : Nat → Int) (p : Nat) (n : Nat) : Nat := sm (fun y => if stn S p y then 1 else 0) n
theorem iI_1 {x : Int32} {k : Nat} (h : x = iI k) : x + 1 = iI ((k + 1 : Nat) : Int) := by rw [h, iI_lit, iI_add]; rfl
abbrev od (S : Nat → Int) (k : Nat) : Nat := (S (6 + k)).toNat
theorem WF.n {S : Nat → Int} (h : WF S) : S 1 = ((S 1).toNat : Int) ∧ (S 1).toNat ≤ 20 ∧ 0 ≤ S 0 ∧ S 0 ≤ 20 ∧ S 1 ≤ S 0 := by obtain ⟨h0, h1, -⟩ := h; omega
theorem WF.od {S : Nat → Int} (h : WF S) {k : Nat} (hk : k < (S 1).toNat) : S (6 + k) = (od S k : Int) ∧ od S k < 20 ∧ S (6 + k) < S 0 := by
  obtain ⟨h0, -, -, -, -, -, h1, -⟩ := h
  have := h1 k hk
  unfold Jvm.Pilot.CPuppetTurnsLaw_law_r1533_6dc637.od
  omega
theorem WF.inj {S : Nat → Int} (h : WF S) {j k : Nat} (hj : j < (S 1).toNat) (hk : k < (S 1).toNat) (he : S (6 + j) = S (6 + k)) : j = k := by
  obtain ⟨-, -, -, -, -, -, -, h1, -⟩ := h
  rcases Nat.lt_trichotomy j k with h2 | h2 | h2
  · exact absurd he (h1 j k h2 hk)
  · exact h2
  · exact absurd he.symm (h1 k j h2 hj)
theorem WF.lim {S : Nat → Int} (h : WF S) : 1 ≤ S 2 ∧ S 2 ≤ 8 := h.2.2.1
theorem WF.wp {S : Nat → Int} (h : WF S) : WP S := h.2.2.2.2.2.2.2.2.1
/-- the position of a puppet in the order, or -109 -/
def pos (S : Nat → Int) (p : Int) : Nat → Int
  | 0 => -109
  | k + 1 => if S (6 + k) = p then k else pos S p k
theorem pos_b (S : Nat → Int) (p : Int) : ∀ n : Nat, pos S p n = -109 ∨ (0 ≤ pos S p n ∧ pos S p n < n)
  | 0 => Or.inl rfl
  | k + 1 => by
    unfold pos
    split
    · exact Or.inr (by omega)
    · rcases pos_b S p k with h | h
      · exact Or.inl h
      · exact Or.inr (by omega)
theorem pos_no {S : Nat → Int} {p : Int} : ∀ {n : Nat}, pos S p n = -109 ↔ ∀ k, k < n → S (6 + k) ≠ p
  | 0 => by simp [pos]
  | n + 1 => by
    unfold pos
    by_cases h : S (6 + n) = p
    · rw [if_pos h]
      exact ⟨fun z => by omega, fun z => absurd h (z n (by omega))⟩
    · rw [if_neg h, pos_no (n := n)]
      refine ⟨fun z k hk => ?_, fun z k hk => z k (by omega)⟩
      by_cases hkn : k = n
      · rw [hkn]; exact h
      · exact z k (by omega)
theorem pos_at {S : Nat → Int} {p : Int} : ∀ {n k : Nat}, pos S p n = (k : Int) → k < n ∧ S (6 + k) = p
  | 0, k, h => by unfold pos at h; omega
  | n + 1, k, h => by
    unfold pos at h
    by_cases hp : S (6 + n) = p
    · rw [if_pos hp] at h
      have : k = n := by omega
      subst this
      exact ⟨by omega, hp⟩
    · rw [if_neg hp] at h
      have := pos_at h
      exact ⟨by omega, this.2⟩
theorem pos_is {S : Nat → Int} (hW : WF S) {k : Nat} (hk : k < (S 1).toNat) {p : Int} (hp : S (6 + k) = p) : pos S p (S 1).toNat = k := by
  rcases pos_b S p (S 1).toNat with h | ⟨h1, h2⟩
  · exact absurd hp (pos_no.mp h k hk)
  · have h3 := pos_at (S := S) (p := p) (n := (S 1).toNat) (k := (pos S p (S 1).toNat).toNat) (by omega)
    have := hW.inj h3.1 hk (h3.2.trans hp.symm)
    omega
/-- there is such a puppet -/
abbrev thr (S : Nat → Int) (p : Int) : Prop := pos S p (S 1).toNat ≠ -109
theorem thr_b {S : Nat → Int} (hW : WF S) {p : Int} (h : thr S p) : 0 ≤ p ∧ p < S 0 ∧ p < 20 := by
  rcases pos_b S p (S 1).toNat with h1 | ⟨h1, h2⟩
  · exact absurd h1 h
  · have h3 := pos_at (S := S) (p := p) (n := (S 1).toNat) (k := (pos S p (S 1).toNat).toNat) (by omega)
    have h4 := hW.od h3.1
    have h5 := hW.n
    omega
/-- how many of the first ones by an order stand on a line -/
def cn (S : Nat → Int) (o : Nat → Nat) (y : Int) (k : Nat) : Nat := sm (fun j => if stn S (o j) y then 1 else 0) k
theorem cn_le (S : Nat → Int) (o : Nat → Nat) (y : Int) (k : Nat) : cn S o y k ≤ k := by
  have := sm_le (f := fun j => if stn S (o j) y then 1 else 0) (b := 1) (n := k) (fun i _ => by split <;> omega)
  unfold cn
  omega
theorem cn_t {S : Nat → Int} {o : Nat → Nat} {y : Int} {k : Nat} (h : stn S (o k) y) : cn S o y (k + 1) = cn S o y k + 1 := by simp only [cn, sm, if_pos h]
theorem cn_f {S : Nat → Int} {o : Nat → Nat} {y : Int} {k : Nat} (h : ¬ stn S (o k) y) : cn S o y (k + 1) = cn S o y k := by simp only [cn, sm, if_neg h]; rfl
theorem cn_mono {S : Nat → Int} {o : Nat → Nat} {y : Int} {j k : Nat} (h : j ≤ k) : cn S o y j ≤ cn S o y k := sm_mono h
theorem cn_lt {S : Nat → Int} {o : Nat → Nat} {y : Int} {j k : Nat} (h : j < k) (hs : stn S (o j) y) : cn S o y j < cn S o y k := by
  have h1 := cn_t hs
  have h2 : cn S o y (j + 1) ≤ cn S o y k := cn_mono h
  omega
/-- the k-th by the order is shown on the line -/
abbrev vis (S : Nat → Int) (y : Int) (k : Nat) : Prop := stn S (od S k) y ∧ (cn S (od S) y k : Int) < S 2
/-- what is shown on a line as the told one -/
def ShoR (S : Nat → Int) (y i r : Int) : Prop := (∃ k, k < (S 1).toNat ∧ vis S y k ∧ (cn S (od S) y k : Int) = i ∧ r = S (6 + k)) ∨ (r = -109 ∧ ∀ k, k < (S 1).toNat → vis S y k → (cn S (od S) y k : Int) ≠ i)
theorem WF.pic {S : Nat → Int} (h : WF S) {i : Nat} (hi : i < 64) : 0 ≤ S (206 + i) ∧ S (206 + i) ≤ 255 := h.2.2.2.2.2.2.2.2.2.1 i hi
theorem WF.col {S : Nat → Int} (h : WF S) {p : Nat} (hp : (p : Int) < S 0) : 1 ≤ S (26 + 9 * p + 4) := h.2.2.2.2.2.2.2.2.2.2.1 p hp
def hghN (S : Nat → Int) (p : Nat) : Nat := if S (26 + 9 * p + 2) = 1 then 16 else 8
theorem hghN_i (S : Nat → Int) (p : Nat) : (hghN S p : Int) = hgh S p := by unfold hghN hgh; split <;> rfl
def pxC (S : Nat → Int) (p dx : Nat) : Nat := if S (26 + 9 * p + 5) % 2 = 1 then 7 - dx else dx
def pxR (S : Nat → Int) (p dy : Nat) : Nat := if S (26 + 9 * p + 5) / 2 = 1 then hghN S p - 1 - dy else dy
def pxD (S : Nat → Int) (p dy : Nat) : Nat := (S (206 + 8 * (((S (26 + 9 * p + 3)).toNat + pxR S p dy / 8) % 8) + pxR S p dy % 8)).toNat
def pix (S : Nat → Int) (p dx dy : Nat) : Bool := (pxD S p dy).testBit (7 - pxC S p dx)
abbrev setp (S : Nat → Int) (p : Nat) (x y : Int) : Prop := (0 ≤ x - S (26 + 9 * p) ∧ x - S (26 + 9 * p) ≤ 7) ∧ (0 ≤ y - S (26 + 9 * p + 1) ∧ y - S (26 + 9 * p + 1) ≤ hgh S p - 1) ∧ pix S p (x - S (26 + 9 * p)).toNat (y - S (26 + 9 * p + 1)).toNat = true
theorem and_f1 {f : Int} (h : 0 ≤ f ∧ f ≤ 3) : iI f &&& 1 = iI (f % 2) := by
  rcases (show f = 0 ∨ f = 1 ∨ f = 2 ∨ f = 3 by omega) with rfl | rfl | rfl | rfl <;> decide
theorem and_f2 {f : Int} (h : 0 ≤ f ∧ f ≤ 3) : iI f &&& 2 = iI (2 * (f / 2)) := by
  rcases (show f = 0 ∨ f = 1 ∨ f = 2 ∨ f = 3 by omega) with rfl | rfl | rfl | rfl <;> decide
theorem s_l : ∀ n, n < 32 → ((nI n &&& 31).toBitVec.smod 32).toNat = n := by decide +kernel
theorem fa_and (a b : Nat) : nI a &&& nI b = nI (a &&& b) := by
  apply Int32.toBitVec_inj.1
  show BitVec.ofNat 32 a &&& BitVec.ofNat 32 b = BitVec.ofNat 32 (a &&& b)
  apply BitVec.eq_of_getLsbD_eq
  intro i hi
  simp [hi]
theorem fa_or (a b : Nat) : nI a ||| nI b = nI (a ||| b) := by
  apply Int32.toBitVec_inj.1
  show BitVec.ofNat 32 a ||| BitVec.ofNat 32 b = BitVec.ofNat 32 (a ||| b)
  apply BitVec.eq_of_getLsbD_eq
  intro i hi
  simp [hi]
theorem shN {a c : Nat} (h : a * 2 ^ c < 2 ^ 32) (hc : c < 32) : nI a <<< (nI c &&& 31) = nI (a * 2 ^ c) := pk_shlN _ c (s_l c hc) h
theorem sh128n : ∀ d, d < 256 → ∀ c, c < 8 → (((d * 2 ^ c) &&& 128 = 0) ↔ d.testBit (7 - c) = false) := by decide +kernel
theorem sh128 (d : Nat) (hd : d < 256) (c : Nat) (hc : c < 8) : (((nI d <<< (nI c &&& 31)) &&& 128 = 0) ↔ d.testBit (7 - c) = false) := by
  have h1 : d * 2 ^ c < 256 * 2 ^ 8 := Nat.mul_lt_mul_of_lt_of_le hd (Nat.pow_le_pow_right (by decide) (by omega)) (by decide)
  rw [shN (by omega) (by omega), show (128 : Int32) = nI 128 from rfl, fa_and, show (0 : Int32) = nI 0 from rfl, nI_eq (Nat.lt_of_le_of_lt Nat.and_le_right (by decide)) (by decide)]
  exact sh128n d hd c hc
theorem div8 {x : Int32} {a : Nat} (h : x = iI a) (ha : a < 2 ^ 31) : x / 8 = iI ((a / 8 : Nat) : Int) := by
  rw [h, show (8 : Int32) = nI 8 from rfl, ← iI_nat, pk_div ha (by decide) (by decide)]
  rfl
theorem rem8 {x : Int32} {a : Nat} (h : x = iI a) (ha : a < 2 ^ 31) : x - x / 8 * 8 = iI ((a % 8 : Nat) : Int) := by
  rw [h, show (8 : Int32) = nI 8 from rfl, ← iI_nat, pk_rem ha (by decide) (by decide)]
  rfl
theorem pxR_b (S : Nat → Int) (p dy : Nat) (h : dy < hghN S p) : pxR S p dy < 16 := by
  have h1 : hghN S p = 8 ∨ hghN S p = 16 := by unfold hghN; split <;> omega
  unfold pxR
  split <;> omega
noncomputable def bC (P : Prop) : Int32 := @bI P (Classical.propDecidable P)
theorem bC_01 (P : Prop) : bC P = 0 ∨ bC P = 1 := @bI_01 P (Classical.propDecidable P)
theorem bC_t {P : Prop} (h : P) : bC P = 1 := @bI_t P (Classical.propDecidable P) h
theorem bC_f {P : Prop} (h : ¬ P) : bC P = 0 := @bI_f P (Classical.propDecidable P) h
theorem w_c {P : Prop} {A B : Prop} (f : ¬ P → A) (g : P → B) : if bC P = 0 then A else B := @w_b P (Classical.propDecidable P) A B f g
noncomputable def cI (P : Prop) : Nat := @ite _ P (Classical.propDecidable P) 1 0
theorem cI_t {P : Prop} (h : P) : cI P = 1 := @if_pos P (Classical.propDecidable P) h _ _ _
theorem cI_f {P : Prop} (h : ¬ P) : cI P = 0 := @if_neg P (Classical.propDecidable P) h _ _ _
theorem cI_iff {P R : Prop} (h : P ↔ R) : cI P = cI R := by rw [show P = R from propext h]
theorem cI_le (P : Prop) : cI P ≤ 1 := by
  by_cases h : P
  · rw [cI_t h]; exact Nat.le_refl _
  · rw [cI_f h]; exact Nat.zero_le _
theorem cn_inj {S : Nat → Int} {o : Nat → Nat} {y : Int} {j k : Nat} (hj : stn S (o j) y) (hk : stn S (o k) y) (h : cn S o y j = cn S o y k) : j = k := by
  rcases Nat.lt_trichotomy j k with h2 | h2 | h2
  · have := cn_lt h2 hj; omega
  · exact h2
  · have := cn_lt h2 hk; omega
/-- the first one that is shown on the line with a dot set there, but one -/
def FirR (S : Nat → Int) (x y but r : Int) : Prop := (∃ k, k < (S 1).toNat ∧ vis S y k ∧ S (6 + k) ≠ but ∧ setp S (od S k) x y ∧ (∀ j, j < k → vis S y j → S (6 + j) ≠ but → ¬ setp S (od S j) x y) ∧ r = S (6 + k)) ∨ (r = -109 ∧ ∀ j, j < (S 1).toNat → vis S y j → S (6 + j) ≠ but → ¬ setp S (od S j) x y)
theorem FirR_b {S : Nat → Int} (hW : WF S) {x y but r : Int} (h : FirR S x y but r) : r = -109 ∨ (0 ≤ r ∧ r < 20 ∧ r < S 0) := by
  rcases h with ⟨k, hk, -, -, -, -, rfl⟩ | ⟨rfl, -⟩
  · have := hW.od hk; exact Or.inr (by omega)
  · exact Or.inl rfl
def ColR (S : Nat → Int) (x y c : Int) : Prop := ∃ r, FirR S x y (-109) r ∧ c = (if r = -109 then 0 else S (26 + 9 * r.toNat + 4))
/-- a dot of the stage that is not 0 -/
def lit (S : Nat → Int) (x y : Int) : Prop := ∃ k, k < (S 1).toNat ∧ vis S y k ∧ setp S (od S k) x y
theorem ColR_pos {S : Nat → Int} (hW : WF S) {x y c : Int} (h : ColR S x y c) : (0 < c ↔ lit S x y) ∧ 0 ≤ c ∧ c ≤ 9 := by
  obtain ⟨r, hr, rfl⟩ := h
  rcases hr with ⟨k, hk, hv, hne, hs, hf, rfl⟩ | ⟨rfl, hno⟩
  · have ho := hW.od hk
    have hc := hW.col (p := od S k) (by rw [← ho.1]; exact ho.2.2)
    have hc9 := (hW.wp (od S k) ho.2.1).2.2.2.2.1
    rw [if_neg (by omega)]
    have e : (S (6 + k)).toNat = od S k := rfl
    rw [e]
    exact ⟨⟨fun _ => ⟨k, hk, hv, hs⟩, fun _ => by omega⟩, by omega, by omega⟩
  · rw [if_pos rfl]
    refine ⟨⟨fun z => by omega, fun ⟨k, hk, hv, hs⟩ => ?_⟩, by omega, by omega⟩
    have ho := hW.od hk
    exact absurd hs (hno k hk hv (by omega))
noncomputable def dts (S : Nat → Int) (y : Int) (n : Nat) : Nat := sm (fun x => cI (lit S x y)) n
theorem dts_le (S : Nat → Int) (y : Int) (n : Nat) : dts S y n ≤ n := by
  have := sm_le (f := fun x : Nat => cI (lit S x y)) (b := 1) (n := n) (fun i _ => cI_le _)
  unfold dts
  omega
def HerR (S : Nat → Int) (n : Nat) (r : Int) : Prop := (n = 0 ∧ r = -109) ∨ (∃ k, k < n ∧ r = S (6 + k) ∧ ∀ j, j < n → r ≤ S (6 + j))
/-- a puppet is shown on a line -/
def shw (S : Nat → Int) (p y : Int) : Prop := ∃ k, k < (S 1).toNat ∧ vis S y k ∧ S (6 + k) = p
def Sm (X : List (Nat × Nat)) (Y : List Nat) (h h' : St) : Prop := (∀ o k, (o, k) ∉ X → h'.1 o k = h.1 o k) ∧ ∀ a, a ∉ Y → h'.2 a = h.2 a
theorem Sm.rf {X : List (Nat × Nat)} {Y : List Nat} {h : St} : Sm X Y h h := ⟨fun _ _ _ => rfl, fun _ _ => rfl⟩
theorem Sm.tr {X X' : List (Nat × Nat)} {Y Y' : List Nat} {h h1 h2 : St} (a : Sm X Y h h1) (b : Sm X' Y' h1 h2) : Sm (X ++ X') (Y ++ Y') h h2 :=
  ⟨fun o k hn => (b.1 o k (fun z => hn (List.mem_append_right _ z))).trans (a.1 o k (fun z => hn (List.mem_append_left _ z))), fun q hn => (b.2 q (fun z => hn (List.mem_append_right _ z))).trans (a.2 q (fun z => hn (List.mem_append_left _ z)))⟩
theorem Sm.t {X : List (Nat × Nat)} {Y : List Nat} {h h1 h2 : St} (a : Sm X Y h h1) (b : Sm X Y h1 h2) : Sm X Y h h2 :=
  ⟨fun o k hn => (b.1 o k hn).trans (a.1 o k hn), fun q hn => (b.2 q hn).trans (a.2 q hn)⟩
theorem Sm.mo {X X' : List (Nat × Nat)} {Y Y' : List Nat} {h h1 : St} (a : Sm X Y h h1) (hx : ∀ q ∈ X, q ∈ X') (hy : ∀ q ∈ Y, q ∈ Y') : Sm X' Y' h h1 := ⟨fun o k hn => a.1 o k (fun z => hn (hx _ z)), fun q hn => a.2 q (fun z => hn (hy _ z))⟩
theorem Sm.wr {X : List (Nat × Nat)} {Y : List Nat} {h : St} {a : Nat} (f : Nat → Int32) (ha : a ∈ Y) : Sm X Y h (h.1, u1 h.2 a f) := ⟨fun _ _ _ => rfl, fun q hq => u1_n _ _ (fun z => hq (z ▸ ha))⟩
theorem Sm.put {X : List (Nat × Nat)} {Y : List Nat} {h : St} {o k : Nat} (x : Int32) (ha : (o, k) ∈ X) : Sm X Y h (u2 h.1 o k x, h.2) := by
  refine ⟨fun a j hn => ?_, fun _ _ => rfl⟩
  show u2 h.1 o k x a j = _
  unfold u2 u1
  by_cases h1 : a = o
  · by_cases h2 : j = k
    · rw [h1, h2] at hn; exact absurd ha hn
    · rw [if_pos h1, if_neg h2, h1]
  · rw [if_neg h1]
theorem bit_at {w k : Nat} (hw : w < 2 ^ 20) (hk : k < 20) : (nI w >>> (iI k &&& 31)) &&& 1 = iI (if w.testBit k then 1 else 0) := by
  rw [← iI_nat, pk_shrN (by omega) _ k (s_l k (by omega)), show (1 : Int32) = nI 1 from rfl, fa_and, Nat.and_one_is_mod, Nat.testBit_eq_decide_div_mod_eq]
  have : w / 2 ^ k % 2 = 0 ∨ w / 2 ^ k % 2 = 1 := by omega
  rcases this with h | h
  · rw [h]; rfl
  · rw [h]; rfl
theorem bit_or {w p : Nat} (hp : p < 20) : nI w ||| ((1 : Int32) <<< (iI p &&& 31)) = nI (w ||| 2 ^ p) := by
  have h1 : 2 ^ p < 2 ^ 20 := Nat.pow_lt_pow_right (by decide) hp
  rw [show (1 : Int32) = nI 1 from rfl, ← iI_nat, shN (by omega) (by omega), Nat.one_mul, fa_or]
theorem bit_or_t {w p q : Nat} : (w ||| 2 ^ p).testBit q = (w.testBit q || decide (p = q)) := by rw [Nat.testBit_or, Nat.testBit_two_pow]
theorem bit_or_b {w p : Nat} (hw : w < 2 ^ 20) (hp : p < 20) : w ||| 2 ^ p < 2 ^ 20 := Nat.or_lt_two_pow hw (Nat.pow_lt_pow_right (by decide) hp)
def hA (S : Nat → Int) (o : Nat → Nat) (y k : Nat) : Nat := if stn S (o k) y ∧ S 2 < (cn S o y (k + 1) : Int) then 1 else 0
def hR (S : Nat → Int) (o : Nat → Nat) (y k p : Nat) : Nat := sm (fun j => if o j = p then hA S o y j else 0) k
def hT (S : Nat → Int) (o : Nat → Nat) (n y p : Nat) : Nat := sm (fun l => hR S o l n p) y
theorem hA_le (S : Nat → Int) (o : Nat → Nat) (y k : Nat) : hA S o y k ≤ 1 := by unfold hA; split <;> omega
theorem hR_le (S : Nat → Int) (o : Nat → Nat) (y k p : Nat) : hR S o y k p ≤ k := by
  have := sm_le (f := fun j => if o j = p then hA S o y j else 0) (b := 1) (n := k) (fun i _ => by
    have := hA_le S o y i
    split <;> omega)
  unfold hR
  omega
theorem hT_le (S : Nat → Int) (o : Nat → Nat) (n y p : Nat) : hT S o n y p ≤ y * n := sm_le (fun i _ => hR_le S o i n p)
theorem hR_s (S : Nat → Int) (o : Nat → Nat) (y k p : Nat) : hR S o y (k + 1) p = hR S o y k p + (if o k = p then hA S o y k else 0) := rfl
def wa (h : St) (a j : Nat) (x : Int32) : St := (h.1, u1 h.2 a (u1 (h.2 a) j x))
theorem wa_s (h : St) (a j : Nat) (x : Int32) : (wa h a j x).2 a j = x := by show u1 h.2 a (u1 (h.2 a) j x) a j = x; rw [u1_s, u1_s]
theorem wa_n (h : St) (a j : Nat) (x : Int32) {i : Nat} (hi : i ≠ j) : (wa h a j x).2 a i = h.2 a i := by show u1 h.2 a (u1 (h.2 a) j x) a i = _; rw [u1_s, u1_n _ _ hi]
theorem wa_o (h : St) (a j : Nat) (x : Int32) {b : Nat} (hb : b ≠ a) : (wa h a j x).2 b = h.2 b := u1_n _ _ hb
theorem Sm.wa {X : List (Nat × Nat)} {Y : List Nat} {h : St} {a : Nat} (j : Nat) (x : Int32) (ha : a ∈ Y) : Sm X Y h (wa h a j x) := Sm.wr _ ha
def ol (o : Nat → Nat) (n : Nat) : List Nat := (List.range n).map o
def fl (l : List Nat) : Nat → Nat := fun k => l.getD k 0
theorem ol_len (o : Nat → Nat) (n : Nat) : (ol o n).length = n := by simp [ol]
theorem ol_s (o : Nat → Nat) (n : Nat) : ol o (n + 1) = ol o n ++ [o n] := by simp [ol, List.range_succ]
theorem fl_ol {o : Nat → Nat} {n k : Nat} (h : k < n) : fl (ol o n) k = o k := by simp [fl, ol, List.getD_eq_getElem?_getD, h]
theorem ol_congr {o o' : Nat → Nat} {n : Nat} (h : ∀ k, k < n → o k = o' k) : ol o n = ol o' n := List.map_congr_left (fun k hk => h k (List.mem_range.mp hk))
theorem fl_app {l m : List Nat} {k : Nat} (h : k < l.length) : fl (l ++ m) k = fl l k := by simp [fl, List.getD_eq_getElem?_getD, List.getElem?_append_left h]
theorem fl_end {l : List Nat} {x k : Nat} (h : k = l.length) : fl (l ++ [x]) k = x := by subst h; simp [fl, List.getD_eq_getElem?_getD]
theorem filt_perm (B : Nat → Bool) : ∀ l : List Nat, (l.filter B ++ l.filter (fun p => !B p)).Perm l
  | [] => by simp
  | a :: r => by
    have ih := filt_perm B r
    cases h : B a with
    | true =>
      simp only [List.filter_cons, h, if_true, Bool.not_true, Bool.false_eq_true, if_false, List.cons_append]
      exact ih.cons a
    | false =>
      simp only [List.filter_cons, h, Bool.false_eq_true, if_false, Bool.not_false, if_true]
      exact List.perm_middle.trans (ih.cons a)
/-- the order behind its turn -/
def turnL (B : Nat → Bool) (rule : Int) (step n : Nat) (o : Nat → Nat) : List Nat := if rule = 2 then (ol o n).filter B ++ (ol o n).filter (fun p => !B p) else if rule = 1 then ol (fun k => o ((k + step) % n)) n else ol o n
theorem turnL_len (B : Nat → Bool) (rule : Int) (step n : Nat) (o : Nat → Nat) : (turnL B rule step n o).length = n := by
  unfold turnL
  split
  · rw [(filt_perm B (ol o n)).length_eq, ol_len]
  · split <;> rw [ol_len]
theorem turnL_mem {B : Nat → Bool} {rule : Int} {step n : Nat} {o : Nat → Nat} {x : Nat} (h : x ∈ turnL B rule step n o) : ∃ k, k < n ∧ o k = x := by
  have key : ∀ {o' : Nat → Nat}, x ∈ ol o' n → ∃ k, k < n ∧ o' k = x := fun hx => by
    obtain ⟨k, hk, e⟩ := List.mem_map.mp hx
    exact ⟨k, List.mem_range.mp hk, e⟩
  unfold turnL at h
  split at h
  · exact key ((filt_perm B (ol o n)).mem_iff.mp h)
  · split at h
    · obtain ⟨k, hk, e⟩ := key h
      exact ⟨(k + step) % n, Nat.mod_lt _ (by omega), e⟩
    · exact key h
theorem fl_mem {l : List Nat} {k : Nat} (h : k < l.length) : fl l k ∈ l := by
  unfold fl
  rw [List.getD_eq_getElem?_getD, List.getElem?_eq_getElem h]
  exact List.getElem_mem h
theorem modr {x y : Int32} {a b : Nat} (hx : x = iI a) (hy : y = iI b) (ha : a < 2 ^ 31) (hb : b < 2 ^ 31) (h0 : 0 < b) : x - x / y * y = iI ((a % b : Nat) : Int) := by
  rw [hx, hy, ← iI_nat, ← iI_nat, pk_rem ha h0 hb]
  rfl
theorem bit_is {w p : Nat} {B : Nat → Bool} (hw : w < 2 ^ 20) (hp : p < 20) (hb : w.testBit p = B p) : (nI w >>> (iI p &&& 31)) &&& 1 = iI (if B p then 1 else 0) := by rw [bit_at hw hp, hb]
theorem iI_p {x : Int32} {k : Nat} (h : x = iI k) (hk : 0 < k) : x + (-1) = iI ((k - 1 : Nat) : Int) := by
  rw [h, show (-1 : Int32) = iI (-1) from by decide, iI_add]
  exact congrArg iI (by omega)
theorem u1_app {α : Type} (f : Nat → α) (k : Nat) (x : α) (j : Nat) : u1 f k x j = if j = k then x else f j := rfl
def mvS (S : Nat → Int) (p : Nat) (x y : Int) : Nat → Int := u1 (u1 S (26 + 9 * p) x) (26 + 9 * p + 1) y
/-- the order is another one, and all else as before -/
def ROrd (S : Nat → Int) (n : Nat) (o : Nat → Nat) (S' : Nat → Int) : Prop := S' 1 = n ∧ (∀ k, k < n → S' (6 + k) = o k) ∧ ∀ i, i ≠ 1 → ¬ (6 ≤ i ∧ i < 26) → S' i = S i
def outO (o : Nat → Nat) (q : Nat) : Nat → Nat := fun k => if k < q then o k else o (k + 1)
def lftO (o : Nat → Nat) (q : Nat) : Nat → Nat := fun k => if k = 0 then o q else if k ≤ q then o (k - 1) else o k
def lowO (o : Nat → Nat) (q n : Nat) : Nat → Nat := fun k => if k < q then o k else if k + 1 < n then o (k + 1) else o q
/-- a puppet is hidden on any line -/
def hdd (S : Nat → Int) (p : Nat) : Bool := decide (0 < hT S (od S) (S 1).toNat 48 p)
def frP (T : Nat → Int) (b : Bool) (p : Nat) : Nat → Int :=
  u1 (u1 (u1 T (26 + 9 * p + 6) (T (26 + 9 * p + 6) + (if b then 1 else 0))) (26 + 9 * p + 7) (if b then T (26 + 9 * p + 7) + 1 else 0)) (26 + 9 * p + 8) (if (if b then T (26 + 9 * p + 7) + 1 else 0) ≤ T (26 + 9 * p + 8) then T (26 + 9 * p + 8) else (if b then T (26 + 9 * p + 7) + 1 else 0))
/-- the counts of the first ones by the order, behind a frame -/
def frC (S : Nat → Int) (hd : Nat → Bool) : Nat → (Nat → Int)
  | 0 => S
  | k + 1 => frP (frC S hd k) (hd (od S k)) (od S k)
theorem frP_o {T : Nat → Int} {b : Bool} {p i : Nat} (h : i ≠ 26 + 9 * p + 6) (h1 : i ≠ 26 + 9 * p + 7) (h2 : i ≠ 26 + 9 * p + 8) : frP T b p i = T i := by
  unfold frP
  rw [u1_n _ _ h2, u1_n _ _ h1, u1_n _ _ h]
theorem frC_o {S : Nat → Int} {hd : Nat → Bool} {i : Nat} : ∀ {k : Nat}, (∀ j, j < k → od S j < 20) → (i < 26 ∨ 206 ≤ i) → frC S hd k i = S i
  | 0, _, _ => rfl
  | k + 1, hb, hi => by
    have := hb k (by omega)
    unfold frC
    rw [frP_o (by omega) (by omega) (by omega)]
    exact frC_o (fun j hj => hb j (by omega)) hi
theorem frC_p {S : Nat → Int} {hd : Nat → Bool} {p i : Nat} (hi : i < 9) : ∀ {k : Nat}, (∀ j, j < k → od S j ≠ p) → frC S hd k (26 + 9 * p + i) = S (26 + 9 * p + i)
  | 0, _ => rfl
  | k + 1, hb => by
    have := hb k (by omega)
    unfold frC
    rw [frP_o (by omega) (by omega) (by omega)]
    exact frC_p hi (fun j hj => hb j (by omega))
theorem frC_c {S : Nat → Int} {hd : Nat → Bool} {p i : Nat} (hi : i < 6) : ∀ {k : Nat}, frC S hd k (26 + 9 * p + i) = S (26 + 9 * p + i)
  | 0 => rfl
  | k + 1 => by
    unfold frC
    rw [frP_o (by omega) (by omega) (by omega)]
    exact frC_c hi
def RFr (S S' : Nat → Int) : Prop := S' 5 = S 5 + 1 ∧ (∀ k, k < (S 1).toNat → S' (6 + k) = fl (turnL (hdd S) (S 3) (S 4).toNat (S 1).toNat (od S)) k) ∧ ∀ i, i ≠ 5 → ¬ (6 ≤ i ∧ i < 26) → S' i = frC S (hdd S) (S 1).toNat i
def hidN (S : Nat → Int) : Nat := sm (fun p => if hdd S p then 1 else 0) 20
theorem wf_oi {S : Nat → Int} (h : WF S) {j k : Nat} (hj : j < (S 1).toNat) (hk : k < (S 1).toNat) (he : od S j = od S k) : j = k := by
  have h1 := (h.od hj).1
  have h2 := (h.od hk).1
  exact h.inj hj hk (by omega)
def psN (n : Nat) : Nat := if n = 5 then 5 else n + 1
def psH (n : Nat) (H : Nat → Nat → Int) (S : Nat → Int) : Nat → Nat → Int := if n = 5 then (fun j => if j < 4 then H (j + 1) else S) else (fun j => if j < n then H j else S)
theorem mvS_n {S : Nat → Int} {p i : Nat} {x y : Int} (h : i ≠ 26 + 9 * p) (h1 : i ≠ 26 + 9 * p + 1) : mvS S p x y i = S i := by
  unfold mvS
  rw [u1_n _ _ h1, u1_n _ _ h]
/-- a new puppet -/
def cmS (S : Nat → Int) (x y t g c : Int) : Nat → Int :=
  u1 (u1 (u1 (u1 (u1 (u1 (u1 (u1 S 0 (S 0 + 1)) (6 + (S 1).toNat) (S 0)) 1 (S 1 + 1)) (26 + 9 * (S 0).toNat) x) (26 + 9 * (S 0).toNat + 1) y) (26 + 9 * (S 0).toNat + 2) t) (26 + 9 * (S 0).toNat + 3) g) (26 + 9 * (S 0).toNat + 4) c
def FaiR (f : Nat) (G : Nat → Int) (w r : Int) : Prop := (¬ (0 ≤ w ∧ w ≤ 4) ∧ r = -101) ∨ ((0 ≤ w ∧ w ≤ 4) ∧ ((f = 0 ∧ r = -109) ∨ (f = 1 ∧ r = G w.toNat)))
noncomputable def adt (S : Nat → Int) (n : Nat) : Nat := sm (fun y : Nat => dts S y 64) n
/-- what count answers -/
def CntR (S : Nat → Int) (hn len : Nat) (w r : Int) : Prop := (w = 0 ∧ r = S 1) ∨ (w = 1 ∧ r = S 0) ∨ (w = 2 ∧ r = S 2) ∨ (w = 3 ∧ r = S 3) ∨ (w = 4 ∧ r = S 4) ∨ (w = 5 ∧ r = S 5) ∨ (w = 6 ∧ r = hidN S) ∨ (w = 7 ∧ r = adt S 48) ∨ (w = 8 ∧ HerR S (S 1).toNat r) ∨ (w = 9 ∧ r = hn) ∨ (w = 10 ∧ r = len) ∨ (¬ (0 ≤ w ∧ w ≤ 10) ∧ r = -101)
/-- what puppet answers -/
def PupR (S : Nat → Int) (p w r : Int) : Prop := (¬ (thr S p ∧ (0 ≤ w ∧ w ≤ 11)) ∧ r = -101) ∨ ((thr S p ∧ (0 ≤ w ∧ w ≤ 11)) ∧ ((w = 6 ∧ r = pos S p (S 1).toNat) ∨ (w = 7 ∧ r = lns S p.toNat 48) ∨ (w = 8 ∧ r = hT S (od S) (S 1).toNat 48 p.toNat) ∨ (8 < w ∧ r = S (26 + 9 * p.toNat + (w - 3).toNat)) ∨ (w < 6 ∧ r = S (26 + 9 * p.toNat + w.toNat))))
/-- what line answers -/
def LinR (S : Nat → Int) (y w r : Int) : Prop := (¬ ((0 ≤ y ∧ y ≤ 47) ∧ (0 ≤ w ∧ w ≤ 2)) ∧ r = -101) ∨ (((0 ≤ y ∧ y ≤ 47) ∧ (0 ≤ w ∧ w ≤ 2)) ∧ ((w = 0 ∧ r = cn S (od S) y (S 1).toNat) ∨ (w = 2 ∧ r = dts S y 64) ∨ (w = 1 ∧ r = if (cn S (od S) y (S 1).toNat : Int) < S 2 then (cn S (od S) y (S 1).toNat : Int) else S 2)))
/-- what shown answers -/
def ShnR (S : Nat → Int) (y i r : Int) : Prop := (¬ ((0 ≤ y ∧ y ≤ 47) ∧ 0 ≤ i) ∧ r = -101) ∨ (((0 ≤ y ∧ y ≤ 47) ∧ 0 ≤ i) ∧ ShoR S y i r)
/-- what dot answers -/
def DotR (S : Nat → Int) (x y r : Int) : Prop := (¬ ((0 ≤ x ∧ x ≤ 63) ∧ (0 ≤ y ∧ y ≤ 47)) ∧ r = -101) ∨ (((0 ≤ x ∧ x ≤ 63) ∧ (0 ≤ y ∧ y ≤ 47)) ∧ ColR S x y r)
/-- there is a clash at a dot -/
def clq (S : Nat → Int) (hr x y : Int) : Prop := hr ≠ -109 ∧ setp S hr.toNat x y ∧ shw S hr y ∧ ∃ k, k < (S 1).toNat ∧ vis S y k ∧ S (6 + k) ≠ hr ∧ setp S (od S k) x y
noncomputable def clN (S : Nat → Int) (hr : Int) (n : Nat) : Nat := sm (fun p : Nat => cI (clq S hr ((p % 64 : Nat) : Int) ((p / 64 : Nat) : Int))) n
/-- what clash answers -/
def ClaR (S : Nat → Int) (w r : Int) : Prop := (¬ (0 ≤ w ∧ w ≤ 3) ∧ r = -101) ∨ ((0 ≤ w ∧ w ≤ 3) ∧ ∃ hr, HerR S (S 1).toNat hr ∧ ((w = 0 ∧ r = clN S hr 3072) ∨ (w ≠ 0 ∧ r = -109 ∧ ∀ p : Nat, p < 3072 → ¬ clq S hr ((p % 64 : Nat) : Int) ((p / 64 : Nat) : Int)) ∨
  (w ≠ 0 ∧ ∃ p : Nat, p < 3072 ∧ clq S hr ((p % 64 : Nat) : Int) ((p / 64 : Nat) : Int) ∧ (∀ q : Nat, q < p → ¬ clq S hr ((q % 64 : Nat) : Int) ((q / 64 : Nat) : Int)) ∧ ((w = 1 ∧ r = ((p % 64 : Nat) : Int)) ∨ (w = 2 ∧ r = ((p / 64 : Nat) : Int)) ∨ (w = 3 ∧ FirR S ((p % 64 : Nat) : Int) ((p / 64 : Nat) : Int) hr r)))))
/-- what worstLine answers -/
def WrsR (S : Nat → Int) (k : Nat) (r m : Int) : Prop := (r = -109 ∧ m = 0 ∧ ∀ y : Nat, y < k → (cn S (od S) y (S 1).toNat : Int) ≤ S 2) ∨ (∃ y : Nat, y < k ∧ r = y ∧ m = cn S (od S) y (S 1).toNat - S 2 ∧ 0 < m ∧ (∀ z : Nat, z < k → cn S (od S) z (S 1).toNat ≤ cn S (od S) y (S 1).toNat) ∧ ∀ z : Nat, z < y → cn S (od S) z (S 1).toNat < cn S (od S) y (S 1).toNat)
/-- the latest state, where it tells something -/
def rsS (S G : Nat → Int) : Nat → Int := fun i => if i < 270 then G i else S i
def hB (S : Nat → Int) (o : Nat → Nat) (p : Nat) : Bool := decide (0 < hT S o (S 1).toNat 48 p)
/-- the order behind some frames -/
def oF (S : Nat → Int) (rule : Int) (step : Nat) : Nat → (Nat → Nat)
  | 0 => od S
  | t + 1 => fl (turnL (hB S (oF S rule step t)) rule step (S 1).toNat (oF S rule step t))
theorem oF_b {S : Nat → Int} (hW : WF S) (rule : Int) (step : Nat) : ∀ (t k : Nat), k < (S 1).toNat → ∃ j, j < (S 1).toNat ∧ oF S rule step t k = od S j
  | 0, k, hk => ⟨k, hk, rfl⟩
  | t + 1, k, hk => by
    have h1 := fl_mem (l := turnL (hB S (oF S rule step t)) rule step (S 1).toNat (oF S rule step t)) (k := k) (by rw [turnL_len]; exact hk)
    obtain ⟨j, hj, e⟩ := turnL_mem h1
    obtain ⟨i, hi, e2⟩ := oF_b hW rule step t j hj
    refine ⟨i, hi, ?_⟩
    show fl (turnL (hB S (oF S rule step t)) rule step (S 1).toNat (oF S rule step t)) k = _
    rw [← e, e2]
theorem oF_20 {S : Nat → Int} (hW : WF S) (rule : Int) (step t k : Nat) (hk : k < (S 1).toNat) : oF S rule step t k < 20 := by
  obtain ⟨j, hj, e⟩ := oF_b hW rule step t k hk
  rw [e]
  exact (hW.od hj).2.1
/-- in how many of some frames a puppet is hidden -/
def ofn (S : Nat → Int) (rule : Int) (step p : Nat) (t : Nat) : Nat := sm (fun i => if hB S (oF S rule step i) p then 1 else 0) t
theorem ofn_le (S : Nat → Int) (rule : Int) (step p t : Nat) : ofn S rule step p t ≤ t := by
  have := sm_le (f := fun i => if hB S (oF S rule step i) p then 1 else 0) (b := 1) (n := t) (fun i _ => by split <;> omega)
  unfold ofn
  omega
/-- what hiddenIn answers -/
def HinR (S : Nat → Int) (p f r : Int) : Prop := (¬ (thr S p ∧ (1 ≤ f ∧ f ≤ 60)) ∧ r = -101) ∨ ((thr S p ∧ (1 ≤ f ∧ f ≤ 60)) ∧ r = ofn S (S 3) (S 4).toNat p.toNat f.toNat)
abbrev SmF (h h' : St) : Prop := Sm [(90, 0)] [98, 97, 96, 95] h h'
/-- every puppet would have been shown on all its lines in one of t frames at least -/
def allS (S : Nat → Int) (t : Nat) : Prop := ∀ k, k < (S 1).toNat → ∃ i, i < t ∧ hB S (oF S (S 3) (S 4).toNat i) (od S k) = false
def AllR (S : Nat → Int) (r : Int) : Prop := (∃ t : Nat, t ≤ 60 ∧ r = t ∧ allS S t ∧ ∀ u, u < t → ¬ allS S u) ∨ (r = -109 ∧ ∀ u, u ≤ 60 → ¬ allS S u)
theorem nat_zero_bits {w : Nat} (h : ∀ p, p < 20 → w.testBit p = false) (hw : w < 2 ^ 20) : w = 0 := by
  apply Nat.eq_of_testBit_eq
  intro i
  rw [Nat.zero_testBit]
  by_cases hi : i < 20
  · exact h i hi
  · exact Nat.testBit_lt_two_pow (Nat.lt_of_lt_of_le hw (Nat.pow_le_pow_right (by decide) (by omega)))
def mxF (f : Nat → Nat) : Nat → Nat
  | 0 => 0
  | n + 1 => if mxF f n < f n then f n else mxF f n
theorem mxF_z {f : Nat → Nat} : ∀ {n : Nat}, (∀ i, i < n → f i = 0) → mxF f n = 0
  | 0, _ => rfl
  | n + 1, h => by
    unfold mxF
    rw [mxF_z (fun i hi => h i (by omega)), h n (by omega)]
    rfl
theorem mxF_b {f : Nat → Nat} {b : Nat} : ∀ {n : Nat}, (∀ i, i < n → f i ≤ b) → mxF f n ≤ b
  | 0, _ => Nat.zero_le _
  | n + 1, h => by
    unfold mxF
    have := mxF_b (f := f) (b := b) (n := n) (fun i hi => h i (by omega))
    have := h n (by omega)
    split <;> omega
/-- the greatest number of 20 frames in which one puppet is hidden, by rule 1 and a step -/
def grb (S : Nat → Int) (step : Nat) : Nat := mxF (fun p => ofn S 1 step p 20) 20
theorem grb_b (S : Nat → Int) (step : Nat) : grb S step ≤ 20 := mxF_b (fun i _ => ofn_le S 1 step i 20)
/-- the best step among the first ones, and its number -/
def bsF (g : Nat → Nat) : Nat → Nat × Nat
  | 0 => (1, g 1)
  | k + 1 => if g (k + 2) < (bsF g k).2 then (k + 2, g (k + 2)) else bsF g k
