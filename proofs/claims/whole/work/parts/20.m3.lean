/-! dots -/
theorem WF.pic {S : Nat → Int} (h : WF S) {i : Nat} (hi : i < 64) : 0 ≤ S (206 + i) ∧ S (206 + i) ≤ 255 := h.2.2.2.2.2.2.2.2.2.1 i hi
theorem WF.col {S : Nat → Int} (h : WF S) {p : Nat} (hp : (p : Int) < S 0) : 1 ≤ S (26 + 9 * p + 4) := h.2.2.2.2.2.2.2.2.2.2.1 p hp
def hghN (S : Nat → Int) (p : Nat) : Nat := if S (26 + 9 * p + 2) = 1 then 16 else 8
theorem hghN_i (S : Nat → Int) (p : Nat) : (hghN S p : Int) = hgh S p := by unfold hghN hgh; split <;> rfl
def pxC (S : Nat → Int) (p dx : Nat) : Nat := if S (26 + 9 * p + 5) % 2 = 1 then 7 - dx else dx
def pxR (S : Nat → Int) (p dy : Nat) : Nat := if S (26 + 9 * p + 5) / 2 = 1 then hghN S p - 1 - dy else dy
def pxD (S : Nat → Int) (p dy : Nat) : Nat := (S (206 + 8 * (((S (26 + 9 * p + 3)).toNat + pxR S p dy / 8) % 8) + pxR S p dy % 8)).toNat
def pix (S : Nat → Int) (p dx dy : Nat) : Bool := (pxD S p dy).testBit (7 - pxC S p dx)
abbrev setp (S : Nat → Int) (p : Nat) (x y : Int) : Prop := (0 ≤ x - S (26 + 9 * p) ∧ x - S (26 + 9 * p) ≤ 7) ∧ (0 ≤ y - S (26 + 9 * p + 1) ∧ y - S (26 + 9 * p + 1) ≤ hgh S p - 1) ∧ pix S p (x - S (26 + 9 * p)).toNat (y - S (26 + 9 * p + 1)).toNat = true
theorem and_f1 {f : Int} (h : 0 ≤ f ∧ f ≤ 3) : iI f &&& 1 = iI (f % 2) := by
  rcases (show f = 0 ∨ f = 1 ∨ f = 2 ∨ f = 3 by omega) with rfl | rfl | rfl | rfl <;> decide
theorem and_f2 {f : Int} (h : 0 ≤ f ∧ f ≤ 3) : iI f &&& 2 = iI (2 * (f / 2)) := by
  rcases (show f = 0 ∨ f = 1 ∨ f = 2 ∨ f = 3 by omega) with rfl | rfl | rfl | rfl <;> decide
theorem s_l : ∀ n, n < 32 → ((nI n &&& 31).toBitVec.smod 32).toNat = n := by decide +kernel
theorem fa_and (a b : Nat) : nI a &&& nI b = nI (a &&& b) := by
  apply Int32.toBitVec_inj.1
  show BitVec.ofNat 32 a &&& BitVec.ofNat 32 b = BitVec.ofNat 32 (a &&& b)
  apply BitVec.eq_of_getLsbD_eq
  intro i hi
  simp [hi]
theorem fa_or (a b : Nat) : nI a ||| nI b = nI (a ||| b) := by
  apply Int32.toBitVec_inj.1
  show BitVec.ofNat 32 a ||| BitVec.ofNat 32 b = BitVec.ofNat 32 (a ||| b)
  apply BitVec.eq_of_getLsbD_eq
  intro i hi
  simp [hi]
theorem shN {a c : Nat} (h : a * 2 ^ c < 2 ^ 32) (hc : c < 32) : nI a <<< (nI c &&& 31) = nI (a * 2 ^ c) := pk_shlN _ c (s_l c hc) h
theorem sh128n : ∀ d, d < 256 → ∀ c, c < 8 → (((d * 2 ^ c) &&& 128 = 0) ↔ d.testBit (7 - c) = false) := by decide +kernel
theorem sh128 (d : Nat) (hd : d < 256) (c : Nat) (hc : c < 8) : (((nI d <<< (nI c &&& 31)) &&& 128 = 0) ↔ d.testBit (7 - c) = false) := by
  have h1 : d * 2 ^ c < 256 * 2 ^ 8 := Nat.mul_lt_mul_of_lt_of_le hd (Nat.pow_le_pow_right (by decide) (by omega)) (by decide)
  rw [shN (by omega) (by omega), show (128 : Int32) = nI 128 from rfl, fa_and, show (0 : Int32) = nI 0 from rfl, nI_eq (Nat.lt_of_le_of_lt Nat.and_le_right (by decide)) (by decide)]
  exact sh128n d hd c hc
theorem div8 {x : Int32} {a : Nat} (h : x = iI a) (ha : a < 2 ^ 31) : x / 8 = iI ((a / 8 : Nat) : Int) := by
  rw [h, show (8 : Int32) = nI 8 from rfl, ← iI_nat, pk_div ha (by decide) (by decide)]
  rfl
theorem rem8 {x : Int32} {a : Nat} (h : x = iI a) (ha : a < 2 ^ 31) : x - x / 8 * 8 = iI ((a % 8 : Nat) : Int) := by
  rw [h, show (8 : Int32) = nI 8 from rfl, ← iI_nat, pk_rem ha (by decide) (by decide)]
  rfl
theorem pxR_b (S : Nat → Int) (p dy : Nat) (h : dy < hghN S p) : pxR S p dy < 16 := by
  have h1 : hghN S p = 8 ∨ hghN S p = 16 := by unfold hghN; split <;> omega
  unfold pxR
  split <;> omega
set_option maxHeartbeats 4000000 in
theorem c_M_isSet {S : Nat → Int} {x y z : Int32} {h : St} {Q : Option Value → St → Prop} (hS : MS S h) (hW : WF S) (p : Nat) (a b : Int) (hQ : Q (some (.int (bI (setp S p a b)))) h) (hx : x = iI p) (hy : y = iI a) (hz : z = iI b) (hp : p < 20) (ha : 0 ≤ a ∧ a < 1000) (hb : 0 ≤ b ∧ b < 1000) : SC y_M_isSet [.ref 90, .int x, .int y, .int z] h Q := by
  refine w_call IS_ok [103] ok_M_isSet rfl rfl ?_
  obtain ⟨w0, w1, w2, w3, w4, w5, -⟩ := hW.wp p hp
  have hh := hgh_b S p
  refine c_M_of hS p 0 ?_ hx rfl hp (by omega)
  refine c_M_of hS p 1 ?_ hx rfl hp (by omega)
  refine c_M_highOf hS hW.wp p ?_ hx hp
  have e1 : y - iI (S (26 + 9 * p + 0)) = iI (a - S (26 + 9 * p)) := by rw [hy, iI_sub]; rfl
  have e2 : z - iI (S (26 + 9 * p + 1)) = iI (b - S (26 + 9 * p + 1)) := by rw [hz, iI_sub]
  refine c_M_in (a - S (26 + 9 * p)) 0 7 ?_ e1 rfl rfl (by omega) (by omega) (by omega)
  refine w_b (fun h1 => ?_) (fun h1 => ?_)
  · exact ⟨Or.inl rfl, by rwa [bI_f (fun z => h1 (by omega))] at hQ⟩
  have e0 : iI (hgh S p) - 1 = iI (hgh S p - 1) := by simp only [iI_lit, iI_nat, iI_add, iI_sub, iI_mul, iI_neg]; rfl
  refine c_M_in (b - S (26 + 9 * p + 1)) 0 (hgh S p - 1) ?_ e2 rfl e0 (by omega) (by omega) (by omega)
  refine w_b (fun h2 => ?_) (fun h2 => ?_)
  · exact ⟨Or.inl rfl, by rwa [bI_f (fun z => h2 (by omega))] at hQ⟩
  obtain ⟨dx, hdx⟩ : ∃ dx : Nat, a - S (26 + 9 * p) = dx := ⟨(a - S (26 + 9 * p)).toNat, by omega⟩
  obtain ⟨dy, hdy⟩ : ∃ dy : Nat, b - S (26 + 9 * p + 1) = dy := ⟨(b - S (26 + 9 * p + 1)).toNat, by omega⟩
  have hdy2 : dy < hghN S p := by have := hghN_i S p; omega
  have hi : (setp S p a b) ↔ pix S p dx dy = true := by
    unfold setp
    rw [hdx, hdy]
    simp only [Int.toNat_natCast]
    exact ⟨fun z => z.2.2, fun z => ⟨by omega, by omega, z⟩⟩
  rw [bI_iff hi] at hQ
  rw [hdx] at e1
  rw [hdy] at e2
  refine c_M_of hS p 5 ?_ hx rfl hp (by omega)
  have hcc : pxC S p dx < 8 := by unfold pxC; split <;> omega
  have hrr := pxR_b S p dy hdy2
  have tail : ∀ (c r : Int32), c = iI (pxC S p dx) → r = iI (pxR S p dy) → ∀ L4 L5 L6 L7 : Option Value, SR y_M_isSet 103 [some (.ref 90), some (.int x), some (.int y), some (.int z), L4, L5, L6, L7, some (.int c), some (.int r), none] [] h Q := by
    intro c r hc hr L4 L5 L6 L7
    refine w_loop IS_ok [] ok_M_isSet ?_
    refine c_M_of hS p 3 ?_ hx rfl hp (by omega)
    refine ⟨by decide, ?_⟩
    refine ⟨by decide, ?_⟩
    have hsh : S (26 + 9 * p + 3) = ((S (26 + 9 * p + 3)).toNat : Int) := by omega
    have e3 : iI (S (26 + 9 * p + 3)) + r / 8 = iI (((S (26 + 9 * p + 3)).toNat + pxR S p dy / 8 : Nat) : Int) := by
      rw [div8 hr (by omega), iI_add]
      congr 1
      omega
    have e4 := rem8 e3 (by omega)
    generalize hpic : ((S (26 + 9 * p + 3)).toNat + pxR S p dy / 8) % 8 = pic at e4
    have hpic2 : pic < 8 := by omega
    have hpc := hW.pic (i := 8 * pic + pxR S p dy % 8) (by omega)
    refine ⟨by decide, ?_⟩
    refine w_ix (206 + 8 * pic + pxR S p dy % 8) ?_ ?_ (show 206 + 8 * pic + pxR S p dy % 8 < 270 by omega)
    · have e5 : h.2 91 (206 + 8 * pic + pxR S p dy % 8) = nI (pxD S p dy) := by
        rw [hS]
        unfold pxD
        rw [hpic, iI_nat]
        congr 1
        rw [Nat.add_assoc] 
        omega
      have hD : pxD S p dy < 256 := by
        unfold pxD
        rw [hpic, Nat.add_assoc]
        omega
      have key := sh128 (pxD S p dy) hD (pxC S p dx) hcc
      have e6 : (h.2 91 (206 + 8 * pic + pxR S p dy % 8) <<< (c &&& 31)) &&& 128 = (nI (pxD S p dy) <<< (nI (pxC S p dx) &&& 31)) &&& 128 := by rw [e5, hc]; rfl
      refine w_if (fun h3 => ?_) (fun h3 => ?_)
      · refine ⟨Or.inl rfl, ?_⟩
        rw [bI_f (fun z => by
          have := key.mp (e6 ▸ h3)
          unfold pix at z
          rw [this] at z
          cases z)] at hQ
        exact hQ
      · refine ⟨Or.inr rfl, ?_⟩
        rw [bI_t (by
          cases hb : pix S p dx dy with
          | true => rfl
          | false => exact absurd (e6 ▸ key.mpr hb) h3)] at hQ
        exact hQ
    · rw [e4, rem8 hr (by omega)]
      simp only [iI_lit, iI_nat, iI_add, iI_sub, iI_mul, iI_neg]
      congr 1
  refine w_eq (S (26 + 9 * p + 5) % 2) 1 (fun h3 => ?_) (fun h3 => ?_) (and_f1 w5)
  · have hc : (7 : Int32) - (y - iI (S (26 + 9 * p + 0))) = iI (pxC S p dx) := by
      rw [e1]
      unfold pxC
      rw [if_pos h3]
      exact (iI_sub 7 dx).trans (congrArg iI (by omega))
    refine w_eq (2 * (S (26 + 9 * p + 5) / 2)) 2 (fun h4 => ?_) (fun h4 => ?_) (and_f2 w5)
    · have hr : iI (hgh S p) - 1 - (z - iI (S (26 + 9 * p + 1))) = iI (pxR S p dy) := by
        rw [e2]
        unfold pxR
        rw [if_pos (by omega)]
        simp only [iI_lit, iI_sub]
        congr 1
        have := hghN_i S p
        omega
      exact tail _ _ hc hr _ _ _ _
    · have hr : z - iI (S (26 + 9 * p + 1)) = iI (pxR S p dy) := by
        rw [e2]
        unfold pxR
        rw [if_neg (by omega)]
      exact tail _ _ hc hr _ _ _ _
  · have hc : y - iI (S (26 + 9 * p + 0)) = iI (pxC S p dx) := by
      rw [e1]
      unfold pxC
      rw [if_neg h3]
    refine w_eq (2 * (S (26 + 9 * p + 5) / 2)) 2 (fun h4 => ?_) (fun h4 => ?_) (and_f2 w5)
    · have hr : iI (hgh S p) - 1 - (z - iI (S (26 + 9 * p + 1))) = iI (pxR S p dy) := by
        rw [e2]
        unfold pxR
        rw [if_pos (by omega)]
        simp only [iI_lit, iI_sub]
        congr 1
        have := hghN_i S p
        omega
      exact tail _ _ hc hr _ _ _ _
    · have hr : z - iI (S (26 + 9 * p + 1)) = iI (pxR S p dy) := by
        rw [e2]
        unfold pxR
        rw [if_neg (by omega)]
      exact tail _ _ hc hr _ _ _ _
