/-! the class: the dots of a puppet on a line -/
def rvn (d : Nat) : Nat → Nat
  | 0 => 0
  | k + 1 => rvn d k * 2 ||| (if d.testBit k then 1 else 0)
theorem rvn_b : ∀ d, d < 256 → ∀ k, k < 9 → rvn d k < 256 := by decide +kernel
theorem rvn_t : ∀ d, d < 256 → ∀ j, j < 8 → (rvn d 8).testBit j = d.testBit (7 - j) := by decide +kernel
theorem c_Scene_mirrored {x : Int32} {h : St} {Q : Option Value → St → Prop} (d : Nat) (hd : d < 256) (hQ : Q (some (.int (iI (rvn d 8 : Nat)))) h) (hx : x = iI (d : Nat)) : SC y_Scene_mirrored [.int x] h Q := by
  refine w_call IS_ok [4] ok_Scene_mirrored rfl rfl ?_
  have loop : ∀ (m k : Nat) (z1 z2 : Int32), 8 ≤ k + m → k ≤ 8 → z1 = iI (rvn d k : Nat) → z2 = iI k → SR y_Scene_mirrored 4 [some (.int x), some (.int z1), some (.int z2)] [] h Q := by
    intro m
    induction m with
    | zero =>
      intro k z1 z2 hm hk e1 e2
      have : k = 8 := by omega
      subst this
      refine w_loop IS_ok [4] ok_Scene_mirrored ?_
      exact w_le 8 8 (fun _ => by rw [e1]; exact hQ) (fun _ => by omega) rfl e2
    | succ m ih =>
      intro k z1 z2 hm hk e1 e2
      refine w_loop IS_ok [4] ok_Scene_mirrored ?_
      refine w_le 8 k (fun g => ?_) (fun g => ?_) rfl e2
      · have : k = 8 := by omega
        subst this
        rw [e1]; exact hQ
      · refine ih (k + 1) _ _ (by omega) (by omega) ?_ (iI_1 e2)
        show (z1 <<< ((1 : Int32) &&& 31)) ||| ((x >>> (z2 &&& 31)) &&& 1) = _
        have hb := rvn_b d hd k (by omega)
        rw [e1, e2, hx]
        have a1 : iI (rvn d k : Nat) <<< ((1 : Int32) &&& 31) = nI (rvn d k * 2) := shN (a := rvn d k) (c := 1) (by omega) (by omega)
        have a2 : (iI (d : Nat) >>> (iI (k : Nat) &&& 31)) &&& 1 = nI (if d.testBit k then 1 else 0) := by
          have := bit_at (w := d) (k := k) (by omega) (by omega)
          rw [iI_nat] at this
          rw [this]
          split <;> rfl
        rw [a1, a2, fa_or]
        rfl
  exact loop 8 0 _ _ (by omega) (by omega) rfl rfl
theorem l6_mod (n : Nat) : l6 n = l6 (n % 2 ^ 64) := l6_inj (by rw [l6_tb, l6_tb]; apply BitVec.eq_of_toNat_eq; rw [BitVec.toNat_ofNat, BitVec.toNat_ofNat, Nat.mod_mod])
theorem l6_i : ∀ d, d < 256 → (iI (d : Nat)).toInt64 = l6 d := by decide +kernel
def plc (d : Nat) (X : Int) : Nat := if X ≤ -8 then 0 else if X ≤ 56 then d * 2 ^ (56 - X).toNat % 2 ^ 64 else d / 2 ^ (X - 56).toNat
theorem plc_lt {d : Nat} (hd : d < 256) (X : Int) : plc d X < 2 ^ 64 := by
  unfold plc
  split
  · decide
  · split
    · exact Nat.mod_lt _ (by decide)
    · exact Nat.lt_of_le_of_lt (Nat.div_le_self _ _) (Nat.lt_trans hd (by decide))
theorem bit_8 {d i : Nat} (hd : d < 256) (hi : 8 ≤ i) : d.testBit i = false := Nat.testBit_lt_two_pow (Nat.lt_of_lt_of_le hd (show 256 ≤ 2 ^ i from Nat.pow_le_pow_right (n := 2) (i := 8) (by decide) hi))
theorem plc_bit {d : Nat} (hd : d < 256) {X : Int} (hX : -15 ≤ X ∧ X ≤ 63) {x : Nat} (hx : x < 64) : (plc d X).testBit (63 - x) = (decide (0 ≤ (x : Int) - X ∧ (x : Int) - X ≤ 7) && d.testBit (7 - ((x : Int) - X).toNat)) := by
  unfold plc
  by_cases z1 : X ≤ -8
  · rw [if_pos z1, decide_eq_false (by omega)]
    simp
  · rw [if_neg z1]
    by_cases z2 : X ≤ 56
    · rw [if_pos z2, Nat.testBit_mod_two_pow, decide_eq_true (show 63 - x < 64 by omega), Bool.true_and, Nat.testBit_mul_two_pow]
      by_cases z3 : (x : Int) - X ≤ 7
      · rw [decide_eq_true (show (56 - X).toNat ≤ 63 - x by omega), Bool.true_and]
        by_cases z4 : 0 ≤ (x : Int) - X
        · rw [decide_eq_true ⟨z4, z3⟩, Bool.true_and]
          congr 1
          omega
        · rw [decide_eq_false (fun y => z4 y.1), Bool.false_and]
          exact bit_8 hd (by omega)
      · rw [decide_eq_false (by omega), decide_eq_false (fun y => z3 y.2)]
        rfl
    · rw [if_neg z2, Nat.testBit_div_two_pow]
      by_cases z4 : 0 ≤ (x : Int) - X
      · rw [decide_eq_true ⟨z4, by omega⟩, Bool.true_and]
        congr 1
        omega
      · rw [decide_eq_false (fun y => z4 y.1), Bool.false_and]
        exact bit_8 hd (by omega)
theorem c_Scene_placed {x1 x2 : Int32} {h : St} {Q : Option Value → St → Prop} (d : Nat) (hd : d < 256) (X : Int) (hX : -15 ≤ X ∧ X ≤ 63) (hQ : Q (some (.long (l6 (plc d X)))) h) (h1 : x1 = iI (d : Nat)) (h2 : x2 = iI X) : SC y_Scene_placed [.int x1, .int x2] h Q := by
  refine w_call IS_ok [] ok_Scene_placed rfl rfl ?_
  have e : 56 - x2 = iI (56 - X) := by rw [h2]; exact iI_sub 56 X
  unfold plc at hQ
  refine w_lt (56 - X) 64 (fun g => ?_) (fun g => ?_) e rfl
  · rw [if_neg (by omega)] at hQ
    refine w_lt (56 - X) 0 (fun g2 => ?_) (fun g2 => ?_) e rfl
    · rw [if_neg (by omega)] at hQ
      have e3 : x1 >>> (-(56 - x2) &&& 31) = iI (d / 2 ^ (X - 56).toNat : Nat) := by
        rw [e, h1, show (-iI (56 - X)) = nI (X - 56).toNat from (iI_neg (56 - X)).trans (congrArg iI (show -(56 - X) = (((X - 56).toNat : Nat) : Int) by omega))]
        exact pk_shrN (n := d) (by omega) _ _ (s_l _ (by omega))
      have hlt : d / 2 ^ (X - 56).toNat < 256 := Nat.lt_of_le_of_lt (Nat.div_le_self _ _) hd
      rw [← l6_i _ hlt, ← e3] at hQ
      exact hQ
    · rw [if_pos (by omega), ← l6_mod] at hQ
      have e4 : 56 - x2 = iI ((56 - X).toNat : Nat) := e.trans (congrArg iI (by omega))
      have e3 : x1.toInt64 <<< ((56 - x2).toInt64 &&& 63) = l6 (d * 2 ^ (56 - X).toNat) := by
        rw [e4, h1, l6_i d hd]
        exact l6_shl d (by omega)
      rw [← e3] at hQ
      exact hQ
  · rw [if_pos (by omega)] at hQ
    exact hQ
set_option maxHeartbeats 1000000 in
theorem c_Scene_dotsOn {S : Nat → Int} {x1 x2 : Int32} {h : St} {Q : Option Value → St → Prop} (hC : CS 1 S h) (hW : WF S) (p l : Nat) (hp : p < 20) (hp0 : (p : Int) < S 0) (hl : l < 48) (hQ : ∀ D, D < 2 ^ 64 → (∀ x : Nat, x < 64 → (D.testBit (63 - x) = true ↔ setp S p x l)) → Q (some (.long (l6 D))) h) (h1 : x1 = iI p) (h2 : x2 = iI l) : SC y_Scene_dotsOn [.ref 1, .int x1, .int x2] h Q := by
  obtain ⟨wx, wy, wt, wg, wc, wf, -⟩ := hW.wp p hp
  have hh := hgh_b S p
  have hhN := hghN_i S p
  refine w_call IS_ok [64] ok_Scene_dotsOn rfl rfl ?_
  refine c_Cells_get2 CA_4 p 6 (by omega) ?_ h1 rfl
  refine c_Cells_get2 CA_4 p 1 (by omega) ?_ h1 rfl
  have eh : h.2 5 (p * 10 + 6) = iI (hgh S p) := hC.2.2.2.2.1 p hp hp0
  have ey : h.2 5 (p * 10 + 1) = iI (S (26 + 9 * p + 1)) := hC.2.2.2.1 p hp 1 (by omega)
  have er : x2 - h.2 5 (p * 10 + 1) = iI ((l : Int) - S (26 + 9 * p + 1)) := by rw [h2, ey]; exact iI_sub _ _
  refine c_P_within ((l : Int) - S (26 + 9 * p + 1)) 0 (hgh S p - 1) ?_ er rfl (by rw [eh]; exact iI_sub _ 1)
  refine w_b (fun g => ?_) (fun g => ?_)
  · refine hQ 0 (by decide) (fun x hx => ?_)
    rw [Nat.zero_testBit]
    exact ⟨fun z => (by cases z), fun z => absurd z.2.1 g⟩
  refine c_Cells_get2 CA_4 p 5 (by omega) ?_ h1 rfl
  have ef : h.2 5 (p * 10 + 5) = iI (S (26 + 9 * p + 5)) := hC.2.2.2.1 p hp 5 (by omega)
  generalize hdy : ((l : Int) - S (26 + 9 * p + 1)).toNat = dy at *
  have hdy2 : (l : Int) - S (26 + 9 * p + 1) = dy := by omega
  have hpr := pxR_b S p dy (by omega)
  have at64 : ∀ z4 : Int32, z4 = iI (pxR S p dy : Nat) → SR y_Scene_dotsOn 64 [some (.ref 1), some (.int x1), some (.int x2), some (.int (h.2 5 (p * 10 + 6))), some (.int z4), some (.int (h.2 5 (p * 10 + 5))), none, none] [] h Q := by
    intro z4 e4
    refine w_loop IS_ok [114] ok_Scene_dotsOn ?_
    refine c_Cells_get2 CA_4 p 3 (by omega) ?_ h1 rfl
    have eg : h.2 5 (p * 10 + 3) = iI ((S (26 + 9 * p + 3)).toNat : Nat) := (hC.2.2.2.1 p hp 3 (by omega)).trans (congrArg iI (by omega))
    refine ⟨by decide, ?_⟩
    refine ⟨by decide, ?_⟩
    refine ⟨by decide, ?_⟩
    have e8 := div8 e4 (by omega)
    have esum : h.2 5 (p * 10 + 3) + z4 / 8 = iI (((S (26 + 9 * p + 3)).toNat + pxR S p dy / 8 : Nat) : Int) := by rw [e8, eg]; exact iI_add _ _
    have epi := rem8 esum (by omega)
    have erm := rem8 e4 (by omega)
    generalize hpi : ((S (26 + 9 * p + 3)).toNat + pxR S p dy / 8) % 8 = pi at *
    have hpi8 : pi < 8 := by rw [← hpi]; exact Nat.mod_lt _ (by decide)
    refine c_Cells_get2 CA_2 pi (pxR S p dy % 8) (by omega) ?_ epi erm
    have hpic := hW.pic (i := pi * 8 + pxR S p dy % 8) (by omega)
    have hpd : (pxD S p dy : Int) = S (206 + (pi * 8 + pxR S p dy % 8)) := by
      unfold pxD
      rw [hpi, show 206 + 8 * pi + pxR S p dy % 8 = 206 + (pi * 8 + pxR S p dy % 8) by omega]
      omega
    have ed : h.2 3 (pi * 8 + pxR S p dy % 8) = iI (pxD S p dy : Nat) := by rw [hpd]; exact hC.2.1 _ (by omega)
    have hd : pxD S p dy < 256 := by omega
    have at114 : ∀ (z7 : Int32) (L6 : Option Value) (d : Nat), d < 256 → (∀ j, j < 8 → d.testBit j = (pxD S p dy).testBit (if S (26 + 9 * p + 5) % 2 = 1 then 7 - j else j)) → z7 = iI (d : Nat) → SR y_Scene_dotsOn 114 [some (.ref 1), some (.int x1), some (.int x2), some (.int (h.2 5 (p * 10 + 6))), some (.int z4), some (.int (h.2 5 (p * 10 + 5))), L6, some (.int z7)] [] h Q := by
      intro z7 L6 d hd8 hb e7
      refine w_loop IS_ok [] ok_Scene_dotsOn ?_
      refine c_Cells_get2 CA_4 p 0 (by omega) ?_ h1 rfl
      refine c_Scene_placed d hd8 (S (26 + 9 * p)) wx (hQ _ (plc_lt hd8 _) (fun x hx => ?_)) e7 (hC.2.2.2.1 p hp 0 (by omega))
      rw [plc_bit hd8 wx hx]
      unfold setp pix
      rw [hdy, hdy2]
      by_cases z : 0 ≤ (x : Int) - S (26 + 9 * p) ∧ (x : Int) - S (26 + 9 * p) ≤ 7
      · rw [decide_eq_true z, Bool.true_and, hb _ (by omega)]
        unfold pxC
        by_cases z2 : S (26 + 9 * p + 5) % 2 = 1
        · rw [if_pos z2, if_pos z2]
          exact ⟨fun y => ⟨z, by omega, y⟩, fun y => y.2.2⟩
        · rw [if_neg z2, if_neg z2]
          exact ⟨fun y => ⟨z, by omega, y⟩, fun y => y.2.2⟩
      · rw [decide_eq_false z, Bool.false_and]
        exact ⟨fun y => (by cases y), fun y => absurd y.1 z⟩
    have e1 : h.2 5 (p * 10 + 5) &&& 1 = iI (S (26 + 9 * p + 5) % 2) := by rw [ef]; exact and_f1 wf
    refine w_eq (S (26 + 9 * p + 5) % 2) 0 (fun g2 => ?_) (fun g2 => ?_) e1 rfl
    · refine at114 _ _ (pxD S p dy) hd (fun j hj => by rw [if_neg (by omega)]) ed
    · refine c_Scene_mirrored (pxD S p dy) hd ?_ ed
      exact at114 _ _ (rvn (pxD S p dy) 8) (rvn_b _ hd 8 (by decide)) (fun j hj => by rw [rvn_t _ hd j hj, if_pos (by omega)]) rfl
  have e2 : h.2 5 (p * 10 + 5) &&& 2 = iI (2 * (S (26 + 9 * p + 5) / 2)) := by rw [ef]; exact and_f2 wf
  refine w_eq (2 * (S (26 + 9 * p + 5) / 2)) 0 (fun g2 => ?_) (fun g2 => ?_) e2 rfl
  · refine at64 _ ?_
    rw [er, hdy2]
    unfold pxR
    rw [if_neg (by omega)]
  · refine at64 _ ?_
    unfold pxR
    rw [if_pos (by omega), er, eh, hdy2]
    exact (congrArg (· - iI (dy : Int)) (iI_sub _ 1)).trans ((iI_sub _ _).trans (congrArg iI (by omega)))
