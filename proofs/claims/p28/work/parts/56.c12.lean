/-! how many bits a long has: the method -/
theorem pf_97 : plainFor (mNm 97) = true := by decide +kernel
theorem mk_85 : mk 85 8 = 6148914691236517205 := by decide
theorem mk_51 : mk 51 8 = 3689348814741910323 := by decide
theorem mk_15 : mk 15 8 = 1085102592571150095 := by decide
theorem sr_l0 {y pc : Nat} {v w : Int64} {L : List (Option Value)} {st : List Value} {h : St} {Q : Option Value → St → Prop} (e : v = w) (k : SR y pc (some (.long w) :: L) st h Q) : SR y pc (some (.long v) :: L) st h Q := by subst e; exact k
theorem c_J_bitCount {v : Int64} {h : St} {Q : Option Value → St → Prop} (n : Nat) (hn : n < 2 ^ 64) (hQ : Q (some (.int (iI (bts n : Nat)))) h) (hv : v = l6 n) : SC y_J_bitCount [.long v] h Q := by
  refine w_callF IS_ok [10] ok_J_bitCount pf_97 rfl ?_
  subst hv
  have q1 : n / 2 &&& mk 85 8 ≤ n := Nat.le_trans Nat.and_le_left (Nat.div_le_self _ _)
  have s1 : l6 n - (((l6 n).toUInt64 >>> ((iI (1 : Nat)).toInt64.toUInt64 &&& Int64.toUInt64 63)).toInt64 &&& l6 6148914691236517205) = l6 (c1 (mk 85 8) n) := by
    rw [l6_shr hn (by decide), l6_and, ← mk_85]
    exact l6_sub q1
  have b1 : c1 (mk 85 8) n < 2 ^ 64 := Nat.lt_of_le_of_lt (Nat.sub_le _ _) hn
  refine sr_l0 s1 ?_
  have s2 : (l6 (c1 (mk 85 8) n) &&& l6 3689348814741910323) + (((l6 (c1 (mk 85 8) n)).toUInt64 >>> ((iI (2 : Nat)).toInt64.toUInt64 &&& Int64.toUInt64 63)).toInt64 &&& l6 3689348814741910323) = l6 (c2 (mk 51 8) (c1 (mk 85 8) n)) := by
    rw [l6_shr b1 (by decide), l6_and, l6_and, ← mk_51, l6_add]
    rfl
  have b2 : c2 (mk 51 8) (c1 (mk 85 8) n) < 2 ^ 64 := by
    have m1 : (c1 (mk 85 8) n &&& mk 51 8) ≤ mk 51 8 := Nat.and_le_right
    have m2 : (c1 (mk 85 8) n / 4 &&& mk 51 8) ≤ mk 51 8 := Nat.and_le_right
    unfold c2
    refine Nat.lt_of_le_of_lt (Nat.add_le_add m1 m2) ?_
    rw [mk_51]
    decide
  have e3 := (c123 8 n hn).1
  generalize c1 (mk 85 8) n = x1 at *
  refine w_loop IS_ok [24] ok_J_bitCount ?_
  refine sr_l0 s2 ?_
  generalize c2 (mk 51 8) x1 = x2 at *
  have s3 : (l6 x2 + ((l6 x2).toUInt64 >>> ((iI (4 : Nat)).toInt64.toUInt64 &&& Int64.toUInt64 63)).toInt64) &&& l6 1085102592571150095 = l6 (pcs 8 n) := by
    rw [l6_shr b2 (by decide), l6_add, l6_and, ← mk_15, ← e3]
    rfl
  refine w_loop IS_ok [34] ok_J_bitCount ?_
  refine sr_l0 s3 ?_
  obtain ⟨r1, r2, r3, r4⟩ := bts_r (x := n) rfl
  generalize pcs 8 n = y at *
  have s4 : l6 y + ((l6 y).toUInt64 >>> ((iI (8 : Nat)).toInt64.toUInt64 &&& Int64.toUInt64 63)).toInt64 = l6 (y + y / 2 ^ 8) := by
    rw [l6_shr (Nat.lt_trans r4 (by decide)) (by decide), l6_add]
  refine w_loop IS_ok [41] ok_J_bitCount ?_
  refine sr_l0 s4 ?_
  generalize y + y / 2 ^ 8 = z at *
  have s5 : l6 z + ((l6 z).toUInt64 >>> ((iI (16 : Nat)).toInt64.toUInt64 &&& Int64.toUInt64 63)).toInt64 = l6 (z + z / 2 ^ 16) := by
    rw [l6_shr r3 (by decide), l6_add]
  refine w_loop IS_ok [48] ok_J_bitCount ?_
  refine sr_l0 s5 ?_
  generalize z + z / 2 ^ 16 = w at *
  have s6 : l6 w + ((l6 w).toUInt64 >>> ((iI (32 : Nat)).toInt64.toUInt64 &&& Int64.toUInt64 63)).toInt64 = l6 (w + w / 2 ^ 32) := by
    rw [l6_shr r2 (by decide), l6_add]
  refine w_loop IS_ok [55] ok_J_bitCount ?_
  refine sr_l0 s6 ?_
  have s7 := l6_32 (w + w / 2 ^ 32)
  generalize w + w / 2 ^ 32 = u at *
  refine w_loop IS_ok [] ok_J_bitCount ?_
  rw [r1] at s7
  rw [← s7] at hQ
  exact hQ
