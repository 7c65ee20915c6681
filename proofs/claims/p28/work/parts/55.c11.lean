/-! longs by natural numbers; how many bits a long has -/
def l6 (n : Nat) : Int64 := Int64.ofNat n
theorem l6_inj {a b : Int64} (h : a.toBitVec = b.toBitVec) : a = b := Int64.toBitVec_inj.mp h
theorem l6_tb (n : Nat) : (l6 n).toBitVec = BitVec.ofNat 64 n := rfl
theorem l6_and (a b : Nat) : l6 a &&& l6 b = l6 (a &&& b) := by
  refine l6_inj (BitVec.eq_of_getLsbD_eq fun i hi => ?_)
  rw [Int64.toBitVec_and, BitVec.getLsbD_and, l6_tb, l6_tb, l6_tb, BitVec.getLsbD_ofNat, BitVec.getLsbD_ofNat, BitVec.getLsbD_ofNat, Nat.testBit_and]
  simp [hi]
theorem l6_or (a b : Nat) : l6 a ||| l6 b = l6 (a ||| b) := by
  refine l6_inj (BitVec.eq_of_getLsbD_eq fun i hi => ?_)
  rw [Int64.toBitVec_or, BitVec.getLsbD_or, l6_tb, l6_tb, l6_tb, BitVec.getLsbD_ofNat, BitVec.getLsbD_ofNat, BitVec.getLsbD_ofNat, Nat.testBit_or]
  simp [hi]
theorem l6_add (a b : Nat) : l6 a + l6 b = l6 (a + b) := (Int64.ofNat_add a b).symm
theorem l6_sub {a b : Nat} (h : b ≤ a) : l6 a - l6 b = l6 (a - b) := (Int64.ofNat_sub a b h).symm
theorem l6_k : ∀ k, k < 64 → ((iI (k : Nat)).toInt64 &&& 63) = l6 k := by decide +kernel
theorem l6_ku : ∀ k, k < 64 → ((iI (k : Nat)).toInt64.toUInt64 &&& Int64.toUInt64 63) = UInt64.ofNat k := by decide +kernel
theorem l6_ks : ∀ k, k < 64 → ((BitVec.ofNat 64 k).smod 64).toNat = k := by decide +kernel
theorem l6_shl (n : Nat) {k : Nat} (hk : k < 64) : l6 n <<< ((iI (k : Nat)).toInt64 &&& 63) = l6 (n * 2 ^ k) := by
  rw [l6_k k hk]
  refine l6_inj (BitVec.eq_of_toNat_eq ?_)
  rw [Int64.toBitVec_shiftLeft, l6_tb, l6_tb, l6_tb, BitVec.shiftLeft_eq', BitVec.toNat_shiftLeft]
  have := l6_ks k hk
  rw [show ((BitVec.ofNat 64 k).smod 64).toNat = k from this, Nat.shiftLeft_eq, BitVec.toNat_ofNat, BitVec.toNat_ofNat, Nat.mod_mul_mod]
theorem l6_shr {n k : Nat} (hn : n < 2 ^ 64) (hk : k < 64) : ((l6 n).toUInt64 >>> ((iI (k : Nat)).toInt64.toUInt64 &&& Int64.toUInt64 63)).toInt64 = l6 (n / 2 ^ k) := by
  rw [l6_ku k hk]
  refine l6_inj (BitVec.eq_of_toNat_eq ?_)
  show ((l6 n).toUInt64 >>> UInt64.ofNat k).toNat = (BitVec.ofNat 64 (n / 2 ^ k)).toNat
  have h1 : (UInt64.ofNat k).toNat = k := by
    show (BitVec.ofNat 64 k).toNat = k
    rw [BitVec.toNat_ofNat, Nat.mod_eq_of_lt (by omega)]
  have h2 : (l6 n).toUInt64.toNat = n := by
    show (BitVec.ofNat 64 n).toNat = n
    rw [BitVec.toNat_ofNat, Nat.mod_eq_of_lt hn]
  rw [UInt64.toNat_shiftRight, h1, h2, Nat.mod_eq_of_lt hk, Nat.shiftRight_eq_div_pow, BitVec.toNat_ofNat, Nat.mod_eq_of_lt (Nat.lt_of_le_of_lt (Nat.div_le_self _ _) hn)]
theorem l6_32 (r : Nat) : (l6 r).toInt32 &&& 127 = iI (r % 128 : Nat) := by
  have e : (l6 r).toInt32.toBitVec.toNat = r % 2 ^ 32 := by
    show ((BitVec.ofNat 64 r).signExtend 32).toNat = _
    rw [BitVec.signExtend_eq_setWidth_of_le _ (by decide), BitVec.toNat_setWidth, BitVec.toNat_ofNat, Nat.mod_mod_of_dvd _ (by decide)]
  have := pk_and (l6 r).toInt32 (m := 127) 7 (by decide)
  rw [this, e]
  show nI (r % 2 ^ 32 % 128) = nI (r % 128)
  rw [Nat.mod_mod_of_dvd _ (show 128 ∣ 2 ^ 32 by decide)]
/-- a mask and a shift, byte by byte -/
theorem and_by {hi lo M m s : Nat} (hl : lo < 256) (hs : s ≤ 8) (hm : m < 2 ^ (8 - s)) : (hi * 256 + lo) / 2 ^ s &&& (M * 256 + m) = (hi / 2 ^ s &&& M) * 256 + (lo / 2 ^ s &&& m) := by
  have e2 : m < 2 ^ 8 := Nat.lt_of_lt_of_le hm (Nat.pow_le_pow_right (by decide) (by omega))
  refine Nat.eq_of_testBit_eq fun i => ?_
  have h1 := fun a j => Nat.testBit_two_pow_mul_add a (b := lo) (i := 8) hl j
  have h2 := fun a j => Nat.testBit_two_pow_mul_add a (b := m) (i := 8) e2 j
  have h3 : (lo / 2 ^ s &&& m) < 2 ^ 8 := Nat.lt_of_le_of_lt Nat.and_le_right e2
  have h4 := fun a j => Nat.testBit_two_pow_mul_add a (b := lo / 2 ^ s &&& m) (i := 8) h3 j
  rw [show hi * 256 = 2 ^ 8 * hi by omega, show M * 256 = 2 ^ 8 * M by omega, show (hi / 2 ^ s &&& M) * 256 = 2 ^ 8 * (hi / 2 ^ s &&& M) by omega]
  rw [Nat.testBit_and, Nat.testBit_div_two_pow, h1, h2, h4]
  by_cases z : i < 8
  · rw [if_pos z, if_pos z, Nat.testBit_and, Nat.testBit_div_two_pow]
    by_cases z2 : i + s < 8
    · rw [if_pos z2]
    · rw [if_neg z2]
      have : m.testBit i = false := Nat.testBit_lt_two_pow (Nat.lt_of_lt_of_le hm (Nat.pow_le_pow_right (by decide) (by omega)))
      rw [this]
      simp
  · rw [if_neg (by omega), if_neg z, if_neg z, Nat.testBit_and, Nat.testBit_div_two_pow, show i + s - 8 = i - 8 + s by omega]
def c1 (M x : Nat) : Nat := x - (x / 2 &&& M)
def c2 (M x : Nat) : Nat := (x &&& M) + (x / 4 &&& M)
def c3 (M x : Nat) : Nat := x + x / 16 &&& M
theorem c1_by {hi lo M : Nat} (hl : lo < 256) : c1 (M * 256 + 85) (hi * 256 + lo) = c1 M hi * 256 + c1 85 lo := by
  have e := and_by (hi := hi) (lo := lo) (M := M) (m := 85) (s := 1) hl (by decide) (by decide)
  have l1 : hi / 2 &&& M ≤ hi := Nat.le_trans Nat.and_le_left (Nat.div_le_self _ _)
  have l2 : lo / 2 &&& 85 ≤ lo := Nat.le_trans Nat.and_le_left (Nat.div_le_self _ _)
  unfold c1
  rw [show (2 : Nat) = 2 ^ 1 from rfl, e]
  simp only [Nat.pow_one]
  omega
theorem c2_by {hi lo M : Nat} (hl : lo < 256) : c2 (M * 256 + 51) (hi * 256 + lo) = c2 M hi * 256 + c2 51 lo := by
  have e := and_by (hi := hi) (lo := lo) (M := M) (m := 51) (s := 2) hl (by decide) (by decide)
  have e0 := and_by (hi := hi) (lo := lo) (M := M) (m := 51) (s := 0) hl (by decide) (by decide)
  rw [Nat.pow_zero, Nat.div_one, Nat.div_one, Nat.div_one] at e0
  unfold c2
  rw [show (4 : Nat) = 2 ^ 2 from rfl, e, e0]
  omega
theorem c3_by {hi lo M : Nat} (hl : lo < 256) (h1 : lo % 16 ≤ 4) (h2 : lo / 16 ≤ 4) (h3 : hi % 16 ≤ 4) : c3 (M * 256 + 15) (hi * 256 + lo) = c3 M hi * 256 + (lo % 16 + lo / 16) := by
  have e0 := and_by (hi := hi + hi / 16) (lo := lo + lo / 16 + hi % 16 * 16) (M := M) (m := 15) (s := 0) (by omega) (by decide) (by decide)
  rw [Nat.pow_zero, Nat.div_one, Nat.div_one, Nat.div_one] at e0
  unfold c3
  rw [show hi * 256 + lo + (hi * 256 + lo) / 16 = (hi + hi / 16) * 256 + (lo + lo / 16 + hi % 16 * 16) by omega, e0, show (lo + lo / 16 + hi % 16 * 16) &&& 15 = (lo + lo / 16 + hi % 16 * 16) % 16 from Nat.and_two_pow_sub_one_eq_mod _ 4]
  omega
def pc8 (b : Nat) : Nat := sm (fun i => if b.testBit i then 1 else 0) 8
theorem pc_b : ∀ b, b < 256 → (c2 51 (c1 85 b)) < 256 ∧ (c2 51 (c1 85 b)) % 16 ≤ 4 ∧ (c2 51 (c1 85 b)) / 16 ≤ 4 ∧ (c2 51 (c1 85 b)) % 16 + (c2 51 (c1 85 b)) / 16 = pc8 b ∧ c1 85 b < 256 := by decide +kernel
/-- the masks of k bytes; what k bytes count -/
def mk (m : Nat) : Nat → Nat
  | 0 => 0
  | k + 1 => mk m k * 256 + m
def pcs : Nat → Nat → Nat
  | 0, _ => 0
  | k + 1, x => pcs k (x / 256) * 256 + pc8 (x % 256)
theorem c123 : ∀ (k x : Nat), x < 256 ^ k → c3 (mk 15 k) (c2 (mk 51 k) (c1 (mk 85 k) x)) = pcs k x ∧ c2 (mk 51 k) (c1 (mk 85 k) x) % 16 ≤ 4
  | 0, x, h => by
    have : x = 0 := by omega
    subst this
    exact ⟨rfl, by decide⟩
  | k + 1, x, h => by
    have hk : x / 256 < 256 ^ k := by
      rw [Nat.pow_succ] at h
      exact Nat.div_lt_of_lt_mul (by rw [Nat.mul_comm]; exact h)
    obtain ⟨ih, ih2⟩ := c123 k (x / 256) hk
    obtain ⟨b1, b2, b3, b4, b5⟩ := pc_b (x % 256) (Nat.mod_lt _ (by decide))
    have ex : x = x / 256 * 256 + x % 256 := by omega
    have e1 : c1 (mk 85 (k + 1)) x = c1 (mk 85 k) (x / 256) * 256 + c1 85 (x % 256) := by
      conv => lhs; rw [ex]
      exact c1_by (Nat.mod_lt _ (by decide))
    have e2 : c2 (mk 51 (k + 1)) (c1 (mk 85 (k + 1)) x) = c2 (mk 51 k) (c1 (mk 85 k) (x / 256)) * 256 + c2 51 (c1 85 (x % 256)) := by
      rw [e1]
      exact c2_by b5
    refine ⟨?_, by rw [e2]; omega⟩
    rw [e2]
    show c3 (mk 15 k * 256 + 15) _ = _
    rw [c3_by b1 b2 b3 ih2, ih, b4]
    rfl
theorem sm_cat (f : Nat → Nat) (a : Nat) : ∀ b, sm f (a + b) = sm f a + sm (fun i => f (a + i)) b
  | 0 => rfl
  | b + 1 => by
    show sm f (a + b) + f (a + b) = sm f a + (sm (fun i => f (a + i)) b + f (a + b))
    rw [sm_cat f a b]
    omega
theorem pc8_le (b : Nat) : pc8 b ≤ 8 := sm_le (b := 1) (fun i _ => by split <;> omega)
theorem pc8_hi {x k : Nat} : sm (fun i => if x.testBit i then 1 else 0) (8 + k) = pc8 (x % 256) + sm (fun i => if (x / 256).testBit i then 1 else 0) k := by
  rw [sm_cat]
  congr 1
  · refine sm_congr (fun i hi => ?_)
    rw [show x % 256 = x % 2 ^ 8 from rfl, Nat.testBit_mod_two_pow]
    simp [hi]
  · refine sm_congr (fun i hi => ?_)
    rw [show x / 256 = x / 2 ^ 8 from rfl, Nat.testBit_div_two_pow, Nat.add_comm 8 i]
/-- how many bits are set -/
def bts (x : Nat) : Nat := sm (fun i => if x.testBit i then 1 else 0) 64
theorem pcs_8 (x : Nat) : ∃ a b c d e f g h : Nat, a ≤ 8 ∧ b ≤ 8 ∧ c ≤ 8 ∧ d ≤ 8 ∧ e ≤ 8 ∧ f ≤ 8 ∧ g ≤ 8 ∧ h ≤ 8 ∧ pcs 8 x = ((((((h * 256 + g) * 256 + f) * 256 + e) * 256 + d) * 256 + c) * 256 + b) * 256 + a ∧ bts x = a + b + c + d + e + f + g + h := by
  refine ⟨_, _, _, _, _, _, _, _, pc8_le (x % 256), pc8_le (x / 256 % 256), pc8_le (x / 256 / 256 % 256), pc8_le (x / 256 / 256 / 256 % 256), pc8_le (x / 256 / 256 / 256 / 256 % 256), pc8_le (x / 256 / 256 / 256 / 256 / 256 % 256), pc8_le (x / 256 / 256 / 256 / 256 / 256 / 256 % 256), pc8_le (x / 256 / 256 / 256 / 256 / 256 / 256 / 256 % 256), ?_, ?_⟩
  · simp only [pcs]
    omega
  · unfold bts
    rw [show 64 = 8 + (8 + (8 + (8 + (8 + (8 + (8 + (8 + 0))))))) from rfl, pc8_hi, pc8_hi, pc8_hi, pc8_hi, pc8_hi, pc8_hi, pc8_hi, pc8_hi]
    show _ + (_ + (_ + (_ + (_ + (_ + (_ + (_ + 0))))))) = _
    omega
theorem dv {a B : Nat} (m : Nat) (h : a < B) : (a + B * m) / B = m := by rw [Nat.add_mul_div_left _ _ (by omega), Nat.div_eq_of_lt h, Nat.zero_add]
theorem md {D E W M : Nat} (h : D + E < 128) : (D + 256 * W + (E + 256 * M)) % 128 = D + E := by omega
theorem bts_r {x y : Nat} (h : y = pcs 8 x) : (y + y / 2 ^ 8 + (y + y / 2 ^ 8) / 2 ^ 16 + (y + y / 2 ^ 8 + (y + y / 2 ^ 8) / 2 ^ 16) / 2 ^ 32) % 128 = bts x ∧ y + y / 2 ^ 8 + (y + y / 2 ^ 8) / 2 ^ 16 < 2 ^ 64 ∧ y + y / 2 ^ 8 < 2 ^ 64 ∧ y < 2 ^ 63 := by
  obtain ⟨a, b, c, d, e, f, g, k, h1, h2, h3, h4, h5, h6, h7, h8, h9, h10⟩ := pcs_8 x
  have hy : y = a + 256 * (b + 256 * (c + 256 * (d + 256 * (e + 256 * (f + 256 * (g + 256 * k)))))) := by
    rw [h, h9]
    clear h1 h2 h3 h4 h5 h6 h7 h8 h9 h10 h
    omega
  rw [h10]
  clear h10 h9 h
  have e1 : y / 2 ^ 8 = b + 256 * (c + 256 * (d + 256 * (e + 256 * (f + 256 * (g + 256 * k))))) := by rw [hy]; exact dv _ (by omega)
  have e2 : y + y / 2 ^ 8 = (a + b) + 256 * ((b + c) + 256 * ((c + d) + 256 * ((d + e) + 256 * ((e + f) + 256 * ((f + g) + 256 * ((g + k) + 256 * k)))))) := by
    rw [e1, hy]
    clear h1 h2 h3 h4 h5 h6 h7 h8 e1 hy
    omega
  have hy63 : y < 2 ^ 63 := by rw [show (2 : Nat) ^ 63 = 9223372036854775808 from rfl]; clear e1 e2; omega
  clear e1 hy
  generalize y + y / 2 ^ 8 = z at *
  have e3 : z / 2 ^ 16 = (c + d) + 256 * ((d + e) + 256 * ((e + f) + 256 * ((f + g) + 256 * ((g + k) + 256 * k)))) := by
    have : z = ((a + b) + 256 * (b + c)) + 2 ^ 16 * ((c + d) + 256 * ((d + e) + 256 * ((e + f) + 256 * ((f + g) + 256 * ((g + k) + 256 * k))))) := by
      rw [e2, show (2 : Nat) ^ 16 = 65536 from rfl]
      clear h1 h2 h3 h4 h5 h6 h7 h8 e2 hy63
      omega
    rw [this]
    exact dv _ (by omega)
  have e4 : z + z / 2 ^ 16 = (a + b + c + d) + 256 * ((b + c + d + e) + 256 * ((c + d + e + f) + 256 * ((d + e + f + g) + 256 * ((e + f + g + k) + 256 * ((f + g + k) + 256 * ((g + k) + 256 * k)))))) := by
    rw [e3, e2]
    clear h1 h2 h3 h4 h5 h6 h7 h8 e2 e3 hy63
    omega
  have hz : z < 2 ^ 64 := by rw [show (2 : Nat) ^ 64 = 18446744073709551616 from rfl]; clear e3 e4 hy63; omega
  clear e3 e2
  generalize z + z / 2 ^ 16 = w at *
  have hw : w < 2 ^ 64 := by rw [show (2 : Nat) ^ 64 = 18446744073709551616 from rfl]; clear hz hy63; omega
  have e5 : w / 2 ^ 32 = (e + f + g + k) + 256 * ((f + g + k) + 256 * ((g + k) + 256 * k)) := by
    have : w = ((a + b + c + d) + 256 * ((b + c + d + e) + 256 * ((c + d + e + f) + 256 * (d + e + f + g)))) + 2 ^ 32 * ((e + f + g + k) + 256 * ((f + g + k) + 256 * ((g + k) + 256 * k))) := by
      rw [e4, show (2 : Nat) ^ 32 = 4294967296 from rfl]
      clear h1 h2 h3 h4 h5 h6 h7 h8 e4 hw hz hy63
      omega
    rw [this]
    exact dv _ (by clear this e4 hw hz hy63; omega)
  refine ⟨?_, hw, hz, hy63⟩
  rw [e5, e4, md (by clear e4 e5 hw hz hy63; omega)]
  omega
