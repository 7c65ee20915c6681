/-! the class: what is shown on a line -/
theorem lg0 (n : Nat) : lg_cmp (l6 n) (Int64.ofNat 0) = 0 ↔ n % 2 ^ 64 = 0 := by
  have e : l6 n = Int64.ofNat 0 ↔ n % 2 ^ 64 = 0 := by
    constructor
    · intro h
      have h2 := congrArg (fun x : Int64 => x.toBitVec.toNat) h
      have h3 : (BitVec.ofNat 64 n).toNat = (BitVec.ofNat 64 0).toNat := h2
      rw [BitVec.toNat_ofNat, BitVec.toNat_ofNat] at h3
      exact h3
    · intro h
      rw [l6_mod, h]
      rfl
  rw [← e]
  unfold lg_cmp
  constructor
  · intro h
    split at h
    · exact absurd h (by decide)
    · split at h
      · assumption
      · exact absurd h (by decide)
  · intro h
    rw [if_neg (show ¬ Int64.ofNat 0 < l6 n by rw [h]; exact fun z => Int64.lt_irrefl z), if_pos h]
theorem and_pw (D k : Nat) : D &&& 2 ^ k = 0 ↔ D.testBit k = false := by
  constructor
  · intro h
    have := congrArg (fun n : Nat => n.testBit k) h
    simpa [Nat.testBit_and, Nat.testBit_two_pow] using this
  · intro h
    refine Nat.eq_of_testBit_eq fun i => ?_
    rw [Nat.testBit_and, Nat.testBit_two_pow, Nat.zero_testBit]
    by_cases z : k = i
    · subst z; rw [h]; rfl
    · rw [decide_eq_false z, Bool.and_false]
theorem lbit {D k : Nat} (hk : k < 64) : lg_cmp (l6 D &&& l6 (2 ^ k)) (Int64.ofNat 0) = 0 ↔ D.testBit k = false := by
  have hlt : D &&& 2 ^ k < 2 ^ 64 := Nat.lt_of_le_of_lt Nat.and_le_right (Nat.pow_lt_pow_right (by decide) hk)
  rw [l6_and, lg0, Nat.mod_eq_of_lt hlt]
  exact and_pw D k
theorem c_Sight_bitOf {x : Int32} {h : St} {Q : Option Value → St → Prop} (a : Nat) (ha : a < 64) (hQ : Q (some (.long (l6 (2 ^ (63 - a))))) h) (hx : x = iI (a : Nat)) : SC y_Sight_bitOf [.int x] h Q := by
  refine w_call IS_ok [] ok_Sight_bitOf rfl rfl ?_
  have e : 63 - x = iI ((63 - a : Nat) : Int) := by rw [hx]; exact (iI_sub 63 a).trans (congrArg iI (by omega))
  have e2 : Int64.ofNat 1 <<< ((63 - x).toInt64 &&& 63) = l6 (2 ^ (63 - a)) := by
    rw [e]
    exact (l6_shl 1 (by omega)).trans (congrArg l6 (Nat.one_mul _))
  rw [← e2] at hQ
  exact hQ
/-- the puppets that are shown on the line y, z of them -/
def Shn (S : Nat → Int) (y z : Nat) (kk : Nat → Nat) (h : St) : Prop := h.1 20 1 = iI (z : Nat) ∧ z ≤ 8 ∧ (∀ i, i < z → kk i < (S 1).toNat ∧ vis S y (kk i) ∧ cn S (od S) y (kk i) = i ∧ h.2 22 i = iI (od S (kk i) : Nat)) ∧ (∀ k, k < (S 1).toNat → vis S y k → cn S (od S) y k < z) ∧ (z : Int) = if (cn S (od S) y (S 1).toNat : Int) < S 2 then (cn S (od S) y (S 1).toNat : Int) else S 2
theorem Shn.of {S : Nat → Int} {y z : Nat} {kk : Nat → Nat} {h : St} (s : Shn S y z kk h) {k : Nat} (hk : k < (S 1).toNat) (hv : vis S y k) : cn S (od S) y k < z ∧ kk (cn S (od S) y k) = k := by
  have h1 := s.2.2.2.1 k hk hv
  have h2 := s.2.2.1 _ h1
  exact ⟨h1, cn_inj h2.2.1.1 hv.1 h2.2.2.1⟩
set_option maxHeartbeats 1000000 in
theorem c_Sight_look {S : Nat → Int} {x : Int32} {h : St} {Q : Option Value → St → Prop} (hC : CS 1 S h) (hW : WF S) (y : Nat) (hy : y < 48) (hQ : ∀ h' z kk, Sm [(20, 1)] [22] h h' → Shn S y z kk h' → Q none h') (hx : x = iI (y : Nat)) : SC y_Sight_look [.ref 20, .ref 1, .int x] h Q := by
  refine w_call IS_ok [7] ok_Sight_look rfl rfl ?_
  have hn := hW.n
  have hlim := hW.lim
  have fin : ∀ (hc : St) (k c : Nat) (kk : Nat → Nat), k ≤ (S 1).toNat → Sm [(20, 1)] [22] h hc → hc.1 20 1 = iI (c : Nat) → c = cn S (od S) y k → (c : Int) ≤ S 2 → (k = (S 1).toNat ∨ (c : Int) = S 2) → (∀ i, i < c → kk i < k ∧ vis S y (kk i) ∧ cn S (od S) y (kk i) = i ∧ hc.2 22 i = iI (od S (kk i) : Nat)) → Q none hc := by
    intro hc k c kk hk hs h1 h2 h3 h4 h5
    have hmo := cn_mono (S := S) (o := od S) (y := y) hk
    refine hQ hc c kk hs ⟨h1, by omega, fun i hi => ⟨by have := (h5 i hi).1; omega, (h5 i hi).2⟩, fun j hj hv => ?_, ?_⟩
    · rcases h4 with rfl | h4
      · rw [h2]; exact cn_lt hj hv.1
      · have := hv.2; omega
    · rcases h4 with rfl | h4
      · rw [h2]
        split <;> omega
      · rw [if_neg (by omega)]
        exact h4
  have loop : ∀ (m k c : Nat) (kk : Nat → Nat) (hc : St) (z : Int32) (L4 : Option Value), (S 1).toNat ≤ k + m → k ≤ (S 1).toNat → Sm [(20, 1)] [22] h hc → hc.1 20 1 = iI (c : Nat) → c = cn S (od S) y k → (c : Int) ≤ S 2 → (∀ i, i < c → kk i < k ∧ vis S y (kk i) ∧ cn S (od S) y (kk i) = i ∧ hc.2 22 i = iI (od S (kk i) : Nat)) → z = iI k → SR y_Sight_look 7 [some (.ref 20), some (.ref 1), some (.int x), some (.int z), L4] [] hc Q := by
    intro m
    induction m with
    | zero =>
      intro k c kk hc z L4 hm hk hs h1 h2 h3 h5 hz
      refine w_loop IS_ok [7] ok_Sight_look ?_
      exact w_le (S 1) k (fun _ => fin hc k c kk hk hs h1 h2 h3 (Or.inl (by omega)) h5) (fun _ => by omega) ((hs.1 _ _ (by decide)).trans hC.1.1) hz
    | succ m ih =>
      intro k c kk hc z L4 hm hk hs h1 h2 h3 h5 hz
      have hCc : CS 1 S hc := hC.sm hs (by decide) (by decide)
      refine w_loop IS_ok [7] ok_Sight_look ?_
      refine w_le (S 1) k (fun g => fin hc k c kk hk hs h1 h2 h3 (Or.inl (by omega)) h5) (fun g => ?_) hCc.1.1 hz
      refine w_le (S 2) c (fun g2 => fin hc k c kk hk hs h1 h2 h3 (Or.inr (by omega)) h5) (fun g2 => ?_) hCc.1.2.2.1 h1
      have hkn : k < (S 1).toNat := by omega
      have o := hW.od hkn
      refine c_Cells_get1 CA_6 k (by omega) ?_ hz
      have eo : hc.2 7 k = iI (od S k : Nat) := od_row hCc hW hkn
      refine c_Scene_standsOn hCc (od S k) y o.2.1 (by omega) (hW.wp _ o.2.1).2.1 hy ?_ eo hx
      refine w_b (fun g3 => ?_) (fun g3 => ?_)
      · exact ih (k + 1) c kk hc _ _ (by omega) (by omega) hs h1 (by rw [cn_f g3]; exact h2) h3 (fun i hi => ⟨by have := (h5 i hi).1; omega, (h5 i hi).2⟩) (iI_1 hz)
      · refine c_Cells_set2 CA_21 c (by omega) ?_ h1
        refine ih (k + 1) (c + 1) (u1 kk c k) (pg (wa hc 22 c (hc.2 7 k)) 20 1 (hc.1 20 1 + 1)) _ _ (by omega) (by omega) ((hs.t (Sm.wa _ _ (by decide))).t (Sm.pg _ (by decide))) (by rw [pg_s]; exact iI_1 h1) (by rw [cn_t g3, h2]) (by omega) (fun i hi => ?_) (iI_1 hz)
        by_cases z1 : i = c
        · subst z1
          rw [u1_s]
          exact ⟨by omega, ⟨g3, by omega⟩, h2.symm, (wa_s hc 22 i (hc.2 7 k)).trans eo⟩
        · rw [u1_n _ _ z1]
          have := h5 i (by omega)
          exact ⟨by omega, this.2.1, this.2.2.1, (wa_n hc 22 c (hc.2 7 k) z1).trans this.2.2.2⟩
  exact loop (S 1).toNat 0 0 (fun _ => 0) (pg h 20 1 0) _ _ (by omega) (by omega) (Sm.pg _ (by decide)) (by rw [pg_s]; rfl) rfl (by omega) (fun i hi => by omega) rfl
theorem c_Sight_colorAt {S : Nat → Int} {x1 x2 : Int32} {h : St} {Q : Option Value → St → Prop} (hC : CS 1 S h) (hW : WF S) (x y : Nat) (hx : x < 64) (hy : y < 48) (hQ : ∀ h' c, Sm [(20, 1)] [22] h h' → ColR S x y c → Q (some (.int (iI c))) h') (h1 : x1 = iI (x : Nat)) (h2 : x2 = iI (y : Nat)) : SC y_Sight_colorAt [.ref 20, .ref 1, .int x1, .int x2] h Q := by
  refine w_call IS_ok [9] ok_Sight_colorAt rfl rfl ?_
  refine c_Sight_look hC hW y hy (fun hc z kk hs hsh => ?_) h2
  have hCc : CS 1 S hc := hC.sm hs (by decide) (by decide)
  obtain ⟨s1, s2, s3, -⟩ := id hsh
  have fin : (∀ i, i < z → ¬ setp S (od S (kk i)) x y) → Q (some (.int 0)) hc := by
    intro hno
    refine hQ hc 0 hs ⟨-109, Or.inr ⟨rfl, fun j hj hv _ hse => ?_⟩, rfl⟩
    have := hsh.of hj hv
    exact hno _ this.1 (by rw [this.2]; exact hse)
  have loop : ∀ (m i : Nat) (z4 : Int32) (L5 : Option Value), z ≤ i + m → i ≤ z → (∀ i', i' < i → ¬ setp S (od S (kk i')) x y) → z4 = iI i → SR y_Sight_colorAt 9 [some (.ref 20), some (.ref 1), some (.int x1), some (.int x2), some (.int z4), L5] [] hc Q := by
    intro m
    induction m with
    | zero =>
      intro i z4 L5 hm hi hno e4
      refine w_loop IS_ok [9] ok_Sight_colorAt ?_
      exact w_le z i (fun _ => fin (fun i' hi' => hno i' (by omega))) (fun _ => by omega) s1 e4
    | succ m ih =>
      intro i z4 L5 hm hi hno e4
      refine w_loop IS_ok [9] ok_Sight_colorAt ?_
      refine w_le z i (fun _ => fin (fun i' hi' => hno i' (by omega))) (fun g => ?_) s1 e4
      obtain ⟨k1, k2, k3, k4⟩ := s3 i (by omega)
      have o := hW.od k1
      refine c_Cells_get1 CA_21 i (by omega) ?_ e4
      refine c_Scene_dotsOn hCc hW (od S (kk i)) y o.2.1 (by omega) hy (fun D hD hb => ?_) k4 h2
      refine c_Sight_bitOf x hx ?_ h1
      have hb := hb x hx
      refine w_if (fun g2 => ?_) (fun g2 => ?_)
      · have g3 := (lbit (by omega)).mp g2
        refine ih (i + 1) _ _ (by omega) (by omega) (fun i' hi' => ?_) (iI_1 e4)
        by_cases z1 : i' = i
        · subst z1; exact fun z2 => by rw [hb.mpr z2] at g3; cases g3
        · exact hno i' (by omega)
      · have g3 : D.testBit (63 - x) = true := by
          cases hq : D.testBit (63 - x) with
          | true => rfl
          | false => exact absurd ((lbit (by omega)).mpr hq) g2
        refine c_Cells_get2 CA_4 (od S (kk i)) 4 (by omega) ?_ k4 rfl
        have := hQ hc (S (26 + 9 * od S (kk i) + 4)) hs ⟨S (6 + kk i), Or.inl ⟨kk i, k1, k2, by rw [o.1]; omega, hb.mp g3, fun j hj hv _ hse => ?_, rfl⟩, ?_⟩
        · rw [← hCc.2.2.2.1 (od S (kk i)) o.2.1 4 (by omega)] at this
          exact this
        · have hj2 : j < (S 1).toNat := by omega
          have hof := hsh.of hj2 hv
          have := cn_lt (S := S) (o := od S) (y := y) hj hv.1
          exact hno (cn S (od S) y j) (by omega) (by rw [hof.2]; exact hse)
        · rw [if_neg (by rw [o.1]; omega)]
  exact loop z 0 _ _ (by omega) (by omega) (fun i' hi' => by omega) rfl
