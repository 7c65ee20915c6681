/-! the law's own methods: low, there, digest -/
def lowA (v : Int32) : Nat := v.toBitVec.toNat % 2147483648
def lowN (v : Int32) (n : Nat) : Nat := lowA v % n
theorem lowA_lt (v : Int32) : lowA v < 2147483648 := Nat.mod_lt _ (by decide)
theorem lowN_lt (v : Int32) {n : Nat} (h : 0 < n) : lowN v n < n := Nat.mod_lt _ h
theorem v_nI (v : Int32) : v = nI v.toBitVec.toNat := by
  apply Int32.toBitVec_inj.1
  show v.toBitVec = BitVec.ofNat 32 v.toBitVec.toNat
  simp
theorem low_and (v : Int32) : v &&& 2147483647 = iI (lowA v : Nat) := by
  have h : nI v.toBitVec.toNat &&& nI 2147483647 = nI (v.toBitVec.toNat &&& 2147483647) := fa_and _ _
  rw [← v_nI v] at h
  rw [show (2147483647 : Nat) = 2 ^ 31 - 1 from rfl, Nat.and_two_pow_sub_one_eq_mod] at h
  exact h
theorem c_L_low {x y : Int32} {h : St} {Q : Option Value → St → Prop} (n : Nat) (hn : 0 < n) (hn2 : n < 2147483648) (hQ : Q (some (.int (iI (lowN x n : Nat)))) h) (hy : y = iI (n : Nat)) : SC y_L_low [.int x, .int y] h Q := by
  refine w_call IS_ok [] ok_L_low rfl rfl ?_
  have h1 := low_and x
  have h2 := modr h1 hy (by have := lowA_lt x; omega) (by omega) hn
  refine ⟨fun z => ?_, ?_⟩
  · rw [hy] at z
    exact absurd ((iI_eq (a := (n : Int)) (b := 0) (by omega) (by omega)).mp z) (by omega)
  · show Q (some (.int ((x &&& 2147483647) - (x &&& 2147483647) / y * y))) h
    rw [h2]
    exact hQ
/-- the puppet that the law takes: from k on, m tries left, so far q -/
def thF (S : Nat → Int) (v : Int32) : Nat → Nat → Nat → Nat
  | 0, _, q => q
  | m + 1, k, q => if S 0 ≤ 0 then q else if thr S (lowN (v + iI (k : Nat)) (S 0).toNat : Nat) then lowN (v + iI (k : Nat)) (S 0).toNat else thF S v m (k + 1) (lowN (v + iI (k : Nat)) (S 0).toNat)
def thV (S : Nat → Int) (v : Int32) : Nat := thF S v 12 0 0
theorem thF_b {S : Nat → Int} (h0 : S 0 ≤ 20) (v : Int32) : ∀ m k q, q < 20 → thF S v m k q < 20
  | 0, _, q, hq => hq
  | m + 1, k, q, hq => by
    unfold thF
    by_cases z : S 0 ≤ 0
    · rw [if_pos z]; exact hq
    · rw [if_neg z]
      have := lowN_lt (v + iI (k : Nat)) (n := (S 0).toNat) (by omega)
      split
      · omega
      · exact thF_b h0 v m (k + 1) _ (by omega)
theorem thV_b {S : Nat → Int} (hW : WF S) (v : Int32) : thV S v < 20 := thF_b hW.n.2.2.2.1 v 12 0 0 (by omega)
section
variable {S : Nat → Int} {n : Nat} {H : Nat → Nat → Int} {N : Nat} {T : Nat → Nat} {f : Nat} {G : Nat → Int} {h : St} {Q : Option Value → St → Prop}
theorem pup_x (hW : WF S) {p : Int} {r : Int} (h : PupR S p 0 r) : (r = -101 ↔ ¬ thr S p) ∧ rg r := by
  unfold PupR at h
  by_cases g : thr S p
  · have hb := thr_b hW g
    have := (hW.wp p.toNat (by omega)).1
    rcases h with ⟨h1, h2⟩ | ⟨h1, h2⟩
    · exact absurd ⟨g, by omega⟩ h1
    · have e : r = S (26 + 9 * p.toNat) := by
        rcases h2 with h2 | h2 | h2 | h2 | h2
        all_goals first | omega | exact h2.2
      exact ⟨⟨fun z => by omega, fun z => absurd g z⟩, by omega⟩
  · rcases h with ⟨h1, h2⟩ | ⟨h1, h2⟩
    · exact ⟨⟨fun _ => g, fun _ => h2⟩, by omega⟩
    · exact absurd h1.1 g
theorem cnt1 {r : Int} (h : CntR S n N 1 r) : r = S 0 := by unfold CntR at h; omega
theorem c_L_there {x : Int32} (hI : CI S n H N T f G h) (hW : WF S) (hQ : ∀ h', Fr 15 38 h h' → Q (some (.int (iI (thV S x : Nat)))) h') : SC y_L_there [.ref 0, .int x] h Q := by
  have hn := hW.n
  refine w_call IS_ok [11] ok_L_there rfl rfl ?_
  refine c_P_count hI hW 1 (fun h1 r f1 hr => ?_) rfl (by omega)
  rw [cnt1 hr]
  have loop : ∀ (m k q : Nat) (hc : St) (z2 z4 : Int32), k + m = 12 → q < 20 → Fr 15 38 h hc → z2 = iI (q : Nat) → z4 = iI (k : Nat) → thV S x = thF S x m k q → SR y_L_there 11 [some (.ref 0), some (.int x), some (.int z2), some (.int (iI (S 0))), some (.int z4)] [] hc Q := by
    intro m
    induction m with
    | zero =>
      intro k q hc z2 z4 hk hq fr e2 e4 ht
      refine w_loop IS_ok [11] ok_L_there ?_
      refine w_le 12 k (fun _ => ?_) (fun _ => by omega) rfl e4
      rw [e2]
      have := hQ hc fr
      rw [ht] at this
      exact this
    | succ m ih =>
      intro k q hc z2 z4 hk hq fr e2 e4 ht
      refine w_loop IS_ok [11] ok_L_there ?_
      refine w_le 12 k (fun _ => by omega) (fun _ => ?_) rfl e4
      unfold thF at ht
      refine w_le (S 0) 0 (fun g => ?_) (fun g => ?_) rfl rfl
      · rw [if_pos g] at ht
        rw [e2]
        have := hQ hc fr
        rw [ht] at this
        exact this
      rw [if_neg (by omega)] at ht
      refine c_L_low (S 0).toNat (by omega) (by omega) ?_ (congrArg iI (by omega))
      subst e4
      have hl := lowN_lt (x + iI (k : Nat)) (n := (S 0).toNat) (by omega)
      generalize lowN (x + iI (k : Nat)) (S 0).toNat = q' at ht hl ⊢
      refine c_P_puppet (hI.lk fr) hW q' 0 (fun h2 r f2 hr => ?_) rfl rfl (by omega) (by omega)
      obtain ⟨p1, p2⟩ := pup_x hW hr
      refine w_eq r (-101) (fun g => ?_) (fun g => ?_) rfl rfl p2
      · rw [if_neg (p1.mp g)] at ht
        exact ih (k + 1) q' h2 _ _ (by omega) (by omega) (fr.t f2) rfl (iI_1 rfl) ht
      · rw [if_pos (Classical.byContradiction (fun z => g (p1.mpr z)))] at ht
        have := hQ h2 (fr.t f2)
        rw [ht] at this
        exact this
  exact loop 12 0 0 h1 _ _ rfl (by omega) f1 rfl rfl rfl
theorem divr {x y : Int32} {a b : Nat} (hx : x = iI a) (hy : y = iI b) (ha : a < 2 ^ 31) (hb : b < 2 ^ 31) (h0 : 0 < b) : x / y = iI ((a / b : Nat) : Int) := by
  rw [hx, hy, ← iI_nat, ← iI_nat, pk_div ha h0 hb]
  rfl
/-! the digest of a state -/
noncomputable def cntV (S : Nat → Int) (w : Int) : Int := @Classical.epsilon Int ⟨0⟩ (fun r => CntR S 0 0 w r)
noncomputable def pupV (S : Nat → Int) (p w : Int) : Int := @Classical.epsilon Int ⟨0⟩ (fun r => PupR S p w r)
theorem cntV_is {w r : Int} (hw : w < 9) (h : CntR S n N w r) : r = cntV S w := by
  have h0 : CntR S 0 0 w r := by
    unfold CntR at h ⊢
    rcases h with h | h | h | h | h | h | h | h | h | h | h | h
    · exact Or.inl h
    · exact Or.inr (Or.inl h)
    · exact Or.inr (Or.inr (Or.inl h))
    · exact Or.inr (Or.inr (Or.inr (Or.inl h)))
    · exact Or.inr (Or.inr (Or.inr (Or.inr (Or.inl h))))
    · exact Or.inr (Or.inr (Or.inr (Or.inr (Or.inr (Or.inl h)))))
    · exact Or.inr (Or.inr (Or.inr (Or.inr (Or.inr (Or.inr (Or.inl h))))))
    · exact Or.inr (Or.inr (Or.inr (Or.inr (Or.inr (Or.inr (Or.inr (Or.inl h)))))))
    · exact Or.inr (Or.inr (Or.inr (Or.inr (Or.inr (Or.inr (Or.inr (Or.inr (Or.inl h))))))))
    · exact absurd h.1 (by omega)
    · exact absurd h.1 (by omega)
    · exact Or.inr (Or.inr (Or.inr (Or.inr (Or.inr (Or.inr (Or.inr (Or.inr (Or.inr (Or.inr (Or.inr (h)))))))))))
  exact CntR_u h0 (@Classical.epsilon_spec Int (fun r => CntR S 0 0 w r) ⟨r, h0⟩)
theorem pupV_is {p w r : Int} (h : PupR S p w r) : r = pupV S p w := PupR_u h (@Classical.epsilon_spec Int (fun r => PupR S p w r) ⟨r, h⟩)
noncomputable def dgA (S : Nat → Int) : Nat → Int64
  | 0 => Int64.ofNat 3
  | k + 1 => Int64.ofNat 31 * dgA S k + (iI (cntV S (k : Int))).toInt64
noncomputable def dgB (S : Nat → Int) : Nat → Int64
  | 0 => dgA S 9
  | k + 1 => Int64.ofNat 31 * dgB S k + (iI (pupV S ((k / 12 : Nat) : Int) ((k % 12 : Nat) : Int))).toInt64
theorem c_L_digest (hI : CI S n H N T f G h) (hW : WF S) (hQ : ∀ h', Fr 15 38 h h' → Q (some (.long (dgB S 120))) h') : SC y_L_digest [.ref 0] h Q := by
  refine w_call IS_ok [6] ok_L_digest rfl rfl ?_
  have loopB : ∀ (m k : Nat) (hc : St) (z1 : Int64) (z3 : Int32), k + m = 120 → Fr 15 38 h hc → z1 = dgB S k → z3 = iI (k : Nat) → SR y_L_digest 33 [some (.ref 0), some (.long z1), none, some (.int z3)] [] hc Q := by
    intro m
    induction m with
    | zero =>
      intro k hc z1 z3 hk fr e1 e3
      refine w_loop IS_ok [33] ok_L_digest ?_
      refine w_le 120 k (fun _ => ?_) (fun _ => by omega) rfl e3
      have := hQ hc fr
      have hk : k = 120 := by omega
      rw [e1, hk]
      exact this
    | succ m ih =>
      intro k hc z1 z3 hk fr e1 e3
      refine w_loop IS_ok [33] ok_L_digest ?_
      refine w_le 120 k (fun _ => by omega) (fun _ => ?_) rfl e3
      refine ⟨by decide, ?_⟩
      refine ⟨by decide, ?_⟩
      refine c_P_puppet (hI.lk fr) hW ((k / 12 : Nat) : Int) ((k % 12 : Nat) : Int) (fun h2 r f2 hr => ?_) (divr (b := 12) e3 rfl (by omega) (by omega) (by omega)) (modr (b := 12) e3 rfl (by omega) (by omega) (by omega)) (by omega) (by omega)
      rw [pupV_is hr]
      refine ih (k + 1) h2 _ _ (by omega) (fr.t f2) ?_ (iI_1 e3)
      rw [e1]
      rfl
  have loopA : ∀ (m k : Nat) (hc : St) (z1 : Int64) (z3 : Int32), k + m = 9 → Fr 15 38 h hc → z1 = dgA S k → z3 = iI (k : Nat) → SR y_L_digest 6 [some (.ref 0), some (.long z1), none, some (.int z3)] [] hc Q := by
    intro m
    induction m with
    | zero =>
      intro k hc z1 z3 hk fr e1 e3
      refine w_loop IS_ok [6, 33] ok_L_digest ?_
      refine w_le 9 k (fun _ => ?_) (fun _ => by omega) rfl e3
      have hk : k = 9 := by omega
      refine loopB 120 0 hc _ _ rfl fr ?_ rfl
      rw [e1, hk]
      rfl
    | succ m ih =>
      intro k hc z1 z3 hk fr e1 e3
      refine w_loop IS_ok [6, 33] ok_L_digest ?_
      refine w_le 9 k (fun _ => by omega) (fun _ => ?_) rfl e3
      refine c_P_count (hI.lk fr) hW k (fun h2 r f2 hr => ?_) e3 (by omega)
      rw [cntV_is (by omega) hr]
      refine ih (k + 1) h2 _ _ (by omega) (fr.t f2) ?_ (iI_1 e3)
      rw [e1]
      rfl
  exact loopA 9 0 h _ _ rfl Fr.rf rfl rfl
end
