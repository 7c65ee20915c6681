/-! the class: all dots, all clashes, the first one -/
theorem c_Sight_firstOther {S : Nat → Int} {x2 x3 x4 : Int32} {h : St} {Q : Option Value → St → Prop} (hC : CS 1 S h) (hW : WF S) (hr : Int) (rr : rg hr) (x y : Nat) (hx : x < 64) (hy : y < 48) {z : Nat} {kk : Nat → Nat} (hsh : Shn S y z kk h) (hQ : ∀ r, FirR S x y hr r → Q (some (.int (iI r))) h) (h2 : x2 = iI hr) (h3 : x3 = iI (x : Nat)) (h4 : x4 = iI (y : Nat)) : SC y_Sight_firstOther [.ref 20, .ref 1, .int x2, .int x3, .int x4] h Q := by
  refine w_call IS_ok [3] ok_Sight_firstOther rfl rfl ?_
  obtain ⟨s1, s2, s3, -⟩ := id hsh
  have fin : (∀ i, i < z → (od S (kk i) : Int) ≠ hr → ¬ setp S (od S (kk i)) x y) → Q (some (.int (-109))) h := by
    intro hno
    refine hQ (-109) (Or.inr ⟨rfl, fun j hj hv hne hse => ?_⟩)
    have := hsh.of hj hv
    have o := hW.od hj
    exact hno _ this.1 (by rw [this.2, ← o.1]; exact hne) (by rw [this.2]; exact hse)
  have loop : ∀ (m i : Nat) (z5 : Int32) (L6 : Option Value), z ≤ i + m → i ≤ z → (∀ i', i' < i → (od S (kk i') : Int) ≠ hr → ¬ setp S (od S (kk i')) x y) → z5 = iI i → SR y_Sight_firstOther 3 [some (.ref 20), some (.ref 1), some (.int x2), some (.int x3), some (.int x4), some (.int z5), L6] [] h Q := by
    intro m
    induction m with
    | zero =>
      intro i z5 L6 hm hi hno e5
      refine w_loop IS_ok [3] ok_Sight_firstOther ?_
      exact w_le z i (fun _ => fin (fun i' hi' => hno i' (by omega))) (fun _ => by omega) s1 e5
    | succ m ih =>
      intro i z5 L6 hm hi hno e5
      refine w_loop IS_ok [3, 50] ok_Sight_firstOther ?_
      refine w_le z i (fun _ => fin (fun i' hi' => hno i' (by omega))) (fun g => ?_) s1 e5
      obtain ⟨k1, k2, k3, k4⟩ := s3 i (by omega)
      have o := hW.od k1
      refine c_Cells_get1 CA_21 i (by omega) ?_ e5
      have next : ((od S (kk i) : Int) ≠ hr → ¬ setp S (od S (kk i)) x y) → SR y_Sight_firstOther 50 [some (.ref 20), some (.ref 1), some (.int x2), some (.int x3), some (.int x4), some (.int z5), some (.int (h.2 22 i))] [] h Q := by
        intro hh
        refine w_loop IS_ok [3] ok_Sight_firstOther ?_
        refine ih (i + 1) _ _ (by omega) (by omega) (fun i' hi' => ?_) (iI_1 e5)
        by_cases z1 : i' = i
        · subst z1; exact hh
        · exact hno i' (by omega)
      refine w_eq (od S (kk i) : Nat) hr (fun g2 => next (fun z => absurd g2 z)) (fun g2 => ?_) k4 h2
      refine c_Scene_dotsOn hC hW (od S (kk i)) y o.2.1 (by omega) hy (fun D hD hb => ?_) k4 h4
      refine c_Sight_bitOf x hx ?_ h3
      have hb := hb x hx
      refine w_if (fun g3 => ?_) (fun g3 => ?_)
      · have g4 := (lbit (by omega)).mp g3
        exact next (fun _ z2 => by rw [hb.mpr z2] at g4; cases g4)
      · have g4 : D.testBit (63 - x) = true := by
          cases hq : D.testBit (63 - x) with
          | true => rfl
          | false => exact absurd ((lbit (by omega)).mpr hq) g3
        rw [k4, ← o.1]
        refine hQ _ (Or.inl ⟨kk i, k1, k2, by rw [o.1]; exact g2, hb.mp g4, fun j hj hv hne hse => ?_, rfl⟩)
        have hj2 : j < (S 1).toNat := by omega
        have hof := hsh.of hj2 hv
        have o2 := hW.od hj2
        have := cn_lt (S := S) (o := od S) (y := y) hj hv.1
        exact hno (cn S (od S) y j) (by omega) (by rw [hof.2, ← o2.1]; exact hne) (by rw [hof.2]; exact hse)
  exact loop z 0 _ _ (by omega) (by omega) (fun i' hi' => by omega) rfl
theorem adt_le (S : Nat → Int) (n : Nat) : adt S n ≤ n * 64 := sm_le (fun i _ => dts_le S i 64)
theorem c_Sight_allDots {S : Nat → Int} {h : St} {Q : Option Value → St → Prop} (hC : CS 1 S h) (hW : WF S) (hQ : ∀ h', Sm [(20, 1)] [22] h h' → Q (some (.int (iI (adt S 48 : Nat)))) h') : SC y_Sight_allDots [.ref 20, .ref 1] h Q := by
  refine w_call IS_ok [4] ok_Sight_allDots rfl rfl ?_
  have loop : ∀ (m k : Nat) (hc : St) (z2 z3 : Int32), 48 ≤ k + m → k ≤ 48 → Sm [(20, 1)] [22] h hc → z2 = iI (adt S k : Nat) → z3 = iI k → SR y_Sight_allDots 4 [some (.ref 20), some (.ref 1), some (.int z2), some (.int z3)] [] hc Q := by
    intro m
    induction m with
    | zero =>
      intro k hc z2 z3 hm hk hs e2 e3
      have : k = 48 := by omega
      subst this
      refine w_loop IS_ok [4] ok_Sight_allDots ?_
      exact w_le 48 48 (fun _ => by rw [e2]; exact hQ hc hs) (fun _ => by omega) rfl e3
    | succ m ih =>
      intro k hc z2 z3 hm hk hs e2 e3
      refine w_loop IS_ok [4] ok_Sight_allDots ?_
      refine w_le 48 k (fun g => ?_) (fun g => ?_) rfl e3
      · have : k = 48 := by omega
        subst this
        rw [e2]; exact hQ hc hs
      refine c_Sight_dotsOnLine (hC.sm hs (by decide) (by decide)) hW k (by omega) (fun h' hs' => ?_) e3
      refine ih (k + 1) h' _ _ (by omega) (by omega) (hs.t hs') ?_ (iI_1 e3)
      rw [e2]
      exact (iI_add _ _).trans (congrArg iI (by rw [← Int.natCast_add]; rfl))
  exact loop 48 0 h _ _ (by omega) (by omega) Sm.rf rfl rfl
theorem sm_blk (f : Nat → Nat) : ∀ n, sm f (64 * n) = sm (fun y => sm (fun x => f (64 * y + x)) 64) n
  | 0 => rfl
  | n + 1 => by
    rw [show 64 * (n + 1) = 64 * n + 64 by omega, sm_cat, sm_blk f n]
    rfl
theorem HerR_rg {S : Nat → Int} (hW : WF S) {r : Int} (h : HerR S (S 1).toNat r) : rg r := by
  rcases h with ⟨-, h⟩ | ⟨k, hk, h, -⟩
  · omega
  · have := hW.od hk; omega
theorem clN_blk (S : Nat → Int) (hr : Int) (n : Nat) : clN S hr (64 * n) = sm (fun y => sm (fun x : Nat => cI (clq S hr (x : Int) (y : Int))) 64) n := by
  unfold clN
  rw [sm_blk]
  refine sm_congr (fun y _ => sm_congr (fun x hx => ?_))
  rw [show (64 * y + x) % 64 = x by omega, show (64 * y + x) / 64 = y by omega]
theorem c_Sight_allClashes {S : Nat → Int} {h : St} {Q : Option Value → St → Prop} (hC : CS 1 S h) (hW : WF S) (hQ : ∀ h' hr, Sm [(20, 1)] [22] h h' → HerR S (S 1).toNat hr → Q (some (.int (iI (clN S hr 3072 : Nat)))) h') : SC y_Sight_allClashes [.ref 20, .ref 1] h Q := by
  refine w_call IS_ok [10] ok_Sight_allClashes rfl rfl ?_
  refine c_Scene_hero hC hW (fun hr hH => ?_)
  have hrr := HerR_rg hW hH
  have loop : ∀ (m k : Nat) (hc : St) (z3 z4 : Int32), 48 ≤ k + m → k ≤ 48 → Sm [(20, 1)] [22] h hc → z3 = iI (clN S hr (64 * k) : Nat) → z4 = iI k → SR y_Sight_allClashes 10 [some (.ref 20), some (.ref 1), some (.int (iI hr)), some (.int z3), some (.int z4)] [] hc Q := by
    intro m
    induction m with
    | zero =>
      intro k hc z3 z4 hm hk hs e3 e4
      have : k = 48 := by omega
      subst this
      refine w_loop IS_ok [10] ok_Sight_allClashes ?_
      exact w_le 48 48 (fun _ => by rw [e3]; exact hQ hc hr hs hH) (fun _ => by omega) rfl e4
    | succ m ih =>
      intro k hc z3 z4 hm hk hs e3 e4
      refine w_loop IS_ok [10] ok_Sight_allClashes ?_
      refine w_le 48 k (fun g => ?_) (fun g => ?_) rfl e4
      · have : k = 48 := by omega
        subst this
        rw [e3]; exact hQ hc hr hs hH
      refine c_Sight_clashesOn (hC.sm hs (by decide) (by decide)) hW hr hrr k (by omega) (fun h' D z kk hs' _ hD hb => ?_) rfl e4
      refine c_J_bitCount D hD ?_ rfl
      refine ih (k + 1) h' _ _ (by omega) (by omega) (hs.t hs') ?_ (iI_1 e4)
      rw [e3, bts_cI hb]
      refine (iI_add _ _).trans (congrArg iI ?_)
      rw [← Int.natCast_add, clN_blk, clN_blk]
      rfl
  exact loop 48 0 h _ _ (by omega) (by omega) Sm.rf rfl rfl
/-- the first clash -/
def Fcl (S : Nat → Int) (hr w r : Int) : Prop := (r = -109 ∧ ∀ p : Nat, p < 3072 → ¬ clq S hr ((p % 64 : Nat) : Int) ((p / 64 : Nat) : Int)) ∨ (∃ p : Nat, p < 3072 ∧ clq S hr ((p % 64 : Nat) : Int) ((p / 64 : Nat) : Int) ∧ (∀ q : Nat, q < p → ¬ clq S hr ((q % 64 : Nat) : Int) ((q / 64 : Nat) : Int)) ∧ ((w = 1 ∧ r = ((p % 64 : Nat) : Int)) ∨ (w = 2 ∧ r = ((p / 64 : Nat) : Int)) ∨ (w = 3 ∧ FirR S ((p % 64 : Nat) : Int) ((p / 64 : Nat) : Int) hr r)))
set_option maxHeartbeats 1000000 in
theorem c_Sight_firstClash {S : Nat → Int} {x2 : Int32} {h : St} {Q : Option Value → St → Prop} (hC : CS 1 S h) (hW : WF S) (w : Int) (hw : 1 ≤ w ∧ w ≤ 3) (hQ : ∀ h' hr r, Sm [(20, 1)] [22] h h' → HerR S (S 1).toNat hr → Fcl S hr w r → Q (some (.int (iI r))) h') (h2 : x2 = iI w) : SC y_Sight_firstClash [.ref 20, .ref 1, .int x2] h Q := by
  refine w_call IS_ok [8] ok_Sight_firstClash rfl rfl ?_
  refine c_Scene_hero hC hW (fun hr hH => ?_)
  have hrr := HerR_rg hW hH
  have fin : ∀ (hc : St), Sm [(20, 1)] [22] h hc → (∀ y x : Nat, y < 48 → x < 64 → ¬ clq S hr (x : Int) (y : Int)) → Q (some (.int (-109))) hc := by
    intro hc hs hno
    exact hQ hc hr (-109) hs hH (Or.inl ⟨rfl, fun p hp => hno _ _ (by omega) (by omega)⟩)
  have loop : ∀ (m k : Nat) (hc : St) (z4 : Int32) (L5 L6 L7 : Option Value), 48 ≤ k + m → k ≤ 48 → Sm [(20, 1)] [22] h hc → (∀ y x : Nat, y < k → x < 64 → ¬ clq S hr (x : Int) (y : Int)) → z4 = iI k → SR y_Sight_firstClash 8 [some (.ref 20), some (.ref 1), some (.int x2), some (.int (iI hr)), some (.int z4), L5, L6, L7] [] hc Q := by
    intro m
    induction m with
    | zero =>
      intro k hc z4 L5 L6 L7 hm hk hs hno e4
      refine w_loop IS_ok [8] ok_Sight_firstClash ?_
      exact w_le 48 k (fun _ => fin hc hs (fun y x hy hx => hno y x (by omega) hx)) (fun _ => by omega) rfl e4
    | succ m ih =>
      intro k hc z4 L5 L6 L7 hm hk hs hno e4
      refine w_loop IS_ok [8] ok_Sight_firstClash ?_
      refine w_le 48 k (fun _ => fin hc hs (fun y x hy hx => hno y x (by omega) hx)) (fun g => ?_) rfl e4
      have hCc : CS 1 S hc := hC.sm hs (by decide) (by decide)
      refine c_Sight_clashesOn hCc hW hr hrr k (by omega) (fun h' D z kk hs' hsh hD hb => ?_) rfl e4
      have hs2 := hs.t hs'
      refine w_if (fun g2 => ?_) (fun g2 => ?_)
      · have g3 : D = 0 := by
          have := (lg0 D).mp g2
          rw [Nat.mod_eq_of_lt hD] at this
          exact this
        refine ih (k + 1) h' _ _ _ _ (by omega) (by omega) hs2 (fun y x hy hx => ?_) (iI_1 e4)
        by_cases z1 : y = k
        · subst z1
          intro z2
          have := (hb x hx).mpr z2
          rw [g3, Nat.zero_testBit] at this
          cases this
        · exact hno y x (by omega) hx
      · have g3 : D ≠ 0 := fun z => g2 ((lg0 D).mpr (by rw [z]))
        refine c_Sight_firstColumn D (fun x hx hb1 hb2 => ?_) rfl
        have hbx : D.testBit (63 - x) = true := by
          rcases hb2 with rfl | hb2
          · refine Classical.byContradiction fun z1 => g3 (Nat.eq_of_testBit_eq fun i => ?_)
            rw [Nat.zero_testBit]
            by_cases z2 : i < 64
            · by_cases z3 : i = 0
              · subst z3
                simpa using z1
              · have := hb1 (63 - i) (by omega)
                rw [show 63 - (63 - i) = i by omega] at this
                exact this
            · exact Nat.testBit_lt_two_pow (Nat.lt_of_lt_of_le hD (Nat.pow_le_pow_right (by decide) (by omega)))
          · exact hb2
        have hcl := (hb x hx).mp hbx
        have hp1 : (64 * k + x) % 64 = x := by omega
        have hp2 : (64 * k + x) / 64 = k := by omega
        have done : ∀ r : Int, ((w = 1 ∧ r = x) ∨ (w = 2 ∧ r = k) ∨ (w = 3 ∧ FirR S x k hr r)) → Q (some (.int (iI r))) h' := by
          intro r hrw
          refine hQ h' hr r hs2 hH (Or.inr ⟨64 * k + x, by omega, by rw [hp1, hp2]; exact hcl, fun q hq => ?_, by rw [hp1, hp2]; exact hrw⟩)
          by_cases z1 : q / 64 = k
          · intro z2
            rw [z1] at z2
            have := (hb (q % 64) (by omega)).mpr z2
            rw [hb1 (q % 64) (by omega)] at this
            cases this
          · exact hno _ _ (by omega) (by omega)
        refine w_eq w 1 (fun g4 => ?_) (fun g4 => ?_) h2 rfl
        · exact done x (Or.inl ⟨g4, rfl⟩)
        refine w_eq w 2 (fun g5 => ?_) (fun g5 => ?_) h2 rfl
        · rw [e4]; exact done k (Or.inr (Or.inl ⟨g5, rfl⟩))
        exact c_Sight_firstOther (hCc.sm hs' (by decide) (by decide)) hW hr hrr x k hx (by omega) hsh (fun r hF => done r (Or.inr (Or.inr ⟨by omega, hF⟩))) rfl rfl e4
  exact loop 48 0 h _ _ _ _ (by omega) (by omega) Sm.rf (fun y x hy => by omega) rfl
theorem c_Surv_lineWithMostHidden {S : Nat → Int} {x1 : Int32} {h : St} {Q : Option Value → St → Prop} (hW : WF S) (hst : ∀ y : Nat, y < 48 → h.2 17 y = iI (cn S (od S) y (S 1).toNat : Nat)) (hQ : ∀ r m, WrsR S 48 r m → Q (some (.int (iI r))) h) (h1 : x1 = iI (S 2)) : SC y_Surv_lineWithMostHidden [.ref 15, .int x1] h Q := by
  refine w_call IS_ok [8] ok_Surv_lineWithMostHidden rfl rfl ?_
  have hlim := hW.lim
  have hn := hW.n
  have loop : ∀ (n k : Nat) (r m : Int) (z2 z3 z4 : Int32), 48 ≤ k + n → k ≤ 48 → WrsR S k r m → 0 ≤ m → m ≤ 20 → z2 = iI (S 2 + m) → z3 = iI r → z4 = iI k → SR y_Surv_lineWithMostHidden 8 [some (.ref 15), some (.int x1), some (.int z2), some (.int z3), some (.int z4)] [] h Q := by
    intro n
    induction n with
    | zero =>
      intro k r m z2 z3 z4 hm hk hR hm0 hm20 e2 e3 e4
      have : k = 48 := by omega
      subst this
      refine w_loop IS_ok [8] ok_Surv_lineWithMostHidden ?_
      exact w_le 48 48 (fun _ => by rw [e3]; exact hQ r m hR) (fun _ => by omega) rfl e4
    | succ n ih =>
      intro k r m z2 z3 z4 hm hk hR hm0 hm20 e2 e3 e4
      refine w_loop IS_ok [8] ok_Surv_lineWithMostHidden ?_
      refine w_le 48 k (fun g => ?_) (fun g => ?_) rfl e4
      · have : k = 48 := by omega
        subst this
        rw [e3]; exact hQ r m hR
      have hc := cn_le S (od S) k (S 1).toNat
      refine c_Cells_get1 CA_16 k (by omega) ?_ e4
      refine w_le (cn S (od S) k (S 1).toNat : Nat) (S 2 + m) (fun g2 => ?_) (fun g2 => ?_) (hst k (by omega)) e2
      · refine ih (k + 1) r m _ _ _ (by omega) (by omega) ?_ hm0 hm20 e2 e3 (iI_1 e4)
        rcases hR with ⟨a1, a2, a3⟩ | ⟨y, a1, a2, a3, a4, a5, a6⟩
        · refine Or.inl ⟨a1, a2, fun y hy => ?_⟩
          by_cases z1 : y = k
          · subst z1; omega
          · exact a3 y (by omega)
        · refine Or.inr ⟨y, by omega, a2, a3, a4, fun z hz => ?_, a6⟩
          by_cases z1 : z = k
          · subst z1; omega
          · exact a5 z (by omega)
      · refine c_Cells_get1 CA_16 k (by omega) ?_ e4
        refine ih (k + 1) k ((cn S (od S) k (S 1).toNat : Nat) - S 2) _ _ _ (by omega) (by omega) (Or.inr ⟨k, by omega, rfl, rfl, by omega, fun z hz => ?_, fun z hz => ?_⟩) (by omega) (by omega) ((hst k (by omega)).trans (congrArg iI (by omega))) e4 (iI_1 e4)
        · by_cases z1 : z = k
          · subst z1; exact Nat.le_refl _
          · rcases hR with ⟨a1, a2, a3⟩ | ⟨y, a1, a2, a3, a4, a5, a6⟩
            · have := a3 z (by omega); omega
            · have := a5 z (by omega); omega
        · rcases hR with ⟨a1, a2, a3⟩ | ⟨y, a1, a2, a3, a4, a5, a6⟩
          · have := a3 z (by omega); omega
          · have := a5 z (by omega); omega
  exact loop 48 0 (-109) 0 _ _ _ (by omega) (by omega) (Or.inl ⟨rfl, rfl, fun y hy => by omega⟩) (by omega) (by omega) (h1.trans (congrArg iI (by omega))) rfl rfl
