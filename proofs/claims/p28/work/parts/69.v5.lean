/-! what an answer says -/
section
variable {S : Nat → Int} {n : Nat} {H : Nat → Nat → Int} {N : Nat} {T : Nat → Nat} {f : Nat} {G : Nat → Int} {h : St} {Q : Option Value → St → Prop}
theorem pup_6 {p r : Int} (g : thr S p) (h : PupR S p 6 r) : r = pos S p (S 1).toNat := by
  rcases h with ⟨h1, h2⟩ | ⟨h1, h2⟩
  · exact absurd ⟨g, by omega⟩ h1
  · rcases h2 with h2 | h2 | h2 | h2 | h2
    all_goals first | exact h2.2 | exact absurd h2.1 (by omega)
theorem pup_7 {p : Nat} {r : Int} (g : thr S (p : Int)) (h : PupR S p 7 r) : r = lns S p 48 := by
  rcases h with ⟨h1, h2⟩ | ⟨h1, h2⟩
  · exact absurd ⟨g, by omega⟩ h1
  · rcases h2 with h2 | h2 | h2 | h2 | h2
    all_goals first | exact absurd h2.1 (by omega) | exact h2.2
theorem pup_8 {p : Nat} {r : Int} (g : thr S (p : Int)) (h : PupR S p 8 r) : r = hT S (od S) (S 1).toNat 48 p := by
  rcases h with ⟨h1, h2⟩ | ⟨h1, h2⟩
  · exact absurd ⟨g, by omega⟩ h1
  · rcases h2 with h2 | h2 | h2 | h2 | h2
    all_goals first | exact absurd h2.1 (by omega) | exact h2.2
theorem pup_hi {p r w : Int} (g : thr S p) (hw : 8 < w ∧ w ≤ 11) (h : PupR S p w r) : r = S (26 + 9 * p.toNat + (w - 3).toNat) := by
  rcases h with ⟨h1, h2⟩ | ⟨h1, h2⟩
  · exact absurd ⟨g, by omega⟩ h1
  · rcases h2 with h2 | h2 | h2 | h2 | h2
    all_goals first | exact absurd h2.1 (by omega) | exact h2.2
theorem pup_lo {p r w : Int} (g : thr S p) (hw : 0 ≤ w ∧ w < 6) (h : PupR S p w r) : r = S (26 + 9 * p.toNat + w.toNat) := by
  rcases h with ⟨h1, h2⟩ | ⟨h1, h2⟩
  · exact absurd ⟨g, by omega⟩ h1
  · rcases h2 with h2 | h2 | h2 | h2 | h2
    all_goals first | exact absurd h2.1 (by omega) | exact h2.2
theorem lin_0 {y : Nat} {r : Int} (hy : y < 48) (h : LinR S y 0 r) : r = cn S (od S) y (S 1).toNat := by
  rcases h with ⟨h1, h2⟩ | ⟨h1, h2⟩
  · exact absurd ⟨by omega, by omega⟩ h1
  · rcases h2 with h2 | h2 | h2
    all_goals first | exact absurd h2.1 (by omega) | exact h2.2
theorem lin_1 {y : Nat} {r : Int} (hy : y < 48) (h : LinR S y 1 r) : r = if (cn S (od S) y (S 1).toNat : Int) < S 2 then (cn S (od S) y (S 1).toNat : Int) else S 2 := by
  rcases h with ⟨h1, h2⟩ | ⟨h1, h2⟩
  · exact absurd ⟨by omega, by omega⟩ h1
  · rcases h2 with h2 | h2 | h2
    all_goals first | exact absurd h2.1 (by omega) | exact h2.2
theorem lin_2 {y : Nat} {r : Int} (hy : y < 48) (h : LinR S y 2 r) : r = dts S y 64 := by
  rcases h with ⟨h1, h2⟩ | ⟨h1, h2⟩
  · exact absurd ⟨by omega, by omega⟩ h1
  · rcases h2 with h2 | h2 | h2
    all_goals first | exact absurd h2.1 (by omega) | exact h2.2
theorem cnt_0 {r : Int} (h : CntR S n N 0 r) : r = S 1 := by unfold CntR at h; omega
theorem cnt_2 {r : Int} (h : CntR S n N 2 r) : r = S 2 := by unfold CntR at h; omega
theorem cnt_5 {r : Int} (h : CntR S n N 5 r) : r = S 5 := by unfold CntR at h; omega
theorem cnt_6 {r : Int} (h : CntR S n N 6 r) : r = hidN S := by unfold CntR at h; omega
theorem cnt_7 {r : Int} (h : CntR S n N 7 r) : r = adt S 48 := by unfold CntR at h; omega
theorem cnt_8 {r : Int} (h : CntR S n N 8 r) : HerR S (S 1).toNat r := by
  rcases h with a | a | a | a | a | a | a | a | a | a | a | a
  all_goals first | exact a.2 | exact absurd a.1 (by omega)
theorem hin_1 {p : Nat} {r : Int} (g : thr S (p : Int)) (h : HinR S p 1 r) : r = (if 0 < hT S (od S) (S 1).toNat 48 p then 1 else 0 : Nat) := by
  rcases h with ⟨h1, h2⟩ | ⟨h1, h2⟩
  · exact absurd ⟨g, by omega⟩ h1
  · rw [h2]
    show ((0 + (if hB S (od S) p then 1 else 0) : Nat) : Int) = _
    unfold hB
    by_cases z : 0 < hT S (od S) (S 1).toNat 48 p
    · simp [z]
    · simp [z]
abbrev A1 (S : Nat → Int) (k : Nat) : Nat := sm (fun p => if thr S (p : Int) then lns S p 48 else 0) k
abbrev A2 (S : Nat → Int) (k : Nat) : Nat := sm (fun p => if thr S (p : Int) then hT S (od S) (S 1).toNat 48 p else 0) k
abbrev A3 (S : Nat → Int) (k : Nat) : Nat := sm (fun p => if thr S (p : Int) then (if 0 < hT S (od S) (S 1).toNat 48 p then 1 else 0) else 0) k
def mn (S : Nat → Int) (y : Nat) : Nat := if (cn S (od S) y (S 1).toNat : Int) < S 2 then cn S (od S) y (S 1).toNat else (S 2).toNat
theorem mn_i (hW : WF S) (y : Nat) : (mn S y : Int) = if (cn S (od S) y (S 1).toNat : Int) < S 2 then (cn S (od S) y (S 1).toNat : Int) else S 2 := by
  have := hW.lim
  unfold mn
  split <;> omega
abbrev B1 (S : Nat → Int) (k : Nat) : Nat := sm (fun l : Nat => cn S (od S) l (S 1).toNat) k
abbrev B2 (S : Nat → Int) (k : Nat) : Nat := sm (mn S) k
theorem B12 (hW : WF S) : ∀ k, B1 S k = B2 S k + sm (hdL S) k
  | 0 => rfl
  | k + 1 => by
    have ih := B12 hW k
    have h1 := hdL_is hW k
    have h2 := mn_i hW k
    show B1 S k + cn S (od S) (k : Nat) (S 1).toNat = B2 S k + mn S k + (sm (hdL S) k + hdL S k)
    omega
theorem mn_le (hW : WF S) (y : Nat) : mn S y ≤ 20 := by
  have h1 := cn_le S (od S) y (S 1).toNat
  have h2 := hW.lim
  have h3 := hW.n
  unfold mn
  split <;> omega
set_option maxHeartbeats 8000000 in
theorem c_L_addsUp (hI : CI S n H N T f G h) (hW : WF S) (hX : PX S) (hQ : ∀ h', Fr 15 38 h h' → Q (some (.int 1)) h') : SC y_L_addsUp [.ref 0] h Q := by
  have hn := hW.n
  have hlim := hW.lim
  have h5 := hW.2.2.2.2.2.1
  refine w_call IS_ok [21] ok_L_addsUp rfl rfl ?_
  have a1 : ∀ k, k ≤ 20 → A1 S k ≤ 20 * 48 := fun k hk => Nat.le_trans (sm_le (b := 48) (fun i _ => by split; exact lns_le S i 48; omega)) (by omega)
  have a2 : ∀ k, k ≤ 20 → A2 S k ≤ 20 * 2000 := fun k hk => Nat.le_trans (sm_le (b := 2000) (fun i _ => by split; exact Nat.le_of_lt (hT_b S hW i); omega)) (by omega)
  have a3 : ∀ k, k ≤ 20 → A3 S k ≤ 20 * 1 := fun k hk => Nat.le_trans (sm_le (b := 1) (fun i _ => by split; (split <;> omega); omega)) (by omega)
  have b1 : ∀ k, k ≤ 48 → B1 S k ≤ 48 * 20 := fun k hk => Nat.le_trans (sm_le (b := 20) (fun i _ => Nat.le_trans (cn_le S (od S) i (S 1).toNat) hn.2.1)) (by omega)
  have b2 : ∀ k, k ≤ 48 → B2 S k ≤ 48 * 20 := fun k hk => Nat.le_trans (sm_le (b := 20) (fun i _ => mn_le hW i)) (by omega)
  have hdt := fun k => adt_le S k
  -- the end
  have fin : ∀ (hc : St) (z1 z2 z3 z4 z5 z6 z7 z8 : Int32), Fr 15 38 h hc → z1 = iI (B1 S 48 : Nat) → z2 = iI (B2 S 48 : Nat) → z3 = iI (A1 S (S 0).toNat : Nat) → z4 = iI (A2 S (S 0).toNat : Nat) → z5 = iI (A3 S (S 0).toNat : Nat) → z6 = iI (PB S (S 0).toNat : Nat) → z7 = iI (adt S 48 : Nat) → SR y_L_addsUp 281 [some (.ref 0), some (.int z1), some (.int z2), some (.int z3), some (.int z4), some (.int z5), some (.int z6), some (.int z7), some (.int z8)] [] hc Q := by
    intro hc z1 z2 z3 z4 z5 z6 z7 z8 fr e1 e2 e3 e4 e5 e6 e7
    have k1 := b1 48 (by omega)
    have k2 := b2 48 (by omega)
    have k3 := a1 (S 0).toNat (by omega)
    have k4 := a2 (S 0).toNat (by omega)
    have k5 := a3 (S 0).toNat (by omega)
    have s1 : A1 S (S 0).toNat = B1 S 48 := lns_sum hW
    have s2 : A2 S (S 0).toNat = sm (hdL S) 48 := hT_sum hW
    have s3 : A3 S (S 0).toNat = hidN S := hid_sum hW
    have s4 := B12 hW 48
    have s5 := hidN_le S
    have k7 := hdt 48
    refine w_loop IS_ok [] ok_L_addsUp ?_
    refine w_eq (B1 S 48 : Nat) (A1 S (S 0).toNat : Nat) (fun _ => ?_) (fun g => absurd (by omega) g) e1 e3
    refine w_eq ((B1 S 48 : Nat) - (B2 S 48 : Nat)) (A2 S (S 0).toNat : Nat) (fun _ => ?_) (fun g => absurd (by omega) g) (by rw [e1, e2]; exact iI_sub _ _) e4
    refine c_P_count (hI.lk fr) hW 6 (fun h2 r f2 hr => ?_) rfl (by omega)
    rw [cnt_6 hr]
    refine w_eq (A3 S (S 0).toNat : Nat) (hidN S : Nat) (fun _ => ?_) (fun g => absurd (by omega) g) e5 rfl
    refine c_P_count (hI.lk (fr.t f2)) hW 0 (fun h3 r3 f3 hr3 => ?_) rfl (by omega)
    rw [cnt_0 hr3]
    have hp : ((1 : Int32) <<< (iI (S 1) &&& 31)) - 1 = iI ((2 ^ (S 1).toNat - 1 : Nat) : Int) := by
      have e := shN (a := 1) (c := (S 1).toNat) (by have := Nat.pow_le_pow_right (n := 2) (by decide) hn.2.1; omega) (by omega)
      have e8 : iI (S 1) = nI (S 1).toNat := congrArg iI hn.1
      rw [e8]
      show (nI 1 <<< (nI (S 1).toNat &&& 31)) - nI 1 = _
      rw [e, Nat.one_mul]
      exact pk_sub (Nat.one_le_two_pow)
    have hpb := PB_b hW (S 0).toNat
    have hpa := PB_all hW
    rw [← hpa] at hp
    refine w_eq (PB S (S 0).toNat : Nat) (PB S (S 0).toNat : Nat) (fun _ => ?_) (fun g => absurd rfl g) e6 hp
    refine c_P_count (hI.lk ((fr.t f2).t f3)) hW 7 (fun h4 r4 f4 hr4 => ?_) rfl (by omega)
    rw [cnt_7 hr4]
    refine w_eq (adt S 48 : Nat) (adt S 48 : Nat) (fun _ => ?_) (fun g => absurd rfl g) e7 rfl
    refine c_P_worstLine (hI.lk (((fr.t f2).t f3).t f4)) hW (fun h5' r5 m5 f5 hr5 => ?_)
    have hfr := (((fr.t f2).t f3).t f4).t f5
    have hno := hid_none hW
    have r5b : r5 = -109 ∨ (0 ≤ r5 ∧ r5 < 48) := by
      rcases hr5 with ⟨w, -⟩ | ⟨y, w1, w2, -⟩
      · exact Or.inl w
      · exact Or.inr (by omega)
    have hiff : r5 = -109 ↔ hidN S = 0 := by
      rw [hno]
      rcases hr5 with ⟨w1, w2, w3⟩ | ⟨y, w1, w2, w3, w4, -⟩
      · exact ⟨fun _ => w3, fun _ => w1⟩
      · exact ⟨fun z => by omega, fun z => by have := z y w1; omega⟩
    refine w_eq r5 (-109) (fun g => ?_) (fun g => ?_) rfl rfl (by omega)
    · have g2 := hiff.mp g
      refine w_eq (A3 S (S 0).toNat : Nat) 0 (fun _ => ?_) (fun g3 => absurd (by omega) g3) e5 rfl
      first | exact ⟨Or.inr rfl, hQ _ hfr⟩ | (refine w_t rfl ?_; exact ⟨Or.inr rfl, hQ _ hfr⟩)
    · have g2 : ¬ hidN S = 0 := fun z => g (hiff.mpr z)
      refine w_eq (A3 S (S 0).toNat : Nat) 0 (fun g3 => absurd (by omega) g2) (fun _ => ?_) e5 rfl
      first | exact ⟨Or.inr rfl, hQ _ hfr⟩ | (refine w_t rfl ?_; exact ⟨Or.inr rfl, hQ _ hfr⟩)
  have loop2 : ∀ (m y : Nat) (hc : St) (z1 z2 z3 z4 z5 z6 z7 z8 : Int32), y + m = 48 → Fr 15 38 h hc → z1 = iI (B1 S y : Nat) → z2 = iI (B2 S y : Nat) → z3 = iI (A1 S (S 0).toNat : Nat) → z4 = iI (A2 S (S 0).toNat : Nat) → z5 = iI (A3 S (S 0).toNat : Nat) → z6 = iI (PB S (S 0).toNat : Nat) → z7 = iI (adt S y : Nat) → z8 = iI (y : Nat) → SR y_L_addsUp 194 [some (.ref 0), some (.int z1), some (.int z2), some (.int z3), some (.int z4), some (.int z5), some (.int z6), some (.int z7), some (.int z8)] [] hc Q := by
    intro m
    induction m with
    | zero =>
      intro y hc z1 z2 z3 z4 z5 z6 z7 z8 hm fr e1 e2 e3 e4 e5 e6 e7 e8
      have hy : y = 48 := by omega
      subst hy
      refine w_loop IS_ok [194, 281] ok_L_addsUp ?_
      exact w_le 48 48 (fun _ => fin hc _ _ _ _ _ _ _ _ fr e1 e2 e3 e4 e5 e6 e7) (fun _ => by omega) rfl e8
    | succ m ih =>
      intro y hc z1 z2 z3 z4 z5 z6 z7 z8 hm fr e1 e2 e3 e4 e5 e6 e7 e8
      refine w_loop IS_ok [194, 281] ok_L_addsUp ?_
      refine w_le 48 y (fun _ => by omega) (fun _ => ?_) rfl e8
      refine c_P_line (hI.lk fr) hW y 0 (fun h2 r2 f2 hr2 => ?_) e8 rfl (by omega) (by omega)
      rw [lin_0 (by omega) hr2]
      refine c_P_line (hI.lk (fr.t f2)) hW y 1 (fun h3 r3 f3 hr3 => ?_) e8 rfl (by omega) (by omega)
      rw [lin_1 (by omega) hr3, ← mn_i hW]
      refine c_P_line (hI.lk ((fr.t f2).t f3)) hW y 2 (fun h4 r4 f4 hr4 => ?_) e8 rfl (by omega) (by omega)
      rw [lin_2 (by omega) hr4]
      refine c_P_line (hI.lk (((fr.t f2).t f3).t f4)) hW y 1 (fun h5' r5 f5 hr5 => ?_) e8 rfl (by omega) (by omega)
      rw [lin_1 (by omega) hr5, ← mn_i hW]
      refine c_P_line (hI.lk ((((fr.t f2).t f3).t f4).t f5)) hW y 0 (fun h6 r6 f6 hr6 => ?_) e8 rfl (by omega) (by omega)
      rw [lin_0 (by omega) hr6]
      refine c_P_count (hI.lk (((((fr.t f2).t f3).t f4).t f5).t f6)) hW 2 (fun h7 r7 f7 hr7 => ?_) rfl (by omega)
      rw [cnt_2 hr7]
      have fr7 := (((((fr.t f2).t f3).t f4).t f5).t f6).t f7
      have hc1 := cn_le S (od S) y (S 1).toNat
      have hmn := mn_i hW y
      have hml := mn_le hW y
      have nx : ∀ (hc' : St), Fr 15 38 h hc' → SR y_L_addsUp 194 [some (.ref 0), some (.int (z1 + iI (cn S (od S) y (S 1).toNat : Nat))), some (.int (z2 + iI (mn S y : Nat))), some (.int z3), some (.int z4), some (.int z5), some (.int z6), some (.int (z7 + iI (dts S y 64 : Nat))), some (.int (z8 + 1))] [] hc' Q := by
        intro hc' fr'
        refine ih (y + 1) hc' _ _ _ _ _ _ _ _ (by omega) fr' ?_ ?_ e3 e4 e5 e6 ?_ (iI_1 e8)
        · rw [e1]; exact (iI_add _ _).trans (congrArg iI (by show _ = ((B1 S y + cn S (od S) (y : Nat) (S 1).toNat : Nat) : Int); omega))
        · rw [e2]; exact (iI_add _ _).trans (congrArg iI (by show _ = ((B2 S y + mn S y : Nat) : Int); omega))
        · rw [e7]; exact (iI_add _ _).trans (congrArg iI (by show _ = ((adt S y + dts S (y : Nat) 64 : Nat) : Int); omega))
      refine w_le (S 2) (cn S (od S) y (S 1).toNat : Nat) (fun g => ?_) (fun g => ?_) rfl rfl
      · refine c_P_count (hI.lk fr7) hW 2 (fun h8 r8 f8 hr8 => ?_) rfl (by omega)
        rw [cnt_2 hr8]
        rw [if_neg (by omega)] at hmn
        exact w_eq (mn S y : Nat) (S 2) (fun _ => nx _ (fr7.t f8)) (fun z => absurd hmn z) rfl rfl
      · refine c_P_line (hI.lk fr7) hW y 0 (fun h8 r8 f8 hr8 => ?_) e8 rfl (by omega) (by omega)
        rw [lin_0 (by omega) hr8]
        rw [if_pos (by omega)] at hmn
        exact w_eq (mn S y : Nat) (cn S (od S) y (S 1).toNat : Nat) (fun _ => nx _ (fr7.t f8)) (fun z => absurd hmn z) rfl rfl
  have loop1 : ∀ (m k : Nat) (hc : St) (z3 z4 z5 z6 z8 : Int32), k + m = (S 0).toNat → Fr 15 38 h hc → z3 = iI (A1 S k : Nat) → z4 = iI (A2 S k : Nat) → z5 = iI (A3 S k : Nat) → z6 = iI (PB S k : Nat) → z8 = iI (k : Nat) → SR y_L_addsUp 21 [some (.ref 0), some (.int 0), some (.int 0), some (.int z3), some (.int z4), some (.int z5), some (.int z6), some (.int 0), some (.int z8)] [] hc Q := by
    intro m
    induction m with
    | zero =>
      intro k hc z3 z4 z5 z6 z8 hm fr e3 e4 e5 e6 e8
      have hk : k = (S 0).toNat := by omega
      refine w_loop IS_ok [21, 194] ok_L_addsUp ?_
      refine c_P_count (hI.lk fr) hW 1 (fun h2 r2 f2 hr2 => ?_) rfl (by omega)
      rw [cnt1 hr2]
      refine w_le (S 0) k (fun _ => ?_) (fun _ => by omega) rfl e8
      rw [hk] at e3 e4 e5 e6
      exact loop2 48 0 h2 _ _ _ _ _ _ _ _ rfl (fr.t f2) rfl rfl e3 e4 e5 e6 rfl rfl
    | succ m ih =>
      intro k hc z3 z4 z5 z6 z8 hm fr e3 e4 e5 e6 e8
      refine w_loop IS_ok [21, 88, 194] ok_L_addsUp ?_
      refine c_P_count (hI.lk fr) hW 1 (fun h2 r2 f2 hr2 => ?_) rfl (by omega)
      rw [cnt1 hr2]
      refine w_le (S 0) k (fun _ => by omega) (fun _ => ?_) rfl e8
      have fr2 := fr.t f2
      refine c_P_puppet (hI.lk fr2) hW k 0 (fun h3 r3 f3 hr3 => ?_) e8 rfl (by omega) (by omega)
      obtain ⟨p1, p2⟩ := pup_x hW hr3
      have fr3 := fr2.t f3
      have s1 : A1 S (k + 1) = A1 S k + (if thr S (k : Int) then lns S k 48 else 0) := rfl
      have s2 : A2 S (k + 1) = A2 S k + (if thr S (k : Int) then hT S (od S) (S 1).toNat 48 k else 0) := rfl
      have s3 : A3 S (k + 1) = A3 S k + (if thr S (k : Int) then (if 0 < hT S (od S) (S 1).toNat 48 k then 1 else 0) else 0) := rfl
      have s6 : PB S (k + 1) = if thr S (k : Int) then PB S k ||| 2 ^ (pos S (k : Int) (S 1).toNat).toNat else PB S k := rfl
      refine w_eq r3 (-101) (fun g => ?_) (fun g => ?_) rfl rfl p2
      · have g := p1.mp g
        rw [if_neg g] at s1 s2 s3 s6
        exact ih (k + 1) _ _ _ _ _ _ (by omega) fr3 (by rw [s1]; exact e3) (by rw [s2]; exact e4) (by rw [s3]; exact e5) (by rw [s6]; exact e6) (iI_1 e8)
      have g : thr S (k : Int) := Classical.byContradiction (fun z => g (p1.mpr z))
      rw [if_pos g] at s1 s2 s3 s6
      have hk20 : k < 20 := by omega
      have hpos := thr_pos g
      have hx := hX k hk20
      have hw := hW.wp k hk20
      have l48 := lns_le S k 48
      have l20 := hT_b S hW k
      refine c_P_puppet (hI.lk fr3) hW k 7 (fun h4 r4 f4 hr4 => ?_) e8 rfl (by omega) (by omega)
      rw [pup_7 g hr4]
      have fr4 := fr3.t f4
      refine c_P_puppet (hI.lk fr4) hW k 8 (fun h5' r5 f5 hr5 => ?_) e8 rfl (by omega) (by omega)
      rw [pup_8 g hr5]
      have fr5 := fr4.t f5
      refine c_P_puppet (hI.lk fr5) hW k 8 (fun h6 r6 f6 hr6 => ?_) e8 rfl (by omega) (by omega)
      rw [pup_8 g hr6]
      have fr6 := fr5.t f6
      -- what is left of a turn: many and one is known
      have rest : ∀ (hc' : St) (v5 : Int32), Fr 15 38 h hc' → v5 = iI (if 0 < hT S (od S) (S 1).toNat 48 k then 1 else 0 : Nat) → SR y_L_addsUp 88 [some (.ref 0), some (.int 0), some (.int 0), some (.int (z3 + iI (lns S k 48 : Nat))), some (.int (z4 + iI (hT S (od S) (S 1).toNat 48 k : Nat))), some (.int (z5 + v5)), some (.int z6), some (.int 0), some (.int z8)] [] hc' Q := by
        intro hc' v5 fr' ev
        refine w_loop IS_ok [21, 194] ok_L_addsUp ?_
        refine c_P_puppet (hI.lk fr') hW k 6 (fun h7 r7 f7 hr7 => ?_) e8 rfl (by omega) (by omega)
        rw [pup_6 g hr7]
        have fr7 := fr'.t f7
        refine c_P_puppet (hI.lk fr7) hW k 10 (fun h8 r8 f8 hr8 => ?_) e8 rfl (by omega) (by omega)
        have v8 : r8 = S (26 + 9 * k + 7) := pup_hi g (by omega) hr8
        rw [v8]
        have fr8 := fr7.t f8
        refine c_P_puppet (hI.lk fr8) hW k 11 (fun h9 r9 f9 hr9 => ?_) e8 rfl (by omega) (by omega)
        have v9 : r9 = S (26 + 9 * k + 8) := pup_hi g (by omega) hr9
        rw [v9]
        have fr9 := fr8.t f9
        refine w_lt (S (26 + 9 * k + 8)) (S (26 + 9 * k + 7)) (fun z => by omega) (fun _ => ?_) rfl rfl
        refine c_P_puppet (hI.lk fr9) hW k 11 (fun h10 r10 f10 hr10 => ?_) e8 rfl (by omega) (by omega)
        have v10 : r10 = S (26 + 9 * k + 8) := pup_hi g (by omega) hr10
        rw [v10]
        have fr10 := fr9.t f10
        refine c_P_puppet (hI.lk fr10) hW k 9 (fun h11 r11 f11 hr11 => ?_) e8 rfl (by omega) (by omega)
        have v11 : r11 = S (26 + 9 * k + 6) := pup_hi g (by omega) hr11
        rw [v11]
        have fr11 := fr10.t f11
        refine w_lt (S (26 + 9 * k + 6)) (S (26 + 9 * k + 8)) (fun z => by omega) (fun _ => ?_) rfl rfl
        refine c_P_puppet (hI.lk fr11) hW k 9 (fun h12 r12 f12 hr12 => ?_) e8 rfl (by omega) (by omega)
        have v12 : r12 = S (26 + 9 * k + 6) := pup_hi g (by omega) hr12
        rw [v12]
        have fr12 := fr11.t f12
        refine c_P_count (hI.lk fr12) hW 5 (fun h13 r13 f13 hr13 => ?_) rfl (by omega)
        rw [cnt_5 hr13]
        have fr13 := fr12.t f13
        refine w_lt (S 5) (S (26 + 9 * k + 6)) (fun z => by omega) (fun _ => ?_) rfl rfl
        refine c_P_hiddenIn (hI.lk fr13) hW k 1 (fun h14 r14 f14 hr14 => ?_) e8 rfl (by omega) (by omega)
        rw [hin_1 g hr14]
        have fr14 := fr13.t f14
        refine c_P_puppet (hI.lk fr14) hW k 8 (fun h15 r15 f15 hr15 => ?_) e8 rfl (by omega) (by omega)
        rw [pup_8 g hr15]
        have fr15 := fr14.t f15
        have nx : ∀ (w6 : Int32), w6 = iI (PB S (k + 1) : Nat) → SR y_L_addsUp 21 [some (.ref 0), some (.int 0), some (.int 0), some (.int (z3 + iI (lns S k 48 : Nat))), some (.int (z4 + iI (hT S (od S) (S 1).toNat 48 k : Nat))), some (.int (z5 + v5)), some (.int w6), some (.int 0), some (.int (z8 + 1))] [] h15 Q := by
          intro w6 ew
          refine ih (k + 1) h15 _ _ _ _ _ (by omega) fr15 ?_ ?_ ?_ ew (iI_1 e8)
          · rw [e3, s1]; exact (iI_add _ _).trans (congrArg iI (by omega))
          · rw [e4, s2]; exact (iI_add _ _).trans (congrArg iI (by omega))
          · rw [e5, s3, ev]; exact (iI_add _ _).trans (congrArg iI (by omega))
        have ew : z6 ||| ((1 : Int32) <<< (iI (pos S (k : Int) (S 1).toNat) &&& 31)) = iI (PB S (k + 1) : Nat) := by
          rw [e6, s6]
          have e9 : iI (pos S (k : Int) (S 1).toNat) = iI ((pos S (k : Int) (S 1).toNat).toNat : Nat) := congrArg iI (by omega)
          rw [e9]
          exact bit_or (by omega)
        have nx' := nx _ ew
        refine w_le (hT S (od S) (S 1).toNat 48 k : Nat) 0 (fun z => ?_) (fun z => ?_) rfl rfl
        · refine w_eq (if 0 < hT S (od S) (S 1).toNat 48 k then 1 else 0 : Nat) 0 (fun _ => nx') (fun w => absurd (by rw [if_neg (by omega)]; rfl) w) rfl rfl (by split <;> omega)
        · refine w_eq (if 0 < hT S (od S) (S 1).toNat 48 k then 1 else 0 : Nat) 1 (fun _ => nx') (fun w => absurd (by rw [if_pos (by omega)]; rfl) w) rfl rfl (by split <;> omega)
      refine w_le (hT S (od S) (S 1).toNat 48 k : Nat) 0 (fun z => ?_) (fun z => ?_) rfl rfl
      · exact rest _ 0 fr6 (by rw [if_neg (by omega)]; rfl)
      · exact rest _ 1 fr6 (by rw [if_pos (by omega)]; rfl)
  exact loop1 (S 0).toNat 0 h _ _ _ _ _ (by omega) Fr.rf rfl rfl rfl rfl rfl
end
