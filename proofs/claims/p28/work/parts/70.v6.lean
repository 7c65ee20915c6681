/-! a line, puppet by puppet and dot by dot -/
theorem cn_ex {S : Nat → Int} {o : Nat → Nat} {y : Int} {i : Nat} : ∀ {m : Nat}, i < cn S o y m → ∃ j, j < m ∧ stn S (o j) y ∧ cn S o y j = i
  | 0, h => by simp [cn, sm] at h
  | m + 1, h => by
    by_cases z : i < cn S o y m
    · obtain ⟨j, h1, h2⟩ := cn_ex z
      exact ⟨j, by omega, h2⟩
    · by_cases z2 : stn S (o m) y
      · rw [cn_t z2] at h
        exact ⟨m, by omega, z2, by omega⟩
      · rw [cn_f z2] at h
        omega
section
variable {S : Nat → Int} {n : Nat} {H : Nat → Nat → Int} {N : Nat} {T : Nat → Nat} {f : Nat} {G : Nat → Int} {h : St} {Q : Option Value → St → Prop}
theorem mn_b (hW : WF S) (y : Nat) : (mn S y : Int) ≤ S 2 ∧ mn S y ≤ cn S (od S) y (S 1).toNat := by
  have := mn_i hW y
  have h2 := hW.lim
  by_cases z : (cn S (od S) y (S 1).toNat : Int) < S 2
  · rw [if_pos z] at this; omega
  · rw [if_neg z] at this; omega
theorem shn_at (hW : WF S) {y i : Nat} (hy : y < 48) (hi : i < mn S y) {r : Int} (h : ShnR S y i r) : ∃ j, j < (S 1).toNat ∧ vis S y j ∧ cn S (od S) y j = i ∧ r = (od S j : Int) := by
  obtain ⟨b1, b2⟩ := mn_b hW y
  obtain ⟨j, j1, j2, j3⟩ := cn_ex (S := S) (o := od S) (y := (y : Int)) (i := i) (m := (S 1).toNat) (by omega)
  rcases h with ⟨h1, -⟩ | ⟨h1, ⟨k, k1, k2, k3, k4⟩ | ⟨-, k2⟩⟩
  · exact absurd ⟨by omega, by omega⟩ h1
  · exact ⟨k, k1, k2, by omega, by rw [k4]; exact (hW.od k1).1⟩
  · exact absurd (by omega) (k2 j j1 ⟨j2, by omega⟩)
theorem shn_no (hW : WF S) {y : Nat} (hy : y < 48) {r : Int} (h : ShnR S y (mn S y : Nat) r) : r = -109 := by
  have hm := mn_i hW y
  rcases h with ⟨h1, -⟩ | ⟨h1, ⟨k, k1, k2, k3, k4⟩ | ⟨k1, -⟩⟩
  · exact absurd ⟨by omega, by omega⟩ h1
  · have h3 := cn_lt (S := S) (o := od S) (y := (y : Int)) k1 k2.1
    have h4 := k2.2
    by_cases z : (cn S (od S) y (S 1).toNat : Int) < S 2
    · rw [if_pos z] at hm; omega
    · rw [if_neg z] at hm; omega
  · exact k1
theorem dot_c (hW : WF S) {x y : Nat} (hx : x < 64) (hy : y < 48) {c : Int} (h : DotR S x y c) : ((0 < c ↔ lit S x y) ∧ 0 ≤ c ∧ c ≤ 9) ∧ (c ≠ 0 → ∃ j, j < (S 1).toNat ∧ vis S y j ∧ setp S (od S j) x y ∧ c = S (26 + 9 * od S j + 4)) := by
  rcases h with ⟨h1, -⟩ | ⟨-, h2⟩
  · exact absurd ⟨by omega, by omega⟩ h1
  · refine ⟨ColR_pos hW h2, fun hc => ?_⟩
    obtain ⟨r, hr, e⟩ := h2
    by_cases z : r = -109
    · rw [if_pos z] at e; exact absurd e hc
    · rw [if_neg z] at e
      rcases hr with ⟨k, k1, k2, -, k4, -, k6⟩ | ⟨k1, -⟩
      · refine ⟨k, k1, k2, k4, ?_⟩
        rw [e, k6]
      · exact absurd k1 z
theorem od_thr (hW : WF S) {j : Nat} (hj : j < (S 1).toNat) : thr S (od S j : Int) := (thr_od hW).mpr ⟨j, hj, rfl⟩
theorem mn_lt {y i j : Nat} (hW : WF S) (hj : j < (S 1).toNat) (hv : vis S y j) (hi : cn S (od S) y j = i) : i < mn S y := by
  have hm := mn_i hW y
  have h3 := cn_lt (S := S) (o := od S) (y := (y : Int)) hj hv.1
  have h4 := hv.2
  by_cases z : (cn S (od S) y (S 1).toNat : Int) < S 2
  · rw [if_pos z] at hm; omega
  · rw [if_neg z] at hm; omega
set_option maxHeartbeats 8000000 in
theorem c_L_isLine {x : Int32} (hI : CI S n H N T f G h) (hW : WF S) (y : Nat) (hy : y < 48) (hx : x = iI (y : Nat)) (hQ : ∀ h', Fr 15 38 h h' → Q (some (.int 1)) h') : SC y_L_isLine [.ref 0, .int x] h Q := by
  have hn := hW.n
  have hml := mn_le hW y
  refine w_call IS_ok [15] ok_L_isLine rfl rfl ?_
  refine c_P_line hI hW y 1 (fun h1 r1 f1 hr1 => ?_) hx rfl (by omega) (by omega)
  rw [lin_1 hy hr1, ← mn_i hW]
  have fin : ∀ (hc : St) (z2 z4 z5 : Int32) (L6 L7 L8 : Option Value), Fr 15 38 h hc → z4 = iI (dts S y 64 : Nat) → SR y_L_isLine 178 [some (.ref 0), some (.int x), some (.int z2), some (.int (iI (mn S y : Nat))), some (.int z4), some (.int z5), L6, L7, L8] [] hc Q := by
    intro hc z2 z4 z5 L6 L7 L8 fr e4
    have hd := dts_le S y 64
    refine w_loop IS_ok [] ok_L_isLine ?_
    refine c_P_shown (hI.lk fr) hW y (mn S y : Nat) (fun h2 r2 f2 hr2 => ?_) hx rfl (by omega) (by omega)
    have er := shn_no hW hy hr2
    refine w_eq r2 (-109) (fun _ => ?_) (fun g => absurd er g) rfl rfl
    refine c_P_line (hI.lk (fr.t f2)) hW y 2 (fun h3 r3 f3 hr3 => ?_) hx rfl (by omega) (by omega)
    rw [lin_2 hy hr3]
    refine w_eq (dts S y 64 : Nat) (dts S y 64 : Nat) (fun _ => ?_) (fun g => absurd rfl g) e4 rfl
    exact ⟨Or.inr rfl, hQ _ ((fr.t f2).t f3)⟩
  have loop2 : ∀ (m a : Nat) (hc : St) (z2 z4 z5 : Int32) (L6 L7 L8 : Option Value), a + m = 64 → Fr 15 38 h hc → z4 = iI (dts S y a : Nat) → z5 = iI (a : Nat) → SR y_L_isLine 78 [some (.ref 0), some (.int x), some (.int z2), some (.int (iI (mn S y : Nat))), some (.int z4), some (.int z5), L6, L7, L8] [] hc Q := by
    intro m
    induction m with
    | zero =>
      intro a hc z2 z4 z5 L6 L7 L8 hm fr e4 e5
      have ha : a = 64 := by omega
      subst ha
      refine w_loop IS_ok [78, 178] ok_L_isLine ?_
      exact w_le 64 64 (fun _ => fin hc _ _ _ _ _ _ fr e4) (fun _ => by omega) rfl e5
    | succ m ih =>
      intro a hc z2 z4 z5 L6 L7 L8 hm fr e4 e5
      refine w_loop IS_ok [78, 109, 178] ok_L_isLine ?_
      refine w_le 64 a (fun _ => by omega) (fun _ => ?_) rfl e5
      refine c_P_dot (hI.lk fr) hW a y (fun h2 c f2 hr2 => ?_) e5 hx (by omega) (by omega)
      have fr2 := fr.t f2
      obtain ⟨⟨d1, d2, d3⟩, d4⟩ := dot_c hW (by omega) hy hr2
      -- behind the inner loop
      have nx : ∀ (h3 : St) (z8 : Int32), Fr 15 38 h h3 → SR y_L_isLine 150 [some (.ref 0), some (.int x), some (.int z2), some (.int (iI (mn S y : Nat))), some (.int z4), some (.int z5), some (.int (iI c)), some (.int 1), some (.int z8)] [] h3 Q := by
        intro h3 z8 fr3
        have hda := dts_le S y a
        refine w_loop IS_ok [78, 178] ok_L_isLine ?_
        have key : ∀ v : Int32, v = iI (cI (lit S a y) : Nat) → SR y_L_isLine 78 [some (.ref 0), some (.int x), some (.int z2), some (.int (iI (mn S y : Nat))), some (.int (z4 + v)), some (.int (z5 + 1)), some (.int (iI c)), some (.int 1), some (.int z8)] [] h3 Q := by
          intro v hv
          refine ih (a + 1) h3 _ _ _ _ _ _ (by omega) fr3 ?_ (iI_1 e5)
          rw [e4, hv]
          exact (iI_add _ _).trans (congrArg iI (by show _ = ((dts S y a + cI (lit S (a : Nat) y) : Nat) : Int); omega))
        refine w_le c 0 (fun g => ?_) (fun g => ?_) rfl rfl
        · exact key 0 (by rw [cI_f (fun z => by have := d1.mpr z; omega)]; rfl)
        · exact key 1 (by rw [cI_t (d1.mp g)]; rfl)
      have inner : ∀ (mm k : Nat) (h3 : St) (z7 z8 : Int32), k + mm = mn S y → Fr 15 38 h h3 → z8 = iI (k : Nat) → (z7 = 1 ∨ (z7 = 0 ∧ ∃ j, j < (S 1).toNat ∧ vis S y j ∧ k ≤ cn S (od S) y j ∧ c = S (26 + 9 * od S j + 4))) → SR y_L_isLine 109 [some (.ref 0), some (.int x), some (.int z2), some (.int (iI (mn S y : Nat))), some (.int z4), some (.int z5), some (.int (iI c)), some (.int z7), some (.int z8)] [] h3 Q := by
        intro mm
        induction mm with
        | zero =>
          intro k h3 z7 z8 hk fr3 e8 inv
          refine w_loop IS_ok [109, 150] ok_L_isLine ?_
          refine w_le (mn S y : Nat) k (fun _ => ?_) (fun _ => by omega) rfl e8
          rcases inv with e7 | ⟨-, j, j1, j2, j3, j4⟩
          · subst e7; exact nx h3 _ fr3
          · have := mn_lt hW j1 j2 rfl
            omega
        | succ mm ih2 =>
          intro k h3 z7 z8 hk fr3 e8 inv
          refine w_loop IS_ok [109, 150] ok_L_isLine ?_
          refine w_le (mn S y : Nat) k (fun _ => by omega) (fun _ => ?_) rfl e8
          rcases inv with e7 | ⟨e7, j, j1, j2, j3, j4⟩
          · subst e7
            exact ih2 (k + 1) h3 1 _ (by omega) fr3 (iI_1 e8) (Or.inl rfl)
          · subst e7
            refine c_P_shown (hI.lk fr3) hW y k (fun h4 r4 f4 hr4 => ?_) hx e8 (by omega) (by omega)
            obtain ⟨q, q1, q2, q3, q4⟩ := shn_at hW hy (by omega) hr4
            subst q4
            have hq := (hW.od q1).2.1
            refine c_P_puppet (hI.lk (fr3.t f4)) hW (od S q : Nat) 4 (fun h5 r5 f5 hr5 => ?_) rfl rfl (by omega) (by omega)
            have v5 : r5 = S (26 + 9 * od S q + 4) := pup_lo (od_thr hW q1) (by omega) hr5
            have hwq := (hW.wp _ hq).2.2.2.2.1
            rw [v5]
            have fr5 := (fr3.t f4).t f5
            refine w_eq (S (26 + 9 * od S q + 4)) c (fun g => ?_) (fun g => ?_) rfl rfl
            · exact ih2 (k + 1) h5 1 _ (by omega) fr5 (iI_1 e8) (Or.inl rfl)
            · refine ih2 (k + 1) h5 0 _ (by omega) fr5 (iI_1 e8) (Or.inr ⟨rfl, j, j1, j2, ?_, j4⟩)
              by_cases z : cn S (od S) y j = k
              · have := cn_inj (S := S) (o := od S) (y := (y : Int)) q2.1 j2.1 (by omega)
                subst this
                exact absurd j4.symm g
              · omega
      refine w_eq c 0 (fun g => ?_) (fun g => ?_) rfl rfl
      · exact inner (mn S y) 0 h2 1 0 (by omega) fr2 rfl (Or.inl rfl)
      · obtain ⟨j, j1, j2, -, j4⟩ := d4 g
        exact inner (mn S y) 0 h2 0 0 (by omega) fr2 rfl (Or.inr ⟨rfl, j, j1, j2, by omega, j4⟩)
  have loop1 : ∀ (m k : Nat) (hc : St) (b : Int) (z2 z5 : Int32) (L6 : Option Value), k + m = mn S y → Fr 15 38 h hc → z2 = iI b → z5 = iI (k : Nat) → ((k = 0 ∧ b = -1) ∨ ∃ j : Nat, j < (S 1).toNat ∧ b = j ∧ vis S y j ∧ cn S (od S) y j + 1 = k) → SR y_L_isLine 15 [some (.ref 0), some (.int x), some (.int z2), some (.int (iI (mn S y : Nat))), some (.int 0), some (.int z5), L6, none, none] [] hc Q := by
    intro m
    induction m with
    | zero =>
      intro k hc b z2 z5 L6 hm fr e2 e5 inv
      refine w_loop IS_ok [15, 78] ok_L_isLine ?_
      refine w_le (mn S y : Nat) k (fun _ => ?_) (fun _ => by omega) rfl e5
      exact loop2 64 0 hc _ _ _ _ _ _ rfl fr rfl rfl
    | succ m ih =>
      intro k hc b z2 z5 L6 hm fr e2 e5 inv
      refine w_loop IS_ok [15, 78] ok_L_isLine ?_
      refine w_le (mn S y : Nat) k (fun _ => by omega) (fun _ => ?_) rfl e5
      refine c_P_shown (hI.lk fr) hW y k (fun h2 r2 f2 hr2 => ?_) hx e5 (by omega) (by omega)
      obtain ⟨q, q1, q2, q3, q4⟩ := shn_at hW hy (by omega) hr2
      subst q4
      have hq := hW.od q1
      have fr2 := fr.t f2
      have g := od_thr hW q1
      have hpos : pos S (od S q : Int) (S 1).toNat = q := pos_is hW q1 hq.1
      refine w_lt (od S q : Nat) 0 (fun z => by omega) (fun _ => ?_) rfl rfl
      refine c_P_puppet (hI.lk fr2) hW (od S q : Nat) 6 (fun h3 r3 f3 hr3 => ?_) rfl rfl (by omega) (by omega)
      rw [pup_6 g hr3, hpos]
      have fr3 := fr2.t f3
      have hbq : b < q ∧ -1 ≤ b ∧ b < 20 := by
        rcases inv with ⟨i1, i2⟩ | ⟨j, j1, j2, j3, j4⟩
        · omega
        · refine ⟨?_, by omega, by omega⟩
          by_cases z : q ≤ j
          · have := cn_mono (S := S) (o := od S) (y := (y : Int)) z
            omega
          · omega
      refine w_le q b (fun z => by omega) (fun _ => ?_) rfl e2
      refine c_P_puppet (hI.lk fr3) hW (od S q : Nat) 1 (fun h4 r4 f4 hr4 => ?_) rfl rfl (by omega) (by omega)
      have v4 : r4 = S (26 + 9 * od S q + 1) := pup_lo g (by omega) hr4
      have hwq := (hW.wp _ hq.2.1).2.1
      rw [v4]
      have fr4 := fr3.t f4
      have hst := q2.1.1
      refine w_le (S (26 + 9 * od S q + 1)) y (fun _ => ?_) (fun z => by omega) rfl hx
      refine c_P_puppet (hI.lk fr4) hW (od S q : Nat) 6 (fun h5 r5 f5 hr5 => ?_) rfl rfl (by omega) (by omega)
      rw [pup_6 g hr5, hpos]
      exact ih (k + 1) h5 q _ _ _ (by omega) (fr4.t f5) rfl (iI_1 e5) (Or.inr ⟨q, q1, rfl, q2, by omega⟩)
  exact loop1 (mn S y) 0 h1 (-1) _ _ _ (by omega) f1 rfl rfl (Or.inl ⟨rfl, rfl⟩)
end
