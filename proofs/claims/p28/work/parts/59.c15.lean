/-! the class: the dots of a line, clashes -/
theorem sm_rev (f : Nat → Nat) : ∀ n, sm f n = sm (fun i => f (n - 1 - i)) n
  | 0 => rfl
  | n + 1 => by
    have e1 : sm (fun i => f (n + 1 - 1 - i)) (1 + n) = sm (fun i => f (n + 1 - 1 - i)) 1 + sm (fun i => f (n + 1 - 1 - (1 + i))) n := sm_cat _ 1 n
    rw [Nat.add_comm 1 n] at e1
    rw [e1]
    show sm f n + f n = (0 + f (n + 1 - 1 - 0)) + _
    rw [sm_rev f n, show n + 1 - 1 - 0 = n by omega, Nat.zero_add, Nat.add_comm]
    congr 1
    exact sm_congr (fun i hi => by rw [show n + 1 - 1 - (1 + i) = n - 1 - i by omega])
theorem bts_cI {D : Nat} {P : Nat → Prop} (h : ∀ x : Nat, x < 64 → (D.testBit (63 - x) = true ↔ P x)) : bts D = sm (fun x => cI (P x)) 64 := by
  unfold bts
  rw [sm_rev]
  refine sm_congr (fun x hx => ?_)
  show (if D.testBit (64 - 1 - x) then 1 else 0) = _
  rw [show 64 - 1 - x = 63 - x by omega]
  by_cases z : P x
  · rw [cI_t z, if_pos ((h x hx).mpr z)]
  · rw [cI_f z, if_neg (fun w => z ((h x hx).mp w))]
theorem bts_le (D : Nat) : bts D ≤ 64 := sm_le (b := 1) (fun i _ => by split <;> omega)
set_option maxHeartbeats 1000000 in
theorem c_Sight_dotsOnLine {S : Nat → Int} {x2 : Int32} {h : St} {Q : Option Value → St → Prop} (hC : CS 1 S h) (hW : WF S) (y : Nat) (hy : y < 48) (hQ : ∀ h', Sm [(20, 1)] [22] h h' → Q (some (.int (iI (dts S y 64 : Nat)))) h') (h2 : x2 = iI (y : Nat)) : SC y_Sight_dotsOnLine [.ref 20, .ref 1, .int x2] h Q := by
  refine w_call IS_ok [11] ok_Sight_dotsOnLine rfl rfl ?_
  refine c_Sight_look hC hW y hy (fun hc z kk hs hsh => ?_) h2
  have hCc : CS 1 S hc := hC.sm hs (by decide) (by decide)
  obtain ⟨s1, s2, s3, -⟩ := id hsh
  have loop : ∀ (m i D : Nat) (z5 : Int32) (v : Int64), z ≤ i + m → i ≤ z → D < 2 ^ 64 → (∀ x : Nat, x < 64 → (D.testBit (63 - x) = true ↔ ∃ i', i' < i ∧ setp S (od S (kk i')) x y)) → v = l6 D → z5 = iI i → SR y_Sight_dotsOnLine 11 [some (.ref 20), some (.ref 1), some (.int x2), some (.long v), none, some (.int z5)] [] hc Q := by
    intro m
    have fin : ∀ (i D : Nat) (v : Int64), z ≤ i → i ≤ z → D < 2 ^ 64 → (∀ x : Nat, x < 64 → (D.testBit (63 - x) = true ↔ ∃ i', i' < i ∧ setp S (od S (kk i')) x y)) → v = l6 D → ∀ z5, SR y_Sight_dotsOnLine 43 [some (.ref 20), some (.ref 1), some (.int x2), some (.long v), none, some (.int z5)] [] hc Q := by
      intro i D v h1 h2 hD hb hv z5
      have : i = z := by omega
      subst this
      refine w_loop IS_ok [] ok_Sight_dotsOnLine ?_
      refine c_J_bitCount D hD ?_ hv
      have := hQ hc hs
      unfold dts at this
      rw [← bts_cI (D := D) (P := fun x : Nat => lit S x y) (fun x hx => (hb x hx).trans ⟨fun ⟨i', a, b⟩ => ⟨kk i', (s3 i' a).1, (s3 i' a).2.1, b⟩, fun ⟨k, a, b, c⟩ => ⟨_, (hsh.of a b).1, by rw [(hsh.of a b).2]; exact c⟩⟩)] at this
      exact this
    induction m with
    | zero =>
      intro i D z5 v hm hi hD hb hv e5
      refine w_loop IS_ok [43] ok_Sight_dotsOnLine ?_
      exact w_le z i (fun _ => fin i D v (by omega) hi hD hb hv _) (fun _ => by omega) s1 e5
    | succ m ih =>
      intro i D z5 v hm hi hD hb hv e5
      refine w_loop IS_ok [11, 43] ok_Sight_dotsOnLine ?_
      refine w_le z i (fun _ => fin i D v (by omega) hi hD hb hv _) (fun g => ?_) s1 e5
      obtain ⟨k1, k2, k3, k4⟩ := s3 i (by omega)
      have o := hW.od k1
      refine c_Cells_get1 CA_21 i (by omega) ?_ e5
      refine c_Scene_dotsOn hCc hW (od S (kk i)) y o.2.1 (by omega) hy (fun D2 hD2 hb2 => ?_) k4 h2
      refine ih (i + 1) (D ||| D2) _ _ (by omega) (by omega) (Nat.or_lt_two_pow hD hD2) (fun x hx => ?_) (by rw [hv]; exact l6_or D D2) (iI_1 e5)
      rw [Nat.testBit_or, Bool.or_eq_true, hb x hx, hb2 x hx]
      constructor
      · rintro (⟨i', a, b⟩ | b)
        · exact ⟨i', by omega, b⟩
        · exact ⟨i, by omega, b⟩
      · rintro ⟨i', a, b⟩
        by_cases z1 : i' = i
        · subst z1; exact Or.inr b
        · exact Or.inl ⟨i', by omega, b⟩
  exact loop z 0 0 _ _ (by omega) (by omega) (by decide) (fun x hx => by rw [Nat.zero_testBit]; exact ⟨fun z => (by cases z), fun ⟨i', a, _⟩ => by omega⟩) rfl rfl
set_option maxHeartbeats 2000000 in
theorem c_Sight_clashesOn {S : Nat → Int} {x2 x3 : Int32} {h : St} {Q : Option Value → St → Prop} (hC : CS 1 S h) (hW : WF S) (hr : Int) (rr : rg hr) (y : Nat) (hy : y < 48) (hQ : ∀ h' D z kk, Sm [(20, 1)] [22] h h' → Shn S y z kk h' → D < 2 ^ 64 → (∀ x : Nat, x < 64 → (D.testBit (63 - x) = true ↔ clq S hr x y)) → Q (some (.long (l6 D))) h') (h2 : x2 = iI hr) (h3 : x3 = iI (y : Nat)) : SC y_Sight_clashesOn [.ref 20, .ref 1, .int x2, .int x3] h Q := by
  refine w_call IS_ok [15] ok_Sight_clashesOn rfl rfl ?_
  refine c_Sight_look hC hW y hy (fun hc z kk hs hsh => ?_) h3
  have hCc : CS 1 S hc := hC.sm hs (by decide) (by decide)
  obtain ⟨s1, s2, s3, -⟩ := id hsh
  have fin : ∀ (i A B : Nat) (va vb : Int64) (z8 : Int32) (L9 : Option Value), z ≤ i → i ≤ z → A < 2 ^ 64 → B < 2 ^ 64 → (∀ x : Nat, x < 64 → (A.testBit (63 - x) = true ↔ ∃ i', i' < i ∧ (od S (kk i') : Int) = hr ∧ setp S (od S (kk i')) x y)) → (∀ x : Nat, x < 64 → (B.testBit (63 - x) = true ↔ ∃ i', i' < i ∧ (od S (kk i') : Int) ≠ hr ∧ setp S (od S (kk i')) x y)) → va = l6 A → vb = l6 B → SR y_Sight_clashesOn 71 [some (.ref 20), some (.ref 1), some (.int x2), some (.int x3), some (.long va), none, some (.long vb), none, some (.int z8), L9] [] hc Q := by
    intro i A B va vb z8 L9 h1 h2 hA hB hbA hbB ea eb
    have : i = z := by omega
    subst this
    refine w_loop IS_ok [] ok_Sight_clashesOn ?_
    have := hQ hc (A &&& B) i kk hs hsh (Nat.lt_of_le_of_lt Nat.and_le_left hA) (fun x hx => ?_)
    · rw [← l6_and, ← ea, ← eb] at this
      exact this
    · rw [Nat.testBit_and, Bool.and_eq_true, hbA x hx, hbB x hx]
      constructor
      · rintro ⟨⟨i1, a1, a2, a3⟩, ⟨i2, b1, b2, b3⟩⟩
        have o1 := hW.od (s3 i1 a1).1
        have o2 := hW.od (s3 i2 b1).1
        refine ⟨by omega, by rw [← a2, Int.toNat_natCast]; exact a3, ⟨kk i1, (s3 i1 a1).1, (s3 i1 a1).2.1, by rw [o1.1]; exact a2⟩, ⟨kk i2, (s3 i2 b1).1, (s3 i2 b1).2.1, by rw [o2.1]; exact b2, b3⟩⟩
      · rintro ⟨c1, c2, ⟨k, d1, d2, d3⟩, ⟨k2, e1, e2, e3, e4⟩⟩
        have o1 := hW.od d1
        have o2 := hW.od e1
        have f1 := hsh.of d1 d2
        have f2 := hsh.of e1 e2
        refine ⟨⟨_, f1.1, by rw [f1.2, ← o1.1]; exact d3, by rw [f1.2]; rw [show hr.toNat = od S k by omega] at c2; exact c2⟩, ⟨_, f2.1, by rw [f2.2, ← o2.1]; exact e3, by rw [f2.2]; exact e4⟩⟩
  have loop : ∀ (m i A B : Nat) (va vb : Int64) (z8 : Int32) (L9 : Option Value), z ≤ i + m → i ≤ z → A < 2 ^ 64 → B < 2 ^ 64 → (∀ x : Nat, x < 64 → (A.testBit (63 - x) = true ↔ ∃ i', i' < i ∧ (od S (kk i') : Int) = hr ∧ setp S (od S (kk i')) x y)) → (∀ x : Nat, x < 64 → (B.testBit (63 - x) = true ↔ ∃ i', i' < i ∧ (od S (kk i') : Int) ≠ hr ∧ setp S (od S (kk i')) x y)) → va = l6 A → vb = l6 B → z8 = iI i → SR y_Sight_clashesOn 15 [some (.ref 20), some (.ref 1), some (.int x2), some (.int x3), some (.long va), none, some (.long vb), none, some (.int z8), L9] [] hc Q := by
    intro m
    induction m with
    | zero =>
      intro i A B va vb z8 L9 hm hi hA hB hbA hbB ea eb e8
      refine w_loop IS_ok [71] ok_Sight_clashesOn ?_
      exact w_le z i (fun _ => fin i A B va vb _ _ (by omega) hi hA hB hbA hbB ea eb) (fun _ => by omega) s1 e8
    | succ m ih =>
      intro i A B va vb z8 L9 hm hi hA hB hbA hbB ea eb e8
      refine w_loop IS_ok [15, 71] ok_Sight_clashesOn ?_
      refine w_le z i (fun _ => fin i A B va vb _ _ (by omega) hi hA hB hbA hbB ea eb) (fun g => ?_) s1 e8
      obtain ⟨k1, k2, k3, k4⟩ := s3 i (by omega)
      have o := hW.od k1
      refine c_Cells_get1 CA_21 i (by omega) ?_ e8
      refine w_eq (od S (kk i) : Nat) hr (fun g2 => ?_) (fun g2 => ?_) k4 h2
      · refine c_Scene_dotsOn hCc hW (od S (kk i)) y o.2.1 (by omega) hy (fun D2 hD2 hb2 => ?_) k4 h3
        refine ih (i + 1) D2 B _ _ _ _ (by omega) (by omega) hD2 hB (fun x hx => ?_) (fun x hx => ?_) rfl eb (iI_1 e8)
        · rw [hb2 x hx]
          constructor
          · intro b
            exact ⟨i, by omega, g2, b⟩
          · rintro ⟨i', a, b, c⟩
            rw [show od S (kk i) = od S (kk i') by omega]
            exact c
        · rw [hbB x hx]
          constructor
          · rintro ⟨i', a, b⟩
            exact ⟨i', by omega, b⟩
          · rintro ⟨i', a, b, c⟩
            by_cases z1 : i' = i
            · subst z1; exact absurd g2 b
            · exact ⟨i', by omega, b, c⟩
      · refine c_Scene_dotsOn hCc hW (od S (kk i)) y o.2.1 (by omega) hy (fun D2 hD2 hb2 => ?_) k4 h3
        refine ih (i + 1) A (B ||| D2) _ _ _ _ (by omega) (by omega) hA (Nat.or_lt_two_pow hB hD2) (fun x hx => ?_) (fun x hx => ?_) ea (by rw [eb]; exact l6_or B D2) (iI_1 e8)
        · rw [hbA x hx]
          constructor
          · rintro ⟨i', a, b⟩
            exact ⟨i', by omega, b⟩
          · rintro ⟨i', a, b, c⟩
            by_cases z1 : i' = i
            · subst z1; exact absurd b g2
            · exact ⟨i', by omega, b, c⟩
        · rw [Nat.testBit_or, Bool.or_eq_true, hbB x hx, hb2 x hx]
          constructor
          · rintro (⟨i', a, b⟩ | b)
            · exact ⟨i', by omega, b⟩
            · exact ⟨i, by omega, g2, b⟩
          · rintro ⟨i', a, b, c⟩
            by_cases z1 : i' = i
            · subst z1; exact Or.inr c
            · exact Or.inl ⟨i', by omega, b, c⟩
  exact loop z 0 0 0 _ _ _ _ (by omega) (by omega) (by decide) (by decide) (fun x hx => by rw [Nat.zero_testBit]; exact ⟨fun z => (by cases z), fun ⟨i', a, _⟩ => by omega⟩) (fun x hx => by rw [Nat.zero_testBit]; exact ⟨fun z => (by cases z), fun ⟨i', a, _⟩ => by omega⟩) rfl rfl rfl
theorem c_Sight_firstColumn {v : Int64} {h : St} {Q : Option Value → St → Prop} (D : Nat) (hQ : ∀ x : Nat, x < 64 → (∀ x' : Nat, x' < x → D.testBit (63 - x') = false) → (x = 63 ∨ D.testBit (63 - x) = true) → Q (some (.int (iI (x : Nat)))) h) (hv : v = l6 D) : SC y_Sight_firstColumn [.long v] h Q := by
  refine w_call IS_ok [2] ok_Sight_firstColumn rfl rfl ?_
  have loop : ∀ (m x : Nat) (z2 : Int32), 63 ≤ x + m → x ≤ 63 → (∀ x' : Nat, x' < x → D.testBit (63 - x') = false) → z2 = iI x → SR y_Sight_firstColumn 2 [some (.long v), none, some (.int z2)] [] h Q := by
    intro m
    induction m with
    | zero =>
      intro x z2 hm hx hno e2
      refine w_loop IS_ok [2] ok_Sight_firstColumn ?_
      refine w_le 63 x (fun g => ?_) (fun _ => by omega) rfl e2
      rw [e2]
      exact hQ x (by omega) hno (Or.inl (by omega))
    | succ m ih =>
      intro x z2 hm hx hno e2
      refine w_loop IS_ok [2] ok_Sight_firstColumn ?_
      refine w_le 63 x (fun g => ?_) (fun g => ?_) rfl e2
      · rw [e2]
        exact hQ x (by omega) hno (Or.inl (by omega))
      refine c_Sight_bitOf x (by omega) ?_ e2
      subst hv
      refine w_if (fun g2 => ?_) (fun g2 => ?_)
      · have g3 := (lbit (by omega)).mp g2
        refine ih (x + 1) _ (by omega) (by omega) (fun x' hx' => ?_) (iI_1 e2)
        by_cases z1 : x' = x
        · subst z1; exact g3
        · exact hno x' (by omega)
      · rw [e2]
        refine hQ x (by omega) hno (Or.inr ?_)
        cases hq : D.testBit (63 - x) with
        | true => rfl
        | false => exact absurd ((lbit (by omega)).mpr hq) g2
  exact loop 63 0 _ (by omega) (by omega) (fun x' hx' => by omega) rfl
