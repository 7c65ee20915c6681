/-! the class: more actions of a scene -/
theorem CS.fld {S S' : Nat → Int} {h h' : St} (hC : CS 1 S h) (r3 : h'.2 3 = h.2 3) (r5 : h'.2 5 = h.2 5) (r7 : h'.2 7 = h.2 7) (hf : h'.1 1 3 = iI (S' 1) ∧ h'.1 1 4 = iI (S' 0) ∧ h'.1 1 5 = iI (S' 2) ∧ h'.1 1 6 = iI (S' 3) ∧ h'.1 1 7 = iI (S' 4) ∧ h'.1 1 8 = iI (S' 5)) (h0 : S' 0 = S 0) (h1 : S' 1 = S 1) (hs : ∀ i, 6 ≤ i → S' i = S i) : CS 1 S' h' := by
  refine hC.mk2 r3 r5 hf (fun k hk => ?_) h0 (fun i hi => hs i (by omega))
  rw [h1] at hk
  rw [hs _ (by omega)]
  exact (congrFun r7 k).trans (hC.2.2.1 k hk)
theorem c_Scene_changeLimit {S : Nat → Int} {x1 : Int32} {h : St} {Q : Option Value → St → Prop} (hC : CS 1 S h) (l : Int) (hQ0 : ¬ (1 ≤ l ∧ l ≤ 8) → Q (some (.int (-101))) h) (hQ1 : (1 ≤ l ∧ l ≤ 8) → ∀ h', Sm [(1, 5)] [] h h' → CS 1 (u1 S 2 l) h' → Q (some (.int (iI (S 2)))) h') (h1 : x1 = iI l) (rl : rg l) : SC y_Scene_changeLimit [.ref 1, .int x1] h Q := by
  refine w_call IS_ok [] ok_Scene_changeLimit rfl rfl ?_
  refine c_P_within l 1 8 ?_ h1 rfl rfl rl
  refine w_b (fun g1 => hQ0 g1) (fun g1 => ?_)
  have := hQ1 g1 (pg h 1 5 x1) (Sm.pg _ (by decide)) (hC.fld rfl rfl rfl ⟨hC.1.1, hC.1.2.1, h1, hC.1.2.2.2.1, hC.1.2.2.2.2.1, hC.1.2.2.2.2.2⟩ rfl rfl (fun i hi => u1_n _ _ (by omega)))
  rw [← hC.1.2.2.1] at this
  exact this
theorem c_Scene_changeRule {S : Nat → Int} {x1 x2 : Int32} {h : St} {Q : Option Value → St → Prop} (hC : CS 1 S h) (a b : Int) (hQ0 : ¬ ((0 ≤ a ∧ a ≤ 2) ∧ (1 ≤ b ∧ b ≤ 19)) → Q (some (.int (-101))) h) (hQ1 : ((0 ≤ a ∧ a ≤ 2) ∧ (1 ≤ b ∧ b ≤ 19)) → ∀ h', Sm [(1, 6), (1, 7)] [] h h' → CS 1 (u1 (u1 S 3 a) 4 b) h' → Q (some (.int (iI (S 3)))) h') (h1 : x1 = iI a) (h2 : x2 = iI b) (ra : rg a) (rb : rg b) : SC y_Scene_changeRule [.ref 1, .int x1, .int x2] h Q := by
  refine w_call IS_ok [] ok_Scene_changeRule rfl rfl ?_
  refine c_P_within a 0 2 ?_ h1 rfl rfl ra
  refine w_b (fun g1 => hQ0 (fun z => g1 z.1)) (fun g1 => ?_)
  refine c_P_within b 1 19 ?_ h2 rfl rfl rb
  refine w_b (fun g2 => hQ0 (fun z => g2 z.2)) (fun g2 => ?_)
  have := hQ1 ⟨g1, g2⟩ (pg (pg h 1 6 x1) 1 7 x2) ((Sm.pg _ (by decide)).t (Sm.pg _ (by decide))) (hC.fld rfl rfl rfl ⟨hC.1.1, hC.1.2.1, hC.1.2.2.1, h1, h2, hC.1.2.2.2.2.2⟩ rfl rfl (fun i hi => (u1_n _ _ (by omega)).trans (u1_n _ _ (by omega))))
  rw [← hC.1.2.2.2.1] at this
  exact this
theorem cmS_26 {S : Nat → Int} {x y t g c : Int} {i : Nat} (hn : (S 1).toNat < 20) (hi : 26 ≤ i) (h0 : ∀ j, j < 5 → i ≠ 26 + 9 * (S 0).toNat + j) : cmS S x y t g c i = S i := by
  unfold cmS
  rw [u1_n _ _ (h0 4 (by omega)), u1_n _ _ (h0 3 (by omega)), u1_n _ _ (h0 2 (by omega)), u1_n _ _ (h0 1 (by omega)), u1_n _ _ (show i ≠ 26 + 9 * (S 0).toNat from h0 0 (by omega)), u1_n _ _ (by omega), u1_n _ _ (by omega), u1_n _ _ (by omega)]
theorem cmS_lo {S : Nat → Int} {x y t g c : Int} {i : Nat} (hi : i < 26) : cmS S x y t g c i = u1 (u1 (u1 S 0 (S 0 + 1)) (6 + (S 1).toNat) (S 0)) 1 (S 1 + 1) i := by
  unfold cmS
  rw [u1_n _ _ (by omega), u1_n _ _ (by omega), u1_n _ _ (by omega), u1_n _ _ (by omega), u1_n _ _ (by omega)]
theorem cmS_p {S : Nat → Int} {x y t g c : Int} : cmS S x y t g c (26 + 9 * (S 0).toNat + 0) = x ∧ cmS S x y t g c (26 + 9 * (S 0).toNat + 1) = y ∧ cmS S x y t g c (26 + 9 * (S 0).toNat + 2) = t ∧ cmS S x y t g c (26 + 9 * (S 0).toNat + 3) = g ∧ cmS S x y t g c (26 + 9 * (S 0).toNat + 4) = c := by
  unfold cmS
  refine ⟨?_, ?_, ?_, ?_, ?_⟩
  · rw [u1_n _ _ (by omega), u1_n _ _ (by omega), u1_n _ _ (by omega), u1_n _ _ (by omega)]; exact u1_s _ _ _
  · rw [u1_n _ _ (by omega), u1_n _ _ (by omega), u1_n _ _ (by omega), u1_s]
  · rw [u1_n _ _ (by omega), u1_n _ _ (by omega), u1_s]
  · rw [u1_n _ _ (by omega), u1_s]
  · rw [u1_s]
set_option maxHeartbeats 4000000 in
theorem c_Scene_admit {S : Nat → Int} {x1 x2 x3 x4 x5 : Int32} {h : St} {Q : Option Value → St → Prop} (hC : CS 1 S h) (hW : WF S) (x y t g c : Int)
    (hQ0 : ¬ (((-15 ≤ x ∧ x ≤ 63) ∧ (-15 ≤ y ∧ y ≤ 47)) ∧ (0 ≤ t ∧ t ≤ 1) ∧ (0 ≤ g ∧ g ≤ 7) ∧ (1 ≤ c ∧ c ≤ 9)) → Q (some (.int (-101))) h)
    (hQ1 : (((-15 ≤ x ∧ x ≤ 63) ∧ (-15 ≤ y ∧ y ≤ 47)) ∧ (0 ≤ t ∧ t ≤ 1) ∧ (0 ≤ g ∧ g ≤ 7) ∧ (1 ≤ c ∧ c ≤ 9)) → S 0 = 20 → Q (some (.int (-103))) h)
    (hQ2 : (((-15 ≤ x ∧ x ≤ 63) ∧ (-15 ≤ y ∧ y ≤ 47)) ∧ (0 ≤ t ∧ t ≤ 1) ∧ (0 ≤ g ∧ g ≤ 7) ∧ (1 ≤ c ∧ c ≤ 9)) → S 0 ≠ 20 → ∀ h', Sm [(1, 3), (1, 4)] [5, 7] h h' → CS 1 (cmS S x y t g c) h' → Q (some (.int (iI (S 0)))) h')
    (h1 : x1 = iI x) (h2 : x2 = iI y) (h3 : x3 = iI t) (h4 : x4 = iI g) (h5 : x5 = iI c) (rx : rg x) (ry : rg y) (rt : rg t) (rgg : rg g) (rc : rg c) : SC y_Scene_admit [.ref 1, .int x1, .int x2, .int x3, .int x4, .int x5] h Q := by
  refine w_call IS_ok [146] ok_Scene_admit rfl rfl ?_
  have hn := hW.n
  refine c_Scene_isPlace x y ?_ h1 h2 rx ry
  refine w_b (fun g1 => hQ0 (fun z => g1 z.1)) (fun g1 => ?_)
  refine c_P_within t 0 1 ?_ h3 rfl rfl rt
  refine w_b (fun g2 => hQ0 (fun z => g2 z.2.1)) (fun g2 => ?_)
  refine c_P_within g 0 7 ?_ h4 rfl rfl rgg
  refine w_b (fun g3 => hQ0 (fun z => g3 z.2.2.1)) (fun g3 => ?_)
  refine c_P_within c 1 9 ?_ h5 rfl rfl rc
  refine w_b (fun g4 => hQ0 (fun z => g4 z.2.2.2)) (fun g4 => ?_)
  have f3 : h.1 1 3 = iI (S 1).toNat := hC.1.1.trans (congrArg iI hn.1)
  have f4 : h.1 1 4 = iI (S 0).toNat := hC.1.2.1.trans (congrArg iI (by omega))
  refine w_lt (S 0) 20 (fun g5 => ?_) (fun g5 => hQ1 ⟨g1, g2, g3, g4⟩ (by omega)) hC.1.2.1 rfl
  generalize hp : (S 0).toNat = p at *
  have hp20 : p < 20 := by omega
  have hS0 : S 0 = p := by omega
  generalize hm : (S 1).toNat = n at *
  have hn20 : n < 20 := by omega
  refine c_Cells_set2 CA_6 n hn20 ?_ f3
  refine c_Cells_set3 CA_4 p 0 (by omega) ?_ f4 rfl
  refine c_Cells_set3 CA_4 p 1 (by omega) ?_ f4 rfl
  refine c_Cells_set3 CA_4 p 2 (by omega) ?_ f4 rfl
  have at146 : ∀ hv : Int32, hv = iI (if t = 1 then 16 else 8) → SR y_Scene_admit 146 [some (.ref 1), some (.int x1), some (.int x2), some (.int x3), some (.int x4), some (.int x5), some (.int (h.1 1 4))] [.int hv, .int 6, .int (h.1 1 4), .ref 4] (wa (wa (wa (pg (wa (pg h 1 4 (h.1 1 4 + 1)) 7 n (h.1 1 4)) 1 3 (h.1 1 3 + 1)) 5 (p * 10 + 0) x1) 5 (p * 10 + 1) x2) 5 (p * 10 + 2) x3) Q := by
    intro hv ehv
    refine w_loop IS_ok [] ok_Scene_admit ?_
    refine c_Cells_set3 CA_4 p 6 (by omega) ?_ f4 rfl
    refine c_Cells_set3 CA_4 p 3 (by omega) ?_ f4 rfl
    refine c_Cells_set3 CA_4 p 4 (by omega) ?_ f4 rfl
    have hq := hQ2 ⟨g1, g2, g3, g4⟩ (by omega) (wa (wa (wa (wa (wa (wa (pg (wa (pg h 1 4 (h.1 1 4 + 1)) 7 n (h.1 1 4)) 1 3 (h.1 1 3 + 1)) 5 (p * 10 + 0) x1) 5 (p * 10 + 1) x2) 5 (p * 10 + 2) x3) 5 (p * 10 + 6) hv) 5 (p * 10 + 3) x4) 5 (p * 10 + 4) x5)
      (((((((((Sm.pg _ (by decide)).t (Sm.wa _ _ (by decide))).t (Sm.pg _ (by decide))).t (Sm.wa _ _ (by decide))).t (Sm.wa _ _ (by decide))).t (Sm.wa _ _ (by decide))).t (Sm.wa _ _ (by decide))).t (Sm.wa _ _ (by decide))).t (Sm.wa _ _ (by decide))) ?_
    · rw [← hC.1.2.1] at hq
      exact hq
    obtain ⟨⟨a1, a2, a3, a4, a5, a6⟩, q, o, d, f, gg⟩ := id hC
    have row : ∀ i, (∀ j, j < 7 → j ≠ 5 → i ≠ p * 10 + j) → (wa (wa (wa (wa (wa (wa (pg (wa (pg h 1 4 (h.1 1 4 + 1)) 7 n (h.1 1 4)) 1 3 (h.1 1 3 + 1)) 5 (p * 10 + 0) x1) 5 (p * 10 + 1) x2) 5 (p * 10 + 2) x3) 5 (p * 10 + 6) hv) 5 (p * 10 + 3) x4) 5 (p * 10 + 4) x5).2 5 i = h.2 5 i := by
      intro i hi
      rw [wa_n _ _ _ _ (hi 4 (by omega) (by omega)), wa_n _ _ _ _ (hi 3 (by omega) (by omega)), wa_n _ _ _ _ (hi 6 (by omega) (by omega)), wa_n _ _ _ _ (hi 2 (by omega) (by omega)), wa_n _ _ _ _ (hi 1 (by omega) (by omega)), wa_n _ _ _ _ (hi 0 (by omega) (by omega))]
      rfl
    have rowp : ∀ j, j < 5 → (wa (wa (wa (wa (wa (wa (pg (wa (pg h 1 4 (h.1 1 4 + 1)) 7 n (h.1 1 4)) 1 3 (h.1 1 3 + 1)) 5 (p * 10 + 0) x1) 5 (p * 10 + 1) x2) 5 (p * 10 + 2) x3) 5 (p * 10 + 6) hv) 5 (p * 10 + 3) x4) 5 (p * 10 + 4) x5).2 5 (p * 10 + j) = iI (cmS S x y t g c (26 + 9 * p + j)) := by
      intro j hj
      have hcp := cmS_p (S := S) (x := x) (y := y) (t := t) (g := g) (c := c)
      rw [hp] at hcp
      have : j = 0 ∨ j = 1 ∨ j = 2 ∨ j = 3 ∨ j = 4 := by omega
      rcases this with rfl | rfl | rfl | rfl | rfl
      · rw [hcp.1, wa_n _ _ _ _ (by omega), wa_n _ _ _ _ (by omega), wa_n _ _ _ _ (by omega), wa_n _ _ _ _ (by omega), wa_n _ _ _ _ (by omega), wa_s]; exact h1
      · rw [hcp.2.1, wa_n _ _ _ _ (by omega), wa_n _ _ _ _ (by omega), wa_n _ _ _ _ (by omega), wa_n _ _ _ _ (by omega), wa_s]; exact h2
      · rw [hcp.2.2.1, wa_n _ _ _ _ (by omega), wa_n _ _ _ _ (by omega), wa_n _ _ _ _ (by omega), wa_s]; exact h3
      · rw [hcp.2.2.2.1, wa_n _ _ _ _ (by omega), wa_s]; exact h4
      · rw [hcp.2.2.2.2, wa_s]; exact h5
    have c26 : ∀ i, 26 ≤ i → (∀ j, j < 5 → i ≠ 26 + 9 * p + j) → cmS S x y t g c i = S i := fun i hi hj => cmS_26 (by omega) hi (by rw [hp]; exact hj)
    have c0 : cmS S x y t g c 0 = S 0 + 1 := by rw [cmS_lo (by omega), u1_n _ _ (by omega), u1_n _ _ (by omega), u1_s]
    have c1 : cmS S x y t g c 1 = S 1 + 1 := by rw [cmS_lo (by omega), u1_s]
    have clo : ∀ i, i < 26 → i ≠ 0 → i ≠ 1 → i ≠ 6 + n → cmS S x y t g c i = S i := fun i h1 h2 h3 h4 => by rw [cmS_lo h1, hm, u1_n _ _ h3, u1_n _ _ h4, u1_n _ _ h2]
    have c6 : cmS S x y t g c (6 + n) = S 0 := by rw [cmS_lo (by omega), hm, u1_n _ _ (by omega), u1_s]
    refine ⟨⟨?_, ?_, by rw [clo 2 (by omega) (by omega) (by omega) (by omega)]; exact a3, by rw [clo 3 (by omega) (by omega) (by omega) (by omega)]; exact a4, by rw [clo 4 (by omega) (by omega) (by omega) (by omega)]; exact a5, by rw [clo 5 (by omega) (by omega) (by omega) (by omega)]; exact a6⟩, fun i hi => ?_, fun k hk => ?_, fun p' hp' j hj => ?_, fun p' hp' h0 => ?_, fun p' hp' j hj => ?_⟩
    · rw [c1]; exact (congrArg (· + 1) a1).trans (iI_add _ 1)
    · rw [c0]; exact (congrArg (· + 1) a2).trans (iI_add _ 1)
    · rw [c26 _ (by omega) (fun j hj => by omega)]; exact q i hi
    · rw [c1] at hk
      by_cases z : k = n
      · subst z
        rw [c6]
        exact (wa_s (pg h 1 4 (h.1 1 4 + 1)) 7 k (h.1 1 4)).trans hC.1.2.1
      · rw [clo _ (by omega) (by omega) (by omega) (by omega)]
        exact (wa_n (pg h 1 4 (h.1 1 4 + 1)) 7 n (h.1 1 4) z).trans (o k (by omega))
    · by_cases z : p' = p
      · subst z
        by_cases z2 : j < 5
        · exact rowp j z2
        · have : j = 5 := by omega
          subst this
          rw [c26 _ (by omega) (fun j hj => by omega)]
          exact (row _ (fun j h1 h2 => by omega)).trans (d p' hp' 5 (by omega))
      · rw [c26 _ (by omega) (fun j hj => by omega)]
        exact (row _ (fun j h1 h2 => by omega)).trans (d p' hp' j hj)
    · by_cases z : p' = p
      · subst z
        have hcp := (cmS_p (S := S) (x := x) (y := y) (t := t) (g := g) (c := c)).2.2.1
        rw [hp] at hcp
        unfold hgh
        rw [hcp, ← ehv]
        show (wa (wa (wa _ 5 (p' * 10 + 6) hv) 5 (p' * 10 + 3) x4) 5 (p' * 10 + 4) x5).2 5 (p' * 10 + 6) = hv
        rw [wa_n _ _ _ _ (by omega), wa_n _ _ _ _ (by omega), wa_s]
      · rw [c0] at h0
        have := f p' hp' (by omega)
        unfold hgh at this ⊢
        rw [c26 _ (by omega) (fun j hj => by omega)]
        exact (row _ (fun j h1 h2 => by omega)).trans this
    · rw [c26 _ (by omega) (fun j hj => by omega)]
      exact (row _ (fun j h1 h2 => by omega)).trans (gg p' hp' j hj)
  refine w_eq t 1 (fun g6 => ?_) (fun g6 => ?_) h3 rfl
  · exact at146 16 (by rw [if_pos g6]; rfl)
  · exact at146 8 (by rw [if_neg g6]; rfl)
