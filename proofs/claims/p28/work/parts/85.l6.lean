/-! the law: a puppet is made the first one, alone, at a place of its own -/
section
variable {S : Nat → Int} {n : Nat} {H : Nat → Nat → Int} {N : Nat} {T : Nat → Nat} {f : Nat} {G : Nat → Int} {h : St}
set_option maxRecDepth 100000 in
set_option maxHeartbeats 8000000 in
theorem l_flip {p : Nat} {v z7 z8 : Int32} {L3 L4 L6 L9 L10 L11 L12 L13 : Option Value} (hI : CI S n H N T f G h) (hW : WF S) (hn : n ≤ 5) (g : thr S (p : Int)) (hfl : h.1 90 0 = 0) : LR 479 [some (.float 0), some (.ref 0), some (.int v), L3, L4, some (.int (iI (p : Nat))), L6, some (.int z7), some (.int z8), L9, L10, L11, L12, L13] [] (1, 16) h := by
  have hpb := thr_b hW g
  have hN := hW.n
  have hp20 : p < 20 := by omega
  have hcol := hW.col (p := p) (by omega)
  refine w_loop IS_ok [521, 549] ok_L_law ?_
  refine c_P_setLimit hI hW hn 1 (fun z => absurd (by omega) z) (fun _ h1 f1 I1 => ?_) rfl (by omega)
  have W1 := hW.li (l := 1) (by omega)
  have g1 : thr (u1 S 2 1) (p : Int) := thr_cg (u1_n _ _ (by omega)) (fun k _ => u1_n _ _ (by omega)) g
  refine c_P_lift I1 W1 (psN_le hn) (p : Nat) (fun z => absurd g1 z) (fun _ h2 f2 I2 => ?_) rfl (by omega)
  have W2 := W1.ord W1.n.2.1 (fun S' hR => wf_lft W1 (thr_pos g1).1 hR)
  have tp := thr_pos g1
  have e21 : ordS (u1 S 2 1) ((u1 S 2 1) 1).toNat (lftO (od (u1 S 2 1)) (pos (u1 S 2 1) (p : Int) ((u1 S 2 1) 1).toNat).toNat) 1 = S 1 := by
    show (((u1 S 2 1 1).toNat : Nat) : Int) = S 1
    rw [u1_n _ _ (by omega)]
    exact hN.1.symm
  have e22 : ordS (u1 S 2 1) ((u1 S 2 1) 1).toNat (lftO (od (u1 S 2 1)) (pos (u1 S 2 1) (p : Int) ((u1 S 2 1) 1).toNat).toNat) 2 = 1 := rfl
  have e26 : ordS (u1 S 2 1) ((u1 S 2 1) 1).toNat (lftO (od (u1 S 2 1)) (pos (u1 S 2 1) (p : Int) ((u1 S 2 1) 1).toNat).toNat) 6 = (p : Int) := by
    show ((od (u1 S 2 1) (pos (u1 S 2 1) (p : Int) ((u1 S 2 1) 1).toNat).toNat : Nat) : Int) = p
    rw [← (W1.od tp.1).1]
    exact tp.2.2
  have ehi : ∀ i, 26 ≤ i → ordS (u1 S 2 1) ((u1 S 2 1) 1).toNat (lftO (od (u1 S 2 1)) (pos (u1 S 2 1) (p : Int) ((u1 S 2 1) 1).toNat).toNat) i = S i := fun i hi => by
    unfold ordS
    rw [if_neg (by omega), if_neg (by omega), u1_n _ _ (by omega)]
  have e20 : ordS (u1 S 2 1) ((u1 S 2 1) 1).toNat (lftO (od (u1 S 2 1)) (pos (u1 S 2 1) (p : Int) ((u1 S 2 1) 1).toNat).toNat) 0 = S 0 := by
    unfold ordS
    rw [if_neg (by omega), if_neg (by omega), u1_n _ _ (by omega)]
  generalize ordS (u1 S 2 1) ((u1 S 2 1) 1).toNat (lftO (od (u1 S 2 1)) (pos (u1 S 2 1) (p : Int) ((u1 S 2 1) 1).toNat).toNat) = Y at *
  have hn0 : 0 < (S 1).toNat := by
    obtain ⟨k, hk, -⟩ := thr_ex.mp g
    omega
  have g2 : thr Y (p : Int) := thr_ex.mpr ⟨0, by rw [e21]; exact hn0, e26⟩
  refine c_P_move I2 W2 (psN_le (psN_le hn)) (p : Nat) 20 20 (fun z => absurd ⟨g2, by omega, by omega⟩ z) (fun _ h3 f3 I3 => ?_) rfl rfl rfl (by omega) (by omega) (by omega)
  have W3 : WF (mvS Y p 20 20) := W2.mv (by rw [e20]; omega) (by omega) (by omega)
  have I3 : CI (mvS Y p 20 20) _ _ N T f G h3 := I3
  have g3 : thr (mvS Y p 20 20) (p : Int) := thr_cg (mvS_n (by omega) (by omega)) (fun k hk => mvS_n (by have := W2.n; omega) (by have := W2.n; omega)) g2
  refine c_P_puppet I3 W3 (p : Nat) 2 (fun h4 r4 f4 hr4 => ?_) rfl rfl (by omega) (by omega)
  have v4 : r4 = mvS Y p 20 20 (26 + 9 * p + 2) := pup_lo g3 (by omega) hr4
  have hw3 := (W3.wp p hp20).2.2.1
  have I4 := I3.lk f4
  have key : ∀ z : Int32, z = iI (hghN (mvS Y p 20 20) p : Nat) → LR 521 [some (.float 0), some (.ref 0), some (.int v), L3, L4, some (.int (iI (p : Nat))), L6, some (.int z7), some (.int z8), L9, L10, L11, L12, L13] [.int z] (1, 16) h4 := by
    intro z hz
    have hb := hghN_b (mvS Y p 20 20) p
    refine w_loop IS_ok [549] ok_L_law ?_
    refine c_P_turn I4 W3 (psN_le (psN_le (psN_le hn))) (p : Nat) 0 (fun w => absurd ⟨g3, by omega⟩ w) (fun _ h5 f5 I5 => ?_) rfl rfl (by omega) (by omega)
    have I5 : CI (u1 (mvS Y p 20 20) (26 + 9 * p + 5) 0) _ _ N T f G h5 := I5
    have W5 : WF (u1 (mvS Y p 20 20) (26 + 9 * p + 5) 0) := W3.tu (by rw [mvS_n (by omega) (by omega), e20]; omega) (by omega)
    have g5 : thr (u1 (mvS Y p 20 20) (26 + 9 * p + 5) 0) (p : Int) := thr_cg (u1_n _ _ (by omega)) (fun k hk => u1_n _ _ (by have := W3.n; omega)) g3
    have eh : hghN (u1 (mvS Y p 20 20) (26 + 9 * p + 5) 0) p = hghN (mvS Y p 20 20) p := by unfold hghN; rw [u1_n _ _ (by omega)]
    have fl5 : h5.1 90 0 = 0 := by
      rw [f5.1 90 (by omega), f4.1 90 (by omega), f3.1 90 (by omega), f2.1 90 (by omega), f1.1 90 (by omega)]
      exact hfl
    refine ⟨16, by decide, ?_⟩
    refine w_mo 90 _ (s_newI90 fl5) ?_
    have I6 := I5.up (fr_new (h := h5))
    refine c_P_puppet I6 W5 (p : Nat) 4 (fun h7 r7 f7 hr7 => ?_) rfl rfl (by omega) (by omega)
    have v7 : r7 = u1 (mvS Y p 20 20) (26 + 9 * p + 5) 0 (26 + 9 * p + 4) := pup_lo g5 (by omega) hr7
    rw [v7]
    have I7 := I6.lk f7
    rw [← eh] at hz
    subst hz
    refine l_rows W5 (psN_le (psN_le (psN_le (psN_le hn)))) hp20 g5 ⟨?_, ?_, ?_, ?_, ?_, ?_⟩ (u1_s _ _ _) _ 0 h7 _ _ (Nat.zero_add _) I7 ?_ (fun q hq => absurd hq (Nat.not_lt_zero _)) (fun q _ => ?_) rfl
    · rw [u1_n _ _ (by omega), mvS_n (by omega) (by omega)]; exact e22
    · rw [u1_n _ _ (by omega), mvS_n (by omega) (by omega), e21]; exact hn0
    · rw [u1_n _ _ (by omega), mvS_n (by omega) (by omega)]; exact e26
    · rw [u1_n _ _ (by omega)]; unfold mvS; rw [u1_n _ _ (by omega), u1_s]
    · rw [u1_n _ _ (by omega)]; unfold mvS; rw [u1_s]
    · rw [u1_n _ _ (by omega), mvS_n (by omega) (by omega), ehi _ (by omega)]; exact hcol
    · rw [f7.1 90 (by omega)]
      show u2 h5.1 90 0 1 90 0 = 1
      unfold u2
      rw [u1_s, u1_s]
    · rw [f7.2 90 (by omega)]
      show u1 h5.2 90 (fun _ => 0) 90 q = 0
      rw [u1_s]
  rw [v4]
  refine w_eq (mvS Y p 20 20 (26 + 9 * p + 2)) 1 (fun z => key _ ?_) (fun z => key _ ?_) rfl rfl
  · unfold hghN; rw [if_pos z]; rfl
  · unfold hghN; rw [if_neg z]; rfl
end
