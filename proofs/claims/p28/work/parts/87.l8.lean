/-! the law: behind its acts -/
theorem clN_le (S : Nat → Int) (hr : Int) (n : Nat) : clN S hr n ≤ n := Nat.le_trans (sm_le (b := 1) (fun i _ => cI_le _)) (by omega)
section
variable {S : Nat → Int} {n : Nat} {H : Nat → Nat → Int} {N : Nat} {T : Nat → Nat} {f : Nat} {G : Nat → Int} {h : St}
theorem bst_1 {r : Int} (h : BstR S 1 r) : 0 ≤ r ∧ r ≤ 20 := by
  have := bsF_b (g := grb S) (fun s => grb_b S s) 18
  rcases h with ⟨z, -⟩ | ⟨z, -⟩ | ⟨-, z⟩
  · exact absurd (by omega) z
  · omega
  · omega
theorem bst_0 {r : Int} (h : BstR S 0 r) : 1 ≤ r ∧ r ≤ 19 := by
  have := bsF_b (g := grb S) (fun s => grb_b S s) 18
  have := bsF_lo (grb S) 18
  rcases h with ⟨z, -⟩ | ⟨-, z⟩ | ⟨z, -⟩
  · exact absurd (by omega) z
  · omega
  · omega
set_option maxRecDepth 100000 in
set_option maxHeartbeats 8000000 in
theorem l_best {v : Int32} {L3 L4 L5 L6 L7 L8 L9 L10 L11 L12 L13 : Option Value} (hI : CI S n H N T f G h) (hW : WF S) (hn : n ≤ 5) (h5 : S 5 ≤ 100) (hfl : h.1 90 0 = 0) : LR 303 [some (.float 0), some (.ref 0), some (.int v), L3, L4, L5, L6, L7, L8, L9, L10, L11, L12, L13] [] (1, 16) h := by
  have hN := hW.n
  refine w_loop IS_ok [359, 374] ok_L_law ?_
  refine c_P_bestStep hI hW 1 (fun h1 r1 f1 hr1 => ?_) rfl (by omega)
  have b1 := bst_1 hr1
  have I1 := hI.lk f1
  refine c_P_allShownIn I1 hW (fun h2 r2 f2 hr2 => ?_)
  have b2 := all_rg hr2
  have I2 := I1.lk f2
  refine w_lt r1 0 (fun z => by omega) (fun _ => ?_) rfl rfl
  refine w_lt 20 r1 (fun z => by omega) (fun _ => ?_) rfl rfl
  refine c_P_bestStep I2 hW 0 (fun h3 r3 f3 hr3 => ?_) rfl (by omega)
  have b3 := bst_0 hr3
  have I3 := I2.lk f3
  refine w_lt r3 1 (fun z => by omega) (fun _ => ?_) rfl rfl
  refine c_P_bestStep I3 hW 0 (fun h4 r4 f4 hr4 => ?_) rfl (by omega)
  have b4 := bst_0 hr4
  have I4 := I3.lk f4
  refine w_lt 19 r4 (fun z => by omega) (fun _ => ?_) rfl rfl
  refine c_P_count I4 hW 6 (fun h5' r5 f5 hr5 => ?_) rfl (by omega)
  rw [cnt_6 hr5]
  have I5 := I4.lk f5
  have fl5 : h5'.1 90 0 = 0 := by
    rw [f5.1 90 (by omega), f4.1 90 (by omega), f3.1 90 (by omega), f2.1 90 (by omega), f1.1 90 (by omega)]
    exact hfl
  have hle := hidN_le S
  have rest : LR 359 [some (.float 0), some (.ref 0), some (.int v), some (.int (iI r1)), some (.int (iI r2)), L5, L6, L7, L8, L9, L10, L11, L12, L13] [] (1, 16) h5' := by
    refine w_loop IS_ok [374] ok_L_law ?_
    refine c_P_count I5 hW 0 (fun h6 r6 f6 hr6 => ?_) rfl (by omega)
    rw [cnt_0 hr6]
    have I6 := I5.lk f6
    have fl6 : h6.1 90 0 = 0 := by rw [f6.1 90 (by omega)]; exact fl5
    refine w_le (S 1) 0 (fun _ => l_frames I6 hW hn h5 fl6) (fun g => ?_) rfl rfl
    refine w_eq r2 0 (fun z => absurd z (all_n0 (by omega) hr2)) (fun _ => l_frames I6 hW hn h5 fl6) rfl rfl
  refine w_eq (hidN S : Nat) 0 (fun g => ?_) (fun _ => rest) rfl rfl
  have := all_le1 (all_1 hW (by omega)) hr2
  exact w_lt 1 r2 (fun z => by omega) (fun _ => rest) rfl rfl
set_option maxRecDepth 100000 in
set_option maxHeartbeats 8000000 in
theorem l_clash {v : Int32} {L3 L4 L5 L6 L7 L8 L9 L10 L11 L12 L13 : Option Value} (hI : CI S n H N T f G h) (hW : WF S) (hn : n ≤ 5) (h5 : S 5 ≤ 100) (hfl : h.1 90 0 = 0) : LR 248 [some (.float 0), some (.ref 0), some (.int v), L3, L4, L5, L6, L7, L8, L9, L10, L11, L12, L13] [] (1, 16) h := by
  refine w_loop IS_ok [303] ok_L_law ?_
  refine c_P_clash hI hW 0 (fun h1 r1 f1 hr1 => ?_) rfl (by omega)
  obtain ⟨hr, hh, e1⟩ := cla_0 hr1
  have hcl := clN_le S hr 3072
  have hrg := HerR_rg hW hh
  have I1 := hI.lk f1
  have fl1 : h1.1 90 0 = 0 := by rw [f1.1 90 (by omega)]; exact hfl
  refine w_le r1 0 (fun _ => l_best I1 hW hn h5 fl1) (fun g => ?_) rfl rfl
  have hc := cl_some (S := S) (hr := hr) (by omega)
  refine c_P_clash I1 hW 1 (fun h2 r2 f2 hr2 => ?_) rfl (by omega)
  obtain ⟨p, cp, p1, -, -⟩ := cla_w (by omega) hh hc hr2
  have e2 := p1 rfl
  have hp := cp.1
  have I2 := I1.lk f2
  refine c_P_clash I2 hW 2 (fun h3 r3 f3 hr3 => ?_) rfl (by omega)
  obtain ⟨q, cq, -, q2, -⟩ := cla_w (by omega) hh hc hr3
  have e := Cl1_u cq cp
  subst e
  have e3 := q2 rfl
  have I3 := I2.lk f3
  refine c_P_dot I3 hW r2 r3 (fun h4 c f4 hr4 => ?_) rfl rfl (by omega) (by omega)
  rw [e2, e3] at hr4
  obtain ⟨⟨d1, d2, d3⟩, -⟩ := dot_c hW (by omega) (by omega) hr4
  have hc0 : 0 < c := d1.mpr (clq_lit cp.2.1)
  have I4 := I3.lk f4
  refine w_eq c 0 (fun z => by omega) (fun _ => ?_) rfl rfl
  refine c_P_clash I4 hW 3 (fun h5' r5 f5 hr5 => ?_) rfl (by omega)
  obtain ⟨q5, cq5, -, -, q53⟩ := cla_w (by omega) hh hc hr5
  have e5 := Cl1_u cq5 cp
  subst e5
  have k5 := clq_fir hW cp.2.1 (q53 rfl)
  have I5 := I4.lk f5
  refine c_P_count I5 hW 8 (fun h6 r6 f6 hr6 => ?_) rfl (by omega)
  have e6 := HerR_u (cnt_8 hr6) hh
  have I6 := I5.lk f6
  refine w_eq r5 r6 (fun z => absurd (z.trans e6) k5.1) (fun _ => ?_) rfl rfl (by omega) (by rw [e6]; exact hrg)
  refine c_P_clash I6 hW 3 (fun h7 r7 f7 hr7 => ?_) rfl (by omega)
  obtain ⟨q7, cq7, -, -, q73⟩ := cla_w (by omega) hh hc hr7
  have e7 := Cl1_u cq7 cp
  subst e7
  have k7 := clq_fir hW cp.2.1 (q73 rfl)
  have I7 := I6.lk f7
  refine w_le 0 r7 (fun _ => ?_) (fun z => by omega) rfl rfl
  exact l_best I7 hW hn h5 (by rw [f7.1 90 (by omega), f6.1 90 (by omega), f5.1 90 (by omega), f4.1 90 (by omega), f3.1 90 (by omega), f2.1 90 (by omega)]; exact fl1)
set_option maxRecDepth 100000 in
set_option maxHeartbeats 8000000 in
theorem l_after {z2 : Int32} {L3 L4 L5 L6 L7 L8 L9 L10 L11 L12 L13 : Option Value} (hI : CI S n H N T f G h) (hW : WF S) (hX : PX S) (hn : n ≤ 5) (h5 : S 5 ≤ 100) (hfl : h.1 90 0 = 0) : LR 203 [some (.float 0), some (.ref 0), some (.int z2), L3, L4, L5, L6, L7, L8, L9, L10, L11, L12, L13] [] (1, 16) h := by
  refine s_cellB rfl (fun v => ?_)
  have hl1 := lowN_lt v (n := 48) (by omega)
  have hl2 := lowN_lt (sh v 6) (n := 12) (by omega)
  refine w_loop IS_ok [248] ok_L_law ?_
  refine c_L_addsUp hI hW hX (fun h1 f1 => ?_)
  have I1 := hI.lk f1
  refine c_L_low 48 (by omega) (by omega) ?_ rfl
  refine c_L_isLine I1 hW (lowN v 48) hl1 rfl (fun h2 f2 => ?_)
  have I2 := I1.lk f2
  refine c_L_low 12 (by omega) (by omega) ?_ rfl
  refine c_L_isLine I2 hW (lowN (sh v 6) 12) (by omega) rfl (fun h3 f3 => ?_)
  have I3 := I2.lk f3
  exact l_clash I3 hW hn h5 (by rw [f3.1 90 (by omega), f2.1 90 (by omega), f1.1 90 (by omega)]; exact hfl)
end
