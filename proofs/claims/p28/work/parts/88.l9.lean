/-! the law: its acts, one by one -/
theorem actR_rg {S : Nat → Int} (hS : WF S) (v : Int32) : -200 ≤ (actR S v).1 ∧ (actR S v).1 ≤ 300 := by
  have hn := hS.n
  have hp : ∀ p : Int, thr S p → 0 ≤ pos S p (S 1).toNat ∧ pos S p (S 1).toNat ≤ 20 := fun p g => by have := thr_pos g; omega
  have hq := thV_b hS (sh v 4)
  unfold actR
  by_cases k0 : kkN v = 0
  · rw [if_pos k0]
    have := hS.pic (i := 8 * lowN (sh v 4) 8 + lowN (sh v 7) 8) (by have := lowN_lt (sh v 4) (n := 8) (by omega); have := lowN_lt (sh v 7) (n := 8) (by omega); omega)
    rw [show 206 + (8 * lowN (sh v 4) 8 + lowN (sh v 7) 8) = 206 + 8 * lowN (sh v 4) 8 + lowN (sh v 7) 8 by omega] at this
    dsimp only
    omega
  rw [if_neg k0]
  by_cases k1 : kkN v = 1
  · rw [if_pos k1]
    by_cases g : thr S (thV S (sh v 4) : Nat)
    · rw [if_pos g]; have := hp _ g; dsimp only; omega
    · rw [if_neg g]; dsimp only; omega
  rw [if_neg k1]
  by_cases k2 : kkN v = 2
  · rw [if_pos k2]
    by_cases g : thr S (thV S (sh v 4) : Nat)
    · rw [if_pos g]
      have := lns_le (mvS S (thV S (sh v 4)) ((lowN (sh v 8) 79 : Nat) - 15) ((lowN (sh v 12) 63 : Nat) - 15)) (thV S (sh v 4)) 48
      dsimp only; omega
    · rw [if_neg g]; dsimp only; omega
  rw [if_neg k2]
  by_cases k3 : kkN v = 3
  · rw [if_pos k3]
    by_cases g : thr S (thV S (sh v 4) : Nat)
    · rw [if_pos g]
      have := (hS.wp _ hq).2.2.2.2.2.1
      dsimp only; omega
    · rw [if_neg g]; dsimp only; omega
  rw [if_neg k3]
  by_cases k4 : kkN v = 4
  · rw [if_pos k4]
    by_cases g : thr S (thV S (sh v 4) : Nat)
    · rw [if_pos g]; have := hp _ g; dsimp only; omega
    · rw [if_neg g]; dsimp only; omega
  rw [if_neg k4]
  by_cases k5 : kkN v = 5
  · rw [if_pos k5]
    by_cases g : thr S (thV S (sh v 4) : Nat)
    · rw [if_pos g]; have := hp _ g; dsimp only; omega
    · rw [if_neg g]; dsimp only; omega
  rw [if_neg k5]
  by_cases k6 : kkN v = 6
  · rw [if_pos k6]; have := hS.lim; dsimp only; omega
  rw [if_neg k6]
  by_cases k7 : kkN v = 7
  · rw [if_pos k7]; have := hS.2.2.2.1; dsimp only; omega
  rw [if_neg k7]
  by_cases k8 : kkN v < 12
  · rw [if_pos k8]; have := hidN_le S; dsimp only; omega
  rw [if_neg k8]
  by_cases k9 : S 0 = 20
  · rw [if_pos k9]; dsimp only; omega
  · rw [if_neg k9]; dsimp only; omega
section
variable {S : Nat → Int} {n : Nat} {H : Nat → Nat → Int} {N : Nat} {T : Nat → Nat} {f : Nat} {G : Nat → Int} {h : St}
abbrev LT (z2 a : Int32) (d : Int64) (z6 z7 : Int32) (L8 L9 L10 L11 L12 L13 : Option Value) : List (Option Value) := [some (.float 0), some (.ref 0), some (.int z2), some (.int a), some (.long d), none, some (.int z6), some (.int z7), L8, L9, L10, L11, L12, L13]
set_option maxRecDepth 100000 in
set_option maxHeartbeats 8000000 in
theorem l_chk {z2 a : Int32} {d : Int64} {L8 L9 L10 L11 L12 L13 : Option Value} {B : Nat × Nat} (hW : WF S) (kk : LR 158 (LT z2 a d (iI (hidN S : Nat)) (iI (actR S a).1) L8 L9 L10 L11 L12 L13) [] B h) : LR 131 (LT z2 a d (iI (hidN S : Nat)) (iI (actR S a).1) L8 L9 L10 L11 L12 L13) [] B h := by
  have hk := kk_and a
  have hkl := kkN_lt a
  have hr := actR_rg hW a
  have hh := hidN_le S
  refine w_loop IS_ok [158] ok_L_law ?_
  refine w_le (kkN a : Nat) 7 (fun _ => kk) (fun g => ?_) hk rfl
  refine w_le 12 (kkN a : Nat) (fun _ => kk) (fun g2 => ?_) rfl hk
  exact w_eq (actR S a).1 (hidN S : Nat) (fun _ => kk) (fun z => absurd (actR_fr (by omega) (by omega)) z) rfl rfl
set_option maxRecDepth 100000 in
set_option maxHeartbeats 8000000 in
theorem l_turn {t : Nat} {z2 a : Int32} {L3 L4 L5 L6 L7 L8 L9 L10 L11 L12 L13 : Option Value} (hI : CI S n H N T f G h) (hn : n ≤ 5) (hX : WX S t) (ht : t < 100) (hfl : h.1 90 0 = 0) (nx : ∀ (S' : Nat → Int) (n' : Nat) (H' : Nat → Nat → Int) (h' : St) (L : List (Option Value)), CI S' n' H' N T f G h' → n' ≤ 5 → WX S' (t + 1) → h'.1 90 0 = 0 → L = LT z2 a (dgB S 120) (iI (hidN S : Nat)) (iI (actR S a).1) L8 L9 L10 L11 L12 L13 → LR 197 L [] (1, 16) h') : LR 94 [some (.float 0), some (.ref 0), some (.int z2), L3, L4, L5, L6, L7, L8, L9, L10, L11, L12, L13] [.int a] (1, 16) h := by
  have hW := hX.1
  have h5 := hX.2.2
  have hr := actR_rg hW a
  have hh := hidN_le S
  have hXs := hX.mo (show t ≤ t + 1 by omega)
  have hXa := actR_W hX (by omega) a
  refine w_loop IS_ok [131, 197] ok_L_law ?_
  refine c_L_digest hI hW (fun h1 f1 => ?_)
  have I1 := hI.lk f1
  refine c_P_count I1 hW 6 (fun h2 r2 f2 hr2 => ?_) rfl (by omega)
  rw [cnt_6 hr2]
  have I2 := I1.lk f2
  have fl2 : h2.1 90 0 = 0 := by rw [f2.1 90 (by omega), f1.1 90 (by omega)]; exact hfl
  refine c_L_act I2 hW hn (by omega) (fun g h3 f3 I3 => ?_) (fun g h3 f3 I3 => ?_)
  · refine w_le 0 (actR S a).1 (fun z => by omega) (fun _ => ?_) rfl rfl
    refine c_L_digest I3 hW (fun h4 f4 => ?_)
    refine w_t (lg_self _) ?_
    refine l_chk hW ?_
    refine w_loop IS_ok [197] ok_L_law ?_
    refine w_lt (actR S a).1 0 (fun _ => ?_) (fun z => by omega) rfl rfl
    exact nx S n H h4 _ (I3.lk f4) hn hXs (by rw [f4.1 90 (by omega), f3.1 90 (by omega)]; exact fl2) rfl
  · have fl3 : h3.1 90 0 = 0 := by rw [f3.1 90 (by omega)]; exact fl2
    refine w_le 0 (actR S a).1 (fun _ => ?_) (fun z => by omega) rfl rfl
    refine l_chk hW ?_
    refine w_loop IS_ok [197] ok_L_law ?_
    refine w_lt (actR S a).1 0 (fun z => by omega) (fun _ => ?_) rfl rfl
    refine w_if (fun _ => ?_) (fun _ => ?_)
    · have hn3 := psN_le hn
      have hlast := psH_last hn H S
      refine c_P_undo I3 hn3 (fun _ => by rw [hlast]; exact hW.n.2.1) (fun z => absurd z (by have := psN_pos n; omega)) (fun _ h4 f4 I4 => ?_)
      rw [hlast] at I4
      have fl4 : h4.1 90 0 = 0 := by rw [f4.1 90 (by omega)]; exact fl3
      refine c_L_digest I4 hW (fun h5' f5 => ?_)
      have I5 := I4.lk f5
      refine w_t (lg_self _) ?_
      refine c_L_act I5 hW (by omega) (by omega) (fun g2 => by omega) (fun _ h6 f6 I6 => ?_)
      refine w_eq (actR S a).1 (actR S a).1 (fun _ => ?_) (fun z => absurd rfl z) rfl rfl
      exact nx _ _ _ h6 _ I6 (psN_le (by omega)) hXa (by rw [f6.1 90 (by omega), f5.1 90 (by omega)]; exact fl4) rfl
    · exact nx _ _ _ h3 _ I3 (psN_le hn) hXa fl3 rfl
set_option maxRecDepth 100000 in
set_option maxHeartbeats 8000000 in
theorem l_loop : ∀ (m t : Nat) (S : Nat → Int) (n : Nat) (H : Nat → Nat → Int) (h : St) (z2 : Int32) (L3 L4 L5 L6 L7 L8 L9 L10 L11 L12 L13 : Option Value), t + m = 18 → CI S n H N T f G h → n ≤ 5 → WX S t → h.1 90 0 = 0 → z2 = iI (t : Nat) → LR 67 [some (.float 0), some (.ref 0), some (.int z2), L3, L4, L5, L6, L7, L8, L9, L10, L11, L12, L13] [] (1, 16) h := by
  intro m
  induction m with
  | zero =>
    intro t S n H h z2 L3 L4 L5 L6 L7 L8 L9 L10 L11 L12 L13 hm hI hn hX hfl e2
    have h5 := hX.2.2
    refine w_loop IS_ok [67, 203] ok_L_law ?_
    exact w_le 18 t (fun _ => l_after hI hX.1 hX.2.1 hn (by omega) hfl) (fun _ => by omega) rfl e2
  | succ m ih =>
    intro t S n H h z2 L3 L4 L5 L6 L7 L8 L9 L10 L11 L12 L13 hm hI hn hX hfl e2
    have nx : ∀ (a : Int32) (S' : Nat → Int) (n' : Nat) (H' : Nat → Nat → Int) (h' : St) (L : List (Option Value)), CI S' n' H' N T f G h' → n' ≤ 5 → WX S' (t + 1) → h'.1 90 0 = 0 → L = LT z2 a (dgB S 120) (iI (hidN S : Nat)) (iI (actR S a).1) L8 L9 L10 L11 L12 L13 → LR 197 L [] (1, 16) h' := by
      intro a S' n' H' h' L I' hn' hX' fl' eL
      subst eL
      refine w_loop IS_ok [67] ok_L_law ?_
      exact ih (t + 1) S' n' H' h' _ _ _ _ _ _ _ _ _ _ _ _ (by omega) I' hn' hX' fl' (iI_1 e2)
    have tu : ∀ a : Int32, LR 94 [some (.float 0), some (.ref 0), some (.int z2), L3, L4, L5, L6, L7, L8, L9, L10, L11, L12, L13] [.int a] (1, 16) h := fun a => l_turn hI hn hX (by omega) hfl (nx a)
    refine w_loop IS_ok [67, 78, 89, 203] ok_L_law ?_
    refine w_le 18 t (fun _ => by omega) (fun _ => ?_) rfl e2
    refine w_le 3 t (fun _ => ?_) (fun _ => ?_) rfl e2
    · refine s_cellA rfl rfl rfl t (by omega) rfl (congrArg (fun q => some (Value.int q)) e2) (fun v => ?_)
      exact tu v
    · refine s_cellA rfl rfl rfl t (by omega) rfl (congrArg (fun q => some (Value.int q)) e2) (fun v => ?_)
      refine w_loop IS_ok [94] ok_L_law ?_
      exact tu _
end
