/-! the law: a forecast, and the frames themselves -/
section
variable {S : Nat → Int} {n : Nat} {H : Nat → Nat → Int} {N : Nat} {T : Nat → Nat} {f : Nat} {G : Nat → Int} {h : St}
theorem fut_0 {S : Nat → Int} (hW : WF S) : Fut S (S 3) (S 4).toNat 0 S := by
  have h4 := hW.2.2.2.2.1
  exact ⟨⟨rfl, rfl, rfl, by omega, by omega⟩, fun _ _ => ⟨rfl, rfl⟩, fun _ _ => rfl, fun p _ => by show _ = _ + ((0 : Nat) : Int); omega⟩
set_option maxRecDepth 100000 in
set_option maxHeartbeats 8000000 in
theorem l_told {p fr : Nat} {r w : Int} {v z4 z5 z6 : Int32} {L3 L10 L11 L12 L13 : Option Value} {h3 : St} (I3 : CI S n H N T f G h3) (hW : WF S) (hn : n ≤ 5) (h5 : S 5 ≤ 100) (fl3 : h3.1 90 0 = 0) (hp20 : p < 20) (hfr0 : 0 < fr) (hfr9 : fr < 9) (hr : HinR S (p : Nat) (fr : Nat) r) (hw : PupR S (p : Nat) 9 w) (e5 : z5 = iI (p : Nat)) (e6 : z6 = iI (fr : Nat)) : LR 420 [some (.float 0), some (.ref 0), some (.int v), L3, some (.int z4), some (.int z5), some (.int z6), some (.int (iI r)), some (.int (iI w)), some (.int 0), L10, L11, L12, L13] [] (1, 16) h3 := by
  subst e5; subst e6
  have hN := hW.n
  by_cases g : thr S (p : Int)
  · have er : r = (ofn S (S 3) (S 4).toNat p fr : Nat) := by
      rcases hr with ⟨z, -⟩ | ⟨-, z⟩
      · exact absurd ⟨g, by omega⟩ z
      · exact z
    have ew : w = S (26 + 9 * p + 6) := pup_hi g (by omega) hw
    have hle := ofn_le S (S 3) (S 4).toNat p fr
    have hwp := (hW.wp p hp20).2.2.2.2.2.2.1
    have h5' := hW.2.2.2.2.2.1
    -- behind the frames
    have fin : ∀ (X : Nat → Int) (nX : Nat) (HX : Nat → Nat → Int) (hc : St) (z9 : Int32), CI X nX HX N T f G hc → WF X → nX ≤ 5 → Fut S (S 3) (S 4).toNat fr X → thr X (p : Int) → hc.1 90 0 = 0 → LR 443 [some (.float 0), some (.ref 0), some (.int v), L3, some (.int z4), some (.int (iI (p : Nat))), some (.int (iI (fr : Nat))), some (.int (iI r)), some (.int (iI w)), some (.int z9), L10, L11, L12, L13] [] (1, 16) hc := by
      intro X nX HX hc z9 IX WX' hnX hF gX flX
      have hX6 := hF.2.2.2 p hp20
      have hXw := (WX'.wp p hp20).2.2.2.2.2.2.1
      have hX5 := WX'.2.2.2.2.2.1
      refine w_loop IS_ok [479] ok_L_law ?_
      refine w_lt r 0 (fun z => by omega) (fun _ => ?_) rfl rfl
      refine c_P_puppet IX WX' (p : Nat) 9 (fun h4 w4 f4 hw4 => ?_) rfl rfl (by omega) (by omega)
      have e4 : w4 = X (26 + 9 * p + 6) := pup_hi gX (by omega) hw4
      have I4 := IX.lk f4
      refine w_eq w4 (w + r) (fun _ => ?_) (fun z => absurd (by omega) z) rfl (iI_add w r)
      refine c_P_count I4 WX' 0 (fun h5'' r5 f5 hr5 => ?_) rfl (by omega)
      rw [cnt_0 hr5]
      have hn0 : 0 < (X 1).toNat := by
        obtain ⟨k, hk, -⟩ := thr_ex.mp gX
        omega
      have hnX' := WX'.n
      refine w_le (X 1) 0 (fun z => by omega) (fun _ => ?_) rfl rfl
      refine w_lt r 0 (fun z => by omega) (fun _ => ?_) rfl rfl
      exact l_flip (I4.lk f5) WX' hnX gX (by rw [f5.1 90 (by omega), f4.1 90 (by omega)]; exact flX)
    have loop : ∀ (m k : Nat) (X : Nat → Int) (nX : Nat) (HX : Nat → Nat → Int) (hc : St) (z9 : Int32), k + m = fr → CI X nX HX N T f G hc → WF X → nX ≤ 5 → Fut S (S 3) (S 4).toNat k X → thr X (p : Int) → hc.1 90 0 = 0 → z9 = iI (k : Nat) → LR 420 [some (.float 0), some (.ref 0), some (.int v), L3, some (.int z4), some (.int (iI (p : Nat))), some (.int (iI (fr : Nat))), some (.int (iI r)), some (.int (iI w)), some (.int z9), L10, L11, L12, L13] [] (1, 16) hc := by
      intro m
      induction m with
      | zero =>
        intro k X nX HX hc z9 hm IX WX' hnX hF gX flX e9
        have hk : k = fr := by omega
        subst hk
        refine w_loop IS_ok [420, 443] ok_L_law ?_
        exact w_le (k : Nat) (k : Nat) (fun _ => fin X nX HX hc _ IX WX' hnX hF gX flX) (fun _ => by omega) rfl e9
      | succ m ih =>
        intro k X nX HX hc z9 hm IX WX' hnX hF gX flX e9
        refine w_loop IS_ok [420, 443] ok_L_law ?_
        refine w_le (fr : Nat) (k : Nat) (fun _ => by omega) (fun _ => ?_) rfl e9
        refine w_lt r 0 (fun z => by omega) (fun _ => ?_) rfl rfl
        have h5k := hF.1.2.2.2.2
        have hne : X 5 ≠ 9999 := by omega
        refine c_P_frame IX WX' hnX (fun z => absurd z hne) (fun _ h4 f4 I4 => ?_)
        exact ih (k + 1) (frS X) _ _ h4 _ (by omega) I4 (wf_fr WX' (rf_fr WX') hne) (psN_le hnX) (hF.s hW WX'.wg) (thr_fr WX' gX) (by rw [f4.1 90 (by omega)]; exact flX) (iI_1 e9)
    exact loop fr 0 S n H h3 _ (by omega) I3 hW hn (fut_0 hW) g fl3 rfl
  · have er : r = -101 := by
      rcases hr with ⟨-, z⟩ | ⟨z, -⟩
      · exact z
      · exact absurd z.1 g
    refine w_loop IS_ok [681] ok_L_law ?_
    refine w_le (fr : Nat) 0 (fun _ => by omega) (fun _ => ?_) rfl rfl
    refine w_lt r 0 (fun _ => ?_) (fun _ => by omega) rfl rfl
    refine w_lt r 0 (fun _ => ?_) (fun _ => by omega) rfl rfl
    refine c_P_count I3 hW 0 (fun h4 r4 f4 hr4 => ?_) rfl (by omega)
    rw [cnt_0 hr4]
    refine w_le (S 1) 0 (fun _ => l_end (I3.lk f4) hW hn) (fun _ => ?_) rfl rfl
    exact w_lt r 0 (fun _ => l_end (I3.lk f4) hW hn) (fun _ => by omega) rfl rfl
set_option maxRecDepth 100000 in
set_option maxHeartbeats 8000000 in
theorem l_frames {v z4 : Int32} {L3 L5 L6 L7 L8 L9 L10 L11 L12 L13 : Option Value} (hI : CI S n H N T f G h) (hW : WF S) (hn : n ≤ 5) (h5 : S 5 ≤ 100) (hfl : h.1 90 0 = 0) : LR 374 [some (.float 0), some (.ref 0), some (.int v), L3, some (.int z4), L5, L6, L7, L8, L9, L10, L11, L12, L13] [] (1, 16) h := by
  have hp20 := thV_b hW (sh v 9)
  have hl := lowN_lt (sh v 12) (n := 8) (by omega)
  refine w_loop IS_ok [420] ok_L_law ?_
  refine c_L_there hI hW (fun h1 f1 => ?_)
  have I1 := hI.lk f1
  refine c_L_low 8 (by omega) (by omega) ?_ rfl
  have e6 : (1 : Int32) + iI (lowN (sh v 12) 8 : Nat) = iI ((1 + lowN (sh v 12) 8 : Nat) : Int) := (iI_add 1 ((lowN (sh v 12) 8 : Nat) : Int)).trans (congrArg iI (by omega))
  refine c_P_hiddenIn I1 hW (thV S (sh v 9) : Nat) ((1 + lowN (sh v 12) 8 : Nat) : Int) (fun h2 r f2 hr => ?_) rfl e6 (by omega) (by omega)
  have I2 := I1.lk f2
  refine c_P_puppet I2 hW (thV S (sh v 9) : Nat) 9 (fun h3 w f3 hw => ?_) rfl rfl (by omega) (by omega)
  have I3 := I2.lk f3
  exact l_told I3 hW hn h5 (by rw [f3.1 90 (by omega), f2.1 90 (by omega), f1.1 90 (by omega)]; exact hfl) hp20 (by omega) (by omega) hr hw rfl e6
end
