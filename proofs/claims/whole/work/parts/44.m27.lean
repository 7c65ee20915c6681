/-! a play, tried and run; the method run -/
theorem c_M_runPlay_1 {n : Nat} {T : Nat → Nat} {h : St} {C : Nat → Cod} {c : Nat} {Q : Option Value → St → Prop} {l : List Ent} (hB : TxB n T) (hc : c ≤ 100) (h17 : h.1 90 17 = iI c) (h25 : h.1 90 25 = 1) (hcd : ∀ j, j < c → CdR T h j (C j)) (hok : ∀ j, j < c → ∀ e, C j = cAct e → EntOk n T e) (sg : Seg C 0 0 c l)
    (hQ1 : ∀ h', l.length ≤ 200 → Sm [] [106] h h' → Q (some (.int (iI l.length))) h')
    (hQ0 : ∀ e h', l[200]? = some e → Sm [(90, 25), (90, 21)] [108, 106] h h' → h'.1 90 25 = 0 → MFl 1 (fG 3 e.1 e.2.1 0 (-109)) h' → Q (some (.int (iI 200))) h') : SC y_M_runPlay [.ref 90, .int 1] h Q := by
  refine w_call IS_ok [7] ok_M_runPlay rfl rfl ?_
  refine tryP_seg hB hc h17 h25 hcd hok sg (Nat.le_refl _) h 0 _ _ _ _ (by omega) Sm.rf rfl rfl rfl (fun hml h' w2 w3 w4 L hs hk f2 f3 f4 => ?_) (fun e h' he hs h0 hF => hQ0 e h' he hs h0 hF)
  have g25 : h'.1 90 25 = 1 := (hs.1 _ _ (by decide)).trans h25
  refine w_loop IS_ok [] ok_M_runPlay ?_
  refine w_if (fun z => absurd (show (1 : Int32) = 0 by rw [← g25]; exact z) (by decide)) (fun _ => ?_)
  refine w_le c c (fun _ => ?_) (fun _ => by omega) ((hs.1 _ _ (by decide)).trans h17) f4
  have := hQ1 h' (by omega) hs
  rw [f2, Nat.zero_add]
  exact this
theorem c_M_runPlay_0 {n : Nat} {T : Nat → Nat} {S : Nat → Int} {h : St} {C : Nat → Cod} {c : Nat} {Q : Option Value → St → Prop} {l : List Ent} (hB : TxB n T) (hT : MTx n T h) (hS : MS S h) (hW : WF S) (hc : c ≤ 100) (h17 : h.1 90 17 = iI c) (h25 : h.1 90 25 = 1) (hcd : ∀ j, j < c → CdR T h j (C j)) (hok : ∀ j, j < c → ∀ e, C j = cAct e → EntOk n T e) (sg : Seg C 0 0 c l) (hl : l.length ≤ 200)
    (hQ1 : ∀ S' S0' h', runF T l 0 S = .inr S' → Sm [] [106, 98, 96, 91] h h' → MS S0' h' → Eqv S' S0' → WF S' → Q (some (.int (iI l.length))) h')
    (hQ0 : ∀ e k cd h', runF T l 0 S = .inl (e, k, cd) → Sm [(90, 25), (90, 21)] [108, 106, 98, 96, 91] h h' → h'.1 90 25 = 0 → MFl 1 (fG 2 e.1 e.2.1 k cd) h' → Q (some (.int (iI k))) h') : SC y_M_runPlay [.ref 90, .int 0] h Q := by
  refine w_call IS_ok [7] ok_M_runPlay rfl rfl ?_
  refine runP_seg hB hT hc h17 h25 hcd hok sg (Nat.le_refl _) h 0 S S _ _ _ _ (by omega) Sm.rf hS (Eqv.rf _) hW rfl rfl rfl (fun S' S0' h' w2 w3 w4 L hr hs hM hE hW' hk f2 f3 f4 => ?_) (fun e k cd h' he hs h0 hF => hQ0 e k cd h' he hs h0 hF)
  have g25 : h'.1 90 25 = 1 := (hs.1 _ _ (by decide)).trans h25
  refine w_loop IS_ok [] ok_M_runPlay ?_
  refine w_if (fun z => absurd (show (1 : Int32) = 0 by rw [← g25]; exact z) (by decide)) (fun _ => ?_)
  refine w_le c c (fun _ => ?_) (fun _ => by omega) ((hs.1 _ _ (by decide)).trans h17) f4
  have := hQ1 S' S0' h' hr hs hM hE hW'
  rw [f2, Nat.zero_add]
  exact this
abbrev SmW (h h' : St) : Prop := Sm [(90, 0), (90, 4), (90, 25), (90, 21), (90, 23), (90, 17), (90, 24)] [108, 99, 100, 101, 102, 103, 104, 105, 106, 107, 98, 96, 93, 92, 91] h h'
set_option maxHeartbeats 4000000 in
theorem c_M_run {n : Nat} {T : Nat → Nat} {S : Nat → Int} {nh : Nat} {H : Nat → Nat → Int} {h : St} {Q : Option Value → St → Prop} (hB : TxB n T) (hT : MTx n T h) (hS : MS S h) (hW : WF S) (hH : MH nh H h) (hnh : nh ≤ 5)
    (hF1 : ∀ f d h', rd (chr n T) n n 0 [] [] = .inl (f, d) → SmW h h' → MS S h' → MH nh H h' → MFl 1 (fG 1 f (d + 1) 0 (-109)) h' → h'.1 90 0 = 0 → Q (some (.int (iI (-1000 - f)))) h')
    (hF3 : ∀ l e h', rd (chr n T) n n 0 [] [] = .inr l → l[200]? = some e → SmW h h' → MS S h' → MH nh H h' → MFl 1 (fG 3 e.1 e.2.1 0 (-109)) h' → h'.1 90 0 = 0 → Q (some (.int (iI (-1000 - e.1)))) h')
    (hF2 : ∀ l e k cd S' h', rd (chr n T) n n 0 [] [] = .inr l → l.length ≤ 200 → runF T l 0 S = .inl (e, k, cd) → SmW h h' → MS S' h' → (∀ i, i < 270 → S' i = S i) → MH nh H h' → MFl 1 (fG 2 e.1 e.2.1 k cd) h' → h'.1 90 0 = 0 → Q (some (.int (iI (-1000 - e.1)))) h')
    (hQ1 : ∀ l S' S0' h', rd (chr n T) n n 0 [] [] = .inr l → l.length ≤ 200 → runF T l 0 S = .inr S' → SmW h h' → MS S0' h' → Eqv S' S0' → WF S' → MH (psN nh) (psH nh H S) h' → h'.1 90 21 = h.1 90 21 → h'.2 108 = h.2 108 → h'.1 90 0 = 0 → Q (some (.int (iI l.length))) h') : SC y_M_run [.ref 90] h Q := by
  refine w_call IS_ok [22] ok_M_run rfl rfl ?_
  have s0 : Sm [(90, 0)] [] h (pf h 0 0) := Sm.pf _ (by decide)
  have t0 : (pf h 0 0).1 90 0 = 0 := pf_s _ _ _
  have sW : ∀ h', Sm [(90, 25), (90, 21), (90, 23), (90, 17), (90, 24)] [108, 99, 100, 101, 102, 103, 104, 105, 106, 107, 98, 96, 92, 91] (pf h 0 0) h' → SmW h h' ∧ MH nh H h' ∧ h'.1 90 0 = 0 := by
    intro h' hs
    exact ⟨(s0.mo (by decide) (by decide)).t (hs.mo (by decide) (by decide)), (hH.sm s0 (by decide) (by decide)).sm hs (by decide) (by decide), (hs.1 _ _ (by decide)).trans t0⟩
  have at22 : ∀ hc, hc.1 90 25 = 0 → ∀ p : Nat, (∃ f G, MFl f G hc ∧ G 1 = p) → Q (some (.int (iI (-1000 - p)))) hc → SR y_M_run 22 [some (.ref 90), none, none, none] [] hc Q := by
    intro hc g25 p hF hq
    obtain ⟨f, G, hF, hG⟩ := hF
    refine w_loop IS_ok [] ok_M_run ?_
    refine w_if (fun _ => ?_) (fun z => absurd g25 z)
    refine w_ix 1 ?_ rfl (show 1 < 5 by omega)
    rw [← iI_sub] at hq
    show Q (some (.int ((-1000) - hc.2 108 1))) hc
    rw [hF.2 1 (by omega), hG]
    exact hq
  refine c_M_readPlay (h := pf h 0 0) hB (hT.sm s0 (by decide) (by decide)) (fun f d h' hr hs hF => ?_) (fun l C c h1 hr hs hcb h17 h25 hcd hsg hok => ?_)
  · refine w_if (fun _ => ?_) (fun g => absurd hF.1 g)
    have hw := sW h' (hs.mo (by decide) (by decide))
    exact at22 h' hF.1 f ⟨_, _, hF.2, rfl⟩ (hF1 f d h' hr hw.1 ((hS.sm s0 (by decide)).sm hs (by decide)) hw.2.1 hF.2 hw.2.2)
  refine w_if (fun z => absurd (show (1 : Int32) = 0 by rw [← h25]; exact z) (by decide)) (fun _ => ?_)
  refine c_M_runPlay_1 hB hcb h17 h25 hcd hok hsg (fun h2 hl hs2 => ?_) (fun e h' he hs2 g25 hF => ?_)
  rotate_left
  · have hs3 : Sm [(90, 25), (90, 21), (90, 23), (90, 17), (90, 24)] [108, 99, 100, 101, 102, 103, 104, 105, 106, 107, 98, 96, 92, 91] (pf h 0 0) h' := (hs.mo (by decide) (by decide)).t (hs2.mo (by decide) (by decide))
    have hw := sW h' hs3
    exact at22 h' g25 e.1 ⟨_, _, hF, rfl⟩ (hF3 l e h' hr he hw.1 (((hS.sm s0 (by decide)).sm hs (by decide)).sm hs2 (by decide)) hw.2.1 hF hw.2.2)
  have g25 : h2.1 90 25 = 1 := (hs2.1 _ _ (by decide)).trans h25
  have hS2 : MS S h2 := ((hS.sm s0 (by decide)).sm hs (by decide)).sm hs2 (by decide)
  have hT2 : MTx n T h2 := ((hT.sm s0 (by decide) (by decide)).sm hs (by decide) (by decide)).sm hs2 (by decide) (by decide)
  have hsA : Sm [(90, 25), (90, 21), (90, 23), (90, 17), (90, 24)] [108, 99, 100, 101, 102, 103, 104, 105, 106, 107, 98, 96, 92, 91] (pf h 0 0) h2 := (hs.mo (by decide) (by decide)).t (hs2.mo (by decide) (by decide))
  refine w_loop IS_ok [42] ok_M_run ?_
  refine w_if (fun z => absurd (show (1 : Int32) = 0 by rw [← g25]; exact z) (by decide)) (fun _ => ?_)
  -- behind the swap
  have loop2 : ∀ (hb : St) (r : Int32), (∀ i, i < 270 → hb.2 92 i = iI (S i)) → (∀ hc L2 L3, Sm [] [92, 91] hb hc → (∀ i, i < 270 → hc.2 91 i = iI (S i)) → (∀ i, 270 ≤ i → hc.2 91 i = hb.2 91 i) → (∀ i, i < 270 → hc.2 92 i = hb.2 91 i) → SR y_M_run 114 [some (.ref 90), some (.int r), L2, L3] [] hc Q) →
      ∀ (m k : Nat) (hc : St) (z2 : Int32) (L3 : Option Value), 270 ≤ k + m → k ≤ 270 → Sm [] [92, 91] hb hc → (∀ i, i < k → hc.2 91 i = iI (S i)) → (∀ i, k ≤ i → hc.2 91 i = hb.2 91 i) → (∀ i, i < k → hc.2 92 i = hb.2 91 i) → (∀ i, k ≤ i → hc.2 92 i = hb.2 92 i) → z2 = iI k → SR y_M_run 75 [some (.ref 90), some (.int r), some (.int z2), L3] [] hc Q := by
    intro hb r hb92 fin m
    induction m with
    | zero =>
      intro k hc z2 L3 hm hk hs a1 a2 a3 a4 e2
      refine w_loop IS_ok [114] ok_M_run ?_
      have : k = 270 := by omega
      subst this
      exact w_le 270 270 (fun _ => fin hc _ _ hs a1 a2 a3) (fun _ => by omega) rfl e2
    | succ m ih =>
      intro k hc z2 L3 hm hk hs a1 a2 a3 a4 e2
      refine w_loop IS_ok [75, 114] ok_M_run ?_
      refine w_le 270 k (fun g => ?_) (fun g => ?_) rfl e2
      · have : k = 270 := by omega
        subst this
        exact fin hc _ _ hs a1 a2 a3
      · refine w_ix k ?_ e2 (show k < 270 by omega)
        refine w_ix k ?_ e2 (show k < 270 by omega)
        refine w_ix k ?_ e2 (show k < 270 by omega)
        refine w_ix k ?_ e2 (show k < 270 by omega)
        refine ih (k + 1) (wa (wa hc 91 k (hc.2 92 k)) 92 k (hc.2 91 k)) _ _ (by omega) (by omega) ((hs.t (Sm.wa _ _ (by decide))).t (Sm.wa _ _ (by decide))) (fun i hi => ?_) (fun i hi => ?_) (fun i hi => ?_) (fun i hi => ?_) (iI_1 e2)
        · rw [wa_o _ _ _ _ (by decide)]
          by_cases z : i = k
          · subst z; rw [wa_s, a4 _ (Nat.le_refl _)]; exact hb92 _ (by omega)
          · rw [wa_n _ _ _ _ z]; exact a1 i (by omega)
        · rw [wa_o _ _ _ _ (by decide), wa_n _ _ _ _ (by omega)]; exact a2 i (by omega)
        · by_cases z : i = k
          · subst z; rw [wa_s]; exact a2 _ (Nat.le_refl _)
          · rw [wa_n _ _ _ _ z, wa_o _ _ _ _ (by decide)]; exact a3 i (by omega)
        · rw [wa_n _ _ _ _ (by omega), wa_o _ _ _ _ (by decide)]; exact a4 i (by omega)
  have loop3 : ∀ (hb : St) (r : Int32) (Z : Nat → Int32), (∀ i, i < 270 → hb.2 92 i = Z i) → (∀ i, 270 ≤ i → hb.2 91 i = Z i) → (∀ hc, Sm [] [91] hb hc → (∀ i, hc.2 91 i = Z i) → Q (some (.int r)) hc) →
      ∀ (m k : Nat) (hc : St) (z2 : Int32) (L3 : Option Value), 270 ≤ k + m → k ≤ 270 → Sm [] [91] hb hc → (∀ i, i < k → hc.2 91 i = Z i) → (∀ i, 270 ≤ i → hc.2 91 i = Z i) → z2 = iI k → SR y_M_run 138 [some (.ref 90), some (.int r), some (.int z2), L3] [] hc Q := by
    intro hb r Z hb92 hb91 fin m
    have last : ∀ (hc : St), Sm [] [91] hb hc → (∀ i, i < 270 → hc.2 91 i = Z i) → (∀ i, 270 ≤ i → hc.2 91 i = Z i) → Q (some (.int r)) hc := by
      intro hc hs a1 a2
      exact fin hc hs (fun i => by by_cases z : i < 270; exact a1 i z; exact a2 i (by omega))
    induction m with
    | zero =>
      intro k hc z2 L3 hm hk hs a1 a2 e2
      refine w_loop IS_ok [] ok_M_run ?_
      have : k = 270 := by omega
      subst this
      exact w_le 270 270 (fun _ => last hc hs a1 a2) (fun _ => by omega) rfl e2
    | succ m ih =>
      intro k hc z2 L3 hm hk hs a1 a2 e2
      refine w_loop IS_ok [138] ok_M_run ?_
      refine w_le 270 k (fun g => ?_) (fun g => ?_) rfl e2
      · have : k = 270 := by omega
        subst this
        exact last hc hs a1 a2
      · refine w_ix k ?_ e2 (show k < 270 by omega)
        refine w_ix k ?_ e2 (show k < 270 by omega)
        refine ih (k + 1) (wa hc 91 k (hc.2 92 k)) _ _ (by omega) (by omega) (hs.t (Sm.wa _ _ (by decide))) (fun i hi => ?_) (fun i hi => ?_) (iI_1 e2)
        · by_cases z : i = k
          · subst z; rw [wa_s, hs.2 _ (by decide)]; exact hb92 _ (by omega)
          · rw [wa_n _ _ _ _ z]; exact a1 i (by omega)
        · rw [wa_n _ _ _ _ (by omega)]; exact a2 i hi
  have loop1 : ∀ (m k : Nat) (hc : St) (z1 : Int32), 270 ≤ k + m → k ≤ 270 → Sm [] [92] h2 hc → (∀ i, i < k → hc.2 92 i = iI (S i)) → z1 = iI k → SR y_M_run 42 [some (.ref 90), some (.int z1), none, none] [] hc Q := by
    have fin : ∀ (hc : St) (z1 : Int32), Sm [] [92] h2 hc → (∀ i, i < 270 → hc.2 92 i = iI (S i)) → SR y_M_run 67 [some (.ref 90), some (.int z1), none, none] [] hc Q := by
      intro hc z1 hs3 a1
      have k25 : hc.1 90 25 = 1 := (hs3.1 _ _ (by decide)).trans g25
      have k17 : hc.1 90 17 = iI c := (hs3.1 _ _ (by decide)).trans ((hs2.1 _ _ (by decide)).trans h17)
      refine w_loop IS_ok [75] ok_M_run ?_
      refine c_M_runPlay_0 hB (hT2.sm hs3 (by decide) (by decide)) (hS2.sm hs3 (by decide)) hW hcb k17 k25 (fun j hj => ((hcd j hj).sm hs2 (by decide)).sm hs3 (by decide)) hok hsg hl (fun S' S0' hb hrr hs4 hM hE hW' => ?_) (fun e k cd hb hrr hs4 k25' hF => ?_)
      · have kb : hb.1 90 25 = 1 := (hs4.1 _ _ (by decide)).trans k25
        refine loop2 hb _ (fun i hi => by rw [hs4.2 _ (by decide)]; exact a1 i hi) (fun hd L2 L3 hs5 b1 b2 b3 => ?_) 270 0 hb _ _ (by omega) (by omega) Sm.rf (fun i hi => by omega) (fun _ _ => rfl) (fun i hi => by omega) (fun _ _ => rfl) rfl
        have kd : hd.1 90 25 = 1 := (hs5.1 _ _ (by decide)).trans kb
        have hsB : Sm [(90, 25), (90, 21), (90, 23), (90, 17), (90, 24)] [108, 99, 100, 101, 102, 103, 104, 105, 106, 107, 98, 96, 92, 91] (pf h 0 0) hd := (hsA.t (hs3.mo (by decide) (by decide))).t ((hs4.mo (by decide) (by decide)).t (hs5.mo (by decide) (by decide)))
        have hw := sW hd hsB
        refine w_loop IS_ok [138] ok_M_run ?_
        refine w_if (fun z => absurd (show (1 : Int32) = 0 by rw [← kd]; exact z) (by decide)) (fun _ => ?_)
        refine c_M_act (S := rsS S0' S) (fun i => ?_) hw.2.1 hnh (fun h5 hs6 hH5 => ?_)
        · unfold rsS
          split
          · next g => exact b1 i g
          · next g => rw [b2 i (by omega)]; exact hM i
        · refine loop3 h5 _ (fun i => iI (S0' i)) (fun i hi => by rw [hs6.2 _ (by decide), b3 i hi]; exact hM i) (fun i hi => by rw [hs6.2 _ (by decide), b2 i hi]; exact hM i) (fun h6 hs7 hM6 => ?_) 270 0 h5 _ _ (by omega) (by omega) Sm.rf (fun i hi => by omega) (fun i hi => by rw [hs6.2 _ (by decide), b2 i hi]; exact hM i) rfl
          have hsC : SmW h h6 := hw.1.t ((hs6.mo (by decide) (by decide)).t (hs7.mo (by decide) (by decide)))
          have hHn := hH5.sm hs7 (by decide) (by decide)
          refine hQ1 l S' S0' h6 hr hl hrr hsC hM6 hE hW' ⟨hHn.1, fun j hj i hi => (hHn.2 j hj i hi).trans (congrArg iI ?_)⟩ ?_ ?_ ?_
          · unfold psH
            split
            · dsimp only; split <;> (try rfl)
              unfold rsS; rw [if_pos hi]
            · dsimp only; split <;> (try rfl)
              unfold rsS; rw [if_pos hi]
          · rw [hs7.1 _ _ (by decide), hs6.1 _ _ (by decide), hs5.1 _ _ (by decide), hs4.1 _ _ (by decide), hs3.1 _ _ (by decide), hs2.1 _ _ (by decide), hs.1 _ _ (by decide), s0.1 _ _ (by decide)]
          · rw [hs7.2 _ (by decide), hs6.2 _ (by decide), hs5.2 _ (by decide), hs4.2 _ (by decide), hs3.2 _ (by decide), hs2.2 _ (by decide), hs.2 _ (by decide), s0.2 _ (by decide)]
          · rw [hs7.1 _ _ (by decide), hs6.1 _ _ (by decide)]; exact hw.2.2
      · refine loop2 hb _ (fun i hi => by rw [hs4.2 _ (by decide)]; exact a1 i hi) (fun hd L2 L3 hs5 b1 b2 b3 => ?_) 270 0 hb _ _ (by omega) (by omega) Sm.rf (fun i hi => by omega) (fun _ _ => rfl) (fun i hi => by omega) (fun _ _ => rfl) rfl
        have kd : hd.1 90 25 = 0 := (hs5.1 _ _ (by decide)).trans k25'
        have hsB : Sm [(90, 25), (90, 21), (90, 23), (90, 17), (90, 24)] [108, 99, 100, 101, 102, 103, 104, 105, 106, 107, 98, 96, 92, 91] (pf h 0 0) hd := (hsA.t (hs3.mo (by decide) (by decide))).t ((hs4.mo (by decide) (by decide)).t (hs5.mo (by decide) (by decide)))
        have hw := sW hd hsB
        have hFd := hF.sm hs5 (by decide) (by decide)
        have hq := hF2 l e k cd (fun i => if i < 270 then S i else (hd.2 91 i).toInt) hd hr hl hrr hw.1 (fun i => ?_) (fun i hi => if_pos hi) hw.2.1 hFd hw.2.2
        · refine w_loop IS_ok [] ok_M_run ?_
          refine w_if (fun _ => ?_) (fun z => absurd kd z)
          refine w_ix 1 ?_ rfl (show 1 < 5 by omega)
          rw [← iI_sub] at hq
          show Q (some (.int ((-1000) - hd.2 108 1))) hd
          rw [hFd.2 1 (by omega)]
          exact hq
        · dsimp only
          split
          · next g => exact b1 i g
          · exact iI_of _
    intro m
    induction m with
    | zero =>
      intro k hc z1 hm hk hs3 a1 e1
      refine w_loop IS_ok [67] ok_M_run ?_
      have : k = 270 := by omega
      subst this
      exact w_le 270 270 (fun _ => fin hc _ hs3 a1) (fun _ => by omega) rfl e1
    | succ m ih =>
      intro k hc z1 hm hk hs3 a1 e1
      refine w_loop IS_ok [42, 67] ok_M_run ?_
      refine w_le 270 k (fun g => ?_) (fun g => ?_) rfl e1
      · have : k = 270 := by omega
        subst this
        exact fin hc _ hs3 a1
      · refine w_ix k ?_ e1 (show k < 270 by omega)
        refine w_ix k ?_ e1 (show k < 270 by omega)
        refine ih (k + 1) (wa hc 92 k (hc.2 91 k)) _ (by omega) (by omega) (hs3.t (Sm.wa _ _ (by decide))) (fun i hi => ?_) (iI_1 e1)
        by_cases z : i = k
        · subst z; rw [wa_s, hs3.2 _ (by decide)]; exact hS2 _
        · rw [wa_n _ _ _ _ z]; exact a1 i (by omega)
  exact loop1 270 0 h2 _ (by omega) (by omega) Sm.rf (fun i hi => by omega) rfl
