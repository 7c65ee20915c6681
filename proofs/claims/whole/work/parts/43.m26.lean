/-! a play is run in earnest -/
/-- acts are run, m behind them: what fails (the act, how many were run, its code), or the state behind them -/
def runF (T : Nat → Nat) : List Ent → Nat → (Nat → Int) → (Ent × Nat × Int) ⊕ (Nat → Int)
  | [], _, S => .inr S
  | e :: l, m, S => if actC (T e.1) e.2.2 S < 0 then .inl (e, m, actC (T e.1) e.2.2 S) else runF T l (m + 1) (actS (T e.1) e.2.2 S)
theorem runF_l {T : Nat → Nat} {l2 : List Ent} {x : Ent × Nat × Int} : ∀ {l1 : List Ent} {m : Nat} {S : Nat → Int}, runF T l1 m S = .inl x → runF T (l1 ++ l2) m S = .inl x
  | [], m, S, h => by cases h
  | e :: l, m, S, h => by
    show runF T (e :: (l ++ l2)) m S = .inl x
    unfold runF at h ⊢
    split
    · next g => rw [if_pos g] at h; exact h
    · next g => rw [if_neg g] at h; exact runF_l h
theorem runF_r {T : Nat → Nat} {l2 : List Ent} {S' : Nat → Int} : ∀ {l1 : List Ent} {m : Nat} {S : Nat → Int}, runF T l1 m S = .inr S' → runF T (l1 ++ l2) m S = runF T l2 (m + l1.length) S'
  | [], m, S, h => by cases h; rfl
  | e :: l, m, S, h => by
    show runF T (e :: (l ++ l2)) m S = _
    unfold runF at h
    conv => lhs; unfold runF
    split
    · next g => rw [if_pos g] at h; cases h
    · next g =>
      rw [if_neg g] at h
      rw [runF_r h, List.length_cons, show m + 1 + l.length = m + (l.length + 1) by omega]
def RunP (T : Nat → Nat) (h0 : St) (c : Nat) (Q : Option Value → St → Prop) (lv i j : Nat) (l : List Ent) : Prop :=
  j ≤ c → ∀ (hcc : St) (m : Nat) (S S0 : Nat → Int) (z2 z3 z4 : Int32) (L5 : Option Value), m + l.length ≤ 200 → Sm [] [106, 98, 96, 91] h0 hcc → MS S0 hcc → Eqv S S0 → WF S → z2 = iI m → z3 = iI lv → z4 = iI i →
  (∀ (S' S0' : Nat → Int) (h' : St) (w2 w3 w4 : Int32) (L : Option Value), runF T l m S = .inr S' → Sm [] [106, 98, 96, 91] h0 h' → MS S0' h' → Eqv S' S0' → WF S' → (∀ q, q < lv → h'.2 106 q = hcc.2 106 q) → w2 = iI (m + l.length : Nat) → w3 = iI lv → w4 = iI j → SR y_M_runPlay 7 (LR 0 w2 w3 w4 L) [] h' Q) →
  (∀ (e : Ent) (k : Nat) (cd : Int) (h' : St), runF T l m S = .inl (e, k, cd) → Sm [(90, 25), (90, 21)] [108, 106, 98, 96, 91] h0 h' → h'.1 90 25 = 0 → MFl 1 (fG 2 e.1 e.2.1 k cd) h' → Q (some (.int (iI k))) h') →
  SR y_M_runPlay 7 (LR 0 z2 z3 z4 L5) [] hcc Q
set_option maxHeartbeats 2000000 in
theorem runP_seg {n : Nat} {T : Nat → Nat} {h0 : St} {C : Nat → Cod} {c : Nat} {Q : Option Value → St → Prop} (hB : TxB n T) (hT : MTx n T h0) (hc : c ≤ 100) (h17 : h0.1 90 17 = iI c) (h25 : h0.1 90 25 = 1) (hcd : ∀ j, j < c → CdR T h0 j (C j)) (hok : ∀ j, j < c → ∀ e, C j = cAct e → EntOk n T e) {lv i j : Nat} {l : List Ent} (sg : Seg C lv i j l) : RunP T h0 c Q lv i j l := by
  refine (sg (fun lv i j l => i ≤ j ∧ RunP T h0 c Q lv i j l) ?_ ?_ ?_).2
  · intro lv i
    refine ⟨Nat.le_refl _, ?_⟩
    intro hj hcc m S S0 z2 z3 z4 L5 hm hs hM hE hW e2 e3 e4 hd hf
    exact hd S S0 hcc z2 z3 z4 L5 rfl hs hM hE hW (fun _ _ => rfl) e2 e3 e4
  · intro lv i j l e ih hC
    refine ⟨by omega, ?_⟩
    intro hj hcc m S S0 z2 z3 z4 L5 hm hs hM hE hW e2 e3 e4 hd hf
    rw [List.length_append, List.length_singleton] at hm
    refine ih.2 (by omega) hcc m S S0 z2 z3 z4 L5 (by omega) hs hM hE hW e2 e3 e4 (fun S1 S2 h1 w2 w3 w4 L hr1 hs1 hM1 hE1 hW1 hk1 f2 f3 f4 => ?_) (fun e' k cd h' he => hf e' k cd h' (runF_l he))
    have hcj := (hcd j (by omega)).sm hs1 (by decide)
    rw [hC] at hcj
    have g25 : h1.1 90 25 = 1 := (hs1.1 _ _ (by decide)).trans h25
    have hrr : runF T (l ++ [e]) m S = if actC (T e.1) e.2.2 S1 < 0 then .inl (e, m + l.length, actC (T e.1) e.2.2 S1) else .inr (actS (T e.1) e.2.2 S1) := runF_r hr1
    have hcg := actC_cg hE1 hW1 (T e.1) e.2.2
    refine w_loop IS_ok [7] ok_M_runPlay ?_
    refine w_if (fun z => absurd (show (1 : Int32) = 0 by rw [← g25]; exact z) (by decide)) (fun _ => ?_)
    refine w_le c j (fun _ => by omega) (fun _ => ?_) ((hs1.1 _ _ (by decide)).trans h17) f4
    refine w_ix j ?_ f4 (show j < 100 by omega)
    refine w_if (fun _ => ?_) (fun z => absurd hcj.1 z)
    refine c_M_runAct_0 hB (hT.sm hs1 (by decide) (by decide)) hM1 (hE1.wf hW1) e (hok j (by omega) e hC) j (m + l.length) (by omega) (by omega) hcj (fun h' hlt hs' h25' hF => ?_) (fun h' S3 hge hs' hM3 hE3 => ?_) f4 f2
    · rw [hcg] at hlt hF
      rw [if_pos hlt] at hrr
      refine w_loop IS_ok [] ok_M_runPlay ?_
      refine w_if (fun _ => ?_) (fun z => absurd h25' z)
      exact hf e (m + l.length) _ h' hrr ((hs1.mo (by decide) (by decide)).t (hs'.mo (by decide) (by decide))) h25' hF
    · have hge1 : 0 ≤ actC (T e.1) e.2.2 S1 := by rw [hcg] at hge; exact hge
      rw [if_neg (by omega)] at hrr
      refine hd (actS (T e.1) e.2.2 S1) S3 h' _ _ _ _ hrr (hs1.t (hs'.mo (by decide) (by decide))) hM3 ((actS_cg hE1 hW1 _ _ hge1).tr hE3) (actS_wf hW1 _ _ hge1) (fun q hq => by rw [hs'.2 _ (by decide)]; exact hk1 q hq) (congrArg iI (by rw [List.length_append, List.length_singleton]; omega)) f3 (iI_1 f4)
  · intro lv i o j l t b ih1 ih2 hCo hCj t1 t9 hlv
    refine ⟨by omega, ?_⟩
    intro hj hcc m S S0 z2 z3 z4 L5 hm hs hM hE hW e2 e3 e4 hd hf
    have hio := ih1.1
    have hoj := ih2.1
    -- the repetitions
    have rep : ∀ (s : Nat), 1 ≤ s → s ≤ 9 → ∀ (h1 : St) (m1 : Nat) (S1 S2 : Nat → Int) (w2 w3 w4 : Int32) (L : Option Value), m1 + (List.replicate s b).flatten.length ≤ 200 → Sm [] [106, 98, 96, 91] h0 h1 → MS S2 h1 → Eqv S1 S2 → WF S1 → (∀ q, q < lv → h1.2 106 q = hcc.2 106 q) → h1.2 106 lv = iI (s : Nat) → w2 = iI m1 → w3 = iI (lv + 1 : Nat) → w4 = iI (o + 1 : Nat) →
        (∀ (S' S0' : Nat → Int) (h' : St) (v2 v3 v4 : Int32) (L : Option Value), runF T (List.replicate s b).flatten m1 S1 = .inr S' → Sm [] [106, 98, 96, 91] h0 h' → MS S0' h' → Eqv S' S0' → WF S' → (∀ q, q < lv → h'.2 106 q = hcc.2 106 q) → v2 = iI (m1 + (List.replicate s b).flatten.length : Nat) → v3 = iI lv → v4 = iI (j + 1 : Nat) → SR y_M_runPlay 7 (LR 0 v2 v3 v4 L) [] h' Q) →
        (∀ (e : Ent) (k : Nat) (cd : Int) (h' : St), runF T (List.replicate s b).flatten m1 S1 = .inl (e, k, cd) → Sm [(90, 25), (90, 21)] [108, 106, 98, 96, 91] h0 h' → h'.1 90 25 = 0 → MFl 1 (fG 2 e.1 e.2.1 k cd) h' → Q (some (.int (iI k))) h') →
        SR y_M_runPlay 7 (LR 0 w2 w3 w4 L) [] h1 Q := by
      intro s
      induction s with
      | zero => intro z; omega
      | succ s ihs =>
        intro _ hs9 h1 m1 S1 S2 w2 w3 w4 L hm1 hs1 hM1 hE1 hW1 hk1 hl1 f2 f3 f4 hd1 hf1
        have hfl : (List.replicate (s + 1) b).flatten = b ++ (List.replicate s b).flatten := by rw [List.replicate_succ, List.flatten_cons]
        rw [hfl] at hd1 hf1 hm1
        rw [List.length_append] at hm1
        refine ih2.2 (by omega) h1 m1 S1 S2 w2 w3 w4 L (by omega) hs1 hM1 hE1 hW1 f2 f3 f4 (fun S3 S4 h2 v2 v3 v4 L2 hr2 hs2 hM2 hE2 hW2 hk2 g2 g3 g4 => ?_) (fun e' k cd h' he => hf1 e' k cd h' (runF_l he))
        have hcj := (hcd j (by omega)).sm hs2 (by decide)
        rw [hCj] at hcj
        have hrr : runF T (b ++ (List.replicate s b).flatten) m1 S1 = runF T (List.replicate s b).flatten (m1 + b.length) S3 := runF_r hr2
        have g25 : h2.1 90 25 = 1 := (hs2.1 _ _ (by decide)).trans h25
        have hl2 : h2.2 106 lv = iI (s + 1 : Nat) := (hk2 lv (by omega)).trans hl1
        have hl3 : h2.2 106 lv - 1 = iI (s : Nat) := iI_q hl2 (by omega)
        have e3' : v3 - 1 = iI (lv : Nat) := iI_q g3 (by omega)
        have hs3 : Sm [] [106, 98, 96, 91] h0 (wa h2 106 lv (h2.2 106 lv - 1)) := hs2.t (Sm.wa _ _ (by decide))
        have hM3 : MS S4 (wa h2 106 lv (h2.2 106 lv - 1)) := hM2.sm (Sm.wa (X := []) (Y := [106]) _ _ (by decide)) (by decide)
        have hk3 : ∀ q, q < lv → (wa h2 106 lv (h2.2 106 lv - 1)).2 106 q = hcc.2 106 q := fun q hq => by rw [wa_n _ _ _ _ (by omega), hk2 q (by omega), hk1 q hq]
        refine w_loop IS_ok [7] ok_M_runPlay ?_
        refine w_if (fun z => absurd (show (1 : Int32) = 0 by rw [← g25]; exact z) (by decide)) (fun _ => ?_)
        refine w_le c j (fun _ => by omega) (fun _ => ?_) ((hs2.1 _ _ (by decide)).trans h17) g4
        refine w_ix j ?_ g4 (show j < 100 by omega)
        refine w_if (fun z => absurd (show (2 : Int32) = 0 by rw [← hcj.1]; exact z) (by decide)) (fun _ => ?_)
        refine w_ix j ?_ g4 (show j < 100 by omega)
        refine w_if (fun z => absurd (show (2 : Int32) = 1 by rw [← hcj.1]; exact z) (by decide)) (fun _ => ?_)
        refine w_ix lv ?_ e3' (show lv < 5 by omega)
        refine w_ix lv ?_ e3' (show lv < 5 by omega)
        refine w_ix lv ?_ e3' (show lv < 5 by omega)
        refine w_le s 0 (fun g => ?_) (fun g => ?_) ((wa_s h2 106 lv (h2.2 106 lv - 1)).trans hl3) rfl
        · have hs0 : s = 0 := by omega
          subst hs0
          refine hd1 S3 S4 (wa h2 106 lv (h2.2 106 lv - 1)) _ _ _ _ hrr hs3 hM3 hE2 hW2 hk3 (g2.trans (congrArg iI (by rw [List.length_append]; rfl))) ?_ (iI_1 g4)
          exact e3'
        · refine w_ix j ?_ g4 (show j < 100 by omega)
          refine ihs (by omega) (by omega) (wa h2 106 lv (h2.2 106 lv - 1)) (m1 + b.length) S3 S4 _ _ _ _ (by omega) hs3 hM3 hE2 hW2 hk3 ((wa_s _ _ _ _).trans hl3) g2 ?_ (iI_1 hcj.2) (fun S5 S6 h' u2 u3 u4 L3 hr3 hs4 hM4 hE4 hW4 hk4 f2 f3 f4 => ?_) (fun e' k cd h' he => hf1 e' k cd h' (hrr.trans he))
          · rw [g3]; exact (iI_sub _ 0).trans (congrArg iI (by omega))
          · exact hd1 S5 S6 h' u2 u3 u4 L3 (hrr.trans hr3) hs4 hM4 hE4 hW4 hk4 (f2.trans (congrArg iI (by rw [List.length_append]; omega))) f3 f4
    rw [List.length_append] at hm
    refine ih1.2 (by omega) hcc m S S0 z2 z3 z4 L5 (by omega) hs hM hE hW e2 e3 e4 (fun S1 S2 h1 w2 w3 w4 L hr1 hs1 hM1 hE1 hW1 hk1 f2 f3 f4 => ?_) (fun e' k cd h' he => hf e' k cd h' (runF_l he))
    have hco := (hcd o (by omega)).sm hs1 (by decide)
    rw [hCo] at hco
    have hrr : runF T (l ++ (List.replicate t b).flatten) m S = runF T (List.replicate t b).flatten (m + l.length) S1 := runF_r hr1
    have g25 : h1.1 90 25 = 1 := (hs1.1 _ _ (by decide)).trans h25
    refine w_loop IS_ok [7] ok_M_runPlay ?_
    refine w_if (fun z => absurd (show (1 : Int32) = 0 by rw [← g25]; exact z) (by decide)) (fun _ => ?_)
    refine w_le c o (fun _ => by omega) (fun _ => ?_) ((hs1.1 _ _ (by decide)).trans h17) f4
    refine w_ix o ?_ f4 (show o < 100 by omega)
    refine w_if (fun z => absurd (show (1 : Int32) = 0 by rw [← hco.1]; exact z) (by decide)) (fun _ => ?_)
    refine w_ix o ?_ f4 (show o < 100 by omega)
    refine w_if (fun _ => ?_) (fun z => absurd hco.1 z)
    refine w_ix o ?_ f4 (show o < 100 by omega)
    refine w_ix lv ?_ f3 (show lv < 5 by omega)
    refine rep t t1 t9 (wa h1 106 lv (h1.2 102 o)) (m + l.length) S1 S2 _ _ _ _ (by omega) (hs1.t (Sm.wa _ _ (by decide))) (hM1.sm (Sm.wa (X := []) (Y := [106]) _ _ (by decide)) (by decide)) hE1 hW1 (fun q hq => by rw [wa_n _ _ _ _ (by omega), hk1 q hq]) ((wa_s _ _ _ _).trans hco.2) f2 (iI_1 f3) (iI_1 f4) (fun S5 S6 h' u2 u3 u4 L3 hr3 hs4 hM4 hE4 hW4 hk4 k2 k3 k4 => ?_) (fun e' k cd h' he => hf e' k cd h' (hrr.trans he))
    exact hd S5 S6 h' u2 u3 u4 L3 (hrr.trans hr3) hs4 hM4 hE4 hW4 hk4 (k2.trans (congrArg iI (by rw [List.length_append]; omega))) k3 k4
