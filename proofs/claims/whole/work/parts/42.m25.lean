/-! a play is tried -/
abbrev LR (tr z2 z3 z4 : Int32) (L5 : Option Value) : List (Option Value) := [some (.ref 90), some (.int tr), some (.int z2), some (.int z3), some (.int z4), L5]
def TryP (h0 : St) (c : Nat) (Q : Option Value → St → Prop) (lv i j : Nat) (l : List Ent) : Prop :=
  j ≤ c → ∀ (hcc : St) (m : Nat) (z2 z3 z4 : Int32) (L5 : Option Value), m ≤ 200 → Sm [] [106] h0 hcc → z2 = iI m → z3 = iI lv → z4 = iI i →
  (m + l.length ≤ 200 → ∀ (h' : St) (w2 w3 w4 : Int32) (L : Option Value), Sm [] [106] h0 h' → (∀ q, q < lv → h'.2 106 q = hcc.2 106 q) → w2 = iI (m + l.length : Nat) → w3 = iI lv → w4 = iI j → SR y_M_runPlay 7 (LR 1 w2 w3 w4 L) [] h' Q) →
  (∀ (e : Ent) (h' : St), l[200 - m]? = some e → Sm [(90, 25), (90, 21)] [108, 106] h0 h' → h'.1 90 25 = 0 → MFl 1 (fG 3 e.1 e.2.1 0 (-109)) h' → Q (some (.int (iI 200))) h') →
  SR y_M_runPlay 7 (LR 1 z2 z3 z4 L5) [] hcc Q
theorem CdR.sm {T : Nat → Nat} {h h' : St} {j : Nat} {x : Cod} {X : List (Nat × Nat)} {Y : List Nat} (a : CdR T h j x) (s : Sm X Y h h') (hy : ∀ r ∈ Y, r < 99 ∨ 104 < r) : CdR T h' j x := by
  refine a.kp (c := j + 1) (fun r h1 h2 q _ => ?_) (by omega)
  rw [s.2 r (fun z => by have := hy r z; omega)]
theorem app_r {l1 l2 : List Ent} {m : Nat} {e : Ent} (hm : m + l1.length ≤ 200) (h : l2[200 - (m + l1.length)]? = some e) : (l1 ++ l2)[200 - m]? = some e := by
  rw [List.getElem?_append_right (by omega), show 200 - m - l1.length = 200 - (m + l1.length) by omega]
  exact h
theorem app_l {l1 l2 : List Ent} {k : Nat} {e : Ent} (h : l1[k]? = some e) : (l1 ++ l2)[k]? = some e := by
  have : k < l1.length := by
    apply Classical.byContradiction
    intro z
    rw [List.getElem?_eq_none (by omega)] at h
    cases h
  rw [List.getElem?_append_left this]
  exact h
set_option maxHeartbeats 2000000 in
theorem tryP_seg {n : Nat} {T : Nat → Nat} {h0 : St} {C : Nat → Cod} {c : Nat} {Q : Option Value → St → Prop} (hB : TxB n T) (hc : c ≤ 100) (h17 : h0.1 90 17 = iI c) (h25 : h0.1 90 25 = 1) (hcd : ∀ j, j < c → CdR T h0 j (C j)) (hok : ∀ j, j < c → ∀ e, C j = cAct e → EntOk n T e) {lv i j : Nat} {l : List Ent} (sg : Seg C lv i j l) : TryP h0 c Q lv i j l := by
  refine (sg (fun lv i j l => i ≤ j ∧ TryP h0 c Q lv i j l) ?_ ?_ ?_).2
  · intro lv i
    refine ⟨Nat.le_refl _, ?_⟩
    intro hj hcc m z2 z3 z4 L5 hm hs e2 e3 e4 hd hf
    exact hd hm hcc z2 z3 z4 L5 hs (fun _ _ => rfl) e2 e3 e4
  · intro lv i j l e ih hC
    refine ⟨by omega, ?_⟩
    intro hj hcc m z2 z3 z4 L5 hm hs e2 e3 e4 hd hf
    refine ih.2 (by omega) hcc m z2 z3 z4 L5 hm hs e2 e3 e4 (fun hml h1 w2 w3 w4 L hs1 hk1 f2 f3 f4 => ?_) (fun e' h' he => hf e' h' (app_l he))
    have hcj := (hcd j (by omega)).sm hs1 (by decide)
    rw [hC] at hcj
    have g25 : h1.1 90 25 = 1 := (hs1.1 _ _ (by decide)).trans h25
    refine w_loop IS_ok [7] ok_M_runPlay ?_
    refine w_if (fun z => absurd (show (1 : Int32) = 0 by rw [← g25]; exact z) (by decide)) (fun _ => ?_)
    refine w_le c j (fun _ => by omega) (fun _ => ?_) ((hs1.1 _ _ (by decide)).trans h17) f4
    refine w_ix j ?_ f4 (show j < 100 by omega)
    refine w_if (fun _ => ?_) (fun z => absurd hcj.1 z)
    refine c_M_runAct_1 hB e (hok j (by omega) e hC) j (m + l.length) (by omega) hml hcj (fun h' hm2 hs' h25' hF => ?_) (fun hm2 => ?_) f4 f2
    · refine w_loop IS_ok [] ok_M_runPlay ?_
      refine w_if (fun _ => ?_) (fun z => absurd h25' z)
      refine hf e h' (app_r (by omega) ?_) ((hs1.mo (by decide) (by decide)).t (hs'.mo (by decide) (by decide))) h25' hF
      rw [show 200 - (m + l.length) = 0 by omega]
      rfl
    · refine hd (by rw [List.length_append, List.length_singleton]; omega) h1 _ _ _ _ hs1 hk1 (congrArg iI (by rw [List.length_append, List.length_singleton]; omega)) f3 (iI_1 f4)
  · intro lv i o j l t b ih1 ih2 hCo hCj t1 t9 hlv
    refine ⟨by omega, ?_⟩
    intro hj hcc m z2 z3 z4 L5 hm hs e2 e3 e4 hd hf
    have hio := ih1.1
    have hoj := ih2.1
    -- the repetitions
    have rep : ∀ (s : Nat), 1 ≤ s → s ≤ 9 → ∀ (h1 : St) (m1 : Nat) (w2 w3 w4 : Int32) (L : Option Value), m1 ≤ 200 → Sm [] [106] h0 h1 → (∀ q, q < lv → h1.2 106 q = hcc.2 106 q) → h1.2 106 lv = iI (s : Nat) → w2 = iI m1 → w3 = iI (lv + 1 : Nat) → w4 = iI (o + 1 : Nat) →
        (m1 + (List.replicate s b).flatten.length ≤ 200 → ∀ (h' : St) (v2 v3 v4 : Int32) (L : Option Value), Sm [] [106] h0 h' → (∀ q, q < lv → h'.2 106 q = hcc.2 106 q) → v2 = iI (m1 + (List.replicate s b).flatten.length : Nat) → v3 = iI lv → v4 = iI (j + 1 : Nat) → SR y_M_runPlay 7 (LR 1 v2 v3 v4 L) [] h' Q) →
        (∀ (e : Ent) (h' : St), (List.replicate s b).flatten[200 - m1]? = some e → Sm [(90, 25), (90, 21)] [108, 106] h0 h' → h'.1 90 25 = 0 → MFl 1 (fG 3 e.1 e.2.1 0 (-109)) h' → Q (some (.int (iI 200))) h') →
        SR y_M_runPlay 7 (LR 1 w2 w3 w4 L) [] h1 Q := by
      intro s
      induction s with
      | zero => intro z; omega
      | succ s ihs =>
        intro _ hs9 h1 m1 w2 w3 w4 L hm1 hs1 hk1 hl1 f2 f3 f4 hd1 hf1
        have hfl : (List.replicate (s + 1) b).flatten = b ++ (List.replicate s b).flatten := by rw [List.replicate_succ, List.flatten_cons]
        rw [hfl] at hd1 hf1
        refine ih2.2 (by omega) h1 m1 w2 w3 w4 L hm1 hs1 f2 f3 f4 (fun hml h2 v2 v3 v4 L2 hs2 hk2 g2 g3 g4 => ?_) (fun e' h' he => hf1 e' h' (app_l he))
        have hcj := (hcd j (by omega)).sm hs2 (by decide)
        rw [hCj] at hcj
        have g25 : h2.1 90 25 = 1 := (hs2.1 _ _ (by decide)).trans h25
        have hl2 : h2.2 106 lv = iI (s + 1 : Nat) := (hk2 lv (by omega)).trans hl1
        have hl3 : h2.2 106 lv - 1 = iI (s : Nat) := iI_q hl2 (by omega)
        have e3' : v3 - 1 = iI (lv : Nat) := iI_q g3 (by omega)
        have hs3 : Sm [] [106] h0 (wa h2 106 lv (h2.2 106 lv - 1)) := hs2.t (Sm.wa _ _ (by decide))
        have hk3 : ∀ q, q < lv → (wa h2 106 lv (h2.2 106 lv - 1)).2 106 q = hcc.2 106 q := fun q hq => by rw [wa_n _ _ _ _ (by omega), hk2 q (by omega), hk1 q hq]
        refine w_loop IS_ok [7] ok_M_runPlay ?_
        refine w_if (fun z => absurd (show (1 : Int32) = 0 by rw [← g25]; exact z) (by decide)) (fun _ => ?_)
        refine w_le c j (fun _ => by omega) (fun _ => ?_) ((hs2.1 _ _ (by decide)).trans h17) g4
        refine w_ix j ?_ g4 (show j < 100 by omega)
        refine w_if (fun z => absurd (show (2 : Int32) = 0 by rw [← hcj.1]; exact z) (by decide)) (fun _ => ?_)
        refine w_ix j ?_ g4 (show j < 100 by omega)
        refine w_if (fun z => absurd (show (2 : Int32) = 1 by rw [← hcj.1]; exact z) (by decide)) (fun _ => ?_)
        refine w_ix lv ?_ e3' (show lv < 5 by omega)
        refine w_ix lv ?_ e3' (show lv < 5 by omega)
        refine w_ix lv ?_ e3' (show lv < 5 by omega)
        refine w_le s 0 (fun g => ?_) (fun g => ?_) ((wa_s h2 106 lv (h2.2 106 lv - 1)).trans hl3) rfl
        · have hs0 : s = 0 := by omega
          subst hs0
          refine hd1 (by rw [List.length_append]; exact hml) (wa h2 106 lv (h2.2 106 lv - 1)) _ _ _ _ hs3 hk3 (g2.trans (congrArg iI (by rw [List.length_append]; rfl))) ?_ (iI_1 g4)
          exact e3'
        · refine w_ix j ?_ g4 (show j < 100 by omega)
          refine ihs (by omega) (by omega) (wa h2 106 lv (h2.2 106 lv - 1)) (m1 + b.length) _ _ _ _ hml hs3 hk3 ((wa_s _ _ _ _).trans hl3) g2 ?_ (iI_1 hcj.2) (fun hml2 h' u2 u3 u4 L3 hs4 hk4 f2 f3 f4 => ?_) (fun e' h' he => hf1 e' h' (app_r hml he))
          · rw [g3]; exact (iI_sub _ 0).trans (congrArg iI (by omega))
          · refine hd1 (by rw [List.length_append]; omega) h' u2 u3 u4 L3 hs4 hk4 (f2.trans (congrArg iI (by rw [List.length_append]; omega))) f3 f4
    refine ih1.2 (by omega) hcc m z2 z3 z4 L5 hm hs e2 e3 e4 (fun hml h1 w2 w3 w4 L hs1 hk1 f2 f3 f4 => ?_) (fun e' h' he => hf e' h' (app_l he))
    have hco := (hcd o (by omega)).sm hs1 (by decide)
    rw [hCo] at hco
    have g25 : h1.1 90 25 = 1 := (hs1.1 _ _ (by decide)).trans h25
    refine w_loop IS_ok [7] ok_M_runPlay ?_
    refine w_if (fun z => absurd (show (1 : Int32) = 0 by rw [← g25]; exact z) (by decide)) (fun _ => ?_)
    refine w_le c o (fun _ => by omega) (fun _ => ?_) ((hs1.1 _ _ (by decide)).trans h17) f4
    refine w_ix o ?_ f4 (show o < 100 by omega)
    refine w_if (fun z => absurd (show (1 : Int32) = 0 by rw [← hco.1]; exact z) (by decide)) (fun _ => ?_)
    refine w_ix o ?_ f4 (show o < 100 by omega)
    refine w_if (fun _ => ?_) (fun z => absurd hco.1 z)
    refine w_ix o ?_ f4 (show o < 100 by omega)
    refine w_ix lv ?_ f3 (show lv < 5 by omega)
    refine rep t t1 t9 (wa h1 106 lv (h1.2 102 o)) (m + l.length) _ _ _ _ hml (hs1.t (Sm.wa _ _ (by decide))) (fun q hq => by rw [wa_n _ _ _ _ (by omega), hk1 q hq]) ((wa_s _ _ _ _).trans hco.2) f2 (iI_1 f3) (iI_1 f4) (fun hml2 h' u2 u3 u4 L3 hs4 hk4 k2 k3 k4 => ?_) (fun e' h' he => hf e' h' (app_r hml he))
    exact hd (by rw [List.length_append]; omega) h' u2 u3 u4 L3 hs4 hk4 (k2.trans (congrArg iI (by rw [List.length_append]; omega))) k3 k4
