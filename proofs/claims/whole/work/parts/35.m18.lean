/-! a play, item by item -/
/-- an item: a fault (its place), an act (the place behind it, its numbers), what opens a group (the place of the bracket, the times), what closes one -/
abbrev Itm : Type := Nat ⊕ ((Nat × (Nat → Int)) ⊕ ((Nat × Nat) ⊕ Unit))
abbrev iBad (f : Nat) : Itm := .inl f
abbrev iAct (p : Nat) (a : Nat → Int) : Itm := .inr (.inl (p, a))
abbrev iOpn (q t : Nat) : Itm := .inr (.inr (.inl (q, t)))
abbrev iCls : Itm := .inr (.inr (.inr ()))
/-- an act: its place, its depth, its numbers -/
abbrev Ent : Type := Nat × Nat × (Nat → Int)
abbrev Cod : Type := Ent ⊕ (Nat ⊕ Nat)
abbrev cAct (e : Ent) : Cod := .inl e
abbrev cOpn (t : Nat) : Cod := .inr (.inl t)
abbrev cCls (o : Nat) : Cod := .inr (.inr o)
/-- what opens a group at i: where its bracket ought to stand, and how often it is run -/
def gq (ch : Nat → Nat) (i : Nat) : Nat := if isDb (ch i) = true then i + nd ch i else i
def gt (ch : Nat → Nat) (i : Nat) : Nat := if isDb (ch i) = true then nv ch i else 1
def grp (ch : Nat → Nat) (d i : Nat) : Itm :=
  if isDb (ch i) = true ∧ isDb (ch (gq ch i)) = true then iBad (gq ch i)
  else if isDb (ch i) = true ∧ ¬ (1 ≤ gt ch i ∧ gt ch i ≤ 9) then iBad i
  else if ch (gq ch i) ≠ 40 ∨ d = 4 then iBad (gq ch i)
  else iOpn (gq ch i) (gt ch i)
def item (ch : Nat → Nat) (d i : Nat) : Itm :=
  if ch i = 41 ∧ 0 < d then iCls
  else if ch i = 40 ∨ isDb (ch i) = true then grp ch d i
  else if nArg (ch i) = 99 then iBad i
  else match rdA ch (ch i) (nArg (ch i)) 0 (i + 1) (fun _ => 0) with
    | .inl f => iBad f
    | .inr (p, a) => iAct p a
def CdR (T : Nat → Nat) (h : St) (j : Nat) : Cod → Prop
  | .inl e => h.2 99 j = 0 ∧ h.2 100 j = iI e.1 ∧ h.2 101 j = iI e.2.1 ∧ (0 < nArg (T e.1) → h.2 102 j = iI (e.2.2 0)) ∧ (1 < nArg (T e.1) → h.2 103 j = iI (e.2.2 1)) ∧ (2 < nArg (T e.1) → h.2 104 j = iI (e.2.2 2))
  | .inr (.inl t) => h.2 99 j = 1 ∧ h.2 102 j = iI t
  | .inr (.inr o) => h.2 99 j = 2 ∧ h.2 102 j = iI o
def Kp (c : Nat) (h h' : St) : Prop := ∀ a, 99 ≤ a → a ≤ 104 → ∀ j, j ≠ c → h'.2 a j = h.2 a j
theorem kp_of {c : Nat} {h h' : St} {x0 x1 x2 x3 x4 x5 : Int32} (e0 : h'.2 99 = u1 (h.2 99) c x0) (e1 : h'.2 100 = u1 (h.2 100) c x1) (e2 : h'.2 101 = u1 (h.2 101) c x2) (e3 : h'.2 102 = u1 (h.2 102) c x3) (e4 : h'.2 103 = u1 (h.2 103) c x4) (e5 : h'.2 104 = u1 (h.2 104) c x5) : Kp c h h' := by
  intro a h1 h2 j hj
  rcases (show a = 99 ∨ a = 100 ∨ a = 101 ∨ a = 102 ∨ a = 103 ∨ a = 104 by omega) with rfl | rfl | rfl | rfl | rfl | rfl
  · rw [e0, u1_n _ _ hj]
  · rw [e1, u1_n _ _ hj]
  · rw [e2, u1_n _ _ hj]
  · rw [e3, u1_n _ _ hj]
  · rw [e4, u1_n _ _ hj]
  · rw [e5, u1_n _ _ hj]
set_option maxHeartbeats 4000000 in
theorem c_M_readGroup {n : Nat} {T : Nat → Nat} {h : St} {Q : Option Value → St → Prop} (hB : TxB n T) (i d c : Nat) (hR : RdS n T i d c h) (hi : i < n) (hc : c < 100) (hd : d ≤ 4)
    (hQF : ∀ f h', grp (chr n T) d i = iBad f → SmR h h' → Flt f d h' → Q none h')
    (hQ1 : ∀ q t h', grp (chr n T) d i = iOpn q t → d < 4 → SmS h h' → RdS n T (q + 1) (d + 1) (c + 1) h' → Kp c h h' → CdR T h' c (cOpn t) → h'.2 105 = u1 (h.2 105) d (iI c) → Q none h') : SC y_M_readGroup [.ref 90] h Q := by
  refine w_call IS_ok [49] ok_M_readGroup rfl rfl ?_
  have hn100 := hB.1
  obtain ⟨hT, h23, h24, h17, h25⟩ := id hR
  -- behind a fault
  have dead : ∀ (f p : Nat) (hcc : St) (L1 L2 : Option Value), grp (chr n T) d i = iBad f → SmR h hcc → MTx n T hcc → hcc.1 90 23 = iI p → p < 400 → hcc.1 90 24 = iI d → Flt f d hcc → SR y_M_readGroup 49 [some (.ref 90), L1, L2] [] hcc Q := by
    intro f p hcc L1 L2 hr hsm hTc g23 hp g24 hF
    refine w_loop IS_ok [78] ok_M_readGroup ?_
    have fin : SR y_M_readGroup 78 [some (.ref 90), L1, L2] [] hcc Q := by
      refine w_loop IS_ok [] ok_M_readGroup ?_
      exact w_if (fun _ => hQF f hcc hr hsm hF) (fun g => absurd hF.1 g)
    have hb := mat_b hB p
    refine c_M_at hTc hB p (by omega) ?_ g23
    refine w_eq (if p < n then (T p : Int) else -1) 40 (fun _ => ?_) (fun _ => c_M_wrong0 hF.1 fin) rfl rfl
    refine w_eq d 4 (fun _ => c_M_wrong0 hF.1 fin) (fun _ => fin) g24 rfl
  -- in good order
  have al : ∀ (hcc : St) (L1 : Option Value) (z2 : Int32), ¬ (isDb (chr n T i) = true ∧ isDb (chr n T (gq (chr n T) i)) = true) → ¬ (isDb (chr n T i) = true ∧ ¬ (1 ≤ gt (chr n T) i ∧ gt (chr n T) i ≤ 9)) → SmS h hcc → RdS n T (gq (chr n T) i) d c hcc → hcc.2 = h.2 → z2 = iI (gt (chr n T) i) → SR y_M_readGroup 49 [some (.ref 90), L1, some (.int z2)] [] hcc Q := by
    intro hcc L1 z2 hn1 hn2 hsm hRc hrow e2
    obtain ⟨hTc, g23, g24, g17, g25⟩ := id hRc
    have hgq : gq (chr n T) i ≤ i + 3 := by unfold gq; have := (nd_b (chr n T) i).1; split <;> omega
    generalize hq : gq (chr n T) i = q at *
    have hgr : grp (chr n T) d i = if chr n T q ≠ 40 ∨ d = 4 then iBad q else iOpn q (gt (chr n T) i) := by
      unfold grp
      rw [hq, if_neg hn1, if_neg hn2]
    have bad : (chr n T q ≠ 40 ∨ d = 4) → SR y_M_readGroup 70 [some (.ref 90), L1, some (.int z2)] [] hcc Q := by
      intro g
      rw [if_pos g] at hgr
      refine w_loop IS_ok [78] ok_M_readGroup ?_
      refine c_M_wrong q d g24 g25 (fun h' hs' hF => ?_) g23
      refine w_loop IS_ok [] ok_M_readGroup ?_
      exact w_if (fun _ => hQF q h' hgr (Sm.t (Sm.mo hsm (by decide) (by decide)) (hs'.mo (by decide) (by decide))) hF) (fun g => absurd hF.1 g)
    refine w_loop IS_ok [70, 78] ok_M_readGroup ?_
    have hb := mat_b hB q
    refine c_M_at hTc hB q (by omega) ?_ g23
    refine w_eq (if q < n then (T q : Int) else -1) 40 (fun g => ?_) (fun g => bad (Or.inl fun z => g ((mat_c (n := n) (T := T) (i := q) (k := 40) (by omega)).mpr z))) rfl rfl
    have hch : chr n T q = 40 := (mat_c (n := n) (T := T) (i := q) (k := 40) (by omega)).mp g
    refine w_eq d 4 (fun g2 => bad (Or.inr (by omega))) (fun g2 => ?_) g24 rfl
    rw [if_neg (by omega)] at hgr
    refine w_loop IS_ok [] ok_M_readGroup ?_
    refine w_if (fun z => absurd (show (1 : Int32) = 0 by rw [← g25]; exact z) (by decide)) (fun _ => ?_)
    refine w_ix d ?_ g24 (show d < 5 by omega)
    have hs1 : Sm [] [105] hcc (wa hcc 105 d (hcc.1 90 17)) := Sm.wa _ _ (by decide)
    have hR1 : RdS n T q d c (wa hcc 105 d (hcc.1 90 17)) := hRc.sm hs1 (by decide)
    refine c_M_code c hc (h := wa hcc 105 d (hcc.1 90 17)) hR1.2.2.2.1 (fun h' hs' k17 k99 k100 k101 k102 k103 k104 => ?_)
    refine hQ1 q (gt (chr n T) i) (pf (pf h' 24 (h'.1 90 24 + 1)) 23 (h'.1 90 23 + 1)) hgr (by omega) ?_ ?_ ?_ ?_ ?_
    · exact (hsm.t ((hs1.mo (by decide) (by decide)).t (hs'.mo (by decide) (by decide)))).t ((Sm.pf _ (by decide)).t (Sm.pf _ (by decide)))
    · refine ⟨(hR1.1.sm hs' (by decide) (by decide)).sm ((Sm.pf (X := [(90, 24), (90, 23)]) (Y := []) _ (by decide)).t (Sm.pf _ (by decide))) (by decide) (by decide), ?_, ?_, ?_, ?_⟩
      · rw [pf_s, hs'.1 _ _ (by decide)]; exact iI_1 hR1.2.1
      · rw [pf_n _ _ _ (by decide), pf_s, hs'.1 _ _ (by decide)]; exact iI_1 hR1.2.2.1
      · rw [pf_n _ _ _ (by decide), pf_n _ _ _ (by decide)]; exact k17
      · rw [pf_n _ _ _ (by decide), pf_n _ _ _ (by decide), hs'.1 _ _ (by decide)]; exact hR1.2.2.2.2
    · have e : ∀ a, a ≠ 105 → (wa hcc 105 d (hcc.1 90 17)).2 a = h.2 a := fun a ha => by rw [wa_o _ _ _ _ ha, hrow]
      rw [e _ (by decide)] at k99 k100 k101 k102 k103 k104
      exact kp_of k99 k100 k101 k102 k103 k104
    · refine ⟨?_, ?_⟩
      · show h'.2 99 c = 1
        rw [k99, u1_s]
      · show h'.2 102 c = _
        rw [k102, u1_s]
        exact e2
    · show h'.2 105 = _
      rw [hs'.2 _ (by decide), ← hrow, ← g17]
      show u1 hcc.2 105 (u1 (hcc.2 105) d (hcc.1 90 17)) 105 = _
      rw [u1_s]
  refine c_M_isDigit hT hB i (by omega) h23 ?_
  refine w_b (fun g => ?_) (fun g => ?_)
  · have hq : gq (chr n T) i = i := if_neg g
    have ht : gt (chr n T) i = 1 := if_neg g
    exact al h _ _ (fun z => g z.1) (fun z => g z.1) Sm.rf (by rw [hq]; exact hR) rfl (by rw [ht]; rfl)
  · have hg : isDb (chr n T i) = true := by simpa using g
    have hq : gq (chr n T) i = i + nd (chr n T) i := if_pos hg
    have ht : gt (chr n T) i = nv (chr n T) i := if_pos hg
    have hnd := nd_b (chr n T) i
    refine c_M_number hB i d c hR (by omega) (fun h' hz hs' hF => ?_) (fun h' hz hs' hR' => ?_)
    · rw [hnd.2.2.mp hz] at hg
      cases hg
    · rw [← ht]
      rw [← hq] at hR'
      have hqb : gq (chr n T) i < 200 := by omega
      generalize hqq : gq (chr n T) i = q at *
      obtain ⟨hTc, g23, g24, g17, g25⟩ := id hR'
      refine c_M_isDigit hTc hB q (by omega) g23 ?_
      have hgt : 0 ≤ (gt (chr n T) i : Int) ∧ (gt (chr n T) i : Int) < 1000 := by rw [ht]; omega
      have hs0 : SmS h h' := hs'.mo (by decide) (by decide)
      refine w_b (fun g2 => ?_) (fun g2 => ?_)
      · refine c_M_in (gt (chr n T) i) 1 9 ?_ rfl rfl rfl (by omega) (by omega) (by omega)
        refine w_b (fun g3 => ?_) (fun g3 => ?_)
        · refine c_M_wrong i d g24 g25 (fun h2 hs2 hF => ?_) h23
          refine dead i q h2 _ _ ?_ (Sm.t (Sm.mo hs0 (by decide) (by decide)) (hs2.mo (by decide) (by decide))) (hTc.sm hs2 (by decide) (by decide)) ?_ (by omega) ?_ hF
          · unfold grp
            rw [hqq, if_neg (fun z => g2 z.2), if_pos ⟨hg, fun z => g3 (by omega)⟩]
          · rw [hs2.1 _ _ (by decide)]; exact g23
          · rw [hs2.1 _ _ (by decide)]; exact g24
        · exact al h' _ _ (fun z => g2 z.2) (fun z => z.2 (by omega)) hs0 hR' (funext fun a => hs'.2 a (by simp)) rfl
      · refine c_M_wrong q d g24 g25 (fun h2 hs2 hF => ?_) g23
        have hd : ∀ L1 L2 : Option Value, SR y_M_readGroup 49 [some (.ref 90), L1, L2] [] h2 Q := by
          intro L1 L2
          refine dead q q h2 _ _ ?_ (Sm.t (Sm.mo hs0 (by decide) (by decide)) (hs2.mo (by decide) (by decide))) (hTc.sm hs2 (by decide) (by decide)) ?_ (by omega) ?_ hF
          · unfold grp
            rw [hqq, if_pos ⟨hg, by simpa using g2⟩]
          · rw [hs2.1 _ _ (by decide)]; exact g23
          · rw [hs2.1 _ _ (by decide)]; exact g24
        refine c_M_in (gt (chr n T) i) 1 9 ?_ rfl rfl rfl (by omega) (by omega) (by omega)
        refine w_b (fun g3 => ?_) (fun g3 => hd _ _)
        exact c_M_wrong0 hF.1 (hd _ _)
theorem iI_q {x : Int32} {k : Nat} (h : x = iI k) (hk : 0 < k) : x - 1 = iI ((k - 1 : Nat) : Int) := by
  rw [h]
  exact (iI_sub k 1).trans (congrArg iI (by omega))
set_option maxHeartbeats 4000000 in
theorem c_M_readOne {n : Nat} {T : Nat → Nat} {h : St} {Q : Option Value → St → Prop} (hB : TxB n T) (i d c : Nat) (hR : RdS n T i d c h) (hi : i < n) (hc : c < 100) (hd : d ≤ 4)
    (hQF : ∀ f h', item (chr n T) d i = iBad f → SmR h h' → Flt f d h' → Q none h')
    (hQA : ∀ p a h', item (chr n T) d i = iAct p a → SmS h h' → RdS n T p d (c + 1) h' → Kp c h h' → CdR T h' c (cAct (i, d + 1, a)) → h'.2 105 = h.2 105 → Q none h')
    (hQO : ∀ q t h', item (chr n T) d i = iOpn q t → d < 4 → SmS h h' → RdS n T (q + 1) (d + 1) (c + 1) h' → Kp c h h' → CdR T h' c (cOpn t) → h'.2 105 = u1 (h.2 105) d (iI c) → Q none h')
    (hQC : ∀ h', item (chr n T) d i = iCls → 0 < d → SmS h h' → RdS n T (i + 1) (d - 1) (c + 1) h' → Kp c h h' → (∀ o : Nat, h.2 105 (d - 1) = iI o → CdR T h' c (cCls o)) → h'.2 105 = h.2 105 → Q none h') : SC y_M_readOne [.ref 90] h Q := by
  refine w_call IS_ok [65, 105] ok_M_readOne rfl rfl ?_
  have hn100 := hB.1
  obtain ⟨hT, h23, h24, h17, h25⟩ := id hR
  have hb := mat_b hB i
  have hch : chr n T i = T i := if_pos hi
  have hTi := hB.2 i hi
  refine c_M_at hT hB i (by omega) ?_ h23
  rw [if_pos hi]
  have els : ¬ (chr n T i = 41 ∧ 0 < d) → SR y_M_readOne 65 [some (.ref 90), some (.int (iI (T i)))] [] h Q := by
    intro hn
    have hin : isDb (chr n T i) = true ↔ (48 ≤ (T i : Int) ∧ (T i : Int) ≤ 57) := by
      rw [hch]
      simp only [isDb, decide_eq_true_eq]
      omega
    have at82 : (chr n T i = 40 ∨ isDb (chr n T i) = true) → SR y_M_readOne 82 [some (.ref 90), some (.int (iI (T i)))] [] h Q := by
      intro hg
      have hit : item (chr n T) d i = grp (chr n T) d i := by unfold item; rw [if_neg hn, if_pos hg]
      refine w_loop IS_ok [] ok_M_readOne ?_
      exact c_M_readGroup hB i d c hR hi hc hd (fun f h' e => hQF f h' (hit.trans e)) (fun q t h' e => hQO q t h' (hit.trans e))
    have at89 : ¬ (chr n T i = 40 ∨ isDb (chr n T i) = true) → SR y_M_readOne 89 [some (.ref 90), some (.int (iI (T i)))] [] h Q := by
      intro hg
      have hit : item (chr n T) d i = if nArg (T i) = 99 then iBad i else match rdA (chr n T) (T i) (nArg (T i)) 0 (i + 1) (fun _ => 0) with
          | .inl f => iBad f
          | .inr (p, a) => iAct p a := by
        unfold item
        rw [if_neg hn, if_neg hg, hch]
      refine w_loop IS_ok [] ok_M_readOne ?_
      refine c_M_numbersOf (T i : Int) (by omega) ?_ rfl
      rw [Int.toNat_natCast]
      have hnb : nArg (T i) ≤ 3 ∨ nArg (T i) = 99 := by unfold nArg; split <;> (try split) <;> (try split) <;> (try split) <;> omega
      refine w_eq (if nArg (T i) = 99 then -109 else (nArg (T i) : Int)) (-109) (fun g => ?_) (fun g => ?_) rfl rfl (by split <;> omega)
      · have g9 : nArg (T i) = 99 := by
          apply Classical.byContradiction
          intro z
          rw [if_neg z] at g
          omega
        rw [if_pos g9] at hit
        exact c_M_wrong i d h24 h25 (fun h' hs' hF => hQF i h' hit (hs'.mo (by decide) (by decide)) hF) h23
      · have g9 : ¬ nArg (T i) = 99 := fun z => g (by rw [if_pos z])
        rw [if_neg g9] at hit
        refine c_M_readAct hB i d c hR hi hc (by omega) hd (fun _ => 0) (fun f h' e hs' hF => ?_) (fun p a h' e hs' hR' hC => ?_)
        · rw [e] at hit
          exact hQF f h' hit (hs'.mo (by decide) (by decide)) hF
        · rw [e] at hit
          obtain ⟨e0, e1, e2, w0, w1, w2, e3, e4, e5, a0, a1, a2⟩ := hC
          refine hQA p a h' hit (hs'.mo (by decide) (by decide)) hR' (kp_of e0 e1 e2 e3 e4 e5) ⟨?_, ?_, ?_, ?_, ?_, ?_⟩ (hs'.2 _ (by decide))
          · rw [e0, u1_s]
          · rw [e1, u1_s]
          · rw [e2, u1_s]
          · rw [e3, u1_s]; exact a0
          · rw [e4, u1_s]; exact a1
          · rw [e5, u1_s]; exact a2
    refine w_loop IS_ok [82, 89] ok_M_readOne ?_
    refine w_eq (T i) 40 (fun g => at82 (Or.inl (by omega))) (fun g => ?_) rfl rfl
    refine c_M_in (T i) 48 57 ?_ rfl rfl rfl (by omega) (by omega) (by omega)
    refine w_b (fun g2 => at89 ?_) (fun g2 => at82 (Or.inr (hin.mpr g2)))
    rintro (z | z)
    · omega
    · exact g2 (hin.mp z)
  refine w_eq (T i) 41 (fun g => ?_) (fun g => els (by omega)) rfl rfl
  refine w_le d 0 (fun g2 => els (by omega)) (fun g2 => ?_) h24 rfl
  have hit : item (chr n T) d i = iCls := by unfold item; rw [if_pos ⟨by omega, by omega⟩]
  have e24 : h.1 90 24 - 1 = iI ((d - 1 : Nat) : Int) := iI_q h24 (by omega)
  refine w_ix (d - 1) ?_ ((pf_s h 24 (h.1 90 24 - 1)).trans e24) (show d - 1 < 5 by omega)
  have hT1 : MTx n T (pf h 24 (h.1 90 24 - 1)) := hT.sm (Sm.pf (X := [(90, 24)]) (Y := []) _ (by decide)) (by decide) (by decide)
  refine c_M_code c hc (h := pf h 24 (h.1 90 24 - 1)) ((pf_n _ _ _ (by decide)).trans h17) (fun h' hs' k17 k99 k100 k101 k102 k103 k104 => ?_)
  refine hQC (pf h' 23 (h'.1 90 23 + 1)) hit (by omega) ?_ ⟨?_, ?_, ?_, ?_, ?_⟩ (kp_of k99 k100 k101 k102 k103 k104) (fun o ho => ⟨?_, ?_⟩) (hs'.2 _ (by decide))
  · exact ((Sm.pf _ (by decide)).t (hs'.mo (by decide) (by decide))).t (Sm.pf _ (by decide))
  · exact (hT1.sm hs' (by decide) (by decide)).sm (Sm.pf (X := [(90, 23)]) (Y := []) _ (by decide)) (by decide) (by decide)
  · rw [pf_s, hs'.1 _ _ (by decide), pf_n _ _ _ (by decide)]; exact iI_1 h23
  · rw [pf_n _ _ _ (by decide), hs'.1 _ _ (by decide), pf_s]; exact e24
  · rw [pf_n _ _ _ (by decide)]; exact k17
  · rw [pf_n _ _ _ (by decide), hs'.1 _ _ (by decide), pf_n _ _ _ (by decide)]; exact h25
  · show h'.2 99 c = 2
    rw [k99, u1_s]
  · show h'.2 102 c = _
    rw [k102, u1_s]
    exact ho
