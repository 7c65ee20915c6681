/-! the class: brackets, and a text whole -/
theorem RS.dep {N : Nat} {T : Nat → Nat} {i d c : Nat} {fl : Int} {h : St} (r : RS N T i d c fl h) {x : Int32} {j : Nat} (hx : x = iI (j : Nat)) : RS N T i j c fl (pg h 75 4 x) := ⟨r.1.sm (Sm.pg (X := [(75, 4)]) (Y := []) _ (by decide)) (by decide) (by decide), r.2.1, by rw [pg_s]; exact hx, r.2.2.2.1, r.2.2.2.2⟩
theorem RS.len {N : Nat} {T : Nat → Nat} {i d c : Nat} {fl : Int} {h : St} (r : RS N T i d c fl h) {x : Int32} {j : Nat} (hx : x = iI (j : Nat)) : RS N T i d j fl (pg h 79 1 x) := ⟨r.1.sm (Sm.pg (X := [(79, 1)]) (Y := []) _ (by decide)) (by decide) (by decide), r.2.1, r.2.2.1, by rw [pg_s]; exact hx, r.2.2.2.2⟩
theorem c_Read_openGroup {N : Nat} {T : Nat → Nat} {i d c : Nat} {x : Int32} {h : St} {Q : Option Value → St → Prop} (r : RS N T i d c (-1) h) (hi : i < 500) (hc : c < 100) (hd : d ≤ 4) (t : Nat)
    (hQF : d = 4 → ∀ h', SmQ h h' → RS N T i d c i h' → Q none h')
    (hQ1 : d < 4 → ∀ h', SmQ h h' → RS N T (i + 1) (d + 1) (c + 1) (-1) h' → CdC T h' c (cOpn t) → KpC c h h' → h'.2 83 = u1 (h.2 83) d (iI (c : Nat)) → Q none h') (hx : x = iI (t : Nat)) : SC y_Read_openGroup [.ref 75, .int x] h Q := by
  refine w_call IS_ok [] ok_Read_openGroup rfl rfl ?_
  refine w_lt d 4 (fun g => ?_) (fun g => ?_) r.2.2.1 rfl
  · refine c_Steps_add c hc r.2.2.2.1 (fun h1 s1 e79 q0 q1 q2 kp1 => ?_)
    have r1 : RS N T i d (c + 1) (-1) h1 := r.stp s1 e79
    refine c_Cells_set3 CA_80 c 3 (by omega) ?_ rfl rfl
    refine c_Cells_set2 CA_82 d (by omega) ?_ r1.2.2.1
    have s2 : Sm [] [81, 83] h1 (wa (wa h1 81 (c * 6 + 3) x) 83 d (iI (c : Nat))) := (Sm.wa _ _ (by decide)).t (Sm.wa _ _ (by decide))
    have r2 := r1.row s2 (by decide)
    have r3 := r2.dep (x := h1.1 75 4 + 1) (j := d + 1) (iI_1 r1.2.2.1)
    have r4 := r3.plc (x := h1.1 75 3 + 1) (j := i + 1) (iI_1 r1.2.1)
    refine hQ1 (by omega) (pg (pg (wa (wa h1 81 (c * 6 + 3) x) 83 d (iI (c : Nat))) 75 4 (h1.1 75 4 + 1)) 75 3 (h1.1 75 3 + 1)) ?_ r4 ⟨?_, ?_⟩ (fun j hj => ?_) ?_
    · exact (((s1.mo (by decide) (by decide)).t (s2.mo (by decide) (by decide))).t (Sm.pg _ (by decide))).t (Sm.pg _ (by decide))
    · show (wa (wa h1 81 (c * 6 + 3) x) 83 d (iI (c : Nat))).2 81 _ = _
      rw [wa_o _ _ _ _ (by decide), wa_n _ _ _ _ (by omega)]
      exact q0
    · show (wa (wa h1 81 (c * 6 + 3) x) 83 d (iI (c : Nat))).2 81 _ = _
      rw [wa_o _ _ _ _ (by decide), wa_s]
      exact hx
    · show (wa (wa h1 81 (c * 6 + 3) x) 83 d (iI (c : Nat))).2 81 _ = _
      rw [wa_o _ _ _ _ (by decide), wa_n _ _ _ _ (by omega)]
      exact kp1 j hj
    · show (wa (wa h1 81 (c * 6 + 3) x) 83 d (iI (c : Nat))).2 83 = _
      rw [wa_row, wa_o _ _ _ _ (by decide), s1.2 _ (by decide)]
  · refine c_Read_fail r (by omega) i (fun h' s' r' => ?_) r.2.1
    exact hQF (by omega) h' (s'.mo (by decide) (by decide)) r'
theorem c_Read_closeGroup {N : Nat} {T : Nat → Nat} {i d c : Nat} {h : St} {Q : Option Value → St → Prop} (r : RS N T i d c (-1) h) (hi : i < 500) (hc : c < 100) (hd : d ≤ 4) (o : Nat) (ho : 0 < d → h.2 83 (d - 1) = iI (o : Nat)) (ho1 : o < 1000)
    (hQF : d = 0 → ∀ h', SmQ h h' → RS N T i d c i h' → Q none h')
    (hQ2 : 0 < d → c = o + 1 → ∀ h', SmQ h h' → RS N T (i + 1) (d - 1) o (-1) h' → h'.2 = h.2 → Q none h')
    (hQ1 : 0 < d → c ≠ o + 1 → ∀ h', SmQ h h' → RS N T (i + 1) (d - 1) (c + 1) (-1) h' → CdC T h' c (cCls o) → KpC c h h' → h'.2 83 = h.2 83 → Q none h') : SC y_Read_closeGroup [.ref 75] h Q := by
  refine w_call IS_ok [95] ok_Read_closeGroup rfl rfl ?_
  refine w_eq d 0 (fun g => ?_) (fun g => ?_) r.2.2.1 rfl
  · refine c_Read_fail r (by omega) i (fun h' s' r' => ?_) r.2.1
    exact hQF (by omega) h' (s'.mo (by decide) (by decide)) r'
  have hd0 : 0 < d := by omega
  have r1 : RS N T i (d - 1) c (-1) (pg h 75 4 (h.1 75 4 - 1)) := r.dep (iI_q r.2.2.1 hd0)
  refine c_Cells_get1 CA_82 (d - 1) (by omega) ?_ r1.2.2.1
  have eo : (pg h 75 4 (h.1 75 4 - 1)).2 83 (d - 1) = iI (o : Nat) := ho hd0
  refine w_eq c (o + 1 : Nat) (fun g2 => ?_) (fun g2 => ?_) r.2.2.2.1 (iI_1 eo)
  · refine w_loop IS_ok [] ok_Read_closeGroup ?_
    have r2 : RS N T i (d - 1) o (-1) (pg (pg h 75 4 (h.1 75 4 - 1)) 79 1 (h.2 83 (d - 1))) := r1.len eo
    exact hQ2 hd0 (by omega) (pg (pg (pg h 75 4 (h.1 75 4 - 1)) 79 1 (h.2 83 (d - 1))) 75 3 (h.1 75 3 + 1)) (((Sm.pg _ (by decide)).t (Sm.pg _ (by decide))).t (Sm.pg _ (by decide))) (r2.plc (iI_1 r.2.1)) rfl
  · refine c_Steps_add (h := pg h 75 4 (h.1 75 4 - 1)) c hc r.2.2.2.1 (fun h1 s1 e79 q0 q1 q2 kp1 => ?_)
    refine c_Cells_set3 CA_80 c 3 (by omega) ?_ rfl rfl
    refine w_loop IS_ok [] ok_Read_closeGroup ?_
    have r2 := r1.stp s1 e79
    have s2 : Sm [] [81] h1 (wa h1 81 (c * 6 + 3) (h.2 83 (d - 1))) := Sm.wa _ _ (by decide)
    have r3 := (r2.row s2 (by decide)).plc (x := h1.1 75 3 + 1) (j := i + 1) (iI_1 r2.2.1)
    refine hQ1 hd0 (by omega) (pg (wa h1 81 (c * 6 + 3) (h.2 83 (d - 1))) 75 3 (h1.1 75 3 + 1)) ?_ r3 ⟨?_, ?_⟩ (fun j hj => ?_) ?_
    · exact (((Sm.pg (o := 75) (k := 4) _ (by decide)).t (s1.mo (by decide) (by decide))).t (s2.mo (by decide) (by decide))).t (Sm.pg _ (by decide))
    · show (wa h1 81 (c * 6 + 3) (h.2 83 (d - 1))).2 81 _ = _
      rw [wa_n _ _ _ _ (by omega)]
      exact q0
    · show (wa h1 81 (c * 6 + 3) (h.2 83 (d - 1))).2 81 _ = _
      rw [wa_s]
      exact ho hd0
    · show (wa h1 81 (c * 6 + 3) (h.2 83 (d - 1))).2 81 _ = _
      rw [wa_n _ _ _ _ (by omega)]
      exact kp1 j hj
    · show (wa h1 81 (c * 6 + 3) (h.2 83 (d - 1))).2 83 = _
      rw [wa_o _ _ _ _ (by decide)]
      exact s1.2 83 (by decide)
theorem c_Read_readRepeatedGroup {N : Nat} {T : Nat → Nat} {i d c : Nat} {h : St} {Q : Option Value → St → Prop} (hB : TxB N T) (r : RS N T i d c (-1) h) (hi : i < N) (hc : c < 100) (hd : d ≤ 4) (hdg : isDb (chr N T i) = true)
    (hQF : ∀ (f i' c' : Nat) h', (f < 1000 ∧ i' < 1000) → grp (chr N T) d i = iBad f → SmQ h h' → RS N T i' d c' f h' → Q none h')
    (hQ1 : ∀ q t h', grp (chr N T) d i = iOpn q t → d < 4 → SmQ h h' → RS N T (q + 1) (d + 1) (c + 1) (-1) h' → CdC T h' c (cOpn t) → KpC c h h' → h'.2 83 = u1 (h.2 83) d (iI (c : Nat)) → Q none h') : SC y_Read_readRepeatedGroup [.ref 75] h Q := by
  refine w_call IS_ok [] ok_Read_readRepeatedGroup rfl rfl ?_
  have hn := hB.1
  have hnd := nd_b (chr N T) i
  have hq : gq (chr N T) i = i + nd (chr N T) i := if_pos hdg
  have ht : gt (chr N T) i = nv (chr N T) i := if_pos hdg
  have hnd0 : nd (chr N T) i ≠ 0 := fun z => by rw [hnd.2.2.mp z] at hdg; cases hdg
  refine c_Read_readNumber hB r (by omega) (by omega) 0 (by omega) i (by rw [if_neg (by omega)]; rfl) (fun h1 s1 r1 => ?_) rfl
  rw [if_pos (by omega), ← hq] at r1
  rw [if_neg (by omega), ← ht]
  have hgr : grp (chr N T) d i = if isDb (chr N T (gq (chr N T) i)) = true then iBad (gq (chr N T) i) else if ¬ (1 ≤ gt (chr N T) i ∧ gt (chr N T) i ≤ 9) then iBad i else if chr N T (gq (chr N T) i) ≠ 40 ∨ d = 4 then iBad (gq (chr N T) i) else iOpn (gq (chr N T) i) (gt (chr N T) i) := by
    unfold grp
    simp only [hdg, true_and]
  have hqb : gq (chr N T) i < 200 := by omega
  have htb : gt (chr N T) i < 1000 := by omega
  generalize gq (chr N T) i = q at *
  generalize gt (chr N T) i = t at *
  have hqq : (nd (chr N T) i = 0 ∨ isDb (chr N T q) = true) ↔ isDb (chr N T q) = true := ⟨fun z => z.resolve_left hnd0, Or.inr⟩
  simp only [hqq] at r1
  have s1' : SmQ h h1 := smq0 s1
  have hfl : -1 ≤ (if isDb (chr N T q) = true then (q : Int) else -1) ∧ (if isDb (chr N T q) = true then (q : Int) else -1) < 1000 := by split <;> omega
  refine c_P_within t 1 9 ?_ rfl rfl rfl
  refine w_b (fun g => ?_) (fun g => ?_)
  · refine c_Read_fail r1 hfl i (fun h2 s2 r2 => ?_) r.2.1
    by_cases z : isDb (chr N T q) = true
    · rw [if_pos z] at hgr r2
      rw [if_neg (by omega)] at r2
      exact hQF q _ _ h2 ⟨by omega, by omega⟩ hgr (s1'.t (s2.mo (by decide) (by decide))) r2
    · rw [if_neg z] at hgr r2
      rw [if_pos (by omega)] at hgr r2
      exact hQF i _ _ h2 ⟨by omega, by omega⟩ hgr (s1'.t (s2.mo (by decide) (by decide))) r2
  · refine c_Script_at hB r1.1 q (by omega) ?_ r1.2.1
    have hcb := chr_b hB q
    refine w_eq (chr N T q : Nat) 40 (fun g2 => ?_) (fun g2 => ?_) rfl rfl
    · have z : ¬ isDb (chr N T q) = true := by simp only [isDb, decide_eq_true_eq]; omega
      rw [if_neg z] at hgr r1
      rw [if_neg (by omega)] at hgr
      refine c_Read_openGroup r1 (by omega) hc hd t (fun hd4 h2 s2 r2 => ?_) (fun hd4 h2 s2 r2 hcd hkp h83 => ?_) rfl
      · rw [if_pos (Or.inr hd4)] at hgr
        exact hQF q _ _ h2 ⟨by omega, by omega⟩ hgr (s1'.t s2) r2
      · rw [if_neg (by omega)] at hgr
        refine hQ1 q t h2 hgr hd4 (s1'.t s2) r2 hcd (fun j hj => ?_) ?_
        · rw [hkp j hj, s1.2 _ (by decide)]
        · rw [h83, s1.2 _ (by decide)]
    · refine c_Read_fail r1 hfl q (fun h2 s2 r2 => ?_) r1.2.1
      by_cases z : isDb (chr N T q) = true
      · rw [if_pos z] at hgr r2
        rw [if_neg (by omega)] at r2
        exact hQF q _ _ h2 ⟨by omega, by omega⟩ hgr (s1'.t (s2.mo (by decide) (by decide))) r2
      · rw [if_neg z] at hgr r2
        rw [if_neg (by omega), if_pos (Or.inl (by omega))] at hgr
        rw [if_pos (by omega)] at r2
        exact hQF q _ _ h2 ⟨by omega, by omega⟩ hgr (s1'.t (s2.mo (by decide) (by decide))) r2
theorem c_Read_readNext {N : Nat} {T : Nat → Nat} {i d c : Nat} {h : St} {Q : Option Value → St → Prop} (hB : TxB N T) (r : RS N T i d c (-1) h) (hi : i < N) (hc : c < 100) (hd : d ≤ 4) (o : Nat) (ho : 0 < d → h.2 83 (d - 1) = iI (o : Nat)) (ho1 : o < 1000)
    (hQF : ∀ (f i' c' : Nat) h', (f < 1000 ∧ i' < 1000) → item (chr N T) d i = iBad f → SmQ h h' → RS N T i' d c' f h' → Q none h')
    (hQA : ∀ p a h', item (chr N T) d i = iAct p a → SmQ h h' → RS N T p d (c + 1) (-1) h' → CdC T h' c (cAct (i, d + 1, a)) → KpC c h h' → h'.2 83 = h.2 83 → Q none h')
    (hQO : ∀ q t h', item (chr N T) d i = iOpn q t → d < 4 → SmQ h h' → RS N T (q + 1) (d + 1) (c + 1) (-1) h' → CdC T h' c (cOpn t) → KpC c h h' → h'.2 83 = u1 (h.2 83) d (iI (c : Nat)) → Q none h')
    (hQ2 : ∀ h', item (chr N T) d i = iCls → 0 < d → c = o + 1 → SmQ h h' → RS N T (i + 1) (d - 1) o (-1) h' → h'.2 = h.2 → Q none h')
    (hQ1 : ∀ h', item (chr N T) d i = iCls → 0 < d → c ≠ o + 1 → SmQ h h' → RS N T (i + 1) (d - 1) (c + 1) (-1) h' → CdC T h' c (cCls o) → KpC c h h' → h'.2 83 = h.2 83 → Q none h') : SC y_Read_readNext [.ref 75] h Q := by
  refine w_call IS_ok [] ok_Read_readNext rfl rfl ?_
  have hn := hB.1
  have hch : chr N T i = T i := if_pos hi
  have hcb := chr_b hB i
  refine c_Script_at hB r.1 i (by omega) ?_ r.2.1
  refine c_Read_isDigit _ hcb ?_ rfl
  refine w_b (fun g => ?_) (fun g => ?_)
  · refine w_eq (chr N T i : Nat) 40 (fun g2 => ?_) (fun g2 => ?_) rfl rfl
    · have hit : item (chr N T) d i = if d = 4 then iBad i else iOpn i 1 := by
        unfold item grp
        have e1 : gq (chr N T) i = i := if_neg g
        have e2 : gt (chr N T) i = 1 := if_neg g
        rw [if_neg (by omega), if_pos (Or.inl (by omega)), e1, e2, if_neg (fun z => g z.1), if_neg (fun z => g z.1)]
        by_cases z : d = 4
        · rw [if_pos (Or.inr z), if_pos z]
        · rw [if_neg (by omega), if_neg z]
      refine c_Read_openGroup r (by omega) hc hd 1 (fun hd4 h2 s2 r2 => ?_) (fun hd4 h2 s2 r2 hcd hkp h83 => ?_) rfl
      · rw [if_pos hd4] at hit
        exact hQF i _ _ h2 ⟨by omega, by omega⟩ hit s2 r2
      · rw [if_neg (by omega)] at hit
        exact hQO i 1 h2 hit hd4 s2 r2 hcd hkp h83
    · refine w_eq (chr N T i : Nat) 41 (fun g3 => ?_) (fun g3 => ?_) rfl rfl
      · refine c_Read_closeGroup r (by omega) hc hd o ho ho1 (fun hd0 h2 s2 r2 => ?_) (fun hd0 hco h2 s2 r2 hrow => ?_) (fun hd0 hco h2 s2 r2 hcd hkp h83 => ?_)
        · refine hQF i _ _ h2 ⟨by omega, by omega⟩ ?_ s2 r2
          unfold item
          rw [if_neg (by omega), if_neg (by rintro (z | z); omega; exact g z), show chr N T i = 41 by omega]
          rfl
        · exact hQ2 h2 (by unfold item; rw [if_pos ⟨by omega, hd0⟩]) hd0 hco s2 r2 hrow
        · exact hQ1 h2 (by unfold item; rw [if_pos ⟨by omega, hd0⟩]) hd0 hco s2 r2 hcd hkp h83
      · have hit : item (chr N T) d i = if nArg (T i) = 99 then iBad i else match rdA (chr N T) (T i) (nArg (T i)) 0 (i + 1) (fun _ => 0) with
          | .inl f => iBad f
          | .inr (p, a) => iAct p a := by
          unfold item
          rw [if_neg (by omega), if_neg (by rintro (z | z); omega; exact g z), hch]
          rfl
        refine c_Read_readAct hB r hi hc (fun f i' c' h2 hfb hf s2 r2 => ?_) (fun p a h2 h99 hr s2 r2 hcd hkp h83 => ?_) (by rw [hch])
        · rcases hf with ⟨a1, a2⟩ | ⟨a1, a2⟩
          · rw [if_pos a1] at hit
            subst a2
            exact hQF _ _ _ h2 hfb hit s2 r2
          · rw [if_neg a1, a2] at hit
            exact hQF f _ _ h2 hfb hit s2 r2
        · rw [if_neg h99, hr] at hit
          exact hQA p a h2 hit s2 r2 hcd hkp h83
  · have hit : item (chr N T) d i = grp (chr N T) d i := by
      have hdg := g
      simp only [isDb, decide_eq_true_eq] at hdg
      unfold item
      rw [if_neg (by omega), if_pos (Or.inr g)]
    exact c_Read_readRepeatedGroup hB r hi hc hd g (fun f i' c' h2 hfb e => hQF f i' c' h2 hfb (hit.trans e)) (fun q t h2 e => hQO q t h2 (hit.trans e))
/-! segments in which every group holds an act -/
def SgN (C : Nat → Cod) (lv i j : Nat) (l : List Ent) : Prop := ∀ P : Nat → Nat → Nat → List Ent → Prop,
  (∀ lv i, P lv i i []) →
  (∀ lv i j l e, P lv i j l → C j = cAct e → P lv i (j + 1) (l ++ [e])) →
  (∀ lv i o j l t b, P lv i o l → P (lv + 1) (o + 1) j b → C o = cOpn t → C j = cCls o → 1 ≤ t → t ≤ 9 → lv < 4 → b ≠ [] → P lv i (j + 1) (l ++ (List.replicate t b).flatten)) → P lv i j l
theorem SgN.nil {C : Nat → Cod} {lv i : Nat} : SgN C lv i i [] := fun _ h0 _ _ => h0 lv i
theorem SgN.act {C : Nat → Cod} {lv i j : Nat} {l : List Ent} {e : Ent} (a : SgN C lv i j l) (h : C j = cAct e) : SgN C lv i (j + 1) (l ++ [e]) := fun P h0 h1 h2 => h1 _ _ _ _ _ (a P h0 h1 h2) h
theorem SgN.grp {C : Nat → Cod} {lv i o j t : Nat} {l b : List Ent} (a : SgN C lv i o l) (c : SgN C (lv + 1) (o + 1) j b) (h : C o = cOpn t) (k : C j = cCls o) (t1 : 1 ≤ t) (t9 : t ≤ 9) (hl : lv < 4) (hb : b ≠ []) : SgN C lv i (j + 1) (l ++ (List.replicate t b).flatten) := fun P h0 h1 h2 => h2 _ _ _ _ _ _ _ (a P h0 h1 h2) (c P h0 h1 h2) h k t1 t9 hl hb
theorem SgN.mono {C : Nat → Cod} {lv i j : Nat} {l : List Ent} (a : SgN C lv i j l) : i ≤ j ∧ (i = j → l = []) ∧ (i < j → l ≠ []) ∧ ∀ C' : Nat → Cod, (∀ q, q < j → C' q = C q) → SgN C' lv i j l := by
  refine a (fun lv i j l => i ≤ j ∧ (i = j → l = []) ∧ (i < j → l ≠ []) ∧ ∀ C' : Nat → Cod, (∀ q, q < j → C' q = C q) → SgN C' lv i j l) (fun lv i => ⟨Nat.le_refl _, fun _ => rfl, fun h => by omega, fun _ _ => SgN.nil⟩) (fun lv i j l e ih h => ⟨by omega, fun z => by omega, fun _ z => by simp at z, fun C' hC => ?_⟩) (fun lv i o j l t b ih1 ih2 h k t1 t9 hl hb => ⟨by omega, fun z => by omega, fun _ z => ?_, fun C' hC => ?_⟩)
  · exact (ih.2.2.2 C' (fun q hq => hC q (by omega))).act ((hC j (by omega)).trans h)
  · have z2 := (List.append_eq_nil_iff.mp z).2
    cases t with
    | zero => omega
    | succ t =>
      rw [List.replicate_succ, List.flatten_cons] at z2
      exact hb (List.append_eq_nil_iff.mp z2).1
  · exact (ih1.2.2.2 C' (fun q hq => hC q (by omega))).grp (ih2.2.2.2 C' (fun q hq => hC q (by omega))) ((hC o (by omega)).trans h) ((hC j (by omega)).trans k) t1 t9 hl hb
def StN (C : Nat → Cod) (oa : Nat → Int32) : List (Nat × List Ent) → Nat → Prop
  | [], s => s = 0
  | (t, prev) :: rest, s => ∃ o s', s = o + 1 ∧ C o = cOpn t ∧ 1 ≤ t ∧ t ≤ 9 ∧ rest.length < 4 ∧ oa rest.length = iI (o : Nat) ∧ SgN C rest.length s' o prev ∧ StN C oa rest s'
theorem StN.mo {C C' : Nat → Cod} {oa oa' : Nat → Int32} : ∀ {stk : List (Nat × List Ent)} {s : Nat}, StN C oa stk s → (∀ q, q < s → C' q = C q) → (∀ q, q < stk.length → oa' q = oa q) → StN C' oa' stk s
  | [], s, h, _, _ => h
  | (t, prev) :: rest, s, h, hC, ho => by
    obtain ⟨o, s', h1, h2, h3, h4, h5, h6, h7, h8⟩ := h
    have hm := h7.mono
    refine ⟨o, s', h1, (hC o (by omega)).trans h2, h3, h4, h5, ?_, hm.2.2.2 C' (fun q hq => hC q (by omega)), h8.mo (fun q hq => hC q (by omega)) (fun q hq => ho q ?_)⟩
    · rw [ho _ (by simp)]; exact h6
    · rw [List.length_cons]; omega
