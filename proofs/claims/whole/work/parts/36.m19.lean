/-! a play, read -/
theorem rdA_b (ch : Nat → Nat) (lt : Nat) : ∀ (r k p : Nat) (a : Nat → Int) (p' : Nat) (a' : Nat → Int), rdA ch lt r k p a = .inr (p', a') → (∀ j, j < k → -1000 < a j ∧ a j < 1000) → p < p' ∧ (∃ q, ch q = 59 ∧ p' = q + 1) ∧ ∀ j, j < k + r → -1000 < a' j ∧ a' j < 1000 := by
  intro r
  induction r with
  | zero =>
    intro k p a p' a' h ha
    unfold rdA at h
    split at h
    · next g =>
      cases h
      exact ⟨by omega, ⟨p, g, rfl⟩, fun j hj => ha j hj⟩
    · cases h
  | succ r ih =>
    intro k p a p' a' h ha
    unfold rdA at h
    split at h
    · cases h
    · have hq : p ≤ (if 0 < k then p + 1 else p) := by split <;> omega
      generalize (if 0 < k then p + 1 else p) = q at *
      generalize (if lt = 109 ∧ 0 < k ∧ ch q = 45 then 1 else 0 : Nat) = b at *
      have hnd := nd_b ch (q + b)
      split at h
      · cases h
      · have := ih (k + 1) _ _ p' a' h (fun j hj => by
          by_cases hjk : j = k
          · subst hjk
            rw [u1_s]
            split <;> omega
          · rw [u1_n _ _ hjk]
            exact ha j (by omega))
        exact ⟨by omega, this.2.1, fun j hj => this.2.2 j (by omega)⟩
/-- an act that can be run -/
def EntOk (n : Nat) (T : Nat → Nat) (e : Ent) : Prop := e.1 < n ∧ nArg (T e.1) ≤ 3 ∧ e.2.1 ≤ 5 ∧ ∀ j, j < nArg (T e.1) → -1000 < e.2.2 j ∧ e.2.2 j < 1000
theorem nArg_b (c : Nat) : nArg c ≤ 3 ∨ nArg c = 99 := by unfold nArg; split <;> (try split) <;> (try split) <;> (try split) <;> omega
theorem chr_lt {n : Nat} {T : Nat → Nat} {i : Nat} (h : chr n T i ≠ 0) : i < n := by
  apply Classical.byContradiction
  intro z
  exact h (if_neg z)
theorem item_act {n : Nat} {T : Nat → Nat} {d i p : Nat} {a : Nat → Int} (hi : i < n) (hd : d ≤ 4) (h : item (chr n T) d i = iAct p a) : i < p ∧ p ≤ n ∧ EntOk n T (i, d + 1, a) := by
  have hch : chr n T i = T i := if_pos hi
  unfold item grp at h
  split at h
  · cases h
  · split at h
    · split at h
      · cases h
      · split at h
        · cases h
        · split at h <;> cases h
    · split at h
      · cases h
      · next g =>
        split at h
        · cases h
        · next p' a' e =>
          cases h
          rw [hch] at e g
          have := rdA_b _ _ _ _ _ _ _ _ e (fun j hj => by omega)
          obtain ⟨h1, ⟨q, h2, h3⟩, h4⟩ := this
          have := chr_lt (n := n) (T := T) (i := q) (by omega)
          have := nArg_b (T i)
          exact ⟨by omega, by omega, hi, by show nArg (T i) ≤ 3; omega, by show d + 1 ≤ 5; omega, fun j hj => h4 j (by have : j < nArg (T i) := hj; omega)⟩
theorem item_opn {n : Nat} {T : Nat → Nat} {d i q t : Nat} (h : item (chr n T) d i = iOpn q t) : i ≤ q ∧ q < n ∧ 1 ≤ t ∧ t ≤ 9 ∧ d ≠ 4 := by
  unfold item at h
  split at h
  · cases h
  · split at h
    · unfold grp at h
      split at h
      · cases h
      · split at h
        · cases h
        · next g =>
          split at h
          · cases h
          · next g2 =>
            cases h
            have h1 : i ≤ gq (chr n T) i := by unfold gq; split <;> omega
            have h2 := chr_lt (n := n) (T := T) (i := gq (chr n T) i) (by omega)
            refine ⟨h1, h2, ?_, ?_, by omega⟩
            · by_cases z : isDb (chr n T i) = true
              · exact Classical.byContradiction fun y => g ⟨z, fun w => y w.1⟩
              · rw [show gt (chr n T) i = 1 from if_neg z]; omega
            · by_cases z : isDb (chr n T i) = true
              · exact Classical.byContradiction fun y => g ⟨z, fun w => y w.2⟩
              · rw [show gt (chr n T) i = 1 from if_neg z]; omega
    · split at h
      · cases h
      · split at h <;> cases h
theorem item_cls {ch : Nat → Nat} {d i : Nat} (h : item ch d i = iCls) : 0 < d := by
  unfold item at h
  split at h
  · next g => exact g.2
  · split at h
    · unfold grp at h
      split at h
      · cases h
      · split at h
        · cases h
        · split at h <;> cases h
    · split at h
      · cases h
      · split at h <;> cases h
/-- the text from i on, inside the groups stk, behind the acts cur: a fault (its place, how many groups are open), or the acts in the order in which they are run -/
def rd (ch : Nat → Nat) (n : Nat) : Nat → Nat → List (Nat × List Ent) → List Ent → (Nat × Nat) ⊕ List Ent
  | 0, _, stk, cur => if stk.length = 0 then .inr cur else .inl (n, stk.length)
  | f + 1, i, stk, cur =>
    if i < n then
      match item ch stk.length i with
      | .inl q => .inl (q, stk.length)
      | .inr (.inl (p, a)) => rd ch n f p stk (cur ++ [(i, stk.length + 1, a)])
      | .inr (.inr (.inl (q, t))) => rd ch n f (q + 1) ((t, cur) :: stk) []
      | .inr (.inr (.inr ())) =>
        match stk with
        | [] => .inl (i, 0)
        | (t, prev) :: rest => rd ch n f (i + 1) rest (prev ++ (List.replicate t cur).flatten)
    else if stk.length = 0 then .inr cur else .inl (n, stk.length)
def Seg (C : Nat → Cod) (lv i j : Nat) (l : List Ent) : Prop := ∀ P : Nat → Nat → Nat → List Ent → Prop,
  (∀ lv i, P lv i i []) →
  (∀ lv i j l e, P lv i j l → C j = cAct e → P lv i (j + 1) (l ++ [e])) →
  (∀ lv i o j l t b, P lv i o l → P (lv + 1) (o + 1) j b → C o = cOpn t → C j = cCls o → 1 ≤ t → t ≤ 9 → lv < 4 → P lv i (j + 1) (l ++ (List.replicate t b).flatten)) → P lv i j l
theorem Seg.nil {C : Nat → Cod} {lv i : Nat} : Seg C lv i i [] := fun _ h0 _ _ => h0 lv i
theorem Seg.act {C : Nat → Cod} {lv i j : Nat} {l : List Ent} {e : Ent} (a : Seg C lv i j l) (h : C j = cAct e) : Seg C lv i (j + 1) (l ++ [e]) := fun P h0 h1 h2 => h1 _ _ _ _ _ (a P h0 h1 h2) h
theorem Seg.grp {C : Nat → Cod} {lv i o j t : Nat} {l b : List Ent} (a : Seg C lv i o l) (c : Seg C (lv + 1) (o + 1) j b) (h : C o = cOpn t) (k : C j = cCls o) (t1 : 1 ≤ t) (t9 : t ≤ 9) (hl : lv < 4) : Seg C lv i (j + 1) (l ++ (List.replicate t b).flatten) := fun P h0 h1 h2 => h2 _ _ _ _ _ _ _ (a P h0 h1 h2) (c P h0 h1 h2) h k t1 t9 hl
theorem Seg.mono {C : Nat → Cod} {lv i j : Nat} {l : List Ent} (a : Seg C lv i j l) : i ≤ j ∧ ∀ C' : Nat → Cod, (∀ q, q < j → C' q = C q) → Seg C' lv i j l := by
  refine a (fun lv i j l => i ≤ j ∧ ∀ C' : Nat → Cod, (∀ q, q < j → C' q = C q) → Seg C' lv i j l) (fun lv i => ⟨Nat.le_refl _, fun _ _ => Seg.nil⟩) (fun lv i j l e ih h => ⟨by omega, fun C' hC => ?_⟩) (fun lv i o j l t b ih1 ih2 h k t1 t9 hl => ⟨by omega, fun C' hC => ?_⟩)
  · exact (ih.2 C' (fun q hq => hC q (by omega))).act ((hC j (by omega)).trans h)
  · exact (ih1.2 C' (fun q hq => hC q (by omega))).grp (ih2.2 C' (fun q hq => hC q (by omega))) ((hC o (by omega)).trans h) ((hC j (by omega)).trans k) t1 t9 hl
/-- the groups that are open -/
def Stk (C : Nat → Cod) (oa : Nat → Int32) : List (Nat × List Ent) → Nat → Prop
  | [], s => s = 0
  | (t, prev) :: rest, s => ∃ o s', s = o + 1 ∧ C o = cOpn t ∧ 1 ≤ t ∧ t ≤ 9 ∧ rest.length < 4 ∧ oa rest.length = iI (o : Nat) ∧ Seg C rest.length s' o prev ∧ Stk C oa rest s'
theorem Stk.mo {C C' : Nat → Cod} {oa oa' : Nat → Int32} : ∀ {stk : List (Nat × List Ent)} {s : Nat}, Stk C oa stk s → (∀ q, q < s → C' q = C q) → (∀ q, q < stk.length → oa' q = oa q) → Stk C' oa' stk s
  | [], s, h, _, _ => h
  | (t, prev) :: rest, s, h, hC, ho => by
    obtain ⟨o, s', h1, h2, h3, h4, h5, h6, h7, h8⟩ := h
    have hm := h7.mono
    refine ⟨o, s', h1, (hC o (by omega)).trans h2, h3, h4, h5, ?_, hm.2 C' (fun q hq => hC q (by omega)), h8.mo (fun q hq => hC q (by omega)) (fun q hq => ho q ?_)⟩
    · rw [ho _ (by simp)]; exact h6
    · rw [List.length_cons]; omega
theorem CdR.kp {T : Nat → Nat} {h h' : St} {c j : Nat} (k : Kp c h h') (hj : j ≠ c) {x : Cod} (a : CdR T h j x) : CdR T h' j x := by
  unfold CdR at a ⊢
  split
  · obtain ⟨a1, a2, a3, a4, a5, a6⟩ := a
    exact ⟨by rw [k 99 (by omega) (by omega) j hj]; exact a1, by rw [k 100 (by omega) (by omega) j hj]; exact a2, by rw [k 101 (by omega) (by omega) j hj]; exact a3, by rw [k 102 (by omega) (by omega) j hj]; exact a4, by rw [k 103 (by omega) (by omega) j hj]; exact a5, by rw [k 104 (by omega) (by omega) j hj]; exact a6⟩
  · exact ⟨by rw [k 99 (by omega) (by omega) j hj]; exact a.1, by rw [k 102 (by omega) (by omega) j hj]; exact a.2⟩
  · exact ⟨by rw [k 99 (by omega) (by omega) j hj]; exact a.1, by rw [k 102 (by omega) (by omega) j hj]; exact a.2⟩
theorem cdr_u {T : Nat → Nat} {h h' : St} {c : Nat} {C : Nat → Cod} {x : Cod} (k : Kp c h h') (a : ∀ j, j < c → CdR T h j (C j)) (b : CdR T h' c x) : ∀ j, j < c + 1 → CdR T h' j (u1 C c x j) := by
  intro j hj
  by_cases z : j = c
  · subst z; rw [u1_s]; exact b
  · rw [u1_n _ _ z]; exact (a j (by omega)).kp k z
set_option maxHeartbeats 4000000 in
theorem c_M_readPlay {n : Nat} {T : Nat → Nat} {h : St} {Q : Option Value → St → Prop} (hB : TxB n T) (hT : MTx n T h)
    (hQF : ∀ f d h', rd (chr n T) n n 0 [] [] = .inl (f, d) → SmR h h' → Flt f d h' → Q none h')
    (hQ1 : ∀ l C c h', rd (chr n T) n n 0 [] [] = .inr l → SmU h h' → c ≤ 100 → h'.1 90 17 = iI (c : Nat) → h'.1 90 25 = 1 → (∀ j, j < c → CdR T h' j (C j)) → Seg C 0 0 c l → (∀ j, j < c → ∀ e, C j = cAct e → EntOk n T e) → Q none h') : SC y_M_readPlay [.ref 90] h Q := by
  refine w_call IS_ok [20] ok_M_readPlay rfl rfl ?_
  have hn100 := hB.1
  refine ⟨Or.inr rfl, ?_⟩
  generalize hres : rd (chr n T) n n 0 [] [] = RES at *
  have dead : ∀ (f d : Nat) (hcc : St), RES = .inl (f, d) → SmR h hcc → Flt f d hcc → SR y_M_readPlay 20 [some (.ref 90)] [] hcc Q := by
    intro f d hcc hr hsm hF
    refine w_loop IS_ok [45] ok_M_readPlay ?_
    refine w_if (fun _ => ?_) (fun g => absurd hF.1 g)
    refine w_loop IS_ok [60] ok_M_readPlay ?_
    have fin : SR y_M_readPlay 60 [some (.ref 90)] [] hcc Q := by
      refine w_loop IS_ok [] ok_M_readPlay ?_
      exact hQF f d hcc hr hsm hF
    refine w_if (fun _ => fin) (fun _ => c_M_wrong0 hF.1 fin)
  have endd : ∀ (stk : List (Nat × List Ent)) (cur : List Ent) (i c : Nat) (C : Nat → Cod) (s : Nat) (hcc : St), (if stk.length = 0 then .inr cur else .inl (n, stk.length)) = RES → n ≤ i → i ≤ n → SmU h hcc → RdS n T i stk.length c hcc → c ≤ i → stk.length ≤ 4 → Stk C (hcc.2 105) stk s → Seg C stk.length s c cur → (∀ j, j < c → CdR T hcc j (C j)) → (∀ j, j < c → ∀ e, C j = cAct e → EntOk n T e) → SR y_M_readPlay 20 [some (.ref 90)] [] hcc Q := by
    intro stk cur i c C s hcc hr hi1 hi2 hsm hRc hci hlen hst hsg hcd hok
    obtain ⟨hTc, g23, g24, g17, g25⟩ := id hRc
    refine w_loop IS_ok [45] ok_M_readPlay ?_
    refine w_if (fun z => absurd (show (1 : Int32) = 0 by rw [← g25]; exact z) (by decide)) (fun _ => ?_)
    refine w_le n i (fun _ => ?_) (fun _ => by omega) hTc.1 g23
    refine w_loop IS_ok [60] ok_M_readPlay ?_
    refine w_le stk.length 0 (fun g => ?_) (fun g => ?_) g24 rfl
    · refine w_loop IS_ok [] ok_M_readPlay ?_
      rw [if_pos (by omega)] at hr
      have hs0 : s = 0 := by
        cases stk with
        | nil => exact hst
        | cons x y => rw [List.length_cons] at g; omega
      have hl0 : stk.length = 0 := by omega
      rw [hs0, hl0] at hsg
      exact hQ1 cur C c hcc hr.symm hsm (by omega) g17 g25 hcd hsg hok
    · rw [if_neg (by omega)] at hr
      refine c_M_wrong n stk.length g24 g25 (fun h' hs' hF => ?_) hTc.1
      refine w_loop IS_ok [] ok_M_readPlay ?_
      exact hQF n stk.length h' hr.symm (Sm.t (Sm.mo hsm (by decide) (by decide)) (hs'.mo (by decide) (by decide))) hF
  have loop : ∀ (f i : Nat) (stk : List (Nat × List Ent)) (cur : List Ent) (c : Nat) (C : Nat → Cod) (s : Nat) (hcc : St), rd (chr n T) n f i stk cur = RES → n ≤ f + i → i ≤ n → SmU h hcc → RdS n T i stk.length c hcc → c ≤ i → stk.length ≤ 4 → Stk C (hcc.2 105) stk s → Seg C stk.length s c cur → (∀ j, j < c → CdR T hcc j (C j)) → (∀ j, j < c → ∀ e, C j = cAct e → EntOk n T e) → SR y_M_readPlay 20 [some (.ref 90)] [] hcc Q := by
    intro f
    induction f with
    | zero =>
      intro i stk cur c C s hcc hr hf hi hsm hRc hci hlen hst hsg hcd hok
      exact endd stk cur i c C s hcc hr (by omega) hi hsm hRc hci hlen hst hsg hcd hok
    | succ f ih =>
      intro i stk cur c C s hcc hr hf hi hsm hRc hci hlen hst hsg hcd hok
      unfold rd at hr
      by_cases hin : i < n
      · rw [if_pos hin] at hr
        obtain ⟨hTc, g23, g24, g17, g25⟩ := id hRc
        refine w_loop IS_ok [20, 45] ok_M_readPlay ?_
        refine w_if (fun z => absurd (show (1 : Int32) = 0 by rw [← g25]; exact z) (by decide)) (fun _ => ?_)
        refine w_le n i (fun _ => by omega) (fun _ => ?_) hTc.1 g23
        have hok2 : ∀ x : Cod, (∀ e, x = cAct e → EntOk n T e) → ∀ j, j < c + 1 → ∀ e, u1 C c x j = cAct e → EntOk n T e := by
          intro x hx j hj e he
          by_cases z : j = c
          · subst z; rw [u1_s] at he; exact hx e he
          · rw [u1_n _ _ z] at he; exact hok j (by omega) e he
        have hCn : ∀ (x : Cod) (m : Nat), m ≤ c → ∀ q, q < m → u1 C c x q = C q := fun x m hm q hq => u1_n _ _ (by omega)
        have hm := hsg.mono
        refine c_M_readOne hB i stk.length c hRc hin (by omega) hlen ?_ ?_ ?_ ?_
        · intro q h' e hs' hF
          rw [e] at hr
          exact dead q stk.length h' hr.symm (Sm.t (Sm.mo hsm (by decide) (by decide)) hs') hF
        · intro p a h' e hs' hR' hk hc2 h105
          rw [e] at hr
          have hb := item_act hin hlen e
          exact ih p stk _ (c + 1) (u1 C c (cAct (i, stk.length + 1, a))) s h' hr (by omega) hb.2.1 (hsm.t (hs'.mo (by decide) (by decide))) hR' (by omega) hlen (hst.mo (hCn _ _ hm.1) (fun q _ => by rw [h105])) ((hm.2 _ (hCn _ _ (Nat.le_refl _))).act (u1_s _ _ _)) (cdr_u hk hcd hc2) (hok2 _ (fun e he => by cases he; exact hb.2.2))
        · intro q t h' e hd4 hs' hR' hk hc2 h105
          rw [e] at hr
          have hb := item_opn e
          refine ih (q + 1) ((t, cur) :: stk) [] (c + 1) (u1 C c (cOpn t)) (c + 1) h' hr (by omega) (by omega) (hsm.t (hs'.mo (by decide) (by decide))) hR' (by omega) (by rw [List.length_cons]; omega) ?_ Seg.nil (cdr_u hk hcd hc2) (hok2 _ (fun e he => by cases he))
          refine ⟨c, s, rfl, u1_s _ _ _, hb.2.2.1, hb.2.2.2.1, hd4, by rw [h105, u1_s], hm.2 _ (hCn _ _ (Nat.le_refl _)), hst.mo (hCn _ _ hm.1) (fun q hq => by rw [h105, u1_n _ _ (by omega)])⟩
        · intro h' e hd hs' hR' hk hc2 h105
          rw [e] at hr
          cases stk with
          | nil => cases hd
          | cons x rest =>
            obtain ⟨t, prev⟩ := x
            obtain ⟨o, s', e1, e2, e3, e4, e5, e6, e7, e8⟩ := hst
            rw [List.length_cons] at hlen hR'
            rw [Nat.add_sub_cancel] at hR'
            have hm7 := e7.mono
            have hc3 := hc2 o e6
            refine ih (i + 1) rest _ (c + 1) (u1 C c (cCls o)) s' h' hr (by omega) (by omega) (hsm.t (hs'.mo (by decide) (by decide))) hR' (by omega) (by omega) (e8.mo (hCn _ _ (by omega)) (fun q _ => by rw [h105])) ?_ (cdr_u hk hcd hc3) (hok2 _ (fun e he => by cases he))
            have hsg2 := hm.2 (u1 C c (cCls o)) (hCn _ _ (Nat.le_refl _))
            rw [e1] at hsg2
            exact (hm7.2 _ (hCn _ _ (by omega))).grp hsg2 ((hCn _ (o + 1) (by omega) o (by omega)).trans e2) (u1_s _ _ _) e3 e4 e5
      · rw [if_neg hin] at hr
        exact endd stk cur i c C s hcc hr (by omega) hi hsm hRc hci hlen hst hsg hcd hok
  have hs4 : Sm [(90, 25), (90, 23), (90, 17), (90, 24)] [99, 100, 101, 102, 103, 104, 105, 107] h (pf (pf (pf (pf h 23 0) 24 0) 17 0) 25 1) := (((Sm.pf _ (by decide)).t (Sm.pf _ (by decide))).t (Sm.pf _ (by decide))).t (Sm.pf _ (by decide))
  exact loop n 0 [] [] 0 (fun _ => cCls 0) 0 (pf (pf (pf (pf h 23 0) 24 0) 17 0) 25 1) hres (by omega) (by omega) hs4 ⟨hT.sm hs4 (by decide) (by decide), rfl, rfl, rfl, rfl⟩ (by omega) (by decide) rfl Seg.nil (fun j hj => by omega) (fun j hj => by omega)
