/-! a play, read -/
theorem rdA_b (ch : Nat → Nat) (lt : Nat) : ∀ (r k p : Nat) (a : Nat → Int) (p' : Nat) (a' : Nat → Int), rdA ch lt r k p a = .inr (p', a') → (∀ j, j < k → -1000 < a j ∧ a j < 1000) → p < p' ∧ (∃ q, ch q = 59 ∧ p' = q + 1) ∧ ∀ j, j < k + r → -1000 < a' j ∧ a' j < 1000 := by
  intro r
  induction r with
  | zero =>
    intro k p a p' a' h ha
    unfold rdA at h
    split at h
    · next g =>
      cases h
      exact ⟨by omega, ⟨p, g, rfl⟩, fun j hj => ha j hj⟩
    · cases h
  | succ r ih =>
    intro k p a p' a' h ha
    unfold rdA at h
    split at h
    · cases h
    · have hq : p ≤ (if 0 < k then p + 1 else p) := by split <;> omega
      generalize (if 0 < k then p + 1 else p) = q at *
      generalize (if lt = 109 ∧ 0 < k ∧ ch q = 45 then 1 else 0 : Nat) = b at *
      have hnd := nd_b ch (q + b)
      split at h
      · cases h
      · have := ih (k + 1) _ _ p' a' h (fun j hj => by
          by_cases hjk : j = k
          · subst hjk
            rw [u1_s]
            split <;> omega
          · rw [u1_n _ _ hjk]
            exact ha j (by omega))
        exact ⟨by omega, this.2.1, fun j hj => this.2.2 j (by omega)⟩
/-- an act that can be run -/
def EntOk (n : Nat) (T : Nat → Nat) (e : Ent) : Prop := e.1 < n ∧ nArg (T e.1) ≤ 3 ∧ e.2.1 ≤ 5 ∧ ∀ j, j < nArg (T e.1) → -1000 < e.2.2 j ∧ e.2.2 j < 1000
theorem nArg_b (c : Nat) : nArg c ≤ 3 ∨ nArg c = 99 := by unfold nArg; split <;> (try split) <;> (try split) <;> (try split) <;> omega
theorem chr_lt {n : Nat} {T : Nat → Nat} {i : Nat} (h : chr n T i ≠ 0) : i < n := by
  apply Classical.byContradiction
  intro z
  exact h (if_neg z)
theorem item_act {n : Nat} {T : Nat → Nat} {d i p : Nat} {a : Nat → Int} (hi : i < n) (hd : d ≤ 4) (h : item (chr n T) d i = iAct p a) : i < p ∧ p ≤ n ∧ EntOk n T (i, d + 1, a) := by
  have hch : chr n T i = T i := if_pos hi
  unfold item grp at h
  split at h
  · cases h
  · split at h
    · split at h
      · cases h
      · split at h
        · cases h
        · split at h <;> cases h
    · split at h
      · cases h
      · next g =>
        split at h
        · cases h
        · next p' a' e =>
          cases h
          rw [hch] at e g
          have := rdA_b _ _ _ _ _ _ _ _ e (fun j hj => by omega)
          obtain ⟨h1, ⟨q, h2, h3⟩, h4⟩ := this
          have := chr_lt (n := n) (T := T) (i := q) (by omega)
          have := nArg_b (T i)
          exact ⟨by omega, by omega, hi, by show nArg (T i) ≤ 3; omega, by show d + 1 ≤ 5; omega, fun j hj => h4 j (by have : j < nArg (T i) := hj; omega)⟩
theorem item_opn {n : Nat} {T : Nat → Nat} {d i q t : Nat} (h : item (chr n T) d i = iOpn q t) : i ≤ q ∧ q < n ∧ 1 ≤ t ∧ t ≤ 9 ∧ d ≠ 4 := by
  unfold item at h
  split at h
  · cases h
  · split at h
    · unfold grp at h
      split at h
      · cases h
      · split at h
        · cases h
        · next g =>
          split at h
          · cases h
          · next g2 =>
            cases h
            have h1 : i ≤ gq (chr n T) i := by unfold gq; split <;> omega
            have h2 := chr_lt (n := n) (T := T) (i := gq (chr n T) i) (by omega)
            refine ⟨h1, h2, ?_, ?_, by omega⟩
            · by_cases z : isDb (chr n T i) = true
              · exact Classical.byContradiction fun y => g ⟨z, fun w => y w.1⟩
              · rw [show gt (chr n T) i = 1 from if_neg z]; omega
            · by_cases z : isDb (chr n T i) = true
              · exact Classical.byContradiction fun y => g ⟨z, fun w => y w.2⟩
              · rw [show gt (chr n T) i = 1 from if_neg z]; omega
    · split at h
      · cases h
      · split at h <;> cases h
theorem item_cls {ch : Nat → Nat} {d i : Nat} (h : item ch d i = iCls) : 0 < d := by
  unfold item at h
  split at h
  · next g => exact g.2
  · split at h
    · unfold grp at h
      split at h
      · cases h
      · split at h
        · cases h
        · split at h <;> cases h
    · split at h
      · cases h
      · split at h <;> cases h
/-- the text from i on, inside the groups stk, behind the acts cur: a fault (its place, how many groups are open), or the acts in the order in which they are run -/
def rd (ch : Nat → Nat) (n : Nat) : Nat → Nat → List (Nat × List Ent) → List Ent → (Nat × Nat) ⊕ List Ent
  | 0, _, stk, cur => if stk.length = 0 then .inr cur else .inl (n, stk.length)
  | f + 1, i, stk, cur =>
    if i < n then
      match item ch stk.length i with
      | .inl q => .inl (q, stk.length)
      | .inr (.inl (p, a)) => rd ch n f p stk (cur ++ [(i, stk.length + 1, a)])
      | .inr (.inr (.inl (q, t))) => rd ch n f (q + 1) ((t, cur) :: stk) []
      | .inr (.inr (.inr ())) =>
        match stk with
        | [] => .inl (i, 0)
        | (t, prev) :: rest => rd ch n f (i + 1) rest (prev ++ (List.replicate t cur).flatten)
    else if stk.length = 0 then .inr cur else .inl (n, stk.length)
def Seg (C : Nat → Cod) (lv i j : Nat) (l : List Ent) : Prop := ∀ P : Nat → Nat → Nat → List Ent → Prop,
  (∀ lv i, P lv i i []) →
  (∀ lv i j l e, P lv i j l → C j = cAct e → P lv i (j + 1) (l ++ [e])) →
  (∀ lv i o j l t b, P lv i o l → P (lv + 1) (o + 1) j b → C o = cOpn t → C j = cCls o → 1 ≤ t → t ≤ 9 → lv < 4 → P lv i (j + 1) (l ++ (List.replicate t b).flatten)) → P lv i j l
theorem Seg.nil {C : Nat → Cod} {lv i : Nat} : Seg C lv i i [] := fun _ h0 _ _ => h0 lv i
theorem Seg.act {C : Nat → Cod} {lv i j : Nat} {l : List Ent} {e : Ent} (a : Seg C lv i j l) (h : C j = cAct e) : Seg C lv i (j + 1) (l ++ [e]) := fun P h0 h1 h2 => h1 _ _ _ _ _ (a P h0 h1 h2) h
theorem Seg.grp {C : Nat → Cod} {lv i o j t : Nat} {l b : List Ent} (a : Seg C lv i o l) (c : Seg C (lv + 1) (o + 1) j b) (h : C o = cOpn t) (k : C j = cCls o) (t1 : 1 ≤ t) (t9 : t ≤ 9) (hl : lv < 4) : Seg C lv i (j + 1) (l ++ (List.replicate t b).flatten) := fun P h0 h1 h2 => h2 _ _ _ _ _ _ _ (a P h0 h1 h2) (c P h0 h1 h2) h k t1 t9 hl
theorem Seg.mono {C : Nat → Cod} {lv i j : Nat} {l : List Ent} (a : Seg C lv i j l) : i ≤ j ∧ ∀ C' : Nat → Cod, (∀ q, q < j → C' q = C q) → Seg C' lv i j l := by
  refine a (fun lv i j l => i ≤ j ∧ ∀ C' : Nat → Cod, (∀ q, q < j → C' q = C q) → Seg C' lv i j l) (fun lv i => ⟨Nat.le_refl _, fun _ _ => Seg.nil⟩) (fun lv i j l e ih h => ⟨by omega, fun C' hC => ?_⟩) (fun lv i o j l t b ih1 ih2 h k t1 t9 hl => ⟨by omega, fun C' hC => ?_⟩)
  · exact (ih.2 C' (fun q hq => hC q (by omega))).act ((hC j (by omega)).trans h)
  · exact (ih1.2 C' (fun q hq => hC q (by omega))).grp (ih2.2 C' (fun q hq => hC q (by omega))) ((hC o (by omega)).trans h) ((hC j (by omega)).trans k) t1 t9 hl
/-- the groups that are open -/
def Stk (C : Nat → Cod) (oa : Nat → Int32) : List (Nat × List Ent) → Nat → Prop
  | [], s => s = 0
  | (t, prev) :: rest, s => ∃ o s', s = o + 1 ∧ C o = cOpn t ∧ 1 ≤ t ∧ t ≤ 9 ∧ rest.length < 4 ∧ oa rest.length = iI (o : Nat) ∧ Seg C rest.length s' o prev ∧ Stk C oa rest s'
theorem Stk.mo {C C' : Nat → Cod} {oa oa' : Nat → Int32} : ∀ {stk : List (Nat × List Ent)} {s : Nat}, Stk C oa stk s → (∀ q, q < s → C' q = C q) → (∀ q, q < stk.length → oa' q = oa q) → Stk C' oa' stk s
  | [], s, h, _, _ => h
  | (t, prev) :: rest, s, h, hC, ho => by
    obtain ⟨o, s', h1, h2, h3, h4, h5, h6, h7, h8⟩ := h
    have hm := h7.mono
    refine ⟨o, s', h1, (hC o (by omega)).trans h2, h3, h4, h5, ?_, hm.2 C' (fun q hq => hC q (by omega)), h8.mo (fun q hq => hC q (by omega)) (fun q hq => ho q ?_)⟩
    · rw [ho _ (by simp)]; exact h6
    · rw [List.length_cons]; omega
set_option maxHeartbeats 4000000 in
theorem c_M_readPlay {n : Nat} {T : Nat → Nat} {h : St} {Q : Option Value → St → Prop} (hB : TxB n T) (hT : MTx n T h)
    (hQF : ∀ f d h', rd (chr n T) n n 0 [] [] = .inl (f, d) → SmR h h' → Flt f d h' → Q none h')
    (hQ1 : ∀ l C c h', rd (chr n T) n n 0 [] [] = .inr l → SmR h h' → c ≤ 100 → h'.1 90 17 = iI (c : Nat) → h'.1 90 25 = 1 → (∀ j, j < c → CdR T h' j (C j)) → Seg C 0 0 c l → (∀ j, j < c → ∀ e, C j = cAct e → EntOk n T e) → Q none h') : SC y_M_readPlay [.ref 90] h Q := by
  refine w_call IS_ok [20] ok_M_readPlay rfl rfl ?_
  have hn100 := hB.1
  refine ⟨Or.inr rfl, ?_⟩
  generalize hres : rd (chr n T) n n 0 [] [] = RES at *
  have dead : ∀ (f d : Nat) (hcc : St), RES = .inl (f, d) → SmR h hcc → Flt f d hcc → SR y_M_readPlay 20 [some (.ref 90)] [] hcc Q := by
    intro f d hcc hr hsm hF
    refine w_loop IS_ok [45] ok_M_readPlay ?_
    refine w_if (fun _ => ?_) (fun g => absurd hF.1 g)
    refine w_loop IS_ok [60] ok_M_readPlay ?_
    have fin : SR y_M_readPlay 60 [some (.ref 90)] [] hcc Q := by
      refine w_loop IS_ok [] ok_M_readPlay ?_
      exact hQF f d hcc hr hsm hF
    sorry
  sorry
