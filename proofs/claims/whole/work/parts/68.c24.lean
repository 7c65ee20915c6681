/-! the class: the acts of a play in the order in which they are run -/
abbrev SmH (h h' : St) : Prop := Sm [(84, 2), (84, 3), (84, 4)] [86, 88] h h'
def US (C : Nat → Cod) (c : Nat) (D : List Ent) (lv : Nat) (h : St) : Prop := h.1 84 2 = iI (D.length : Nat) ∧ h.1 84 3 = iI (lv : Nat) ∧ h.1 84 4 = iI (-1) ∧ ∀ k e, D[k]? = some e → ∃ j, j < c ∧ C j = cAct e ∧ h.2 86 k = iI (j : Nat)
theorem CdC.row {T : Nat → Nat} {h h' : St} {j : Nat} {x : Cod} (e : h'.2 81 = h.2 81) (a : CdC T h j x) : CdC T h' j x := by
  unfold CdC at a ⊢
  rw [e]
  exact a
theorem c_take_A {T : Nat → Nat} {x : Int32} {h : St} {Q : Option Value → St → Prop} (e : Ent) (he : nArg (T e.1) ≤ 3) (j m : Nat) (hj : j < 100) (hm : m ≤ 200) (hcd : CdC T h j (cAct e)) (h2 : h.1 84 2 = iI (m : Nat)) (hQ1 : m < 200 → Q (some (.int (iI (j + 1 : Nat)))) (pg (wa h 86 m (iI (j : Nat))) 84 2 (h.1 84 2 + 1))) (hQ0 : m = 200 → Q (some (.int (iI (j + 1 : Nat)))) (pg h 84 4 (iI (j : Nat)))) (hx : x = iI (j : Nat)) : SC y_Sched_take [.ref 84, .ref 79, .int x] h Q := by
  refine w_call IS_ok [82] ok_Sched_take rfl rfl ?_
  have hc := nArg_c he
  refine c_Cells_get2 CA_80 j 0 (by omega) ?_ hx rfl
  refine w_eq (T e.1 : Nat) 40 (fun g => by omega) (fun g => ?_) hcd.1 rfl (by omega)
  refine w_eq (T e.1 : Nat) 41 (fun g => by omega) (fun g => ?_) hcd.1 rfl (by omega)
  refine w_call IS_ok [] ok_Sched_plan rfl rfl ?_
  refine w_le 200 m (fun g => ?_) (fun g => ?_) rfl h2
  · have := hQ0 (by omega)
    refine w_loop IS_ok [] ok_Sched_take ?_
    rw [← iI_1 hx, ← hx] at this
    exact this
  · refine c_Cells_set2 CA_85 m (by omega) ?_ h2
    have := hQ1 (by omega)
    refine w_loop IS_ok [] ok_Sched_take ?_
    rw [← iI_1 hx, ← hx] at this
    exact this
theorem c_take_O {T : Nat → Nat} {x : Int32} {h : St} {Q : Option Value → St → Prop} (j lv t : Nat) (hj : j < 100) (hlv : lv < 4) (hcd : CdC T h j (cOpn t)) (h3 : h.1 84 3 = iI (lv : Nat)) (hQ : Q (some (.int (iI (j + 1 : Nat)))) (pg (wa h 88 lv (iI (t : Nat))) 84 3 (h.1 84 3 + 1))) (hx : x = iI (j : Nat)) : SC y_Sched_take [.ref 84, .ref 79, .int x] h Q := by
  refine w_call IS_ok [] ok_Sched_take rfl rfl ?_
  refine c_Cells_get2 CA_80 j 0 (by omega) ?_ hx rfl
  refine w_eq 40 40 (fun g => ?_) (fun g => absurd rfl g) hcd.1 rfl
  refine c_Cells_get2 CA_80 j 3 (by omega) ?_ hx rfl
  refine c_Cells_set2 CA_87 lv (by omega) ?_ h3
  rw [hcd.2]
  rw [← iI_1 hx] at hQ
  exact hQ
theorem c_take_C {T : Nat → Nat} {x : Int32} {h : St} {Q : Option Value → St → Prop} (j lv o s : Nat) (hj : j < 100) (hlv : lv < 4) (hs : s < 100) (hcd : CdC T h j (cCls o)) (h3 : h.1 84 3 = iI (lv + 1 : Nat)) (h88 : h.2 88 lv = iI (s + 1 : Nat)) (hQ1 : 0 < s → Q (some (.int (iI (o + 1 : Nat)))) (wa h 88 lv (h.2 88 lv + (-1)))) (hQ0 : s = 0 → Q (some (.int (iI (j + 1 : Nat)))) (pg (wa h 88 lv (h.2 88 lv + (-1))) 84 3 (h.1 84 3 - 1))) (hx : x = iI (j : Nat)) : SC y_Sched_take [.ref 84, .ref 79, .int x] h Q := by
  refine w_call IS_ok [] ok_Sched_take rfl rfl ?_
  refine c_Cells_get2 CA_80 j 0 (by omega) ?_ hx rfl
  refine w_eq 41 40 (fun g => by omega) (fun g => ?_) hcd.1 rfl
  refine w_eq 41 41 (fun g => ?_) (fun g => absurd rfl g) hcd.1 rfl
  refine w_call IS_ok [] ok_Sched_takeClosing rfl rfl ?_
  have e3 : h.1 84 3 - 1 = iI (lv : Nat) := iI_q h3 (by omega)
  refine c_Cells_add CA_87 lv (by omega) ?_ e3
  refine c_Cells_get1 CA_87 lv (by omega) ?_ e3
  have e4 : h.2 88 lv + (-1) = iI (s : Nat) := iI_p h88 (by omega)
  refine w_le s 0 (fun g => ?_) (fun g => ?_) ((wa_s _ _ _ _).trans e4) rfl
  · have := hQ0 (by omega)
    rw [← iI_1 hx] at this
    exact this
  · refine c_Cells_get2 CA_80 j 3 (by omega) ?_ hx rfl
    have e5 : (wa h 88 lv (h.2 88 lv + (-1))).2 81 (j * 6 + 3) = iI (o : Nat) := (congrFun (wa_o _ _ _ _ (by decide)) _).trans hcd.2
    have := hQ1 (by omega)
    rw [← iI_1 e5] at this
    exact this
def UnP (h0 : St) (C : Nat → Cod) (c : Nat) (Q : Option Value → St → Prop) (lv i j : Nat) (l : List Ent) : Prop :=
  j ≤ c → lv ≤ 4 → ∀ (hcc : St) (D : List Ent) (r : Nat) (z2 z3 : Int32), D.length ≤ 200 → SmH h0 hcc → US C c D lv hcc → r ≤ 20 * D.length + 5 + lv → z2 = iI (i : Nat) → z3 = iI (r : Nat) →
  (D.length + l.length ≤ 200 → ∀ (h' : St) (r' : Nat) (w2 w3 : Int32), SmH h0 h' → US C c (D ++ l) lv h' → (∀ q, q < lv → h'.2 88 q = hcc.2 88 q) → r' ≤ 20 * (D.length + l.length) + 5 + lv → (l ≠ [] → r' + lv ≤ 20 * (D.length + l.length) + 4) → w2 = iI (j : Nat) → w3 = iI (r' : Nat) → SR y_Sched_unroll 19 [some (.ref 84), some (.ref 79), some (.int w2), some (.int w3)] [] h' Q) →
  (∀ (e : Ent) (j' : Nat) (h' : St), l[200 - D.length]? = some e → SmH h0 h' → j' < c → C j' = cAct e → h'.1 84 4 = iI (j' : Nat) → Q none h') →
  SR y_Sched_unroll 19 [some (.ref 84), some (.ref 79), some (.int z2), some (.int z3)] [] hcc Q
set_option maxHeartbeats 2000000 in
theorem unP_seg {T : Nat → Nat} {N : Nat} {h0 : St} {C : Nat → Cod} {c : Nat} {Q : Option Value → St → Prop} (hc : c ≤ 100) (h79 : h0.1 79 1 = iI (c : Nat)) (hcd : ∀ j, j < c → CdC T h0 j (C j)) (hok : ∀ j, j < c → ∀ e, C j = cAct e → EntOk N T e) {lv i j : Nat} {l : List Ent} (sg : SgN C lv i j l) : UnP h0 C c Q lv i j l := by
  refine (sg (fun lv i j l => i ≤ j ∧ UnP h0 C c Q lv i j l) ?_ ?_ ?_).2
  · intro lv i
    refine ⟨Nat.le_refl _, ?_⟩
    intro hj hl4 hcc D r z2 z3 hD hs hU hr e2 e3 hd hf
    exact hd hD hcc r z2 z3 hs (by rw [List.append_nil]; exact hU) (fun _ _ => rfl) hr (fun z => absurd rfl z) e2 e3
  · intro lv i j l e ih hC
    refine ⟨by omega, ?_⟩
    intro hj hl4 hcc D r z2 z3 hD hs hU hr e2 e3 hd hf
    refine ih.2 (by omega) hl4 hcc D r z2 z3 hD hs hU hr e2 e3 (fun hml h1 r1 w2 w3 hs1 hU1 hk1 hr1 hr1' f2 f3 => ?_) (fun e' j' h' he => hf e' j' h' (app_l he))
    have hcj := (hcd j (by omega)).row (h' := h1) (hs1.2 81 (by decide))
    rw [hC] at hcj
    obtain ⟨u2', u3, u4, u5⟩ := hU1
    rw [List.length_append] at u2'
    refine w_loop IS_ok [19] ok_Sched_unroll ?_
    refine w_le 100000 r1 (fun _ => by omega) (fun _ => ?_) rfl f3
    refine w_le c j (fun _ => by omega) (fun _ => ?_) ((hs1.1 _ _ (by decide)).trans h79) f2
    refine w_le 0 (-1) (fun _ => by omega) (fun _ => ?_) rfl u4
    refine c_take_A e (hok j (by omega) e hC).2.1 j (D.length + l.length) (by omega) hml hcj u2' (fun hm2 => ?_) (fun hm2 => ?_) f2
    · refine hd (by rw [List.length_append, List.length_singleton]; omega) (pg (wa h1 86 (D.length + l.length) (iI (j : Nat))) 84 2 (h1.1 84 2 + 1)) (r1 + 1) _ _ ((hs1.t (Sm.wa _ _ (by decide))).t (Sm.pg _ (by decide))) ⟨?_, u3, u4, fun k e' hke => ?_⟩ hk1 (by rw [List.length_append, List.length_singleton]; omega) (fun _ => by rw [List.length_append, List.length_singleton]; omega) rfl (iI_1 f3)
      · rw [pg_s, List.length_append, List.length_append, List.length_singleton, ← Nat.add_assoc]
        exact iI_1 u2'
      · rw [← List.append_assoc] at hke
        by_cases z : k < (D ++ l).length
        · rw [List.getElem?_append_left z] at hke
          obtain ⟨j2, a1, a2, a3⟩ := u5 k e' hke
          rw [List.length_append] at z
          exact ⟨j2, a1, a2, (wa_n h1 86 _ _ (by omega)).trans a3⟩
        · rw [List.getElem?_append_right (by omega)] at hke
          have z2 : k = (D ++ l).length := by
            refine Classical.byContradiction fun y => ?_
            rw [List.getElem?_eq_none (by rw [List.length_singleton]; omega)] at hke
            cases hke
          rw [z2, Nat.sub_self] at hke
          have : e = e' := Option.some.inj hke
          subst this
          rw [z2, List.length_append]
          exact ⟨j, by omega, hC, wa_s h1 86 _ _⟩
    · -- the 201st
      have out : ∀ (L2 L3 : Option Value), SR y_Sched_unroll 53 [some (.ref 84), some (.ref 79), L2, L3] [] (pg h1 84 4 (iI (j : Nat))) Q := by
        intro L2 L3
        refine w_loop IS_ok [] ok_Sched_unroll ?_
        refine hf e j (pg h1 84 4 (iI (j : Nat))) (app_r hml ?_) (hs1.t (Sm.pg _ (by decide))) (by omega) hC (pg_s _ _ _ _)
        rw [show 200 - (D.length + l.length) = 0 by omega]
        rfl
      refine w_loop IS_ok [53] ok_Sched_unroll ?_
      refine w_le 100000 (r1 + 1 : Nat) (fun _ => out _ _) (fun _ => ?_) rfl (iI_1 f3)
      refine w_le c (j + 1 : Nat) (fun _ => out _ _) (fun _ => ?_) ((hs1.1 _ _ (by decide)).trans h79) rfl
      exact w_le 0 j (fun _ => out _ _) (fun _ => by omega) rfl (pg_s _ _ _ _)
  · intro lv i o j l t b ih1 ih2 hCo hCj t1 t9 hlv hb
    refine ⟨by omega, ?_⟩
    intro hj hl4 hcc D r z2 z3 hD hs hU hr e2 e3 hd hf
    have hio := ih1.1
    have hoj := ih2.1
    have hb1 : 1 ≤ b.length := by cases b with | nil => exact absurd rfl hb | cons x y => simp
    -- the repetitions
    have rep : ∀ (s : Nat), 1 ≤ s → s ≤ 9 → ∀ (h1 : St) (D1 : List Ent) (r1 : Nat) (w2 w3 : Int32), D1.length ≤ 200 → SmH h0 h1 → US C c D1 (lv + 1) h1 → (∀ q, q < lv → h1.2 88 q = hcc.2 88 q) → h1.2 88 lv = iI (s : Nat) → r1 ≤ 20 * D1.length + 5 + (lv + 1) → w2 = iI (o + 1 : Nat) → w3 = iI (r1 : Nat) →
        (D1.length + (List.replicate s b).flatten.length ≤ 200 → ∀ (h' : St) (r' : Nat) (v2 v3 : Int32), SmH h0 h' → US C c (D1 ++ (List.replicate s b).flatten) lv h' → (∀ q, q < lv → h'.2 88 q = hcc.2 88 q) → r' + lv ≤ 20 * (D1.length + (List.replicate s b).flatten.length) + 4 → v2 = iI (j + 1 : Nat) → v3 = iI (r' : Nat) → SR y_Sched_unroll 19 [some (.ref 84), some (.ref 79), some (.int v2), some (.int v3)] [] h' Q) →
        (∀ (e : Ent) (j' : Nat) (h' : St), (List.replicate s b).flatten[200 - D1.length]? = some e → SmH h0 h' → j' < c → C j' = cAct e → h'.1 84 4 = iI (j' : Nat) → Q none h') →
        SR y_Sched_unroll 19 [some (.ref 84), some (.ref 79), some (.int w2), some (.int w3)] [] h1 Q := by
      intro s
      induction s with
      | zero => intro z; omega
      | succ s ihs =>
        intro _ hs9 h1 D1 r1 w2 w3 hD1 hs1 hU1 hk1 hl1 hr1 f2 f3 hd1 hf1
        have hfl : (List.replicate (s + 1) b).flatten = b ++ (List.replicate s b).flatten := by rw [List.replicate_succ, List.flatten_cons]
        rw [hfl] at hd1 hf1
        refine ih2.2 (by omega) (by omega) h1 D1 r1 w2 w3 hD1 hs1 hU1 hr1 f2 f3 (fun hml h2 r2 v2 v3 hs2 hU2 hk2 hr2 hr2' g2 g3 => ?_) (fun e' j' h' he => hf1 e' j' h' (app_l he))
        have hr2' := hr2' hb
        have hcj := (hcd j (by omega)).row (h' := h2) (hs2.2 81 (by decide))
        rw [hCj] at hcj
        obtain ⟨u2', u3, u4, u5⟩ := hU2
        have hl2 : h2.2 88 lv = iI (s + 1 : Nat) := (hk2 lv (by omega)).trans hl1
        have hs3 : SmH h0 (wa h2 88 lv (h2.2 88 lv + (-1))) := hs2.t (Sm.wa _ _ (by decide))
        have hk3 : ∀ q, q < lv → (wa h2 88 lv (h2.2 88 lv + (-1))).2 88 q = hcc.2 88 q := fun q hq => by rw [wa_n _ _ _ _ (by omega), hk2 q (by omega), hk1 q hq]
        have h86 : (wa h2 88 lv (h2.2 88 lv + (-1))).2 86 = h2.2 86 := wa_o _ _ _ _ (by decide)
        refine w_loop IS_ok [19] ok_Sched_unroll ?_
        refine w_le 100000 r2 (fun _ => by omega) (fun _ => ?_) rfl g3
        refine w_le c j (fun _ => by omega) (fun _ => ?_) ((hs2.1 _ _ (by decide)).trans h79) g2
        refine w_le 0 (-1) (fun _ => by omega) (fun _ => ?_) rfl u4
        refine c_take_C j lv o s (by omega) hlv (by omega) hcj u3 hl2 (fun hs0 => ?_) (fun hs0 => ?_) g2
        · refine ihs (by omega) (by omega) (wa h2 88 lv (h2.2 88 lv + (-1))) (D1 ++ b) (r2 + 1) _ _ (by rw [List.length_append]; exact hml) hs3 ⟨u2', u3, u4, fun k e hke => by rw [h86]; exact u5 k e hke⟩ hk3 ((wa_s _ _ _ _).trans (iI_p hl2 (by omega))) (by rw [List.length_append]; omega) rfl (iI_1 g3) (fun hml2 h' r' v2 v3 hs4 hU4 hk4 hr4 k2 k3 => ?_) (fun e' j' h' he => hf1 e' j' h' (app_r hml (by rw [List.length_append] at he; exact he)))
          rw [List.length_append] at hml2 hr4
          rw [List.append_assoc] at hU4
          exact hd1 (by rw [List.length_append]; omega) h' r' v2 v3 hs4 hU4 hk4 (by rw [List.length_append]; omega) k2 k3
        · subst hs0
          have efl : b ++ (List.replicate 0 b).flatten = b := by simp
          rw [efl] at hd1
          refine hd1 hml (pg (wa h2 88 lv (h2.2 88 lv + (-1))) 84 3 (h2.1 84 3 - 1)) (r2 + 1) _ _ (hs3.t (Sm.pg _ (by decide))) ⟨u2', by rw [pg_s]; exact iI_q u3 (by omega), u4, fun k e hke => ?_⟩ hk3 (by omega) rfl (iI_1 g3)
          obtain ⟨j2, a1, a2, a3⟩ := u5 k e hke
          exact ⟨j2, a1, a2, (congrFun h86 k).trans a3⟩
    refine ih1.2 (by omega) hl4 hcc D r z2 z3 hD hs hU hr e2 e3 (fun hml h1 r1 w2 w3 hs1 hU1 hk1 hr1 hr1' f2 f3 => ?_) (fun e' j' h' he => hf e' j' h' (app_l he))
    have hco := (hcd o (by omega)).row (h' := h1) (hs1.2 81 (by decide))
    rw [hCo] at hco
    obtain ⟨u2', u3, u4, u5⟩ := hU1
    refine w_loop IS_ok [19] ok_Sched_unroll ?_
    refine w_le 100000 r1 (fun _ => by omega) (fun _ => ?_) rfl f3
    refine w_le c o (fun _ => by omega) (fun _ => ?_) ((hs1.1 _ _ (by decide)).trans h79) f2
    refine w_le 0 (-1) (fun _ => by omega) (fun _ => ?_) rfl u4
    refine c_take_O o lv t (by omega) hlv hco u3 ?_ f2
    have hs3 : SmH h0 (pg (wa h1 88 lv (iI (t : Nat))) 84 3 (h1.1 84 3 + 1)) := (hs1.t (Sm.wa _ _ (by decide))).t (Sm.pg _ (by decide))
    refine rep t t1 t9 (pg (wa h1 88 lv (iI (t : Nat))) 84 3 (h1.1 84 3 + 1)) (D ++ l) (r1 + 1) _ _ (by rw [List.length_append]; exact hml) hs3 ⟨u2', by rw [pg_s]; exact iI_1 u3, u4, fun k e hke => ?_⟩ (fun q hq => ?_) (wa_s h1 88 lv _) (by rw [List.length_append]; omega) rfl (iI_1 f3) (fun hml2 h' r' v2 v3 hs4 hU4 hk4 hr4 k2 k3 => ?_) (fun e' j' h' he => hf e' j' h' (app_r hml (by rw [List.length_append] at he; exact he)))
    · obtain ⟨j2, a1, a2, a3⟩ := u5 k e hke
      exact ⟨j2, a1, a2, (congrFun (wa_o h1 88 lv (iI (t : Nat)) (by decide)) k).trans a3⟩
    · exact (wa_n h1 88 lv _ (by omega)).trans (hk1 q hq)
    · rw [List.length_append] at hml2 hr4
      rw [List.append_assoc] at hU4
      exact hd (by rw [List.length_append]; omega) h' r' v2 v3 hs4 hU4 hk4 (by rw [List.length_append]; omega) (fun _ => by rw [List.length_append]; omega) k2 k3
theorem c_Sched_unroll {T : Nat → Nat} {N : Nat} {h : St} {C : Nat → Cod} {c : Nat} {l : List Ent} {Q : Option Value → St → Prop} (hc : c ≤ 100) (h79 : h.1 79 1 = iI (c : Nat)) (hcd : ∀ j, j < c → CdC T h j (C j)) (hok : ∀ j, j < c → ∀ e, C j = cAct e → EntOk N T e) (sg : SgN C 0 0 c l)
    (hQ1 : l.length ≤ 200 → ∀ h', SmH h h' → h'.1 84 2 = iI (l.length : Nat) → h'.1 84 4 = iI (-1) → (∀ k e, l[k]? = some e → ∃ j, j < c ∧ C j = cAct e ∧ h'.2 86 k = iI (j : Nat)) → Q none h')
    (hQ0 : ∀ e j h', l[200]? = some e → SmH h h' → j < c → C j = cAct e → h'.1 84 4 = iI (j : Nat) → Q none h') : SC y_Sched_unroll [.ref 84, .ref 79] h Q := by
  refine w_call IS_ok [19] ok_Sched_unroll rfl rfl ?_
  have s0 : SmH h (pg (pg (pg h 84 2 0) 84 3 0) 84 4 (-1)) := ((Sm.pg _ (by decide)).t (Sm.pg _ (by decide))).t (Sm.pg _ (by decide))
  refine unP_seg (h0 := pg (pg (pg h 84 2 0) 84 3 0) 84 4 (-1)) hc ((s0.1 _ _ (by decide)).trans h79) (fun j hj => (hcd j hj).row (s0.2 81 (by decide))) hok sg (Nat.le_refl _) (by omega) (pg (pg (pg h 84 2 0) 84 3 0) 84 4 (-1)) [] 0 _ _ (by decide) Sm.rf ⟨rfl, rfl, rfl, fun k e hk => by simp at hk⟩ (by omega) rfl rfl (fun hml h' r' w2 w3 hs hU hk hr hr' f2 f3 => ?_) (fun e j' h' he hs hj hC h4 => hQ0 e j' h' he (s0.t hs) hj hC h4)
  obtain ⟨u2', u3, u4, u5⟩ := hU
  rw [List.nil_append] at u2' u5
  have hml : l.length ≤ 200 := by simpa using hml
  refine w_loop IS_ok [] ok_Sched_unroll ?_
  have fin := hQ1 hml h' (s0.t hs) u2' u4 u5
  refine w_le 100000 r' (fun _ => fin) (fun _ => ?_) rfl f3 (by omega) (by have : ([] : List Ent).length = 0 := rfl; omega)
  exact w_le c c (fun _ => fin) (fun _ => by omega) ((hs.1 _ _ (by decide)).trans ((s0.1 _ _ (by decide)).trans h79)) f2
