theorem mvS_n {S : Nat → Int} {p i : Nat} {x y : Int} (h : i ≠ 26 + 9 * p) (h1 : i ≠ 26 + 9 * p + 1) : mvS S p x y i = S i := by
  unfold mvS
  rw [u1_n _ _ h1, u1_n _ _ h]
theorem wp_mv {S : Nat → Int} (hW : WP S) {p : Nat} {x y : Int} (hx : -15 ≤ x ∧ x ≤ 63) (hy : -15 ≤ y ∧ y ≤ 47) : WP (mvS S p x y) := by
  intro q hq
  have h := hW q hq
  rw [mvS_n (i := 5) (by omega) (by omega), mvS_n (i := 26 + 9 * q + 2) (by omega) (by omega), mvS_n (i := 26 + 9 * q + 3) (by omega) (by omega), mvS_n (i := 26 + 9 * q + 4) (by omega) (by omega), mvS_n (i := 26 + 9 * q + 5) (by omega) (by omega), mvS_n (i := 26 + 9 * q + 6) (by omega) (by omega), mvS_n (i := 26 + 9 * q + 7) (by omega) (by omega), mvS_n (i := 26 + 9 * q + 8) (by omega) (by omega)]
  by_cases hqp : q = p
  · subst hqp
    refine ⟨?_, ?_, h.2.2⟩
    · unfold mvS; rw [u1_n _ _ (by omega), u1_s]; exact hx
    · unfold mvS; rw [u1_s]; exact hy
  · rw [mvS_n (i := 26 + 9 * q) (by omega) (by omega), mvS_n (i := 26 + 9 * q + 1) (by omega) (by omega)]
    exact h
abbrev SmA (h h' : St) : Prop := Sm [(90, 0), (90, 4)] [98, 96, 93, 91] h h'
theorem smA0 {h h' : St} (a : Sm [(90, 0)] [] h h') : SmA h h' := a.mo (by decide) (by decide)
theorem smA1 {h h' : St} (a : Sm [(90, 4)] [93] h h') : SmA h h' := a.mo (by decide) (by decide)
theorem smA2 {h h' : St} (a : Sm [] [91] h h') : SmA h h' := a.mo (by decide) (by decide)
theorem smA3 {h h' : St} (a : Sm [] [98, 96, 91] h h') : SmA h h' := a.mo (by decide) (by decide)
theorem mh91 {n : Nat} {H : Nat → Nat → Int} {h h' : St} (hH : MH n H h) (a : Sm [] [91] h h') : MH n H h' := hH.sm a (by decide) (by decide)
/-- a new puppet -/
def cmS (S : Nat → Int) (x y t g c : Int) : Nat → Int :=
  u1 (u1 (u1 (u1 (u1 (u1 (u1 (u1 S 0 (S 0 + 1)) (6 + (S 1).toNat) (S 0)) 1 (S 1 + 1)) (26 + 9 * (S 0).toNat) x) (26 + 9 * (S 0).toNat + 1) y) (26 + 9 * (S 0).toNat + 2) t) (26 + 9 * (S 0).toNat + 3) g) (26 + 9 * (S 0).toNat + 4) c
theorem MS_zero {S : Nat → Int} {h : St} (hS : MS S h) {i : Nat} (hi : S i = 0) : MS S (wa h 91 i 0) := by
  intro j
  by_cases hj : j = i
  · rw [hj, wa_s, hi]; rfl
  · rw [wa_n _ _ _ _ hj]; exact hS j
set_option maxHeartbeats 4000000 in
theorem c_M_come {S : Nat → Int} {n : Nat} {H : Nat → Nat → Int} {x1 x2 x3 x4 x5 : Int32} {h : St} {Q : Option Value → St → Prop} (hS : MS S h) (hW : WF S) (hH : MH n H h) (hn : n ≤ 5) (x y t g c : Int)
    (hQ0 : ∀ h', Sm [(90, 0)] [] h h' → ¬ (((-15 ≤ x ∧ x ≤ 63) ∧ (-15 ≤ y ∧ y ≤ 47)) ∧ (0 ≤ t ∧ t ≤ 1) ∧ (0 ≤ g ∧ g ≤ 7) ∧ (1 ≤ c ∧ c ≤ 9)) → Q (some (.int (-101))) h')
    (hQ1 : ∀ h', Sm [(90, 0)] [] h h' → (((-15 ≤ x ∧ x ≤ 63) ∧ (-15 ≤ y ∧ y ≤ 47)) ∧ (0 ≤ t ∧ t ≤ 1) ∧ (0 ≤ g ∧ g ≤ 7) ∧ (1 ≤ c ∧ c ≤ 9)) → S 0 = 20 → Q (some (.int (-103))) h')
    (hQ2 : ∀ h', (((-15 ≤ x ∧ x ≤ 63) ∧ (-15 ≤ y ∧ y ≤ 47)) ∧ (0 ≤ t ∧ t ≤ 1) ∧ (0 ≤ g ∧ g ≤ 7) ∧ (1 ≤ c ∧ c ≤ 9)) → S 0 ≠ 20 → MPd S n H (cmS S x y t g c) h h' → Q (some (.int (iI (S 0)))) h')
    (h1 : x1 = iI x) (h2 : x2 = iI y) (h3 : x3 = iI t) (h4 : x4 = iI g) (h5 : x5 = iI c) (rx : rg x) (ry : rg y) (rt : rg t) (rgg : rg g) (rc : rg c) : SC y_M_come [.ref 90, .int x1, .int x2, .int x3, .int x4, .int x5] h Q := by
  refine w_call IS_ok [112] ok_M_come rfl rfl ?_
  have s0 : Sm [(90, 0)] [] h (pf h 0 0) := Sm.pf _ (by decide)
  refine c_M_isPlace x y ?_ h1 h2 rx ry
  refine w_b (fun g1 => hQ0 _ s0 (fun z => g1 z.1)) (fun g1 => ?_)
  refine c_M_in t 0 1 ?_ h3 rfl rfl rt (by omega) (by omega)
  refine w_b (fun g2 => hQ0 _ s0 (fun z => g2 z.2.1)) (fun g2 => ?_)
  refine c_M_in g 0 7 ?_ h4 rfl rfl rgg (by omega) (by omega)
  refine w_b (fun g3 => hQ0 _ s0 (fun z => g3 z.2.2.1)) (fun g3 => ?_)
  refine c_M_in c 1 9 ?_ h5 rfl rfl rc (by omega) (by omega)
  refine w_b (fun g4 => hQ0 _ s0 (fun z => g4 z.2.2.2)) (fun g4 => ?_)
  have hM0 := hS.sm s0 (by decide)
  obtain ⟨hn1, hn2, hs1, hs2, hs3⟩ := hW.n
  refine w_ix 0 (w_eq (S 0) 20 (fun g5 => ?_) (fun g5 => ?_) (hM0 0)) rfl (show 0 < 270 by omega)
  · exact hQ1 _ s0 ⟨g1, g2, g3, g4⟩ g5
  refine c_M_act hM0 (hH.sm s0 (by decide) (by decide)) hn (fun h6 hs6 hH6 => ?_)
  have hM6 := hM0.sm hs6 (by decide)
  obtain ⟨p, hp⟩ : ∃ p : Nat, S 0 = p := ⟨(S 0).toNat, by omega⟩
  have hp20 : p < 20 := by omega
  have hpt : (S 0).toNat = p := by omega
  have hz := hW.2.2.2.2.2.2.2.2.2.2.2 p hp20 (by omega)
  refine w_ix 0 ?_ rfl (show 0 < 270 by omega)
  refine w_ix 0 ?_ rfl (show 0 < 270 by omega)
  refine w_ix 0 ?_ rfl (show 0 < 270 by omega)
  have e0 : h6.2 91 0 = iI p := by rw [hM6, hp]
  have hM7 : MS (u1 S 0 (S 0 + 1)) (wa h6 91 0 (h6.2 91 0 + 1)) := by rw [hM6, show iI (S 0) + 1 = iI (S 0 + 1) from iI_add _ 1]; exact hM6.wa _ _
  have en : (wa h6 91 0 (h6.2 91 0 + 1)).2 91 1 = iI (S 1) := by rw [wa_n _ _ _ _ (by omega)]; exact hM6 1
  refine w_ix 1 ?_ rfl (show 1 < 270 by omega)
  refine w_ix (6 + (S 1).toNat) ?_ (by
    show (6 : Int32) + (wa h6 91 0 (h6.2 91 0 + 1)).2 91 1 = _
    rw [en]; exact (iI_add 6 _).trans (congrArg iI (by omega))) (show 6 + (S 1).toNat < 270 by omega)
  have hM8 : MS (u1 (u1 S 0 (S 0 + 1)) (6 + (S 1).toNat) (S 0)) (wa (wa h6 91 0 (h6.2 91 0 + 1)) 91 (6 + (S 1).toNat) (h6.2 91 0)) := by rw [hM6 0] at hM7 ⊢; exact hM7.wa _ _
  refine w_ix 1 ?_ rfl (show 1 < 270 by omega)
  refine w_ix 1 ?_ rfl (show 1 < 270 by omega)
  have hM9 : MS (u1 (u1 (u1 S 0 (S 0 + 1)) (6 + (S 1).toNat) (S 0)) 1 (S 1 + 1)) (wa (wa (wa h6 91 0 (h6.2 91 0 + 1)) 91 (6 + (S 1).toNat) (h6.2 91 0)) 91 1 ((wa (wa h6 91 0 (h6.2 91 0 + 1)) 91 (6 + (S 1).toNat) (h6.2 91 0)).2 91 1 + 1)) := by
    rw [hM8 1, u1_n _ _ (by omega), u1_n _ _ (by omega), show iI (S 1) + 1 = iI (S 1 + 1) from iI_add _ 1]
    exact hM8.wa _ _
  have hsm9 : Sm [] [91] h6 (wa (wa (wa h6 91 0 (h6.2 91 0 + 1)) 91 (6 + (S 1).toNat) (h6.2 91 0)) 91 1 ((wa (wa h6 91 0 (h6.2 91 0 + 1)) 91 (6 + (S 1).toNat) (h6.2 91 0)).2 91 1 + 1)) := ((Sm.wa _ _ (by decide)).t (Sm.wa _ _ (by decide))).t (Sm.wa _ _ (by decide))
  generalize hT : u1 (u1 (u1 S 0 (S 0 + 1)) (6 + (S 1).toNat) (S 0)) 1 (S 1 + 1) = T at *
  have hTz : ∀ j, j < 9 → T (26 + 9 * p + j) = 0 := fun j hj => by
    rw [← hT, u1_n _ _ (by omega), u1_n _ _ (by omega), u1_n _ _ (by omega)]
    exact hz j hj
  have loop : ∀ (m k : Nat), 10 ≤ k + m → k ≤ 9 → ∀ (hc : St) (z : Int32), Sm [] [91] h6 hc → MS T hc → z = iI k → SR y_M_come 112 [some (.ref 90), some (.int x1), some (.int x2), some (.int x3), some (.int x4), some (.int x5), some (.int (h6.2 91 0)), some (.int z)] [] hc Q := by
    intro m
    induction m with
    | zero => intro k g1 g2; omega
    | succ m ih =>
      intro k q1 q2 hc z hsm hM ez
      refine w_loop IS_ok [112] ok_M_come ?_
      refine w_le 9 k (fun q3 => ?_) (fun q3 => ?_) rfl ez
      · subst h1; subst h2; subst h3; subst h4; subst h5
        refine c_M_put' p 0 ?_ e0 rfl hp20 (by omega)
        refine c_M_put' p 1 ?_ e0 rfl hp20 (by omega)
        refine c_M_put' p 2 ?_ e0 rfl hp20 (by omega)
        refine c_M_put' p 3 ?_ e0 rfl hp20 (by omega)
        refine c_M_put' p 4 ?_ e0 rfl hp20 (by omega)
        have hfin : MS (cmS S x y t g c) (wa (wa (wa (wa (wa hc 91 (26 + 9 * p + 0) (iI x)) 91 (26 + 9 * p + 1) (iI y)) 91 (26 + 9 * p + 2) (iI t)) 91 (26 + 9 * p + 3) (iI g)) 91 (26 + 9 * p + 4) (iI c)) := by
          unfold cmS
          rw [hpt, hT]
          exact ((((hM.wa _ _).wa _ _).wa _ _).wa _ _).wa _ _
        have hsf : Sm [] [91] h6 (wa (wa (wa (wa (wa hc 91 (26 + 9 * p + 0) (iI x)) 91 (26 + 9 * p + 1) (iI y)) 91 (26 + 9 * p + 2) (iI t)) 91 (26 + 9 * p + 3) (iI g)) 91 (26 + 9 * p + 4) (iI c)) := ((((hsm.t (Sm.wa _ _ (by decide))).t (Sm.wa _ _ (by decide))).t (Sm.wa _ _ (by decide))).t (Sm.wa _ _ (by decide))).t (Sm.wa _ _ (by decide))
        have := hQ2 _ ⟨g1, g2, g3, g4⟩ g5 ⟨((smA0 s0).t (smA1 hs6)).t (smA2 hsf), hfin, mh91 hH6 hsf⟩
        rw [hp, ← e0] at this
        exact this
      · refine c_M_put' p k ?_ e0 ez hp20 (by omega)
        exact ih (k + 1) (by omega) (by omega) _ _ (hsm.t (Sm.wa _ _ (by decide))) (MS_zero hM (hTz k (by omega))) (iI_1 ez)
  exact loop 10 0 (by omega) (by omega) _ _ hsm9 hM9 rfl
theorem c_M_leave {S : Nat → Int} {n : Nat} {H : Nat → Nat → Int} {x1 : Int32} {h : St} {Q : Option Value → St → Prop} (hS : MS S h) (hW : WF S) (hH : MH n H h) (hn : n ≤ 5) (p : Int)
    (hQ0 : ∀ h', Sm [(90, 0)] [] h h' → ¬ thr S p → Q (some (.int (-101))) h')
    (hQ1 : ∀ h' S' (q : Nat), thr S p → pos S p (S 1).toNat = q → q < (S 1).toNat → ROrd S ((S 1).toNat - 1) (outO (od S) q) S' → MPd S n H S' h h' → Q (some (.int (iI q))) h') (h1 : x1 = iI p) (rp : rg p) : SC y_M_leave [.ref 90, .int x1] h Q := by
  refine w_call IS_ok [] ok_M_leave rfl rfl ?_
  have s0 : Sm [(90, 0)] [] h (pf h 0 0) := Sm.pf _ (by decide)
  have hM0 := hS.sm s0 (by decide)
  refine c_M_isThere hM0 hW p ?_ h1 rp
  refine w_b (fun g1 => hQ0 _ s0 g1) (fun g1 => ?_)
  refine c_M_act hM0 (hH.sm s0 (by decide) (by decide)) hn (fun h6 hs6 hH6 => ?_)
  have hM6 := hM0.sm hs6 (by decide)
  refine c_M_positionOf hM6 hW p ?_ h1 rp
  obtain ⟨q, hq⟩ : ∃ q : Nat, pos S p (S 1).toNat = q := ⟨(pos S p (S 1).toNat).toNat, by have := pos_b S p (S 1).toNat; omega⟩
  have hqa := pos_at hq
  rw [hq]
  refine c_M_takeOut hM6 hW q hqa.1 (fun h7 S' hs7 hM7 hR => ?_) rfl
  exact hQ1 h7 S' q g1 hq hqa.1 hR ⟨((smA0 s0).t (smA1 hs6)).t (smA2 hs7), hM7, mh91 hH6 hs7⟩
theorem c_M_move {S : Nat → Int} {n : Nat} {H : Nat → Nat → Int} {x1 x2 x3 : Int32} {h : St} {Q : Option Value → St → Prop} (hS : MS S h) (hW : WF S) (hH : MH n H h) (hn : n ≤ 5) (p x y : Int)
    (hQ0 : ∀ h', Sm [(90, 0)] [] h h' → ¬ (thr S p ∧ (-15 ≤ x ∧ x ≤ 63) ∧ (-15 ≤ y ∧ y ≤ 47)) → Q (some (.int (-101))) h')
    (hQ1 : ∀ h', (thr S p ∧ (-15 ≤ x ∧ x ≤ 63) ∧ (-15 ≤ y ∧ y ≤ 47)) → MPd S n H (mvS S p.toNat x y) h h' → Q (some (.int (iI (lns (mvS S p.toNat x y) p.toNat 48)))) h') (h1 : x1 = iI p) (h2 : x2 = iI x) (h3 : x3 = iI y) (rp : rg p) (rx : rg x) (ry : rg y) : SC y_M_move [.ref 90, .int x1, .int x2, .int x3] h Q := by
  refine w_call IS_ok [] ok_M_move rfl rfl ?_
  have s0 : Sm [(90, 0)] [] h (pf h 0 0) := Sm.pf _ (by decide)
  have hM0 := hS.sm s0 (by decide)
  refine c_M_moveCode hM0 hW p x y ?_ h1 h2 h3 rp rx ry
  by_cases hc : thr S p ∧ (-15 ≤ x ∧ x ≤ 63) ∧ (-15 ≤ y ∧ y ≤ 47)
  · rw [if_pos hc]
    refine c_M_act hM0 (hH.sm s0 (by decide) (by decide)) hn (fun h6 hs6 hH6 => ?_)
    have hM6 := hM0.sm hs6 (by decide)
    have hb := thr_b hW hc.1
    refine c_M_moveNow hM6 p.toNat x y (wp_mv hW.wp hc.2.1 hc.2.2) (by omega) (fun h7 hs7 hM7 => ?_) (by rw [h1]; exact congrArg iI (by omega)) h2 h3
    exact hQ1 h7 hc ⟨((smA0 s0).t (smA1 hs6)).t (smA2 hs7), hM7, mh91 hH6 hs7⟩
  · rw [if_neg hc]
    exact hQ0 _ s0 hc
theorem c_M_turn {S : Nat → Int} {n : Nat} {H : Nat → Nat → Int} {x1 x2 : Int32} {h : St} {Q : Option Value → St → Prop} (hS : MS S h) (hW : WF S) (hH : MH n H h) (hn : n ≤ 5) (p f : Int)
    (hQ0 : ∀ h', Sm [(90, 0)] [] h h' → ¬ (thr S p ∧ (0 ≤ f ∧ f ≤ 3)) → Q (some (.int (-101))) h')
    (hQ1 : ∀ h', (thr S p ∧ (0 ≤ f ∧ f ≤ 3)) → MPd S n H (u1 S (26 + 9 * p.toNat + 5) f) h h' → Q (some (.int (iI (S (26 + 9 * p.toNat + 5))))) h') (h1 : x1 = iI p) (h2 : x2 = iI f) (rp : rg p) (rf : rg f) : SC y_M_turn [.ref 90, .int x1, .int x2] h Q := by
  refine w_call IS_ok [] ok_M_turn rfl rfl ?_
  have s0 : Sm [(90, 0)] [] h (pf h 0 0) := Sm.pf _ (by decide)
  have hM0 := hS.sm s0 (by decide)
  refine c_M_turnCode hM0 hW p f ?_ h1 h2 rp rf
  by_cases hc : thr S p ∧ (0 ≤ f ∧ f ≤ 3)
  · rw [if_pos hc]
    refine c_M_act hM0 (hH.sm s0 (by decide) (by decide)) hn (fun h6 hs6 hH6 => ?_)
    have hM6 := hM0.sm hs6 (by decide)
    have hb := thr_b hW hc.1
    refine c_M_turnNow hM6 p.toNat f (by omega) (fun h7 hs7 hM7 => ?_) (by rw [h1]; exact congrArg iI (by omega)) h2
    exact hQ1 h7 hc ⟨((smA0 s0).t (smA1 hs6)).t (smA2 hs7), hM7, mh91 hH6 hs7⟩
  · rw [if_neg hc]
    exact hQ0 _ s0 hc
theorem c_M_lift {S : Nat → Int} {n : Nat} {H : Nat → Nat → Int} {x1 : Int32} {h : St} {Q : Option Value → St → Prop} (hS : MS S h) (hW : WF S) (hH : MH n H h) (hn : n ≤ 5) (p : Int)
    (hQ0 : ∀ h', Sm [(90, 0)] [] h h' → ¬ thr S p → Q (some (.int (-101))) h')
    (hQ1 : ∀ h' S' (q : Nat), thr S p → pos S p (S 1).toNat = q → q < (S 1).toNat → ROrd S (S 1).toNat (lftO (od S) q) S' → MPd S n H S' h h' → Q (some (.int (iI q))) h') (h1 : x1 = iI p) (rp : rg p) : SC y_M_lift [.ref 90, .int x1] h Q := by
  refine w_call IS_ok [] ok_M_lift rfl rfl ?_
  have s0 : Sm [(90, 0)] [] h (pf h 0 0) := Sm.pf _ (by decide)
  have hM0 := hS.sm s0 (by decide)
  refine c_M_thereCode hM0 hW p ?_ h1 rp
  by_cases hc : thr S p
  · rw [if_pos hc]
    refine c_M_act hM0 (hH.sm s0 (by decide) (by decide)) hn (fun h6 hs6 hH6 => ?_)
    have hM6 := hM0.sm hs6 (by decide)
    refine c_M_liftNow hM6 hW p hc (fun h7 S' q hs7 hM7 hq hq2 hR => ?_) h1
    exact hQ1 h7 S' q hc hq hq2 hR ⟨((smA0 s0).t (smA1 hs6)).t (smA2 hs7), hM7, mh91 hH6 hs7⟩
  · rw [if_neg hc]
    exact hQ0 _ s0 hc
theorem c_M_lower {S : Nat → Int} {n : Nat} {H : Nat → Nat → Int} {x1 : Int32} {h : St} {Q : Option Value → St → Prop} (hS : MS S h) (hW : WF S) (hH : MH n H h) (hn : n ≤ 5) (p : Int)
    (hQ0 : ∀ h', Sm [(90, 0)] [] h h' → ¬ thr S p → Q (some (.int (-101))) h')
    (hQ1 : ∀ h' S' (q : Nat), thr S p → pos S p (S 1).toNat = q → q < (S 1).toNat → ROrd S (S 1).toNat (lowO (od S) q (S 1).toNat) S' → MPd S n H S' h h' → Q (some (.int (iI q))) h') (h1 : x1 = iI p) (rp : rg p) : SC y_M_lower [.ref 90, .int x1] h Q := by
  refine w_call IS_ok [] ok_M_lower rfl rfl ?_
  have s0 : Sm [(90, 0)] [] h (pf h 0 0) := Sm.pf _ (by decide)
  have hM0 := hS.sm s0 (by decide)
  refine c_M_thereCode hM0 hW p ?_ h1 rp
  by_cases hc : thr S p
  · rw [if_pos hc]
    refine c_M_act hM0 (hH.sm s0 (by decide) (by decide)) hn (fun h6 hs6 hH6 => ?_)
    have hM6 := hM0.sm hs6 (by decide)
    refine c_M_lowerNow hM6 hW p hc (fun h7 S' q hs7 hM7 hq hq2 hR => ?_) h1
    exact hQ1 h7 S' q hc hq hq2 hR ⟨((smA0 s0).t (smA1 hs6)).t (smA2 hs7), hM7, mh91 hH6 hs7⟩
  · rw [if_neg hc]
    exact hQ0 _ s0 hc
theorem c_M_setLimit {S : Nat → Int} {n : Nat} {H : Nat → Nat → Int} {x1 : Int32} {h : St} {Q : Option Value → St → Prop} (hS : MS S h) (hH : MH n H h) (hn : n ≤ 5) (l : Int)
    (hQ0 : ∀ h', Sm [(90, 0)] [] h h' → ¬ (1 ≤ l ∧ l ≤ 8) → Q (some (.int (-101))) h')
    (hQ1 : ∀ h', (1 ≤ l ∧ l ≤ 8) → MPd S n H (u1 S 2 l) h h' → Q (some (.int (iI (S 2)))) h') (h1 : x1 = iI l) (rl : rg l) : SC y_M_setLimit [.ref 90, .int x1] h Q := by
  refine w_call IS_ok [] ok_M_setLimit rfl rfl ?_
  have s0 : Sm [(90, 0)] [] h (pf h 0 0) := Sm.pf _ (by decide)
  have hM0 := hS.sm s0 (by decide)
  refine c_M_limitCode l ?_ h1 rl
  by_cases hc : 1 ≤ l ∧ l ≤ 8
  · rw [if_pos hc]
    refine c_M_act hM0 (hH.sm s0 (by decide) (by decide)) hn (fun h6 hs6 hH6 => ?_)
    have hM6 := hM0.sm hs6 (by decide)
    refine c_M_limitNow hM6 l (fun h7 hs7 hM7 => ?_) h1
    exact hQ1 h7 hc ⟨((smA0 s0).t (smA1 hs6)).t (smA2 hs7), hM7, mh91 hH6 hs7⟩
  · rw [if_neg hc]
    exact hQ0 _ s0 hc
theorem c_M_setRule {S : Nat → Int} {n : Nat} {H : Nat → Nat → Int} {x1 x2 : Int32} {h : St} {Q : Option Value → St → Prop} (hS : MS S h) (hH : MH n H h) (hn : n ≤ 5) (a b : Int)
    (hQ0 : ∀ h', Sm [(90, 0)] [] h h' → ¬ ((0 ≤ a ∧ a ≤ 2) ∧ (1 ≤ b ∧ b ≤ 19)) → Q (some (.int (-101))) h')
    (hQ1 : ∀ h', ((0 ≤ a ∧ a ≤ 2) ∧ (1 ≤ b ∧ b ≤ 19)) → MPd S n H (u1 (u1 S 3 a) 4 b) h h' → Q (some (.int (iI (S 3)))) h') (h1 : x1 = iI a) (h2 : x2 = iI b) (ra : rg a) (rb : rg b) : SC y_M_setRule [.ref 90, .int x1, .int x2] h Q := by
  refine w_call IS_ok [] ok_M_setRule rfl rfl ?_
  have s0 : Sm [(90, 0)] [] h (pf h 0 0) := Sm.pf _ (by decide)
  have hM0 := hS.sm s0 (by decide)
  refine c_M_in a 0 2 ?_ h1 rfl rfl ra (by omega) (by omega)
  refine w_b (fun g1 => hQ0 _ s0 (fun z => g1 z.1)) (fun g1 => ?_)
  refine c_M_in b 1 19 ?_ h2 rfl rfl rb (by omega) (by omega)
  refine w_b (fun g2 => hQ0 _ s0 (fun z => g2 z.2)) (fun g2 => ?_)
  refine c_M_act hM0 (hH.sm s0 (by decide) (by decide)) hn (fun h6 hs6 hH6 => ?_)
  have hM6 := hM0.sm hs6 (by decide)
  refine w_ix 3 ?_ rfl (show 3 < 270 by omega)
  refine w_ix 3 ?_ rfl (show 3 < 270 by omega)
  refine w_ix 4 ?_ rfl (show 4 < 270 by omega)
  have hsf : Sm [] [91] h6 (wa (wa h6 91 3 x1) 91 4 x2) := (Sm.wa _ _ (by decide)).t (Sm.wa _ _ (by decide))
  have := hQ1 (wa (wa h6 91 3 x1) 91 4 x2) ⟨g1, g2⟩ ⟨((smA0 s0).t (smA1 hs6)).t (smA2 hsf), by rw [h1, h2]; exact (hM6.wa _ _).wa _ _, mh91 hH6 hsf⟩
  rw [← hM6 3] at this
  exact this
theorem c_M_frame {S : Nat → Int} {n : Nat} {H : Nat → Nat → Int} {h : St} {Q : Option Value → St → Prop} (hS : MS S h) (hW : WF S) (hH : MH n H h) (hn : n ≤ 5)
    (hQ0 : ∀ h', Sm [(90, 0)] [] h h' → S 5 = 9999 → Q (some (.int (-103))) h')
    (hQ1 : ∀ h' S', S 5 ≠ 9999 → RFr S S' → MPd S n H S' h h' → Q (some (.int (iI (hidN S)))) h') : SC y_M_frame [.ref 90] h Q := by
  refine w_call IS_ok [] ok_M_frame rfl rfl ?_
  have s0 : Sm [(90, 0)] [] h (pf h 0 0) := Sm.pf _ (by decide)
  have hM0 := hS.sm s0 (by decide)
  refine c_M_frameCode hM0 hW ?_
  by_cases hc : S 5 = 9999
  · rw [if_pos hc]
    exact hQ0 _ s0 hc
  · rw [if_neg hc]
    refine c_M_act hM0 (hH.sm s0 (by decide) (by decide)) hn (fun h6 hs6 hH6 => ?_)
    have hM6 := hM0.sm hs6 (by decide)
    refine c_M_frameNow hM6 hW (fun h7 S' hs7 hM7 hR => ?_)
    exact hQ1 h7 S' hc hR ⟨((smA0 s0).t (smA1 hs6)).t (smA3 hs7), hM7, hH6.sm hs7 (by decide) (by decide)⟩
