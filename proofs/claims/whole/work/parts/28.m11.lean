/-! the reference's answers that change nothing -/
def MTx (n : Nat) (T : Nat → Nat) (h : St) : Prop := h.1 90 6 = iI n ∧ ∀ i, i < n → h.2 94 i = iI (T i)
def MFl (f : Nat) (G : Nat → Int) (h : St) : Prop := h.1 90 21 = iI f ∧ ∀ j, j < 5 → h.2 108 j = iI (G j)
theorem MTx.sm {n : Nat} {T : Nat → Nat} {X : List (Nat × Nat)} {Y : List Nat} {h h' : St} (hT : MTx n T h) (a : Sm X Y h h') (hx : (90, 6) ∉ X) (hy : 94 ∉ Y) : MTx n T h' := ⟨by rw [a.1 _ _ hx]; exact hT.1, fun i hi => by rw [a.2 94 hy]; exact hT.2 i hi⟩
theorem MFl.sm {f : Nat} {G : Nat → Int} {X : List (Nat × Nat)} {Y : List Nat} {h h' : St} (hT : MFl f G h) (a : Sm X Y h h') (hx : (90, 21) ∉ X) (hy : 108 ∉ Y) : MFl f G h' := ⟨by rw [a.1 _ _ hx]; exact hT.1, fun i hi => by rw [a.2 108 hy]; exact hT.2 i hi⟩
def FaiR (f : Nat) (G : Nat → Int) (w r : Int) : Prop := (¬ (0 ≤ w ∧ w ≤ 4) ∧ r = -101) ∨ ((0 ≤ w ∧ w ≤ 4) ∧ ((f = 0 ∧ r = -109) ∨ (f = 1 ∧ r = G w.toNat)))
theorem c_M_failure {f : Nat} {G : Nat → Int} {x1 : Int32} {h : St} {Q : Option Value → St → Prop} (hF : MFl f G h) (hf : f ≤ 1) (w : Int) (hQ : ∀ h' r, Sm [(90, 0)] [] h h' → FaiR f G w r → Q (some (.int (iI r))) h') (h1 : x1 = iI w) (rw : rg w) : SC y_M_failure [.ref 90, .int x1] h Q := by
  refine w_call IS_ok [] ok_M_failure rfl rfl ?_
  have s0 : Sm [(90, 0)] [] h (pf h 0 0) := Sm.pf _ (by decide)
  refine c_M_in w 0 4 ?_ h1 rfl rfl rw (by omega) (by omega)
  refine w_b (fun g1 => hQ _ _ s0 (Or.inl ⟨g1, rfl⟩)) (fun g1 => ?_)
  have hF0 := hF.sm s0 (by decide) (by decide)
  refine w_eq f 0 (fun g2 => ?_) (fun g2 => ?_) hF0.1 rfl
  · exact hQ _ _ s0 (Or.inr ⟨g1, Or.inl ⟨by omega, rfl⟩⟩)
  · refine w_ix w.toNat ?_ (by rw [h1]; exact congrArg iI (by omega)) (show w.toNat < 5 by omega)
    have := hQ _ _ s0 (Or.inr ⟨g1, Or.inr ⟨by omega, rfl⟩⟩)
    rw [← hF0.2 w.toNat (by omega)] at this
    exact this
noncomputable def adt (S : Nat → Int) (n : Nat) : Nat := sm (fun y : Nat => dts S y 64) n
theorem c_M_allDots {S : Nat → Int} {h : St} {Q : Option Value → St → Prop} (hS : MS S h) (hW : WF S) (hQ : Q (some (.int (iI (adt S 48)))) h) : SC y_M_allDots [.ref 90] h Q := by
  refine w_call IS_ok [4] ok_M_allDots rfl rfl ?_
  have loop : ∀ (m k : Nat), 49 ≤ k + m → k ≤ 48 → ∀ v w : Int32, v = iI (adt S k) → w = iI k → SR y_M_allDots 4 [some (.ref 90), some (.int v), some (.int w)] [] h Q := by
    intro m
    induction m with
    | zero => intro k h1 h2; omega
    | succ m ih =>
      intro k h1 h2 v w hv hw
      refine w_loop IS_ok [4] ok_M_allDots ?_
      refine w_le 48 k (fun h3 => ?_) (fun h3 => ?_) rfl hw
      · have : k = 48 := by omega
        subst this
        rw [← hv] at hQ
        exact hQ
      · refine c_M_dotsOn hS hW k ?_ hw (by omega)
        refine ih (k + 1) (by omega) (by omega) _ _ ?_ (iI_1 hw)
        rw [hv, iI_add]
        exact congrArg iI (by simp only [adt, sm]; omega)
  exact loop 49 0 (by omega) (by omega) _ _ rfl rfl
/-- what count answers -/
def CntR (S : Nat → Int) (hn len : Nat) (w r : Int) : Prop := (w = 0 ∧ r = S 1) ∨ (w = 1 ∧ r = S 0) ∨ (w = 2 ∧ r = S 2) ∨ (w = 3 ∧ r = S 3) ∨ (w = 4 ∧ r = S 4) ∨ (w = 5 ∧ r = S 5) ∨ (w = 6 ∧ r = hidN S) ∨ (w = 7 ∧ r = adt S 48) ∨ (w = 8 ∧ HerR S (S 1).toNat r) ∨ (w = 9 ∧ r = hn) ∨ (w = 10 ∧ r = len) ∨ (¬ (0 ≤ w ∧ w ≤ 10) ∧ r = -101)
theorem c_M_hid {S : Nat → Int} {h : St} {Q : Option Value → St → Prop} (hS : MS S h) (hW : WF S) (hQ : ∀ (h' : St) (w : Nat), Sm [] [98] h h' → w < 2 ^ 20 → (∀ p, p < 20 → w.testBit p = hdd S p) → (∀ p, p < 20 → h'.2 98 p = iI (hT S (od S) (S 1).toNat 48 p)) → Q (some (.int (nI w))) h') : SC y_M_hidden [.ref 90, .ref 91, .int 6] h Q := by
  obtain ⟨hn1, hn2, -⟩ := hW.n
  have hlim := hW.lim
  exact c_M_hidden_91 hS hW.wp (S 1).toNat (od S) hn1 hn2 (by omega) (fun k hk => (hW.od hk).2.1) (fun k hk => by rw [hS]; exact congrArg iI (hW.od hk).1) hQ rfl
set_option maxHeartbeats 4000000 in
theorem c_M_count {S : Nat → Int} {hn len : Nat} {H : Nat → Nat → Int} {T : Nat → Nat} {x1 : Int32} {h : St} {Q : Option Value → St → Prop} (hS : MS S h) (hW : WF S) (hH : MH hn H h) (hT : MTx len T h) (w : Int) (hQ : ∀ h' r, Sm [(90, 0)] [98] h h' → CntR S hn len w r → Q (some (.int (iI r))) h') (h1 : x1 = iI w) (rw : rg w) : SC y_M_count [.ref 90, .int x1] h Q := by
  refine w_call IS_ok [] ok_M_count rfl rfl ?_
  have s0 : Sm [(90, 0)] [98] h (pf h 0 0) := Sm.pf _ (by decide)
  have hM := hS.sm s0 (by decide)
  have rd : ∀ i, CntR S hn len w (S i) → Q (some (.int ((pf h 0 0).2 91 i))) (pf h 0 0) := fun i hi => by
    have := hQ _ _ s0 hi
    rwa [← hM i] at this
  refine w_eq w 0 (fun g => w_ix 1 (rd 1 (Or.inl ⟨g, rfl⟩)) rfl (show 1 < 270 by omega)) (fun g0 => ?_) h1 rfl
  refine w_eq w 1 (fun g => w_ix 0 (rd 0 (Or.inr (Or.inl ⟨g, rfl⟩))) rfl (show 0 < 270 by omega)) (fun g1 => ?_) h1 rfl
  refine w_eq w 2 (fun g => w_ix 2 (rd 2 (Or.inr (Or.inr (Or.inl ⟨g, rfl⟩)))) rfl (show 2 < 270 by omega)) (fun g2 => ?_) h1 rfl
  refine w_eq w 3 (fun g => w_ix 3 (rd 3 (Or.inr (Or.inr (Or.inr (Or.inl ⟨g, rfl⟩))))) rfl (show 3 < 270 by omega)) (fun g3 => ?_) h1 rfl
  refine w_eq w 4 (fun g => w_ix 4 (rd 4 (Or.inr (Or.inr (Or.inr (Or.inr (Or.inl ⟨g, rfl⟩)))))) rfl (show 4 < 270 by omega)) (fun g4 => ?_) h1 rfl
  refine w_eq w 5 (fun g => w_ix 5 (rd 5 (Or.inr (Or.inr (Or.inr (Or.inr (Or.inr (Or.inl ⟨g, rfl⟩))))))) rfl (show 5 < 270 by omega)) (fun g5 => ?_) h1 rfl
  refine w_eq w 6 (fun g => ?_) (fun g6 => ?_) h1 rfl
  · refine c_M_hid hM hW (fun h2 v hs2 hv hb _ => ?_)
    refine c_M_ones v ?_ hv
    rw [show onesN v 20 = hidN S from sm_congr (fun p hp => by rw [hb p hp])]
    exact hQ _ _ (s0.t (hs2.mo (by decide) (by decide))) (Or.inr (Or.inr (Or.inr (Or.inr (Or.inr (Or.inr (Or.inl ⟨g, rfl⟩)))))))
  refine w_eq w 7 (fun g => ?_) (fun g7 => ?_) h1 rfl
  · exact c_M_allDots hM hW (hQ _ _ s0 (Or.inr (Or.inr (Or.inr (Or.inr (Or.inr (Or.inr (Or.inr (Or.inl ⟨g, rfl⟩)))))))))
  refine w_eq w 8 (fun g => ?_) (fun g8 => ?_) h1 rfl
  · exact c_M_hero hM hW (fun r hr => hQ _ _ s0 (Or.inr (Or.inr (Or.inr (Or.inr (Or.inr (Or.inr (Or.inr (Or.inr (Or.inl ⟨g, hr⟩))))))))))
  refine w_eq w 9 (fun g => ?_) (fun g9 => ?_) h1 rfl
  · have := hQ _ _ s0 (Or.inr (Or.inr (Or.inr (Or.inr (Or.inr (Or.inr (Or.inr (Or.inr (Or.inr (Or.inl ⟨g, rfl⟩))))))))))
    rw [← (hH.sm s0 (by decide) (by decide)).1] at this
    exact this
  refine w_eq w 10 (fun g => ?_) (fun g10 => ?_) h1 rfl
  · have := hQ _ _ s0 (Or.inr (Or.inr (Or.inr (Or.inr (Or.inr (Or.inr (Or.inr (Or.inr (Or.inr (Or.inr (Or.inl ⟨g, rfl⟩)))))))))))
    rw [← (hT.sm s0 (by decide) (by decide)).1] at this
    exact this
  exact hQ _ _ s0 (Or.inr (Or.inr (Or.inr (Or.inr (Or.inr (Or.inr (Or.inr (Or.inr (Or.inr (Or.inr (Or.inr ⟨by omega, rfl⟩)))))))))))
theorem hT_0 {S : Nat → Int} {o : Nat → Nat} {n p : Nat} (h : hT S o n 48 p = 0) : hT S o n 48 p = 0 := h
theorem c_M_hiddenLinesOf {S : Nat → Int} {x1 : Int32} {h : St} {Q : Option Value → St → Prop} (hS : MS S h) (hW : WF S) (p : Nat) (hp : p < 20) (hQ : ∀ h', Sm [] [98] h h' → Q (some (.int (iI (hT S (od S) (S 1).toNat 48 p)))) h') (h1 : x1 = iI p) : SC y_M_hiddenLinesOf [.ref 90, .int x1] h Q := by
  refine w_call IS_ok [] ok_M_hiddenLinesOf rfl rfl ?_
  refine c_M_hid hS hW (fun h2 v hs2 hv hb hl => ?_)
  refine w_eq v 0 (fun g => ?_) (fun g => ?_) rfl rfl
  · have h3 := hb p hp
    have hv0 : v = 0 := by omega
    rw [hv0, Nat.zero_testBit] at h3
    have h4 : ¬ 0 < hT S (od S) (S 1).toNat 48 p := fun z => by
      unfold hdd at h3
      rw [decide_eq_true z] at h3
      cases h3
    have := hQ h2 hs2
    rw [show hT S (od S) (S 1).toNat 48 p = 0 by omega] at this
    exact this
  · refine w_ix p ?_ h1 (show p < 20 from hp)
    have := hQ h2 hs2
    rw [← hl p hp] at this
    exact this
/-- what puppet answers -/
def PupR (S : Nat → Int) (p w r : Int) : Prop := (¬ (thr S p ∧ (0 ≤ w ∧ w ≤ 11)) ∧ r = -101) ∨ ((thr S p ∧ (0 ≤ w ∧ w ≤ 11)) ∧ ((w = 6 ∧ r = pos S p (S 1).toNat) ∨ (w = 7 ∧ r = lns S p.toNat 48) ∨ (w = 8 ∧ r = hT S (od S) (S 1).toNat 48 p.toNat) ∨ (8 < w ∧ r = S (26 + 9 * p.toNat + (w - 3).toNat)) ∨ (w < 6 ∧ r = S (26 + 9 * p.toNat + w.toNat))))
set_option maxHeartbeats 4000000 in
theorem c_M_puppet {S : Nat → Int} {x1 x2 : Int32} {h : St} {Q : Option Value → St → Prop} (hS : MS S h) (hW : WF S) (p w : Int) (hQ : ∀ h' r, Sm [(90, 0)] [98] h h' → PupR S p w r → Q (some (.int (iI r))) h') (h1 : x1 = iI p) (h2 : x2 = iI w) (rp : rg p) (rw : rg w) : SC y_M_puppet [.ref 90, .int x1, .int x2] h Q := by
  refine w_call IS_ok [] ok_M_puppet rfl rfl ?_
  have s0 : Sm [(90, 0)] [98] h (pf h 0 0) := Sm.pf _ (by decide)
  have hM := hS.sm s0 (by decide)
  refine c_M_isThere hM hW p ?_ h1 rp
  refine w_b (fun g1 => hQ _ _ s0 (Or.inl ⟨fun z => g1 z.1, rfl⟩)) (fun g1 => ?_)
  refine c_M_in w 0 11 ?_ h2 rfl rfl rw (by omega) (by omega)
  refine w_b (fun g2 => hQ _ _ s0 (Or.inl ⟨fun z => g2 z.2, rfl⟩)) (fun g2 => ?_)
  have hb := thr_b hW g1
  have e1 : x1 = iI p.toNat := by rw [h1]; exact congrArg iI (by omega)
  have hp : p.toNat < 20 := by omega
  refine w_eq w 6 (fun g => ?_) (fun g6 => ?_) h2 rfl
  · exact c_M_positionOf hM hW p (hQ _ _ s0 (Or.inr ⟨⟨g1, g2⟩, Or.inl ⟨g, rfl⟩⟩)) h1 rp
  refine w_eq w 7 (fun g => ?_) (fun g7 => ?_) h2 rfl
  · exact c_M_linesOf hM hW.wp p.toNat (hQ _ _ s0 (Or.inr ⟨⟨g1, g2⟩, Or.inr (Or.inl ⟨g, rfl⟩)⟩)) e1 hp
  refine w_eq w 8 (fun g => ?_) (fun g8 => ?_) h2 rfl
  · exact c_M_hiddenLinesOf hM hW p.toNat hp (fun h' hs' => hQ _ _ (s0.t (hs'.mo (by decide) (by decide))) (Or.inr ⟨⟨g1, g2⟩, Or.inr (Or.inr (Or.inl ⟨g, rfl⟩))⟩)) e1
  refine w_eq w 9 (fun g => ?_) (fun g9 => ?_) h2 rfl
  · exact c_M_of hM p.toNat 6 (hQ _ _ s0 (Or.inr ⟨⟨g1, g2⟩, Or.inr (Or.inr (Or.inr (Or.inl ⟨by omega, by subst g; rfl⟩)))⟩)) e1 rfl hp (by omega)
  refine w_eq w 10 (fun g => ?_) (fun g10 => ?_) h2 rfl
  · exact c_M_of hM p.toNat 7 (hQ _ _ s0 (Or.inr ⟨⟨g1, g2⟩, Or.inr (Or.inr (Or.inr (Or.inl ⟨by omega, by subst g; rfl⟩)))⟩)) e1 rfl hp (by omega)
  refine w_eq w 11 (fun g => ?_) (fun g11 => ?_) h2 rfl
  · exact c_M_of hM p.toNat 8 (hQ _ _ s0 (Or.inr ⟨⟨g1, g2⟩, Or.inr (Or.inr (Or.inr (Or.inl ⟨by omega, by subst g; rfl⟩)))⟩)) e1 rfl hp (by omega)
  exact c_M_of hM p.toNat w.toNat (hQ _ _ s0 (Or.inr ⟨⟨g1, g2⟩, Or.inr (Or.inr (Or.inr (Or.inr ⟨by omega, rfl⟩)))⟩)) e1 (by rw [h2]; exact congrArg iI (by omega)) hp (by omega)
/-- what line answers -/
def LinR (S : Nat → Int) (y w r : Int) : Prop := (¬ ((0 ≤ y ∧ y ≤ 47) ∧ (0 ≤ w ∧ w ≤ 2)) ∧ r = -101) ∨ (((0 ≤ y ∧ y ≤ 47) ∧ (0 ≤ w ∧ w ≤ 2)) ∧ ((w = 0 ∧ r = cn S (od S) y (S 1).toNat) ∨ (w = 2 ∧ r = dts S y 64) ∨ (w = 1 ∧ r = if (cn S (od S) y (S 1).toNat : Int) < S 2 then (cn S (od S) y (S 1).toNat : Int) else S 2)))
set_option maxHeartbeats 1000000 in
theorem c_M_line {S : Nat → Int} {x1 x2 : Int32} {h : St} {Q : Option Value → St → Prop} (hS : MS S h) (hW : WF S) (y w : Int) (hQ : ∀ h' r, Sm [(90, 0)] [] h h' → LinR S y w r → Q (some (.int (iI r))) h') (h1 : x1 = iI y) (h2 : x2 = iI w) (ry : rg y) (rw' : rg w) : SC y_M_line [.ref 90, .int x1, .int x2] h Q := by
  refine w_call IS_ok [] ok_M_line rfl rfl ?_
  have s0 : Sm [(90, 0)] [] h (pf h 0 0) := Sm.pf _ (by decide)
  have hM := hS.sm s0 (by decide)
  refine c_M_in y 0 47 ?_ h1 rfl rfl ry (by omega) (by omega)
  refine w_b (fun g1 => hQ _ _ s0 (Or.inl ⟨fun z => g1 z.1, rfl⟩)) (fun g1 => ?_)
  refine c_M_in w 0 2 ?_ h2 rfl rfl rw' (by omega) (by omega)
  refine w_b (fun g2 => hQ _ _ s0 (Or.inl ⟨fun z => g2 z.2, rfl⟩)) (fun g2 => ?_)
  refine c_M_standing hM hW y ?_ h1 ry
  have hcn := cn_le S (od S) y (S 1).toNat
  have hn := hW.n
  have hlim := hW.lim
  refine w_eq w 0 (fun g => hQ _ _ s0 (Or.inr ⟨⟨g1, g2⟩, Or.inl ⟨g, rfl⟩⟩)) (fun g3 => ?_) h2 rfl
  refine w_eq w 2 (fun g => c_M_dotsOn hM hW y (hQ _ _ s0 (Or.inr ⟨⟨g1, g2⟩, Or.inr (Or.inl ⟨g, rfl⟩)⟩)) h1 (by omega)) (fun g4 => ?_) h2 rfl
  refine w_ix 2 (w_le (S 2) (cn S (od S) y (S 1).toNat) (fun g5 => ?_) (fun g5 => ?_) (hM 2) rfl) rfl (show 2 < 270 by omega)
  · refine w_ix 2 ?_ rfl (show 2 < 270 by omega)
    have := hQ _ _ s0 (Or.inr ⟨⟨g1, g2⟩, Or.inr (Or.inr ⟨by omega, rfl⟩)⟩)
    rw [if_neg (by omega), ← hM 2] at this
    exact this
  · have := hQ _ _ s0 (Or.inr ⟨⟨g1, g2⟩, Or.inr (Or.inr ⟨by omega, rfl⟩)⟩)
    rw [if_pos g5] at this
    exact this
/-- what shown answers -/
def ShnR (S : Nat → Int) (y i r : Int) : Prop := (¬ ((0 ≤ y ∧ y ≤ 47) ∧ 0 ≤ i) ∧ r = -101) ∨ (((0 ≤ y ∧ y ≤ 47) ∧ 0 ≤ i) ∧ ShoR S y i r)
theorem c_M_shown {S : Nat → Int} {x1 x2 : Int32} {h : St} {Q : Option Value → St → Prop} (hS : MS S h) (hW : WF S) (y i : Int) (hQ : ∀ h' r, Sm [(90, 0)] [] h h' → ShnR S y i r → Q (some (.int (iI r))) h') (h1 : x1 = iI y) (h2 : x2 = iI i) (ry : rg y) (ri : rg i) : SC y_M_shown [.ref 90, .int x1, .int x2] h Q := by
  refine w_call IS_ok [] ok_M_shown rfl rfl ?_
  have s0 : Sm [(90, 0)] [] h (pf h 0 0) := Sm.pf _ (by decide)
  have hM := hS.sm s0 (by decide)
  refine c_M_in y 0 47 ?_ h1 rfl rfl ry (by omega) (by omega)
  refine w_b (fun g1 => hQ _ _ s0 (Or.inl ⟨fun z => g1 z.1, rfl⟩)) (fun g1 => ?_)
  refine w_le 0 i (fun g2 => ?_) (fun g2 => hQ _ _ s0 (Or.inl ⟨by omega, rfl⟩)) rfl h2
  exact c_M_shownOn hM hW y i (fun r hr => hQ _ _ s0 (Or.inr ⟨⟨g1, g2⟩, hr⟩)) h1 h2 ry ri
/-- what dot answers -/
def DotR (S : Nat → Int) (x y r : Int) : Prop := (¬ ((0 ≤ x ∧ x ≤ 63) ∧ (0 ≤ y ∧ y ≤ 47)) ∧ r = -101) ∨ (((0 ≤ x ∧ x ≤ 63) ∧ (0 ≤ y ∧ y ≤ 47)) ∧ ColR S x y r)
theorem c_M_dot {S : Nat → Int} {x1 x2 : Int32} {h : St} {Q : Option Value → St → Prop} (hS : MS S h) (hW : WF S) (x y : Int) (hQ : ∀ h' r, Sm [(90, 0)] [] h h' → DotR S x y r → Q (some (.int (iI r))) h') (h1 : x1 = iI x) (h2 : x2 = iI y) (rx : rg x) (ry : rg y) : SC y_M_dot [.ref 90, .int x1, .int x2] h Q := by
  refine w_call IS_ok [] ok_M_dot rfl rfl ?_
  have s0 : Sm [(90, 0)] [] h (pf h 0 0) := Sm.pf _ (by decide)
  have hM := hS.sm s0 (by decide)
  refine c_M_in x 0 63 ?_ h1 rfl rfl rx (by omega) (by omega)
  refine w_b (fun g1 => hQ _ _ s0 (Or.inl ⟨by omega, rfl⟩)) (fun g1 => ?_)
  refine c_M_in y 0 47 ?_ h2 rfl rfl ry (by omega) (by omega)
  refine w_b (fun g2 => hQ _ _ s0 (Or.inl ⟨by omega, rfl⟩)) (fun g2 => ?_)
  exact c_M_colorAt hM hW x y (fun c hc => hQ _ _ s0 (Or.inr ⟨⟨g1, g2⟩, hc⟩)) h1 h2 (by omega) (by omega)
