/-! a play is run -/
theorem actC_v (c : Nat) (a : Nat → Int) (S : Nat → Int) : actC c a S = 0 ∨ actC c a S = -101 ∨ actC c a S = -103 := by
  unfold actC
  split
  · split <;> simp
  · split
    · split <;> simp
    · split
      · split <;> simp
      · split
        · split <;> simp
        · split <;> simp
abbrev letr (T : Nat → Nat) (e : Ent) : Nat := T e.1
theorem c_M_runAct_1 {n : Nat} {T : Nat → Nat} {x1 x2 : Int32} {h : St} {Q : Option Value → St → Prop} (hB : TxB n T) (e : Ent) (he : EntOk n T e) (j m : Nat) (hj : j < 100) (hm : m ≤ 200) (hcd : CdR T h j (cAct e))
    (hQ0 : ∀ h', m = 200 → Sm [(90, 25), (90, 21)] [108] h h' → h'.1 90 25 = 0 → MFl 1 (fG 3 e.1 e.2.1 0 (-109)) h' → Q (some (.int (iI 200))) h')
    (hQ1 : m < 200 → Q (some (.int (iI (m + 1 : Nat)))) h) (h1 : x1 = iI j) (h2 : x2 = iI m) : SC y_M_runAct [.ref 90, .int x1, .int x2, .int 1] h Q := by
  refine w_call IS_ok [] ok_M_runAct rfl rfl ?_
  have hn100 := hB.1
  obtain ⟨c0, c1, c2, c3, c4, c5⟩ := hcd
  refine w_ix j ?_ h1 (show j < 100 from hj)
  refine w_ix e.1 ?_ c1 (show e.1 < 100 by have := he.1; omega)
  refine w_eq m 200 (fun g => ?_) (fun g => ?_) h2 rfl
  · refine w_ix j ?_ h1 (show j < 100 from hj)
    refine w_ix j ?_ h1 (show j < 100 from hj)
    refine c_M_fail 3 e.1 e.2.1 0 (-109) (fun h' hs h25 hF => ?_) rfl c1 c2 rfl rfl
    have := hQ0 h' (by omega) hs h25 hF
    rw [h2, show (m : Int) = 200 by omega]
    exact this
  · have := hQ1 (by omega)
    rw [← iI_1 h2] at this
    exact this
set_option maxHeartbeats 1000000 in
theorem c_M_runAct_0 {n : Nat} {T : Nat → Nat} {S : Nat → Int} {x1 x2 : Int32} {h : St} {Q : Option Value → St → Prop} (hB : TxB n T) (hT : MTx n T h) (hS : MS S h) (hW : WF S) (e : Ent) (he : EntOk n T e) (j m : Nat) (hj : j < 100) (hm : m < 200) (hcd : CdR T h j (cAct e))
    (hQ0 : ∀ h', actC (T e.1) e.2.2 S < 0 → Sm [(90, 25), (90, 21)] [108] h h' → h'.1 90 25 = 0 → MFl 1 (fG 2 e.1 e.2.1 m (actC (T e.1) e.2.2 S)) h' → Q (some (.int (iI m))) h')
    (hQ1 : ∀ h' S', 0 ≤ actC (T e.1) e.2.2 S → Sm [] [98, 96, 91] h h' → MS S' h' → Eqv (actS (T e.1) e.2.2 S) S' → Q (some (.int (iI (m + 1 : Nat)))) h') (h1 : x1 = iI j) (h2 : x2 = iI m) : SC y_M_runAct [.ref 90, .int x1, .int x2, .int 0] h Q := by
  refine w_call IS_ok [] ok_M_runAct rfl rfl ?_
  have hn100 := hB.1
  obtain ⟨e1, e2, e3, e4⟩ := id he
  obtain ⟨c0, c1, c2, c3, c4, c5⟩ := hcd
  refine w_ix j ?_ h1 (show j < 100 from hj)
  refine w_ix e.1 ?_ c1 (show e.1 < 100 by omega)
  refine w_eq m 200 (fun g => by omega) (fun g => ?_) h2 rfl
  refine w_ix j ?_ h1 (show j < 100 from hj)
  refine w_ix j ?_ h1 (show j < 100 from hj)
  refine w_ix j ?_ h1 (show j < 100 from hj)
  refine c_M_codeOf hS hW (T e.1) e.2.2 e2 e4 ?_ (hT.2 _ e1) c3 c4 c5
  have hv := actC_v (T e.1) e.2.2 S
  refine w_le 0 (actC (T e.1) e.2.2 S) (fun g => ?_) (fun g => ?_) rfl rfl
  · refine w_ix j ?_ h1 (show j < 100 from hj)
    refine w_ix j ?_ h1 (show j < 100 from hj)
    refine w_ix j ?_ h1 (show j < 100 from hj)
    refine c_M_carry hS hW (T e.1) e.2.2 e2 g (fun h' S' r hs hM hE hr => ?_) (hT.2 _ e1) c3 c4 c5
    refine w_le 0 r (fun g2 => ?_) (fun g2 => by omega) rfl rfl
    have := hQ1 h' S' g hs hM hE
    rw [← iI_1 h2] at this
    exact this
  · refine w_ix j ?_ h1 (show j < 100 from hj)
    refine w_ix j ?_ h1 (show j < 100 from hj)
    refine c_M_fail 2 e.1 e.2.1 m (actC (T e.1) e.2.2 S) (fun h' hs h25 hF => ?_) rfl c1 c2 h2 rfl
    have := hQ0 h' g hs h25 hF
    rw [h2]
    exact this
