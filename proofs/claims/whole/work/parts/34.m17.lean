/-- an act is noted behind its reading -/
def CoA (c i d m : Nat) (a : Nat → Int) (h h' : St) : Prop := h'.2 99 = u1 (h.2 99) c 0 ∧ h'.2 100 = u1 (h.2 100) c (iI i) ∧ h'.2 101 = u1 (h.2 101) c (iI (d + 1 : Nat)) ∧ ∃ w0 w1 w2 : Int32, h'.2 102 = u1 (h.2 102) c w0 ∧ h'.2 103 = u1 (h.2 103) c w1 ∧ h'.2 104 = u1 (h.2 104) c w2 ∧ (0 < m → w0 = iI (a 0)) ∧ (1 < m → w1 = iI (a 1)) ∧ (2 < m → w2 = iI (a 2))
theorem mat_b {n : Nat} {T : Nat → Nat} (hB : TxB n T) (i : Nat) : -1 ≤ (if i < n then (T i : Int) else -1) ∧ (if i < n then (T i : Int) else -1) ≤ 255 := by
  split
  · next h => have := hB.2 i h; omega
  · omega
theorem mat_c {n : Nat} {T : Nat → Nat} {i k : Nat} (hk : 0 < k) : ((if i < n then (T i : Int) else -1) = k) ↔ chr n T i = k := by
  unfold chr
  split <;> omega
abbrev SmS (h h' : St) : Prop := Sm [(90, 23), (90, 17), (90, 24)] [99, 100, 101, 102, 103, 104, 105, 107] h h'
abbrev SmU (h h' : St) : Prop := Sm [(90, 25), (90, 23), (90, 17), (90, 24)] [99, 100, 101, 102, 103, 104, 105, 107] h h'
abbrev SmD (h h' : St) : Prop := Sm [(90, 23), (90, 17)] [99, 100, 101, 102, 103, 104, 107] h h'
abbrev SmC (h h' : St) : Prop := Sm [(90, 25), (90, 21), (90, 23), (90, 17)] [108, 99, 100, 101, 102, 103, 104, 107] h h'
theorem of_ite1 {c : Prop} [Decidable c] (h : 1 = (if c then 1 else 0 : Nat)) : c := by
  split at h
  · assumption
  · cases h
theorem of_ite0 {c : Prop} [Decidable c] (h : 0 = (if c then 1 else 0 : Nat)) : ¬ c := by
  split at h
  · cases h
  · assumption
set_option maxHeartbeats 8000000 in
theorem c_M_readAct {n : Nat} {T : Nat → Nat} {h : St} {Q : Option Value → St → Prop} (hB : TxB n T) (i d c : Nat) (hR : RdS n T i d c h) (hi : i < n) (hc : c < 100) (hl : nArg (T i) ≤ 3) (hd : d ≤ 4) (a0 : Nat → Int)
    (hQF : ∀ f h', rdA (chr n T) (T i) (nArg (T i)) 0 (i + 1) a0 = .inl f → SmC h h' → Flt f d h' → Q none h')
    (hQ1 : ∀ p a h', rdA (chr n T) (T i) (nArg (T i)) 0 (i + 1) a0 = .inr (p, a) → SmD h h' → RdS n T p d (c + 1) h' → CoA c i d (nArg (T i)) a h h' → Q none h') : SC y_M_readAct [.ref 90] h Q := by
  refine w_call IS_ok [32] ok_M_readAct rfl rfl ?_
  have hn100 := hB.1
  have hTi := hB.2 i hi
  obtain ⟨hT, h23, h24, h17, h25⟩ := id hR
  refine c_M_at hT hB i (by omega) ?_ h23
  rw [if_pos hi]
  refine c_M_numbersOf (T i : Int) (by omega) ?_ rfl
  rw [Int.toNat_natCast, if_neg (by omega)]
  generalize hm : nArg (T i) = m at *
  generalize hres : rdA (chr n T) (T i) m 0 (i + 1) a0 = RES at *
  -- the end, behind a fault
  have dead : ∀ (f p : Nat) (hcc : St) (z4 : Int32) (L5 L6 : Option Value), RES = .inl f → SmC h hcc → MTx n T hcc → hcc.1 90 23 = iI p → p < 400 → hcc.1 90 17 = iI c → Flt f d hcc → SR y_M_readAct 181 [some (.ref 90), some (.int (h.1 90 23)), some (.int (iI (T i))), some (.int (iI m)), some (.int z4), L5, L6] [] hcc Q := by
    intro f p hcc z4 L5 L6 hr hsm hTc g23 hp g17 hF
    refine w_loop IS_ok [202] ok_M_readAct ?_
    have fin : SR y_M_readAct 202 [some (.ref 90), some (.int (h.1 90 23)), some (.int (iI (T i))), some (.int (iI m)), some (.int z4), L5, L6] [] hcc Q := by
      refine w_loop IS_ok [] ok_M_readAct ?_
      refine w_ix 0 ?_ rfl (show 0 < 3 by omega)
      refine w_ix 1 ?_ rfl (show 1 < 3 by omega)
      refine w_ix 2 ?_ rfl (show 2 < 3 by omega)
      refine c_M_code c hc (h := pf hcc 23 (hcc.1 90 23 + 1)) (by rw [pf_n _ _ _ (by decide)]; exact g17) (fun h' hs' _ _ _ _ _ _ _ => ?_)
      have hs2 : Sm [(90, 23), (90, 17)] [99, 100, 101, 102, 103, 104] hcc h' := (Sm.pf (Y := [99, 100, 101, 102, 103, 104]) _ (by decide)).t (hs'.mo (by decide) (by decide))
      exact hQF f h' hr (hsm.t (hs2.mo (by decide) (by decide))) ⟨by rw [hs2.1 _ _ (by decide)]; exact hF.1, hF.2.sm hs2 (by decide) (by decide)⟩
    have hb := mat_b hB p
    refine c_M_at hTc hB p (by omega) ?_ g23
    refine w_eq (if p < n then (T p : Int) else -1) 59 (fun _ => fin) (fun _ => ?_) rfl rfl
    exact c_M_wrong0 hF.1 fin
  have dead2 : ∀ (f p k : Nat) (hcc : St) (z4 : Int32) (L5 L6 : Option Value), RES = .inl f → SmC h hcc → MTx n T hcc → hcc.1 90 23 = iI p → p < 400 → hcc.1 90 17 = iI c → Flt f d hcc → z4 = iI k → k < 10 → SR y_M_readAct 32 [some (.ref 90), some (.int (h.1 90 23)), some (.int (iI (T i))), some (.int (iI m)), some (.int z4), L5, L6] [] hcc Q := by
    intro f p k hcc z4 L5 L6 hr hsm hTc g23 hp g17 hF e4 hk
    refine w_loop IS_ok [181] ok_M_readAct ?_
    refine w_le m k (fun _ => dead f p hcc _ _ _ hr hsm hTc g23 hp g17 hF) (fun _ => ?_) rfl e4
    exact w_if (fun _ => dead f p hcc _ _ _ hr hsm hTc g23 hp g17 hF) (fun g => absurd hF.1 g)
  -- the end, in good order
  have fin : ∀ (p : Nat) (a : Nat → Int) (hcc : St) (z4 : Int32) (L5 L6 : Option Value), rdA (chr n T) (T i) 0 m p a = RES → SmD h hcc → RdS n T p d c hcc → p < 300 → (∀ j, j < m → hcc.2 107 j = iI (a j)) → (hcc.2 99 = h.2 99 ∧ hcc.2 100 = h.2 100 ∧ hcc.2 101 = h.2 101 ∧ hcc.2 102 = h.2 102 ∧ hcc.2 103 = h.2 103 ∧ hcc.2 104 = h.2 104) → SR y_M_readAct 181 [some (.ref 90), some (.int (h.1 90 23)), some (.int (iI (T i))), some (.int (iI m)), some (.int z4), L5, L6] [] hcc Q := by
    intro p a hcc z4 L5 L6 hr hsm hRc hp hnum hsame
    obtain ⟨hTc, g23, g24, g17, g25⟩ := id hRc
    have hb := mat_b hB p
    refine w_loop IS_ok [202] ok_M_readAct ?_
    refine c_M_at hTc hB p (by omega) ?_ g23
    refine w_eq (if p < n then (T p : Int) else -1) 59 (fun g => ?_) (fun g => ?_) rfl rfl
    · have hch : chr n T p = 59 := (mat_c (by omega)).mp g
      have hr2 : RES = .inr (p + 1, a) := by rw [← hr]; unfold rdA; rw [if_pos hch]
      refine w_loop IS_ok [] ok_M_readAct ?_
      refine w_ix 0 ?_ rfl (show 0 < 3 by omega)
      refine w_ix 1 ?_ rfl (show 1 < 3 by omega)
      refine w_ix 2 ?_ rfl (show 2 < 3 by omega)
      have hRp := hRc.nx (x := hcc.1 90 23 + 1) (j := p + 1) (by rw [g23]; exact iI_1 rfl)
      refine c_M_code c hc (h := pf hcc 23 (hcc.1 90 23 + 1)) hRp.2.2.2.1 (fun h' hs' k17 k99 k100 k101 k102 k103 k104 => ?_)
      obtain ⟨s1, s2, s3, s4, s5, s6⟩ := hsame
      have hs2 : Sm [(90, 23), (90, 17)] [99, 100, 101, 102, 103, 104] hcc h' := (Sm.pf (Y := [99, 100, 101, 102, 103, 104]) _ (by decide)).t (hs'.mo (by decide) (by decide))
      refine hQ1 (p + 1) a h' hr2 (hsm.t (hs2.mo (by decide) (by decide))) ⟨hRp.1.sm hs' (by decide) (by decide), ?_, ?_, k17, ?_⟩ ⟨?_, ?_, ?_, hcc.2 107 0, hcc.2 107 1, hcc.2 107 2, ?_, ?_, ?_, fun z => hnum 0 z, fun z => hnum 1 z, fun z => hnum 2 z⟩
      · rw [hs'.1 _ _ (by decide)]; exact hRp.2.1
      · rw [hs'.1 _ _ (by decide)]; exact hRp.2.2.1
      · rw [hs'.1 _ _ (by decide)]; exact hRp.2.2.2.2
      · rw [k99]; exact congrArg (fun f => u1 f c (0 : Int32)) s1
      · rw [k100, h23]; exact congrArg (fun f => u1 f c (iI i)) s2
      · rw [k101, hRp.2.2.1, show iI (d : Int) + 1 = iI ((d + 1 : Nat) : Int) from iI_1 rfl]; exact congrArg (fun f => u1 f c (iI (d + 1 : Nat))) s3
      · rw [k102]; exact congrArg (fun f => u1 f c (hcc.2 107 0)) s4
      · rw [k103]; exact congrArg (fun f => u1 f c (hcc.2 107 1)) s5
      · rw [k104]; exact congrArg (fun f => u1 f c (hcc.2 107 2)) s6
    · have hch : ¬ chr n T p = 59 := fun z => g ((mat_c (n := n) (T := T) (i := p) (k := 59) (by omega)).mpr z)
      have hr2 : RES = .inl p := by rw [← hr]; unfold rdA; rw [if_neg hch]
      refine c_M_wrong p d g24 g25 (fun h' hs' hF => ?_) g23
      have hs2 : Sm [(90, 25), (90, 21)] [108] hcc h' := hs'
      refine w_loop IS_ok [] ok_M_readAct ?_
      refine w_ix 0 ?_ rfl (show 0 < 3 by omega)
      refine w_ix 1 ?_ rfl (show 1 < 3 by omega)
      refine w_ix 2 ?_ rfl (show 2 < 3 by omega)
      refine c_M_code c hc (h := pf h' 23 (h'.1 90 23 + 1)) (by rw [pf_n _ _ _ (by decide), hs2.1 _ _ (by decide)]; exact g17) (fun h'' hs'' _ _ _ _ _ _ _ => ?_)
      have hs3 : Sm [(90, 23), (90, 17)] [99, 100, 101, 102, 103, 104] h' h'' := (Sm.pf (Y := [99, 100, 101, 102, 103, 104]) _ (by decide)).t (hs''.mo (by decide) (by decide))
      exact hQF p h'' hr2 ((Sm.t (Sm.mo hsm (by decide) (by decide)) (hs2.mo (by decide) (by decide))).t (hs3.mo (by decide) (by decide))) ⟨by rw [hs3.1 _ _ (by decide)]; exact hF.1, hF.2.sm hs3 (by decide) (by decide)⟩
  -- the numbers
  have loop : ∀ (r k p : Nat) (a : Nat → Int) (hcc : St) (z4 : Int32) (L5 L6 : Option Value), k + r = m → rdA (chr n T) (T i) r k p a = RES → SmD h hcc → RdS n T p d c hcc → p ≤ i + 1 + 6 * k → (∀ j, j < k → hcc.2 107 j = iI (a j)) → (hcc.2 99 = h.2 99 ∧ hcc.2 100 = h.2 100 ∧ hcc.2 101 = h.2 101 ∧ hcc.2 102 = h.2 102 ∧ hcc.2 103 = h.2 103 ∧ hcc.2 104 = h.2 104) → z4 = iI k → SR y_M_readAct 32 [some (.ref 90), some (.int (h.1 90 23)), some (.int (iI (T i))), some (.int (iI m)), some (.int z4), L5, L6] [] hcc Q := by
    intro r
    induction r with
    | zero =>
      intro k p a hcc z4 L5 L6 hk hr hsm hRc hp hnum hsame e4
      refine w_loop IS_ok [181] ok_M_readAct ?_
      exact w_le m k (fun _ => fin p a hcc _ _ _ hr hsm hRc (by omega) (fun j hj => hnum j (by omega)) hsame) (fun _ => by omega) rfl e4
    | succ r ih =>
      intro k p a hcc z4 L5 L6 hk hr hsm hRc hp hnum hsame e4
      have hk3 : k < 3 := by omega
      -- behind the sign
      have al : ∀ (q b : Nat) (hc1 : St) (L5 L6 : Option Value), q = (if 0 < k then p + 1 else p) → (b = 0 ∨ b = 1) → b = (if T i = 109 ∧ 0 < k ∧ chr n T q = 45 then 1 else 0) → ¬ (0 < k ∧ chr n T p ≠ 44) → SmD h hc1 → RdS n T q d c hc1 → (∀ j, j < k → hc1.2 107 j = iI (a j)) → (hc1.2 99 = h.2 99 ∧ hc1.2 100 = h.2 100 ∧ hc1.2 101 = h.2 101 ∧ hc1.2 102 = h.2 102 ∧ hc1.2 103 = h.2 103 ∧ hc1.2 104 = h.2 104) → SR y_M_readAct 117 [some (.ref 90), some (.int (h.1 90 23)), some (.int (iI (T i))), some (.int (iI m)), some (.int z4), L5, L6] [.int (iI b)] hc1 Q := by
        intro q b hc1 L5 L6 hq hb hbe hsep hs1 hR1 hn1 hsa1
        have hqp : q ≤ p + 1 := by rw [hq]; split <;> omega
        have hr2 := hr
        unfold rdA at hr2
        rw [if_neg hsep, ← hq, ← hbe] at hr2
        have hR2 : RdS n T (q + b) d c (pf hc1 23 (hc1.1 90 23 + iI b)) := hR1.nx (by rw [hR1.2.1]; exact (iI_add _ _).trans (congrArg iI (by omega)))
        have hs2 : SmD h (pf hc1 23 (hc1.1 90 23 + iI b)) := hs1.t (Sm.pf _ (by decide))
        rcases hb with rfl | rfl
        · refine w_loop IS_ok [32] ok_M_readAct ?_
          refine w_if (fun z => absurd (show (1 : Int32) = 0 by rw [← hR2.2.2.2.2]; exact z) (by decide)) (fun _ => ?_)
          refine c_M_number hB (q + 0) d c hR2 (by omega) (fun h' hz hs' hF => ?_) (fun h' hz hs' hR' => ?_)
          · refine w_ix k ?_ e4 (show k < 3 by omega)
            rw [if_pos hz] at hr2
            have hsa : Sm [(90, 25), (90, 21)] [108] (pf hc1 23 (hc1.1 90 23 + iI 0)) h' := hs'
            refine dead2 (q + 0) (q + 0) (k + 1) (wa h' 107 k ((0 : Int32))) _ _ _ hr2.symm ((Sm.t (Sm.mo hs2 (by decide) (by decide)) (hsa.mo (by decide) (by decide))).t (Sm.wa _ _ (by decide))) ?_ ?_ (by omega) ?_ ⟨hF.1, hF.2.sm (Sm.wa (X := []) (Y := [107]) _ _ (by decide)) (by decide) (by decide)⟩ (iI_1 e4) (by omega)
            · exact (hR2.1.sm hsa (by decide) (by decide)).sm (Sm.wa (X := []) (Y := [107]) _ _ (by decide)) (by decide) (by decide)
            · exact (hsa.1 _ _ (by decide)).trans hR2.2.1
            · exact (hsa.1 _ _ (by decide)).trans hR2.2.2.2.1
          · refine w_ix k ?_ e4 (show k < 3 by omega)
            rw [if_neg hz] at hr2
            have hnd := nd_b (chr n T) (q + 0)
            refine ih (k + 1) (q + 0 + nd (chr n T) (q + 0)) _ (wa h' 107 k (iI (nv (chr n T) (q + 0)))) _ _ _ (by omega) hr2 ((hs2.t (hs'.mo (by decide) (by decide))).t (Sm.wa _ _ (by decide))) (hR'.sm (Sm.wa (Y := [107]) _ _ (by decide)) (by decide)) (by omega) (fun j hj => ?_) ?_ (iI_1 e4)
            · by_cases hjk : j = k
              · subst hjk
                rw [wa_s, u1_s]
                exact congrArg iI (by rw [if_neg (of_ite0 hbe)])
              · rw [wa_n _ _ _ _ hjk, u1_n _ _ hjk, hs'.2 _ (by decide)]
                exact hn1 j (by omega)
            · obtain ⟨s1, s2, s3, s4, s5, s6⟩ := hsa1
              exact ⟨(wa_o _ _ _ _ (by decide)).trans ((hs'.2 _ (by decide)).trans s1), (wa_o _ _ _ _ (by decide)).trans ((hs'.2 _ (by decide)).trans s2), (wa_o _ _ _ _ (by decide)).trans ((hs'.2 _ (by decide)).trans s3), (wa_o _ _ _ _ (by decide)).trans ((hs'.2 _ (by decide)).trans s4), (wa_o _ _ _ _ (by decide)).trans ((hs'.2 _ (by decide)).trans s5), (wa_o _ _ _ _ (by decide)).trans ((hs'.2 _ (by decide)).trans s6)⟩
        · refine w_loop IS_ok [32] ok_M_readAct ?_
          refine w_if (fun z => absurd (show (1 : Int32) = 0 by rw [← hR2.2.2.2.2]; exact z) (by decide)) (fun _ => ?_)
          refine c_M_number hB (q + 1) d c hR2 (by omega) (fun h' hz hs' hF => ?_) (fun h' hz hs' hR' => ?_)
          · refine w_ix k ?_ e4 (show k < 3 by omega)
            rw [if_pos hz] at hr2
            have hsa : Sm [(90, 25), (90, 21)] [108] (pf hc1 23 (hc1.1 90 23 + iI 1)) h' := hs'
            refine dead2 (q + 1) (q + 1) (k + 1) (wa h' 107 k (-(0 : Int32))) _ _ _ hr2.symm ((Sm.t (Sm.mo hs2 (by decide) (by decide)) (hsa.mo (by decide) (by decide))).t (Sm.wa _ _ (by decide))) ?_ ?_ (by omega) ?_ ⟨hF.1, hF.2.sm (Sm.wa (X := []) (Y := [107]) _ _ (by decide)) (by decide) (by decide)⟩ (iI_1 e4) (by omega)
            · exact (hR2.1.sm hsa (by decide) (by decide)).sm (Sm.wa (X := []) (Y := [107]) _ _ (by decide)) (by decide) (by decide)
            · exact (hsa.1 _ _ (by decide)).trans hR2.2.1
            · exact (hsa.1 _ _ (by decide)).trans hR2.2.2.2.1
          · refine w_ix k ?_ e4 (show k < 3 by omega)
            rw [if_neg hz] at hr2
            have hnd := nd_b (chr n T) (q + 1)
            refine ih (k + 1) (q + 1 + nd (chr n T) (q + 1)) _ (wa h' 107 k (-iI (nv (chr n T) (q + 1)))) _ _ _ (by omega) hr2 ((hs2.t (hs'.mo (by decide) (by decide))).t (Sm.wa _ _ (by decide))) (hR'.sm (Sm.wa (Y := [107]) _ _ (by decide)) (by decide)) (by omega) (fun j hj => ?_) ?_ (iI_1 e4)
            · by_cases hjk : j = k
              · subst hjk
                rw [wa_s, u1_s]
                exact (iI_neg _).trans (congrArg iI (by rw [if_pos (of_ite1 hbe)]))
              · rw [wa_n _ _ _ _ hjk, u1_n _ _ hjk, hs'.2 _ (by decide)]
                exact hn1 j (by omega)
            · obtain ⟨s1, s2, s3, s4, s5, s6⟩ := hsa1
              exact ⟨(wa_o _ _ _ _ (by decide)).trans ((hs'.2 _ (by decide)).trans s1), (wa_o _ _ _ _ (by decide)).trans ((hs'.2 _ (by decide)).trans s2), (wa_o _ _ _ _ (by decide)).trans ((hs'.2 _ (by decide)).trans s3), (wa_o _ _ _ _ (by decide)).trans ((hs'.2 _ (by decide)).trans s4), (wa_o _ _ _ _ (by decide)).trans ((hs'.2 _ (by decide)).trans s5), (wa_o _ _ _ _ (by decide)).trans ((hs'.2 _ (by decide)).trans s6)⟩
      -- from the place of the number on
      have at81 : ∀ (q : Nat) (hc1 : St) (L5 L6 : Option Value), q = (if 0 < k then p + 1 else p) → ¬ (0 < k ∧ chr n T p ≠ 44) → SmD h hc1 → RdS n T q d c hc1 → (∀ j, j < k → hc1.2 107 j = iI (a j)) → (hc1.2 99 = h.2 99 ∧ hc1.2 100 = h.2 100 ∧ hc1.2 101 = h.2 101 ∧ hc1.2 102 = h.2 102 ∧ hc1.2 103 = h.2 103 ∧ hc1.2 104 = h.2 104) → SR y_M_readAct 81 [some (.ref 90), some (.int (h.1 90 23)), some (.int (iI (T i))), some (.int (iI m)), some (.int z4), L5, L6] [] hc1 Q := by
        intro q hc1 L5 L6 hq hsep hs1 hR1 hn1 hsa1
        have hqp : q ≤ p + 1 := by rw [hq]; split <;> omega
        have hb := mat_b hB q
        refine w_loop IS_ok [117] ok_M_readAct ?_
        refine w_eq (T i) 109 (fun g1 => ?_) (fun g1 => ?_) rfl rfl
        · refine w_le k 0 (fun g2 => ?_) (fun g2 => ?_) e4 rfl
          · exact al q 0 hc1 _ _ hq (Or.inl rfl) (by rw [if_neg (by omega)]) hsep hs1 hR1 hn1 hsa1
          · refine w_if (fun z => absurd (show (1 : Int32) = 0 by rw [← hR1.2.2.2.2]; exact z) (by decide)) (fun _ => ?_)
            refine c_M_at hR1.1 hB q (by omega) ?_ hR1.2.1
            refine w_eq (if q < n then (T q : Int) else -1) 45 (fun g3 => ?_) (fun g3 => ?_) rfl rfl
            · exact al q 1 hc1 _ _ hq (Or.inr rfl) (by rw [if_pos ⟨by omega, by omega, (mat_c (n := n) (T := T) (i := q) (k := 45) (by omega)).mp g3⟩]) hsep hs1 hR1 hn1 hsa1
            · exact al q 0 hc1 _ _ hq (Or.inl rfl) (by rw [if_neg (fun z => g3 ((mat_c (n := n) (T := T) (i := q) (k := 45) (by omega)).mpr z.2.2))]) hsep hs1 hR1 hn1 hsa1
        · exact al q 0 hc1 _ _ hq (Or.inl rfl) (by rw [if_neg (by omega)]) hsep hs1 hR1 hn1 hsa1
      -- behind a fault
      have d117 : ∀ (f q : Nat) (hc1 : St) (L5 L6 : Option Value), RES = .inl f → SmC h hc1 → MTx n T hc1 → hc1.1 90 23 = iI q → q < 390 → hc1.1 90 17 = iI c → Flt f d hc1 → SR y_M_readAct 117 [some (.ref 90), some (.int (h.1 90 23)), some (.int (iI (T i))), some (.int (iI m)), some (.int z4), L5, L6] [.int 0] hc1 Q := by
        intro f q hc1 L5 L6 hre hs1 hT1 g23 hq g17 hF
        refine w_loop IS_ok [32] ok_M_readAct ?_
        refine w_if (fun _ => ?_) (fun z => absurd hF.1 z)
        refine w_ix k ?_ e4 (show k < 3 by omega)
        have hs2 : Sm [(90, 23)] [107] hc1 (wa (pf hc1 23 (hc1.1 90 23 + 0)) 107 k 0) := (Sm.pf _ (by decide)).t (Sm.wa _ _ (by decide))
        refine dead2 f q (k + 1) (wa (pf hc1 23 (hc1.1 90 23 + 0)) 107 k 0) _ _ _ hre (hs1.t (hs2.mo (by decide) (by decide))) (hT1.sm hs2 (by decide) (by decide)) ?_ (by omega) ?_ ⟨?_, hF.2.sm hs2 (by decide) (by decide)⟩ (iI_1 e4) (by omega)
        · exact (pf_s hc1 23 (hc1.1 90 23 + 0)).trans (by rw [g23]; exact (iI_add q 0).trans (congrArg iI (by omega)))
        · rw [hs2.1 _ _ (by decide)]; exact g17
        · rw [hs2.1 _ _ (by decide)]; exact hF.1
      have d81 : ∀ (f q : Nat) (hc1 : St) (L5 L6 : Option Value), RES = .inl f → SmC h hc1 → MTx n T hc1 → hc1.1 90 23 = iI q → q < 390 → hc1.1 90 17 = iI c → Flt f d hc1 → SR y_M_readAct 81 [some (.ref 90), some (.int (h.1 90 23)), some (.int (iI (T i))), some (.int (iI m)), some (.int z4), L5, L6] [] hc1 Q := by
        intro f q hc1 L5 L6 hre hs1 hT1 g23 hq g17 hF
        refine w_loop IS_ok [117] ok_M_readAct ?_
        refine w_eq (T i) 109 (fun g1 => ?_) (fun g1 => d117 f q hc1 _ _ hre hs1 hT1 g23 hq g17 hF) rfl rfl
        refine w_le k 0 (fun g2 => d117 f q hc1 _ _ hre hs1 hT1 g23 hq g17 hF) (fun g2 => ?_) e4 rfl
        exact w_if (fun _ => d117 f q hc1 _ _ hre hs1 hT1 g23 hq g17 hF) (fun z => absurd hF.1 z)
      refine w_loop IS_ok [81, 181] ok_M_readAct ?_
      refine w_le m k (fun _ => by omega) (fun _ => ?_) rfl e4
      obtain ⟨hTc, g23, g24, g17, g25⟩ := id hRc
      refine w_if (fun z => absurd (show (1 : Int32) = 0 by rw [← g25]; exact z) (by decide)) (fun _ => ?_)
      refine w_le k 0 (fun g => at81 p hcc _ _ (by rw [if_neg (by omega)]) (by omega) hsm hRc hnum hsame) (fun g => ?_) e4 rfl
      have hb := mat_b hB p
      refine c_M_at hTc hB p (by omega) ?_ g23
      refine w_eq (if p < n then (T p : Int) else -1) 44 (fun g2 => ?_) (fun g2 => ?_) rfl rfl
      · have hch : chr n T p = 44 := (mat_c (n := n) (T := T) (i := p) (k := 44) (by omega)).mp g2
        have hRp := hRc.nx (x := hcc.1 90 23 + 1) (j := p + 1) (by rw [g23]; exact iI_1 rfl)
        exact at81 (p + 1) (pf hcc 23 (hcc.1 90 23 + 1)) _ _ (by rw [if_pos (by omega)]) (fun z => z.2 hch) (hsm.t (Sm.pf _ (by decide))) hRp hnum hsame
      · have hch : ¬ chr n T p = 44 := fun z => g2 ((mat_c (n := n) (T := T) (i := p) (k := 44) (by omega)).mpr z)
        refine c_M_wrong p d g24 g25 (fun h' hs' hF => ?_) g23
        have hs2 : Sm [(90, 25), (90, 21), (90, 23)] [108] hcc (pf h' 23 (h'.1 90 23 + 1)) := (Sm.mo hs' (by decide) (by decide)).t (Sm.pf _ (by decide))
        have e23 : h'.1 90 23 = iI p := (hs'.1 _ _ (by decide)).trans g23
        refine d81 p (p + 1) (pf h' 23 (h'.1 90 23 + 1)) _ _ ?_ (Sm.t (Sm.mo hsm (by decide) (by decide)) (hs2.mo (by decide) (by decide))) (hTc.sm hs2 (by decide) (by decide)) ?_ (by omega) ?_ ⟨?_, hF.2.sm (Sm.pf (X := [(90, 23)]) (Y := []) _ (by decide)) (by decide) (by decide)⟩
        · rw [← hr]; unfold rdA; rw [if_pos ⟨by omega, hch⟩]
        · rw [pf_s, e23]; exact iI_1 rfl
        · rw [hs2.1 _ _ (by decide)]; exact g17
        · rw [pf_n _ _ _ (by decide)]; exact hF.1
  have hR0 := hR.nx (x := h.1 90 23 + 1) (j := i + 1) (by rw [h23]; exact iI_1 rfl)
  exact loop m 0 (i + 1) a0 (pf h 23 (h.1 90 23 + 1)) _ _ _ (by omega) hres (Sm.pf _ (by decide)) hR0 (by omega) (fun j hj => by omega) ⟨rfl, rfl, rfl, rfl, rfl, rfl⟩ rfl
