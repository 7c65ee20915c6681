/-! the class: a play is run -/
abbrev fl89 : List (Nat × Nat) := [(89, 0), (89, 1), (89, 2), (89, 3), (89, 4), (89, 5)]
theorem c_Fail_set {x1 x2 x3 x4 x5 : Int32} {h : St} {Q : Option Value → St → Prop} (k p d a c : Int) (hQ : ∀ h', Sm fl89 [] h h' → CF 1 (fG k p d a c) h' → Q none h') (h1 : x1 = iI k) (h2 : x2 = iI p) (h3 : x3 = iI d) (h4 : x4 = iI a) (h5 : x5 = iI c) : SC y_Fail_set [.ref 89, .int x1, .int x2, .int x3, .int x4, .int x5] h Q := by
  refine w_call IS_ok [] ok_Fail_set rfl rfl ?_
  refine ⟨Or.inr rfl, ?_⟩
  refine hQ (pg (pg (pg (pg (pg (pg h 89 0 1) 89 1 x1) 89 2 x2) 89 3 x3) 89 4 x4) 89 5 x5) ((((((Sm.pg _ (by decide)).t (Sm.pg _ (by decide))).t (Sm.pg _ (by decide))).t (Sm.pg _ (by decide))).t (Sm.pg _ (by decide))).t (Sm.pg _ (by decide))) ⟨rfl, fun _ j hj => ?_⟩
  have : j = 0 ∨ j = 1 ∨ j = 2 ∨ j = 3 ∨ j = 4 := by omega
  rcases this with rfl | rfl | rfl | rfl | rfl
  · exact h1
  · exact h2
  · exact h3
  · exact h4
  · exact h5
theorem c_P_failedAt {T : Nat → Nat} {x1 x2 x3 x4 : Int32} {h : St} {Q : Option Value → St → Prop} (e : Ent) (j : Nat) (hj : j < 100) (hcd : CdC T h j (cAct e)) (k a c : Int) (hQ : ∀ h', Sm fl89 [] h h' → CF 1 (fG k e.1 e.2.1 a c) h' → Q (some (.int (iI (-1000 - e.1)))) h') (h1 : x1 = iI (j : Nat)) (h2 : x2 = iI k) (h3 : x3 = iI a) (h4 : x4 = iI c) : SC y_P_failedAt [.ref 0, .int x1, .int x2, .int x3, .int x4] h Q := by
  refine w_call IS_ok [] ok_P_failedAt rfl rfl ?_
  refine c_Cells_get2 CA_80 j 1 (by omega) ?_ h1 rfl
  refine c_Cells_get2 CA_80 j 2 (by omega) ?_ h1 rfl
  refine c_Fail_set k e.1 e.2.1 a c (fun h' s' hF => ?_) h2 hcd.2.1 hcd.2.2.1 h3 h4
  have := hQ h' s' hF
  rw [← iI_sub, ← hcd.2.1] at this
  exact this
set_option maxHeartbeats 2000000 in
theorem c_P_perform {N : Nat} {T : Nat → Nat} {S : Nat → Int} {x1 : Int32} {h : St} {Q : Option Value → St → Prop} (hC : CS 1 S h) (hW : WF S) (e : Ent) (he : EntOk N T e) (j : Nat) (hj : j < 100) (hcd : CdC T h j (cAct e))
    (hQ0 : actC (T e.1) e.2.2 S < 0 → Q (some (.int (iI (actC (T e.1) e.2.2 S)))) h)
    (hQ1 : 0 ≤ actC (T e.1) e.2.2 S → ∀ h' (r : Int), Sm [(1, 5), (1, 8)] [5, 7, 17, 19] h h' → CS 1 (actS (T e.1) e.2.2 S) h' → 0 ≤ r → r < 1000 → Q (some (.int (iI r))) h') (h1 : x1 = iI (j : Nat)) : SC y_P_perform [.ref 0, .int x1] h Q := by
  obtain ⟨e1, e2, e3, e4⟩ := he
  obtain ⟨c0, c1, c2, c3⟩ := hcd
  have hn := hW.n
  refine w_call IS_ok [] ok_P_perform rfl rfl ?_
  refine c_Cells_get2 CA_80 j 3 (by omega) ?_ h1 rfl
  refine c_Cells_get2 CA_80 j 4 (by omega) ?_ h1 rfl
  refine c_Cells_get2 CA_80 j 0 (by omega) ?_ h1 rfl
  generalize T e.1 = ch at *
  generalize e.2.2 = a at *
  rcases nArg_c e2 with rfl | rfl | rfl | rfl | rfl | rfl
  · refine w_eq 102 100 (fun g => by omega) (fun _ => ?_) c0 rfl
    refine w_eq 102 102 (fun _ => ?_) (fun g => absurd rfl g) c0 rfl
    have ec : actC 102 a S = if S 5 = 9999 then -103 else 0 := rfl
    have h5 := hW.2.2.2.2.2.1
    refine c_Scene_makeFrame_1 hC hW.wg (by omega) 9999 (by omega) (fun g => ?_) (fun g h' s' c' _ => ?_) rfl
    · rw [ec, if_pos (by omega)] at hQ0
      exact hQ0 (by omega)
    · have hl := hidN_le S
      exact hQ1 (by rw [ec, if_neg (by omega)]; omega) h' _ (s'.mo (by decide) (by decide)) c' (by omega) (by omega)
  · refine w_eq 109 100 (fun g => by omega) (fun _ => ?_) c0 rfl
    refine w_eq 109 102 (fun g => by omega) (fun _ => ?_) c0 rfl
    refine w_eq 109 109 (fun _ => ?_) (fun g => absurd rfl g) c0 rfl
    refine c_Cells_get2 CA_80 j 5 (by omega) ?_ h1 rfl
    have ec : actC 109 a S = if thr S (a 0) ∧ (-15 ≤ a 1 ∧ a 1 ≤ 63) ∧ (-15 ≤ a 2 ∧ a 2 ≤ 47) then 0 else -101 := rfl
    refine c_Scene_relocate hC hW (a 0) (a 1) (a 2) (fun g => ?_) (fun g h' s' c' => ?_) (c3 0 (by decide)) (c3 1 (by decide)) (c3 2 (by decide)) (rg_s (e4 0 (by decide))) (rg_s (e4 1 (by decide))) (rg_s (e4 2 (by decide)))
    · rw [ec, if_neg g] at hQ0
      exact hQ0 (by omega)
    · have hl := lns_le (mvS S (a 0).toNat (a 1) (a 2)) (a 0).toNat 48
      exact hQ1 (by rw [ec, if_pos g]; omega) h' _ (s'.mo (by decide) (by decide)) c' (by omega) (by omega)
  · refine w_eq 116 100 (fun g => by omega) (fun _ => ?_) c0 rfl
    refine w_eq 116 102 (fun g => by omega) (fun _ => ?_) c0 rfl
    refine w_eq 116 109 (fun g => by omega) (fun _ => ?_) c0 rfl
    refine w_eq 116 116 (fun _ => ?_) (fun g => absurd rfl g) c0 rfl
    have ec : actC 116 a S = if thr S (a 0) ∧ (0 ≤ a 1 ∧ a 1 ≤ 3) then 0 else -101 := rfl
    refine c_Scene_flip hC hW (a 0) (a 1) (fun g => ?_) (fun g h' s' c' => ?_) (c3 0 (by decide)) (c3 1 (by decide)) (rg_s (e4 0 (by decide))) (rg_s (e4 1 (by decide)))
    · rw [ec, if_neg g] at hQ0
      exact hQ0 (by omega)
    · have hb := thr_b hW g.1
      have hw := (hW.wp (a 0).toNat (by omega)).2.2.2.2.2.1
      exact hQ1 (by rw [ec, if_pos g]; omega) h' _ (s'.mo (by decide) (by decide)) c' hw.1 (by omega)
  · refine w_eq 117 100 (fun g => by omega) (fun _ => ?_) c0 rfl
    refine w_eq 117 102 (fun g => by omega) (fun _ => ?_) c0 rfl
    refine w_eq 117 109 (fun g => by omega) (fun _ => ?_) c0 rfl
    refine w_eq 117 116 (fun g => by omega) (fun _ => ?_) c0 rfl
    refine w_eq 117 117 (fun _ => ?_) (fun g => absurd rfl g) c0 rfl
    have ec : actC 117 a S = if thr S (a 0) then 0 else -101 := rfl
    refine c_Scene_putFirst hC hW (a 0) (fun g => ?_) (fun g h' s' c' => ?_) (c3 0 (by decide)) (rg_s (e4 0 (by decide)))
    · rw [ec, if_neg g] at hQ0
      exact hQ0 (by omega)
    · have hp := thr_pos g
      exact hQ1 (by rw [ec, if_pos g]; omega) h' _ (s'.mo (by decide) (by decide)) c' (by omega) (by omega)
  · refine w_eq 100 100 (fun _ => ?_) (fun g => absurd rfl g) c0 rfl
    have ec : actC 100 a S = if thr S (a 0) then 0 else -101 := rfl
    refine c_Scene_putLast hC hW (a 0) (fun g => ?_) (fun g h' s' c' => ?_) (c3 0 (by decide)) (rg_s (e4 0 (by decide)))
    · rw [ec, if_neg g] at hQ0
      exact hQ0 (by omega)
    · have hp := thr_pos g
      exact hQ1 (by rw [ec, if_pos g]; omega) h' _ (s'.mo (by decide) (by decide)) c' (by omega) (by omega)
  · refine w_eq 108 100 (fun g => by omega) (fun _ => ?_) c0 rfl
    refine w_eq 108 102 (fun g => by omega) (fun _ => ?_) c0 rfl
    refine w_eq 108 109 (fun g => by omega) (fun _ => ?_) c0 rfl
    refine w_eq 108 116 (fun g => by omega) (fun _ => ?_) c0 rfl
    refine w_eq 108 117 (fun g => by omega) (fun _ => ?_) c0 rfl
    have ec : actC 108 a S = if 1 ≤ a 0 ∧ a 0 ≤ 8 then 0 else -101 := rfl
    have hlim := hW.lim
    refine c_Scene_changeLimit hC (a 0) (fun g => ?_) (fun g h' s' c' => ?_) (c3 0 (by decide)) (rg_s (e4 0 (by decide)))
    · rw [ec, if_neg g] at hQ0
      exact hQ0 (by omega)
    · exact hQ1 (by rw [ec, if_pos g]; omega) h' _ (s'.mo (by decide) (by decide)) c' (by omega) (by omega)
set_option maxHeartbeats 2000000 in
theorem c_P_performAll {N : Nat} {T : Nat → Nat} {S : Nat → Int} {n : Nat} {H : Nat → Nat → Int} {C : Nat → Cod} {c : Nat} {l : List Ent} {h : St} {Q : Option Value → St → Prop} (hC : CS 1 S h) (hW : WF S) (hH : CH n H h) (hn : n ≤ 5) (hc : c ≤ 100) (hcd : ∀ j, j < c → CdC T h j (C j)) (hok : ∀ j, j < c → ∀ e, C j = cAct e → EntOk N T e) (hl : l.length ≤ 200) (h84 : h.1 84 2 = iI (l.length : Nat)) (hrow : ∀ k e, l[k]? = some e → ∃ j, j < c ∧ C j = cAct e ∧ h.2 86 k = iI (j : Nat))
    (hQ0 : ∀ e k cd h', runF T l 0 S = .inl (e, k, cd) → (∀ o, (20 ≤ o ∧ o < 89) ∨ 90 ≤ o → h'.1 o = h.1 o ∧ h'.2 o = h.2 o) → CS 1 S h' → CF 1 (fG 2 e.1 e.2.1 k cd) h' → Q (some (.int (iI (-1000 - e.1)))) h')
    (hQ1 : ∀ S' h', runF T l 0 S = .inr S' → (∀ o, (20 ≤ o ∧ o < 38) ∨ 75 ≤ o → h'.1 o = h.1 o ∧ h'.2 o = h.2 o) → CS 1 S' h' → CH (psN n) (psH n H S) h' → Q (some (.int (iI (l.length : Nat)))) h') : SC y_P_performAll [.ref 0] h Q := by
  refine w_call IS_ok [13] ok_P_performAll rfl rfl ?_
  have hs20 := hW.n.2.1
  refine c_Scene_copyFrom_8_1 hC hs20 (fun hb s1 c8 => ?_)
  have f1 : Fr 1 20 h hb := s1.fr (by decide) (by decide)
  have loop : ∀ (m k : Nat) (Sk : Nat → Int) (hcc : St) (z1 : Int32) (L2 L3 : Option Value), l.length ≤ k + m → k ≤ l.length → Fr 1 20 h hcc → CS 1 Sk hcc → CS 8 S hcc → WF Sk → runF T l 0 S = runF T (l.drop k) k Sk → z1 = iI (k : Nat) → SR y_P_performAll 13 [some (.ref 0), some (.int z1), L2, L3] [] hcc Q := by
    have fin : ∀ (Sk : Nat → Int) (hcc : St) (z1 : Int32) (L2 L3 : Option Value), Fr 1 20 h hcc → CS 1 Sk hcc → CS 8 S hcc → runF T l 0 S = .inr Sk → SR y_P_performAll 72 [some (.ref 0), some (.int z1), L2, L3] [] hcc Q := by
      intro Sk hcc z1 L2 L3 fr c1 c8 hr
      refine w_loop IS_ok [] ok_P_performAll ?_
      refine c_Hist_record c8 hs20 (hH.fr fr (by omega)) hn (fun h' f' cH => ?_)
      have := hQ1 Sk h' hr (fun o ho => ⟨(f'.1 o (by omega)).trans (fr.1 o (by omega)), (f'.2 o (by omega)).trans (fr.2 o (by omega))⟩) (c1.fr f' (by omega)) cH
      have e : h'.1 84 2 = iI (l.length : Nat) := by rw [f'.1 84 (by omega), fr.1 84 (by omega)]; exact h84
      rw [← e] at this
      exact this
    intro m
    induction m with
    | zero =>
      intro k Sk hcc z1 L2 L3 hm hk fr c1 c8 hWk hr e1
      refine w_loop IS_ok [72] ok_P_performAll ?_
      rw [List.drop_eq_nil_of_le (by omega)] at hr
      refine w_le l.length k (fun _ => fin Sk hcc _ _ _ fr c1 c8 hr) (fun _ => by omega) (by rw [fr.1 84 (by omega)]; exact h84) e1
    | succ m ih =>
      intro k Sk hcc z1 L2 L3 hm hk fr c1 c8 hWk hr e1
      refine w_loop IS_ok [13, 72] ok_P_performAll ?_
      refine w_le l.length k (fun g => ?_) (fun g => ?_) (by rw [fr.1 84 (by omega)]; exact h84) e1
      · rw [List.drop_eq_nil_of_le (by omega)] at hr
        exact fin Sk hcc _ _ _ fr c1 c8 hr
      have hkl : k < l.length := by omega
      obtain ⟨j, j1, j2, j3⟩ := hrow k l[k] (List.getElem?_eq_getElem hkl)
      rw [List.drop_eq_getElem_cons hkl] at hr
      generalize l[k] = e at *
      refine c_Cells_get1 CA_85 k (by omega) ?_ e1
      have ej : hcc.2 86 k = iI (j : Nat) := by rw [fr.2 86 (by omega)]; exact j3
      have hcj := (hcd j j1).row (h' := hcc) (fr.2 81 (by omega))
      rw [j2] at hcj
      have hvv := actC_v (T e.1) e.2.2 Sk
      have hun : runF T (e :: l.drop (k + 1)) k Sk = if actC (T e.1) e.2.2 Sk < 0 then .inl (e, k, actC (T e.1) e.2.2 Sk) else runF T (l.drop (k + 1)) (k + 1) (actS (T e.1) e.2.2 Sk) := rfl
      rw [hun] at hr
      refine c_P_perform c1 hWk e (hok j j1 e j2) j (by omega) hcj (fun g2 => ?_) (fun g2 h' r s' c' r0 r1 => ?_) ej
      · rw [if_pos g2] at hr
        refine w_le 0 (actC (T e.1) e.2.2 Sk) (fun g3 => by omega) (fun _ => ?_) rfl rfl
        refine c_Scene_copyFrom_1_8 c8 hs20 (fun h2 s2 c2 => ?_)
        have fr2 : Fr 1 20 h h2 := fr.t (s2.fr (by decide) (by decide))
        have hcj2 := hcj.row (h' := h2) (s2.2 81 (by decide))
        refine c_P_failedAt e j (by omega) hcj2 2 k (actC (T e.1) e.2.2 Sk) (fun h3 s3 hF => ?_) ej rfl e1 rfl
        have f3 : Fr 89 90 h2 h3 := s3.fr (by decide) (by decide)
        exact hQ0 e k _ h3 hr (fun o ho => ⟨(f3.1 o (by omega)).trans (fr2.1 o (by omega)), (f3.2 o (by omega)).trans (fr2.2 o (by omega))⟩) (c2.fr f3 (by omega)) hF
      · rw [if_neg (by omega)] at hr
        refine w_le 0 r (fun _ => ?_) (fun g3 => by omega) rfl rfl
        exact ih (k + 1) _ h' _ _ _ (by omega) (by omega) (fr.t (s'.fr (by decide) (by decide))) c' (c8.sm s' (by decide) (by decide)) (actS_wf hWk _ _ g2) hr (iI_1 e1)
  exact loop l.length 0 S hb _ _ _ (by omega) (by omega) f1 (hC.sm s1 (by decide) (by decide)) c8 hW rfl rfl
set_option maxHeartbeats 1000000 in
theorem c_P_run {S : Nat → Int} {n : Nat} {H : Nat → Nat → Int} {N : Nat} {T : Nat → Nat} {f : Nat} {G : Nat → Int} {h : St} {Q : Option Value → St → Prop} (hB : TxB N T) (hI : CI S n H N T f G h) (hW : WF S) (hn : n ≤ 5)
    (hF1 : ∀ fa d h', rd (chr N T) N N 0 [] [] = .inl (fa, d) → Fr 0 90 h h' → CI S n H N T 1 (fG 1 fa (d + 1) 0 (-109)) h' → Q (some (.int (iI (-1000 - fa)))) h')
    (hF3 : ∀ l e h', rd (chr N T) N N 0 [] [] = .inr l → l[200]? = some e → Fr 0 90 h h' → CI S n H N T 1 (fG 3 e.1 e.2.1 0 (-109)) h' → Q (some (.int (iI (-1000 - e.1)))) h')
    (hF2 : ∀ l e k cd h', rd (chr N T) N N 0 [] [] = .inr l → l.length ≤ 200 → runF T l 0 S = .inl (e, k, cd) → Fr 0 90 h h' → CI S n H N T 1 (fG 2 e.1 e.2.1 k cd) h' → Q (some (.int (iI (-1000 - e.1)))) h')
    (hQ1 : ∀ l S' h', rd (chr N T) N N 0 [] [] = .inr l → l.length ≤ 200 → runF T l 0 S = .inr S' → Fr 0 90 h h' → CI S' (psN n) (psH n H S) N T f G h' → Q (some (.int (iI (l.length : Nat)))) h') : SC y_P_run [.ref 0] h Q := by
  refine w_call IS_ok [] ok_P_run rfl rfl ?_
  obtain ⟨c1, cH, cT, cF⟩ := hI
  refine c_Read_read hB cT (fun fa d h1 hr s1 e5 e4 => ?_) (fun l C c h1 hr s1 hc h79 hcd hsg hok => ?_)
  · have fr1 : Fr 75 84 h h1 := s1.fr (by decide) (by decide)
    refine c_Fail_set 1 fa (d + 1) 0 (-109) (fun h2 s2 hF => ?_) rfl e5 (iI_1 e4) rfl rfl
    have fr2 : Fr 89 90 h1 h2 := s2.fr (by decide) (by decide)
    have := hF1 fa d h2 hr ((fr1.w (by omega) (by omega)).t (fr2.w (by omega) (by omega))) ⟨(c1.fr fr1 (by omega)).fr fr2 (by omega), (cH.fr fr1 (by omega)).fr fr2 (by omega), (cT.sm s1 (by decide) (by decide)).fr fr2 (by omega), hF⟩
    have e : h2.1 75 5 = iI (fa : Nat) := by rw [fr2.1 75 (by omega)]; exact e5
    rw [← iI_sub, ← e] at this
    exact this
  · have fr1 : Fr 75 84 h h1 := s1.fr (by decide) (by decide)
    refine c_Sched_unroll hc h79 hcd hok hsg (fun hl h2 s2 e2 e4 hrow => ?_) (fun e j h2 he s2 hj hCj e4 => ?_)
    · have fr2 : Fr 84 89 h1 h2 := s2.fr (by decide) (by decide)
      refine w_lt (-1) 0 (fun _ => ?_) (fun g => by omega) e4 rfl
      have i2 : CI S n H N T f G h2 := ⟨(c1.fr fr1 (by omega)).fr fr2 (by omega), (cH.fr fr1 (by omega)).fr fr2 (by omega), (cT.sm s1 (by decide) (by decide)).fr fr2 (by omega), (cF.fr fr1 (by omega)).fr fr2 (by omega)⟩
      have fr12 : Fr 0 90 h h2 := (fr1.w (by omega) (by omega)).t (fr2.w (by omega) (by omega))
      refine c_P_performAll i2.1 hW i2.2.1 hn hc (fun j hj => (hcd j hj).row (s2.2 81 (by decide))) hok hl e2 hrow (fun e k cd h3 hru hsm c3 hF => ?_) (fun S' h3 hru hsm c3 cH3 => ?_)
      · refine hF2 l e k cd h3 hr hl hru (fr12.t ⟨fun o ho => (hsm o (by omega)).1, fun o ho => (hsm o (by omega)).2⟩) ⟨c3, ?_, ?_, hF⟩
        · obtain ⟨w, hw, a1, a2, a3⟩ := i2.2.1
          refine ⟨w, hw, by rw [(hsm 38 (by omega)).1]; exact a1, by rw [(hsm 38 (by omega)).1]; exact a2, fun q hq => ?_⟩
          have := a3 q hq
          have hm5 := Nat.mod_lt (w + 5 - (n - 1 - q)) (show 5 > 0 by omega)
          unfold CS slt at this ⊢
          rw [(hsm _ (by omega)).1, (hsm _ (by omega)).2, (hsm _ (by omega)).2, (hsm _ (by omega)).2]
          exact this
        · exact ⟨by rw [(hsm 76 (by omega)).1]; exact i2.2.2.1.1, fun q hq => by rw [(hsm 78 (by omega)).2]; exact i2.2.2.1.2 q hq⟩
      · refine hQ1 l S' h3 hr hl hru (fr12.t ⟨fun o ho => (hsm o (by omega)).1, fun o ho => (hsm o (by omega)).2⟩) ⟨c3, cH3, ⟨by rw [(hsm 76 (by omega)).1]; exact i2.2.2.1.1, fun q hq => by rw [(hsm 78 (by omega)).2]; exact i2.2.2.1.2 q hq⟩, ⟨by rw [(hsm 89 (by omega)).1]; exact i2.2.2.2.1, fun z q hq => by rw [(hsm 89 (by omega)).1]; exact i2.2.2.2.2 z q hq⟩⟩
    · have fr2 : Fr 84 89 h1 h2 := s2.fr (by decide) (by decide)
      refine w_lt j 0 (fun g => by omega) (fun _ => ?_) e4 rfl
      have hcj := (hcd j hj).row (h' := h2) (s2.2 81 (by decide))
      rw [hCj] at hcj
      refine c_P_failedAt e j (by omega) hcj 3 0 (-109) (fun h3 s3 hF => ?_) e4 rfl rfl rfl
      have fr3 : Fr 89 90 h2 h3 := s3.fr (by decide) (by decide)
      refine hF3 l e h3 hr he ((fr1.w (by omega) (by omega)).t ((fr2.w (by omega) (by omega)).t (fr3.w (by omega) (by omega)))) ⟨((c1.fr fr1 (by omega)).fr fr2 (by omega)).fr fr3 (by omega), ((cH.fr fr1 (by omega)).fr fr2 (by omega)).fr fr3 (by omega), ((cT.sm s1 (by decide) (by decide)).fr fr2 (by omega)).fr fr3 (by omega), hF⟩
