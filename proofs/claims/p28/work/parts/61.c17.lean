/-! the class: the calls that look -/
section
variable {S : Nat → Int} {n : Nat} {H : Nat → Nat → Int} {N : Nat} {T : Nat → Nat} {f : Nat} {G : Nat → Int} {h : St} {Q : Option Value → St → Prop}
theorem fr_sight {h' : St} (s : Sm [(20, 1)] [22] h h') : Fr 15 38 h h' := s.fr (by decide) (by decide)
theorem fr_surv {h' : St} (s : Sm [] [17, 19] h h') : Fr 15 38 h h' := s.fr (by decide) (by decide)
theorem hT_b (S : Nat → Int) (hW : WF S) (p : Nat) : hT S (od S) (S 1).toNat 48 p < 2000 := by
  have := hT_le S (od S) (S 1).toNat 48 p
  have := hW.n
  omega
theorem c_P_count {x1 : Int32} (hI : CI S n H N T f G h) (hW : WF S) (w : Int) (hQ : ∀ h' r, Fr 15 38 h h' → CntR S n N w r → Q (some (.int (iI r))) h') (h1 : x1 = iI w) (rw' : rg w) : SC y_P_count [.ref 0, .int x1] h Q := by
  obtain ⟨hC, hH, hTx, -⟩ := id hI
  have hz : ∀ (r : Int) (v : Int32), v = iI r → CntR S n N w r → Q (some (.int v)) h := fun r v hv hr => by rw [hv]; exact hQ h r Fr.rf hr
  refine w_call IS_ok [] ok_P_count rfl rfl ?_
  unfold CntR at hz hQ
  refine w_eq w 0 (fun g => hz _ _ hC.1.1 (Or.inl ⟨g, rfl⟩)) (fun g0 => ?_) h1 rfl rw'
  refine w_eq w 1 (fun g => hz _ _ hC.1.2.1 (Or.inr (Or.inl ⟨g, rfl⟩))) (fun g1 => ?_) h1 rfl rw'
  refine w_eq w 2 (fun g => hz _ _ hC.1.2.2.1 (Or.inr (Or.inr (Or.inl ⟨g, rfl⟩)))) (fun g2 => ?_) h1 rfl rw'
  refine w_eq w 3 (fun g => hz _ _ hC.1.2.2.2.1 (Or.inr (Or.inr (Or.inr (Or.inl ⟨g, rfl⟩))))) (fun g3 => ?_) h1 rfl rw'
  refine w_eq w 4 (fun g => hz _ _ hC.1.2.2.2.2.1 (Or.inr (Or.inr (Or.inr (Or.inr (Or.inl ⟨g, rfl⟩)))))) (fun g4 => ?_) h1 rfl rw'
  refine w_eq w 5 (fun g => hz _ _ hC.1.2.2.2.2.2 (Or.inr (Or.inr (Or.inr (Or.inr (Or.inr (Or.inl ⟨g, rfl⟩))))))) (fun g5 => ?_) h1 rfl rw'
  refine w_eq w 6 (fun g => ?_) (fun g6 => ?_) h1 rfl rw'
  · refine c_Surv_look_1 hC hW.wg (fun h' s1 _ hb => ?_)
    refine c_Surv_hiddenPuppets_1 (B := fun p => hT S (od S) (S 1).toNat 48 p) (fun p hp => ⟨hb p hp, hT_b S hW p⟩) ?_
    rw [show sm (fun p => if 0 < hT S (od S) (S 1).toNat 48 p then 1 else 0) 20 = hidN S from sm_congr (fun p _ => by simp [hdd])]
    exact hQ h' _ (fr_surv s1) (Or.inr (Or.inr (Or.inr (Or.inr (Or.inr (Or.inr (Or.inl ⟨g, rfl⟩)))))))
  refine w_eq w 7 (fun g => ?_) (fun g7 => ?_) h1 rfl rw'
  · exact c_Sight_allDots hC hW (fun h' s1 => hQ h' _ (fr_sight s1) (Or.inr (Or.inr (Or.inr (Or.inr (Or.inr (Or.inr (Or.inr (Or.inl ⟨g, rfl⟩)))))))))
  refine w_eq w 8 (fun g => ?_) (fun g8 => ?_) h1 rfl rw'
  · exact c_Scene_hero hC hW (fun r hr => hz r _ rfl (Or.inr (Or.inr (Or.inr (Or.inr (Or.inr (Or.inr (Or.inr (Or.inr (Or.inl ⟨g, hr⟩))))))))))
  refine w_eq w 9 (fun g => hz _ _ hH.sz (Or.inr (Or.inr (Or.inr (Or.inr (Or.inr (Or.inr (Or.inr (Or.inr (Or.inr (Or.inl ⟨g, rfl⟩))))))))))) (fun g9 => ?_) h1 rfl rw'
  refine w_eq w 10 (fun g => hz _ _ hTx.1 (Or.inr (Or.inr (Or.inr (Or.inr (Or.inr (Or.inr (Or.inr (Or.inr (Or.inr (Or.inr (Or.inl ⟨g, rfl⟩)))))))))))) (fun g10 => ?_) h1 rfl rw'
  exact hz (-101) _ rfl (Or.inr (Or.inr (Or.inr (Or.inr (Or.inr (Or.inr (Or.inr (Or.inr (Or.inr (Or.inr (Or.inr ⟨by omega, rfl⟩)))))))))))
theorem c_P_puppet {x1 x2 : Int32} (hI : CI S n H N T f G h) (hW : WF S) (p w : Int) (hQ : ∀ h' r, Fr 15 38 h h' → PupR S p w r → Q (some (.int (iI r))) h') (h1 : x1 = iI p) (h2 : x2 = iI w) (rp : rg p) (rw' : rg w) : SC y_P_puppet [.ref 0, .int x1, .int x2] h Q := by
  obtain ⟨hC, hH, hTx, -⟩ := id hI
  have hz : ∀ (r : Int) (v : Int32), v = iI r → PupR S p w r → Q (some (.int v)) h := fun r v hv hr => by rw [hv]; exact hQ h r Fr.rf hr
  unfold PupR at hz hQ
  refine w_call IS_ok [] ok_P_puppet rfl rfl ?_
  refine c_Scene_exists hC hW p ?_ h1 rp
  refine w_b (fun g => hz (-101) _ rfl (Or.inl ⟨fun z => g z.1, rfl⟩)) (fun g => ?_)
  have hb := thr_b hW g
  have e1 : x1 = iI (p.toNat : Int) := h1.trans (congrArg iI (by omega))
  refine c_P_within w 0 5 ?_ h2 rfl rfl rw'
  refine w_b (fun g2 => ?_) (fun g2 => ?_)
  · refine w_eq w 6 (fun g6 => ?_) (fun g6 => ?_) h2 rfl rw'
    · refine c_Scene_position hC hW p ?_ h1 rp
      rw [if_pos g]
      exact hz _ _ rfl (Or.inr ⟨⟨g, by omega⟩, Or.inl ⟨g6, rfl⟩⟩)
    refine w_eq w 7 (fun g7 => ?_) (fun g7 => ?_) h2 rfl rw'
    · exact c_Scene_linesOf hC p.toNat (by omega) (by omega) (hW.wp _ (by omega)).2.1 (hz _ _ rfl (Or.inr ⟨⟨g, by omega⟩, Or.inr (Or.inl ⟨g7, rfl⟩)⟩)) e1
    refine w_eq w 8 (fun g8 => ?_) (fun g8 => ?_) h2 rfl rw'
    · refine c_Surv_look_1 hC hW.wg (fun h' s1 _ hb' => ?_)
      refine c_Cells_get1 CA_18 p.toNat (by omega) ?_ e1
      rw [hb' _ (by omega)]
      exact hQ h' _ (fr_surv s1) (Or.inr ⟨⟨g, by omega⟩, Or.inr (Or.inr (Or.inl ⟨g8, rfl⟩))⟩)
    have hlast : ∀ j : Nat, j < 3 → w = 9 + j → Q (some (.int (h.2 5 (p.toNat * 10 + (7 + j))))) h := fun j hj hwj => hz _ _ (hC.2.2.2.2.2 p.toNat (by omega) j hj) (Or.inr ⟨⟨g, by omega⟩, Or.inr (Or.inr (Or.inr (Or.inl ⟨by omega, by rw [show (w - 3).toNat = 6 + j by omega]⟩)))⟩)
    refine w_eq w 9 (fun g9 => ?_) (fun g9 => ?_) h2 rfl rw'
    · exact c_Cells_get2 CA_4 p.toNat 7 (by omega) (hlast 0 (by omega) (by omega)) e1 rfl
    refine w_eq w 10 (fun g10 => ?_) (fun g10 => ?_) h2 rfl rw'
    · exact c_Cells_get2 CA_4 p.toNat 8 (by omega) (hlast 1 (by omega) (by omega)) e1 rfl
    refine w_eq w 11 (fun g11 => ?_) (fun g11 => ?_) h2 rfl rw'
    · exact c_Cells_get2 CA_4 p.toNat 9 (by omega) (hlast 2 (by omega) (by omega)) e1 rfl
    exact hz (-101) _ rfl (Or.inl ⟨fun z => by omega, rfl⟩)
  · refine c_Cells_get2 CA_4 p.toNat w.toNat (by omega) ?_ e1 (h2.trans (congrArg iI (by omega)))
    exact hz _ _ (hC.2.2.2.1 p.toNat (by omega) w.toNat (by omega)) (Or.inr ⟨⟨g, by omega⟩, Or.inr (Or.inr (Or.inr (Or.inr ⟨by omega, rfl⟩)))⟩)
theorem c_P_line {x1 x2 : Int32} (hI : CI S n H N T f G h) (hW : WF S) (y w : Int) (hQ : ∀ h' r, Fr 15 38 h h' → LinR S y w r → Q (some (.int (iI r))) h') (h1 : x1 = iI y) (h2 : x2 = iI w) (ry : rg y) (rw' : rg w) : SC y_P_line [.ref 0, .int x1, .int x2] h Q := by
  have hC := hI.1
  unfold LinR at hQ
  refine w_call IS_ok [] ok_P_line rfl rfl ?_
  refine c_P_within y 0 47 ?_ h1 rfl rfl ry
  refine w_b (fun g => hQ h (-101) Fr.rf (Or.inl ⟨fun z => g z.1, rfl⟩)) (fun g => ?_)
  have ey : y = (y.toNat : Int) := by omega
  have e1 : x1 = iI (y.toNat : Int) := h1.trans (congrArg iI ey)
  generalize hyy : y.toNat = yn at *
  subst ey
  refine w_eq w 0 (fun g0 => ?_) (fun g0 => ?_) h2 rfl rw'
  · refine c_Surv_look_1 hC hW.wg (fun h' s1 hst _ => ?_)
    refine c_Cells_get1 CA_16 yn (by omega) ?_ e1
    rw [hst yn (by omega)]
    exact hQ h' _ (fr_surv s1) (Or.inr ⟨⟨by omega, by omega⟩, Or.inl ⟨g0, rfl⟩⟩)
  refine w_eq w 1 (fun g1 => ?_) (fun g1 => ?_) h2 rfl rw'
  · refine c_Sight_look hC hW yn (by omega) (fun h' z kk s1 hsh => ?_) e1
    have := hQ h' z (fr_sight s1) (Or.inr ⟨⟨by omega, by omega⟩, Or.inr (Or.inr ⟨g1, hsh.2.2.2.2⟩)⟩)
    rw [← hsh.1] at this
    exact this
  refine w_eq w 2 (fun g2 => ?_) (fun g2 => ?_) h2 rfl rw'
  · exact c_Sight_dotsOnLine hC hW yn (by omega) (fun h' s1 => hQ h' _ (fr_sight s1) (Or.inr ⟨⟨by omega, by omega⟩, Or.inr (Or.inl ⟨g2, rfl⟩)⟩)) e1
  exact hQ h (-101) Fr.rf (Or.inl ⟨fun z => by omega, rfl⟩)
theorem c_P_shown {x1 x2 : Int32} (hI : CI S n H N T f G h) (hW : WF S) (y i : Int) (hQ : ∀ h' r, Fr 15 38 h h' → ShnR S y i r → Q (some (.int (iI r))) h') (h1 : x1 = iI y) (h2 : x2 = iI i) (ry : rg y) (ri : rg i) : SC y_P_shown [.ref 0, .int x1, .int x2] h Q := by
  have hC := hI.1
  unfold ShnR at hQ
  refine w_call IS_ok [] ok_P_shown rfl rfl ?_
  refine c_P_within y 0 47 ?_ h1 rfl rfl ry
  refine w_b (fun g => hQ h (-101) Fr.rf (Or.inl ⟨fun z => g z.1, rfl⟩)) (fun g => ?_)
  refine w_le 0 i (fun g2 => ?_) (fun g2 => hQ h (-101) Fr.rf (Or.inl ⟨fun z => by omega, rfl⟩)) rfl h2 (by omega) ri
  have ey : y = (y.toNat : Int) := by omega
  have e1 : x1 = iI (y.toNat : Int) := h1.trans (congrArg iI ey)
  generalize hyy : y.toNat = yn at *
  subst ey
  refine c_Sight_look hC hW yn (by omega) (fun h' z kk s1 hsh => ?_) e1
  refine w_le z i (fun g3 => ?_) (fun g3 => ?_) hsh.1 h2 (by have := hsh.2.1; omega) ri
  · refine hQ h' (-109) (fr_sight s1) (Or.inr ⟨⟨g, g2⟩, Or.inr ⟨rfl, fun k hk hv hc => ?_⟩⟩)
    have := (hsh.of hk hv).1
    omega
  · have e2 : x2 = iI (i.toNat : Int) := h2.trans (congrArg iI (by omega))
    obtain ⟨k1, k2, k3, k4⟩ := hsh.2.2.1 i.toNat (by omega)
    have hz8 := hsh.2.1
    refine c_Cells_get1 CA_21 i.toNat (by omega) ?_ e2
    have := hQ h' (S (6 + kk i.toNat)) (fr_sight s1) (Or.inr ⟨⟨g, g2⟩, Or.inl ⟨kk i.toNat, k1, k2, by omega, rfl⟩⟩)
    rw [(hW.od k1).1, ← k4] at this
    exact this
theorem c_P_dot {x1 x2 : Int32} (hI : CI S n H N T f G h) (hW : WF S) (x y : Int) (hQ : ∀ h' r, Fr 15 38 h h' → DotR S x y r → Q (some (.int (iI r))) h') (h1 : x1 = iI x) (h2 : x2 = iI y) (rx : rg x) (ry : rg y) : SC y_P_dot [.ref 0, .int x1, .int x2] h Q := by
  have hC := hI.1
  unfold DotR at hQ
  refine w_call IS_ok [] ok_P_dot rfl rfl ?_
  refine c_P_within x 0 63 ?_ h1 rfl rfl rx
  refine w_b (fun g => hQ h (-101) Fr.rf (Or.inl ⟨fun z => g z.1, rfl⟩)) (fun g => ?_)
  refine c_P_within y 0 47 ?_ h2 rfl rfl ry
  refine w_b (fun g2 => hQ h (-101) Fr.rf (Or.inl ⟨fun z => g2 z.2, rfl⟩)) (fun g2 => ?_)
  have ex : x = (x.toNat : Int) := by omega
  have ey : y = (y.toNat : Int) := by omega
  have e1 : x1 = iI (x.toNat : Int) := h1.trans (congrArg iI ex)
  have e2 : x2 = iI (y.toNat : Int) := h2.trans (congrArg iI ey)
  refine c_Sight_colorAt hC hW x.toNat y.toNat (by omega) (by omega) (fun h' c s1 hc => ?_) e1 e2
  rw [← ex, ← ey] at hc
  exact hQ h' c (fr_sight s1) (Or.inr ⟨⟨g, g2⟩, hc⟩)
theorem c_P_clash {x1 : Int32} (hI : CI S n H N T f G h) (hW : WF S) (w : Int) (hQ : ∀ h' r, Fr 15 38 h h' → ClaR S w r → Q (some (.int (iI r))) h') (h1 : x1 = iI w) (rw' : rg w) : SC y_P_clash [.ref 0, .int x1] h Q := by
  have hC := hI.1
  unfold ClaR at hQ
  refine w_call IS_ok [] ok_P_clash rfl rfl ?_
  refine c_P_within w 0 3 ?_ h1 rfl rfl rw'
  refine w_b (fun g => hQ h (-101) Fr.rf (Or.inl ⟨g, rfl⟩)) (fun g => ?_)
  refine w_eq w 0 (fun g2 => ?_) (fun g2 => ?_) h1 rfl rw'
  · exact c_Sight_allClashes hC hW (fun h' hr s1 hH => hQ h' _ (fr_sight s1) (Or.inr ⟨g, hr, hH, Or.inl ⟨g2, rfl⟩⟩))
  · refine c_Sight_firstClash hC hW w (by omega) (fun h' hr r s1 hH hF => ?_) h1
    refine hQ h' r (fr_sight s1) (Or.inr ⟨g, hr, hH, ?_⟩)
    rcases hF with ⟨a, b⟩ | hF
    · exact Or.inr (Or.inl ⟨g2, a, b⟩)
    · exact Or.inr (Or.inr ⟨g2, hF⟩)
theorem c_P_worstLine (hI : CI S n H N T f G h) (hW : WF S) (hQ : ∀ h' r m, Fr 15 38 h h' → WrsR S 48 r m → Q (some (.int (iI r))) h') : SC y_P_worstLine [.ref 0] h Q := by
  have hC := hI.1
  refine w_call IS_ok [] ok_P_worstLine rfl rfl ?_
  refine c_Surv_look_1 hC hW.wg (fun h' s1 hst _ => ?_)
  exact c_Surv_lineWithMostHidden hW hst (fun r m hR => hQ h' r m (fr_surv s1) hR) (by rw [s1.1 _ _ (by decide)]; exact hC.1.2.2.1)
end
