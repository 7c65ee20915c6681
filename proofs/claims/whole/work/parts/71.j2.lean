/-! both together: a call of the class, then the same of the reference -/
def MJ (S : Nat → Int) (n : Nat) (H : Nat → Nat → Int) (N : Nat) (T : Nat → Nat) (f : Nat) (G : Nat → Int) (h : St) : Prop := MS S h ∧ MH n H h ∧ MTx N T h ∧ MFl f G h
def WJ (S : Nat → Int) (n : Nat) (H : Nat → Nat → Int) (N : Nat) (T : Nat → Nat) (f : Nat) : Prop := WF S ∧ n ≤ 5 ∧ (∀ j, j < n → WF (H j)) ∧ TxB N T ∧ f ≤ 1
/-- what holds between two calls -/
def J (h : St) : Prop := ∃ S n H N T f G, WJ S n H N T f ∧ MJ S n H N T f G h ∧ CI S n H N T f G h
def Pair (y1 y2 : Nat) (as : List Value) (h : St) : Prop := SC y1 (.ref 0 :: as) h (fun r1 h1 => ∃ v, r1 = some (.int v) ∧ SC y2 (.ref 90 :: as) h1 (fun r2 h2 => r2 = some (.int v) ∧ J h2))
section
variable {S S' S'' : Nat → Int} {n : Nat} {H : Nat → Nat → Int} {N : Nat} {T : Nat → Nat} {f : Nat} {G : Nat → Int} {h h1 h2 : St}
theorem MJ.fr (hM : MJ S n H N T f G h) {lo hi : Nat} (a : Fr lo hi h h1) (hh : hi ≤ 90) : MJ S n H N T f G h1 := by
  obtain ⟨a1, a2, a3, a4⟩ := hM
  exact ⟨fun i => by rw [a.2 91 (by omega)]; exact a1 i, ⟨by rw [a.1 90 (by omega)]; exact a2.1, fun j hj i hi => by rw [a.2 93 (by omega)]; exact a2.2 j hj i hi⟩, ⟨by rw [a.1 90 (by omega)]; exact a3.1, fun i hi => by rw [a.2 94 (by omega)]; exact a3.2 i hi⟩, ⟨by rw [a.1 90 (by omega)]; exact a4.1, fun j hj => by rw [a.2 108 (by omega)]; exact a4.2 j hj⟩⟩
theorem CI.up (hI : CI S n H N T f G h1) {hi : Nat} (a : Fr 90 hi h1 h2) : CI S n H N T f G h2 := ⟨hI.1.fr a (by omega), hI.2.1.fr a (by omega), hI.2.2.1.fr a (by omega), hI.2.2.2.fr a (by omega)⟩
theorem CI.lk (hI : CI S n H N T f G h) (a : Fr 15 38 h h1) : CI S n H N T f G h1 := ⟨hI.1.fr a (by omega), hI.2.1.fr a (by omega), hI.2.2.1.fr a (by omega), hI.2.2.2.fr a (by omega)⟩
theorem psW (hn : n ≤ 5) (hW : WF S) (hH : ∀ j, j < n → WF (H j)) : ∀ j, j < psN n → WF (psH n H S j) := by
  intro j hj
  unfold psN at hj
  unfold psH
  by_cases z : n = 5
  · rw [if_pos z]
    by_cases z2 : j < 4
    · rw [if_pos z2]; exact hH _ (by omega)
    · rw [if_neg z2]; exact hW
  · rw [if_neg z]
    by_cases z2 : j < n
    · rw [if_pos z2]; exact hH _ z2
    · rw [if_neg z2]; exact hW
theorem psN_le (hn : n ≤ 5) : psN n ≤ 5 := by unfold psN; split <;> omega
theorem j_act (hw : WJ S n H N T f) (hM : MJ S n H N T f G h) (f1 : Fr 0 90 h h1) (hI : CI S' (psN n) (psH n H S) N T f G h1) (hP : MPd S n H S'' h1 h2) (e : Eqv S' S'') (hn' : (S' 1).toNat ≤ 20) (hW' : WF S'') : J h2 := by
  obtain ⟨w1, w2, w3, w4, w5⟩ := hw
  obtain ⟨-, -, m3, m4⟩ := hM.fr f1 (by omega)
  obtain ⟨s1, p1, p2⟩ := hP
  exact ⟨S'', psN n, psH n H S, N, T, f, G, ⟨hW', psN_le w2, psW w2 w1 w3, w4, w5⟩, ⟨p1, p2, m3.sm s1 (by decide) (by decide), m4.sm s1 (by decide) (by decide)⟩, (hI.eqv e hn').up (s1.fr (hi := 109) (by decide) (by decide))⟩
theorem j_same (hw : WJ S n H N T f) (hM : MJ S n H N T f G h) (f1 : Fr 0 90 h h1) (hI : CI S n H N T f G h1) (s1 : Sm [(90, 0)] [98, 97, 96, 95] h1 h2) : J h2 := by
  obtain ⟨m1, m2, m3, m4⟩ := hM.fr f1 (by omega)
  exact ⟨S, n, H, N, T, f, G, hw, ⟨m1.sm s1 (by decide), m2.sm s1 (by decide) (by decide), m3.sm s1 (by decide) (by decide), m4.sm s1 (by decide) (by decide)⟩, hI.up (s1.fr (hi := 109) (by decide) (by decide))⟩
theorem sm00 (s : Sm [(90, 0)] [] h1 h2) : Sm [(90, 0)] [98, 97, 96, 95] h1 h2 := s.mo (by decide) (by decide)
theorem sm98 (s : Sm [(90, 0)] [98] h1 h2) : Sm [(90, 0)] [98, 97, 96, 95] h1 h2 := s.mo (by decide) (by decide)
end
theorem pair_setRow {h : St} (hJ : J h) (x1 x2 x3 : Int32) : Pair y_P_setRow y_M_setRow [.int x1, .int x2, .int x3] h := by
  obtain ⟨S, n, H, N, T, f, G, hw, hM, hI⟩ := hJ
  obtain ⟨hW, hn, hHW, hB, hf⟩ := id hw
  refine c_P_setRow hI hW hn x1.toInt x2.toInt x3.toInt (fun g h1 f1 i1 => ⟨_, rfl, ?_⟩) (fun g h1 f1 i1 => ⟨_, rfl, ?_⟩) (iI_of x1) (iI_of x2) (iI_of x3) (iI_rg x1) (iI_rg x2) (iI_rg x3) <;> obtain ⟨m1, m2, -⟩ := hM.fr f1 (by omega)
  · exact c_M_setRow m1 m2 hn x1.toInt x2.toInt x3.toInt (fun h2 s2 _ => ⟨rfl, j_same hw hM f1 i1 (sm00 s2)⟩) (fun h2 g2 _ => absurd g2 g) (iI_of x1) (iI_of x2) (iI_of x3) (iI_rg x1) (iI_rg x2) (iI_rg x3)
  · refine c_M_setRow m1 m2 hn x1.toInt x2.toInt x3.toInt (fun h2 s2 g2 => absurd g g2) (fun h2 _ p2 => ⟨rfl, j_act hw hM f1 i1 p2 (Eqv.rf _) ?_ ?_⟩) (iI_of x1) (iI_of x2) (iI_of x3) (iI_rg x1) (iI_rg x2) (iI_rg x3)
    · rw [u1_n _ _ (by omega)]; exact hW.n.2.1
    · have := hW.pi (k := 8 * x1.toInt.toNat + x2.toInt.toNat) (by omega) (c := x3.toInt) g.2.2
      rw [show 206 + (8 * x1.toInt.toNat + x2.toInt.toNat) = 206 + 8 * x1.toInt.toNat + x2.toInt.toNat by omega] at this
      exact this
theorem pair_come {h : St} (hJ : J h) (x1 x2 x3 x4 x5 : Int32) : Pair y_P_come y_M_come [.int x1, .int x2, .int x3, .int x4, .int x5] h := by
  obtain ⟨S, n, H, N, T, f, G, hw, hM, hI⟩ := hJ
  obtain ⟨hW, hn, hHW, hB, hf⟩ := id hw
  refine c_P_come hI hW hn x1.toInt x2.toInt x3.toInt x4.toInt x5.toInt (fun g h1 f1 i1 => ⟨_, rfl, ?_⟩) (fun g g2 h1 f1 i1 => ⟨_, rfl, ?_⟩) (fun g g2 h1 f1 i1 => ⟨_, rfl, ?_⟩) (iI_of x1) (iI_of x2) (iI_of x3) (iI_of x4) (iI_of x5) (iI_rg x1) (iI_rg x2) (iI_rg x3) (iI_rg x4) (iI_rg x5) <;> obtain ⟨m1, m2, -⟩ := hM.fr f1 (by omega)
  · exact c_M_come m1 hW m2 hn x1.toInt x2.toInt x3.toInt x4.toInt x5.toInt (fun h2 s2 _ => ⟨rfl, j_same hw hM f1 i1 (sm00 s2)⟩) (fun h2 _ g2 => absurd g2 g) (fun h2 g2 => absurd g2 g) (iI_of x1) (iI_of x2) (iI_of x3) (iI_of x4) (iI_of x5) (iI_rg x1) (iI_rg x2) (iI_rg x3) (iI_rg x4) (iI_rg x5)
  · exact c_M_come m1 hW m2 hn x1.toInt x2.toInt x3.toInt x4.toInt x5.toInt (fun h2 s2 g3 => absurd g g3) (fun h2 s2 _ _ => ⟨rfl, j_same hw hM f1 i1 (sm00 s2)⟩) (fun h2 _ g3 => absurd g2 g3) (iI_of x1) (iI_of x2) (iI_of x3) (iI_of x4) (iI_of x5) (iI_rg x1) (iI_rg x2) (iI_rg x3) (iI_rg x4) (iI_rg x5)
  · refine c_M_come m1 hW m2 hn x1.toInt x2.toInt x3.toInt x4.toInt x5.toInt (fun h2 s2 g3 => absurd g g3) (fun h2 s2 _ g3 => absurd g3 g2) (fun h2 _ _ p2 => ⟨rfl, j_act hw hM f1 i1 p2 (Eqv.rf _) ?_ (wf_cm hW g2 g.1.1 g.1.2 g.2.1 g.2.2.1 g.2.2.2)⟩) (iI_of x1) (iI_of x2) (iI_of x3) (iI_of x4) (iI_of x5) (iI_rg x1) (iI_rg x2) (iI_rg x3) (iI_rg x4) (iI_rg x5)
    exact (wf_cm hW g2 g.1.1 g.1.2 g.2.1 g.2.2.1 g.2.2.2).n.2.1
theorem pair_leave {h : St} (hJ : J h) (x1 : Int32) : Pair y_P_leave y_M_leave [.int x1] h := by
  obtain ⟨S, n, H, N, T, f, G, hw, hM, hI⟩ := hJ
  obtain ⟨hW, hn, hHW, hB, hf⟩ := id hw
  have hn20 := hW.n
  refine c_P_leave hI hW hn x1.toInt (fun g h1 f1 i1 => ⟨_, rfl, ?_⟩) (fun g h1 f1 i1 => ⟨_, rfl, ?_⟩) (iI_of x1) (iI_rg x1) <;> obtain ⟨m1, m2, -⟩ := hM.fr f1 (by omega)
  · exact c_M_leave m1 hW m2 hn x1.toInt (fun h2 s2 _ => ⟨rfl, j_same hw hM f1 i1 (sm00 s2)⟩) (fun h2 S2 q g2 => absurd g2 g) (iI_of x1) (iI_rg x1)
  · refine c_M_leave m1 hW m2 hn x1.toInt (fun h2 s2 g2 => absurd g g2) (fun h2 S2 q _ hp hq hR p2 => ⟨by rw [hp], ?_⟩) (iI_of x1) (iI_rg x1)
    have e : (pos S x1.toInt (S 1).toNat).toNat = q := by omega
    rw [e] at i1
    exact j_act hw hM f1 i1 p2 (ord_eqv hR) (show (((S 1).toNat - 1 : Nat) : Int).toNat ≤ 20 by omega) (wf_out hW hq hR)
theorem pair_move {h : St} (hJ : J h) (x1 x2 x3 : Int32) : Pair y_P_move y_M_move [.int x1, .int x2, .int x3] h := by
  obtain ⟨S, n, H, N, T, f, G, hw, hM, hI⟩ := hJ
  obtain ⟨hW, hn, hHW, hB, hf⟩ := id hw
  refine c_P_move hI hW hn x1.toInt x2.toInt x3.toInt (fun g h1 f1 i1 => ⟨_, rfl, ?_⟩) (fun g h1 f1 i1 => ⟨_, rfl, ?_⟩) (iI_of x1) (iI_of x2) (iI_of x3) (iI_rg x1) (iI_rg x2) (iI_rg x3) <;> obtain ⟨m1, m2, -⟩ := hM.fr f1 (by omega)
  · exact c_M_move m1 hW m2 hn x1.toInt x2.toInt x3.toInt (fun h2 s2 _ => ⟨rfl, j_same hw hM f1 i1 (sm00 s2)⟩) (fun h2 g2 _ => absurd g2 g) (iI_of x1) (iI_of x2) (iI_of x3) (iI_rg x1) (iI_rg x2) (iI_rg x3)
  · have hb := thr_b hW g.1
    have hW2 := hW.mv (p := x1.toInt.toNat) (by omega) g.2.1 g.2.2
    exact c_M_move m1 hW m2 hn x1.toInt x2.toInt x3.toInt (fun h2 s2 g2 => absurd g g2) (fun h2 _ p2 => ⟨rfl, j_act hw hM f1 i1 p2 (Eqv.rf _) hW2.n.2.1 hW2⟩) (iI_of x1) (iI_of x2) (iI_of x3) (iI_rg x1) (iI_rg x2) (iI_rg x3)
theorem pair_turn {h : St} (hJ : J h) (x1 x2 : Int32) : Pair y_P_turn y_M_turn [.int x1, .int x2] h := by
  obtain ⟨S, n, H, N, T, f, G, hw, hM, hI⟩ := hJ
  obtain ⟨hW, hn, hHW, hB, hf⟩ := id hw
  refine c_P_turn hI hW hn x1.toInt x2.toInt (fun g h1 f1 i1 => ⟨_, rfl, ?_⟩) (fun g h1 f1 i1 => ⟨_, rfl, ?_⟩) (iI_of x1) (iI_of x2) (iI_rg x1) (iI_rg x2) <;> obtain ⟨m1, m2, -⟩ := hM.fr f1 (by omega)
  · exact c_M_turn m1 hW m2 hn x1.toInt x2.toInt (fun h2 s2 _ => ⟨rfl, j_same hw hM f1 i1 (sm00 s2)⟩) (fun h2 g2 _ => absurd g2 g) (iI_of x1) (iI_of x2) (iI_rg x1) (iI_rg x2)
  · have hb := thr_b hW g.1
    have hW2 := hW.tu (p := x1.toInt.toNat) (by omega) g.2
    exact c_M_turn m1 hW m2 hn x1.toInt x2.toInt (fun h2 s2 g2 => absurd g g2) (fun h2 _ p2 => ⟨rfl, j_act hw hM f1 i1 p2 (Eqv.rf _) hW2.n.2.1 hW2⟩) (iI_of x1) (iI_of x2) (iI_rg x1) (iI_rg x2)
theorem pair_lift {h : St} (hJ : J h) (x1 : Int32) : Pair y_P_lift y_M_lift [.int x1] h := by
  obtain ⟨S, n, H, N, T, f, G, hw, hM, hI⟩ := hJ
  obtain ⟨hW, hn, hHW, hB, hf⟩ := id hw
  refine c_P_lift hI hW hn x1.toInt (fun g h1 f1 i1 => ⟨_, rfl, ?_⟩) (fun g h1 f1 i1 => ⟨_, rfl, ?_⟩) (iI_of x1) (iI_rg x1) <;> obtain ⟨m1, m2, -⟩ := hM.fr f1 (by omega)
  · exact c_M_lift m1 hW m2 hn x1.toInt (fun h2 s2 _ => ⟨rfl, j_same hw hM f1 i1 (sm00 s2)⟩) (fun h2 S2 q g2 => absurd g2 g) (iI_of x1) (iI_rg x1)
  · refine c_M_lift m1 hW m2 hn x1.toInt (fun h2 s2 g2 => absurd g g2) (fun h2 S2 q _ hp hq hR p2 => ⟨by rw [hp], ?_⟩) (iI_of x1) (iI_rg x1)
    have e : (pos S x1.toInt (S 1).toNat).toNat = q := by omega
    rw [e] at i1
    exact j_act hw hM f1 i1 p2 (ord_eqv hR) hW.n.2.1 (wf_lft hW hq hR)
theorem pair_lower {h : St} (hJ : J h) (x1 : Int32) : Pair y_P_lower y_M_lower [.int x1] h := by
  obtain ⟨S, n, H, N, T, f, G, hw, hM, hI⟩ := hJ
  obtain ⟨hW, hn, hHW, hB, hf⟩ := id hw
  refine c_P_lower hI hW hn x1.toInt (fun g h1 f1 i1 => ⟨_, rfl, ?_⟩) (fun g h1 f1 i1 => ⟨_, rfl, ?_⟩) (iI_of x1) (iI_rg x1) <;> obtain ⟨m1, m2, -⟩ := hM.fr f1 (by omega)
  · exact c_M_lower m1 hW m2 hn x1.toInt (fun h2 s2 _ => ⟨rfl, j_same hw hM f1 i1 (sm00 s2)⟩) (fun h2 S2 q g2 => absurd g2 g) (iI_of x1) (iI_rg x1)
  · refine c_M_lower m1 hW m2 hn x1.toInt (fun h2 s2 g2 => absurd g g2) (fun h2 S2 q _ hp hq hR p2 => ⟨by rw [hp], ?_⟩) (iI_of x1) (iI_rg x1)
    have e : (pos S x1.toInt (S 1).toNat).toNat = q := by omega
    rw [e] at i1
    exact j_act hw hM f1 i1 p2 (ord_eqv hR) hW.n.2.1 (wf_low hW hq hR)
theorem pair_setLimit {h : St} (hJ : J h) (x1 : Int32) : Pair y_P_setLimit y_M_setLimit [.int x1] h := by
  obtain ⟨S, n, H, N, T, f, G, hw, hM, hI⟩ := hJ
  obtain ⟨hW, hn, hHW, hB, hf⟩ := id hw
  refine c_P_setLimit hI hW hn x1.toInt (fun g h1 f1 i1 => ⟨_, rfl, ?_⟩) (fun g h1 f1 i1 => ⟨_, rfl, ?_⟩) (iI_of x1) (iI_rg x1) <;> obtain ⟨m1, m2, -⟩ := hM.fr f1 (by omega)
  · exact c_M_setLimit m1 m2 hn x1.toInt (fun h2 s2 _ => ⟨rfl, j_same hw hM f1 i1 (sm00 s2)⟩) (fun h2 g2 _ => absurd g2 g) (iI_of x1) (iI_rg x1)
  · exact c_M_setLimit m1 m2 hn x1.toInt (fun h2 s2 g2 => absurd g g2) (fun h2 _ p2 => ⟨rfl, j_act hw hM f1 i1 p2 (Eqv.rf _) (hW.li g).n.2.1 (hW.li g)⟩) (iI_of x1) (iI_rg x1)
theorem pair_setRule {h : St} (hJ : J h) (x1 x2 : Int32) : Pair y_P_setRule y_M_setRule [.int x1, .int x2] h := by
  obtain ⟨S, n, H, N, T, f, G, hw, hM, hI⟩ := hJ
  obtain ⟨hW, hn, hHW, hB, hf⟩ := id hw
  refine c_P_setRule hI hW hn x1.toInt x2.toInt (fun g h1 f1 i1 => ⟨_, rfl, ?_⟩) (fun g h1 f1 i1 => ⟨_, rfl, ?_⟩) (iI_of x1) (iI_of x2) (iI_rg x1) (iI_rg x2) <;> obtain ⟨m1, m2, -⟩ := hM.fr f1 (by omega)
  · exact c_M_setRule m1 m2 hn x1.toInt x2.toInt (fun h2 s2 _ => ⟨rfl, j_same hw hM f1 i1 (sm00 s2)⟩) (fun h2 g2 _ => absurd g2 g) (iI_of x1) (iI_of x2) (iI_rg x1) (iI_rg x2)
  · exact c_M_setRule m1 m2 hn x1.toInt x2.toInt (fun h2 s2 g2 => absurd g g2) (fun h2 _ p2 => ⟨rfl, j_act hw hM f1 i1 p2 (Eqv.rf _) (hW.ru g.1 g.2).n.2.1 (hW.ru g.1 g.2)⟩) (iI_of x1) (iI_of x2) (iI_rg x1) (iI_rg x2)
theorem pair_frame {h : St} (hJ : J h) : Pair y_P_frame y_M_frame [] h := by
  obtain ⟨S, n, H, N, T, f, G, hw, hM, hI⟩ := hJ
  obtain ⟨hW, hn, hHW, hB, hf⟩ := id hw
  refine c_P_frame hI hW hn (fun g h1 f1 i1 => ⟨_, rfl, ?_⟩) (fun g h1 f1 i1 => ⟨_, rfl, ?_⟩) <;> obtain ⟨m1, m2, -⟩ := hM.fr f1 (by omega)
  · exact c_M_frame m1 hW m2 hn (fun h2 s2 _ => ⟨rfl, j_same hw hM f1 i1 (sm00 s2)⟩) (fun h2 S2 g2 => absurd g g2)
  · refine c_M_frame m1 hW m2 hn (fun h2 s2 g2 => absurd g2 g) (fun h2 S2 _ hR p2 => ⟨rfl, j_act hw hM f1 i1 p2 (fr_eqv hW hR) ?_ (wf_fr hW hR g)⟩)
    rw [frS_1 hW]; exact hW.n.2.1
