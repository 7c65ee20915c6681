/-! both together: the other calls -/
theorem pair_undo {h : St} (hJ : J h) : Pair y_P_undo y_M_undo [] h := by
  obtain ⟨S, n, H, N, T, f, G, hw, hM, hI⟩ := hJ
  obtain ⟨hW, hn, hHW, hB, hf⟩ := id hw
  refine c_P_undo hI hn (fun h0 => (hHW (n - 1) (by omega)).n.2.1) (fun g => ⟨_, rfl, ?_⟩) (fun g h1 f1 i1 => ⟨_, rfl, ?_⟩)
  · exact c_M_undo hM.1 hM.2.1 hn (fun h2 s2 _ => ⟨rfl, j_same hw hM Fr.rf hI (sm00 s2)⟩) (fun h2 _ g2 => by omega)
  · obtain ⟨m1, m2, m3, m4⟩ := hM.fr f1 (by omega)
    refine c_M_undo m1 m2 hn (fun h2 s2 g2 => by omega) (fun h2 s2 _ p1 p2 => ⟨rfl, ?_⟩)
    have hWn := hHW (n - 1) (by omega)
    have e : Eqv (H (n - 1)) (rsS S (H (n - 1))) := fun i hi _ => if_pos hi
    exact ⟨rsS S (H (n - 1)), n - 1, H, N, T, f, G, ⟨wf_rs hWn, by omega, fun j hj => hHW j (by omega), hB, hf⟩, ⟨p1, p2, m3.sm s2 (by decide) (by decide), m4.sm s2 (by decide) (by decide)⟩, (i1.eqv e hWn.n.2.1).up (s2.fr (hi := 109) (by decide) (by decide))⟩
theorem pair_append {h : St} (hJ : J h) (x1 : Int32) : Pair y_P_append y_M_append [.int x1] h := by
  obtain ⟨S, n, H, N, T, f, G, hw, hM, hI⟩ := hJ
  obtain ⟨hW, hn, hHW, hB, hf⟩ := id hw
  have hN := hB.1
  refine c_P_append hI hN x1.toInt (fun g => ⟨_, rfl, ?_⟩) (fun g g2 => ⟨_, rfl, ?_⟩) (fun g g2 h1 f1 i1 => ⟨_, rfl, ?_⟩) (iI_of x1) (iI_rg x1)
  · exact c_M_append hM.2.2.1 hN x1.toInt (fun h2 s2 _ => ⟨rfl, j_same hw hM Fr.rf hI (sm00 s2)⟩) (fun h2 _ g3 => absurd g3 g) (fun h2 _ g3 => absurd g3 g) (iI_of x1) (iI_rg x1)
  · exact c_M_append hM.2.2.1 hN x1.toInt (fun h2 s2 g3 => absurd g g3) (fun h2 s2 _ _ => ⟨rfl, j_same hw hM Fr.rf hI (sm00 s2)⟩) (fun h2 _ _ g3 => absurd g2 g3) (iI_of x1) (iI_rg x1)
  · obtain ⟨m1, m2, m3, m4⟩ := hM.fr f1 (by omega)
    refine c_M_append m3 hN x1.toInt (fun h2 s2 g3 => absurd g g3) (fun h2 _ _ g3 => absurd g3 g2) (fun h2 s2 _ _ p => ⟨rfl, ?_⟩) (iI_of x1) (iI_rg x1)
    refine ⟨S, n, H, N + 1, u1 T N x1.toInt.toNat, f, G, ⟨hW, hn, hHW, ⟨by omega, fun i hi => ?_⟩, hf⟩, ⟨m1.sm s2 (by decide), m2.sm s2 (by decide) (by decide), p, m4.sm s2 (by decide) (by decide)⟩, i1.up (s2.fr (hi := 109) (by decide) (by decide))⟩
    by_cases z : i = N
    · rw [z, u1_s]; omega
    · rw [u1_n _ _ z]; exact hB.2 i (by omega)
theorem pair_clearText {h : St} (hJ : J h) : Pair y_P_clearText y_M_clearText [] h := by
  obtain ⟨S, n, H, N, T, f, G, hw, hM, hI⟩ := hJ
  obtain ⟨hW, hn, hHW, hB, hf⟩ := id hw
  refine c_P_clearText hI (fun h1 f1 i1 => ⟨_, rfl, ?_⟩)
  obtain ⟨m1, m2, m3, m4⟩ := hM.fr f1 (by omega)
  refine c_M_clearText m3 (fun h2 s2 p => ⟨rfl, ?_⟩)
  exact ⟨S, n, H, 0, T, f, G, ⟨hW, hn, hHW, ⟨by omega, fun i hi => by omega⟩, hf⟩, ⟨m1.sm s2 (by decide), m2.sm s2 (by decide) (by decide), p, m4.sm s2 (by decide) (by decide)⟩, i1.up (s2.fr (hi := 109) (by decide) (by decide))⟩
theorem pair_failure {h : St} (hJ : J h) (x1 : Int32) : Pair y_P_failure y_M_failure [.int x1] h := by
  obtain ⟨S, n, H, N, T, f, G, hw, hM, hI⟩ := hJ
  obtain ⟨hW, hn, hHW, hB, hf⟩ := id hw
  refine c_P_failure hI hf x1.toInt (fun r hr => ⟨_, rfl, ?_⟩) (iI_of x1) (iI_rg x1)
  exact c_M_failure hM.2.2.2 hf x1.toInt (fun h2 r2 s2 hr2 => ⟨by rw [FaiR_u hr hr2], j_same hw hM Fr.rf hI (sm00 s2)⟩) (iI_of x1) (iI_rg x1)
theorem pair_count {h : St} (hJ : J h) (x1 : Int32) : Pair y_P_count y_M_count [.int x1] h := by
  obtain ⟨S, n, H, N, T, f, G, hw, hM, hI⟩ := hJ
  obtain ⟨hW, hn, hHW, hB, hf⟩ := id hw
  refine c_P_count hI hW x1.toInt (fun h1 r f1 hr => ⟨_, rfl, ?_⟩) (iI_of x1) (iI_rg x1)
  have f1' := f1.w (show 0 ≤ 15 by omega) (show 38 ≤ 90 by omega)
  obtain ⟨m1, m2, m3, m4⟩ := hM.fr f1' (by omega)
  exact c_M_count m1 hW m2 m3 x1.toInt (fun h2 r2 s2 hr2 => ⟨by rw [CntR_u hr hr2], j_same hw hM f1' (hI.lk f1) (sm98 s2)⟩) (iI_of x1) (iI_rg x1)
theorem pair_puppet {h : St} (hJ : J h) (x1 x2 : Int32) : Pair y_P_puppet y_M_puppet [.int x1, .int x2] h := by
  obtain ⟨S, n, H, N, T, f, G, hw, hM, hI⟩ := hJ
  obtain ⟨hW, hn, hHW, hB, hf⟩ := id hw
  refine c_P_puppet hI hW x1.toInt x2.toInt (fun h1 r f1 hr => ⟨_, rfl, ?_⟩) (iI_of x1) (iI_of x2) (iI_rg x1) (iI_rg x2)
  have f1' := f1.w (show 0 ≤ 15 by omega) (show 38 ≤ 90 by omega)
  obtain ⟨m1, m2, m3, m4⟩ := hM.fr f1' (by omega)
  exact c_M_puppet m1 hW x1.toInt x2.toInt (fun h2 r2 s2 hr2 => ⟨by rw [PupR_u hr hr2], j_same hw hM f1' (hI.lk f1) (sm98 s2)⟩) (iI_of x1) (iI_of x2) (iI_rg x1) (iI_rg x2)
theorem pair_line {h : St} (hJ : J h) (x1 x2 : Int32) : Pair y_P_line y_M_line [.int x1, .int x2] h := by
  obtain ⟨S, n, H, N, T, f, G, hw, hM, hI⟩ := hJ
  obtain ⟨hW, hn, hHW, hB, hf⟩ := id hw
  refine c_P_line hI hW x1.toInt x2.toInt (fun h1 r f1 hr => ⟨_, rfl, ?_⟩) (iI_of x1) (iI_of x2) (iI_rg x1) (iI_rg x2)
  have f1' := f1.w (show 0 ≤ 15 by omega) (show 38 ≤ 90 by omega)
  obtain ⟨m1, m2, m3, m4⟩ := hM.fr f1' (by omega)
  exact c_M_line m1 hW x1.toInt x2.toInt (fun h2 r2 s2 hr2 => ⟨by rw [LinR_u hr hr2], j_same hw hM f1' (hI.lk f1) (sm00 s2)⟩) (iI_of x1) (iI_of x2) (iI_rg x1) (iI_rg x2)
theorem pair_shown {h : St} (hJ : J h) (x1 x2 : Int32) : Pair y_P_shown y_M_shown [.int x1, .int x2] h := by
  obtain ⟨S, n, H, N, T, f, G, hw, hM, hI⟩ := hJ
  obtain ⟨hW, hn, hHW, hB, hf⟩ := id hw
  refine c_P_shown hI hW x1.toInt x2.toInt (fun h1 r f1 hr => ⟨_, rfl, ?_⟩) (iI_of x1) (iI_of x2) (iI_rg x1) (iI_rg x2)
  have f1' := f1.w (show 0 ≤ 15 by omega) (show 38 ≤ 90 by omega)
  obtain ⟨m1, m2, m3, m4⟩ := hM.fr f1' (by omega)
  exact c_M_shown m1 hW x1.toInt x2.toInt (fun h2 r2 s2 hr2 => ⟨by rw [ShnR_u hr hr2], j_same hw hM f1' (hI.lk f1) (sm00 s2)⟩) (iI_of x1) (iI_of x2) (iI_rg x1) (iI_rg x2)
theorem pair_dot {h : St} (hJ : J h) (x1 x2 : Int32) : Pair y_P_dot y_M_dot [.int x1, .int x2] h := by
  obtain ⟨S, n, H, N, T, f, G, hw, hM, hI⟩ := hJ
  obtain ⟨hW, hn, hHW, hB, hf⟩ := id hw
  refine c_P_dot hI hW x1.toInt x2.toInt (fun h1 r f1 hr => ⟨_, rfl, ?_⟩) (iI_of x1) (iI_of x2) (iI_rg x1) (iI_rg x2)
  have f1' := f1.w (show 0 ≤ 15 by omega) (show 38 ≤ 90 by omega)
  obtain ⟨m1, m2, m3, m4⟩ := hM.fr f1' (by omega)
  exact c_M_dot m1 hW x1.toInt x2.toInt (fun h2 r2 s2 hr2 => ⟨by rw [DotR_u hW hr hr2], j_same hw hM f1' (hI.lk f1) (sm00 s2)⟩) (iI_of x1) (iI_of x2) (iI_rg x1) (iI_rg x2)
theorem pair_clash {h : St} (hJ : J h) (x1 : Int32) : Pair y_P_clash y_M_clash [.int x1] h := by
  obtain ⟨S, n, H, N, T, f, G, hw, hM, hI⟩ := hJ
  obtain ⟨hW, hn, hHW, hB, hf⟩ := id hw
  refine c_P_clash hI hW x1.toInt (fun h1 r f1 hr => ⟨_, rfl, ?_⟩) (iI_of x1) (iI_rg x1)
  have f1' := f1.w (show 0 ≤ 15 by omega) (show 38 ≤ 90 by omega)
  obtain ⟨m1, m2, m3, m4⟩ := hM.fr f1' (by omega)
  exact c_M_clash m1 hW x1.toInt (fun h2 r2 s2 hr2 => ⟨by rw [ClaR_u hW hr hr2], j_same hw hM f1' (hI.lk f1) (sm00 s2)⟩) (iI_of x1) (iI_rg x1)
theorem pair_hiddenIn {h : St} (hJ : J h) (x1 x2 : Int32) : Pair y_P_hiddenIn y_M_hiddenIn [.int x1, .int x2] h := by
  obtain ⟨S, n, H, N, T, f, G, hw, hM, hI⟩ := hJ
  obtain ⟨hW, hn, hHW, hB, hf⟩ := id hw
  refine c_P_hiddenIn hI hW x1.toInt x2.toInt (fun h1 r f1 hr => ⟨_, rfl, ?_⟩) (iI_of x1) (iI_of x2) (iI_rg x1) (iI_rg x2)
  have f1' := f1.w (show 0 ≤ 15 by omega) (show 38 ≤ 90 by omega)
  obtain ⟨m1, m2, m3, m4⟩ := hM.fr f1' (by omega)
  exact c_M_hiddenIn m1 hW x1.toInt x2.toInt (fun h2 r2 s2 hr2 => ⟨by rw [HinR_u hr hr2], j_same hw hM f1' (hI.lk f1) s2⟩) (iI_of x1) (iI_of x2) (iI_rg x1) (iI_rg x2)
theorem pair_allShownIn {h : St} (hJ : J h) : Pair y_P_allShownIn y_M_allShownIn [] h := by
  obtain ⟨S, n, H, N, T, f, G, hw, hM, hI⟩ := hJ
  obtain ⟨hW, hn, hHW, hB, hf⟩ := id hw
  refine c_P_allShownIn hI hW (fun h1 r f1 hr => ⟨_, rfl, ?_⟩)
  have f1' := f1.w (show 0 ≤ 15 by omega) (show 38 ≤ 90 by omega)
  obtain ⟨m1, m2, m3, m4⟩ := hM.fr f1' (by omega)
  exact c_M_allShownIn m1 hW (fun h2 r2 s2 hr2 => ⟨by rw [AllR_u hr hr2], j_same hw hM f1' (hI.lk f1) s2⟩)
theorem pair_bestStep {h : St} (hJ : J h) (x1 : Int32) : Pair y_P_bestStep y_M_bestStep [.int x1] h := by
  obtain ⟨S, n, H, N, T, f, G, hw, hM, hI⟩ := hJ
  obtain ⟨hW, hn, hHW, hB, hf⟩ := id hw
  refine c_P_bestStep hI hW x1.toInt (fun h1 r f1 hr => ⟨_, rfl, ?_⟩) (iI_of x1) (iI_rg x1)
  have f1' := f1.w (show 0 ≤ 15 by omega) (show 38 ≤ 90 by omega)
  obtain ⟨m1, m2, m3, m4⟩ := hM.fr f1' (by omega)
  exact c_M_bestStep m1 hW x1.toInt (fun h2 r2 s2 hr2 => ⟨by rw [BstR_u hr hr2], j_same hw hM f1' (hI.lk f1) s2⟩) (iI_of x1) (iI_rg x1)
theorem pair_worstLine {h : St} (hJ : J h) : Pair y_P_worstLine y_M_worstLine [] h := by
  obtain ⟨S, n, H, N, T, f, G, hw, hM, hI⟩ := hJ
  obtain ⟨hW, hn, hHW, hB, hf⟩ := id hw
  refine c_P_worstLine hI hW (fun h1 r m f1 hr => ⟨_, rfl, ?_⟩)
  have f1' := f1.w (show 0 ≤ 15 by omega) (show 38 ≤ 90 by omega)
  obtain ⟨m1, m2, m3, m4⟩ := hM.fr f1' (by omega)
  exact c_M_worstLine m1 hW (fun h2 r2 m' s2 hr2 => ⟨by rw [WrsR_u hr hr2], j_same hw hM f1' (hI.lk f1) (sm00 s2)⟩)
theorem pair_run {h : St} (hJ : J h) : Pair y_P_run y_M_run [] h := by
  obtain ⟨S, n, H, N, T, f, G, hw, hM, hI⟩ := hJ
  obtain ⟨hW, hn, hHW, hB, hf⟩ := id hw
  refine c_P_run hB hI hW hn (fun fa d h1 e1 f1 i1 => ⟨_, rfl, ?_⟩) (fun l e h1 e1 e2 f1 i1 => ⟨_, rfl, ?_⟩) (fun l e k cd h1 e1 e2 e3 f1 i1 => ⟨_, rfl, ?_⟩) (fun l S1 h1 e1 e2 e3 f1 i1 => ⟨_, rfl, ?_⟩) <;> obtain ⟨m1, m2, m3, m4⟩ := hM.fr f1 (by omega)
  · refine c_M_run hB m3 m1 hW m2 hn (fun fb d' h2 q1 s2 p1 p2 p3 _ => ?_) (fun l e h2 q1 => ?_) (fun l e k cd S' h2 q1 => ?_) (fun l S' S0 h2 q1 => ?_)
    · rw [e1] at q1
      injection q1 with q1
      injection q1 with q2 q3
      subst q2; subst q3
      exact ⟨rfl, S, n, H, N, T, 1, _, ⟨hW, hn, hHW, hB, by omega⟩, ⟨p1, p2, m3.sm s2 (by decide) (by decide), p3⟩, i1.up (s2.fr (hi := 109) (by decide) (by decide))⟩
    · rw [e1] at q1; cases q1
    · rw [e1] at q1; cases q1
    · rw [e1] at q1; cases q1
  · refine c_M_run hB m3 m1 hW m2 hn (fun fb d' h2 q1 => ?_) (fun l' e' h2 q1 q2 s2 p1 p2 p3 _ => ?_) (fun l' e' k cd S' h2 q1 q2 => ?_) (fun l' S' S0 h2 q1 q2 => ?_)
    · rw [e1] at q1; cases q1
    · rw [e1] at q1
      injection q1 with q1
      subst q1
      rw [e2] at q2
      injection q2 with q2
      subst q2
      exact ⟨rfl, S, n, H, N, T, 1, _, ⟨hW, hn, hHW, hB, by omega⟩, ⟨p1, p2, m3.sm s2 (by decide) (by decide), p3⟩, i1.up (s2.fr (hi := 109) (by decide) (by decide))⟩
    · rw [e1] at q1
      injection q1 with q1
      subst q1
      rw [List.getElem?_eq_none (by omega)] at e2
      cases e2
    · rw [e1] at q1
      injection q1 with q1
      subst q1
      rw [List.getElem?_eq_none (by omega)] at e2
      cases e2
  · refine c_M_run hB m3 m1 hW m2 hn (fun fb d' h2 q1 => ?_) (fun l' e' h2 q1 q2 => ?_) (fun l' e' k' cd' S' h2 q1 q2 q3 s2 p0 p1 p2 p3 _ => ?_) (fun l' S' S0 h2 q1 q2 q3 => ?_)
    · rw [e1] at q1; cases q1
    · rw [e1] at q1
      injection q1 with q1
      subst q1
      rw [List.getElem?_eq_none (by omega)] at q2
      cases q2
    · rw [e1] at q1
      injection q1 with q1
      subst q1
      rw [e3] at q3
      injection q3 with q3
      injection q3 with q4 q5
      injection q5 with q5 q6
      subst q4; subst q5; subst q6
      have e : Eqv S S' := fun i hi _ => p1 i hi
      exact ⟨rfl, S', n, H, N, T, 1, _, ⟨e.wf hW, hn, hHW, hB, by omega⟩, ⟨p0, p2, m3.sm s2 (by decide) (by decide), p3⟩, (i1.eqv e hW.n.2.1).up (s2.fr (hi := 109) (by decide) (by decide))⟩
    · rw [e1] at q1
      injection q1 with q1
      subst q1
      rw [e3] at q3
      cases q3
  · refine c_M_run hB m3 m1 hW m2 hn (fun fb d' h2 q1 => ?_) (fun l' e' h2 q1 q2 => ?_) (fun l' e' k' cd' S' h2 q1 q2 q3 => ?_) (fun l' S' S0 h2 q1 q2 q3 s2 p0 p1 p2 p3 p4 p5 _ => ?_)
    · rw [e1] at q1; cases q1
    · rw [e1] at q1
      injection q1 with q1
      subst q1
      rw [List.getElem?_eq_none (by omega)] at q2
      cases q2
    · rw [e1] at q1
      injection q1 with q1
      subst q1
      rw [e3] at q3
      cases q3
    · rw [e1] at q1
      injection q1 with q1
      subst q1
      rw [e3] at q3
      injection q3 with q3
      subst q3
      exact ⟨rfl, S0, psN n, psH n H S, N, T, f, G, ⟨p1.wf p2, psN_le hn, psW hn hW hHW, hB, hf⟩, ⟨p0, p3, m3.sm s2 (by decide) (by decide), ⟨p4.trans m4.1, fun j hj => by rw [p5]; exact m4.2 j hj⟩⟩, (i1.eqv p1 p2.n.2.1).up (s2.fr (hi := 109) (by decide) (by decide))⟩
