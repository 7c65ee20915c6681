/-! the class: a scene is copied -/
theorem CS.cp {a c : Nat} {S : Nat → Int} {h h' : St} (hC : CS c S h) (hn : (S 1).toNat ≤ 20) (h3 : h'.1 a 3 = h.1 c 3) (h4 : h'.1 a 4 = h.1 c 4) (h5 : h'.1 a 5 = h.1 c 5) (h6 : h'.1 a 6 = h.1 c 6) (h7 : h'.1 a 7 = h.1 c 7) (h8 : h'.1 a 8 = h.1 c 8) (r2 : ∀ j, j < 64 → h'.2 (a + 2) j = h.2 (c + 2) j) (r4 : ∀ j, j < 200 → h'.2 (a + 4) j = h.2 (c + 4) j) (r6 : ∀ j, j < 20 → h'.2 (a + 6) j = h.2 (c + 6) j) : CS a S h' := by
  obtain ⟨⟨a1, a2, a3, a4, a5, a6⟩, b, o, d, f, g⟩ := hC
  exact ⟨⟨h3.trans a1, h4.trans a2, h5.trans a3, h6.trans a4, h7.trans a5, h8.trans a6⟩, fun i hi => (r2 i hi).trans (b i hi), fun k hk => (r6 k (by omega)).trans (o k hk), fun p hp j hj => (r4 _ (by omega)).trans (d p hp j hj), fun p hp h0 => (r4 _ (by omega)).trans (f p hp h0), fun p hp j hj => (r4 _ (by omega)).trans (g p hp j hj)⟩
abbrev fl6 (a : Nat) : List (Nat × Nat) := [(a, 3), (a, 4), (a, 5), (a, 6), (a, 7), (a, 8)]
theorem c_Scene_copyFrom_8_1 {S : Nat → Int} {h : St} {Q : Option Value → St → Prop} (hC : CS 1 S h) (hn : (S 1).toNat ≤ 20) (hQ : ∀ h', Sm (fl6 8) [10, 12, 14] h h' → CS 8 S h' → Q none h') : SC y_Scene_copyFrom [.ref 8, .ref 1] h Q := by
  refine w_call IS_ok [] ok_Scene_copyFrom rfl rfl ?_
  refine c_Cells_copyFrom CA_9 CA_2 (by decide) (fun h1 s1 e1 => ?_)
  refine c_Cells_copyFrom CA_11 CA_4 (by decide) (fun h2 s2 e2 => ?_)
  refine c_Cells_copyFrom CA_13 CA_6 (by decide) (fun h3 s3 e3 => ?_)
  have f : ∀ k, h3.1 1 k = h.1 1 k := fun k => (s3.1 _ _ (by simp)).trans ((s2.1 _ _ (by simp)).trans (s1.1 _ _ (by simp)))
  refine hQ (pg (pg (pg (pg (pg (pg h3 8 3 (h3.1 1 3)) 8 4 (h3.1 1 4)) 8 5 (h3.1 1 5)) 8 6 (h3.1 1 6)) 8 7 (h3.1 1 7)) 8 8 (h3.1 1 8)) (((((((((s1.mo (by decide) (by decide)).t (s2.mo (by decide) (by decide))).t (s3.mo (by decide) (by decide))).t (Sm.pg _ (by decide))).t (Sm.pg _ (by decide))).t (Sm.pg _ (by decide))).t (Sm.pg _ (by decide))).t (Sm.pg _ (by decide))).t (Sm.pg _ (by decide))) (hC.cp hn (f 3) (f 4) (f 5) (f 6) (f 7) (f 8) (fun j hj => ?_) (fun j hj => ?_) (fun j hj => ?_))
  · show h3.2 10 j = h.2 3 j
    rw [s3.2 _ (by decide), s2.2 _ (by decide)]
    exact e1 j hj
  · show h3.2 12 j = h.2 5 j
    rw [s3.2 _ (by decide), e2 j hj, s1.2 _ (by decide)]
  · show h3.2 14 j = h.2 7 j
    rw [e3 j hj, s2.2 _ (by decide), s1.2 _ (by decide)]
theorem c_Scene_copyFrom_1_8 {S : Nat → Int} {h : St} {Q : Option Value → St → Prop} (hC : CS 8 S h) (hn : (S 1).toNat ≤ 20) (hQ : ∀ h', Sm (fl6 1) [3, 5, 7] h h' → CS 1 S h' → Q none h') : SC y_Scene_copyFrom [.ref 1, .ref 8] h Q := by
  refine w_call IS_ok [] ok_Scene_copyFrom rfl rfl ?_
  refine c_Cells_copyFrom CA_2 CA_9 (by decide) (fun h1 s1 e1 => ?_)
  refine c_Cells_copyFrom CA_4 CA_11 (by decide) (fun h2 s2 e2 => ?_)
  refine c_Cells_copyFrom CA_6 CA_13 (by decide) (fun h3 s3 e3 => ?_)
  have f : ∀ k, h3.1 8 k = h.1 8 k := fun k => (s3.1 _ _ (by simp)).trans ((s2.1 _ _ (by simp)).trans (s1.1 _ _ (by simp)))
  refine hQ (pg (pg (pg (pg (pg (pg h3 1 3 (h3.1 8 3)) 1 4 (h3.1 8 4)) 1 5 (h3.1 8 5)) 1 6 (h3.1 8 6)) 1 7 (h3.1 8 7)) 1 8 (h3.1 8 8)) (((((((((s1.mo (by decide) (by decide)).t (s2.mo (by decide) (by decide))).t (s3.mo (by decide) (by decide))).t (Sm.pg _ (by decide))).t (Sm.pg _ (by decide))).t (Sm.pg _ (by decide))).t (Sm.pg _ (by decide))).t (Sm.pg _ (by decide))).t (Sm.pg _ (by decide))) (hC.cp hn (f 3) (f 4) (f 5) (f 6) (f 7) (f 8) (fun j hj => ?_) (fun j hj => ?_) (fun j hj => ?_))
  · show h3.2 3 j = h.2 10 j
    rw [s3.2 _ (by decide), s2.2 _ (by decide)]
    exact e1 j hj
  · show h3.2 5 j = h.2 12 j
    rw [s3.2 _ (by decide), e2 j hj, s1.2 _ (by decide)]
  · show h3.2 7 j = h.2 14 j
    rw [e3 j hj, s2.2 _ (by decide), s1.2 _ (by decide)]
theorem c_Scene_copyFrom_24_1 {S : Nat → Int} {h : St} {Q : Option Value → St → Prop} (hC : CS 1 S h) (hn : (S 1).toNat ≤ 20) (hQ : ∀ h', Sm (fl6 24) [26, 28, 30] h h' → CS 24 S h' → Q none h') : SC y_Scene_copyFrom [.ref 24, .ref 1] h Q := by
  refine w_call IS_ok [] ok_Scene_copyFrom rfl rfl ?_
  refine c_Cells_copyFrom CA_25 CA_2 (by decide) (fun h1 s1 e1 => ?_)
  refine c_Cells_copyFrom CA_27 CA_4 (by decide) (fun h2 s2 e2 => ?_)
  refine c_Cells_copyFrom CA_29 CA_6 (by decide) (fun h3 s3 e3 => ?_)
  have f : ∀ k, h3.1 1 k = h.1 1 k := fun k => (s3.1 _ _ (by simp)).trans ((s2.1 _ _ (by simp)).trans (s1.1 _ _ (by simp)))
  refine hQ (pg (pg (pg (pg (pg (pg h3 24 3 (h3.1 1 3)) 24 4 (h3.1 1 4)) 24 5 (h3.1 1 5)) 24 6 (h3.1 1 6)) 24 7 (h3.1 1 7)) 24 8 (h3.1 1 8)) (((((((((s1.mo (by decide) (by decide)).t (s2.mo (by decide) (by decide))).t (s3.mo (by decide) (by decide))).t (Sm.pg _ (by decide))).t (Sm.pg _ (by decide))).t (Sm.pg _ (by decide))).t (Sm.pg _ (by decide))).t (Sm.pg _ (by decide))).t (Sm.pg _ (by decide))) (hC.cp hn (f 3) (f 4) (f 5) (f 6) (f 7) (f 8) (fun j hj => ?_) (fun j hj => ?_) (fun j hj => ?_))
  · show h3.2 26 j = h.2 3 j
    rw [s3.2 _ (by decide), s2.2 _ (by decide)]
    exact e1 j hj
  · show h3.2 28 j = h.2 5 j
    rw [s3.2 _ (by decide), e2 j hj, s1.2 _ (by decide)]
  · show h3.2 30 j = h.2 7 j
    rw [e3 j hj, s2.2 _ (by decide), s1.2 _ (by decide)]
theorem c_Scene_copyFrom_40_8 {S : Nat → Int} {h : St} {Q : Option Value → St → Prop} (hC : CS 8 S h) (hn : (S 1).toNat ≤ 20) (hQ : ∀ h', Sm (fl6 40) [42, 44, 46] h h' → CS 40 S h' → Q none h') : SC y_Scene_copyFrom [.ref 40, .ref 8] h Q := by
  refine w_call IS_ok [] ok_Scene_copyFrom rfl rfl ?_
  refine c_Cells_copyFrom CA_41 CA_9 (by decide) (fun h1 s1 e1 => ?_)
  refine c_Cells_copyFrom CA_43 CA_11 (by decide) (fun h2 s2 e2 => ?_)
  refine c_Cells_copyFrom CA_45 CA_13 (by decide) (fun h3 s3 e3 => ?_)
  have f : ∀ k, h3.1 8 k = h.1 8 k := fun k => (s3.1 _ _ (by simp)).trans ((s2.1 _ _ (by simp)).trans (s1.1 _ _ (by simp)))
  refine hQ (pg (pg (pg (pg (pg (pg h3 40 3 (h3.1 8 3)) 40 4 (h3.1 8 4)) 40 5 (h3.1 8 5)) 40 6 (h3.1 8 6)) 40 7 (h3.1 8 7)) 40 8 (h3.1 8 8)) (((((((((s1.mo (by decide) (by decide)).t (s2.mo (by decide) (by decide))).t (s3.mo (by decide) (by decide))).t (Sm.pg _ (by decide))).t (Sm.pg _ (by decide))).t (Sm.pg _ (by decide))).t (Sm.pg _ (by decide))).t (Sm.pg _ (by decide))).t (Sm.pg _ (by decide))) (hC.cp hn (f 3) (f 4) (f 5) (f 6) (f 7) (f 8) (fun j hj => ?_) (fun j hj => ?_) (fun j hj => ?_))
  · show h3.2 42 j = h.2 10 j
    rw [s3.2 _ (by decide), s2.2 _ (by decide)]
    exact e1 j hj
  · show h3.2 44 j = h.2 12 j
    rw [s3.2 _ (by decide), e2 j hj, s1.2 _ (by decide)]
  · show h3.2 46 j = h.2 14 j
    rw [e3 j hj, s2.2 _ (by decide), s1.2 _ (by decide)]
theorem c_Scene_copyFrom_47_8 {S : Nat → Int} {h : St} {Q : Option Value → St → Prop} (hC : CS 8 S h) (hn : (S 1).toNat ≤ 20) (hQ : ∀ h', Sm (fl6 47) [49, 51, 53] h h' → CS 47 S h' → Q none h') : SC y_Scene_copyFrom [.ref 47, .ref 8] h Q := by
  refine w_call IS_ok [] ok_Scene_copyFrom rfl rfl ?_
  refine c_Cells_copyFrom CA_48 CA_9 (by decide) (fun h1 s1 e1 => ?_)
  refine c_Cells_copyFrom CA_50 CA_11 (by decide) (fun h2 s2 e2 => ?_)
  refine c_Cells_copyFrom CA_52 CA_13 (by decide) (fun h3 s3 e3 => ?_)
  have f : ∀ k, h3.1 8 k = h.1 8 k := fun k => (s3.1 _ _ (by simp)).trans ((s2.1 _ _ (by simp)).trans (s1.1 _ _ (by simp)))
  refine hQ (pg (pg (pg (pg (pg (pg h3 47 3 (h3.1 8 3)) 47 4 (h3.1 8 4)) 47 5 (h3.1 8 5)) 47 6 (h3.1 8 6)) 47 7 (h3.1 8 7)) 47 8 (h3.1 8 8)) (((((((((s1.mo (by decide) (by decide)).t (s2.mo (by decide) (by decide))).t (s3.mo (by decide) (by decide))).t (Sm.pg _ (by decide))).t (Sm.pg _ (by decide))).t (Sm.pg _ (by decide))).t (Sm.pg _ (by decide))).t (Sm.pg _ (by decide))).t (Sm.pg _ (by decide))) (hC.cp hn (f 3) (f 4) (f 5) (f 6) (f 7) (f 8) (fun j hj => ?_) (fun j hj => ?_) (fun j hj => ?_))
  · show h3.2 49 j = h.2 10 j
    rw [s3.2 _ (by decide), s2.2 _ (by decide)]
    exact e1 j hj
  · show h3.2 51 j = h.2 12 j
    rw [s3.2 _ (by decide), e2 j hj, s1.2 _ (by decide)]
  · show h3.2 53 j = h.2 14 j
    rw [e3 j hj, s2.2 _ (by decide), s1.2 _ (by decide)]
theorem c_Scene_copyFrom_54_8 {S : Nat → Int} {h : St} {Q : Option Value → St → Prop} (hC : CS 8 S h) (hn : (S 1).toNat ≤ 20) (hQ : ∀ h', Sm (fl6 54) [56, 58, 60] h h' → CS 54 S h' → Q none h') : SC y_Scene_copyFrom [.ref 54, .ref 8] h Q := by
  refine w_call IS_ok [] ok_Scene_copyFrom rfl rfl ?_
  refine c_Cells_copyFrom CA_55 CA_9 (by decide) (fun h1 s1 e1 => ?_)
  refine c_Cells_copyFrom CA_57 CA_11 (by decide) (fun h2 s2 e2 => ?_)
  refine c_Cells_copyFrom CA_59 CA_13 (by decide) (fun h3 s3 e3 => ?_)
  have f : ∀ k, h3.1 8 k = h.1 8 k := fun k => (s3.1 _ _ (by simp)).trans ((s2.1 _ _ (by simp)).trans (s1.1 _ _ (by simp)))
  refine hQ (pg (pg (pg (pg (pg (pg h3 54 3 (h3.1 8 3)) 54 4 (h3.1 8 4)) 54 5 (h3.1 8 5)) 54 6 (h3.1 8 6)) 54 7 (h3.1 8 7)) 54 8 (h3.1 8 8)) (((((((((s1.mo (by decide) (by decide)).t (s2.mo (by decide) (by decide))).t (s3.mo (by decide) (by decide))).t (Sm.pg _ (by decide))).t (Sm.pg _ (by decide))).t (Sm.pg _ (by decide))).t (Sm.pg _ (by decide))).t (Sm.pg _ (by decide))).t (Sm.pg _ (by decide))) (hC.cp hn (f 3) (f 4) (f 5) (f 6) (f 7) (f 8) (fun j hj => ?_) (fun j hj => ?_) (fun j hj => ?_))
  · show h3.2 56 j = h.2 10 j
    rw [s3.2 _ (by decide), s2.2 _ (by decide)]
    exact e1 j hj
  · show h3.2 58 j = h.2 12 j
    rw [s3.2 _ (by decide), e2 j hj, s1.2 _ (by decide)]
  · show h3.2 60 j = h.2 14 j
    rw [e3 j hj, s2.2 _ (by decide), s1.2 _ (by decide)]
theorem c_Scene_copyFrom_61_8 {S : Nat → Int} {h : St} {Q : Option Value → St → Prop} (hC : CS 8 S h) (hn : (S 1).toNat ≤ 20) (hQ : ∀ h', Sm (fl6 61) [63, 65, 67] h h' → CS 61 S h' → Q none h') : SC y_Scene_copyFrom [.ref 61, .ref 8] h Q := by
  refine w_call IS_ok [] ok_Scene_copyFrom rfl rfl ?_
  refine c_Cells_copyFrom CA_62 CA_9 (by decide) (fun h1 s1 e1 => ?_)
  refine c_Cells_copyFrom CA_64 CA_11 (by decide) (fun h2 s2 e2 => ?_)
  refine c_Cells_copyFrom CA_66 CA_13 (by decide) (fun h3 s3 e3 => ?_)
  have f : ∀ k, h3.1 8 k = h.1 8 k := fun k => (s3.1 _ _ (by simp)).trans ((s2.1 _ _ (by simp)).trans (s1.1 _ _ (by simp)))
  refine hQ (pg (pg (pg (pg (pg (pg h3 61 3 (h3.1 8 3)) 61 4 (h3.1 8 4)) 61 5 (h3.1 8 5)) 61 6 (h3.1 8 6)) 61 7 (h3.1 8 7)) 61 8 (h3.1 8 8)) (((((((((s1.mo (by decide) (by decide)).t (s2.mo (by decide) (by decide))).t (s3.mo (by decide) (by decide))).t (Sm.pg _ (by decide))).t (Sm.pg _ (by decide))).t (Sm.pg _ (by decide))).t (Sm.pg _ (by decide))).t (Sm.pg _ (by decide))).t (Sm.pg _ (by decide))) (hC.cp hn (f 3) (f 4) (f 5) (f 6) (f 7) (f 8) (fun j hj => ?_) (fun j hj => ?_) (fun j hj => ?_))
  · show h3.2 63 j = h.2 10 j
    rw [s3.2 _ (by decide), s2.2 _ (by decide)]
    exact e1 j hj
  · show h3.2 65 j = h.2 12 j
    rw [s3.2 _ (by decide), e2 j hj, s1.2 _ (by decide)]
  · show h3.2 67 j = h.2 14 j
    rw [e3 j hj, s2.2 _ (by decide), s1.2 _ (by decide)]
theorem c_Scene_copyFrom_68_8 {S : Nat → Int} {h : St} {Q : Option Value → St → Prop} (hC : CS 8 S h) (hn : (S 1).toNat ≤ 20) (hQ : ∀ h', Sm (fl6 68) [70, 72, 74] h h' → CS 68 S h' → Q none h') : SC y_Scene_copyFrom [.ref 68, .ref 8] h Q := by
  refine w_call IS_ok [] ok_Scene_copyFrom rfl rfl ?_
  refine c_Cells_copyFrom CA_69 CA_9 (by decide) (fun h1 s1 e1 => ?_)
  refine c_Cells_copyFrom CA_71 CA_11 (by decide) (fun h2 s2 e2 => ?_)
  refine c_Cells_copyFrom CA_73 CA_13 (by decide) (fun h3 s3 e3 => ?_)
  have f : ∀ k, h3.1 8 k = h.1 8 k := fun k => (s3.1 _ _ (by simp)).trans ((s2.1 _ _ (by simp)).trans (s1.1 _ _ (by simp)))
  refine hQ (pg (pg (pg (pg (pg (pg h3 68 3 (h3.1 8 3)) 68 4 (h3.1 8 4)) 68 5 (h3.1 8 5)) 68 6 (h3.1 8 6)) 68 7 (h3.1 8 7)) 68 8 (h3.1 8 8)) (((((((((s1.mo (by decide) (by decide)).t (s2.mo (by decide) (by decide))).t (s3.mo (by decide) (by decide))).t (Sm.pg _ (by decide))).t (Sm.pg _ (by decide))).t (Sm.pg _ (by decide))).t (Sm.pg _ (by decide))).t (Sm.pg _ (by decide))).t (Sm.pg _ (by decide))) (hC.cp hn (f 3) (f 4) (f 5) (f 6) (f 7) (f 8) (fun j hj => ?_) (fun j hj => ?_) (fun j hj => ?_))
  · show h3.2 70 j = h.2 10 j
    rw [s3.2 _ (by decide), s2.2 _ (by decide)]
    exact e1 j hj
  · show h3.2 72 j = h.2 12 j
    rw [s3.2 _ (by decide), e2 j hj, s1.2 _ (by decide)]
  · show h3.2 74 j = h.2 14 j
    rw [e3 j hj, s2.2 _ (by decide), s1.2 _ (by decide)]
theorem c_Scene_copyFrom_1_40 {S : Nat → Int} {h : St} {Q : Option Value → St → Prop} (hC : CS 40 S h) (hn : (S 1).toNat ≤ 20) (hQ : ∀ h', Sm (fl6 1) [3, 5, 7] h h' → CS 1 S h' → Q none h') : SC y_Scene_copyFrom [.ref 1, .ref 40] h Q := by
  refine w_call IS_ok [] ok_Scene_copyFrom rfl rfl ?_
  refine c_Cells_copyFrom CA_2 CA_41 (by decide) (fun h1 s1 e1 => ?_)
  refine c_Cells_copyFrom CA_4 CA_43 (by decide) (fun h2 s2 e2 => ?_)
  refine c_Cells_copyFrom CA_6 CA_45 (by decide) (fun h3 s3 e3 => ?_)
  have f : ∀ k, h3.1 40 k = h.1 40 k := fun k => (s3.1 _ _ (by simp)).trans ((s2.1 _ _ (by simp)).trans (s1.1 _ _ (by simp)))
  refine hQ (pg (pg (pg (pg (pg (pg h3 1 3 (h3.1 40 3)) 1 4 (h3.1 40 4)) 1 5 (h3.1 40 5)) 1 6 (h3.1 40 6)) 1 7 (h3.1 40 7)) 1 8 (h3.1 40 8)) (((((((((s1.mo (by decide) (by decide)).t (s2.mo (by decide) (by decide))).t (s3.mo (by decide) (by decide))).t (Sm.pg _ (by decide))).t (Sm.pg _ (by decide))).t (Sm.pg _ (by decide))).t (Sm.pg _ (by decide))).t (Sm.pg _ (by decide))).t (Sm.pg _ (by decide))) (hC.cp hn (f 3) (f 4) (f 5) (f 6) (f 7) (f 8) (fun j hj => ?_) (fun j hj => ?_) (fun j hj => ?_))
  · show h3.2 3 j = h.2 42 j
    rw [s3.2 _ (by decide), s2.2 _ (by decide)]
    exact e1 j hj
  · show h3.2 5 j = h.2 44 j
    rw [s3.2 _ (by decide), e2 j hj, s1.2 _ (by decide)]
  · show h3.2 7 j = h.2 46 j
    rw [e3 j hj, s2.2 _ (by decide), s1.2 _ (by decide)]
theorem c_Scene_copyFrom_1_47 {S : Nat → Int} {h : St} {Q : Option Value → St → Prop} (hC : CS 47 S h) (hn : (S 1).toNat ≤ 20) (hQ : ∀ h', Sm (fl6 1) [3, 5, 7] h h' → CS 1 S h' → Q none h') : SC y_Scene_copyFrom [.ref 1, .ref 47] h Q := by
  refine w_call IS_ok [] ok_Scene_copyFrom rfl rfl ?_
  refine c_Cells_copyFrom CA_2 CA_48 (by decide) (fun h1 s1 e1 => ?_)
  refine c_Cells_copyFrom CA_4 CA_50 (by decide) (fun h2 s2 e2 => ?_)
  refine c_Cells_copyFrom CA_6 CA_52 (by decide) (fun h3 s3 e3 => ?_)
  have f : ∀ k, h3.1 47 k = h.1 47 k := fun k => (s3.1 _ _ (by simp)).trans ((s2.1 _ _ (by simp)).trans (s1.1 _ _ (by simp)))
  refine hQ (pg (pg (pg (pg (pg (pg h3 1 3 (h3.1 47 3)) 1 4 (h3.1 47 4)) 1 5 (h3.1 47 5)) 1 6 (h3.1 47 6)) 1 7 (h3.1 47 7)) 1 8 (h3.1 47 8)) (((((((((s1.mo (by decide) (by decide)).t (s2.mo (by decide) (by decide))).t (s3.mo (by decide) (by decide))).t (Sm.pg _ (by decide))).t (Sm.pg _ (by decide))).t (Sm.pg _ (by decide))).t (Sm.pg _ (by decide))).t (Sm.pg _ (by decide))).t (Sm.pg _ (by decide))) (hC.cp hn (f 3) (f 4) (f 5) (f 6) (f 7) (f 8) (fun j hj => ?_) (fun j hj => ?_) (fun j hj => ?_))
  · show h3.2 3 j = h.2 49 j
    rw [s3.2 _ (by decide), s2.2 _ (by decide)]
    exact e1 j hj
  · show h3.2 5 j = h.2 51 j
    rw [s3.2 _ (by decide), e2 j hj, s1.2 _ (by decide)]
  · show h3.2 7 j = h.2 53 j
    rw [e3 j hj, s2.2 _ (by decide), s1.2 _ (by decide)]
theorem c_Scene_copyFrom_1_54 {S : Nat → Int} {h : St} {Q : Option Value → St → Prop} (hC : CS 54 S h) (hn : (S 1).toNat ≤ 20) (hQ : ∀ h', Sm (fl6 1) [3, 5, 7] h h' → CS 1 S h' → Q none h') : SC y_Scene_copyFrom [.ref 1, .ref 54] h Q := by
  refine w_call IS_ok [] ok_Scene_copyFrom rfl rfl ?_
  refine c_Cells_copyFrom CA_2 CA_55 (by decide) (fun h1 s1 e1 => ?_)
  refine c_Cells_copyFrom CA_4 CA_57 (by decide) (fun h2 s2 e2 => ?_)
  refine c_Cells_copyFrom CA_6 CA_59 (by decide) (fun h3 s3 e3 => ?_)
  have f : ∀ k, h3.1 54 k = h.1 54 k := fun k => (s3.1 _ _ (by simp)).trans ((s2.1 _ _ (by simp)).trans (s1.1 _ _ (by simp)))
  refine hQ (pg (pg (pg (pg (pg (pg h3 1 3 (h3.1 54 3)) 1 4 (h3.1 54 4)) 1 5 (h3.1 54 5)) 1 6 (h3.1 54 6)) 1 7 (h3.1 54 7)) 1 8 (h3.1 54 8)) (((((((((s1.mo (by decide) (by decide)).t (s2.mo (by decide) (by decide))).t (s3.mo (by decide) (by decide))).t (Sm.pg _ (by decide))).t (Sm.pg _ (by decide))).t (Sm.pg _ (by decide))).t (Sm.pg _ (by decide))).t (Sm.pg _ (by decide))).t (Sm.pg _ (by decide))) (hC.cp hn (f 3) (f 4) (f 5) (f 6) (f 7) (f 8) (fun j hj => ?_) (fun j hj => ?_) (fun j hj => ?_))
  · show h3.2 3 j = h.2 56 j
    rw [s3.2 _ (by decide), s2.2 _ (by decide)]
    exact e1 j hj
  · show h3.2 5 j = h.2 58 j
    rw [s3.2 _ (by decide), e2 j hj, s1.2 _ (by decide)]
  · show h3.2 7 j = h.2 60 j
    rw [e3 j hj, s2.2 _ (by decide), s1.2 _ (by decide)]
theorem c_Scene_copyFrom_1_61 {S : Nat → Int} {h : St} {Q : Option Value → St → Prop} (hC : CS 61 S h) (hn : (S 1).toNat ≤ 20) (hQ : ∀ h', Sm (fl6 1) [3, 5, 7] h h' → CS 1 S h' → Q none h') : SC y_Scene_copyFrom [.ref 1, .ref 61] h Q := by
  refine w_call IS_ok [] ok_Scene_copyFrom rfl rfl ?_
  refine c_Cells_copyFrom CA_2 CA_62 (by decide) (fun h1 s1 e1 => ?_)
  refine c_Cells_copyFrom CA_4 CA_64 (by decide) (fun h2 s2 e2 => ?_)
  refine c_Cells_copyFrom CA_6 CA_66 (by decide) (fun h3 s3 e3 => ?_)
  have f : ∀ k, h3.1 61 k = h.1 61 k := fun k => (s3.1 _ _ (by simp)).trans ((s2.1 _ _ (by simp)).trans (s1.1 _ _ (by simp)))
  refine hQ (pg (pg (pg (pg (pg (pg h3 1 3 (h3.1 61 3)) 1 4 (h3.1 61 4)) 1 5 (h3.1 61 5)) 1 6 (h3.1 61 6)) 1 7 (h3.1 61 7)) 1 8 (h3.1 61 8)) (((((((((s1.mo (by decide) (by decide)).t (s2.mo (by decide) (by decide))).t (s3.mo (by decide) (by decide))).t (Sm.pg _ (by decide))).t (Sm.pg _ (by decide))).t (Sm.pg _ (by decide))).t (Sm.pg _ (by decide))).t (Sm.pg _ (by decide))).t (Sm.pg _ (by decide))) (hC.cp hn (f 3) (f 4) (f 5) (f 6) (f 7) (f 8) (fun j hj => ?_) (fun j hj => ?_) (fun j hj => ?_))
  · show h3.2 3 j = h.2 63 j
    rw [s3.2 _ (by decide), s2.2 _ (by decide)]
    exact e1 j hj
  · show h3.2 5 j = h.2 65 j
    rw [s3.2 _ (by decide), e2 j hj, s1.2 _ (by decide)]
  · show h3.2 7 j = h.2 67 j
    rw [e3 j hj, s2.2 _ (by decide), s1.2 _ (by decide)]
theorem c_Scene_copyFrom_1_68 {S : Nat → Int} {h : St} {Q : Option Value → St → Prop} (hC : CS 68 S h) (hn : (S 1).toNat ≤ 20) (hQ : ∀ h', Sm (fl6 1) [3, 5, 7] h h' → CS 1 S h' → Q none h') : SC y_Scene_copyFrom [.ref 1, .ref 68] h Q := by
  refine w_call IS_ok [] ok_Scene_copyFrom rfl rfl ?_
  refine c_Cells_copyFrom CA_2 CA_69 (by decide) (fun h1 s1 e1 => ?_)
  refine c_Cells_copyFrom CA_4 CA_71 (by decide) (fun h2 s2 e2 => ?_)
  refine c_Cells_copyFrom CA_6 CA_73 (by decide) (fun h3 s3 e3 => ?_)
  have f : ∀ k, h3.1 68 k = h.1 68 k := fun k => (s3.1 _ _ (by simp)).trans ((s2.1 _ _ (by simp)).trans (s1.1 _ _ (by simp)))
  refine hQ (pg (pg (pg (pg (pg (pg h3 1 3 (h3.1 68 3)) 1 4 (h3.1 68 4)) 1 5 (h3.1 68 5)) 1 6 (h3.1 68 6)) 1 7 (h3.1 68 7)) 1 8 (h3.1 68 8)) (((((((((s1.mo (by decide) (by decide)).t (s2.mo (by decide) (by decide))).t (s3.mo (by decide) (by decide))).t (Sm.pg _ (by decide))).t (Sm.pg _ (by decide))).t (Sm.pg _ (by decide))).t (Sm.pg _ (by decide))).t (Sm.pg _ (by decide))).t (Sm.pg _ (by decide))) (hC.cp hn (f 3) (f 4) (f 5) (f 6) (f 7) (f 8) (fun j hj => ?_) (fun j hj => ?_) (fun j hj => ?_))
  · show h3.2 3 j = h.2 70 j
    rw [s3.2 _ (by decide), s2.2 _ (by decide)]
    exact e1 j hj
  · show h3.2 5 j = h.2 72 j
    rw [s3.2 _ (by decide), e2 j hj, s1.2 _ (by decide)]
  · show h3.2 7 j = h.2 74 j
    rw [e3 j hj, s2.2 _ (by decide), s1.2 _ (by decide)]
