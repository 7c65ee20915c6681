/-! the class: forecasts -/
def FS (S : Nat → Int) (rule : Int) (step t : Nat) (X : Nat → Int) (h : St) : Prop := CS 1 S h ∧ CS 24 X h ∧ Fut S rule step t X ∧ WG (9999 + 20 * (t : Int)) X
theorem c_fut {S : Nat → Int} {rule : Int} {step t : Nat} {X : Nat → Int} {x2 : Int32} {h : St} {Q : Option Value → St → Prop} (hW : WF S) (ht : t ≤ 60) (hS : FS S rule step t X h) (hQ : ∀ h' X' r, Sm [(24, 8)] [28, 30, 33, 35] h h' → FS S rule step (t + 1) X' h' → (∀ p, p < 20 → h'.2 35 p = iI (hT S (oF S rule step t) (S 1).toNat 48 p : Nat) ∧ hT S (oF S rule step t) (S 1).toNat 48 p < 2000) → Q (some (.int r)) h') (hx : x2 = iI 1000000) : SC y_Scene_makeFrame [.ref 24, .ref 31, .int x2] h Q := by
  obtain ⟨c1, c24, hF, hG⟩ := hS
  have h5 := hG.2.2.2.2.2.1
  refine c_Scene_makeFrame_24 c24 hG (by omega) 1000000 (by omega) (fun g => by omega) (fun _ h' s1 c' hb => ?_) hx
  refine hQ h' (frS X) _ s1 ⟨c1.sm s1 (by decide) (by decide), c', hF.s hW hG, hG.fr.mo (by omega)⟩ (fun p hp => ?_)
  have := hb p hp
  rw [hF.hd hW p] at this
  exact this
theorem c_Fore_hiddenSince {S X : Nat → Int} {x : Int32} {h : St} {Q : Option Value → St → Prop} (c1 : CS 1 S h) (c24 : CS 24 X h) (p c : Nat) (hp : p < 20) (hc : X (26 + 9 * p + 6) = S (26 + 9 * p + 6) + c) (hQ : Q (some (.int (iI (c : Nat)))) h) (hx : x = iI (p : Nat)) : SC y_Fore_hiddenSince [.ref 23, .ref 1, .int x] h Q := by
  refine w_call IS_ok [] ok_Fore_hiddenSince rfl rfl ?_
  refine c_Cells_get2 CA_27 p 7 (by omega) ?_ hx rfl
  refine c_Cells_get2 CA_4 p 7 (by omega) ?_ hx rfl
  have e1 : h.2 28 (p * 10 + 7) = iI (X (26 + 9 * p + 6)) := c24.2.2.2.2.2 p hp 0 (by omega)
  have e2 : h.2 5 (p * 10 + 7) = iI (S (26 + 9 * p + 6)) := c1.2.2.2.2.2 p hp 0 (by omega)
  have e3 : h.2 28 (p * 10 + 7) - h.2 5 (p * 10 + 7) = iI (c : Nat) := by rw [e1, e2]; exact (iI_sub _ _).trans (congrArg iI (by omega))
  rw [← e3] at hQ
  exact hQ
theorem FS.begin {S : Nat → Int} {h : St} (hW : WF S) (c1 : CS 1 S h) (c24 : CS 24 S h) : FS S (S 3) (S 4).toNat 0 S h := by
  have h4 := hW.2.2.2.2.1
  exact ⟨c1, c24, ⟨⟨rfl, rfl, rfl, by omega, by omega⟩, fun _ _ => ⟨rfl, rfl⟩, fun _ _ => rfl, fun p _ => by show _ = _ + ((0 : Nat) : Int); omega⟩, hW.wg.mo (by omega)⟩
theorem fr24 {h h' : St} (s : Sm (fl6 24) [26, 28, 30] h h') : Fr 23 38 h h' := s.fr (by decide) (by decide)
theorem frfu {h h' : St} (s : Sm [(24, 8)] [28, 30, 33, 35] h h') : Fr 23 38 h h' := s.fr (by decide) (by decide)
theorem c_Fore_hiddenFrames {S : Nat → Int} {x2 x3 : Int32} {h : St} {Q : Option Value → St → Prop} (hC : CS 1 S h) (hW : WF S) (p f : Nat) (hp : p < 20) (hf : f ≤ 60) (hQ : ∀ h', Fr 23 38 h h' → Q (some (.int (iI (ofn S (S 3) (S 4).toNat p f : Nat)))) h') (h2 : x2 = iI (p : Nat)) (h3 : x3 = iI (f : Nat)) : SC y_Fore_hiddenFrames [.ref 23, .ref 1, .int x2, .int x3] h Q := by
  refine w_call IS_ok [11] ok_Fore_hiddenFrames rfl rfl ?_
  have hn := hW.n
  refine c_Scene_copyFrom_24_1 hC hn.2.1 (fun h1 s1 c24 => ?_)
  have fin : ∀ (hc : St) (X : Nat → Int) (z4 : Int32), Fr 23 38 h hc → FS S (S 3) (S 4).toNat f X hc → SR y_Fore_hiddenFrames 37 [some (.ref 23), some (.ref 1), some (.int x2), some (.int x3), some (.int z4)] [] hc Q := by
    intro hc X z4 fr hS
    refine w_loop IS_ok [] ok_Fore_hiddenFrames ?_
    exact c_Fore_hiddenSince hS.1 hS.2.1 p _ hp (hS.2.2.1.2.2.2 p hp) (hQ hc fr) h2
  have loop : ∀ (m t : Nat) (hc : St) (X : Nat → Int) (z4 : Int32), f ≤ t + m → t ≤ f → Fr 23 38 h hc → FS S (S 3) (S 4).toNat t X hc → z4 = iI t → SR y_Fore_hiddenFrames 11 [some (.ref 23), some (.ref 1), some (.int x2), some (.int x3), some (.int z4)] [] hc Q := by
    intro m
    induction m with
    | zero =>
      intro t hc X z4 hm ht fr hS e4
      have : t = f := by omega
      subst this
      refine w_loop IS_ok [37] ok_Fore_hiddenFrames ?_
      exact w_le t t (fun _ => fin hc X _ fr hS) (fun _ => by omega) h3 e4
    | succ m ih =>
      intro t hc X z4 hm ht fr hS e4
      refine w_loop IS_ok [11, 37] ok_Fore_hiddenFrames ?_
      refine w_le f t (fun g => ?_) (fun g => ?_) h3 e4
      · have : t = f := by omega
        subst this
        exact fin hc X _ fr hS
      · refine c_fut hW (by omega) hS (fun h' X' r s' hS' _ => ?_) rfl
        exact ih (t + 1) h' X' _ (by omega) (by omega) (fr.t (frfu s')) hS' (iI_1 e4)
  exact loop f 0 h1 S _ (by omega) (by omega) (fr24 s1) (FS.begin hW (hC.sm s1 (by decide) (by decide)) c24) rfl
theorem c_Fore_allShownWithin {S X : Nat → Int} {x2 : Int32} {h : St} {Q : Option Value → St → Prop} (hW : WF S) (t : Nat) (ht : t ≤ 60) (hS : FS S (S 3) (S 4).toNat t X h) (hQ0 : ¬ allS S t → Q (some (.int 0)) h) (hQ1 : allS S t → Q (some (.int 1)) h) (h2 : x2 = iI (t : Nat)) : SC y_Fore_allShownWithin [.ref 23, .ref 1, .int x2] h Q := by
  refine w_call IS_ok [2] ok_Fore_allShownWithin rfl rfl ?_
  have hn := hW.n
  have fin : (∀ k, k < (S 1).toNat → ofn S (S 3) (S 4).toNat (od S k) t < t) → Q (some (.int 1)) h := fun ha => hQ1 (fun k hk => ofn_lt.mp (ha k hk))
  have loop : ∀ (m k : Nat) (z3 : Int32), (S 1).toNat ≤ k + m → k ≤ (S 1).toNat → (∀ j, j < k → ofn S (S 3) (S 4).toNat (od S j) t < t) → z3 = iI k → SR y_Fore_allShownWithin 2 [some (.ref 23), some (.ref 1), some (.int x2), some (.int z3)] [] h Q := by
    intro m
    induction m with
    | zero =>
      intro k z3 hm hk ha e3
      refine w_loop IS_ok [2] ok_Fore_allShownWithin ?_
      exact w_le (S 1) k (fun _ => ⟨Or.inr rfl, fin (fun j hj => ha j (by omega))⟩) (fun _ => by omega) hS.1.1.1 e3
    | succ m ih =>
      intro k z3 hm hk ha e3
      refine w_loop IS_ok [2] ok_Fore_allShownWithin ?_
      refine w_le (S 1) k (fun _ => ⟨Or.inr rfl, fin (fun j hj => ha j (by omega))⟩) (fun g => ?_) hS.1.1.1 e3
      have o := hW.od (k := k) (by omega)
      refine c_Cells_get1 CA_6 k (by omega) ?_ e3
      have eo : h.2 7 k = iI (od S k : Nat) := od_row hS.1 hW (by omega)
      have hle := ofn_le S (S 3) (S 4).toNat (od S k) t
      refine c_Fore_hiddenSince hS.1 hS.2.1 (od S k) _ o.2.1 (hS.2.2.1.2.2.2 _ o.2.1) ?_ eo
      refine w_lt (ofn S (S 3) (S 4).toNat (od S k) t : Nat) t (fun g2 => ?_) (fun g2 => ?_) rfl h2
      · refine ih (k + 1) _ (by omega) (by omega) (fun j hj => ?_) (iI_1 e3)
        by_cases z : j = k
        · subst z; omega
        · exact ha j (by omega)
      · refine ⟨Or.inl rfl, hQ0 (fun hall => ?_)⟩
        have := ofn_lt.mpr (hall k (by omega))
        omega
  exact loop (S 1).toNat 0 _ (by omega) (by omega) (fun j hj => by omega) rfl
theorem c_Fore_framesUntilAllShown {S : Nat → Int} {h : St} {Q : Option Value → St → Prop} (hC : CS 1 S h) (hW : WF S) (hQ : ∀ h' r, Fr 23 38 h h' → AllR S r → Q (some (.int (iI r))) h') : SC y_Fore_framesUntilAllShown [.ref 23, .ref 1] h Q := by
  refine w_call IS_ok [19] ok_Fore_framesUntilAllShown rfl rfl ?_
  have hn := hW.n
  refine w_eq (S 1) 0 (fun g => ?_) (fun g => ?_) hC.1.1 rfl
  · exact hQ h 0 Fr.rf (Or.inl ⟨0, by omega, rfl, fun k hk => by omega, fun u hu => by omega⟩)
  refine c_Scene_copyFrom_24_1 hC hn.2.1 (fun h1 s1 c24 => ?_)
  have n0 : ¬ allS S 0 := fun ha => by
    obtain ⟨i, hi, -⟩ := ha 0 (by omega)
    omega
  have fin : ∀ (hc : St), Fr 23 38 h hc → (∀ u, u < 61 → ¬ allS S u) → Q (some (.int (-109))) hc := fun hc fr hno => hQ hc (-109) fr (Or.inr ⟨rfl, fun u hu => hno u (by omega)⟩)
  have loop : ∀ (m t : Nat) (hc : St) (X : Nat → Int) (z2 : Int32), 60 ≤ t + m → t ≤ 60 → Fr 23 38 h hc → FS S (S 3) (S 4).toNat t X hc → (∀ u, u < t + 1 → ¬ allS S u) → z2 = iI (t + 1 : Nat) → SR y_Fore_framesUntilAllShown 19 [some (.ref 23), some (.ref 1), some (.int z2)] [] hc Q := by
    intro m
    induction m with
    | zero =>
      intro t hc X z2 hm ht fr hS hno e2
      refine w_loop IS_ok [19] ok_Fore_framesUntilAllShown ?_
      exact w_lt 60 (t + 1 : Nat) (fun _ => fin hc fr (fun u hu => hno u (by omega))) (fun _ => by omega) rfl e2
    | succ m ih =>
      intro t hc X z2 hm ht fr hS hno e2
      refine w_loop IS_ok [19] ok_Fore_framesUntilAllShown ?_
      refine w_lt 60 (t + 1 : Nat) (fun _ => fin hc fr (fun u hu => hno u (by omega))) (fun g => ?_) rfl e2
      refine c_fut hW (by omega) hS (fun h' X' r s' hS' _ => ?_) rfl
      have fr' := fr.t (frfu s')
      refine c_Fore_allShownWithin hW (t + 1) (by omega) hS' (fun hno2 => ?_) (fun hall => ?_) e2
      · refine ih (t + 1) h' X' _ (by omega) (by omega) fr' hS' (fun u hu => ?_) (iI_1 e2)
        by_cases z : u = t + 1
        · subst z; exact hno2
        · exact hno u (by omega)
      · have := hQ h' (t + 1 : Nat) fr' (Or.inl ⟨t + 1, by omega, rfl, hall, hno⟩)
        rw [← e2] at this
        exact this
  refine loop 60 0 h1 S _ (by omega) (by omega) (fr24 s1) (FS.begin hW (hC.sm s1 (by decide) (by decide)) c24) (fun u hu => ?_) rfl
  have : u = 0 := by omega
  subst this
  exact n0
/-- the hidden ones by turns, for the first k turns -/
def HbT (S : Nat → Int) (k : Nat) (h : St) : Prop := ∀ t, t < k → ∃ w, w < 2 ^ 20 ∧ h.2 37 t = nI w ∧ ∀ p, p < 20 → w.testBit p = hB S (oF S 1 1 t) p
theorem c_Fore_noteHiddenByTurns {S : Nat → Int} {h : St} {Q : Option Value → St → Prop} (hC : CS 1 S h) (hW : WF S) (hQ : ∀ h', Fr 23 38 h h' → CS 1 S h' → HbT S (S 1).toNat h' → Q none h') : SC y_Fore_noteHiddenByTurns [.ref 23, .ref 1] h Q := by
  refine w_call IS_ok [26] ok_Fore_noteHiddenByTurns rfl rfl ?_
  have hn := hW.n
  refine c_Scene_copyFrom_24_1 hC hn.2.1 (fun h1 s1 c24 => ?_)
  have hX : FS S 1 1 0 (u1 (u1 S 3 1) 4 1) (pg (pg h1 24 6 1) 24 7 1) := by
    obtain ⟨g0, g1, g2, g3, g4, g5, god, ginj, gy, gc⟩ := hW.wg
    have e : ∀ i, i ≠ 3 → i ≠ 4 → u1 (u1 S 3 1) 4 1 i = S i := fun i h1 h2 => (u1_n _ _ h2).trans (u1_n _ _ h1)
    have eo : ∀ k, od (u1 (u1 S 3 1) 4 1) k = od S k := fun k => by show (u1 (u1 S 3 1) 4 1 (6 + k)).toNat = _; rw [e _ (by omega) (by omega)]
    have s2 : Sm [(24, 6), (24, 7)] [] h1 (pg (pg h1 24 6 1) 24 7 1) := (Sm.pg _ (by decide)).t (Sm.pg _ (by decide))
    refine ⟨(hC.sm s1 (by decide) (by decide)).sm s2 (by decide) (by decide), c24.mk2 rfl rfl ⟨c24.1.1, c24.1.2.1, c24.1.2.2.1, rfl, rfl, c24.1.2.2.2.2.2⟩ (fun k hk => ?_) rfl (fun i hi => e i (by omega) (by omega)), ⟨⟨rfl, rfl, rfl, rfl, by show S 5 = _ + ((0 : Nat) : Int); omega⟩, fun p hp => ⟨e _ (by omega) (by omega), e _ (by omega) (by omega)⟩, fun k hk => eo k, fun p hp => by rw [e _ (by omega) (by omega)]; show _ = _ + ((0 : Nat) : Int); omega⟩, ⟨g0, g1, g2, by show (0 : Int) ≤ 1 ∧ (1 : Int) ≤ 2; omega, by show (1 : Int) ≤ 1 ∧ (1 : Int) ≤ 19; omega, by show 0 ≤ S 5 ∧ S 5 ≤ _; omega, fun k hk => ?_, fun j k hj hk he => ?_, fun p hp => ?_, fun p hp j hj => ?_⟩⟩
    · rw [e _ (by omega) (by omega)]
      exact c24.2.2.1 k hk
    · rw [eo, e _ (by omega) (by omega)]
      exact god k hk
    · rw [eo, eo] at he
      exact ginj j k hj hk he
    · rw [e _ (by omega) (by omega)]
      exact gy p hp
    · rw [e _ (by omega) (by omega)]
      have := gc p hp j hj
      omega
  have loop : ∀ (m t : Nat) (hc : St) (X : Nat → Int) (z2 : Int32), (S 1).toNat ≤ t + m → t ≤ (S 1).toNat → Fr 23 38 h hc → FS S 1 1 t X hc → HbT S t hc → z2 = iI t → SR y_Fore_noteHiddenByTurns 26 [some (.ref 23), some (.ref 1), some (.int z2)] [] hc Q := by
    intro m
    induction m with
    | zero =>
      intro t hc X z2 hm ht fr hS hb e2
      have : t = (S 1).toNat := by omega
      subst this
      refine w_loop IS_ok [26] ok_Fore_noteHiddenByTurns ?_
      exact w_le (S 1) (S 1).toNat (fun _ => hQ hc fr hS.1 hb) (fun _ => by omega) hS.1.1.1 e2
    | succ m ih =>
      intro t hc X z2 hm ht fr hS hb e2
      refine w_loop IS_ok [26] ok_Fore_noteHiddenByTurns ?_
      refine w_le (S 1) t (fun g => ?_) (fun g => ?_) hS.1.1.1 e2
      · have : t = (S 1).toNat := by omega
        subst this
        exact hQ hc fr hS.1 hb
      refine c_fut hW (by omega) hS (fun h' X' r s' hS' hbb => ?_) rfl
      refine c_Surv_hiddenBits_24 (B := fun p => hT S (oF S 1 1 t) (S 1).toNat 48 p) hbb (fun w hw hwb => ?_)
      refine c_Cells_set2 CA_36 t (by omega) ?_ e2
      have s3 : Sm [] [37] h' (wa h' 37 t (nI w)) := Sm.wa _ _ (by decide)
      refine ih (t + 1) (wa h' 37 t (nI w)) X' _ (by omega) (by omega) (fr.t ((frfu s').t (s3.fr (by decide) (by decide)))) ⟨hS'.1.sm s3 (by decide) (by decide), hS'.2.1.sm s3 (by decide) (by decide), hS'.2.2⟩ (fun u hu => ?_) (iI_1 e2)
      by_cases z : u = t
      · subst z
        exact ⟨w, hw, wa_s _ _ _ _, hwb⟩
      · obtain ⟨w2, a1, a2, a3⟩ := hb u (by omega)
        exact ⟨w2, a1, by rw [wa_n _ _ _ _ z, s'.2 _ (by decide)]; exact a2, a3⟩
  refine loop (S 1).toNat 0 (pg (pg h1 24 6 1) 24 7 1) _ _ (by omega) (by omega) ((fr24 s1).t ?_) hX (fun u hu => by omega) rfl
  exact Sm.fr (X := [(24, 6), (24, 7)]) (Y := []) ((Sm.pg _ (by decide)).t (Sm.pg _ (by decide))) (by decide) (by decide)
theorem c_Fore_framesHidden {S : Nat → Int} {x1 x2 x3 : Int32} {h : St} {Q : Option Value → St → Prop} (hW : WF S) (hb : HbT S (S 1).toNat h) (p s : Nat) (hp : p < 20) (hs : s ≤ 19) (hn0 : 0 < (S 1).toNat) (hQ : Q (some (.int (iI (ofn S 1 s p 20 : Nat)))) h) (h1 : x1 = iI (p : Nat)) (h2 : x2 = iI (s : Nat)) (h3 : x3 = iI (S 1)) : SC y_Fore_framesHidden [.ref 23, .int x1, .int x2, .int x3] h Q := by
  refine w_call IS_ok [6] ok_Fore_framesHidden rfl rfl ?_
  have hn := hW.n
  have e3 : x3 = iI ((S 1).toNat : Nat) := h3.trans (congrArg iI hn.1)
  have loop : ∀ (m f : Nat) (z4 z5 : Int32) (L6 : Option Value), 20 ≤ f + m → f ≤ 20 → z4 = iI (ofn S 1 s p f : Nat) → z5 = iI f → SR y_Fore_framesHidden 6 [some (.ref 23), some (.int x1), some (.int x2), some (.int x3), some (.int z4), some (.int z5), L6] [] h Q := by
    intro m
    induction m with
    | zero =>
      intro f z4 z5 L6 hm hf e4 e5
      have : f = 20 := by omega
      subst this
      refine w_loop IS_ok [6] ok_Fore_framesHidden ?_
      exact w_le 20 20 (fun _ => by rw [e4]; exact hQ) (fun _ => by omega) rfl e5
    | succ m ih =>
      intro f z4 z5 L6 hm hf e4 e5
      refine w_loop IS_ok [6] ok_Fore_framesHidden ?_
      refine w_le 20 f (fun g => ?_) (fun g => ?_) rfl e5
      · have : f = 20 := by omega
        subst this
        rw [e4]; exact hQ
      refine w_le (S 1) 0 (fun g2 => by omega) (fun g2 => ?_) h3 rfl
      refine ⟨fun z => ?_, ?_⟩
      · have z2 := (iI_eq (a := S 1) (b := 0) (by omega) (by omega)).mp (h3.symm.trans z)
        omega
      have hfs : f * s ≤ 20 * 19 := Nat.mul_le_mul hf hs
      have em : z5 * x2 = iI ((f * s : Nat) : Int) := by rw [e5, h2]; exact (iI_mul f s).trans (congrArg iI (by omega))
      have er := modr em e3 (by omega) (by omega) hn0
      have hlt := Nat.mod_lt (f * s) (show (S 1).toNat > 0 by omega)
      refine c_Cells_get1 CA_36 (f * s % (S 1).toNat) (by omega) ?_ er
      obtain ⟨w, w1, w2, w3⟩ := hb _ hlt
      have e6 : (h.2 37 (f * s % (S 1).toNat) >>> (x1 &&& 31)) &&& 1 = iI ((if hB S (oF S 1 s f) p then 1 else 0 : Nat) : Int) := by
        rw [w2, h1, bit_is (B := fun q => hB S (oF S 1 1 (f * s % (S 1).toNat)) q) w1 hp (w3 p hp), hB_rot hW]
        split <;> rfl
      refine ih (f + 1) _ _ _ (by omega) (by omega) ?_ (iI_1 e5)
      rw [e6, e4]
      exact (iI_add _ _).trans (congrArg iI (by rw [← Int.natCast_add]; rfl))
  exact loop 20 0 _ _ _ (by omega) (by omega) rfl rfl
theorem c_Fore_greatestWith {S : Nat → Int} {x2 : Int32} {h : St} {Q : Option Value → St → Prop} (hC : CS 1 S h) (hW : WF S) (hb : HbT S (S 1).toNat h) (s : Nat) (hs : s ≤ 19) (hQ : Q (some (.int (iI (grb S s : Nat)))) h) (h2 : x2 = iI (s : Nat)) : SC y_Fore_greatestWith [.ref 23, .ref 1, .int x2] h Q := by
  refine w_call IS_ok [5] ok_Fore_greatestWith rfl rfl ?_
  have hn := hW.n
  have loop : ∀ (m k M : Nat) (z3 z4 : Int32), (S 1).toNat ≤ k + m → k ≤ (S 1).toNat → (∀ j, j < k → ofn S 1 s (od S j) 20 ≤ M) → (M = 0 ∨ ∃ j, j < k ∧ M = ofn S 1 s (od S j) 20) → M ≤ 20 → z3 = iI (M : Nat) → z4 = iI k → SR y_Fore_greatestWith 5 [some (.ref 23), some (.ref 1), some (.int x2), some (.int z3), some (.int z4)] [] h Q := by
    intro m
    induction m with
    | zero =>
      intro k M z3 z4 hm hk h1 h3 hM e3 e4
      have : k = (S 1).toNat := by omega
      subst this
      refine w_loop IS_ok [5] ok_Fore_greatestWith ?_
      refine w_le (S 1) (S 1).toNat (fun _ => ?_) (fun _ => by omega) hC.1.1 e4
      rw [e3, grb_is hW h1 h3]
      exact hQ
    | succ m ih =>
      intro k M z3 z4 hm hk h1 h3 hM e3 e4
      refine w_loop IS_ok [5] ok_Fore_greatestWith ?_
      refine w_le (S 1) k (fun g => ?_) (fun g => ?_) hC.1.1 e4
      · have : k = (S 1).toNat := by omega
        subst this
        rw [e3, grb_is hW h1 h3]
        exact hQ
      have o := hW.od (k := k) (by omega)
      refine c_Cells_get1 CA_6 k (by omega) ?_ e4
      have hle := ofn_le S 1 s (od S k) 20
      refine c_Fore_framesHidden hW hb (od S k) s o.2.1 hs (by omega) ?_ (od_row hC hW (by omega)) h2 hC.1.1
      refine c_J_max M (ofn S 1 s (od S k) 20 : Nat) ?_ e3 rfl
      by_cases z : ofn S 1 s (od S k) 20 ≤ M
      · rw [if_pos (by omega)]
        refine ih (k + 1) M _ _ (by omega) (by omega) (fun j hj => ?_) ?_ hM rfl (iI_1 e4)
        · by_cases z2 : j = k
          · subst z2; exact z
          · exact h1 j (by omega)
        · rcases h3 with h3 | ⟨j, hj, h3⟩
          · exact Or.inl h3
          · exact Or.inr ⟨j, by omega, h3⟩
      · rw [if_neg (by omega)]
        refine ih (k + 1) (ofn S 1 s (od S k) 20) _ _ (by omega) (by omega) (fun j hj => ?_) (Or.inr ⟨k, by omega, rfl⟩) hle rfl (iI_1 e4)
        by_cases z2 : j = k
        · subst z2; exact Nat.le_refl _
        · have := h1 j (by omega); omega
  exact loop (S 1).toNat 0 0 _ _ (by omega) (by omega) (fun j hj => by omega) (Or.inl rfl) (by omega) rfl rfl
theorem c_Fore_findStep {S : Nat → Int} {h : St} {Q : Option Value → St → Prop} (hC : CS 1 S h) (hW : WF S) (hQ : ∀ h', Fr 23 38 h h' → h'.1 23 3 = iI ((bsF (grb S) 18).1 : Nat) → h'.1 23 4 = iI ((bsF (grb S) 18).2 : Nat) → Q none h') : SC y_Fore_findStep [.ref 23, .ref 1] h Q := by
  refine w_call IS_ok [22] ok_Fore_findStep rfl rfl ?_
  refine c_Fore_noteHiddenByTurns hC hW (fun h1 f1 c1 hb => ?_)
  refine c_Fore_greatestWith (h := pg h1 23 3 1) (c1.sm (Sm.pg (X := [(23, 3)]) (Y := []) _ (by decide)) (by decide) (by decide)) hW (fun t ht => hb t ht) 1 (by omega) ?_ rfl
  have hgb := fun s => grb_b S s
  have loop : ∀ (m k : Nat) (hc : St) (z2 : Int32) (L3 : Option Value), 18 ≤ k + m → k ≤ 18 → Fr 23 38 h hc → CS 1 S hc → HbT S (S 1).toNat hc → hc.1 23 3 = iI ((bsF (grb S) k).1 : Nat) → hc.1 23 4 = iI ((bsF (grb S) k).2 : Nat) → z2 = iI (k + 2 : Nat) → SR y_Fore_findStep 22 [some (.ref 23), some (.ref 1), some (.int z2), L3] [] hc Q := by
    intro m
    induction m with
    | zero =>
      intro k hc z2 L3 hm hk fr hCc hbc e3 e4 e2
      have : k = 18 := by omega
      subst this
      refine w_loop IS_ok [22] ok_Fore_findStep ?_
      exact w_lt 19 (18 + 2 : Nat) (fun _ => hQ hc fr e3 e4) (fun _ => by omega) rfl e2
    | succ m ih =>
      intro k hc z2 L3 hm hk fr hCc hbc e3 e4 e2
      refine w_loop IS_ok [22] ok_Fore_findStep ?_
      refine w_lt 19 (k + 2 : Nat) (fun g => ?_) (fun g => ?_) rfl e2
      · have : k = 18 := by omega
        subst this
        exact hQ hc fr e3 e4
      refine c_Fore_greatestWith hCc hW hbc (k + 2) (by omega) ?_ e2
      have hb2 := bsF_b hgb k
      have hg2 := hgb (k + 2)
      refine w_le (bsF (grb S) k).2 (grb S (k + 2) : Nat) (fun g2 => ?_) (fun g2 => ?_) e4 rfl
      · refine ih (k + 1) hc _ _ (by omega) (by omega) fr hCc hbc ?_ ?_ (iI_1 e2)
        · rw [e3]; unfold bsF; rw [if_neg (by omega)]; cases k <;> rfl
        · rw [e4]; unfold bsF; rw [if_neg (by omega)]; cases k <;> rfl
      · have s3 : Sm [(23, 3), (23, 4)] [] hc (pg (pg hc 23 3 z2) 23 4 (iI (grb S (k + 2) : Nat))) := (Sm.pg _ (by decide)).t (Sm.pg _ (by decide))
        refine ih (k + 1) (pg (pg hc 23 3 z2) 23 4 (iI (grb S (k + 2) : Nat))) _ _ (by omega) (by omega) (fr.t (s3.fr (by decide) (by decide))) (hCc.sm s3 (by decide) (by decide)) (fun t ht => hbc t ht) ?_ ?_ (iI_1 e2)
        · rw [pg_n _ _ _ _ (by omega), pg_s, e2]; unfold bsF; rw [if_pos (by omega)]
        · rw [pg_s]; unfold bsF; rw [if_pos (by omega)]
  have s4 : Sm [(23, 3), (23, 4)] [] h1 (pg (pg h1 23 3 1) 23 4 (iI (grb S 1 : Nat))) := (Sm.pg _ (by decide)).t (Sm.pg _ (by decide))
  exact loop 18 0 (pg (pg h1 23 3 1) 23 4 (iI (grb S 1 : Nat))) _ _ (by omega) (by omega) (f1.t (s4.fr (by decide) (by decide))) (c1.sm s4 (by decide) (by decide)) (fun t ht => hb t ht) rfl rfl rfl
section
variable {S : Nat → Int} {n : Nat} {H : Nat → Nat → Int} {N : Nat} {T : Nat → Nat} {f : Nat} {G : Nat → Int} {h : St} {Q : Option Value → St → Prop}
theorem c_P_hiddenIn {x1 x2 : Int32} (hI : CI S n H N T f G h) (hW : WF S) (p k : Int) (hQ : ∀ h' r, Fr 15 38 h h' → HinR S p k r → Q (some (.int (iI r))) h') (h1 : x1 = iI p) (h2 : x2 = iI k) (rp : rg p) (rk : rg k) : SC y_P_hiddenIn [.ref 0, .int x1, .int x2] h Q := by
  unfold HinR at hQ
  refine w_call IS_ok [] ok_P_hiddenIn rfl rfl ?_
  refine c_Scene_exists hI.1 hW p ?_ h1 rp
  refine w_b (fun g => hQ h (-101) Fr.rf (Or.inl ⟨fun z => g z.1, rfl⟩)) (fun g => ?_)
  refine c_P_within k 1 60 ?_ h2 rfl rfl rk
  refine w_b (fun g2 => hQ h (-101) Fr.rf (Or.inl ⟨fun z => g2 z.2, rfl⟩)) (fun g2 => ?_)
  have hb := thr_b hW g
  exact c_Fore_hiddenFrames hI.1 hW p.toNat k.toNat (by omega) (by omega) (fun h' fr => hQ h' _ (fr.w (by omega) (by omega)) (Or.inr ⟨⟨g, g2⟩, rfl⟩)) (h1.trans (congrArg iI (by omega))) (h2.trans (congrArg iI (by omega)))
theorem c_P_allShownIn (hI : CI S n H N T f G h) (hW : WF S) (hQ : ∀ h' r, Fr 15 38 h h' → AllR S r → Q (some (.int (iI r))) h') : SC y_P_allShownIn [.ref 0] h Q := by
  refine w_call IS_ok [] ok_P_allShownIn rfl rfl ?_
  exact c_Fore_framesUntilAllShown hI.1 hW (fun h' r fr hR => hQ h' r (fr.w (by omega) (by omega)) hR)
theorem c_P_bestStep {x1 : Int32} (hI : CI S n H N T f G h) (hW : WF S) (w : Int) (hQ : ∀ h' r, Fr 15 38 h h' → BstR S w r → Q (some (.int (iI r))) h') (h1 : x1 = iI w) (rw' : rg w) : SC y_P_bestStep [.ref 0, .int x1] h Q := by
  unfold BstR at hQ
  refine w_call IS_ok [] ok_P_bestStep rfl rfl ?_
  refine c_P_within w 0 1 ?_ h1 rfl rfl rw'
  refine w_b (fun g => hQ h (-101) Fr.rf (Or.inl ⟨g, rfl⟩)) (fun g => ?_)
  refine c_Fore_findStep hI.1 hW (fun h' fr e3 e4 => ?_)
  have fr' := fr.w (show 15 ≤ 23 by omega) (show 38 ≤ 38 by omega)
  refine w_eq w 0 (fun g2 => ?_) (fun g2 => ?_) h1 rfl rw'
  · have := hQ h' _ fr' (Or.inr (Or.inl ⟨g2, rfl⟩))
    rw [← e3] at this
    exact this
  · have := hQ h' _ fr' (Or.inr (Or.inr ⟨by omega, rfl⟩))
    rw [← e4] at this
    exact this
end
