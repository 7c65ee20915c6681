/-! reading a text: characters, numbers -/
/-- the character at a place, 0 behind the end -/
def chr (n : Nat) (T : Nat → Nat) (i : Nat) : Nat := if i < n then T i else 0
def TxB (n : Nat) (T : Nat → Nat) : Prop := n ≤ 100 ∧ ∀ i, i < n → 1 ≤ T i ∧ T i ≤ 255
theorem chr_b {n : Nat} {T : Nat → Nat} (h : TxB n T) (i : Nat) : chr n T i ≤ 255 := by
  unfold chr
  split
  · next hi => exact (h.2 i hi).2
  · omega
def isD (c : Nat) : Prop := 48 ≤ c ∧ c ≤ 57
abbrev isDb (c : Nat) : Bool := decide (48 ≤ c ∧ c ≤ 57)
/-- a number goes on behind j digits of the value v: its value, and how many digits it has -/
def ext (ch : Nat → Nat) (i : Nat) : Nat → Nat → Nat → Nat × Nat
  | 0, j, v => (v, j)
  | f + 1, j, v => if isDb (ch (i + j)) = true ∧ 0 < v ∧ j < 3 then ext ch i f (j + 1) (10 * v + (ch (i + j) - 48)) else (v, j)
def nd (ch : Nat → Nat) (i : Nat) : Nat := if isDb (ch i) = true then (ext ch i 3 1 (ch i - 48)).2 else 0
def nv (ch : Nat → Nat) (i : Nat) : Nat := if isDb (ch i) = true then (ext ch i 3 1 (ch i - 48)).1 else 0
theorem ext_b (ch : Nat → Nat) (i : Nat) : ∀ f j v : Nat, 1 ≤ j → j ≤ 3 → v < 10 ^ j → (ext ch i f j v).1 < 1000 ∧ 1 ≤ (ext ch i f j v).2 ∧ (ext ch i f j v).2 ≤ 3
  | 0, j, v, h0, h1, h2 => by
    refine ⟨?_, h0, h1⟩
    have : 10 ^ j ≤ 10 ^ 3 := Nat.pow_le_pow_right (by decide) h1
    show v < 1000
    omega
  | f + 1, j, v, h0, h1, h2 => by
    have h3 : 10 ^ j ≤ 10 ^ 3 := Nat.pow_le_pow_right (by decide) h1
    unfold ext
    split
    · next h =>
      have hd : 48 ≤ ch (i + j) ∧ ch (i + j) ≤ 57 := by simpa using h.1
      exact ext_b ch i f (j + 1) _ (by omega) (by omega) (by rw [Nat.pow_succ]; omega)
    · exact ⟨by show v < 1000; omega, h0, h1⟩
theorem nd_b (ch : Nat → Nat) (i : Nat) : nd ch i ≤ 3 ∧ nv ch i < 1000 ∧ (nd ch i = 0 ↔ isDb (ch i) = false) := by
  unfold nd nv
  by_cases h : isDb (ch i) = true
  · have hd : 48 ≤ ch i ∧ ch i ≤ 57 := by simpa using h
    have := ext_b ch i 3 1 (ch i - 48) (by omega) (by omega) (by omega)
    rw [if_pos h, if_pos h]
    refine ⟨this.2.2, this.1, fun z => by omega, fun z => by rw [z] at h; cases h⟩
  · rw [if_neg h, if_neg h]
    exact ⟨by omega, by omega, fun _ => by simpa using h, fun _ => rfl⟩
/-- the reference's reading: where it is, how deep, how much it has noted -/
def RdS (n : Nat) (T : Nat → Nat) (i d c : Nat) (h : St) : Prop := MTx n T h ∧ h.1 90 23 = iI i ∧ h.1 90 24 = iI d ∧ h.1 90 17 = iI c ∧ h.1 90 25 = 1
/-- what is noted of a failure -/
def fG (k p d a c : Int) : Nat → Int := fun j => if j = 0 then k else if j = 1 then p else if j = 2 then d else if j = 3 then a else c
theorem c_M_at {n : Nat} {T : Nat → Nat} {x1 : Int32} {h : St} {Q : Option Value → St → Prop} (hT : MTx n T h) (hB : TxB n T) (i : Nat) (hi : i < 1000) (hQ : Q (some (.int (iI (if i < n then (T i : Int) else -1)))) h) (h1 : x1 = iI i) : SC y_M_at [.ref 90, .int x1] h Q := by
  refine w_call IS_ok [] ok_M_at rfl rfl ?_
  have hn := hB.1
  refine w_le n i (fun g => ?_) (fun g => ?_) hT.1 h1
  · rw [if_neg (by omega)] at hQ
    exact hQ
  · rw [if_pos (by omega), ← hT.2 i (by omega)] at hQ
    exact w_ix i hQ h1 (show i < 100 by omega)
theorem c_M_isDigit {n : Nat} {T : Nat → Nat} {h : St} {Q : Option Value → St → Prop} (hT : MTx n T h) (hB : TxB n T) (i : Nat) (hi : i < 1000) (hn : h.1 90 23 = iI i) (hQ : Q (some (.int (bI (isDb (chr n T i) = true)))) h) : SC y_M_isDigit [.ref 90] h Q := by
  refine w_call IS_ok [] ok_M_isDigit rfl rfl ?_
  refine c_M_at hT hB i hi ?_ hn
  have hc : -1 ≤ (if i < n then (T i : Int) else -1) ∧ (if i < n then (T i : Int) else -1) ≤ 255 := by
    split
    · next h => have := hB.2 i h; omega
    · omega
  refine c_M_in (if i < n then (T i : Int) else -1) 48 57 ⟨bI_01 _, ?_⟩ rfl rfl rfl (by omega) (by omega) (by omega)
  rw [bI_iff (d := isDb (chr n T i) = true)]
  · exact hQ
  · unfold chr
    simp only [decide_eq_true_eq]
    split <;> omega
def fl5 (h : St) (k p d a c : Int32) : St := (pf (pf h 25 0) 21 1).1 |> fun F => (F, u1 h.2 108 (u1 (u1 (u1 (u1 (u1 (h.2 108) 0 k) 1 p) 2 d) 3 a) 4 c))
theorem c_M_fail {x1 x2 x3 x4 x5 : Int32} {h : St} {Q : Option Value → St → Prop} (k p d a c : Int) (hQ : ∀ h', Sm [(90, 25), (90, 21)] [108] h h' → h'.1 90 25 = 0 → MFl 1 (fG k p d a c) h' → Q none h') (h1 : x1 = iI k) (h2 : x2 = iI p) (h3 : x3 = iI d) (h4 : x4 = iI a) (h5 : x5 = iI c) : SC y_M_fail [.ref 90, .int x1, .int x2, .int x3, .int x4, .int x5] h Q := by
  refine w_call IS_ok [] ok_M_fail rfl rfl ?_
  refine ⟨Or.inl rfl, ?_⟩
  refine ⟨Or.inr rfl, ?_⟩
  refine w_ix 0 ?_ rfl (show 0 < 5 by omega)
  refine w_ix 1 ?_ rfl (show 1 < 5 by omega)
  refine w_ix 2 ?_ rfl (show 2 < 5 by omega)
  refine w_ix 3 ?_ rfl (show 3 < 5 by omega)
  refine w_ix 4 ?_ rfl (show 4 < 5 by omega)
  refine hQ (wa (wa (wa (wa (wa (pf (pf h 25 0) 21 1) 108 0 x1) 108 1 x2) 108 2 x3) 108 3 x4) 108 4 x5) ?_ ?_ ⟨?_, fun j hj => ?_⟩
  · exact ((((((Sm.pf _ (by decide)).t (Sm.pf _ (by decide))).t (Sm.wa _ _ (by decide))).t (Sm.wa _ _ (by decide))).t (Sm.wa _ _ (by decide))).t (Sm.wa _ _ (by decide))).t (Sm.wa _ _ (by decide))
  · show (pf (pf h 25 0) 21 1).1 90 25 = 0
    rw [pf_n _ _ _ (by decide), pf_s]
  · show (pf (pf h 25 0) 21 1).1 90 21 = _
    rw [pf_s]
    rfl
  · rcases (show j = 0 ∨ j = 1 ∨ j = 2 ∨ j = 3 ∨ j = 4 by omega) with rfl | rfl | rfl | rfl | rfl
    · rw [wa_n _ _ _ _ (by decide), wa_n _ _ _ _ (by decide), wa_n _ _ _ _ (by decide), wa_n _ _ _ _ (by decide), wa_s]; exact h1
    · rw [wa_n _ _ _ _ (by decide), wa_n _ _ _ _ (by decide), wa_n _ _ _ _ (by decide), wa_s]; exact h2
    · rw [wa_n _ _ _ _ (by decide), wa_n _ _ _ _ (by decide), wa_s]; exact h3
    · rw [wa_n _ _ _ _ (by decide), wa_s]; exact h4
    · rw [wa_s]; exact h5
/-- a fault of the text is noted -/
abbrev SmR (h h' : St) : Prop := Sm [(90, 25), (90, 21), (90, 23), (90, 17), (90, 24)] [108, 99, 100, 101, 102, 103, 104, 105, 107] h h'
def Flt (f d : Nat) (h : St) : Prop := h.1 90 25 = 0 ∧ MFl 1 (fG 1 f (d + 1) 0 (-109)) h
theorem c_M_wrong {x1 : Int32} {h : St} {Q : Option Value → St → Prop} (f d : Nat) (hd : h.1 90 24 = iI d) (hw : h.1 90 25 = 1) (hQ : ∀ h', Sm [(90, 25), (90, 21)] [108] h h' → Flt f d h' → Q none h') (h1 : x1 = iI f) : SC y_M_wrong [.ref 90, .int x1] h Q := by
  refine w_call IS_ok [] ok_M_wrong rfl rfl ?_
  refine w_if (fun g => ?_) (fun _ => ?_)
  · have : h.1 90 25 = 0 := g
    rw [hw] at this
    exact absurd this (by decide)
  · refine c_M_fail 1 f (d + 1) 0 (-109) (fun h' hs h25 hF => hQ h' hs ⟨h25, hF⟩) rfl h1 ?_ rfl rfl
    rw [hd]
    exact iI_add _ 1
theorem c_M_wrong0 {x1 : Int32} {h : St} {Q : Option Value → St → Prop} (hw : h.1 90 25 = 0) (hQ : Q none h) : SC y_M_wrong [.ref 90, .int x1] h Q := by
  refine w_call IS_ok [] ok_M_wrong rfl rfl ?_
  refine w_if (fun _ => hQ) (fun g => absurd hw g)
theorem chr_in {n : Nat} {T : Nat → Nat} {i : Nat} (h : isDb (chr n T i) = true) : i < n := by
  apply Classical.byContradiction
  intro z
  unfold chr at h
  rw [if_neg z] at h
  cases h
set_option maxHeartbeats 2000000 in
theorem c_M_number {n : Nat} {T : Nat → Nat} {h : St} {Q : Option Value → St → Prop} (hB : TxB n T) (i d c : Nat) (hR : RdS n T i d c h) (hi : i < 500) (hQ0 : ∀ h', nd (chr n T) i = 0 → Sm [(90, 25), (90, 21)] [108] h h' → Flt i d h' → Q (some (.int 0)) h') (hQ1 : ∀ h', nd (chr n T) i ≠ 0 → Sm [(90, 23)] [] h h' → RdS n T (i + nd (chr n T) i) d c h' → Q (some (.int (iI (nv (chr n T) i)))) h') : SC y_M_number [.ref 90] h Q := by
  refine w_call IS_ok [44] ok_M_number rfl rfl ?_
  obtain ⟨hT, h23, h24, h17, h25⟩ := id hR
  refine c_M_isDigit hT hB i (by omega) h23 ?_
  refine w_b (fun g => ?_) (fun g => ?_)
  · refine c_M_wrong i d h24 h25 (fun h' hs hF => ?_) h23
    exact hQ0 h' ((nd_b _ i).2.2.mpr (by simpa using g)) hs hF
  · have hin := chr_in g
    have hch : chr n T i = T i := if_pos hin
    have hdd : 48 ≤ T i ∧ T i ≤ 57 := by rw [← hch]; simpa using g
    have hnd : nd (chr n T) i = (ext (chr n T) i 3 1 (chr n T i - 48)).2 := if_pos g
    have hnv : nv (chr n T) i = (ext (chr n T) i 3 1 (chr n T i - 48)).1 := if_pos g
    have tail : ∀ (f j v : Nat), 1 ≤ j → j ≤ 3 → 3 ≤ f + j → v < 10 ^ j → ext (chr n T) i f j v = ext (chr n T) i 3 1 (chr n T i - 48) → ∀ (hc : St) (z1 z2 : Int32), Sm [(90, 23)] [] h hc → RdS n T (i + j) d c hc → z1 = iI i → z2 = iI v → SR y_M_number 44 [some (.ref 90), some (.int z1), some (.int z2)] [] hc Q := by
      intro f
      induction f with
      | zero =>
        intro j v h0 h1 h2 h3 he hc z1 z2 hs hRc e1 e2
        have hp : v < 1000 := by have : 10 ^ j ≤ 10 ^ 3 := Nat.pow_le_pow_right (by decide) h1; omega
        have fin : SR y_M_number 95 [some (.ref 90), some (.int z1), some (.int z2)] [] hc Q := by
          refine w_loop IS_ok [] ok_M_number ?_
          rw [e2]
          have := hQ1 hc (by rw [hnd, ← he]; show j ≠ 0; omega) hs (by rw [hnd, ← he]; exact hRc)
          rw [hnv, ← he] at this
          exact this
        obtain ⟨hTc, g23, -⟩ := id hRc
        refine w_loop IS_ok [95] ok_M_number ?_
        refine c_M_isDigit hTc hB (i + j) (by omega) g23 ?_
        refine w_b (fun _ => fin) (fun g2 => ?_)
        refine w_le v 0 (fun _ => fin) (fun g3 => ?_) e2 rfl
        have e3 : hc.1 90 23 - z1 = iI (j : Int) := by rw [g23, e1]; exact (iI_sub _ _).trans (congrArg iI (by omega))
        exact w_le 3 j (fun _ => fin) (fun g4 => by omega) rfl e3
      | succ f ih =>
        intro j v h0 h1 h2 h3 he hc z1 z2 hs hRc e1 e2
        have hp : v < 1000 := by have : 10 ^ j ≤ 10 ^ 3 := Nat.pow_le_pow_right (by decide) h1; omega
        obtain ⟨hTc, g23, g24, g17, g25⟩ := id hRc
        have fin : ¬ (isDb (chr n T (i + j)) = true ∧ 0 < v ∧ j < 3) → SR y_M_number 95 [some (.ref 90), some (.int z1), some (.int z2)] [] hc Q := by
          intro hno
          have he2 : ext (chr n T) i 3 1 (chr n T i - 48) = (v, j) := by
            rw [← he]
            unfold ext
            rw [if_neg hno]
          refine w_loop IS_ok [] ok_M_number ?_
          rw [e2]
          have := hQ1 hc (by rw [hnd, he2]; show j ≠ 0; omega) hs (by rw [hnd, he2]; exact hRc)
          rw [hnv, he2] at this
          exact this
        refine w_loop IS_ok [44, 95] ok_M_number ?_
        refine c_M_isDigit hTc hB (i + j) (by omega) g23 ?_
        refine w_b (fun g2 => fin (fun z => g2 z.1)) (fun g2 => ?_)
        refine w_le v 0 (fun g3 => fin (fun z => by omega)) (fun g3 => ?_) e2 rfl
        have e3 : hc.1 90 23 - z1 = iI (j : Int) := by rw [g23, e1]; exact (iI_sub _ _).trans (congrArg iI (by omega))
        refine w_le 3 j (fun g4 => fin (fun z => by omega)) (fun g4 => ?_) rfl e3
        have hin2 := chr_in g2
        have hch2 : chr n T (i + j) = T (i + j) := if_pos hin2
        have hdd2 : 48 ≤ T (i + j) ∧ T (i + j) ≤ 57 := by rw [← hch2]; simpa using g2
        refine c_M_at hTc hB (i + j) (by omega) ?_ g23
        rw [if_pos hin2]
        refine ih (j + 1) (10 * v + (chr n T (i + j) - 48)) (by omega) (by omega) (by omega) (by rw [hch2, Nat.pow_succ]; omega) ?_ (pf hc 23 (hc.1 90 23 + 1)) _ _ (hs.t (Sm.pf _ (by decide))) ?_ e1 ?_
        · rw [← he]
          conv => rhs; unfold ext
          rw [if_pos ⟨g2, by omega, by omega⟩]
        · refine ⟨hTc.sm (Sm.pf (X := [(90, 23)]) (Y := []) _ (by decide)) (by decide) (by decide), ?_, ?_, ?_, ?_⟩
          · rw [pf_s, g23]; exact iI_1 rfl
          · rw [pf_n _ _ _ (by decide)]; exact g24
          · rw [pf_n _ _ _ (by decide)]; exact g17
          · rw [pf_n _ _ _ (by decide)]; exact g25
        · rw [e2]
          refine (congrArg (fun t => t + iI (T (i + j)) - 48) (iI_mul 10 v)).trans ((congrArg (· - (48 : Int32)) (iI_add _ _)).trans ((iI_sub _ 48).trans (congrArg iI (by rw [hch2]; omega))))
    refine c_M_at hT hB i (by omega) ?_ h23
    rw [if_pos hin]
    refine tail 3 1 (chr n T i - 48) (by omega) (by omega) (by omega) (by rw [hch]; omega) rfl (pf h 23 (h.1 90 23 + 1)) _ _ (Sm.pf _ (by decide)) ?_ h23 ?_
    · refine ⟨hT.sm (Sm.pf (X := [(90, 23)]) (Y := []) _ (by decide)) (by decide) (by decide), ?_, ?_, ?_, ?_⟩
      · rw [pf_s, h23]; exact iI_1 rfl
      · rw [pf_n _ _ _ (by decide)]; exact h24
      · rw [pf_n _ _ _ (by decide)]; exact h17
      · rw [pf_n _ _ _ (by decide)]; exact h25
    · exact (iI_sub _ 48).trans (congrArg iI (by rw [hch]; omega))
