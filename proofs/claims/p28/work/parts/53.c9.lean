/-! the class: its history -/
/-- objects from lo on, below hi, alone have changed -/
def Fr (lo hi : Nat) (h h' : St) : Prop := (∀ o, o < lo ∨ hi ≤ o → h'.1 o = h.1 o) ∧ ∀ o, o < lo ∨ hi ≤ o → h'.2 o = h.2 o
theorem Fr.rf {lo hi : Nat} {h : St} : Fr lo hi h h := ⟨fun _ _ => rfl, fun _ _ => rfl⟩
theorem Fr.t {lo hi : Nat} {h h1 h2 : St} (a : Fr lo hi h h1) (b : Fr lo hi h1 h2) : Fr lo hi h h2 := ⟨fun o ho => (b.1 o ho).trans (a.1 o ho), fun o ho => (b.2 o ho).trans (a.2 o ho)⟩
theorem Fr.w {lo hi lo' hi' : Nat} {h h1 : St} (a : Fr lo hi h h1) (hl : lo' ≤ lo) (hh : hi ≤ hi') : Fr lo' hi' h h1 := ⟨fun o ho => a.1 o (by omega), fun o ho => a.2 o (by omega)⟩
theorem Sm.fr {X : List (Nat × Nat)} {Y : List Nat} {h h' : St} (a : Sm X Y h h') {lo hi : Nat} (hx : ∀ q ∈ X, lo ≤ q.1 ∧ q.1 < hi) (hy : ∀ q ∈ Y, lo ≤ q ∧ q < hi) : Fr lo hi h h' :=
  ⟨fun o ho => funext fun k => a.1 o k (fun z => by have := hx _ z; dsimp only at this; omega), fun o ho => a.2 o (fun z => by have := hy _ z; omega)⟩
theorem CS.fr {a lo hi : Nat} {S : Nat → Int} {h h' : St} (hC : CS a S h) (f : Fr lo hi h h') (hd : a + 6 < lo ∨ hi ≤ a) : CS a S h' := by
  unfold CS
  rw [f.1 a (by omega), f.2 (a + 2) (by omega), f.2 (a + 4) (by omega), f.2 (a + 6) (by omega)]
  exact hC
/-- the slot that is q before the newest -/
def slt (w q : Nat) : Nat := (w + 5 - q) % 5
def CH (n : Nat) (H : Nat → Nat → Int) (h : St) : Prop := ∃ w, w < 5 ∧ h.1 38 1 = iI (w : Nat) ∧ h.1 38 2 = iI (n : Nat) ∧ ∀ j, j < n → CS (40 + 7 * slt w (n - 1 - j)) (H j) h
theorem CH.fr {n lo hi : Nat} {H : Nat → Nat → Int} {h h' : St} (hC : CH n H h) (f : Fr lo hi h h') (hd : hi ≤ 38 ∨ 75 ≤ lo) : CH n H h' := by
  obtain ⟨w, hw, h1, h2, h3⟩ := hC
  refine ⟨w, hw, by rw [f.1 38 (by omega)]; exact h1, by rw [f.1 38 (by omega)]; exact h2, fun j hj => (h3 j hj).fr f ?_⟩
  have := Nat.mod_lt (w + 5 - (n - 1 - j)) (show 5 > 0 by omega)
  unfold slt
  omega
theorem c_Hist_newestSlot {w : Nat} (hw : w < 5) {h : St} {Q : Option Value → St → Prop} (h1 : h.1 38 1 = iI (w : Nat)) (hQ : Q (some (.ref (40 + 7 * w))) h) : SC y_Hist_newestSlot [.ref 38] h Q := by
  refine w_call IS_ok [] ok_Hist_newestSlot rfl rfl ?_
  have : w = 0 ∨ w = 1 ∨ w = 2 ∨ w = 3 ∨ w = 4 := by omega
  rcases this with rfl | rfl | rfl | rfl | rfl
  · refine w_lt 0 0 (fun _ => by omega) (fun _ => ?_) h1 rfl
    refine w_le 5 0 (fun _ => by omega) (fun _ => ?_) rfl h1
    exact ⟨0, h1, hQ⟩
  · refine w_lt 1 0 (fun _ => by omega) (fun _ => ?_) h1 rfl
    refine w_le 5 1 (fun _ => by omega) (fun _ => ?_) rfl h1
    exact ⟨1, h1, hQ⟩
  · refine w_lt 2 0 (fun _ => by omega) (fun _ => ?_) h1 rfl
    refine w_le 5 2 (fun _ => by omega) (fun _ => ?_) rfl h1
    exact ⟨2, h1, hQ⟩
  · refine w_lt 3 0 (fun _ => by omega) (fun _ => ?_) h1 rfl
    refine w_le 5 3 (fun _ => by omega) (fun _ => ?_) rfl h1
    exact ⟨3, h1, hQ⟩
  · refine w_lt 4 0 (fun _ => by omega) (fun _ => ?_) h1 rfl
    refine w_le 5 4 (fun _ => by omega) (fun _ => ?_) rfl h1
    exact ⟨4, h1, hQ⟩
theorem fr_slot {w : Nat} (hw : w < 5) {h h' : St} (a : Sm (fl6 (40 + 7 * w)) [40 + 7 * w + 2, 40 + 7 * w + 4, 40 + 7 * w + 6] h h') : Fr (40 + 7 * w) (40 + 7 * w + 7) h h' :=
  a.fr (fun q hq => by simp only [fl6, List.mem_cons, List.not_mem_nil, or_false] at hq; rcases hq with rfl | rfl | rfl | rfl | rfl | rfl <;> dsimp only <;> omega) (fun q hq => by simp only [List.mem_cons, List.not_mem_nil, or_false] at hq; omega)
theorem c_slot_set {w : Nat} (hw : w < 5) {S : Nat → Int} {h : St} {Q : Option Value → St → Prop} (hC : CS 8 S h) (hn : (S 1).toNat ≤ 20) (hQ : ∀ h', Fr (40 + 7 * w) (40 + 7 * w + 7) h h' → CS (40 + 7 * w) S h' → Q none h') : SC y_Scene_copyFrom [.ref (40 + 7 * w), .ref 8] h Q := by
  have : w = 0 ∨ w = 1 ∨ w = 2 ∨ w = 3 ∨ w = 4 := by omega
  rcases this with rfl | rfl | rfl | rfl | rfl
  · exact c_Scene_copyFrom_40_8 hC hn (fun h' s c => hQ h' (fr_slot hw s) c)
  · exact c_Scene_copyFrom_47_8 hC hn (fun h' s c => hQ h' (fr_slot hw s) c)
  · exact c_Scene_copyFrom_54_8 hC hn (fun h' s c => hQ h' (fr_slot hw s) c)
  · exact c_Scene_copyFrom_61_8 hC hn (fun h' s c => hQ h' (fr_slot hw s) c)
  · exact c_Scene_copyFrom_68_8 hC hn (fun h' s c => hQ h' (fr_slot hw s) c)
theorem c_slot_get {w : Nat} (hw : w < 5) {S : Nat → Int} {h : St} {Q : Option Value → St → Prop} (hC : CS (40 + 7 * w) S h) (hn : (S 1).toNat ≤ 20) (hQ : ∀ h', Sm (fl6 1) [3, 5, 7] h h' → CS 1 S h' → Q none h') : SC y_Scene_copyFrom [.ref 1, .ref (40 + 7 * w)] h Q := by
  have : w = 0 ∨ w = 1 ∨ w = 2 ∨ w = 3 ∨ w = 4 := by omega
  rcases this with rfl | rfl | rfl | rfl | rfl
  · exact c_Scene_copyFrom_1_40 hC hn hQ
  · exact c_Scene_copyFrom_1_47 hC hn hQ
  · exact c_Scene_copyFrom_1_54 hC hn hQ
  · exact c_Scene_copyFrom_1_61 hC hn hQ
  · exact c_Scene_copyFrom_1_68 hC hn hQ
theorem c_Hist_record {S : Nat → Int} {n : Nat} {H : Nat → Nat → Int} {h : St} {Q : Option Value → St → Prop} (hC : CS 8 S h) (hs : (S 1).toNat ≤ 20) (hH : CH n H h) (hn : n ≤ 5) (hQ : ∀ h', Fr 38 75 h h' → CH (psN n) (psH n H S) h' → Q none h') : SC y_Hist_record [.ref 38, .ref 8] h Q := by
  refine w_call IS_ok [] ok_Hist_record rfl rfl ?_
  obtain ⟨w, hw, h1, h2, h3⟩ := hH
  refine ⟨by decide, ?_⟩
  refine c_J_min (n + 1 : Nat) 5 ?_ (iI_1 h2) rfl
  have e1 : (h.1 38 1 + 1) - (h.1 38 1 + 1) / 5 * 5 = iI (((w + 1) % 5 : Nat) : Int) := modr (iI_1 h1) rfl (by omega) (by decide) (by decide)
  have f1 : Fr 38 75 h (pg (pg h 38 1 ((h.1 38 1 + 1) - (h.1 38 1 + 1) / 5 * 5)) 38 2 (iI (if ((n + 1 : Nat) : Int) ≤ 5 then ((n + 1 : Nat) : Int) else 5))) := (Sm.fr (X := [(38, 1), (38, 2)]) (Y := []) ((Sm.pg _ (by decide)).t (Sm.pg _ (by decide))) (by decide) (by decide))
  have hw5 := Nat.mod_lt (w + 1) (show 5 > 0 by omega)
  refine c_Hist_newestSlot (w := (w + 1) % 5) (h := pg (pg h 38 1 ((h.1 38 1 + 1) - (h.1 38 1 + 1) / 5 * 5)) 38 2 (iI (if ((n + 1 : Nat) : Int) ≤ 5 then ((n + 1 : Nat) : Int) else 5))) hw5 (by rw [pg_n _ _ _ _ (by omega), pg_s]; exact e1) ?_
  have fin : ∀ h', Fr (40 + 7 * ((w + 1) % 5)) (40 + 7 * ((w + 1) % 5) + 7) (pg (pg h 38 1 ((h.1 38 1 + 1) - (h.1 38 1 + 1) / 5 * 5)) 38 2 (iI (if ((n + 1 : Nat) : Int) ≤ 5 then ((n + 1 : Nat) : Int) else 5))) h' → CS (40 + 7 * ((w + 1) % 5)) S h' → Q none h' := ?_
  · have hC8 := hC.fr f1 (by omega)
    clear f1 e1
    generalize (w + 1) % 5 = v at *
    have : v = 0 ∨ v = 1 ∨ v = 2 ∨ v = 3 ∨ v = 4 := by omega
    rcases this with rfl | rfl | rfl | rfl | rfl
    · exact c_slot_set hw5 hC8 hs fin
    · exact c_slot_set hw5 hC8 hs fin
    · exact c_slot_set hw5 hC8 hs fin
    · exact c_slot_set hw5 hC8 hs fin
    · exact c_slot_set hw5 hC8 hs fin
  intro h' f2 hC2
  have f3 : Fr 38 75 h h' := f1.t (f2.w (by omega) (by omega))
  have k1 : h'.1 38 1 = iI (((w + 1) % 5 : Nat) : Int) := by rw [f2.1 38 (by omega), pg_n _ _ _ _ (by omega), pg_s]; exact e1
  have k2 : h'.1 38 2 = iI (if ((n + 1 : Nat) : Int) ≤ 5 then ((n + 1 : Nat) : Int) else 5) := by rw [f2.1 38 (by omega), pg_s]
  have old : ∀ i, i < 5 → i ≠ (w + 1) % 5 → ∀ X, CS (40 + 7 * i) X h → CS (40 + 7 * i) X h' := fun i hi hne X hX => by
    have s1 : Sm [(38, 1), (38, 2)] [] h (pg (pg h 38 1 ((h.1 38 1 + 1) - (h.1 38 1 + 1) / 5 * 5)) 38 2 (iI (if ((n + 1 : Nat) : Int) ≤ 5 then ((n + 1 : Nat) : Int) else 5))) := (Sm.pg _ (by decide)).t (Sm.pg _ (by decide))
    exact (hX.sm s1 (fun q hq => by simp only [List.mem_cons, List.not_mem_nil, or_false] at hq; rcases hq with rfl | rfl <;> dsimp only <;> omega) (fun q hq => by cases hq)).fr f2 (by omega)
  refine hQ h' f3 ⟨(w + 1) % 5, hw5, k1, ?_, fun j hj => ?_⟩
  · rw [k2]
    unfold psN
    by_cases z : n = 5
    · rw [if_pos z, if_neg (by omega)]; rfl
    · rw [if_neg z, if_pos (by omega)]
  · unfold psN at hj ⊢
    unfold psH
    by_cases z : n = 5
    · rw [if_pos z] at hj
      rw [if_pos z, if_pos z]
      by_cases z2 : j < 4
      · rw [if_pos z2]
        have := h3 (j + 1) (by omega)
        have e : slt ((w + 1) % 5) (5 - 1 - j) = slt w (n - 1 - (j + 1)) := by unfold slt; omega
        rw [e]
        refine old _ (by unfold slt; omega) (by unfold slt; omega) _ this
      · rw [if_neg z2]
        have e : slt ((w + 1) % 5) (5 - 1 - j) = (w + 1) % 5 := by unfold slt; omega
        rw [e]
        exact hC2
    · rw [if_neg z] at hj
      rw [if_neg z, if_neg z]
      by_cases z2 : j < n
      · rw [if_pos z2]
        have := h3 j z2
        have e : slt ((w + 1) % 5) (n + 1 - 1 - j) = slt w (n - 1 - j) := by unfold slt; omega
        rw [e]
        refine old _ (by unfold slt; omega) (by unfold slt; omega) _ this
      · rw [if_neg z2]
        have e : slt ((w + 1) % 5) (n + 1 - 1 - j) = (w + 1) % 5 := by unfold slt; omega
        rw [e]
        exact hC2
theorem c_Hist_restore {n : Nat} {H : Nat → Nat → Int} {h : St} {Q : Option Value → St → Prop} (hH : CH n H h) (hn : n ≤ 5) (h0 : 0 < n) (hs : (H (n - 1) 1).toNat ≤ 20) (hQ : ∀ h', Sm [(1, 3), (1, 4), (1, 5), (1, 6), (1, 7), (1, 8), (38, 1), (38, 2)] [3, 5, 7] h h' → CS 1 (H (n - 1)) h' → CH (n - 1) H h' → Q none h') : SC y_Hist_restore [.ref 38, .ref 1] h Q := by
  refine w_call IS_ok [14] ok_Hist_restore rfl rfl ?_
  obtain ⟨w, hw, h1, h2, h3⟩ := hH
  refine c_Hist_newestSlot hw h1 ?_
  have hl := h3 (n - 1) (by omega)
  rw [show slt w (n - 1 - (n - 1)) = w by unfold slt; omega] at hl
  have at14 : ∀ h', Sm (fl6 1) [3, 5, 7] h h' → CS 1 (H (n - 1)) h' → SR y_Hist_restore 14 [some (.ref 38), some (.ref 1), some (.ref (40 + 7 * w))] [] h' Q := ?_
  · clear h1 h2 h3
    have : w = 0 ∨ w = 1 ∨ w = 2 ∨ w = 3 ∨ w = 4 := by omega
    rcases this with rfl | rfl | rfl | rfl | rfl
    · exact c_slot_get hw hl hs at14
    · exact c_slot_get hw hl hs at14
    · exact c_slot_get hw hl hs at14
    · exact c_slot_get hw hl hs at14
    · exact c_slot_get hw hl hs at14
  intro h' s1 hC1
  refine w_loop IS_ok [] ok_Hist_restore ?_
  have g1 : h'.1 38 1 = iI (w : Nat) := by rw [s1.1 _ _ (by decide)]; exact h1
  have g2 : h'.1 38 2 = iI (n : Nat) := by rw [s1.1 _ _ (by decide)]; exact h2
  have e0 : h'.1 38 1 + 5 - 1 = iI ((w + 4 : Nat) : Int) := by
    rw [g1]
    refine (congrArg (· - 1) (iI_add _ 5)).trans ((iI_sub _ 1).trans (congrArg iI (by omega)))
  have e1 : (h'.1 38 1 + 5 - 1) - (h'.1 38 1 + 5 - 1) / 5 * 5 = iI (((w + 4) % 5 : Nat) : Int) := modr e0 rfl (by omega) (by decide) (by decide)
  refine ⟨by decide, ?_⟩
  have s2 : Sm [(38, 1), (38, 2)] [] h' (pg (pg h' 38 1 ((h'.1 38 1 + 5 - 1) - (h'.1 38 1 + 5 - 1) / 5 * 5)) 38 2 (h'.1 38 2 - 1)) := (Sm.pg _ (by decide)).t (Sm.pg _ (by decide))
  refine hQ (pg (pg h' 38 1 ((h'.1 38 1 + 5 - 1) - (h'.1 38 1 + 5 - 1) / 5 * 5)) 38 2 (h'.1 38 2 - 1)) ((s1.mo (by decide) (by decide)).t (s2.mo (by decide) (by decide))) (hC1.sm s2 (by decide) (by decide)) ⟨(w + 4) % 5, Nat.mod_lt _ (by omega), ?_, ?_, fun j hj => ?_⟩
  · rw [pg_n _ _ _ _ (by omega), pg_s]; exact e1
  · rw [pg_s]; exact iI_q g2 h0
  · have := h3 j (by omega)
    have e : slt ((w + 4) % 5) (n - 1 - 1 - j) = slt w (n - 1 - j) := by unfold slt; omega
    rw [e]
    have f1 : Fr 1 8 h h' := s1.fr (by decide) (by decide)
    have f2 : Fr 38 39 h' (pg (pg h' 38 1 ((h'.1 38 1 + 5 - 1) - (h'.1 38 1 + 5 - 1) / 5 * 5)) 38 2 (h'.1 38 2 - 1)) := s2.fr (by decide) (by decide)
    exact (this.fr f1 (by omega)).fr f2 (by omega)
theorem c_P_recorded {S : Nat → Int} {n : Nat} {H : Nat → Nat → Int} {x : Int32} {h : St} {Q : Option Value → St → Prop} (hC : CS 8 S h) (hs : (S 1).toNat ≤ 20) (hH : CH n H h) (hn : n ≤ 5) (a : Int) (hQ0 : a < 0 → Q (some (.int (iI a))) h) (hQ1 : 0 ≤ a → ∀ h', Fr 38 75 h h' → CH (psN n) (psH n H S) h' → Q (some (.int (iI a))) h') (hx : x = iI a) (ra : rg a) : SC y_P_recorded [.ref 0, .int x] h Q := by
  refine w_call IS_ok [] ok_P_recorded rfl rfl ?_
  refine w_lt a 0 (fun g => ?_) (fun g => ?_) hx rfl ra
  · rw [hx]; exact hQ0 g
  · refine c_Hist_record hC hs hH hn (fun h' f hC' => ?_)
    have := hQ1 g h' f hC'
    rw [← hx] at this
    exact this
