/-! the class: what a scene answers, and its actions -/
theorem c_P_within {x l m : Int32} {h : St} {Q : Option Value → St → Prop} (a b c : Int) (hQ : Q (some (.int (bI (b ≤ a ∧ a ≤ c)))) h) (hx : x = iI a) (hl : l = iI b) (hm : m = iI c) (ra : rg a := by omega) (rb : rg b := by omega) (rc : rg c := by omega) : SC y_P_within [.int x, .int l, .int m] h Q := by
  refine w_call IS_ok [] ok_P_within rfl rfl ?_
  refine w_lt a b (fun g => ?_) (fun g => ?_) hx hl ra rb
  · rw [bI_f (by omega)] at hQ; exact ⟨Or.inl rfl, hQ⟩
  · refine w_lt c a (fun g2 => ?_) (fun g2 => ?_) hm hx rc ra
    · rw [bI_f (by omega)] at hQ; exact ⟨Or.inl rfl, hQ⟩
    · rw [bI_t (by omega)] at hQ; exact ⟨Or.inr rfl, hQ⟩
theorem thr_at {S : Nat → Int} (hW : WF S) {k : Nat} (hk : k < (S 1).toNat) : thr S (S (6 + k)) := by
  have := pos_is hW hk rfl
  show pos S (S (6 + k)) (S 1).toNat ≠ -109
  omega
theorem thr_no {S : Nat → Int} {p : Int} (h : ∀ j, j < (S 1).toNat → S (6 + j) ≠ p) : ¬ thr S p := fun z => z (pos_no.mpr h)
theorem thr_pos {S : Nat → Int} {p : Int} (h : thr S p) : (pos S p (S 1).toNat).toNat < (S 1).toNat ∧ pos S p (S 1).toNat = ((pos S p (S 1).toNat).toNat : Int) ∧ S (6 + (pos S p (S 1).toNat).toNat) = p := by
  rcases pos_b S p (S 1).toNat with h1 | ⟨h1, h2⟩
  · exact absurd h1 h
  · have := pos_at (S := S) (p := p) (n := (S 1).toNat) (k := (pos S p (S 1).toNat).toNat) (by omega)
    exact ⟨by omega, by omega, this.2⟩
theorem c_Scene_position {S : Nat → Int} {x : Int32} {h : St} {Q : Option Value → St → Prop} (hC : CS 1 S h) (hW : WF S) (p : Int) (hQ : Q (some (.int (iI (if thr S p then pos S p (S 1).toNat else -1)))) h) (hx : x = iI p) (rp : rg p) : SC y_Scene_position [.ref 1, .int x] h Q := by
  refine w_call IS_ok [2] ok_Scene_position rfl rfl ?_
  have hn := hW.n
  have fin : (∀ j, j < (S 1).toNat → S (6 + j) ≠ p) → Q (some (.int (-1))) h := by
    intro ha
    rw [if_neg (thr_no ha)] at hQ
    exact hQ
  have loop : ∀ (m k : Nat) (z : Int32), (S 1).toNat ≤ k + m → k ≤ (S 1).toNat → (∀ j, j < k → S (6 + j) ≠ p) → z = iI k → SR y_Scene_position 2 [some (.ref 1), some (.int x), some (.int z)] [] h Q := by
    intro m
    induction m with
    | zero =>
      intro k z hm hk ha hz
      refine w_loop IS_ok [2] ok_Scene_position ?_
      exact w_le (S 1) k (fun _ => fin (fun j hj => ha j (by omega))) (fun _ => by omega) hC.1.1 hz
    | succ m ih =>
      intro k z hm hk ha hz
      refine w_loop IS_ok [2] ok_Scene_position ?_
      refine w_le (S 1) k (fun _ => fin (fun j hj => ha j (by omega))) (fun g => ?_) hC.1.1 hz
      have hod := hW.od (k := k) (by omega)
      refine c_Cells_get1 CA_6 k (by omega) ?_ hz
      refine w_eq (S (6 + k)) p (fun g2 => ?_) (fun g2 => ?_) (hC.2.2.1 k (by omega)) hx
      · have e := pos_is hW (show k < (S 1).toNat by omega) g2
        rw [if_pos (by show pos S p (S 1).toNat ≠ -109; omega), e, ← hz] at hQ
        exact hQ
      · refine ih (k + 1) _ (by omega) (by omega) (fun j hj => ?_) (iI_1 hz)
        by_cases z1 : j = k
        · subst z1; exact g2
        · exact ha j (by omega)
  exact loop (S 1).toNat 0 _ (by omega) (by omega) (fun j hj => by omega) rfl
theorem c_Scene_exists {S : Nat → Int} {x : Int32} {h : St} {Q : Option Value → St → Prop} (hC : CS 1 S h) (hW : WF S) (p : Int) (hQ : Q (some (.int (bI (thr S p)))) h) (hx : x = iI p) (rp : rg p) : SC y_Scene_exists [.ref 1, .int x] h Q := by
  refine w_call IS_ok [] ok_Scene_exists rfl rfl ?_
  have hn := hW.n
  have hb := pos_b S p (S 1).toNat
  refine c_Scene_position hC hW p ?_ hx rp
  refine w_lt (if thr S p then pos S p (S 1).toNat else -1) 0 (fun g => ?_) (fun g => ?_) rfl rfl (by split <;> omega)
  · have : ¬ thr S p := fun z => by rw [if_pos z] at g; have := thr_pos z; omega
    rw [bI_f this] at hQ
    exact ⟨Or.inl rfl, hQ⟩
  · have : thr S p := Classical.byContradiction fun z => by rw [if_neg z] at g; omega
    rw [bI_t this] at hQ
    exact ⟨Or.inr rfl, hQ⟩
theorem c_Scene_hero {S : Nat → Int} {h : St} {Q : Option Value → St → Prop} (hC : CS 1 S h) (hW : WF S) (hQ : ∀ r, HerR S (S 1).toNat r → Q (some (.int (iI r))) h) : SC y_Scene_hero [.ref 1] h Q := by
  refine w_call IS_ok [2] ok_Scene_hero rfl rfl ?_
  have hn := hW.n
  have fin : ∀ k : Nat, S 0 ≤ k → (∀ j : Nat, j < k → ¬ thr S j) → Q (some (.int (-109))) h := by
    intro k hk ha
    refine hQ (-109) (Or.inl ⟨?_, rfl⟩)
    refine Classical.byContradiction fun z => ?_
    have hod := hW.od (k := 0) (by omega)
    have := thr_at hW (show 0 < (S 1).toNat by omega)
    rw [hod.1] at this
    exact ha _ (by omega) this
  have loop : ∀ (m k : Nat) (z : Int32), (S 0).toNat ≤ k + m → k ≤ (S 0).toNat → (∀ j : Nat, j < k → ¬ thr S j) → z = iI k → SR y_Scene_hero 2 [some (.ref 1), some (.int z)] [] h Q := by
    intro m
    induction m with
    | zero =>
      intro k z hm hk ha hz
      refine w_loop IS_ok [2] ok_Scene_hero ?_
      exact w_le (S 0) k (fun g => fin k g ha) (fun _ => by omega) hC.1.2.1 hz
    | succ m ih =>
      intro k z hm hk ha hz
      refine w_loop IS_ok [2] ok_Scene_hero ?_
      refine w_le (S 0) k (fun g => fin k g ha) (fun g => ?_) hC.1.2.1 hz
      refine c_Scene_exists hC hW k ?_ hz (by omega)
      refine w_b (fun g2 => ?_) (fun g2 => ?_)
      · refine ih (k + 1) _ (by omega) (by omega) (fun j hj => ?_) (iI_1 hz)
        by_cases z1 : j = k
        · subst z1; exact g2
        · exact ha j (by omega)
      · rw [hz]
        have hp := thr_pos g2
        refine hQ k (Or.inr ⟨_, hp.1, hp.2.2.symm, fun j hj => ?_⟩)
        have hod := hW.od hj
        refine Classical.byContradiction fun z1 => ?_
        have := thr_at hW hj
        rw [hod.1] at this
        exact ha _ (by omega) this
  exact loop (S 0).toNat 0 _ (by omega) (by omega) (fun j hj => by omega) rfl
theorem cntI {a b : Int} (ha : 0 ≤ a) : ∀ n : Nat, ((sm (fun y => if a ≤ (y : Int) ∧ (y : Int) ≤ b then 1 else 0) n : Nat) : Int) = if (if b + 1 ≤ n then b + 1 else (n : Int)) - a ≤ 0 then 0 else (if b + 1 ≤ n then b + 1 else (n : Int)) - a
  | 0 => by
    show (0 : Int) = _
    split <;> split <;> omega
  | n + 1 => by
    have ih := cntI (b := b) ha n
    show ((sm _ n + (if a ≤ (n : Int) ∧ (n : Int) ≤ b then 1 else 0) : Nat) : Int) = _
    rw [Int.natCast_add, ih]
    by_cases z : a ≤ (n : Int) ∧ (n : Int) ≤ b
    · rw [if_pos z]
      repeat' split
      all_goals omega
    · rw [if_neg z]
      repeat' split
      all_goals omega
theorem lns_fl {S : Nat → Int} {p : Nat} (hy : -15 ≤ S (26 + 9 * p + 1) ∧ S (26 + 9 * p + 1) ≤ 47) : (lns S p 48 : Int) = if 0 ≤ lst S p - fst S p + 1 then lst S p - fst S p + 1 else 0 := by
  have hf := fst_b hy
  have hl := lst_b hy
  have e : lns S p 48 = sm (fun y => if fst S p ≤ (y : Int) ∧ (y : Int) ≤ lst S p then 1 else 0) 48 := sm_congr (fun y hy => by
    by_cases z : stn S p y
    · rw [if_pos z, if_pos ((stn_fl hy).mp z)]
    · rw [if_neg z, if_neg (fun w => z ((stn_fl hy).mpr w))])
  rw [e, cntI hf.1]
  repeat' split
  all_goals omega
theorem c_Scene_linesOf {S : Nat → Int} {x : Int32} {h : St} {Q : Option Value → St → Prop} (hC : CS 1 S h) (p : Nat) (hp : p < 20) (hp0 : (p : Int) < S 0) (hy : -15 ≤ S (26 + 9 * p + 1) ∧ S (26 + 9 * p + 1) ≤ 47) (hQ : Q (some (.int (iI (lns S p 48 : Nat)))) h) (hx : x = iI p) : SC y_Scene_linesOf [.ref 1, .int x] h Q := by
  refine w_call IS_ok [] ok_Scene_linesOf rfl rfl ?_
  have hf := fst_b hy
  have hl := lst_b hy
  refine c_Scene_lastLine_1 hC p hp hp0 hy ?_ hx
  refine c_Scene_firstLine_1 hC p hp hy ?_ hx
  refine c_J_max (lst S p - fst S p + 1) 0 ?_ ?_ rfl
  · rw [lns_fl hy] at hQ
    exact hQ
  · exact (congrArg (· + 1) (iI_sub _ _)).trans (iI_add _ 1)
theorem c_Scene_standsOn {S : Nat → Int} {x y : Int32} {h : St} {Q : Option Value → St → Prop} (hC : CS 1 S h) (p l : Nat) (hp : p < 20) (hp0 : (p : Int) < S 0) (hy : -15 ≤ S (26 + 9 * p + 1) ∧ S (26 + 9 * p + 1) ≤ 47) (hl : l < 48) (hQ : Q (some (.int (bI (stn S p l)))) h) (hx : x = iI p) (h2 : y = iI l) : SC y_Scene_standsOn [.ref 1, .int x, .int y] h Q := by
  refine w_call IS_ok [] ok_Scene_standsOn rfl rfl ?_
  have hf := fst_b hy
  have hl2 := lst_b hy
  refine c_Scene_firstLine_1 hC p hp hy ?_ hx
  refine c_Scene_lastLine_1 hC p hp hp0 hy ?_ hx
  refine c_P_within l (fst S p) (lst S p) ?_ h2 rfl rfl
  refine ⟨bI_01 _, ?_⟩
  rw [bI_iff (stn_fl hl)] at hQ
  exact hQ
theorem c_Scene_isPlace {x y : Int32} {h : St} {Q : Option Value → St → Prop} (a b : Int) (hQ : Q (some (.int (bI ((-15 ≤ a ∧ a ≤ 63) ∧ (-15 ≤ b ∧ b ≤ 47))))) h) (hx : x = iI a) (hy : y = iI b) (ra : rg a) (rb : rg b) : SC y_Scene_isPlace [.int x, .int y] h Q := by
  refine w_call IS_ok [] ok_Scene_isPlace rfl rfl ?_
  refine c_P_within a (-15) 63 ?_ hx rfl rfl ra
  refine w_b (fun h1 => ?_) (fun h1 => ?_)
  · exact ⟨Or.inl rfl, by rwa [bI_f (by omega)] at hQ⟩
  · refine c_P_within b (-15) 47 ?_ hy rfl rfl rb
    refine w_b (fun h2 => ?_) (fun h2 => ?_)
    · exact ⟨Or.inl rfl, by rwa [bI_f (by omega)] at hQ⟩
    · exact ⟨Or.inr rfl, by rwa [bI_t (by omega)] at hQ⟩
theorem CS.pic {S : Nat → Int} {h : St} (hC : CS 1 S h) (hn : (S 1).toNat ≤ 20) (a b : Nat) (hab : a * 8 + b < 64) (v : Int) : CS 1 (u1 S (206 + 8 * a + b) v) (wa h 3 (a * 8 + b) (iI v)) := by
  obtain ⟨⟨a1, a2, a3, a4, a5, a6⟩, q, c, d, f, g⟩ := hC
  have e : ∀ i, i < 206 → u1 S (206 + 8 * a + b) v i = S i := fun i hi => u1_n _ _ (by omega)
  refine ⟨⟨by rw [e 1 (by omega)]; exact a1, by rw [e 0 (by omega)]; exact a2, by rw [e 2 (by omega)]; exact a3, by rw [e 3 (by omega)]; exact a4, by rw [e 4 (by omega)]; exact a5, by rw [e 5 (by omega)]; exact a6⟩, fun i hi => ?_, fun k hk => ?_, fun p hp j hj => ?_, fun p hp h0 => ?_, fun p hp j hj => ?_⟩
  · by_cases z : i = a * 8 + b
    · rw [z, show 206 + (a * 8 + b) = 206 + 8 * a + b by omega, u1_s]
      exact wa_s _ _ _ _
    · rw [u1_n _ _ (by omega)]
      exact (wa_n h 3 _ _ z).trans (q i hi)
  · rw [e 1 (by omega)] at hk
    rw [e _ (by omega)]
    exact (congrFun (wa_o h 3 _ _ (by decide)) k).trans (c k hk)
  · rw [e _ (by omega)]
    exact (congrFun (wa_o h 3 _ _ (by decide)) _).trans (d p hp j hj)
  · rw [e 0 (by omega)] at h0
    have := f p hp h0
    unfold hgh at this ⊢
    rw [e _ (by omega)]
    exact (congrFun (wa_o h 3 _ _ (by decide)) _).trans this
  · rw [e _ (by omega)]
    exact (congrFun (wa_o h 3 _ _ (by decide)) _).trans (g p hp j hj)
theorem CS.pup {S : Nat → Int} {h : St} (hC : CS 1 S h) (hn : (S 1).toNat ≤ 20) (p : Nat) (hp : p < 20) (j : Nat) (hj : j < 6) (hj2 : j ≠ 2) (v : Int) : CS 1 (u1 S (26 + 9 * p + j) v) (wa h 5 (p * 10 + j) (iI v)) := by
  obtain ⟨⟨a1, a2, a3, a4, a5, a6⟩, q, c, d, f, g⟩ := hC
  have e : ∀ i, i < 26 → u1 S (26 + 9 * p + j) v i = S i := fun i hi => u1_n _ _ (by omega)
  refine ⟨⟨by rw [e 1 (by omega)]; exact a1, by rw [e 0 (by omega)]; exact a2, by rw [e 2 (by omega)]; exact a3, by rw [e 3 (by omega)]; exact a4, by rw [e 4 (by omega)]; exact a5, by rw [e 5 (by omega)]; exact a6⟩, fun i hi => ?_, fun k hk => ?_, fun p' hp' j' hj' => ?_, fun p' hp' h0 => ?_, fun p' hp' j' hj' => ?_⟩
  · rw [u1_n _ _ (by omega)]
    exact (congrFun (wa_o h 5 _ _ (by decide)) i).trans (q i hi)
  · rw [e 1 (by omega)] at hk
    rw [e _ (by omega)]
    exact (congrFun (wa_o h 5 _ _ (by decide)) k).trans (c k hk)
  · by_cases z : p' = p ∧ j' = j
    · rw [z.1, z.2, u1_s]
      exact wa_s _ _ _ _
    · rw [u1_n _ _ (by omega)]
      exact (wa_n h 5 _ _ (by omega)).trans (d p' hp' j' hj')
  · rw [e 0 (by omega)] at h0
    have := f p' hp' h0
    unfold hgh at this ⊢
    rw [u1_n _ _ (by omega)]
    exact (wa_n h 5 _ _ (by omega)).trans this
  · rw [u1_n _ _ (by omega)]
    exact (wa_n h 5 _ _ (by omega)).trans (g p' hp' j' hj')
theorem c_Scene_redraw {S : Nat → Int} {x1 x2 x3 : Int32} {h : St} {Q : Option Value → St → Prop} (hC : CS 1 S h) (hn : (S 1).toNat ≤ 20) (a b c : Int) (hQ0 : ¬ ((0 ≤ a ∧ a ≤ 7) ∧ (0 ≤ b ∧ b ≤ 7) ∧ (0 ≤ c ∧ c ≤ 255)) → Q (some (.int (-101))) h) (hQ1 : ((0 ≤ a ∧ a ≤ 7) ∧ (0 ≤ b ∧ b ≤ 7) ∧ (0 ≤ c ∧ c ≤ 255)) → ∀ h', Sm [] [3] h h' → CS 1 (u1 S (206 + 8 * a.toNat + b.toNat) c) h' → Q (some (.int (iI (S (206 + 8 * a.toNat + b.toNat))))) h') (h1 : x1 = iI a) (h2 : x2 = iI b) (h3 : x3 = iI c) (ra : rg a) (rb : rg b) (rc : rg c) : SC y_Scene_redraw [.ref 1, .int x1, .int x2, .int x3] h Q := by
  refine w_call IS_ok [] ok_Scene_redraw rfl rfl ?_
  refine c_P_within a 0 7 ?_ h1 rfl rfl ra
  refine w_b (fun g1 => hQ0 (fun z => g1 z.1)) (fun g1 => ?_)
  refine c_P_within b 0 7 ?_ h2 rfl rfl rb
  refine w_b (fun g2 => hQ0 (fun z => g2 z.2.1)) (fun g2 => ?_)
  refine c_P_within c 0 255 ?_ h3 rfl rfl rc
  refine w_b (fun g3 => hQ0 (fun z => g3 z.2.2)) (fun g3 => ?_)
  have e1 : x1 = iI (a.toNat : Int) := h1.trans (congrArg iI (by omega))
  have e2 : x2 = iI (b.toNat : Int) := h2.trans (congrArg iI (by omega))
  refine c_Cells_get2 CA_2 a.toNat b.toNat (by omega) ?_ e1 e2
  refine c_Cells_set3 CA_2 a.toNat b.toNat (by omega) ?_ e1 e2
  have ev : h.2 3 (a.toNat * 8 + b.toNat) = iI (S (206 + 8 * a.toNat + b.toNat)) := (hC.2.1 (a.toNat * 8 + b.toNat) (by omega)).trans (by rw [show 206 + (a.toNat * 8 + b.toNat) = 206 + 8 * a.toNat + b.toNat by omega])
  have := hQ1 ⟨g1, g2, g3⟩ (wa h 3 (a.toNat * 8 + b.toNat) (iI c)) (Sm.wa _ _ (by decide)) (hC.pic hn _ _ (by omega) c)
  rw [← ev, ← h3] at this
  exact this
theorem c_Scene_relocate {S : Nat → Int} {x1 x2 x3 : Int32} {h : St} {Q : Option Value → St → Prop} (hC : CS 1 S h) (hW : WF S) (p x y : Int) (hQ0 : ¬ (thr S p ∧ (-15 ≤ x ∧ x ≤ 63) ∧ (-15 ≤ y ∧ y ≤ 47)) → Q (some (.int (-101))) h) (hQ1 : (thr S p ∧ (-15 ≤ x ∧ x ≤ 63) ∧ (-15 ≤ y ∧ y ≤ 47)) → ∀ h', Sm [] [5] h h' → CS 1 (mvS S p.toNat x y) h' → Q (some (.int (iI (lns (mvS S p.toNat x y) p.toNat 48 : Nat)))) h') (h1 : x1 = iI p) (h2 : x2 = iI x) (h3 : x3 = iI y) (rp : rg p) (rx : rg x) (ry : rg y) : SC y_Scene_relocate [.ref 1, .int x1, .int x2, .int x3] h Q := by
  refine w_call IS_ok [] ok_Scene_relocate rfl rfl ?_
  have hn := hW.n
  refine c_Scene_exists hC hW p ?_ h1 rp
  refine w_b (fun g1 => hQ0 (fun z => g1 z.1)) (fun g1 => ?_)
  refine c_Scene_isPlace x y ?_ h2 h3 rx ry
  refine w_b (fun g2 => hQ0 (fun z => g2 z.2)) (fun g2 => ?_)
  have hb := thr_b hW g1
  have e1 : x1 = iI (p.toNat : Int) := h1.trans (congrArg iI (by omega))
  refine c_Cells_set3 CA_4 p.toNat 0 (by omega) ?_ e1 rfl
  refine c_Cells_set3 CA_4 p.toNat 1 (by omega) ?_ e1 rfl
  have hC2 : CS 1 (mvS S p.toNat x y) (wa (wa h 5 (p.toNat * 10 + 0) x2) 5 (p.toNat * 10 + 1) x3) := by
    rw [h2, h3]
    exact (hC.pup hn.2.1 p.toNat (by omega) 0 (by omega) (by omega) x).pup (by rw [u1_n _ _ (by omega)]; exact hn.2.1) p.toNat (by omega) 1 (by omega) (by omega) y
  have hW2 := hW.mv (p := p.toNat) (by omega) g2.1 g2.2
  have e0 : mvS S p.toNat x y 0 = S 0 := mvS_n (by omega) (by omega)
  refine c_Scene_linesOf hC2 p.toNat (by omega) (by rw [e0]; omega) (hW2.wp _ (by omega)).2.1 ?_ e1
  exact hQ1 ⟨g1, g2⟩ _ ((Sm.wa _ _ (by decide)).t (Sm.wa _ _ (by decide))) hC2
theorem c_Scene_flip {S : Nat → Int} {x1 x2 : Int32} {h : St} {Q : Option Value → St → Prop} (hC : CS 1 S h) (hW : WF S) (p f : Int) (hQ0 : ¬ (thr S p ∧ (0 ≤ f ∧ f ≤ 3)) → Q (some (.int (-101))) h) (hQ1 : (thr S p ∧ (0 ≤ f ∧ f ≤ 3)) → ∀ h', Sm [] [5] h h' → CS 1 (u1 S (26 + 9 * p.toNat + 5) f) h' → Q (some (.int (iI (S (26 + 9 * p.toNat + 5))))) h') (h1 : x1 = iI p) (h2 : x2 = iI f) (rp : rg p) (rf : rg f) : SC y_Scene_flip [.ref 1, .int x1, .int x2] h Q := by
  refine w_call IS_ok [] ok_Scene_flip rfl rfl ?_
  have hn := hW.n
  refine c_Scene_exists hC hW p ?_ h1 rp
  refine w_b (fun g1 => hQ0 (fun z => g1 z.1)) (fun g1 => ?_)
  refine c_P_within f 0 3 ?_ h2 rfl rfl rf
  refine w_b (fun g2 => hQ0 (fun z => g2 z.2)) (fun g2 => ?_)
  have hb := thr_b hW g1
  have e1 : x1 = iI (p.toNat : Int) := h1.trans (congrArg iI (by omega))
  refine c_Cells_get2 CA_4 p.toNat 5 (by omega) ?_ e1 rfl
  refine c_Cells_set3 CA_4 p.toNat 5 (by omega) ?_ e1 rfl
  have ev : h.2 5 (p.toNat * 10 + 5) = iI (S (26 + 9 * p.toNat + 5)) := hC.2.2.2.1 p.toNat (by omega) 5 (by omega)
  have := hQ1 ⟨g1, g2⟩ (wa h 5 (p.toNat * 10 + 5) (iI f)) (Sm.wa _ _ (by decide)) (hC.pup hn.2.1 p.toNat (by omega) 5 (by omega) (by omega) f)
  rw [← ev, ← h2] at this
  exact this
theorem CS.ord {S : Nat → Int} {n : Nat} {o : Nat → Nat} {h h' : St} (hC : CS 1 S h) (h3 : h'.1 1 3 = iI n) (hf : ∀ k, k ≠ 3 → h'.1 1 k = h.1 1 k) (r3 : h'.2 3 = h.2 3) (r5 : h'.2 5 = h.2 5) (hn : n ≤ 20) (ho : ∀ k, k < n → h'.2 7 k = iI (o k : Nat)) : CS 1 (ordS S n o) h' := by
  have e : ∀ i, i ≠ 1 → ¬ (6 ≤ i ∧ i < 26) → ordS S n o i = S i := fun i h1 h2 => by unfold ordS; rw [if_neg h1, if_neg h2]
  refine hC.mk2 r3 r5 ⟨h3, ?_, ?_, ?_, ?_, ?_⟩ (fun k hk => ?_) (e 0 (by omega) (by omega)) (fun i hi => e i (by omega) (by omega))
  · rw [e 0 (by omega) (by omega), hf 4 (by omega)]; exact hC.1.2.1
  · rw [e 2 (by omega) (by omega), hf 5 (by omega)]; exact hC.1.2.2.1
  · rw [e 3 (by omega) (by omega), hf 6 (by omega)]; exact hC.1.2.2.2.1
  · rw [e 4 (by omega) (by omega), hf 7 (by omega)]; exact hC.1.2.2.2.2.1
  · rw [e 5 (by omega) (by omega), hf 8 (by omega)]; exact hC.1.2.2.2.2.2
  · have hk : k < n := hk
    refine (ho k hk).trans (congrArg iI ?_)
    unfold ordS
    rw [if_neg (by omega), if_pos (by omega), show 6 + k - 6 = k by omega]
theorem c_Scene_putAt {S : Nat → Int} {x1 x2 : Int32} {h : St} {Q : Option Value → St → Prop} (hC : CS 1 S h) (hW : WF S) (p : Int) (t : Nat) (ht : t < 20) (hQ0 : ¬ thr S p → Q (some (.int (-101))) h) (hQ1 : thr S p → ∀ h', Sm [] [7] h h' → (∀ k, k < 20 → h'.2 7 k = shf (h.2 7) (pos S p (S 1).toNat).toNat t k) → Q (some (.int (iI (pos S p (S 1).toNat)))) h') (h1 : x1 = iI p) (h2 : 0 < (S 1).toNat → x2 = iI t) (rp : rg p) : SC y_Scene_putAt [.ref 1, .int x1, .int x2] h Q := by
  refine w_call IS_ok [] ok_Scene_putAt rfl rfl ?_
  have hn := hW.n
  have hb := pos_b S p (S 1).toNat
  refine c_Scene_position hC hW p ?_ h1 rp
  refine w_le 0 (if thr S p then pos S p (S 1).toNat else -1) (fun g => ?_) (fun g => ?_) rfl rfl (by omega) (by split <;> omega)
  · have ht1 : thr S p := Classical.byContradiction fun z => by rw [if_neg z] at g; omega
    have hp := thr_pos ht1
    rw [if_pos ht1]
    exact c_Scene_shiftInOrder_1 (pos S p (S 1).toNat).toNat t (by omega) ht (fun h' hs hr => hQ1 ht1 h' hs hr) (congrArg iI hp.2.1) (h2 (by omega))
  · have : ¬ thr S p := fun z => by rw [if_pos z] at g; have := thr_pos z; omega
    exact hQ0 this
theorem od_row {S : Nat → Int} {h : St} (hC : CS 1 S h) (hW : WF S) {k : Nat} (hk : k < (S 1).toNat) : h.2 7 k = iI (od S k : Nat) := (hC.2.2.1 k hk).trans (congrArg iI (hW.od hk).1)
theorem c_Scene_putFirst {S : Nat → Int} {x1 : Int32} {h : St} {Q : Option Value → St → Prop} (hC : CS 1 S h) (hW : WF S) (p : Int) (hQ0 : ¬ thr S p → Q (some (.int (-101))) h) (hQ1 : thr S p → ∀ h', Sm [] [7] h h' → CS 1 (ordS S (S 1).toNat (lftO (od S) (pos S p (S 1).toNat).toNat)) h' → Q (some (.int (iI (pos S p (S 1).toNat)))) h') (h1 : x1 = iI p) (rp : rg p) : SC y_Scene_putFirst [.ref 1, .int x1] h Q := by
  refine w_call IS_ok [] ok_Scene_putFirst rfl rfl ?_
  have hn := hW.n
  refine c_Scene_putAt hC hW p 0 (by omega) hQ0 (fun ht h' hs hr => ?_) h1 (fun _ => rfl) rp
  have hp := thr_pos ht
  refine hQ1 ht h' hs (hC.ord (by rw [hs.1 _ _ (by decide)]; exact hC.1.1.trans (congrArg iI hn.1)) (fun k _ => hs.1 _ _ (by simp)) (hs.2 _ (by decide)) (hs.2 _ (by decide)) hn.2.1 (fun k hk => ?_))
  rw [hr k (by omega)]
  unfold shf lftO
  by_cases z : k = 0
  · rw [if_pos z, if_pos z]; exact od_row hC hW hp.1
  · rw [if_neg z, if_neg z, if_neg (by omega)]
    by_cases z2 : k ≤ (pos S p (S 1).toNat).toNat
    · rw [if_pos (by omega), if_pos z2]; exact od_row hC hW (by omega)
    · rw [if_neg (by omega), if_neg z2]; exact od_row hC hW hk
theorem c_Scene_putLast {S : Nat → Int} {x1 : Int32} {h : St} {Q : Option Value → St → Prop} (hC : CS 1 S h) (hW : WF S) (p : Int) (hQ0 : ¬ thr S p → Q (some (.int (-101))) h) (hQ1 : thr S p → ∀ h', Sm [] [7] h h' → CS 1 (ordS S (S 1).toNat (lowO (od S) (pos S p (S 1).toNat).toNat (S 1).toNat)) h' → Q (some (.int (iI (pos S p (S 1).toNat)))) h') (h1 : x1 = iI p) (rp : rg p) : SC y_Scene_putLast [.ref 1, .int x1] h Q := by
  refine w_call IS_ok [] ok_Scene_putLast rfl rfl ?_
  have hn := hW.n
  have f3 : h.1 1 3 = iI (S 1).toNat := hC.1.1.trans (congrArg iI hn.1)
  refine c_Scene_putAt hC hW p ((S 1).toNat - 1) (by omega) hQ0 (fun ht h' hs hr => ?_) h1 (fun z => iI_q f3 z) rp
  have hp := thr_pos ht
  refine hQ1 ht h' hs (hC.ord (by rw [hs.1 _ _ (by decide)]; exact f3) (fun k _ => hs.1 _ _ (by simp)) (hs.2 _ (by decide)) (hs.2 _ (by decide)) hn.2.1 (fun k hk => ?_))
  rw [hr k (by omega)]
  unfold shf lowO
  by_cases z : k = (S 1).toNat - 1
  · rw [if_pos z]
    by_cases z3 : k < (pos S p (S 1).toNat).toNat
    · omega
    · rw [if_neg z3, if_neg (by omega)]; exact od_row hC hW hp.1
  · rw [if_neg z]
    by_cases z3 : k < (pos S p (S 1).toNat).toNat
    · rw [if_pos z3, if_neg (by omega), if_neg (by omega)]; exact od_row hC hW hk
    · rw [if_neg z3, if_pos (by omega), if_pos (by omega)]; exact od_row hC hW (by omega)
theorem c_Scene_dismiss {S : Nat → Int} {x1 : Int32} {h : St} {Q : Option Value → St → Prop} (hC : CS 1 S h) (hW : WF S) (p : Int) (hQ0 : ¬ thr S p → Q (some (.int (-101))) h) (hQ1 : thr S p → ∀ h', Sm [(1, 3)] [7] h h' → CS 1 (ordS S ((S 1).toNat - 1) (outO (od S) (pos S p (S 1).toNat).toNat)) h' → Q (some (.int (iI (pos S p (S 1).toNat)))) h') (h1 : x1 = iI p) (rp : rg p) : SC y_Scene_dismiss [.ref 1, .int x1] h Q := by
  refine w_call IS_ok [] ok_Scene_dismiss rfl rfl ?_
  have hn := hW.n
  refine c_Scene_putLast hC hW p (fun hz => ?_) (fun ht h' hs hC' => ?_) h1 rp
  · exact hQ0 hz
  have hp := thr_pos ht
  have f3 : h'.1 1 3 = iI (S 1).toNat := by rw [hs.1 _ _ (by decide)]; exact hC.1.1.trans (congrArg iI hn.1)
  refine w_lt (pos S p (S 1).toNat) 0 (fun g => by omega) (fun g => ?_) rfl rfl
  refine hQ1 ht (pg h' 1 3 (h'.1 1 3 - 1)) ((hs.mo (by decide) (by decide)).t (Sm.pg _ (by decide))) (hC.ord ?_ (fun k hk => ?_) (hs.2 3 (by decide)) (hs.2 5 (by decide)) (by omega) (fun k hk => ?_))
  · rw [pg_s]; exact iI_q f3 (by omega)
  · rw [pg_n _ _ _ _ hk]; exact hs.1 _ _ (by simp)
  · refine (hC'.2.2.1 k (by show k < _; have : ((ordS S (S 1).toNat (lowO (od S) (pos S p (S 1).toNat).toNat (S 1).toNat)) 1).toNat = (S 1).toNat := rfl; omega)).trans (congrArg iI ?_)
    unfold ordS
    rw [if_neg (by omega), if_pos (by omega), show 6 + k - 6 = k by omega]
    unfold lowO outO
    by_cases z3 : k < (pos S p (S 1).toNat).toNat
    · rw [if_pos z3, if_pos z3]
    · rw [if_neg z3, if_neg z3, if_pos (by omega)]
