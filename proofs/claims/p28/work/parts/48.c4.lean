/-! the class: a frame -/
theorem CS.cnt {a p : Nat} {S S' : Nat → Int} {h h' : St} (hC : CS a S h) (hn20 : (S 1).toNat ≤ 20) (hp : p < 20) (h1 : ∀ k, h'.1 a k = h.1 a k) (h2 : h'.2 (a + 2) = h.2 (a + 2)) (h6 : h'.2 (a + 6) = h.2 (a + 6)) (hr : ∀ i, (∀ j, j < 3 → i ≠ p * 10 + (7 + j)) → h'.2 (a + 4) i = h.2 (a + 4) i) (hn : ∀ j, j < 3 → h'.2 (a + 4) (p * 10 + (7 + j)) = iI (S' (26 + 9 * p + (6 + j)))) (hs : ∀ i, (∀ j, j < 3 → i ≠ 26 + 9 * p + (6 + j)) → S' i = S i) : CS a S' h' := by
  obtain ⟨⟨a1, a2, a3, a4, a5, a6⟩, b, c, d, f, g⟩ := hC
  have e : ∀ i, (i < 26 ∨ 206 ≤ i) → S' i = S i := fun i hi => hs i (fun j hj => by omega)
  refine ⟨⟨by rw [h1, e 1 (by omega)]; exact a1, by rw [h1, e 0 (by omega)]; exact a2, by rw [h1, e 2 (by omega)]; exact a3, by rw [h1, e 3 (by omega)]; exact a4, by rw [h1, e 4 (by omega)]; exact a5, by rw [h1, e 5 (by omega)]; exact a6⟩, fun i hi => by rw [h2, e _ (by omega)]; exact b i hi, fun k hk => ?_, fun q hq j hj => ?_, fun q hq h0 => ?_, fun q hq j hj => ?_⟩
  · rw [e 1 (by omega)] at hk
    rw [h6, hs (6 + k) (fun j hj => by omega)]
    exact c k hk
  · rw [hr _ (fun i hi => by omega), hs _ (fun i hi => by omega)]
    exact d q hq j hj
  · rw [e 0 (by omega)] at h0
    rw [hr _ (fun i hi => by omega)]
    have := f q hq h0
    unfold hgh at this ⊢
    rw [hs _ (fun i hi => by omega)]
    exact this
  · by_cases z : q = p
    · subst z; exact hn j hj
    · rw [hr _ (fun i hi => by omega), hs _ (fun i hi => by omega)]
      exact g q hq j hj
theorem CS.mk2 {a : Nat} {F S' : Nat → Int} {h h' : St} (hC : CS a F h) (h2 : h'.2 (a + 2) = h.2 (a + 2)) (h4 : h'.2 (a + 4) = h.2 (a + 4)) (hf : h'.1 a 3 = iI (S' 1) ∧ h'.1 a 4 = iI (S' 0) ∧ h'.1 a 5 = iI (S' 2) ∧ h'.1 a 6 = iI (S' 3) ∧ h'.1 a 7 = iI (S' 4) ∧ h'.1 a 8 = iI (S' 5)) (ho : ∀ k, k < (S' 1).toNat → h'.2 (a + 6) k = iI (S' (6 + k))) (h0 : S' 0 = F 0) (hs : ∀ i, 26 ≤ i → S' i = F i) : CS a S' h' := by
  obtain ⟨-, b, -, d, f, g⟩ := hC
  refine ⟨hf, fun i hi => by rw [h2, hs _ (by omega)]; exact b i hi, ho, fun p hp j hj => by rw [h4, hs _ (by omega)]; exact d p hp j hj, fun p hp hp0 => ?_, fun p hp j hj => by rw [h4, hs _ (by omega)]; exact g p hp j hj⟩
  rw [h0] at hp0
  have := f p hp hp0
  unfold hgh at this ⊢
  rw [h4, hs _ (by omega)]
  exact this
theorem fl_mid {A C : List Nat} {x k : Nat} : fl (A ++ ([x] ++ C)) k = if k < A.length then fl (A ++ C) k else if k = A.length then x else fl (A ++ C) (k - 1) := by
  unfold fl
  simp only [List.getD_eq_getElem?_getD]
  by_cases h1 : k < A.length
  · rw [if_pos h1, List.getElem?_append_left h1, List.getElem?_append_left h1]
  · rw [if_neg h1, List.getElem?_append_right (by omega)]
    by_cases h2 : k = A.length
    · rw [if_pos h2, h2, Nat.sub_self]; rfl
    · rw [if_neg h2, List.getElem?_append_right (show [x].length ≤ k - A.length by simp; omega), List.getElem?_append_right (by omega)]
      congr 2
      simp
      omega

theorem c_Scene_countHidden_1 {T : Nat → Int} {B : Nat → Nat} {x : Int32} {h : St} {Q : Option Value → St → Prop} (hC : CS 1 T h) (hn20 : (T 1).toNat ≤ 20) (hB : ∀ p, p < 20 → h.2 19 p = iI (B p : Nat) ∧ B p < 2000) (p : Nat) (hp : p < 20) (hb : ∀ j, j < 3 → 0 ≤ T (26 + 9 * p + (6 + j)) ∧ T (26 + 9 * p + (6 + j)) ≤ 20000) (hQ : ∀ h', Sm [] [5] h h' → CS 1 (frP T (decide (0 < B p)) p) h' → Q none h') (hx : x = iI p) : SC y_Scene_countHidden [.ref 1, .int x, .ref 15] h Q := by
  refine w_call IS_ok [] ok_Scene_countHidden rfl rfl ?_
  refine c_Surv_isHidden_1 hB p hp ?_ hx
  have b0 := hb 0 (by omega)
  have b1 := hb 1 (by omega)
  have b2 := hb 2 (by omega)
  have g0 := hC.2.2.2.2.2 p hp 0 (by omega)
  have g1 := hC.2.2.2.2.2 p hp 1 (by omega)
  have g2 := hC.2.2.2.2.2 p hp 2 (by omega)
  refine w_b (fun g => ?_) (fun g => ?_)
  · refine c_Cells_set3 CA_4 p 8 (by omega) ?_ hx rfl
    have hs : Sm [] [5] h (wa h 5 (p * 10 + 8) 0) := Sm.wa _ _ (by decide)
    rw [decide_eq_false g] at hQ
    refine hQ _ hs (hC.cnt hn20 hp (fun _ => rfl) (wa_o _ _ _ _ (by decide)) (wa_o _ _ _ _ (by decide)) (fun i hi => wa_n _ _ _ _ (hi 1 (by omega))) (fun j hj => ?_) (fun i hi => frP_o (hi 0 (by omega)) (hi 1 (by omega)) (hi 2 (by omega))))
    have : j = 0 ∨ j = 1 ∨ j = 2 := by omega
    rcases this with rfl | rfl | rfl
    · rw [wa_n _ _ _ _ (by omega)]
      refine g0.trans (congrArg iI ?_)
      unfold frP
      rw [u1_n _ _ (by omega), u1_n _ _ (by omega), u1_s]
      simp
    · refine (wa_s _ _ _ _).trans ?_
      show iI 0 = _
      congr 1
      unfold frP
      rw [u1_n _ _ (by omega), u1_s]
      rfl
    · rw [wa_n _ _ _ _ (by omega)]
      refine g2.trans (congrArg iI ?_)
      unfold frP
      rw [u1_s]
      exact (if_pos b2.1).symm
  · refine c_Cells_get2 CA_4 p 8 (by omega) ?_ hx rfl
    have e1 : h.2 5 (p * 10 + 8) + 1 = iI (T (26 + 9 * p + 7) + 1) := (congrArg (· + 1) g1).trans (iI_add _ 1)
    refine c_Cells_set3 CA_4 p 8 (by omega) ?_ hx rfl
    refine c_Cells_get2 CA_4 p 9 (by omega) ?_ hx rfl
    refine c_J_max (T (26 + 9 * p + 8)) (T (26 + 9 * p + 7) + 1) ?_ ?_ e1 (by have : T (26 + 9 * p + (6 + 2)) = T (26 + 9 * p + 8) := rfl; omega) (by have : T (26 + 9 * p + (6 + 1)) = T (26 + 9 * p + 7) := rfl; omega)
    rotate_left
    · rw [wa_n _ _ _ _ (by omega)]; exact g2
    refine c_Cells_set3 CA_4 p 9 (by omega) ?_ hx rfl
    refine c_Cells_get2 CA_4 p 7 (by omega) ?_ hx rfl
    refine c_Cells_set3 CA_4 p 7 (by omega) ?_ hx rfl
    rw [decide_eq_true g] at hQ
    refine hQ _ (((Sm.wa _ _ (by decide)).t (Sm.wa _ _ (by decide))).t (Sm.wa _ _ (by decide))) (hC.cnt hn20 hp (fun _ => rfl) ?_ ?_ (fun i hi => ?_) (fun j hj => ?_) (fun i hi => frP_o (hi 0 (by omega)) (hi 1 (by omega)) (hi 2 (by omega))))
    · rw [wa_o _ _ _ _ (by decide), wa_o _ _ _ _ (by decide), wa_o _ _ _ _ (by decide)]
    · rw [wa_o _ _ _ _ (by decide), wa_o _ _ _ _ (by decide), wa_o _ _ _ _ (by decide)]
    · rw [wa_n _ _ _ _ (hi 0 (by omega)), wa_n _ _ _ _ (hi 2 (by omega)), wa_n _ _ _ _ (hi 1 (by omega))]
    · have : j = 0 ∨ j = 1 ∨ j = 2 := by omega
      rcases this with rfl | rfl | rfl
      · refine (wa_s _ _ _ _).trans ?_
        rw [wa_n _ _ _ _ (by omega), wa_n _ _ _ _ (by omega)]
        refine (congrArg (· + 1) g0).trans ((iI_add _ 1).trans (congrArg iI ?_))
        unfold frP
        rw [u1_n _ _ (by omega), u1_n _ _ (by omega), u1_s]
        rfl
      · rw [wa_n _ _ _ _ (by omega), wa_n _ _ _ _ (by omega)]
        refine (wa_s _ _ _ _).trans (e1.trans (congrArg iI ?_))
        unfold frP
        rw [u1_n _ _ (by omega), u1_s]
        rfl
      · rw [wa_n _ _ _ _ (by omega)]
        refine (wa_s _ _ _ _).trans (congrArg iI ?_)
        unfold frP
        rw [u1_s]
        rfl
theorem c_Scene_rotate_1 {n s : Nat} {o : Nat → Nat} {h : St} {Q : Option Value → St → Prop} (h3 : h.1 1 3 = iI n) (h7 : h.1 1 7 = iI s) (hn : n ≤ 20) (hs : s ≤ 19) (ho : ∀ k, k < n → h.2 7 k = iI (o k : Nat)) (hQ : ∀ h', Sm [] [7] h h' → (∀ k, k < n → h'.2 7 k = iI (o ((k + s) % n) : Nat)) → Q none h') : SC y_Scene_rotate [.ref 1] h Q := by
  refine w_call IS_ok [23] ok_Scene_rotate rfl rfl ?_
  have fin : ∀ (hc : St), Sm [] [7] h hc → (∀ k, k < n → hc.2 7 k = iI (o ((k + s % n) % n) : Nat)) → Q none hc := by
    intro hc hsm hr
    refine hQ hc hsm (fun k hk => ?_)
    rw [hr k hk, Nat.add_mod_mod]
  have loop : ∀ (m t : Nat) (hc : St) (z1 z2 : Int32), s % n ≤ t + m → t ≤ s % n → (0 < s % n → 0 < n) → Sm [] [7] h hc → (∀ k, k < n → hc.2 7 k = iI (o ((k + t) % n) : Nat)) → z1 = iI (s % n : Nat) → z2 = iI t → s % n < 20 → SR y_Scene_rotate 23 [some (.ref 1), some (.int z1), some (.int z2)] [] hc Q := by
    intro m
    induction m with
    | zero =>
      intro t hc z1 z2 hm ht h0 hsm hr e1 e2 h20
      have : t = s % n := by omega
      subst this
      refine w_loop IS_ok [23] ok_Scene_rotate ?_
      exact w_le (s % n : Nat) (s % n : Nat) (fun _ => fin hc hsm hr) (fun _ => by omega) e1 e2
    | succ m ih =>
      intro t hc z1 z2 hm ht h0 hsm hr e1 e2 h20
      refine w_loop IS_ok [23] ok_Scene_rotate ?_
      refine w_le (s % n : Nat) t (fun g => ?_) (fun g => ?_) e1 e2
      · have : t = s % n := by omega
        subst this
        exact fin hc hsm hr
      have hn0 : 0 < n := h0 (by omega)
      refine c_Scene_shiftInOrder_1 0 (n - 1) (by omega) (by omega) (fun h' hs' hr' => ?_) rfl (iI_q ((hsm.1 _ _ (by decide)).trans h3) hn0)
      refine ih (t + 1) h' _ _ (by omega) (by omega) h0 (hsm.t hs') (fun k hk => ?_) e1 (iI_1 e2) h20
      rw [hr' k (by omega)]
      unfold shf
      by_cases z1 : k = n - 1
      · rw [if_pos z1, hr 0 hn0]
        congr 3
        rw [show k + (t + 1) = t + n by omega, Nat.add_mod_right, Nat.zero_add]
      · rw [if_neg z1, if_pos (by omega), hr (k + 1) (by omega)]
        congr 4
        omega
  refine w_le n 0 (fun g => ?_) (fun g => ?_) h3 rfl
  · have : n = 0 := by omega
    subst this
    refine w_loop IS_ok [23] ok_Scene_rotate ?_
    refine w_le 0 0 (fun _ => ?_) (fun _ => by omega) rfl rfl
    exact hQ h Sm.rf (fun k hk => by omega)
  · refine ⟨fun z => ?_, ?_⟩
    · have z2 := (iI_eq (a := n) (b := 0) (by omega) (by omega)).mp (h3.symm.trans z)
      omega
    · have e := modr h7 h3 (by omega) (by omega) (by omega)
      have hlt := Nat.mod_lt s (show n > 0 by omega)
      refine loop 20 0 h _ _ (by omega) (by omega) (fun _ => by omega) Sm.rf (fun k hk => ?_) e rfl (by omega)
      rw [Nat.add_zero, Nat.mod_eq_of_lt hk]
      exact ho k hk
theorem c_Scene_bringHidden_1 {n : Nat} {o B : Nat → Nat} {h : St} {Q : Option Value → St → Prop} (hB : ∀ p, p < 20 → h.2 19 p = iI (B p : Nat) ∧ B p < 2000) (h3 : h.1 1 3 = iI n) (hn : n ≤ 20) (ho : ∀ k, k < n → h.2 7 k = iI (o k : Nat) ∧ o k < 20) (hQ : ∀ h', Sm [] [7] h h' → (∀ k, k < n → h'.2 7 k = iI (fl ((ol o n).filter (fun p => decide (0 < B p)) ++ (ol o n).filter (fun p => !decide (0 < B p))) k : Nat)) → Q none h') : SC y_Scene_bringHidden [.ref 1, .ref 15] h Q := by
  refine w_call IS_ok [4] ok_Scene_bringHidden rfl rfl ?_
  have loop : ∀ (m t : Nat) (hc : St) (z2 z3 : Int32), n ≤ t + m → t ≤ n → Sm [] [7] h hc → (∀ k, k < t → hc.2 7 k = iI (fl ((ol o t).filter (fun p => decide (0 < B p)) ++ (ol o t).filter (fun p => !decide (0 < B p))) k : Nat)) → (∀ k, t ≤ k → k < n → hc.2 7 k = iI (o k : Nat)) → z2 = iI (((ol o t).filter (fun p => decide (0 < B p))).length : Nat) → z3 = iI t → SR y_Scene_bringHidden 4 [some (.ref 1), some (.ref 15), some (.int z2), some (.int z3)] [] hc Q := by
    intro m
    induction m with
    | zero =>
      intro t hc z2 z3 hm ht hsm hr hr2 e2 e3
      have : t = n := by omega
      subst this
      refine w_loop IS_ok [4] ok_Scene_bringHidden ?_
      exact w_le t t (fun _ => hQ hc hsm hr) (fun _ => by omega) ((hsm.1 _ _ (by decide)).trans h3) e3
    | succ m ih =>
      intro t hc z2 z3 hm ht hsm hr hr2 e2 e3
      refine w_loop IS_ok [4] ok_Scene_bringHidden ?_
      refine w_le n t (fun g => ?_) (fun g => ?_) ((hsm.1 _ _ (by decide)).trans h3) e3
      · have : t = n := by omega
        subst this
        exact hQ hc hsm hr
      have htn : t < n := by omega
      refine c_Cells_get1 CA_6 t (by omega) ?_ e3
      have hot := hr2 t (Nat.le_refl _) htn
      have hB2 : ∀ p, p < 20 → hc.2 19 p = iI (B p : Nat) ∧ B p < 2000 := fun p hp => by rw [hsm.2 _ (by decide)]; exact hB p hp
      refine c_Surv_isHidden_1 hB2 (o t) (ho t htn).2 ?_ hot
      have hlen := (filt_perm (fun p => decide (0 < B p)) (ol o t)).length_eq
      rw [List.length_append, ol_len] at hlen
      have es := ol_s o t
      refine w_b (fun g2 => ?_) (fun g2 => ?_)
      · have f1 : (ol o (t + 1)).filter (fun p => decide (0 < B p)) = (ol o t).filter (fun p => decide (0 < B p)) := by rw [es, List.filter_append]; simp [g2]
        have f2 : (ol o (t + 1)).filter (fun p => !decide (0 < B p)) = (ol o t).filter (fun p => !decide (0 < B p)) ++ [o t] := by rw [es, List.filter_append]; simp [g2]
        refine ih (t + 1) hc _ _ (by omega) (by omega) hsm (fun k hk => ?_) (fun k h1 h2 => hr2 k (by omega) h2) (by rw [f1]; exact e2) (iI_1 e3)
        rw [f1, f2, ← List.append_assoc]
        by_cases z : k = t
        · subst z
          rw [hot, fl_end (by rw [List.length_append]; omega)]
        · rw [fl_app (by rw [List.length_append]; omega)]
          exact hr k (by omega)
      · have f1 : (ol o (t + 1)).filter (fun p => decide (0 < B p)) = (ol o t).filter (fun p => decide (0 < B p)) ++ [o t] := by rw [es, List.filter_append]; simp [g2]
        have f2 : (ol o (t + 1)).filter (fun p => !decide (0 < B p)) = (ol o t).filter (fun p => !decide (0 < B p)) := by rw [es, List.filter_append]; simp [g2]
        refine c_Scene_shiftInOrder_1 t ((ol o t).filter (fun p => decide (0 < B p))).length (by omega) (by omega) (fun h' hs' hr' => ?_) e3 e2
        refine ih (t + 1) h' _ _ (by omega) (by omega) (hsm.t hs') (fun k hk => ?_) (fun k h1 h2 => ?_) (by rw [f1, List.length_append]; exact iI_1 e2) (iI_1 e3)
        · rw [f1, f2, List.append_assoc, fl_mid, hr' k (by omega)]
          unfold shf
          by_cases z1 : k = ((ol o t).filter (fun p => decide (0 < B p))).length
          · rw [if_pos z1, if_neg (by omega), if_pos z1]
            exact hot
          · rw [if_neg z1, if_neg (by omega), if_neg z1]
            by_cases z2 : k < ((ol o t).filter (fun p => decide (0 < B p))).length
            · rw [if_neg (by omega), if_pos z2]
              exact hr k (by omega)
            · rw [if_pos (by omega), if_neg z2]
              exact hr (k - 1) (by omega)
        · rw [hr' k (by omega)]
          unfold shf
          rw [if_neg (by omega), if_neg (by omega), if_neg (by omega)]
          exact hr2 k (by omega) h2
  exact loop n 0 h _ _ (by omega) (by omega) Sm.rf (fun k hk => by omega) (fun k _ hk => (ho k hk).1) rfl rfl

theorem c_Scene_countHidden_24 {T : Nat → Int} {B : Nat → Nat} {x : Int32} {h : St} {Q : Option Value → St → Prop} (hC : CS 24 T h) (hn20 : (T 1).toNat ≤ 20) (hB : ∀ p, p < 20 → h.2 35 p = iI (B p : Nat) ∧ B p < 2000) (p : Nat) (hp : p < 20) (hb : ∀ j, j < 3 → 0 ≤ T (26 + 9 * p + (6 + j)) ∧ T (26 + 9 * p + (6 + j)) ≤ 20000) (hQ : ∀ h', Sm [] [28] h h' → CS 24 (frP T (decide (0 < B p)) p) h' → Q none h') (hx : x = iI p) : SC y_Scene_countHidden [.ref 24, .int x, .ref 31] h Q := by
  refine w_call IS_ok [] ok_Scene_countHidden rfl rfl ?_
  refine c_Surv_isHidden_24 hB p hp ?_ hx
  have b0 := hb 0 (by omega)
  have b1 := hb 1 (by omega)
  have b2 := hb 2 (by omega)
  have g0 := hC.2.2.2.2.2 p hp 0 (by omega)
  have g1 := hC.2.2.2.2.2 p hp 1 (by omega)
  have g2 := hC.2.2.2.2.2 p hp 2 (by omega)
  refine w_b (fun g => ?_) (fun g => ?_)
  · refine c_Cells_set3 CA_27 p 8 (by omega) ?_ hx rfl
    have hs : Sm [] [28] h (wa h 28 (p * 10 + 8) 0) := Sm.wa _ _ (by decide)
    rw [decide_eq_false g] at hQ
    refine hQ _ hs (hC.cnt hn20 hp (fun _ => rfl) (wa_o _ _ _ _ (by decide)) (wa_o _ _ _ _ (by decide)) (fun i hi => wa_n _ _ _ _ (hi 1 (by omega))) (fun j hj => ?_) (fun i hi => frP_o (hi 0 (by omega)) (hi 1 (by omega)) (hi 2 (by omega))))
    have : j = 0 ∨ j = 1 ∨ j = 2 := by omega
    rcases this with rfl | rfl | rfl
    · rw [wa_n _ _ _ _ (by omega)]
      refine g0.trans (congrArg iI ?_)
      unfold frP
      rw [u1_n _ _ (by omega), u1_n _ _ (by omega), u1_s]
      simp
    · refine (wa_s _ _ _ _).trans ?_
      show iI 0 = _
      congr 1
      unfold frP
      rw [u1_n _ _ (by omega), u1_s]
      rfl
    · rw [wa_n _ _ _ _ (by omega)]
      refine g2.trans (congrArg iI ?_)
      unfold frP
      rw [u1_s]
      exact (if_pos b2.1).symm
  · refine c_Cells_get2 CA_27 p 8 (by omega) ?_ hx rfl
    have e1 : h.2 28 (p * 10 + 8) + 1 = iI (T (26 + 9 * p + 7) + 1) := (congrArg (· + 1) g1).trans (iI_add _ 1)
    refine c_Cells_set3 CA_27 p 8 (by omega) ?_ hx rfl
    refine c_Cells_get2 CA_27 p 9 (by omega) ?_ hx rfl
    refine c_J_max (T (26 + 9 * p + 8)) (T (26 + 9 * p + 7) + 1) ?_ ?_ e1 (by have : T (26 + 9 * p + (6 + 2)) = T (26 + 9 * p + 8) := rfl; omega) (by have : T (26 + 9 * p + (6 + 1)) = T (26 + 9 * p + 7) := rfl; omega)
    rotate_left
    · rw [wa_n _ _ _ _ (by omega)]; exact g2
    refine c_Cells_set3 CA_27 p 9 (by omega) ?_ hx rfl
    refine c_Cells_get2 CA_27 p 7 (by omega) ?_ hx rfl
    refine c_Cells_set3 CA_27 p 7 (by omega) ?_ hx rfl
    rw [decide_eq_true g] at hQ
    refine hQ _ (((Sm.wa _ _ (by decide)).t (Sm.wa _ _ (by decide))).t (Sm.wa _ _ (by decide))) (hC.cnt hn20 hp (fun _ => rfl) ?_ ?_ (fun i hi => ?_) (fun j hj => ?_) (fun i hi => frP_o (hi 0 (by omega)) (hi 1 (by omega)) (hi 2 (by omega))))
    · rw [wa_o _ _ _ _ (by decide), wa_o _ _ _ _ (by decide), wa_o _ _ _ _ (by decide)]
    · rw [wa_o _ _ _ _ (by decide), wa_o _ _ _ _ (by decide), wa_o _ _ _ _ (by decide)]
    · rw [wa_n _ _ _ _ (hi 0 (by omega)), wa_n _ _ _ _ (hi 2 (by omega)), wa_n _ _ _ _ (hi 1 (by omega))]
    · have : j = 0 ∨ j = 1 ∨ j = 2 := by omega
      rcases this with rfl | rfl | rfl
      · refine (wa_s _ _ _ _).trans ?_
        rw [wa_n _ _ _ _ (by omega), wa_n _ _ _ _ (by omega)]
        refine (congrArg (· + 1) g0).trans ((iI_add _ 1).trans (congrArg iI ?_))
        unfold frP
        rw [u1_n _ _ (by omega), u1_n _ _ (by omega), u1_s]
        rfl
      · rw [wa_n _ _ _ _ (by omega), wa_n _ _ _ _ (by omega)]
        refine (wa_s _ _ _ _).trans (e1.trans (congrArg iI ?_))
        unfold frP
        rw [u1_n _ _ (by omega), u1_s]
        rfl
      · rw [wa_n _ _ _ _ (by omega)]
        refine (wa_s _ _ _ _).trans (congrArg iI ?_)
        unfold frP
        rw [u1_s]
        rfl
theorem c_Scene_rotate_24 {n s : Nat} {o : Nat → Nat} {h : St} {Q : Option Value → St → Prop} (h3 : h.1 24 3 = iI n) (h7 : h.1 24 7 = iI s) (hn : n ≤ 20) (hs : s ≤ 19) (ho : ∀ k, k < n → h.2 30 k = iI (o k : Nat)) (hQ : ∀ h', Sm [] [30] h h' → (∀ k, k < n → h'.2 30 k = iI (o ((k + s) % n) : Nat)) → Q none h') : SC y_Scene_rotate [.ref 24] h Q := by
  refine w_call IS_ok [23] ok_Scene_rotate rfl rfl ?_
  have fin : ∀ (hc : St), Sm [] [30] h hc → (∀ k, k < n → hc.2 30 k = iI (o ((k + s % n) % n) : Nat)) → Q none hc := by
    intro hc hsm hr
    refine hQ hc hsm (fun k hk => ?_)
    rw [hr k hk, Nat.add_mod_mod]
  have loop : ∀ (m t : Nat) (hc : St) (z1 z2 : Int32), s % n ≤ t + m → t ≤ s % n → (0 < s % n → 0 < n) → Sm [] [30] h hc → (∀ k, k < n → hc.2 30 k = iI (o ((k + t) % n) : Nat)) → z1 = iI (s % n : Nat) → z2 = iI t → s % n < 20 → SR y_Scene_rotate 23 [some (.ref 24), some (.int z1), some (.int z2)] [] hc Q := by
    intro m
    induction m with
    | zero =>
      intro t hc z1 z2 hm ht h0 hsm hr e1 e2 h20
      have : t = s % n := by omega
      subst this
      refine w_loop IS_ok [23] ok_Scene_rotate ?_
      exact w_le (s % n : Nat) (s % n : Nat) (fun _ => fin hc hsm hr) (fun _ => by omega) e1 e2
    | succ m ih =>
      intro t hc z1 z2 hm ht h0 hsm hr e1 e2 h20
      refine w_loop IS_ok [23] ok_Scene_rotate ?_
      refine w_le (s % n : Nat) t (fun g => ?_) (fun g => ?_) e1 e2
      · have : t = s % n := by omega
        subst this
        exact fin hc hsm hr
      have hn0 : 0 < n := h0 (by omega)
      refine c_Scene_shiftInOrder_24 0 (n - 1) (by omega) (by omega) (fun h' hs' hr' => ?_) rfl (iI_q ((hsm.1 _ _ (by decide)).trans h3) hn0)
      refine ih (t + 1) h' _ _ (by omega) (by omega) h0 (hsm.t hs') (fun k hk => ?_) e1 (iI_1 e2) h20
      rw [hr' k (by omega)]
      unfold shf
      by_cases z1 : k = n - 1
      · rw [if_pos z1, hr 0 hn0]
        congr 3
        rw [show k + (t + 1) = t + n by omega, Nat.add_mod_right, Nat.zero_add]
      · rw [if_neg z1, if_pos (by omega), hr (k + 1) (by omega)]
        congr 4
        omega
  refine w_le n 0 (fun g => ?_) (fun g => ?_) h3 rfl
  · have : n = 0 := by omega
    subst this
    refine w_loop IS_ok [23] ok_Scene_rotate ?_
    refine w_le 0 0 (fun _ => ?_) (fun _ => by omega) rfl rfl
    exact hQ h Sm.rf (fun k hk => by omega)
  · refine ⟨fun z => ?_, ?_⟩
    · have z2 := (iI_eq (a := n) (b := 0) (by omega) (by omega)).mp (h3.symm.trans z)
      omega
    · have e := modr h7 h3 (by omega) (by omega) (by omega)
      have hlt := Nat.mod_lt s (show n > 0 by omega)
      refine loop 20 0 h _ _ (by omega) (by omega) (fun _ => by omega) Sm.rf (fun k hk => ?_) e rfl (by omega)
      rw [Nat.add_zero, Nat.mod_eq_of_lt hk]
      exact ho k hk
theorem c_Scene_bringHidden_24 {n : Nat} {o B : Nat → Nat} {h : St} {Q : Option Value → St → Prop} (hB : ∀ p, p < 20 → h.2 35 p = iI (B p : Nat) ∧ B p < 2000) (h3 : h.1 24 3 = iI n) (hn : n ≤ 20) (ho : ∀ k, k < n → h.2 30 k = iI (o k : Nat) ∧ o k < 20) (hQ : ∀ h', Sm [] [30] h h' → (∀ k, k < n → h'.2 30 k = iI (fl ((ol o n).filter (fun p => decide (0 < B p)) ++ (ol o n).filter (fun p => !decide (0 < B p))) k : Nat)) → Q none h') : SC y_Scene_bringHidden [.ref 24, .ref 31] h Q := by
  refine w_call IS_ok [4] ok_Scene_bringHidden rfl rfl ?_
  have loop : ∀ (m t : Nat) (hc : St) (z2 z3 : Int32), n ≤ t + m → t ≤ n → Sm [] [30] h hc → (∀ k, k < t → hc.2 30 k = iI (fl ((ol o t).filter (fun p => decide (0 < B p)) ++ (ol o t).filter (fun p => !decide (0 < B p))) k : Nat)) → (∀ k, t ≤ k → k < n → hc.2 30 k = iI (o k : Nat)) → z2 = iI (((ol o t).filter (fun p => decide (0 < B p))).length : Nat) → z3 = iI t → SR y_Scene_bringHidden 4 [some (.ref 24), some (.ref 31), some (.int z2), some (.int z3)] [] hc Q := by
    intro m
    induction m with
    | zero =>
      intro t hc z2 z3 hm ht hsm hr hr2 e2 e3
      have : t = n := by omega
      subst this
      refine w_loop IS_ok [4] ok_Scene_bringHidden ?_
      exact w_le t t (fun _ => hQ hc hsm hr) (fun _ => by omega) ((hsm.1 _ _ (by decide)).trans h3) e3
    | succ m ih =>
      intro t hc z2 z3 hm ht hsm hr hr2 e2 e3
      refine w_loop IS_ok [4] ok_Scene_bringHidden ?_
      refine w_le n t (fun g => ?_) (fun g => ?_) ((hsm.1 _ _ (by decide)).trans h3) e3
      · have : t = n := by omega
        subst this
        exact hQ hc hsm hr
      have htn : t < n := by omega
      refine c_Cells_get1 CA_29 t (by omega) ?_ e3
      have hot := hr2 t (Nat.le_refl _) htn
      have hB2 : ∀ p, p < 20 → hc.2 35 p = iI (B p : Nat) ∧ B p < 2000 := fun p hp => by rw [hsm.2 _ (by decide)]; exact hB p hp
      refine c_Surv_isHidden_24 hB2 (o t) (ho t htn).2 ?_ hot
      have hlen := (filt_perm (fun p => decide (0 < B p)) (ol o t)).length_eq
      rw [List.length_append, ol_len] at hlen
      have es := ol_s o t
      refine w_b (fun g2 => ?_) (fun g2 => ?_)
      · have f1 : (ol o (t + 1)).filter (fun p => decide (0 < B p)) = (ol o t).filter (fun p => decide (0 < B p)) := by rw [es, List.filter_append]; simp [g2]
        have f2 : (ol o (t + 1)).filter (fun p => !decide (0 < B p)) = (ol o t).filter (fun p => !decide (0 < B p)) ++ [o t] := by rw [es, List.filter_append]; simp [g2]
        refine ih (t + 1) hc _ _ (by omega) (by omega) hsm (fun k hk => ?_) (fun k h1 h2 => hr2 k (by omega) h2) (by rw [f1]; exact e2) (iI_1 e3)
        rw [f1, f2, ← List.append_assoc]
        by_cases z : k = t
        · subst z
          rw [hot, fl_end (by rw [List.length_append]; omega)]
        · rw [fl_app (by rw [List.length_append]; omega)]
          exact hr k (by omega)
      · have f1 : (ol o (t + 1)).filter (fun p => decide (0 < B p)) = (ol o t).filter (fun p => decide (0 < B p)) ++ [o t] := by rw [es, List.filter_append]; simp [g2]
        have f2 : (ol o (t + 1)).filter (fun p => !decide (0 < B p)) = (ol o t).filter (fun p => !decide (0 < B p)) := by rw [es, List.filter_append]; simp [g2]
        refine c_Scene_shiftInOrder_24 t ((ol o t).filter (fun p => decide (0 < B p))).length (by omega) (by omega) (fun h' hs' hr' => ?_) e3 e2
        refine ih (t + 1) h' _ _ (by omega) (by omega) (hsm.t hs') (fun k hk => ?_) (fun k h1 h2 => ?_) (by rw [f1, List.length_append]; exact iI_1 e2) (iI_1 e3)
        · rw [f1, f2, List.append_assoc, fl_mid, hr' k (by omega)]
          unfold shf
          by_cases z1 : k = ((ol o t).filter (fun p => decide (0 < B p))).length
          · rw [if_pos z1, if_neg (by omega), if_pos z1]
            exact hot
          · rw [if_neg z1, if_neg (by omega), if_neg z1]
            by_cases z2 : k < ((ol o t).filter (fun p => decide (0 < B p))).length
            · rw [if_neg (by omega), if_pos z2]
              exact hr k (by omega)
            · rw [if_pos (by omega), if_neg z2]
              exact hr (k - 1) (by omega)
        · rw [hr' k (by omega)]
          unfold shf
          rw [if_neg (by omega), if_neg (by omega), if_neg (by omega)]
          exact hr2 k (by omega) h2
  exact loop n 0 h _ _ (by omega) (by omega) Sm.rf (fun k hk => by omega) (fun k _ hk => (ho k hk).1) rfl rfl
