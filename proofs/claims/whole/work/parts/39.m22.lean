/-! a state stays in good order: a frame, a new puppet, an undo -/
theorem ol_nd {o : Nat → Nat} {n : Nat} (h : ∀ j k, j < n → k < n → j ≠ k → o j ≠ o k) : (ol o n).Nodup := by
  unfold ol List.Nodup
  rw [List.pairwise_map]
  exact List.Pairwise.imp_of_mem (fun ha hb hab => h _ _ (List.mem_range.mp ha) (List.mem_range.mp hb) hab) List.nodup_range
theorem rot_ne {n s j k : Nat} (hj : j < n) (hk : k < n) (h : j < k) : (j + s) % n ≠ (k + s) % n := by
  intro e
  have h1 := Nat.sub_mod_eq_zero_of_mod_eq e.symm
  rw [show k + s - (j + s) = k - j by omega, Nat.mod_eq_of_lt (by omega)] at h1
  omega
theorem turnL_nd {B : Nat → Bool} {rule : Int} {step n : Nat} {o : Nat → Nat} (h : ∀ j k, j < n → k < n → j ≠ k → o j ≠ o k) : (turnL B rule step n o).Nodup := by
  unfold turnL
  split
  · exact (filt_perm B (ol o n)).nodup_iff.mpr (ol_nd h)
  · split
    · refine ol_nd (fun j k hj hk hjk => h _ _ (Nat.mod_lt _ (by omega)) (Nat.mod_lt _ (by omega)) ?_)
      rcases Nat.lt_or_gt_of_ne hjk with g | g
      · exact rot_ne hj hk g
      · exact (rot_ne hk hj g).symm
    · exact ol_nd h
theorem fl_ne {l : List Nat} (h : l.Nodup) {j k : Nat} (hjk : j < k) (hk : k < l.length) : fl l j ≠ fl l k := by
  unfold fl
  rw [List.getD_eq_getElem?_getD, List.getD_eq_getElem?_getD, List.getElem?_eq_getElem hk, List.getElem?_eq_getElem (show j < l.length by omega)]
  exact List.pairwise_iff_getElem.mp h j k (by omega) hk hjk
theorem frP_6 {T : Nat → Int} {b : Bool} {p : Nat} : frP T b p (26 + 9 * p + 6) = T (26 + 9 * p + 6) + (if b then 1 else 0) := by
  unfold frP
  rw [u1_n _ _ (by omega), u1_n _ _ (by omega), u1_s]
theorem frP_7 {T : Nat → Int} {b : Bool} {p : Nat} : frP T b p (26 + 9 * p + 7) = (if b then T (26 + 9 * p + 7) + 1 else 0) := by
  unfold frP
  rw [u1_n _ _ (by omega), u1_s]
theorem frP_8 {T : Nat → Int} {b : Bool} {p : Nat} : frP T b p (26 + 9 * p + 8) = (if (if b then T (26 + 9 * p + 7) + 1 else 0) ≤ T (26 + 9 * p + 8) then T (26 + 9 * p + 8) else (if b then T (26 + 9 * p + 7) + 1 else 0)) := by
  unfold frP
  rw [u1_s]
theorem frC_b {S : Nat → Int} (hW : WF S) (hd : Nat → Bool) : ∀ k, k ≤ (S 1).toNat → ∀ p, p < 20 → (0 ≤ frC S hd k (26 + 9 * p + 6) ∧ frC S hd k (26 + 9 * p + 6) ≤ S 5 + 1) ∧ (0 ≤ frC S hd k (26 + 9 * p + 7) ∧ frC S hd k (26 + 9 * p + 7) ≤ S 5 + 1) ∧ (0 ≤ frC S hd k (26 + 9 * p + 8) ∧ frC S hd k (26 + 9 * p + 8) ≤ S 5 + 1)
  | 0, _, p, hp => by
    have := hW.wp p hp
    show (0 ≤ S (26 + 9 * p + 6) ∧ S (26 + 9 * p + 6) ≤ S 5 + 1) ∧ (0 ≤ S (26 + 9 * p + 7) ∧ S (26 + 9 * p + 7) ≤ S 5 + 1) ∧ (0 ≤ S (26 + 9 * p + 8) ∧ S (26 + 9 * p + 8) ≤ S 5 + 1)
    omega
  | k + 1, hk, p, hp => by
    have ih := frC_b hW hd k (by omega) p hp
    by_cases z : p = od S k
    · have g := hW.wp p hp
      have hne : ∀ j, j < k → od S j ≠ p := fun j hj => by rw [z]; exact wf_nd hW (by omega) (by omega) (by omega)
      have e6 : frC S hd k (26 + 9 * p + 6) = S (26 + 9 * p + 6) := frC_p (by omega) hne
      have e7 : frC S hd k (26 + 9 * p + 7) = S (26 + 9 * p + 7) := frC_p (by omega) hne
      have e8 : frC S hd k (26 + 9 * p + 8) = S (26 + 9 * p + 8) := frC_p (by omega) hne
      have ef : frC S hd (k + 1) = frP (frC S hd k) (hd p) p := by rw [z]; rfl
      rw [ef, frP_6, frP_7, frP_8, e6, e7, e8]
      cases hd p <;> simp only [if_true, Bool.false_eq_true, if_false] <;> refine ⟨by omega, by omega, ?_⟩ <;> split <;> omega
    · have ef : ∀ i, i < 9 → frC S hd (k + 1) (26 + 9 * p + i) = frC S hd k (26 + 9 * p + i) := fun i hi => frP_o (by omega) (by omega) (by omega)
      rw [ef 6 (by omega), ef 7 (by omega), ef 8 (by omega)]
      exact ih
theorem wf_fr {S S' : Nat → Int} (hW : WF S) (h : RFr S S') (h5 : S 5 ≠ 9999) : WF S' := by
  obtain ⟨r5, r2, r3⟩ := h
  have hn := hW.n
  have hb : ∀ j, j < (S 1).toNat → od S j < 20 := fun j hj => (hW.od hj).2.1
  have hC := fun p hp => frC_b hW (hdd S) (S 1).toNat (Nat.le_refl _) p hp
  have lo : ∀ i, i ≠ 5 → ¬ (6 ≤ i ∧ i < 26) → (i < 26 ∨ 206 ≤ i) → S' i = S i := fun i h1 h2 h3 => (r3 i h1 h2).trans (frC_o hb h3)
  have pu : ∀ p i, i < 6 → S' (26 + 9 * p + i) = S (26 + 9 * p + i) := fun p i hi => (r3 _ (by omega) (by omega)).trans (frC_c hi)
  have hl : ∀ k, k < (S 1).toNat → ∃ j, j < (S 1).toNat ∧ od S j = fl (turnL (hdd S) (S 3) (S 4).toNat (S 1).toNat (od S)) k := fun k hk => turnL_mem (fl_mem (by rw [turnL_len]; exact hk))
  obtain ⟨g0, g1, g2, g3, g4, g5, g6, g7, g8, g9, g10, g11⟩ := id hW
  have e0 := lo 0 (by omega) (by omega) (by omega)
  have e1 := lo 1 (by omega) (by omega) (by omega)
  refine ⟨by rw [e0]; exact g0, by rw [e0, e1]; exact g1, by rw [lo 2 (by omega) (by omega) (by omega)]; exact g2, by rw [lo 3 (by omega) (by omega) (by omega)]; exact g3, by rw [lo 4 (by omega) (by omega) (by omega)]; exact g4, by rw [r5]; omega, ?_, ?_, ?_, ?_, ?_, ?_⟩
  · intro k hk
    rw [e1] at hk
    rw [e0, r2 k hk]
    obtain ⟨j, hj, e⟩ := hl k hk
    rw [← e]
    have := hW.od hj
    omega
  · intro j k hjk hk
    rw [e1] at hk
    rw [r2 j (by omega), r2 k hk]
    have := fl_ne (turnL_nd (B := hdd S) (rule := S 3) (step := (S 4).toNat) (o := od S) (fun j k hj hk hjk => wf_nd hW hj hk hjk)) hjk (by rw [turnL_len]; exact hk)
    omega
  · intro q hq
    have g := g8 q hq
    have c := hC q hq
    rw [r5, pu q 1 (by omega), pu q 2 (by omega), pu q 3 (by omega), pu q 4 (by omega), pu q 5 (by omega), show S' (26 + 9 * q) = S (26 + 9 * q) from pu q 0 (by omega), r3 (26 + 9 * q + 6) (by omega) (by omega), r3 (26 + 9 * q + 7) (by omega) (by omega), r3 (26 + 9 * q + 8) (by omega) (by omega)]
    exact ⟨g.1, g.2.1, g.2.2.1, g.2.2.2.1, g.2.2.2.2.1, g.2.2.2.2.2.1, c⟩
  · intro i hi
    rw [lo (206 + i) (by omega) (by omega) (by omega)]
    exact g9 i hi
  · intro q hq
    rw [e0] at hq
    rw [pu q 4 (by omega)]
    exact g10 q hq
  · intro q hq hs j hj
    rw [e0] at hs
    rw [r3 (26 + 9 * q + j) (by omega) (by omega), frC_p hj (fun i hi => by have := hW.od hi; omega)]
    exact g11 q hq hs j hj
theorem wf_rs {S G : Nat → Int} (hG : WF G) : WF (rsS S G) := by
  have e : Eqv G (rsS S G) := fun i hi _ => if_pos hi
  exact e.wf hG
theorem wf_cm {S : Nat → Int} (hW : WF S) {x y t g c : Int} (h20 : S 0 ≠ 20) (hx : -15 ≤ x ∧ x ≤ 63) (hy : -15 ≤ y ∧ y ≤ 47) (ht : 0 ≤ t ∧ t ≤ 1) (hg : 0 ≤ g ∧ g ≤ 7) (hc : 1 ≤ c ∧ c ≤ 9) : WF (cmS S x y t g c) := by
  have hn := hW.n
  obtain ⟨g0, g1, g2, g3, g4, g5, g6, g7, g8, g9, g10, g11⟩ := id hW
  obtain ⟨p, hp⟩ : ∃ p : Nat, S 0 = p := ⟨(S 0).toNat, by omega⟩
  obtain ⟨m, hm⟩ : ∃ m : Nat, S 1 = m := ⟨(S 1).toNat, by omega⟩
  have hz := g11 p (by omega) (by omega)
  have hcs : ∀ i, cmS S x y t g c i = if i = 26 + 9 * p + 4 then c else if i = 26 + 9 * p + 3 then g else if i = 26 + 9 * p + 2 then t else if i = 26 + 9 * p + 1 then y else if i = 26 + 9 * p then x else if i = 1 then S 1 + 1 else if i = 6 + m then S 0 else if i = 0 then S 0 + 1 else S i := by
    intro i
    unfold cmS
    rw [show (S 0).toNat = p by omega, show (S 1).toNat = m by omega]
    simp only [u1_app]
  have hot : ∀ i, i ≠ 0 → i ≠ 1 → i ≠ 6 + m → ¬ (26 + 9 * p ≤ i ∧ i < 26 + 9 * p + 5) → cmS S x y t g c i = S i := by
    intro i h0 h1 h2 h3
    rw [hcs, if_neg (by omega), if_neg (by omega), if_neg (by omega), if_neg (by omega), if_neg (by omega), if_neg (by omega), if_neg (by omega), if_neg (by omega)]
  have e0 : cmS S x y t g c 0 = S 0 + 1 := by rw [hcs, if_neg (by omega), if_neg (by omega), if_neg (by omega), if_neg (by omega), if_neg (by omega), if_neg (by omega), if_neg (by omega), if_pos rfl]
  have e1 : cmS S x y t g c 1 = S 1 + 1 := by rw [hcs, if_neg (by omega), if_neg (by omega), if_neg (by omega), if_neg (by omega), if_neg (by omega), if_pos rfl]
  have em : cmS S x y t g c (6 + m) = S 0 := by rw [hcs, if_neg (by omega), if_neg (by omega), if_neg (by omega), if_neg (by omega), if_neg (by omega), if_neg (by omega), if_pos rfl]
  refine ⟨by rw [e0]; omega, by rw [e0, e1]; omega, by rw [hot 2 (by omega) (by omega) (by omega) (by omega)]; exact g2, by rw [hot 3 (by omega) (by omega) (by omega) (by omega)]; exact g3, by rw [hot 4 (by omega) (by omega) (by omega) (by omega)]; exact g4, by rw [hot 5 (by omega) (by omega) (by omega) (by omega)]; exact g5, ?_, ?_, ?_, ?_, ?_, ?_⟩
  · intro k hk
    rw [e1] at hk
    rw [e0]
    by_cases z : k = m
    · subst z; rw [em]; omega
    · rw [hot (6 + k) (by omega) (by omega) (by omega) (by omega)]
      have := g6 k (by omega)
      omega
  · intro j k hjk hk
    rw [e1] at hk
    rw [hot (6 + j) (by omega) (by omega) (by omega) (by omega)]
    by_cases z : k = m
    · subst z
      rw [em]
      have := g6 j (by omega)
      omega
    · rw [hot (6 + k) (by omega) (by omega) (by omega) (by omega)]
      exact g7 j k hjk (by omega)
  · intro q hq
    have gq := g8 q hq
    rw [hot 5 (by omega) (by omega) (by omega) (by omega), hot (26 + 9 * q + 5) (by omega) (by omega) (by omega) (by omega), hot (26 + 9 * q + 6) (by omega) (by omega) (by omega) (by omega), hot (26 + 9 * q + 7) (by omega) (by omega) (by omega) (by omega), hot (26 + 9 * q + 8) (by omega) (by omega) (by omega) (by omega)]
    by_cases z : q = p
    · subst z
      have a0 : cmS S x y t g c (26 + 9 * q) = x := by rw [hcs, if_neg (by omega), if_neg (by omega), if_neg (by omega), if_neg (by omega), if_pos rfl]
      have a1 : cmS S x y t g c (26 + 9 * q + 1) = y := by rw [hcs, if_neg (by omega), if_neg (by omega), if_neg (by omega), if_pos rfl]
      have a2 : cmS S x y t g c (26 + 9 * q + 2) = t := by rw [hcs, if_neg (by omega), if_neg (by omega), if_pos rfl]
      have a3 : cmS S x y t g c (26 + 9 * q + 3) = g := by rw [hcs, if_neg (by omega), if_pos rfl]
      have a4 : cmS S x y t g c (26 + 9 * q + 4) = c := by rw [hcs, if_pos rfl]
      rw [a0, a1, a2, a3, a4]
      exact ⟨hx, hy, ht, hg, ⟨by omega, hc.2⟩, gq.2.2.2.2.2⟩
    · rw [hot (26 + 9 * q) (by omega) (by omega) (by omega) (by omega), hot (26 + 9 * q + 1) (by omega) (by omega) (by omega) (by omega), hot (26 + 9 * q + 2) (by omega) (by omega) (by omega) (by omega), hot (26 + 9 * q + 3) (by omega) (by omega) (by omega) (by omega), hot (26 + 9 * q + 4) (by omega) (by omega) (by omega) (by omega)]
      exact gq
  · intro i hi
    rw [hot (206 + i) (by omega) (by omega) (by omega) (by omega)]
    exact g9 i hi
  · intro q hq
    rw [e0] at hq
    by_cases z : q = p
    · subst z
      rw [hcs, if_pos rfl]
      exact hc.1
    · rw [hot (26 + 9 * q + 4) (by omega) (by omega) (by omega) (by omega)]
      exact g10 q (by omega)
  · intro q hq hs j hj
    rw [e0] at hs
    rw [hot (26 + 9 * q + j) (by omega) (by omega) (by omega) (by omega)]
    exact g11 q hq (by omega) j hj
