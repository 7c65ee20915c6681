/-! the class: what a forecast knows -/
theorem hT_geo {S X : Nat → Int} {o o' : Nat → Nat} {n : Nat} (h2 : X 2 = S 2) (hg : ∀ p, p < 20 → X (26 + 9 * p + 1) = S (26 + 9 * p + 1) ∧ X (26 + 9 * p + 2) = S (26 + 9 * p + 2)) (ho : ∀ k, k < n → o' k = o k ∧ o k < 20) (y p : Nat) : hT X o' n y p = hT S o n y p := by
  have hs : ∀ k, k < n → ∀ l : Int, stn X (o' k) l ↔ stn S (o k) l := fun k hk l => by
    obtain ⟨e, hl⟩ := ho k hk
    obtain ⟨g1, g2⟩ := hg _ hl
    rw [e]
    unfold stn hgh
    rw [g1, g2]
  refine sm_congr (fun l _ => sm_congr (fun j hj => ?_))
  rw [(ho j hj).1]
  have hc : cn X o' l (j + 1) = cn S o l (j + 1) := sm_congr (fun i hi => by
    by_cases z : stn S (o i) l
    · rw [if_pos z, if_pos ((hs i (by omega) l).mpr z)]
    · rw [if_neg z, if_neg (fun w => z ((hs i (by omega) l).mp w))])
  have hh : hA X o' l j = hA S o l j := by
    unfold hA
    rw [hc, h2]
    by_cases z : stn S (o j) l ∧ S 2 < (cn S o l (j + 1) : Int)
    · rw [if_pos z, if_pos ⟨(hs j hj l).mpr z.1, z.2⟩]
    · rw [if_neg z, if_neg (fun w => z ⟨(hs j hj l).mp w.1, w.2⟩)]
  rw [hh]
theorem hT_no {S : Nat → Int} {o : Nat → Nat} {n y p : Nat} (h : ∀ k, k < n → o k ≠ p) : hT S o n y p = 0 := sm_zero.mpr (fun l _ => sm_zero.mpr (fun j hj => if_neg (h j hj)))
theorem frC6 {X : Nat → Int} {hd : Nat → Bool} {n p j0 : Nat} (hi : ∀ j k, j < n → k < n → od X j = od X k → j = k) (hj0 : j0 < n) (e0 : od X j0 = p) : ∀ k, k ≤ n → j0 < k → frC X hd k (26 + 9 * p + 6) = X (26 + 9 * p + 6) + (if hd p then 1 else 0)
  | 0, _, h => by omega
  | k + 1, hk, h => by
    show frP (frC X hd k) (hd (od X k)) (od X k) _ = _
    by_cases z : j0 = k
    · subst z
      rw [e0]
      unfold frP
      rw [u1_n _ _ (by omega), u1_n _ _ (by omega), u1_s]
      rw [frC_p (i := 6) (by omega) (fun j hj e => by have := hi j j0 (by omega) hj0 (e.trans e0.symm); omega)]
    · have : od X k ≠ p := fun e => z (hi j0 k hj0 (by omega) (e0.trans e.symm))
      rw [frP_o (by omega) (by omega) (by omega)]
      exact frC6 hi hj0 e0 k (by omega) (by omega)
/-- X is S behind t frames by a rule and a step -/
def Fut (S : Nat → Int) (rule : Int) (step t : Nat) (X : Nat → Int) : Prop := (X 1 = S 1 ∧ X 2 = S 2 ∧ X 3 = rule ∧ X 4 = step ∧ X 5 = S 5 + t) ∧ (∀ p, p < 20 → X (26 + 9 * p + 1) = S (26 + 9 * p + 1) ∧ X (26 + 9 * p + 2) = S (26 + 9 * p + 2)) ∧ (∀ k, k < (S 1).toNat → od X k = oF S rule step t k) ∧ (∀ p, p < 20 → X (26 + 9 * p + 6) = S (26 + 9 * p + 6) + ofn S rule step p t)
theorem Fut.hd {S X : Nat → Int} {rule : Int} {step t : Nat} (hF : Fut S rule step t X) (hW : WF S) (p : Nat) : hT X (od X) (X 1).toNat 48 p = hT S (oF S rule step t) (S 1).toNat 48 p := by
  obtain ⟨⟨f1, f2, -⟩, fg, fo, -⟩ := hF
  rw [f1]
  exact hT_geo f2 fg (fun k hk => ⟨fo k hk, oF_20 hW _ _ _ _ hk⟩) 48 p
theorem Fut.s {S X : Nat → Int} {rule : Int} {step t : Nat} {b : Int} (hF : Fut S rule step t X) (hW : WF S) (hG : WG b X) : Fut S rule step (t + 1) (frS X) := by
  have hhd : hdd X = hB S (oF S rule step t) := funext fun p => by unfold hdd hB; rw [hF.hd hW p]
  obtain ⟨⟨f1, f2, f3, f4, f5⟩, fg, fo, fc⟩ := hF
  obtain ⟨g0, g1, g2, g3, g4, g5, god, ginj, gy, gc⟩ := hG
  have o : ∀ i, i < 26 → frC X (hdd X) (X 1).toNat i = X i := fun i hi => frC_o (fun j hj => (god j hj).2.1) (Or.inl hi)
  have e : ∀ i, i ≠ 5 → i < 6 → frS X i = X i := fun i h1 h2 => by rw [frS_c h1 (by omega), o i (by omega)]
  refine ⟨⟨by rw [e 1 (by omega) (by omega)]; exact f1, by rw [e 2 (by omega) (by omega)]; exact f2, by rw [e 3 (by omega) (by omega)]; exact f3, by rw [e 4 (by omega) (by omega)]; exact f4, ?_⟩, fun p hp => ?_, fun k hk => ?_, fun p hp => ?_⟩
  · show X 5 + 1 = _
    rw [f5]
    omega
  · rw [frS_c (by omega) (by omega), frS_c (by omega) (by omega), frC_c (i := 1) (by omega), frC_c (i := 2) (by omega)]
    exact fg p hp
  · have hx : frS X (6 + k) = (fl (turnL (hdd X) (X 3) (X 4).toNat (X 1).toNat (od X)) k : Int) := by unfold frS; rw [if_neg (by omega), if_pos (by omega), show 6 + k - 6 = k by omega]
    show (frS X (6 + k)).toNat = _
    rw [hx, Int.toNat_natCast, hhd, f3, f4, f1, Int.toNat_natCast, turnL_cg (fun k hk => fo k hk)]
    rfl
  · rw [frS_c (by omega) (by omega)]
    have hof : (ofn S rule step p (t + 1) : Int) = ofn S rule step p t + (if hB S (oF S rule step t) p then 1 else 0) := by
      show ((ofn S rule step p t + (if hB S (oF S rule step t) p then 1 else 0) : Nat) : Int) = _
      rw [Int.natCast_add]
      split <;> rfl
    rw [hof, ← Int.add_assoc, ← fc p hp, ← hhd]
    by_cases z : ∃ j, j < (X 1).toNat ∧ od X j = p
    · obtain ⟨j, hj, e0⟩ := z
      exact frC6 ginj hj e0 _ (Nat.le_refl _) hj
    · have hno : ∀ j, j < (X 1).toNat → od X j ≠ p := fun j hj e0 => z ⟨j, hj, e0⟩
      rw [frC_p (i := 6) (by omega) hno]
      have : hdd X p = false := by
        unfold hdd
        rw [hT_no hno]
        rfl
      rw [this]
      simp
theorem oF_rot {S : Nat → Int} (s : Nat) : ∀ (t k : Nat), k < (S 1).toNat → oF S 1 s t k = od S ((k + t * s) % (S 1).toNat)
  | 0, k, hk => by rw [Nat.zero_mul, Nat.add_zero, Nat.mod_eq_of_lt hk]; rfl
  | t + 1, k, hk => by
    show fl (turnL _ 1 s (S 1).toNat (oF S 1 s t)) k = _
    unfold turnL
    rw [if_neg (by omega), if_pos rfl, fl_ol hk, oF_rot s t _ (Nat.mod_lt _ (by omega))]
    congr 1
    rw [Nat.mod_add_mod, Nat.add_mul, Nat.one_mul, Nat.add_comm (t * s) s, ← Nat.add_assoc]
theorem hB_rot {S : Nat → Int} (hW : WF S) (s f : Nat) (p : Nat) : hB S (oF S 1 1 (f * s % (S 1).toNat)) p = hB S (oF S 1 s f) p := by
  unfold hB
  rw [hT_geo (S := S) (X := S) (o := oF S 1 s f) rfl (fun _ _ => ⟨rfl, rfl⟩) (fun k hk => ⟨?_, oF_20 hW _ _ _ _ hk⟩) 48 p]
  rw [oF_rot 1 _ k hk, oF_rot s f k hk, Nat.mul_one, Nat.add_mod_mod]
theorem mxF_s {f : Nat → Nat} : ∀ n : Nat, (∀ i, i < n → f i ≤ mxF f n) ∧ (mxF f n = 0 ∨ ∃ i, i < n ∧ mxF f n = f i)
  | 0 => ⟨fun i hi => by omega, Or.inl rfl⟩
  | n + 1 => by
    obtain ⟨h1, h2⟩ := mxF_s (f := f) n
    unfold mxF
    split
    · next g =>
      refine ⟨fun i hi => ?_, Or.inr ⟨n, by omega, rfl⟩⟩
      by_cases z : i = n
      · rw [z]; exact Nat.le_refl _
      · have := h1 i (by omega); omega
    · next g =>
      refine ⟨fun i hi => ?_, ?_⟩
      · by_cases z : i = n
        · rw [z]; omega
        · exact h1 i (by omega)
      · rcases h2 with h2 | ⟨i, hi, h2⟩
        · exact Or.inl h2
        · exact Or.inr ⟨i, by omega, h2⟩
theorem ofn_no {S : Nat → Int} (hW : WF S) {rule : Int} {step p t : Nat} (h : ∀ k, k < (S 1).toNat → od S k ≠ p) : ofn S rule step p t = 0 := by
  refine sm_zero.mpr (fun i _ => ?_)
  have : hB S (oF S rule step i) p = false := by
    unfold hB
    rw [hT_no (fun k hk e => ?_)]
    · rfl
    · obtain ⟨j, hj, e2⟩ := oF_b hW rule step i k hk
      exact h j hj (e2.symm.trans e)
  rw [this]
  rfl
theorem grb_is {S : Nat → Int} (hW : WF S) {step M : Nat} (h1 : ∀ k, k < (S 1).toNat → ofn S 1 step (od S k) 20 ≤ M) (h2 : M = 0 ∨ ∃ k, k < (S 1).toNat ∧ M = ofn S 1 step (od S k) 20) : M = grb S step := by
  obtain ⟨m1, m2⟩ := mxF_s (f := fun p => ofn S 1 step p 20) 20
  unfold grb
  refine Nat.le_antisymm ?_ ?_
  · rcases h2 with h2 | ⟨k, hk, h2⟩
    · omega
    · rw [h2]; exact m1 _ (hW.od hk).2.1
  · rcases m2 with m2 | ⟨p, hp, m2⟩
    · omega
    · rw [m2]
      by_cases z : ∃ k, k < (S 1).toNat ∧ od S k = p
      · obtain ⟨k, hk, e⟩ := z
        rw [← e]
        exact h1 k hk
      · show ofn S 1 step p 20 ≤ M
        rw [ofn_no hW (fun k hk e => z ⟨k, hk, e⟩)]
        exact Nat.zero_le _
theorem ofn_lt {S : Nat → Int} {rule : Int} {step p : Nat} : ∀ {t : Nat}, ofn S rule step p t < t ↔ ∃ i, i < t ∧ hB S (oF S rule step i) p = false
  | 0 => ⟨fun h => by omega, fun ⟨i, h, _⟩ => by omega⟩
  | t + 1 => by
    have ih := ofn_lt (S := S) (rule := rule) (step := step) (p := p) (t := t)
    have hle := ofn_le S rule step p t
    have e : ofn S rule step p (t + 1) = ofn S rule step p t + (if hB S (oF S rule step t) p then 1 else 0) := rfl
    rw [e]
    constructor
    · intro h
      cases hq : hB S (oF S rule step t) p with
      | false => exact ⟨t, by omega, hq⟩
      | true =>
        rw [hq] at h
        obtain ⟨i, a, b⟩ := ih.mp (by simp at h; exact h)
        exact ⟨i, by omega, b⟩
    · rintro ⟨i, a, b⟩
      by_cases z : i = t
      · subst z
        rw [b]
        simp
        omega
      · have := ih.mpr ⟨i, by omega, b⟩
        split <;> omega
theorem WG.mo {b c : Int} {X : Nat → Int} (h : WG b X) (hbc : b ≤ c) : WG c X := by
  obtain ⟨g0, g1, g2, g3, g4, g5, god, ginj, gy, gc⟩ := h
  exact ⟨g0, g1, g2, g3, g4, by omega, god, ginj, gy, fun p hp j hj => by have := gc p hp j hj; omega⟩
