/-! a state stays in good order -/
theorem WF.pu {S S' : Nat → Int} (hW : WF S) (p : Nat) (hp : (p : Int) < S 0) (ho : ∀ i, i < 26 + 9 * p ∨ 26 + 9 * p + 9 ≤ i → S' i = S i)
    (h0 : -15 ≤ S' (26 + 9 * p) ∧ S' (26 + 9 * p) ≤ 63) (h1 : -15 ≤ S' (26 + 9 * p + 1) ∧ S' (26 + 9 * p + 1) ≤ 47) (h2 : 0 ≤ S' (26 + 9 * p + 2) ∧ S' (26 + 9 * p + 2) ≤ 1) (h3 : 0 ≤ S' (26 + 9 * p + 3) ∧ S' (26 + 9 * p + 3) ≤ 7) (h4 : 1 ≤ S' (26 + 9 * p + 4) ∧ S' (26 + 9 * p + 4) ≤ 9) (h5 : 0 ≤ S' (26 + 9 * p + 5) ∧ S' (26 + 9 * p + 5) ≤ 3) (h6 : ∀ j, j < 3 → S' (26 + 9 * p + 6 + j) = S (26 + 9 * p + 6 + j)) : WF S' := by
  have hn := hW.n
  obtain ⟨g0, g1, g2, g3, g4, g5, g6, g7, g8, g9, g10, g11⟩ := hW
  have e0 := ho 0 (by omega)
  have e1 := ho 1 (by omega)
  have e5 := ho 5 (by omega)
  refine ⟨by rw [e0]; exact g0, by rw [e0, e1]; exact g1, by rw [ho 2 (by omega)]; exact g2, by rw [ho 3 (by omega)]; exact g3, by rw [ho 4 (by omega)]; exact g4, by rw [e5]; exact g5, ?_, ?_, ?_, ?_, ?_, ?_⟩
  · intro k hk
    rw [e1] at hk
    rw [e0, ho (6 + k) (by omega)]
    exact g6 k hk
  · intro j k hjk hk
    rw [e1] at hk
    rw [ho (6 + j) (by omega), ho (6 + k) (by omega)]
    exact g7 j k hjk hk
  · intro q hq
    have g := g8 q hq
    rw [e5]
    by_cases z : q = p
    · subst z
      have a0 := h6 0 (by omega)
      have a1 := h6 1 (by omega)
      have a2 := h6 2 (by omega)
      exact ⟨h0, h1, h2, h3, ⟨by omega, h4.2⟩, h5, by rw [show 26 + 9 * q + 6 = 26 + 9 * q + 6 + 0 from rfl, a0]; exact g.2.2.2.2.2.2.1, by rw [show 26 + 9 * q + 7 = 26 + 9 * q + 6 + 1 from rfl, a1]; exact g.2.2.2.2.2.2.2.1, by rw [show 26 + 9 * q + 8 = 26 + 9 * q + 6 + 2 from rfl, a2]; exact g.2.2.2.2.2.2.2.2⟩
    · rw [ho (26 + 9 * q) (by omega), ho (26 + 9 * q + 1) (by omega), ho (26 + 9 * q + 2) (by omega), ho (26 + 9 * q + 3) (by omega), ho (26 + 9 * q + 4) (by omega), ho (26 + 9 * q + 5) (by omega), ho (26 + 9 * q + 6) (by omega), ho (26 + 9 * q + 7) (by omega), ho (26 + 9 * q + 8) (by omega)]
      exact g
  · intro i hi
    rw [ho (206 + i) (by omega)]
    exact g9 i hi
  · intro q hq
    rw [e0] at hq
    by_cases z : q = p
    · subst z; exact h4.1
    · rw [ho (26 + 9 * q + 4) (by omega)]
      exact g10 q hq
  · intro q hq hs j hj
    rw [e0] at hs
    have : q ≠ p := by omega
    rw [ho (26 + 9 * q + j) (by omega)]
    exact g11 q hq hs j hj
theorem WF.mv {S : Nat → Int} (hW : WF S) {p : Nat} (hp : (p : Int) < S 0) {x y : Int} (hx : -15 ≤ x ∧ x ≤ 63) (hy : -15 ≤ y ∧ y ≤ 47) : WF (mvS S p x y) := by
  have hn := hW.n
  have g := hW.wp p (by omega)
  have gc := hW.2.2.2.2.2.2.2.2.2.2.1 p hp
  refine hW.pu p hp (fun i hi => mvS_n (by omega) (by omega)) ?_ ?_ ?_ ?_ ?_ ?_ (fun j hj => mvS_n (by omega) (by omega))
  · unfold mvS; rw [u1_n _ _ (by omega), u1_s]; exact hx
  · unfold mvS; rw [u1_s]; exact hy
  · rw [mvS_n (by omega) (by omega)]; exact g.2.2.1
  · rw [mvS_n (by omega) (by omega)]; exact g.2.2.2.1
  · rw [mvS_n (by omega) (by omega)]; exact ⟨gc, g.2.2.2.2.1.2⟩
  · rw [mvS_n (by omega) (by omega)]; exact g.2.2.2.2.2.1
theorem WF.tu {S : Nat → Int} (hW : WF S) {p : Nat} (hp : (p : Int) < S 0) {f : Int} (hf : 0 ≤ f ∧ f ≤ 3) : WF (u1 S (26 + 9 * p + 5) f) := by
  have hn := hW.n
  have g := hW.wp p (by omega)
  have gc := hW.2.2.2.2.2.2.2.2.2.2.1 p hp
  refine hW.pu p hp (fun i hi => u1_n _ _ (by omega)) ?_ ?_ ?_ ?_ ?_ ?_ (fun j hj => u1_n _ _ (by omega))
  · rw [u1_n _ _ (by omega)]; exact g.1
  · rw [u1_n _ _ (by omega)]; exact g.2.1
  · rw [u1_n _ _ (by omega)]; exact g.2.2.1
  · rw [u1_n _ _ (by omega)]; exact g.2.2.2.1
  · rw [u1_n _ _ (by omega)]; exact ⟨gc, g.2.2.2.2.1.2⟩
  · rw [u1_s]; exact hf
/-- what lies beside the order changes within its bounds -/
theorem WF.ot {S S' : Nat → Int} (hW : WF S) (ho : ∀ i, i < 206 → i ≠ 2 → i ≠ 3 → i ≠ 4 → S' i = S i) (h2 : 1 ≤ S' 2 ∧ S' 2 ≤ 8) (h3 : 0 ≤ S' 3 ∧ S' 3 ≤ 2) (h4 : 1 ≤ S' 4 ∧ S' 4 ≤ 19) (hp : ∀ i, i < 64 → 0 ≤ S' (206 + i) ∧ S' (206 + i) ≤ 255) : WF S' := by
  have hn := hW.n
  obtain ⟨g0, g1, g2, g3, g4, g5, g6, g7, g8, g9, g10, g11⟩ := hW
  have e0 := ho 0 (by omega) (by omega) (by omega) (by omega)
  have e1 := ho 1 (by omega) (by omega) (by omega) (by omega)
  have e5 := ho 5 (by omega) (by omega) (by omega) (by omega)
  refine ⟨by rw [e0]; exact g0, by rw [e0, e1]; exact g1, h2, h3, h4, by rw [e5]; exact g5, ?_, ?_, ?_, hp, ?_, ?_⟩
  · intro k hk
    rw [e1] at hk
    rw [e0, ho (6 + k) (by omega) (by omega) (by omega) (by omega)]
    exact g6 k hk
  · intro j k hjk hk
    rw [e1] at hk
    rw [ho (6 + j) (by omega) (by omega) (by omega) (by omega), ho (6 + k) (by omega) (by omega) (by omega) (by omega)]
    exact g7 j k hjk hk
  · intro q hq
    have g := g8 q hq
    have a : ∀ j, j < 9 → S' (26 + 9 * q + j) = S (26 + 9 * q + j) := fun j hj => ho _ (by omega) (by omega) (by omega) (by omega)
    rw [e5, a 1 (by omega), a 2 (by omega), a 3 (by omega), a 4 (by omega), a 5 (by omega), a 6 (by omega), a 7 (by omega), a 8 (by omega), show S' (26 + 9 * q) = S (26 + 9 * q) from a 0 (by omega)]
    exact g
  · intro q hq
    rw [e0] at hq
    rw [ho (26 + 9 * q + 4) (by omega) (by omega) (by omega) (by omega)]
    exact g10 q hq
  · intro q hq hs j hj
    rw [e0] at hs
    rw [ho (26 + 9 * q + j) (by omega) (by omega) (by omega) (by omega)]
    exact g11 q hq hs j hj
theorem WF.li {S : Nat → Int} (hW : WF S) {l : Int} (hl : 1 ≤ l ∧ l ≤ 8) : WF (u1 S 2 l) := by
  refine hW.ot (fun i _ h _ _ => u1_n _ _ h) (by rw [u1_s]; exact hl) (by rw [u1_n _ _ (by omega)]; exact hW.2.2.2.1) (by rw [u1_n _ _ (by omega)]; exact hW.2.2.2.2.1) (fun i hi => ?_)
  rw [u1_n _ _ (by omega)]
  exact hW.2.2.2.2.2.2.2.2.2.1 i hi
theorem WF.ru {S : Nat → Int} (hW : WF S) {a b : Int} (ha : 0 ≤ a ∧ a ≤ 2) (hb : 1 ≤ b ∧ b ≤ 19) : WF (u1 (u1 S 3 a) 4 b) := by
  refine hW.ot (fun i _ _ h3 h4 => by rw [u1_n _ _ h4, u1_n _ _ h3]) (by rw [u1_n _ _ (by omega), u1_n _ _ (by omega)]; exact hW.2.2.1) (by rw [u1_n _ _ (by omega), u1_s]; exact ha) (by rw [u1_s]; exact hb) (fun i hi => ?_)
  rw [u1_n _ _ (by omega), u1_n _ _ (by omega)]
  exact hW.2.2.2.2.2.2.2.2.2.1 i hi
theorem WF.pi {S : Nat → Int} (hW : WF S) {k : Nat} (hk : k < 64) {c : Int} (hc : 0 ≤ c ∧ c ≤ 255) : WF (u1 S (206 + k) c) := by
  refine hW.ot (fun i h _ _ _ => u1_n _ _ (by omega)) (by rw [u1_n _ _ (by omega)]; exact hW.2.2.1) (by rw [u1_n _ _ (by omega)]; exact hW.2.2.2.1) (by rw [u1_n _ _ (by omega)]; exact hW.2.2.2.2.1) (fun i hi => ?_)
  by_cases z : i = k
  · subst z; rw [u1_s]; exact hc
  · rw [u1_n _ _ (by omega)]
    exact hW.2.2.2.2.2.2.2.2.2.1 i hi
theorem WF.ro {S S' : Nat → Int} (hW : WF S) {n : Nat} {o : Nat → Nat} (h : ROrd S n o S') (hn : (n : Int) ≤ S 0) (ho : ∀ k, k < n → (o k : Int) < S 0) (hi : ∀ j k, j < k → k < n → o j ≠ o k) : WF S' := by
  obtain ⟨r1, r2, r3⟩ := h
  obtain ⟨g0, g1, g2, g3, g4, g5, g6, g7, g8, g9, g10, g11⟩ := hW
  have e0 := r3 0 (by omega) (by omega)
  have e5 := r3 5 (by omega) (by omega)
  refine ⟨by rw [e0]; exact g0, by rw [e0, r1]; omega, by rw [r3 2 (by omega) (by omega)]; exact g2, by rw [r3 3 (by omega) (by omega)]; exact g3, by rw [r3 4 (by omega) (by omega)]; exact g4, by rw [e5]; exact g5, ?_, ?_, ?_, ?_, ?_, ?_⟩
  · intro k hk
    have := ho k (by omega)
    rw [e0, r2 k (by omega)]
    omega
  · intro j k hjk hk
    rw [r2 j (by omega), r2 k (by omega)]
    have := hi j k hjk (by omega)
    omega
  · intro q hq
    have g := g8 q hq
    have a : ∀ j, j < 9 → S' (26 + 9 * q + j) = S (26 + 9 * q + j) := fun j hj => r3 _ (by omega) (by omega)
    rw [e5, a 1 (by omega), a 2 (by omega), a 3 (by omega), a 4 (by omega), a 5 (by omega), a 6 (by omega), a 7 (by omega), a 8 (by omega), show S' (26 + 9 * q) = S (26 + 9 * q) from a 0 (by omega)]
    exact g
  · intro i hi
    rw [r3 (206 + i) (by omega) (by omega)]
    exact g9 i hi
  · intro q hq
    rw [e0] at hq
    rw [r3 (26 + 9 * q + 4) (by omega) (by omega)]
    exact g10 q hq
  · intro q hq hs j hj
    rw [e0] at hs
    rw [r3 (26 + 9 * q + j) (by omega) (by omega)]
    exact g11 q hq hs j hj
theorem wf_nd {S : Nat → Int} (hW : WF S) {j k : Nat} (hj : j < (S 1).toNat) (hk : k < (S 1).toNat) (h : j ≠ k) : od S j ≠ od S k := fun z => h (wf_oi hW hj hk z)
theorem wf_out {S S' : Nat → Int} (hW : WF S) {q : Nat} (hq : q < (S 1).toNat) (h : ROrd S ((S 1).toNat - 1) (outO (od S) q) S') : WF S' := by
  have hn := hW.n
  refine hW.ro h (by omega) (fun k hk => ?_) (fun j k hjk hk => ?_)
  · unfold outO
    split
    · have := hW.od (k := k) (by omega); omega
    · have := hW.od (k := k + 1) (by omega); omega
  · unfold outO
    split <;> split <;> exact wf_nd hW (by omega) (by omega) (by omega)
theorem wf_lft {S S' : Nat → Int} (hW : WF S) {q : Nat} (hq : q < (S 1).toNat) (h : ROrd S (S 1).toNat (lftO (od S) q) S') : WF S' := by
  have hn := hW.n
  refine hW.ro h (by omega) (fun k hk => ?_) (fun j k hjk hk => ?_)
  · unfold lftO
    split
    · have := hW.od hq; omega
    · split
      · have := hW.od (k := k - 1) (by omega); omega
      · have := hW.od (k := k) (by omega); omega
  · unfold lftO
    split <;> split <;> (try split) <;> (try split) <;> first | omega | exact wf_nd hW (by omega) (by omega) (by omega)
theorem wf_low {S S' : Nat → Int} (hW : WF S) {q : Nat} (hq : q < (S 1).toNat) (h : ROrd S (S 1).toNat (lowO (od S) q (S 1).toNat) S') : WF S' := by
  have hn := hW.n
  refine hW.ro h (by omega) (fun k hk => ?_) (fun j k hjk hk => ?_)
  · unfold lowO
    split
    · have := hW.od (k := k) (by omega); omega
    · split
      · have := hW.od (k := k + 1) (by omega); omega
      · have := hW.od hq; omega
  · unfold lowO
    split <;> split <;> (try split) <;> (try split) <;> first | omega | exact wf_nd hW (by omega) (by omega) (by omega)
