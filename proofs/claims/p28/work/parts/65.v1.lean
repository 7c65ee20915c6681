/-! states of the class, what a call keeps -/
section
variable {S S' : Nat → Int} {n : Nat} {H : Nat → Nat → Int} {N : Nat} {T : Nat → Nat} {f : Nat} {G : Nat → Int} {h h1 h2 : St}
theorem CI.lk (hI : CI S n H N T f G h) (a : Fr 15 38 h h1) : CI S n H N T f G h1 := ⟨hI.1.fr a (by omega), hI.2.1.fr a (by omega), hI.2.2.1.fr a (by omega), hI.2.2.2.fr a (by omega)⟩
theorem psW (hn : n ≤ 5) (hW : WF S) (hH : ∀ j, j < n → WF (H j)) : ∀ j, j < psN n → WF (psH n H S j) := by
  intro j hj
  unfold psN at hj
  unfold psH
  by_cases z : n = 5
  · rw [if_pos z]
    by_cases z2 : j < 4
    · rw [if_pos z2]; exact hH _ (by omega)
    · rw [if_neg z2]; exact hW
  · rw [if_neg z]
    by_cases z2 : j < n
    · rw [if_pos z2]; exact hH _ z2
    · rw [if_neg z2]; exact hW
theorem psN_le (hn : n ≤ 5) : psN n ≤ 5 := by unfold psN; split <;> omega
end
theorem psN_pos (n : Nat) : 0 < psN n := by unfold psN; split <;> omega
theorem psH_last {n : Nat} (hn : n ≤ 5) (H : Nat → Nat → Int) (S : Nat → Int) : psH n H S (psN n - 1) = S := by
  unfold psN psH
  by_cases z : n = 5
  · rw [if_pos z, if_pos z, if_neg (by omega)]
  · rw [if_neg z, if_neg z]
    show (if n + 1 - 1 < n then H (n + 1 - 1) else S) = S
    rw [if_neg (by omega)]
/-! what a script makes of a state, beyond its bounds: a puppet's counts -/
def PX (S : Nat → Int) : Prop := ∀ p, p < 20 → S (26 + 9 * p + 7) ≤ S (26 + 9 * p + 8) ∧ S (26 + 9 * p + 8) ≤ S (26 + 9 * p + 6)
theorem PX.mo {S S' : Nat → Int} (h : PX S) (e : ∀ p, p < 20 → ∀ j, j < 3 → S' (26 + 9 * p + (6 + j)) = S (26 + 9 * p + (6 + j))) : PX S' := by
  intro p hp
  have e0 := e p hp 0 (by omega)
  have e1 := e p hp 1 (by omega)
  have e2 := e p hp 2 (by omega)
  simp only [Nat.add_zero, show 6 + 1 = 7 from rfl, show 6 + 2 = 8 from rfl] at e0 e1 e2
  rw [e0, e1, e2]
  exact h p hp
theorem PX.fr {S : Nat → Int} (h : PX S) (h0 : ∀ p, p < 20 → 0 ≤ S (26 + 9 * p + 6) ∧ 0 ≤ S (26 + 9 * p + 7)) (hd : Nat → Bool) : ∀ k, (∀ p, p < 20 → frC S hd k (26 + 9 * p + 7) ≤ frC S hd k (26 + 9 * p + 8) ∧ frC S hd k (26 + 9 * p + 8) ≤ frC S hd k (26 + 9 * p + 6) ∧ 0 ≤ frC S hd k (26 + 9 * p + 6) ∧ 0 ≤ frC S hd k (26 + 9 * p + 7) )
  | 0, p, hp => by
    have := h p hp
    have := h0 p hp
    show S _ ≤ S _ ∧ S _ ≤ S _ ∧ 0 ≤ S _ ∧ 0 ≤ S _
    omega
  | k + 1, p, hp => by
    have ih := PX.fr h h0 hd k p hp
    show frP (frC S hd k) (hd (od S k)) (od S k) _ ≤ frP (frC S hd k) (hd (od S k)) (od S k) _ ∧ frP (frC S hd k) (hd (od S k)) (od S k) _ ≤ frP (frC S hd k) (hd (od S k)) (od S k) _ ∧ 0 ≤ frP (frC S hd k) (hd (od S k)) (od S k) _ ∧ 0 ≤ frP (frC S hd k) (hd (od S k)) (od S k) _
    by_cases z : p = od S k
    · rw [← z, frP_6, frP_7, frP_8]
      cases hd p with
      | true =>
        simp only [if_true]
        split <;> omega
      | false =>
        simp only [Bool.false_eq_true, if_false]
        split <;> omega
    · rw [frP_o (by omega) (by omega) (by omega), frP_o (by omega) (by omega) (by omega), frP_o (by omega) (by omega) (by omega)]
      exact ih
theorem PX.frS {S : Nat → Int} (hW : WF S) (h : PX S) : PX (frS S) := by
  intro p hp
  have hw := hW.wp p hp
  rw [frS_c (by omega) (by omega), frS_c (by omega) (by omega), frS_c (by omega) (by omega)]
  have := PX.fr h (fun p hp => by have := hW.wp p hp; omega) (hdd S) (S 1).toNat p hp
  omega
theorem PX.cm {S : Nat → Int} {x y t g c : Int} (hW : WF S) (h : PX S) (h20 : S 0 ≠ 20) : PX (cmS S x y t g c) := by
  have hn := hW.n
  exact h.mo (fun p hp j hj => cmS_26 (by omega) (by omega) (fun i hi => by omega))
theorem PX.ord {S : Nat → Int} (h : PX S) (n : Nat) (o : Nat → Nat) : PX (ordS S n o) := h.mo (fun p hp j hj => by
  unfold ordS
  rw [if_neg (by omega), if_neg (by omega)])
theorem WF.ord {S : Nat → Int} (hW : WF S) {n : Nat} {o : Nat → Nat} (hn : n ≤ 20) (h : ∀ S', ROrd S n o S' → WF S') : WF (ordS S n o) := h _ (ro_ord S hn o)
