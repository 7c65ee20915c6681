/-! numbers, states: 3 -/
theorem pos_lt {S : Nat → Int} (hW : WF S) {p : Int} (h : thr S p) : (pos S p (S 1).toNat).toNat < (S 1).toNat ∧ pos S p (S 1).toNat = ((pos S p (S 1).toNat).toNat : Int) := by
  rcases pos_b S p (S 1).toNat with h1 | ⟨h1, h2⟩
  · exact absurd h1 h
  · omega
theorem ro_ord (S : Nat → Int) {n : Nat} (hn : n ≤ 20) (o : Nat → Nat) : ROrd S n o (ordS S n o) := by
  refine ⟨rfl, fun k hk => ?_, fun i h1 h2 => ?_⟩
  · unfold ordS
    rw [if_neg (by omega), if_pos (by omega), show 6 + k - 6 = k by omega]
  · unfold ordS
    rw [if_neg h1, if_neg h2]
theorem rf_fr {S : Nat → Int} (hW : WF S) : RFr S (frS S) := by
  have hn := hW.n
  refine ⟨rfl, fun k hk => ?_, fun i h1 h2 => ?_⟩
  · unfold frS
    rw [if_neg (by omega), if_pos (by omega), show 6 + k - 6 = k by omega]
  · unfold frS
    rw [if_neg h1, if_neg h2]
theorem hidN_le (S : Nat → Int) : hidN S ≤ 20 := sm_le (b := 1) (fun i _ => by split <;> omega)
theorem lns_le (S : Nat → Int) (p n : Nat) : lns S p n ≤ n := by
  have := sm_le (f := fun y => if stn S p y then 1 else 0) (b := 1) (n := n) (fun i _ => by split <;> omega)
  unfold lns
  omega
