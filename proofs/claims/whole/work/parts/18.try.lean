theorem c_M_in {x y z : Int32} {h : St} {Q : Option Value → St → Prop} (v a b : Int) (hQ : Q (some (.int (if a ≤ v ∧ v ≤ b then 1 else 0))) h) (hx : x = iI v) (hy : y = iI a) (hz : z = iI b) (rv : rg v) (ra : rg a) (rb : rg b) : SC y_M_in [.int x, .int y, .int z] h Q := by
  refine w_call IS_ok [] ok_M_in rfl rfl ?_
  refine w_lt v a (fun h1 => ?_) (fun h1 => w_lt b v (fun h2 => ?_) (fun h2 => ?_) hz hx) hx hy
  · exact ⟨Or.inl rfl, by rwa [if_neg (by omega)] at hQ⟩
  · exact ⟨Or.inl rfl, by rwa [if_neg (by omega)] at hQ⟩
  · exact ⟨Or.inr rfl, by rwa [if_pos (by omega)] at hQ⟩
theorem c_M_of {x y : Int32} {h : St} {Q : Option Value → St → Prop} (pu k : Nat) (hQ : Q (some (.int (h.2 91 (26 + 9 * pu + k)))) h) (hx : x = iI pu) (hy : y = iI k) (hp : pu < 20) (hk : k < 9) : SC y_M_of [.ref 90, .int x, .int y] h Q := by
  refine w_call IS_ok [] ok_M_of rfl rfl ?_
  subst hx; subst hy
  refine w_ix (26 + 9 * pu + k) hQ ?_ ?_
  · simp only [iI_lit, iI_nat, iI_add, iI_sub, iI_mul, iI_neg]
    congr 1
  · show _ < 270
    omega
theorem c_M_positionOf {x : Int32} {h : St} {Q : Option Value → St → Prop} (hQ : Q (some (.int 5)) h) : SC y_M_positionOf [.ref 90, .int x] h Q := by
  refine w_call IS_ok [5] ok_M_positionOf rfl rfl ?_
  sorry
