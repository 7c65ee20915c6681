/-! the history of the reference -/
def MH (n : Nat) (H : Nat → Nat → Int) (h : St) : Prop := h.1 90 4 = iI n ∧ ∀ j, j < n → ∀ i, i < 270 → h.2 93 (270 * j + i) = iI (H j i)
def psN (n : Nat) : Nat := if n = 5 then 5 else n + 1
def psH (n : Nat) (H : Nat → Nat → Int) (S : Nat → Int) : Nat → Nat → Int := if n = 5 then (fun j => if j < 4 then H (j + 1) else S) else (fun j => if j < n then H j else S)
theorem MH.sm {n : Nat} {H : Nat → Nat → Int} {X : List (Nat × Nat)} {Y : List Nat} {h h' : St} (hH : MH n H h) (a : Sm X Y h h') (hx : (90, 4) ∉ X) (hy : 93 ∉ Y) : MH n H h' := ⟨by rw [a.1 _ _ hx]; exact hH.1, fun j hj i hi => by rw [a.2 93 hy]; exact hH.2 j hj i hi⟩
def pf (h : St) (k : Nat) (x : Int32) : St := (u2 h.1 90 k x, h.2)
theorem pf_s (h : St) (k : Nat) (x : Int32) : (pf h k x).1 90 k = x := by show u2 h.1 90 k x 90 k = x; unfold u2; rw [u1_s, u1_s]
theorem pf_n (h : St) (k : Nat) (x : Int32) {j : Nat} (hj : j ≠ k) : (pf h k x).1 90 j = h.1 90 j := by show u2 h.1 90 k x 90 j = _; unfold u2; rw [u1_s, u1_n _ _ hj]
theorem Sm.pf {X : List (Nat × Nat)} {Y : List Nat} {h : St} {k : Nat} (x : Int32) (ha : (90, k) ∈ X) : Sm X Y h (pf h k x) := Sm.put x ha
set_option maxHeartbeats 4000000 in
theorem c_M_act {S : Nat → Int} {n : Nat} {H : Nat → Nat → Int} {h : St} {Q : Option Value → St → Prop} (hS : MS S h) (hH : MH n H h) (hn : n ≤ 5) (hQ : ∀ h', Sm [(90, 4)] [93] h h' → MH (psN n) (psH n H S) h' → Q none h') : SC y_M_act [.ref 90] h Q := by
  refine w_call IS_ok [10, 51] ok_M_act rfl rfl ?_
  have second : ∀ (c : Nat), c < 5 → ∀ (G : Nat → Nat → Int), (∀ h', Sm [(90, 4)] [93] h h' → MH (c + 1) (fun j => if j < c then G j else S) h' → Q none h') → ∀ (m k : Nat), 271 ≤ k + m → k ≤ 270 → ∀ (hc : St) (z : Int32), Sm [(90, 4)] [93] h hc → MH c G hc → (∀ i, i < k → hc.2 93 (270 * c + i) = iI (S i)) → z = iI k → SR y_M_act 51 [some (.ref 90), some (.int z)] [] hc Q := by
    intro c hc5 G hq m
    induction m with
    | zero => intro k h1 h2; omega
    | succ m ih =>
      intro k h1 h2 hc z hsm hG hv hz
      refine w_loop IS_ok [51] ok_M_act ?_
      refine w_le 270 k (fun h3 => ?_) (fun h3 => ?_) rfl hz
      · have hk : k = 270 := by omega
        refine hq (pf hc 4 (hc.1 90 4 + 1)) (hsm.t (Sm.pf _ (by decide))) ⟨?_, fun j hj i hi => ?_⟩
        · rw [pf_s, hG.1]
          exact iI_1 rfl
        · show hc.2 93 (270 * j + i) = _
          by_cases hjc : j = c
          · subst hjc
            dsimp only
            rw [if_neg (by omega)]
            exact hv i (by omega)
          · dsimp only
            rw [if_pos (by omega)]
            exact hG.2 j (by omega) i hi
      · have ev : hc.2 91 k = iI (S k) := (hS.sm hsm (by decide)) k
        have ei : (270 : Int32) * hc.1 90 4 + z = iI ((270 * c + k : Nat) : Int) := by
          rw [hG.1, hz]
          refine (congrArg (· + iI k) (iI_mul 270 c)).trans ((iI_add _ _).trans (congrArg iI (by omega)))
        refine w_ix k ?_ hz (show k < 270 by omega)
        refine w_ix (270 * c + k) ?_ ei (show 270 * c + k < 1350 by omega)
        refine ih (k + 1) (by omega) (by omega) (wa hc 93 (270 * c + k) (hc.2 91 k)) _ (hsm.t (Sm.wa _ _ (by decide))) ⟨hG.1, fun j hj i hi => ?_⟩ (fun i hi => ?_) (iI_1 hz)
        · rw [wa_n _ _ _ _ (by omega)]; exact hG.2 j hj i hi
        · by_cases hik : i = k
          · rw [hik, wa_s]; exact ev
          · rw [wa_n _ _ _ _ (by omega)]; exact hv i (by omega)
  by_cases hn5 : n = 5
  · subst hn5
    refine w_eq (5 : Nat) 5 (fun _ => ?_) (fun h1 => absurd rfl h1) hH.1 rfl
    have first : ∀ (m k : Nat), 1081 ≤ k + m → k ≤ 1080 → ∀ (hc : St) (z : Int32), Sm [(90, 4)] [93] h hc → hc.1 90 4 = h.1 90 4 → (∀ i, i < k → hc.2 93 i = h.2 93 (i + 270)) → (∀ i, k ≤ i → hc.2 93 i = h.2 93 i) → z = iI k → SR y_M_act 10 [some (.ref 90), some (.int z)] [] hc Q := by
      intro m
      induction m with
      | zero => intro k h1 h2; omega
      | succ m ih =>
        intro k h1 h2 hc z hsm h4 hlo hhi hz
        refine w_loop IS_ok [10, 51] ok_M_act ?_
        refine w_le 1080 k (fun h3 => ?_) (fun h3 => ?_) rfl hz
        · have hk : k = 1080 := by omega
          refine second 4 (by omega) (fun j => H (j + 1)) (fun h' a1 a2 => hQ h' a1 (by unfold psN psH; exact a2)) 271 0 (by omega) (by omega) (pf hc 4 (hc.1 90 4 - 1)) _ (hsm.t (Sm.pf _ (by decide))) ⟨?_, fun j hj i hi => ?_⟩ (fun i hi => by omega) rfl
          · rw [pf_s, h4, hH.1]
            exact iI_sub _ 1
          · show hc.2 93 (270 * j + i) = _
            rw [hlo _ (by omega), show 270 * j + i + 270 = 270 * (j + 1) + i by omega]
            exact hH.2 (j + 1) (by omega) i hi
        · have ez : z + 270 = iI ((k + 270 : Nat) : Int) := by rw [hz]; exact (iI_add _ 270).trans (congrArg iI (by omega))
          refine w_ix (k + 270) ?_ ez (show k + 270 < 1350 by omega)
          refine w_ix k ?_ hz (show k < 1350 by omega)
          refine ih (k + 1) (by omega) (by omega) (wa hc 93 k (hc.2 93 (k + 270))) _ (hsm.t (Sm.wa _ _ (by decide))) h4 (fun i hi => ?_) (fun i hi => ?_) (iI_1 hz)
          · by_cases hik : i = k
            · rw [hik, wa_s]; exact hhi _ (by omega)
            · rw [wa_n _ _ _ _ hik]; exact hlo i (by omega)
          · rw [wa_n _ _ _ _ (by omega)]; exact hhi i (by omega)
    exact first 1081 0 (by omega) (by omega) h _ Sm.rf rfl (fun i hi => by omega) (fun i _ => rfl) rfl
  · refine w_eq n 5 (fun h1 => by omega) (fun _ => ?_) hH.1 rfl
    exact second n (by omega) H (fun h' a1 a2 => hQ h' a1 (by unfold psN psH; rw [if_neg hn5, if_neg hn5]; exact a2)) 271 0 (by omega) (by omega) h _ Sm.rf hH (fun i hi => by omega) rfl
/-- an action was made, and recorded -/
def MPd (S : Nat → Int) (n : Nat) (H : Nat → Nat → Int) (S' : Nat → Int) (h h' : St) : Prop := Sm [(90, 0), (90, 4)] [98, 96, 93, 91] h h' ∧ MS S' h' ∧ MH (psN n) (psH n H S) h'
theorem c_M_setRow {S : Nat → Int} {n : Nat} {H : Nat → Nat → Int} {x1 x2 x3 : Int32} {h : St} {Q : Option Value → St → Prop} (hS : MS S h) (hH : MH n H h) (hn : n ≤ 5) (a b c : Int) (hQ0 : ∀ h', Sm [(90, 0)] [] h h' → ¬ ((0 ≤ a ∧ a ≤ 7) ∧ (0 ≤ b ∧ b ≤ 7) ∧ (0 ≤ c ∧ c ≤ 255)) → Q (some (.int (-101))) h') (hQ1 : ∀ h', ((0 ≤ a ∧ a ≤ 7) ∧ (0 ≤ b ∧ b ≤ 7) ∧ (0 ≤ c ∧ c ≤ 255)) → MPd S n H (u1 S (206 + 8 * a.toNat + b.toNat) c) h h' → Q (some (.int (iI (S (206 + 8 * a.toNat + b.toNat))))) h') (h1 : x1 = iI a) (h2 : x2 = iI b) (h3 : x3 = iI c) (ra : rg a) (rb : rg b) (rc : rg c) : SC y_M_setRow [.ref 90, .int x1, .int x2, .int x3] h Q := by
  refine w_call IS_ok [] ok_M_setRow rfl rfl ?_
  have s0 : Sm [(90, 0)] [] h (pf h 0 0) := Sm.pf _ (by decide)
  refine c_M_in a 0 7 ?_ h1 rfl rfl ra (by omega) (by omega)
  refine w_b (fun g1 => hQ0 _ s0 (fun z => g1 z.1)) (fun g1 => ?_)
  refine c_M_in b 0 7 ?_ h2 rfl rfl rb (by omega) (by omega)
  refine w_b (fun g2 => hQ0 _ s0 (fun z => g2 z.2.1)) (fun g2 => ?_)
  refine c_M_in c 0 255 ?_ h3 rfl rfl rc (by omega) (by omega)
  refine w_b (fun g3 => hQ0 _ s0 (fun z => g3 z.2.2)) (fun g3 => ?_)
  refine c_M_act (hS.sm s0 (by decide)) (hH.sm s0 (by decide) (by decide)) hn (fun h' hs' hH' => ?_)
  have hM := (hS.sm s0 (by decide)).sm hs' (by decide)
  have ei : (206 : Int32) + 8 * x1 + x2 = iI ((206 + 8 * a.toNat + b.toNat : Nat) : Int) := by
    rw [h1, h2]
    refine (congrArg (fun t => (206 : Int32) + t + iI b) (iI_mul 8 a)).trans ((congrArg (· + iI b) (iI_add 206 (8 * a))).trans ((iI_add _ _).trans (congrArg iI (by omega))))
  refine w_ix (206 + 8 * a.toNat + b.toNat) ?_ ei (show 206 + 8 * a.toNat + b.toNat < 270 by omega)
  refine w_ix (206 + 8 * a.toNat + b.toNat) ?_ ei (show 206 + 8 * a.toNat + b.toNat < 270 by omega)
  have := hQ1 (wa h' 91 (206 + 8 * a.toNat + b.toNat) x3) ⟨g1, g2, g3⟩ ⟨((s0.mo (by decide) (by decide)).t (hs'.mo (by decide) (by decide))).t (Sm.wa _ _ (by decide)), by rw [h3]; exact hM.wa _ _, hH'.sm (Sm.wa (X := []) (Y := [91]) _ _ (by decide)) (by decide) (by decide)⟩
  rw [← hM] at this
  exact this
