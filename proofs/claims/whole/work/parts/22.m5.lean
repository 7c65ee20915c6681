/-! what a method may change -/
def Sm (X : List (Nat × Nat)) (Y : List Nat) (h h' : St) : Prop := (∀ o k, (o, k) ∉ X → h'.1 o k = h.1 o k) ∧ ∀ a, a ∉ Y → h'.2 a = h.2 a
theorem Sm.rf {X : List (Nat × Nat)} {Y : List Nat} {h : St} : Sm X Y h h := ⟨fun _ _ _ => rfl, fun _ _ => rfl⟩
theorem Sm.tr {X X' : List (Nat × Nat)} {Y Y' : List Nat} {h h1 h2 : St} (a : Sm X Y h h1) (b : Sm X' Y' h1 h2) : Sm (X ++ X') (Y ++ Y') h h2 :=
  ⟨fun o k hn => (b.1 o k (fun z => hn (List.mem_append_right _ z))).trans (a.1 o k (fun z => hn (List.mem_append_left _ z))), fun q hn => (b.2 q (fun z => hn (List.mem_append_right _ z))).trans (a.2 q (fun z => hn (List.mem_append_left _ z)))⟩
theorem Sm.t {X : List (Nat × Nat)} {Y : List Nat} {h h1 h2 : St} (a : Sm X Y h h1) (b : Sm X Y h1 h2) : Sm X Y h h2 :=
  ⟨fun o k hn => (b.1 o k hn).trans (a.1 o k hn), fun q hn => (b.2 q hn).trans (a.2 q hn)⟩
theorem Sm.mo {X X' : List (Nat × Nat)} {Y Y' : List Nat} {h h1 : St} (a : Sm X Y h h1) (hx : ∀ q ∈ X, q ∈ X') (hy : ∀ q ∈ Y, q ∈ Y') : Sm X' Y' h h1 := ⟨fun o k hn => a.1 o k (fun z => hn (hx _ z)), fun q hn => a.2 q (fun z => hn (hy _ z))⟩
theorem Sm.wr {X : List (Nat × Nat)} {Y : List Nat} {h : St} {a : Nat} (f : Nat → Int32) (ha : a ∈ Y) : Sm X Y h (h.1, u1 h.2 a f) := ⟨fun _ _ _ => rfl, fun q hq => u1_n _ _ (fun z => hq (z ▸ ha))⟩
theorem Sm.put {X : List (Nat × Nat)} {Y : List Nat} {h : St} {o k : Nat} (x : Int32) (ha : (o, k) ∈ X) : Sm X Y h (u2 h.1 o k x, h.2) := by
  refine ⟨fun a j hn => ?_, fun _ _ => rfl⟩
  show u2 h.1 o k x a j = _
  unfold u2 u1
  by_cases h1 : a = o
  · by_cases h2 : j = k
    · rw [h1, h2] at hn; exact absurd ha hn
    · rw [if_pos h1, if_neg h2, h1]
  · rw [if_neg h1]
theorem MS.sm {S : Nat → Int} {X : List (Nat × Nat)} {Y : List Nat} {h h' : St} (hS : MS S h) (a : Sm X Y h h') (hy : 91 ∉ Y) : MS S h' := fun i => by rw [a.2 91 hy]; exact hS i
/-! sets as bits -/
theorem bit_at {w k : Nat} (hw : w < 2 ^ 20) (hk : k < 20) : (nI w >>> (iI k &&& 31)) &&& 1 = iI (if w.testBit k then 1 else 0) := by
  rw [← iI_nat, pk_shrN (by omega) _ k (s_l k (by omega)), show (1 : Int32) = nI 1 from rfl, fa_and, Nat.and_one_is_mod, Nat.testBit_eq_decide_div_mod_eq]
  have : w / 2 ^ k % 2 = 0 ∨ w / 2 ^ k % 2 = 1 := by omega
  rcases this with h | h
  · rw [h]; rfl
  · rw [h]; rfl
theorem bit_or {w p : Nat} (hp : p < 20) : nI w ||| ((1 : Int32) <<< (iI p &&& 31)) = nI (w ||| 2 ^ p) := by
  have h1 : 2 ^ p < 2 ^ 20 := Nat.pow_lt_pow_right (by decide) hp
  rw [show (1 : Int32) = nI 1 from rfl, ← iI_nat, shN (by omega) (by omega), Nat.one_mul, fa_or]
theorem bit_or_t {w p q : Nat} : (w ||| 2 ^ p).testBit q = (w.testBit q || decide (p = q)) := by rw [Nat.testBit_or, Nat.testBit_two_pow]
theorem bit_or_b {w p : Nat} (hw : w < 2 ^ 20) (hp : p < 20) : w ||| 2 ^ p < 2 ^ 20 := Nat.or_lt_two_pow hw (Nat.pow_lt_pow_right (by decide) hp)
def onesN (w : Nat) (n : Nat) : Nat := sm (fun p => if w.testBit p then 1 else 0) n
theorem onesN_le (w n : Nat) : onesN w n ≤ n := by
  have := sm_le (f := fun p => if w.testBit p then 1 else 0) (b := 1) (n := n) (fun i _ => by split <;> omega)
  unfold onesN
  omega
theorem c_M_ones {h : St} {Q : Option Value → St → Prop} (w : Nat) (hQ : Q (some (.int (iI (onesN w 20)))) h) (hw : w < 2 ^ 20) : SC y_M_ones [.int (nI w)] h Q := by
  refine w_call IS_ok [4] ok_M_ones rfl rfl ?_
  have loop : ∀ (m k : Nat), 21 ≤ k + m → k ≤ 20 → ∀ v z : Int32, v = iI (onesN w k) → z = iI k → SR y_M_ones 4 [some (.int (nI w)), some (.int v), some (.int z)] [] h Q := by
    intro m
    induction m with
    | zero => intro k h1 h2; omega
    | succ m ih =>
      intro k h1 h2 v z hv hz
      refine w_loop IS_ok [4] ok_M_ones ?_
      refine w_le 20 k (fun h3 => ?_) (fun h3 => ?_) rfl hz
      · have : k = 20 := by omega
        subst this
        rw [← hv] at hQ
        exact hQ
      · refine ih (k + 1) (by omega) (by omega) _ _ ?_ (iI_1 hz)
        rw [hv, hz, bit_at hw (by omega), iI_add]
        refine congrArg iI ?_
        simp only [onesN, sm]
        split <;> omega
  exact loop 21 0 (by omega) (by omega) _ _ rfl rfl
/-! who is hidden, by an order of n puppets: on the line y, up to the k-th of the order; on the lines up to y -/
def hA (S : Nat → Int) (o : Nat → Nat) (y k : Nat) : Nat := if stn S (o k) y ∧ S 2 < (cn S o y (k + 1) : Int) then 1 else 0
def hR (S : Nat → Int) (o : Nat → Nat) (y k p : Nat) : Nat := sm (fun j => if o j = p then hA S o y j else 0) k
def hT (S : Nat → Int) (o : Nat → Nat) (n y p : Nat) : Nat := sm (fun l => hR S o l n p) y
theorem hA_le (S : Nat → Int) (o : Nat → Nat) (y k : Nat) : hA S o y k ≤ 1 := by unfold hA; split <;> omega
theorem hR_le (S : Nat → Int) (o : Nat → Nat) (y k p : Nat) : hR S o y k p ≤ k := by
  have := sm_le (f := fun j => if o j = p then hA S o y j else 0) (b := 1) (n := k) (fun i _ => by
    have := hA_le S o y i
    split <;> omega)
  unfold hR
  omega
theorem hT_le (S : Nat → Int) (o : Nat → Nat) (n y p : Nat) : hT S o n y p ≤ y * n := sm_le (fun i _ => hR_le S o i n p)
theorem hR_s (S : Nat → Int) (o : Nat → Nat) (y k p : Nat) : hR S o y (k + 1) p = hR S o y k p + (if o k = p then hA S o y k else 0) := rfl
set_option maxHeartbeats 4000000 in
/-- who is hidden on any line, by the order that stands in the row 91 from 6 on -/
theorem c_M_hidden_91 {S : Nat → Int} {x : Int32} {h : St} {Q : Option Value → St → Prop} (hS : MS S h) (hW : WP S) (n : Nat) (o : Nat → Nat) (hn : S 1 = n) (hn2 : n ≤ 20) (hlim : 0 ≤ S 2 ∧ S 2 ≤ 8) (ho : ∀ k, k < n → o k < 20) (hrow : ∀ k, k < n → h.2 91 (6 + k) = iI (o k))
    (hQ : ∀ (h' : St) (w : Nat), Sm [] [98] h h' → w < 2 ^ 20 → (∀ p, p < 20 → w.testBit p = decide (0 < hT S o n 48 p)) → (∀ p, p < 20 → h'.2 98 p = iI (hT S o n 48 p)) → Q (some (.int (nI w))) h') (hx : x = iI 6) : SC y_M_hidden [.ref 90, .ref 91, .int x] h Q := by
  refine w_call IS_ok [5] ok_M_hidden rfl rfl ?_
  have inner : ∀ (y : Nat), y < 48 → (∀ (hc : St) (w : Nat) (L5 L6 L7 : Option Value) (z3 z4 : Int32), Sm [] [98] h hc → w < 2 ^ 20 → (∀ p, p < 20 → w.testBit p = decide (0 < hT S o n (y + 1) p)) → (∀ p, p < 20 → hc.2 98 p = iI (hT S o n (y + 1) p)) → z3 = nI w → z4 = iI (y + 1 : Nat) → SR y_M_hidden 29 [some (.ref 90), some (.ref 91), some (.int x), some (.int z3), some (.int z4), L5, L6, L7] [] hc Q) →
      ∀ (m k : Nat), n + 1 ≤ k + m → k ≤ n → ∀ (hc : St) (w : Nat) (L7 : Option Value) (z3 z4 z5 z6 : Int32), Sm [] [98] h hc → w < 2 ^ 20 → (∀ p, p < 20 → w.testBit p = decide (0 < hT S o n y p + hR S o y k p)) → (∀ p, p < 20 → hc.2 98 p = iI ((hT S o n y p + hR S o y k p : Nat) : Int)) → z3 = nI w → z4 = iI y → z5 = iI (cn S o y k) → z6 = iI k → SR y_M_hidden 42 [some (.ref 90), some (.ref 91), some (.int x), some (.int z3), some (.int z4), some (.int z5), some (.int z6), L7] [] hc Q := by
    intro y hy48 hnext m
    induction m with
    | zero => intro k h1 h2; omega
    | succ m ih =>
      intro k h1 h2 hc w L7 z3 z4 z5 z6 hsm hw hbits hvals e3 e4 e5 e6
      have hSc := hS.sm hsm (by decide)
      have hcn := cn_le S o y k
      refine w_loop IS_ok [29, 42] ok_M_hidden ?_
      refine w_ix 1 (w_le (S 1) k (fun h3 => ?_) (fun h3 => ?_) (hSc 1) e6) rfl (show 1 < 270 by omega)
      · have hk : k = n := by omega
        subst hk
        exact hnext hc w _ _ _ _ _ hsm hw hbits hvals e3 (iI_1 e4)
      · have hkn : k < n := by omega
        have hok := ho k hkn
        have hrk : hc.2 91 (6 + k) = iI (o k) := by rw [hsm.2 91 (by decide)]; exact hrow k hkn
        refine w_ix (6 + k) ?_ ?_ (show 6 + k < 270 by omega)
        · refine c_M_stands hSc hW (o k) y ?_ hrk e4 hok (by omega)
          refine w_b (fun h4 => ?_) (fun h4 => ?_)
          · have e0 : ∀ p, hR S o y (k + 1) p = hR S o y k p := fun p => by
              rw [hR_s, show hA S o y k = 0 from if_neg (fun z => h4 z.1)]
              split <;> rfl
            exact ih (k + 1) (by omega) (by omega) hc w _ _ _ _ _ hsm hw (fun p hp => by rw [e0]; exact hbits p hp) (fun p hp => by rw [e0]; exact hvals p hp) e3 e4 (by rw [cn_f h4]; exact e5) (iI_1 e6)
          · have e5' := iI_1 e5
            have hct := cn_t (S := S) (o := o) (y := y) (k := k) h4
            have hTb : ∀ p, hT S o n y p + hR S o y k p ≤ 1000 := fun p => by
              have := hT_le S o n y p
              have := hR_le S o y k p
              have : y * n ≤ 48 * 20 := Nat.mul_le_mul (by omega) hn2
              omega
            have fin : ∀ (hc' : St) (w' : Nat) (z3' : Int32) (d : Nat) (L7 : Option Value), hA S o y k = d → Sm [] [98] h hc' → w' < 2 ^ 20 → z3' = nI w' → (∀ p, p < 20 → w'.testBit p = (w.testBit p || (decide (d = 1) && decide (o k = p)))) → (∀ p, p < 20 → hc'.2 98 p = if p = o k then hc.2 98 p + iI d else hc.2 98 p) → SR y_M_hidden 42 [some (.ref 90), some (.ref 91), some (.int x), some (.int z3'), some (.int z4), some (.int (z5 + 1)), some (.int (z6 + 1)), L7] [] hc' Q := by
              intro hc' w' z3' d L7 hd hsm' hw' e3' hb' hv'
              have hd1 : d ≤ 1 := hd ▸ hA_le S o y k
              refine ih (k + 1) (by omega) (by omega) hc' w' _ _ _ _ _ hsm' hw' (fun p hp => ?_) (fun p hp => ?_) e3' e4 (by rw [hct]; exact e5') (iI_1 e6)
              · rw [hb' p hp, hbits p hp, hR_s, hd]
                by_cases hop : o k = p
                · rw [if_pos hop]
                  by_cases hd0 : d = 1
                  · simp [hd0, hop]
                    omega
                  · have : d = 0 := by omega
                    simp [this, hop]
                · rw [if_neg hop]
                  simp [hop]
              · rw [hv' p hp, hvals p hp, hR_s, hd]
                by_cases hop : p = o k
                · rw [if_pos hop, if_pos hop.symm, iI_add]
                  exact congrArg iI (by omega)
                · rw [if_neg hop, if_neg (fun z => hop z.symm)]
                  exact congrArg iI (by omega)
            have wrt : ∀ d : Nat, Sm [] [98] h (hc.1, u1 hc.2 98 (u1 (hc.2 98) (o k) (hc.2 98 (o k) + iI d))) ∧ ∀ p, p < 20 → (u1 hc.2 98 (u1 (hc.2 98) (o k) (hc.2 98 (o k) + iI d))) 98 p = if p = o k then hc.2 98 p + iI d else hc.2 98 p := fun d => by
              refine ⟨hsm.t (Sm.wr _ (by decide)), fun p hp => ?_⟩
              rw [u1_s]
              unfold u1
              split
              · next hh => rw [hh]
              · rfl
            refine w_ix (o k) ?_ hrk (show o k < 20 from hok)
            refine w_ix 2 (w_le ((cn S o y k + 1 : Nat) : Int) (S 2) (fun h5 => ?_) (fun h5 => ?_) e5' (hSc 2)) rfl (show 2 < 270 by omega)
            · have hd : hA S o y k = 0 := if_neg (fun z => by have := z.2; rw [hct] at this; omega)
              refine w_ix (o k) ?_ hrk (show o k < 20 from hok)
              obtain ⟨g1, g2⟩ := wrt 0
              refine w_ix 2 (w_le ((cn S o y k + 1 : Nat) : Int) (S 2) (fun h6 => ?_) (fun h6 => by omega) e5' ((hS.sm g1 (by decide)) 2)) rfl (show 2 < 270 by omega)
              refine fin _ w _ 0 _ hd g1 hw ?_ (fun p hp => by simp) g2
              show z3 ||| 0 = nI w
              rw [e3, show (0 : Int32) = nI 0 from rfl, fa_or, Nat.or_zero]
            · have hd : hA S o y k = 1 := if_pos ⟨h4, by rw [hct]; omega⟩
              refine w_ix (o k) ?_ hrk (show o k < 20 from hok)
              obtain ⟨g1, g2⟩ := wrt 1
              refine w_ix 2 (w_le ((cn S o y k + 1 : Nat) : Int) (S 2) (fun h6 => by omega) (fun h6 => ?_) e5' ((hS.sm g1 (by decide)) 2)) rfl (show 2 < 270 by omega)
              refine fin _ (w ||| 2 ^ o k) _ 1 _ hd g1 (bit_or_b hw hok) ?_ (fun p hp => by rw [bit_or_t]; simp) g2
              show z3 ||| ((1 : Int32) <<< (hc.2 91 (6 + k) &&& 31)) = nI (w ||| 2 ^ o k)
              rw [e3, hrk, bit_or hok]
        · rw [hx, e6]
          exact (iI_add 6 k).trans (congrArg iI (by omega))
  have outer : ∀ (m y : Nat), 49 ≤ y + m → y ≤ 48 → ∀ (hc : St) (w : Nat) (L5 L6 L7 : Option Value) (z3 z4 : Int32), Sm [] [98] h hc → w < 2 ^ 20 → (∀ p, p < 20 → w.testBit p = decide (0 < hT S o n y p)) → (∀ p, p < 20 → hc.2 98 p = iI (hT S o n y p)) → z3 = nI w → z4 = iI y → SR y_M_hidden 29 [some (.ref 90), some (.ref 91), some (.int x), some (.int z3), some (.int z4), L5, L6, L7] [] hc Q := by
    intro m
    induction m with
    | zero => intro y h1 h2; omega
    | succ m ih =>
      intro y h1 h2 hc w L5 L6 L7 z3 z4 hsm hw hbits hvals e3 e4
      refine w_loop IS_ok [42] ok_M_hidden ?_
      refine w_le 48 y (fun h3 => ?_) (fun h3 => ?_) rfl e4
      · have : y = 48 := by omega
        subst this
        rw [e3]
        exact hQ hc w hsm hw hbits hvals
      · exact inner y (by omega) (fun hc w L5 L6 L7 z3 z4 a1 a2 a3 a4 a5 a6 => ih (y + 1) (by omega) (by omega) hc w L5 L6 L7 z3 z4 a1 a2 a3 a4 a5 a6) (n + 1) 0 (by omega) (by omega) hc w _ _ _ _ _ hsm hw hbits hvals e3 e4 rfl rfl
  have zero : ∀ (m q : Nat), 21 ≤ q + m → q ≤ 20 → ∀ (hc : St) (L5 L6 L7 : Option Value) (z4 : Int32), Sm [] [98] h hc → (∀ p, p < q → hc.2 98 p = 0) → z4 = iI q → SR y_M_hidden 5 [some (.ref 90), some (.ref 91), some (.int x), some (.int 0), some (.int z4), L5, L6, L7] [] hc Q := by
    intro m
    induction m with
    | zero => intro q h1 h2; omega
    | succ m ih =>
      intro q h1 h2 hc L5 L6 L7 z4 hsm hz e4
      refine w_loop IS_ok [5, 29] ok_M_hidden ?_
      refine w_le 20 q (fun h3 => ?_) (fun h3 => ?_) rfl e4
      · have hq : q = 20 := by omega
        subst hq
        exact outer 49 0 (by omega) (by omega) hc 0 _ _ _ _ _ hsm (by decide) (fun p hp => by simp [hT, sm]) (fun p hp => hz p hp) rfl rfl
      · refine w_ix q ?_ e4 (show q < 20 by omega)
        refine ih (q + 1) (by omega) (by omega) _ _ _ _ _ (hsm.t (Sm.wr _ (by decide))) (fun p hp => ?_) (iI_1 e4)
        show u1 hc.2 98 _ 98 p = 0
        rw [u1_s]
        by_cases hpq : p = q
        · rw [hpq]; exact u1_s _ _ _
        · exact (u1_n _ _ hpq).trans (hz p (by omega))
  exact zero 21 0 (by omega) (by omega) h _ _ _ _ Sm.rf (fun p hp => by omega) rfl
set_option maxHeartbeats 4000000 in
/-- who is hidden on any line, by the order that stands in the row 95 from 0 on -/
theorem c_M_hidden_95 {S : Nat → Int} {x : Int32} {h : St} {Q : Option Value → St → Prop} (hS : MS S h) (hW : WP S) (n : Nat) (o : Nat → Nat) (hn : S 1 = n) (hn2 : n ≤ 20) (hlim : 0 ≤ S 2 ∧ S 2 ≤ 8) (ho : ∀ k, k < n → o k < 20) (hrow : ∀ k, k < n → h.2 95 (0 + k) = iI (o k))
    (hQ : ∀ (h' : St) (w : Nat), Sm [] [98] h h' → w < 2 ^ 20 → (∀ p, p < 20 → w.testBit p = decide (0 < hT S o n 48 p)) → (∀ p, p < 20 → h'.2 98 p = iI (hT S o n 48 p)) → Q (some (.int (nI w))) h') (hx : x = iI 0) : SC y_M_hidden [.ref 90, .ref 95, .int x] h Q := by
  refine w_call IS_ok [5] ok_M_hidden rfl rfl ?_
  have inner : ∀ (y : Nat), y < 48 → (∀ (hc : St) (w : Nat) (L5 L6 L7 : Option Value) (z3 z4 : Int32), Sm [] [98] h hc → w < 2 ^ 20 → (∀ p, p < 20 → w.testBit p = decide (0 < hT S o n (y + 1) p)) → (∀ p, p < 20 → hc.2 98 p = iI (hT S o n (y + 1) p)) → z3 = nI w → z4 = iI (y + 1 : Nat) → SR y_M_hidden 29 [some (.ref 90), some (.ref 95), some (.int x), some (.int z3), some (.int z4), L5, L6, L7] [] hc Q) →
      ∀ (m k : Nat), n + 1 ≤ k + m → k ≤ n → ∀ (hc : St) (w : Nat) (L7 : Option Value) (z3 z4 z5 z6 : Int32), Sm [] [98] h hc → w < 2 ^ 20 → (∀ p, p < 20 → w.testBit p = decide (0 < hT S o n y p + hR S o y k p)) → (∀ p, p < 20 → hc.2 98 p = iI ((hT S o n y p + hR S o y k p : Nat) : Int)) → z3 = nI w → z4 = iI y → z5 = iI (cn S o y k) → z6 = iI k → SR y_M_hidden 42 [some (.ref 90), some (.ref 95), some (.int x), some (.int z3), some (.int z4), some (.int z5), some (.int z6), L7] [] hc Q := by
    intro y hy48 hnext m
    induction m with
    | zero => intro k h1 h2; omega
    | succ m ih =>
      intro k h1 h2 hc w L7 z3 z4 z5 z6 hsm hw hbits hvals e3 e4 e5 e6
      have hSc := hS.sm hsm (by decide)
      have hcn := cn_le S o y k
      refine w_loop IS_ok [29, 42] ok_M_hidden ?_
      refine w_ix 1 (w_le (S 1) k (fun h3 => ?_) (fun h3 => ?_) (hSc 1) e6) rfl (show 1 < 270 by omega)
      · have hk : k = n := by omega
        subst hk
        exact hnext hc w _ _ _ _ _ hsm hw hbits hvals e3 (iI_1 e4)
      · have hkn : k < n := by omega
        have hok := ho k hkn
        have hrk : hc.2 95 (0 + k) = iI (o k) := by rw [hsm.2 95 (by decide)]; exact hrow k hkn
        refine w_ix (0 + k) ?_ ?_ (show 0 + k < 20 by omega)
        · refine c_M_stands hSc hW (o k) y ?_ hrk e4 hok (by omega)
          refine w_b (fun h4 => ?_) (fun h4 => ?_)
          · have e0 : ∀ p, hR S o y (k + 1) p = hR S o y k p := fun p => by
              rw [hR_s, show hA S o y k = 0 from if_neg (fun z => h4 z.1)]
              split <;> rfl
            exact ih (k + 1) (by omega) (by omega) hc w _ _ _ _ _ hsm hw (fun p hp => by rw [e0]; exact hbits p hp) (fun p hp => by rw [e0]; exact hvals p hp) e3 e4 (by rw [cn_f h4]; exact e5) (iI_1 e6)
          · have e5' := iI_1 e5
            have hct := cn_t (S := S) (o := o) (y := y) (k := k) h4
            have hTb : ∀ p, hT S o n y p + hR S o y k p ≤ 1000 := fun p => by
              have := hT_le S o n y p
              have := hR_le S o y k p
              have : y * n ≤ 48 * 20 := Nat.mul_le_mul (by omega) hn2
              omega
            have fin : ∀ (hc' : St) (w' : Nat) (z3' : Int32) (d : Nat) (L7 : Option Value), hA S o y k = d → Sm [] [98] h hc' → w' < 2 ^ 20 → z3' = nI w' → (∀ p, p < 20 → w'.testBit p = (w.testBit p || (decide (d = 1) && decide (o k = p)))) → (∀ p, p < 20 → hc'.2 98 p = if p = o k then hc.2 98 p + iI d else hc.2 98 p) → SR y_M_hidden 42 [some (.ref 90), some (.ref 95), some (.int x), some (.int z3'), some (.int z4), some (.int (z5 + 1)), some (.int (z6 + 1)), L7] [] hc' Q := by
              intro hc' w' z3' d L7 hd hsm' hw' e3' hb' hv'
              have hd1 : d ≤ 1 := hd ▸ hA_le S o y k
              refine ih (k + 1) (by omega) (by omega) hc' w' _ _ _ _ _ hsm' hw' (fun p hp => ?_) (fun p hp => ?_) e3' e4 (by rw [hct]; exact e5') (iI_1 e6)
              · rw [hb' p hp, hbits p hp, hR_s, hd]
                by_cases hop : o k = p
                · rw [if_pos hop]
                  by_cases hd0 : d = 1
                  · simp [hd0, hop]
                    omega
                  · have : d = 0 := by omega
                    simp [this, hop]
                · rw [if_neg hop]
                  simp [hop]
              · rw [hv' p hp, hvals p hp, hR_s, hd]
                by_cases hop : p = o k
                · rw [if_pos hop, if_pos hop.symm, iI_add]
                  exact congrArg iI (by omega)
                · rw [if_neg hop, if_neg (fun z => hop z.symm)]
                  exact congrArg iI (by omega)
            have wrt : ∀ d : Nat, Sm [] [98] h (hc.1, u1 hc.2 98 (u1 (hc.2 98) (o k) (hc.2 98 (o k) + iI d))) ∧ ∀ p, p < 20 → (u1 hc.2 98 (u1 (hc.2 98) (o k) (hc.2 98 (o k) + iI d))) 98 p = if p = o k then hc.2 98 p + iI d else hc.2 98 p := fun d => by
              refine ⟨hsm.t (Sm.wr _ (by decide)), fun p hp => ?_⟩
              rw [u1_s]
              unfold u1
              split
              · next hh => rw [hh]
              · rfl
            refine w_ix (o k) ?_ hrk (show o k < 20 from hok)
            refine w_ix 2 (w_le ((cn S o y k + 1 : Nat) : Int) (S 2) (fun h5 => ?_) (fun h5 => ?_) e5' (hSc 2)) rfl (show 2 < 270 by omega)
            · have hd : hA S o y k = 0 := if_neg (fun z => by have := z.2; rw [hct] at this; omega)
              refine w_ix (o k) ?_ hrk (show o k < 20 from hok)
              obtain ⟨g1, g2⟩ := wrt 0
              refine w_ix 2 (w_le ((cn S o y k + 1 : Nat) : Int) (S 2) (fun h6 => ?_) (fun h6 => by omega) e5' ((hS.sm g1 (by decide)) 2)) rfl (show 2 < 270 by omega)
              refine fin _ w _ 0 _ hd g1 hw ?_ (fun p hp => by simp) g2
              show z3 ||| 0 = nI w
              rw [e3, show (0 : Int32) = nI 0 from rfl, fa_or, Nat.or_zero]
            · have hd : hA S o y k = 1 := if_pos ⟨h4, by rw [hct]; omega⟩
              refine w_ix (o k) ?_ hrk (show o k < 20 from hok)
              obtain ⟨g1, g2⟩ := wrt 1
              refine w_ix 2 (w_le ((cn S o y k + 1 : Nat) : Int) (S 2) (fun h6 => by omega) (fun h6 => ?_) e5' ((hS.sm g1 (by decide)) 2)) rfl (show 2 < 270 by omega)
              refine fin _ (w ||| 2 ^ o k) _ 1 _ hd g1 (bit_or_b hw hok) ?_ (fun p hp => by rw [bit_or_t]; simp) g2
              show z3 ||| ((1 : Int32) <<< (hc.2 95 (0 + k) &&& 31)) = nI (w ||| 2 ^ o k)
              rw [e3, hrk, bit_or hok]
        · rw [hx, e6]
          exact (iI_add 0 k).trans (congrArg iI (by omega))
  have outer : ∀ (m y : Nat), 49 ≤ y + m → y ≤ 48 → ∀ (hc : St) (w : Nat) (L5 L6 L7 : Option Value) (z3 z4 : Int32), Sm [] [98] h hc → w < 2 ^ 20 → (∀ p, p < 20 → w.testBit p = decide (0 < hT S o n y p)) → (∀ p, p < 20 → hc.2 98 p = iI (hT S o n y p)) → z3 = nI w → z4 = iI y → SR y_M_hidden 29 [some (.ref 90), some (.ref 95), some (.int x), some (.int z3), some (.int z4), L5, L6, L7] [] hc Q := by
    intro m
    induction m with
    | zero => intro y h1 h2; omega
    | succ m ih =>
      intro y h1 h2 hc w L5 L6 L7 z3 z4 hsm hw hbits hvals e3 e4
      refine w_loop IS_ok [42] ok_M_hidden ?_
      refine w_le 48 y (fun h3 => ?_) (fun h3 => ?_) rfl e4
      · have : y = 48 := by omega
        subst this
        rw [e3]
        exact hQ hc w hsm hw hbits hvals
      · exact inner y (by omega) (fun hc w L5 L6 L7 z3 z4 a1 a2 a3 a4 a5 a6 => ih (y + 1) (by omega) (by omega) hc w L5 L6 L7 z3 z4 a1 a2 a3 a4 a5 a6) (n + 1) 0 (by omega) (by omega) hc w _ _ _ _ _ hsm hw hbits hvals e3 e4 rfl rfl
  have zero : ∀ (m q : Nat), 21 ≤ q + m → q ≤ 20 → ∀ (hc : St) (L5 L6 L7 : Option Value) (z4 : Int32), Sm [] [98] h hc → (∀ p, p < q → hc.2 98 p = 0) → z4 = iI q → SR y_M_hidden 5 [some (.ref 90), some (.ref 95), some (.int x), some (.int 0), some (.int z4), L5, L6, L7] [] hc Q := by
    intro m
    induction m with
    | zero => intro q h1 h2; omega
    | succ m ih =>
      intro q h1 h2 hc L5 L6 L7 z4 hsm hz e4
      refine w_loop IS_ok [5, 29] ok_M_hidden ?_
      refine w_le 20 q (fun h3 => ?_) (fun h3 => ?_) rfl e4
      · have hq : q = 20 := by omega
        subst hq
        exact outer 49 0 (by omega) (by omega) hc 0 _ _ _ _ _ hsm (by decide) (fun p hp => by simp [hT, sm]) (fun p hp => hz p hp) rfl rfl
      · refine w_ix q ?_ e4 (show q < 20 by omega)
        refine ih (q + 1) (by omega) (by omega) _ _ _ _ _ (hsm.t (Sm.wr _ (by decide))) (fun p hp => ?_) (iI_1 e4)
        show u1 hc.2 98 _ 98 p = 0
        rw [u1_s]
        by_cases hpq : p = q
        · rw [hpq]; exact u1_s _ _ _
        · exact (u1_n _ _ hpq).trans (hz p (by omega))
  exact zero 21 0 (by omega) (by omega) h _ _ _ _ Sm.rf (fun p hp => by omega) rfl
