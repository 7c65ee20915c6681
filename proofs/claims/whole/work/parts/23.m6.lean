/-! a place of a row is written -/
def wa (h : St) (a j : Nat) (x : Int32) : St := (h.1, u1 h.2 a (u1 (h.2 a) j x))
theorem wa_s (h : St) (a j : Nat) (x : Int32) : (wa h a j x).2 a j = x := by show u1 h.2 a (u1 (h.2 a) j x) a j = x; rw [u1_s, u1_s]
theorem wa_n (h : St) (a j : Nat) (x : Int32) {i : Nat} (hi : i ≠ j) : (wa h a j x).2 a i = h.2 a i := by show u1 h.2 a (u1 (h.2 a) j x) a i = _; rw [u1_s, u1_n _ _ hi]
theorem wa_o (h : St) (a j : Nat) (x : Int32) {b : Nat} (hb : b ≠ a) : (wa h a j x).2 b = h.2 b := u1_n _ _ hb
theorem Sm.wa {X : List (Nat × Nat)} {Y : List Nat} {h : St} {a : Nat} (j : Nat) (x : Int32) (ha : a ∈ Y) : Sm X Y h (wa h a j x) := Sm.wr _ ha
/-! an order takes its turn -/
def ol (o : Nat → Nat) (n : Nat) : List Nat := (List.range n).map o
def fl (l : List Nat) : Nat → Nat := fun k => l.getD k 0
theorem ol_len (o : Nat → Nat) (n : Nat) : (ol o n).length = n := by simp [ol]
theorem ol_s (o : Nat → Nat) (n : Nat) : ol o (n + 1) = ol o n ++ [o n] := by simp [ol, List.range_succ]
theorem ol_fil_le (o : Nat → Nat) (C : Nat → Bool) {a b : Nat} (h : a ≤ b) : ((ol o a).filter C).length ≤ ((ol o b).filter C).length := by
  induction b with
  | zero => rw [Nat.le_zero.mp h]; exact Nat.le_refl _
  | succ b ih =>
    by_cases hb : a = b + 1
    · rw [hb]; exact Nat.le_refl _
    · have := ih (by omega)
      rw [ol_s, List.filter_append, List.length_append]
      omega
theorem fl_ol {o : Nat → Nat} {n k : Nat} (h : k < n) : fl (ol o n) k = o k := by simp [fl, ol, List.getD_eq_getElem?_getD, h]
theorem ol_congr {o o' : Nat → Nat} {n : Nat} (h : ∀ k, k < n → o k = o' k) : ol o n = ol o' n := List.map_congr_left (fun k hk => h k (List.mem_range.mp hk))
theorem fl_app {l m : List Nat} {k : Nat} (h : k < l.length) : fl (l ++ m) k = fl l k := by simp [fl, List.getD_eq_getElem?_getD, List.getElem?_append_left h]
theorem fl_end {l : List Nat} {x k : Nat} (h : k = l.length) : fl (l ++ [x]) k = x := by subst h; simp [fl, List.getD_eq_getElem?_getD]
theorem filt_perm (B : Nat → Bool) : ∀ l : List Nat, (l.filter B ++ l.filter (fun p => !B p)).Perm l
  | [] => by simp
  | a :: r => by
    have ih := filt_perm B r
    cases h : B a with
    | true =>
      simp only [List.filter_cons, h, if_true, Bool.not_true, Bool.false_eq_true, if_false, List.cons_append]
      exact ih.cons a
    | false =>
      simp only [List.filter_cons, h, Bool.false_eq_true, if_false, Bool.not_false, if_true]
      exact List.perm_middle.trans (ih.cons a)
/-- the order behind its turn -/
def turnL (B : Nat → Bool) (rule : Int) (step n : Nat) (o : Nat → Nat) : List Nat := if rule = 2 then (ol o n).filter B ++ (ol o n).filter (fun p => !B p) else if rule = 1 then ol (fun k => o ((k + step) % n)) n else ol o n
theorem turnL_len (B : Nat → Bool) (rule : Int) (step n : Nat) (o : Nat → Nat) : (turnL B rule step n o).length = n := by
  unfold turnL
  split
  · rw [(filt_perm B (ol o n)).length_eq, ol_len]
  · split <;> rw [ol_len]
theorem turnL_mem {B : Nat → Bool} {rule : Int} {step n : Nat} {o : Nat → Nat} {x : Nat} (h : x ∈ turnL B rule step n o) : ∃ k, k < n ∧ o k = x := by
  have key : ∀ {o' : Nat → Nat}, x ∈ ol o' n → ∃ k, k < n ∧ o' k = x := fun hx => by
    obtain ⟨k, hk, e⟩ := List.mem_map.mp hx
    exact ⟨k, List.mem_range.mp hk, e⟩
  unfold turnL at h
  split at h
  · exact key ((filt_perm B (ol o n)).mem_iff.mp h)
  · split at h
    · obtain ⟨k, hk, e⟩ := key h
      exact ⟨(k + step) % n, Nat.mod_lt _ (by omega), e⟩
    · exact key h
theorem fl_mem {l : List Nat} {k : Nat} (h : k < l.length) : fl l k ∈ l := by
  unfold fl
  rw [List.getD_eq_getElem?_getD, List.getElem?_eq_getElem h]
  exact List.getElem_mem h
theorem modr {x y : Int32} {a b : Nat} (hx : x = iI a) (hy : y = iI b) (ha : a < 2 ^ 31) (hb : b < 2 ^ 31) (h0 : 0 < b) : x - x / y * y = iI ((a % b : Nat) : Int) := by
  rw [hx, hy, ← iI_nat, ← iI_nat, pk_rem ha h0 hb]
  rfl
theorem bit_is {w p : Nat} {B : Nat → Bool} (hw : w < 2 ^ 20) (hp : p < 20) (hb : w.testBit p = B p) : (nI w >>> (iI p &&& 31)) &&& 1 = iI (if B p then 1 else 0) := by rw [bit_at hw hp, hb]
set_option maxHeartbeats 4000000 in
theorem c_M_takeTurn_91 {x1 x2 x3 x4 : Int32} {h : St} {Q : Option Value → St → Prop} (n : Nat) (o : Nat → Nat) (B : Nat → Bool) (rule : Int) (step w : Nat) (hn : h.2 91 1 = iI n) (hn2 : n ≤ 20) (ho : ∀ k, k < n → o k < 20) (hrow : ∀ k, k < n → h.2 91 (6 + k) = iI (o k)) (hru : 0 ≤ rule ∧ rule ≤ 2) (hst : step ≤ 19) (hw : w < 2 ^ 20) (hbit : ∀ p, p < 20 → w.testBit p = B p)
    (hQ : ∀ h' : St, Sm [] [96, 91] h h' → (∀ k, k < n → h'.2 91 (6 + k) = iI (fl (turnL B rule step n o) k)) → (∀ i, i < 6 ∨ 6 + n ≤ i → h'.2 91 i = h.2 91 i) → Q none h') (hx1 : x1 = iI 6) (hx2 : x2 = iI rule) (hx3 : x3 = iI step) (hx4 : x4 = nI w) : SC y_M_takeTurn [.ref 90, .ref 91, .int x1, .int x2, .int x3, .int x4] h Q := by
  refine w_call IS_ok [14] ok_M_takeTurn rfl rfl ?_
  refine w_ix 1 ?_ rfl (show 1 < 270 by omega)
  have ix : ∀ {z : Int32} {k : Nat}, z = iI k → x1 + z = iI ((6 + k : Nat) : Int) := fun hz => by rw [hx1, hz]; exact (iI_add 6 _).trans (congrArg iI (by omega))
  generalize hz6 : IS.2.2.2.2.1 h 91 1 = z6
  have e6 : z6 = iI n := hz6 ▸ hn
  have copy : ∀ (m k : Nat), n + 1 ≤ k + m → k ≤ n → ∀ (hc : St) (z7 z8 : Int32) (L9 : Option Value), Sm [] [96, 91] h hc → (∀ i, i < n → hc.2 96 i = iI (fl (turnL B rule step n o) i)) → (∀ i, i < k → hc.2 91 (6 + i) = iI (fl (turnL B rule step n o) i)) → (∀ i, i < 6 ∨ 6 + k ≤ i → hc.2 91 i = h.2 91 i) → z8 = iI k → SR y_M_takeTurn 134 [some (.ref 90), some (.ref 91), some (.int x1), some (.int x2), some (.int x3), some (.int x4), some (.int z6), some (.int z7), some (.int z8), L9] [] hc Q := by
    intro m
    induction m with
    | zero => intro k h1 h2; omega
    | succ m ih =>
      intro k h1 h2 hc z7 z8 L9 hsm hmv hrw hot e8
      refine w_loop IS_ok [134] ok_M_takeTurn ?_
      refine w_le n k (fun h3 => ?_) (fun h3 => ?_) e6 e8
      · have : k = n := by omega
        subst this
        exact hQ hc hsm hrw hot
      · refine w_ix k ?_ e8 (show k < 20 by omega)
        refine w_ix (6 + k) ?_ (ix e8) (show 6 + k < 270 by omega)
        refine ih (k + 1) (by omega) (by omega) (wa hc 91 (6 + k) (hc.2 96 k)) _ _ _ (hsm.t (Sm.wa _ _ (by decide))) (fun i hi => ?_) (fun i hi => ?_) (fun i hi => ?_) (iI_1 e8)
        · rw [wa_o _ _ _ _ (by decide)]
          exact hmv i hi
        · by_cases hik : i = k
          · rw [hik, wa_s]
            exact hmv k (by omega)
          · rw [wa_n _ _ _ _ (by omega)]
            exact hrw i (by omega)
        · rw [wa_n _ _ _ _ (by omega)]
          exact hot i (by omega)
  have row : ∀ {hc : St}, Sm [] [96] h hc → ∀ k, k < n → hc.2 91 (6 + k) = iI (o k) := fun hsm k hk => by rw [hsm.2 91 (by decide)]; exact hrow k hk
  have cp0 : ∀ (hc : St) (z7 : Int32) (L8 L9 : Option Value), Sm [] [96] h hc → (∀ i, i < n → hc.2 96 i = iI (fl (turnL B rule step n o) i)) → SR y_M_takeTurn 131 [some (.ref 90), some (.ref 91), some (.int x1), some (.int x2), some (.int x3), some (.int x4), some (.int z6), some (.int z7), L8, L9] [] hc Q := by
    intro hc z7 L8 L9 hsm hmv
    refine w_loop IS_ok [134] ok_M_takeTurn ?_
    exact copy (n + 1) 0 (by omega) (by omega) hc _ _ _ (hsm.mo (fun _ z => z) (fun q hq => by simp only [List.mem_cons, List.not_mem_nil, or_false] at hq ⊢; exact Or.inl hq)) hmv (fun i hi => by omega) (fun i _ => by rw [hsm.2 91 (by decide)]) rfl
  have rot : rule < 2 → ∀ (m k : Nat), n + 1 ≤ k + m → k ≤ n → ∀ (hc : St) (z7 z8 : Int32) (L9 : Option Value), Sm [] [96] h hc → (∀ i, i < k → hc.2 96 i = iI (fl (turnL B rule step n o) i)) → z8 = iI k → SR y_M_takeTurn 84 [some (.ref 90), some (.ref 91), some (.int x1), some (.int x2), some (.int x3), some (.int x4), some (.int z6), some (.int z7), some (.int z8), L9] [] hc Q := by
    intro hr2 m
    induction m with
    | zero => intro k h1 h2; omega
    | succ m ih =>
      intro k h1 h2 hc z7 z8 L9 hsm hmv e8
      refine w_loop IS_ok [84, 131] ok_M_takeTurn ?_
      refine w_le n k (fun h3 => ?_) (fun h3 => ?_) e6 e8
      · have : k = n := by omega
        subst this
        exact cp0 hc _ _ _ hsm hmv
      · have h3 : k < n := by omega
        refine w_le 2 rule (fun h4 => by omega) (fun _ => ?_) rfl hx2
        have next : ∀ (v : Int32), v = iI (fl (turnL B rule step n o) k) → SR y_M_takeTurn 84 [some (.ref 90), some (.ref 91), some (.int x1), some (.int x2), some (.int x3), some (.int x4), some (.int z6), some (.int z7), some (.int (z8 + 1)), L9] [] (wa hc 96 k v) Q := by
          intro v hv
          refine ih (k + 1) (by omega) (by omega) (wa hc 96 k v) _ _ _ (hsm.t (Sm.wa _ _ (by decide))) (fun i hi => ?_) (iI_1 e8)
          by_cases hik : i = k
          · rw [hik, wa_s]; exact hv
          · rw [wa_n _ _ _ _ hik]; exact hmv i (by omega)
        refine w_eq rule 1 (fun h4 => ?_) (fun h4 => ?_) hx2 rfl
        · have eks : z8 + x3 = iI ((k + step : Nat) : Int) := by rw [e8, hx3]; exact (iI_add _ _).trans (congrArg iI (by omega))
          refine ⟨fun z => ?_, ?_⟩
          · rw [e6] at z
            have := (iI_eq (a := n) (b := 0) (by omega) (by omega)).mp z
            omega
          · have hlt : (k + step) % n < n := Nat.mod_lt _ (by omega)
            refine w_ix (6 + (k + step) % n) ?_ (ix (modr eks e6 (by omega) (by omega) (by omega))) (show 6 + (k + step) % n < 270 by omega)
            refine w_ix k ?_ e8 (show k < 20 by omega)
            refine next _ ?_
            refine (row hsm _ hlt).trans ?_
            unfold turnL
            rw [if_neg (by omega), if_pos h4, fl_ol h3]
        · refine w_ix (6 + k) ?_ (ix e8) (show 6 + k < 270 by omega)
          refine w_ix k ?_ e8 (show k < 20 by omega)
          refine next _ ?_
          refine (row hsm _ h3).trans ?_
          unfold turnL
          rw [if_neg (by omega), if_neg h4, fl_ol h3]
  have part : ∀ (P : List Nat) (C : Nat → Bool) (pass : Nat), pass < 2 → (∀ p, p < 20 → ((if B p then 1 else 0 : Int) = 1 - pass ↔ C p = true)) → P.length + ((ol o n).filter C).length ≤ n →
      (∀ (hc : St) (z7 z8 : Int32) (L9 : Option Value), Sm [] [96] h hc → (∀ i, i < (P ++ (ol o n).filter C).length → hc.2 96 i = iI (fl (P ++ (ol o n).filter C) i)) → z7 = iI ((P ++ (ol o n).filter C).length : Nat) → z8 = iI (pass + 1 : Nat) → SR y_M_takeTurn 14 [some (.ref 90), some (.ref 91), some (.int x1), some (.int x2), some (.int x3), some (.int x4), some (.int z6), some (.int z7), some (.int z8), L9] [] hc Q) →
      ∀ (m k : Nat), n + 1 ≤ k + m → k ≤ n → ∀ (hc : St) (z7 z8 z9 : Int32), Sm [] [96] h hc → (∀ i, i < (P ++ (ol o k).filter C).length → hc.2 96 i = iI (fl (P ++ (ol o k).filter C) i)) → z7 = iI ((P ++ (ol o k).filter C).length : Nat) → z8 = iI pass → z9 = iI k → SR y_M_takeTurn 28 [some (.ref 90), some (.ref 91), some (.int x1), some (.int x2), some (.int x3), some (.int x4), some (.int z6), some (.int z7), some (.int z8), some (.int z9)] [] hc Q := by
    intro P C pass hpass hC hlen hnext m
    induction m with
    | zero => intro k h1 h2; omega
    | succ m ih =>
      intro k h1 h2 hc z7 z8 z9 hsm hmv e7 e8 e9
      refine w_loop IS_ok [14, 28] ok_M_takeTurn ?_
      refine w_le n k (fun h3 => ?_) (fun h3 => ?_) e6 e9
      · have : k = n := by omega
        subst this
        exact hnext hc _ _ _ hsm hmv e7 (iI_1 e8)
      · have h3 : k < n := by omega
        have hok := ho k h3
        refine w_ix (6 + k) ?_ (ix e9) (show 6 + k < 270 by omega)
        have eb : (x4 >>> (hc.2 91 (6 + k) &&& 31)) &&& 1 = iI (if B (o k) then 1 else 0) := by rw [hx4, row hsm k h3]; exact bit_is hw hok (hbit _ hok)
        have ep : (1 : Int32) - z8 = iI (1 - (pass : Int)) := by rw [e8]; exact iI_sub 1 pass
        have hcc := hC (o k) hok
        refine w_eq (if B (o k) then 1 else 0 : Int) (1 - pass) (fun h4 => ?_) (fun h4 => ?_) eb ep (by split <;> omega) (by omega)
        · have hCt := hcc.mp h4
          have es : P ++ (ol o (k + 1)).filter C = (P ++ (ol o k).filter C) ++ [o k] := by rw [ol_s, List.filter_append, List.filter_cons, if_pos hCt]; simp
          have hl2 : (P ++ (ol o k).filter C).length < n := by
            have h5 := ol_fil_le o C (a := k + 1) (b := n) h3
            rw [ol_s, List.filter_append, List.filter_cons, if_pos hCt] at h5
            simp at h5 ⊢
            omega
          refine w_ix (6 + k) ?_ (ix e9) (show 6 + k < 270 by omega)
          refine w_ix (P ++ (ol o k).filter C).length ?_ e7 (show (P ++ (ol o k).filter C).length < 20 by omega)
          refine ih (k + 1) (by omega) (by omega) (wa hc 96 (P ++ (ol o k).filter C).length (hc.2 91 (6 + k))) _ _ _ (hsm.t (Sm.wa _ _ (by decide))) (fun i hi => ?_) (by rw [es, List.length_append]; exact iI_1 e7) e8 (iI_1 e9)
          rw [es] at hi ⊢
          by_cases hik : i = (P ++ (ol o k).filter C).length
          · rw [hik, wa_s, fl_end rfl]; exact row hsm k h3
          · rw [List.length_append] at hi
            simp only [List.length_cons, List.length_nil] at hi
            rw [wa_n _ _ _ _ hik, fl_app (by omega)]
            exact hmv i (by omega)
        · have hCf : ¬ C (o k) = true := fun z => h4 (hcc.mpr z)
          have es : P ++ (ol o (k + 1)).filter C = P ++ (ol o k).filter C := by rw [ol_s, List.filter_append, List.filter_cons, if_neg hCf]; simp
          exact ih (k + 1) (by omega) (by omega) _ _ _ _ hsm (by rw [es]; exact hmv) (by rw [es]; exact e7) e8 (iI_1 e9)
  have hlenT : ((ol o n).filter B).length + ((ol o n).filter (fun p => !B p)).length = n := by
    have := (filt_perm B (ol o n)).length_eq
    rw [List.length_append, ol_len] at this
    exact this
  by_cases hr2 : rule = 2
  · have fin : ∀ (hc : St) (z7 z8 : Int32) (L9 : Option Value), Sm [] [96] h hc → (∀ i, i < ((ol o n).filter B ++ (ol o n).filter (fun p => !B p)).length → hc.2 96 i = iI (fl ((ol o n).filter B ++ (ol o n).filter (fun p => !B p)) i)) → z8 = iI (1 + 1 : Nat) → SR y_M_takeTurn 14 [some (.ref 90), some (.ref 91), some (.int x1), some (.int x2), some (.int x3), some (.int x4), some (.int z6), some (.int z7), some (.int z8), L9] [] hc Q := by
      intro hc z7 z8 L9 hsm hmv e8
      refine w_loop IS_ok [131] ok_M_takeTurn ?_
      refine w_le 2 2 (fun _ => ?_) (fun h4 => by omega) rfl e8
      have hT : ∀ i, i < n → hc.2 96 i = iI (fl (turnL B rule step n o) i) := fun i hi => by
        unfold turnL
        rw [if_pos hr2]
        exact hmv i (by rw [List.length_append]; omega)
      refine w_le n 0 (fun h3 => ?_) (fun h3 => ?_) e6 rfl
      · exact cp0 hc _ _ _ hsm hT
      · refine w_le 2 rule (fun h4 => ?_) (fun h4 => by omega) rfl hx2
        exact cp0 hc _ _ _ hsm hT
    have second : ∀ (hc : St) (z7 z8 : Int32) (L9 : Option Value), Sm [] [96] h hc → (∀ i, i < ((ol o n).filter B).length → hc.2 96 i = iI (fl ((ol o n).filter B) i)) → z7 = iI (((ol o n).filter B).length : Nat) → z8 = iI (0 + 1 : Nat) → SR y_M_takeTurn 14 [some (.ref 90), some (.ref 91), some (.int x1), some (.int x2), some (.int x3), some (.int x4), some (.int z6), some (.int z7), some (.int z8), L9] [] hc Q := by
      intro hc z7 z8 L9 hsm hmv e7 e8
      refine w_loop IS_ok [28] ok_M_takeTurn ?_
      refine w_le 2 1 (fun h4 => by omega) (fun _ => ?_) rfl e8
      refine w_eq rule 2 (fun _ => ?_) (fun h4 => absurd hr2 h4) hx2 rfl
      refine part ((ol o n).filter B) (fun p => !B p) 1 (by omega) (fun p hp => by cases B p <;> simp) (by omega) (fun hc z7 z8 L9 a1 a2 a3 a4 => fin hc z7 z8 L9 a1 a2 a4) (n + 1) 0 (by omega) (by omega) hc _ _ _ hsm ?_ ?_ e8 rfl
      · simpa [ol] using hmv
      · simpa [ol] using e7
    refine w_loop IS_ok [28] ok_M_takeTurn ?_
    refine w_le 2 0 (fun h4 => by omega) (fun _ => ?_) rfl rfl
    refine w_eq rule 2 (fun _ => ?_) (fun h4 => absurd hr2 h4) hx2 rfl
    exact part [] B 0 (by omega) (fun p hp => by cases B p <;> simp) (by simp; omega) (fun hc z7 z8 L9 a1 a2 a3 a4 => second hc z7 z8 L9 a1 (by simpa using a2) (by simpa using a3) a4) (n + 1) 0 (by omega) (by omega) h _ _ _ Sm.rf (fun i hi => by simp [ol] at hi) rfl rfl rfl
  · refine w_loop IS_ok [84] ok_M_takeTurn ?_
    refine w_le 2 0 (fun h4 => by omega) (fun _ => ?_) rfl rfl
    refine w_eq rule 2 (fun h4 => absurd h4 hr2) (fun _ => ?_) hx2 rfl
    exact rot (by omega) (n + 1) 0 (by omega) (by omega) h _ _ _ Sm.rf (fun i hi => by omega) rfl
set_option maxHeartbeats 4000000 in
theorem c_M_takeTurn_95 {x1 x2 x3 x4 : Int32} {h : St} {Q : Option Value → St → Prop} (n : Nat) (o : Nat → Nat) (B : Nat → Bool) (rule : Int) (step w : Nat) (hn : h.2 91 1 = iI n) (hn2 : n ≤ 20) (ho : ∀ k, k < n → o k < 20) (hrow : ∀ k, k < n → h.2 95 (0 + k) = iI (o k)) (hru : 0 ≤ rule ∧ rule ≤ 2) (hst : step ≤ 19) (hw : w < 2 ^ 20) (hbit : ∀ p, p < 20 → w.testBit p = B p)
    (hQ : ∀ h' : St, Sm [] [96, 95] h h' → (∀ k, k < n → h'.2 95 (0 + k) = iI (fl (turnL B rule step n o) k)) → (∀ i, i < 0 ∨ 0 + n ≤ i → h'.2 95 i = h.2 95 i) → Q none h') (hx1 : x1 = iI 0) (hx2 : x2 = iI rule) (hx3 : x3 = iI step) (hx4 : x4 = nI w) : SC y_M_takeTurn [.ref 90, .ref 95, .int x1, .int x2, .int x3, .int x4] h Q := by
  refine w_call IS_ok [14] ok_M_takeTurn rfl rfl ?_
  refine w_ix 1 ?_ rfl (show 1 < 270 by omega)
  have ix : ∀ {z : Int32} {k : Nat}, z = iI k → x1 + z = iI ((0 + k : Nat) : Int) := fun hz => by rw [hx1, hz]; exact (iI_add 0 _).trans (congrArg iI (by omega))
  generalize hz6 : IS.2.2.2.2.1 h 91 1 = z6
  have e6 : z6 = iI n := hz6 ▸ hn
  have copy : ∀ (m k : Nat), n + 1 ≤ k + m → k ≤ n → ∀ (hc : St) (z7 z8 : Int32) (L9 : Option Value), Sm [] [96, 95] h hc → (∀ i, i < n → hc.2 96 i = iI (fl (turnL B rule step n o) i)) → (∀ i, i < k → hc.2 95 (0 + i) = iI (fl (turnL B rule step n o) i)) → (∀ i, i < 0 ∨ 0 + k ≤ i → hc.2 95 i = h.2 95 i) → z8 = iI k → SR y_M_takeTurn 134 [some (.ref 90), some (.ref 95), some (.int x1), some (.int x2), some (.int x3), some (.int x4), some (.int z6), some (.int z7), some (.int z8), L9] [] hc Q := by
    intro m
    induction m with
    | zero => intro k h1 h2; omega
    | succ m ih =>
      intro k h1 h2 hc z7 z8 L9 hsm hmv hrw hot e8
      refine w_loop IS_ok [134] ok_M_takeTurn ?_
      refine w_le n k (fun h3 => ?_) (fun h3 => ?_) e6 e8
      · have : k = n := by omega
        subst this
        exact hQ hc hsm hrw hot
      · refine w_ix k ?_ e8 (show k < 20 by omega)
        refine w_ix (0 + k) ?_ (ix e8) (show 0 + k < 20 by omega)
        refine ih (k + 1) (by omega) (by omega) (wa hc 95 (0 + k) (hc.2 96 k)) _ _ _ (hsm.t (Sm.wa _ _ (by decide))) (fun i hi => ?_) (fun i hi => ?_) (fun i hi => ?_) (iI_1 e8)
        · rw [wa_o _ _ _ _ (by decide)]
          exact hmv i hi
        · by_cases hik : i = k
          · rw [hik, wa_s]
            exact hmv k (by omega)
          · rw [wa_n _ _ _ _ (by omega)]
            exact hrw i (by omega)
        · rw [wa_n _ _ _ _ (by omega)]
          exact hot i (by omega)
  have row : ∀ {hc : St}, Sm [] [96] h hc → ∀ k, k < n → hc.2 95 (0 + k) = iI (o k) := fun hsm k hk => by rw [hsm.2 95 (by decide)]; exact hrow k hk
  have cp0 : ∀ (hc : St) (z7 : Int32) (L8 L9 : Option Value), Sm [] [96] h hc → (∀ i, i < n → hc.2 96 i = iI (fl (turnL B rule step n o) i)) → SR y_M_takeTurn 131 [some (.ref 90), some (.ref 95), some (.int x1), some (.int x2), some (.int x3), some (.int x4), some (.int z6), some (.int z7), L8, L9] [] hc Q := by
    intro hc z7 L8 L9 hsm hmv
    refine w_loop IS_ok [134] ok_M_takeTurn ?_
    exact copy (n + 1) 0 (by omega) (by omega) hc _ _ _ (hsm.mo (fun _ z => z) (fun q hq => by simp only [List.mem_cons, List.not_mem_nil, or_false] at hq ⊢; exact Or.inl hq)) hmv (fun i hi => by omega) (fun i _ => by rw [hsm.2 95 (by decide)]) rfl
  have rot : rule < 2 → ∀ (m k : Nat), n + 1 ≤ k + m → k ≤ n → ∀ (hc : St) (z7 z8 : Int32) (L9 : Option Value), Sm [] [96] h hc → (∀ i, i < k → hc.2 96 i = iI (fl (turnL B rule step n o) i)) → z8 = iI k → SR y_M_takeTurn 84 [some (.ref 90), some (.ref 95), some (.int x1), some (.int x2), some (.int x3), some (.int x4), some (.int z6), some (.int z7), some (.int z8), L9] [] hc Q := by
    intro hr2 m
    induction m with
    | zero => intro k h1 h2; omega
    | succ m ih =>
      intro k h1 h2 hc z7 z8 L9 hsm hmv e8
      refine w_loop IS_ok [84, 131] ok_M_takeTurn ?_
      refine w_le n k (fun h3 => ?_) (fun h3 => ?_) e6 e8
      · have : k = n := by omega
        subst this
        exact cp0 hc _ _ _ hsm hmv
      · have h3 : k < n := by omega
        refine w_le 2 rule (fun h4 => by omega) (fun _ => ?_) rfl hx2
        have next : ∀ (v : Int32), v = iI (fl (turnL B rule step n o) k) → SR y_M_takeTurn 84 [some (.ref 90), some (.ref 95), some (.int x1), some (.int x2), some (.int x3), some (.int x4), some (.int z6), some (.int z7), some (.int (z8 + 1)), L9] [] (wa hc 96 k v) Q := by
          intro v hv
          refine ih (k + 1) (by omega) (by omega) (wa hc 96 k v) _ _ _ (hsm.t (Sm.wa _ _ (by decide))) (fun i hi => ?_) (iI_1 e8)
          by_cases hik : i = k
          · rw [hik, wa_s]; exact hv
          · rw [wa_n _ _ _ _ hik]; exact hmv i (by omega)
        refine w_eq rule 1 (fun h4 => ?_) (fun h4 => ?_) hx2 rfl
        · have eks : z8 + x3 = iI ((k + step : Nat) : Int) := by rw [e8, hx3]; exact (iI_add _ _).trans (congrArg iI (by omega))
          refine ⟨fun z => ?_, ?_⟩
          · rw [e6] at z
            have := (iI_eq (a := n) (b := 0) (by omega) (by omega)).mp z
            omega
          · have hlt : (k + step) % n < n := Nat.mod_lt _ (by omega)
            refine w_ix (0 + (k + step) % n) ?_ (ix (modr eks e6 (by omega) (by omega) (by omega))) (show 0 + (k + step) % n < 20 by omega)
            refine w_ix k ?_ e8 (show k < 20 by omega)
            refine next _ ?_
            refine (row hsm _ hlt).trans ?_
            unfold turnL
            rw [if_neg (by omega), if_pos h4, fl_ol h3]
        · refine w_ix (0 + k) ?_ (ix e8) (show 0 + k < 20 by omega)
          refine w_ix k ?_ e8 (show k < 20 by omega)
          refine next _ ?_
          refine (row hsm _ h3).trans ?_
          unfold turnL
          rw [if_neg (by omega), if_neg h4, fl_ol h3]
  have part : ∀ (P : List Nat) (C : Nat → Bool) (pass : Nat), pass < 2 → (∀ p, p < 20 → ((if B p then 1 else 0 : Int) = 1 - pass ↔ C p = true)) → P.length + ((ol o n).filter C).length ≤ n →
      (∀ (hc : St) (z7 z8 : Int32) (L9 : Option Value), Sm [] [96] h hc → (∀ i, i < (P ++ (ol o n).filter C).length → hc.2 96 i = iI (fl (P ++ (ol o n).filter C) i)) → z7 = iI ((P ++ (ol o n).filter C).length : Nat) → z8 = iI (pass + 1 : Nat) → SR y_M_takeTurn 14 [some (.ref 90), some (.ref 95), some (.int x1), some (.int x2), some (.int x3), some (.int x4), some (.int z6), some (.int z7), some (.int z8), L9] [] hc Q) →
      ∀ (m k : Nat), n + 1 ≤ k + m → k ≤ n → ∀ (hc : St) (z7 z8 z9 : Int32), Sm [] [96] h hc → (∀ i, i < (P ++ (ol o k).filter C).length → hc.2 96 i = iI (fl (P ++ (ol o k).filter C) i)) → z7 = iI ((P ++ (ol o k).filter C).length : Nat) → z8 = iI pass → z9 = iI k → SR y_M_takeTurn 28 [some (.ref 90), some (.ref 95), some (.int x1), some (.int x2), some (.int x3), some (.int x4), some (.int z6), some (.int z7), some (.int z8), some (.int z9)] [] hc Q := by
    intro P C pass hpass hC hlen hnext m
    induction m with
    | zero => intro k h1 h2; omega
    | succ m ih =>
      intro k h1 h2 hc z7 z8 z9 hsm hmv e7 e8 e9
      refine w_loop IS_ok [14, 28] ok_M_takeTurn ?_
      refine w_le n k (fun h3 => ?_) (fun h3 => ?_) e6 e9
      · have : k = n := by omega
        subst this
        exact hnext hc _ _ _ hsm hmv e7 (iI_1 e8)
      · have h3 : k < n := by omega
        have hok := ho k h3
        refine w_ix (0 + k) ?_ (ix e9) (show 0 + k < 20 by omega)
        have eb : (x4 >>> (hc.2 95 (0 + k) &&& 31)) &&& 1 = iI (if B (o k) then 1 else 0) := by rw [hx4, row hsm k h3]; exact bit_is hw hok (hbit _ hok)
        have ep : (1 : Int32) - z8 = iI (1 - (pass : Int)) := by rw [e8]; exact iI_sub 1 pass
        have hcc := hC (o k) hok
        refine w_eq (if B (o k) then 1 else 0 : Int) (1 - pass) (fun h4 => ?_) (fun h4 => ?_) eb ep (by split <;> omega) (by omega)
        · have hCt := hcc.mp h4
          have es : P ++ (ol o (k + 1)).filter C = (P ++ (ol o k).filter C) ++ [o k] := by rw [ol_s, List.filter_append, List.filter_cons, if_pos hCt]; simp
          have hl2 : (P ++ (ol o k).filter C).length < n := by
            have h5 := ol_fil_le o C (a := k + 1) (b := n) h3
            rw [ol_s, List.filter_append, List.filter_cons, if_pos hCt] at h5
            simp at h5 ⊢
            omega
          refine w_ix (0 + k) ?_ (ix e9) (show 0 + k < 20 by omega)
          refine w_ix (P ++ (ol o k).filter C).length ?_ e7 (show (P ++ (ol o k).filter C).length < 20 by omega)
          refine ih (k + 1) (by omega) (by omega) (wa hc 96 (P ++ (ol o k).filter C).length (hc.2 95 (0 + k))) _ _ _ (hsm.t (Sm.wa _ _ (by decide))) (fun i hi => ?_) (by rw [es, List.length_append]; exact iI_1 e7) e8 (iI_1 e9)
          rw [es] at hi ⊢
          by_cases hik : i = (P ++ (ol o k).filter C).length
          · rw [hik, wa_s, fl_end rfl]; exact row hsm k h3
          · rw [List.length_append] at hi
            simp only [List.length_cons, List.length_nil] at hi
            rw [wa_n _ _ _ _ hik, fl_app (by omega)]
            exact hmv i (by omega)
        · have hCf : ¬ C (o k) = true := fun z => h4 (hcc.mpr z)
          have es : P ++ (ol o (k + 1)).filter C = P ++ (ol o k).filter C := by rw [ol_s, List.filter_append, List.filter_cons, if_neg hCf]; simp
          exact ih (k + 1) (by omega) (by omega) _ _ _ _ hsm (by rw [es]; exact hmv) (by rw [es]; exact e7) e8 (iI_1 e9)
  have hlenT : ((ol o n).filter B).length + ((ol o n).filter (fun p => !B p)).length = n := by
    have := (filt_perm B (ol o n)).length_eq
    rw [List.length_append, ol_len] at this
    exact this
  by_cases hr2 : rule = 2
  · have fin : ∀ (hc : St) (z7 z8 : Int32) (L9 : Option Value), Sm [] [96] h hc → (∀ i, i < ((ol o n).filter B ++ (ol o n).filter (fun p => !B p)).length → hc.2 96 i = iI (fl ((ol o n).filter B ++ (ol o n).filter (fun p => !B p)) i)) → z8 = iI (1 + 1 : Nat) → SR y_M_takeTurn 14 [some (.ref 90), some (.ref 95), some (.int x1), some (.int x2), some (.int x3), some (.int x4), some (.int z6), some (.int z7), some (.int z8), L9] [] hc Q := by
      intro hc z7 z8 L9 hsm hmv e8
      refine w_loop IS_ok [131] ok_M_takeTurn ?_
      refine w_le 2 2 (fun _ => ?_) (fun h4 => by omega) rfl e8
      have hT : ∀ i, i < n → hc.2 96 i = iI (fl (turnL B rule step n o) i) := fun i hi => by
        unfold turnL
        rw [if_pos hr2]
        exact hmv i (by rw [List.length_append]; omega)
      refine w_le n 0 (fun h3 => ?_) (fun h3 => ?_) e6 rfl
      · exact cp0 hc _ _ _ hsm hT
      · refine w_le 2 rule (fun h4 => ?_) (fun h4 => by omega) rfl hx2
        exact cp0 hc _ _ _ hsm hT
    have second : ∀ (hc : St) (z7 z8 : Int32) (L9 : Option Value), Sm [] [96] h hc → (∀ i, i < ((ol o n).filter B).length → hc.2 96 i = iI (fl ((ol o n).filter B) i)) → z7 = iI (((ol o n).filter B).length : Nat) → z8 = iI (0 + 1 : Nat) → SR y_M_takeTurn 14 [some (.ref 90), some (.ref 95), some (.int x1), some (.int x2), some (.int x3), some (.int x4), some (.int z6), some (.int z7), some (.int z8), L9] [] hc Q := by
      intro hc z7 z8 L9 hsm hmv e7 e8
      refine w_loop IS_ok [28] ok_M_takeTurn ?_
      refine w_le 2 1 (fun h4 => by omega) (fun _ => ?_) rfl e8
      refine w_eq rule 2 (fun _ => ?_) (fun h4 => absurd hr2 h4) hx2 rfl
      refine part ((ol o n).filter B) (fun p => !B p) 1 (by omega) (fun p hp => by cases B p <;> simp) (by omega) (fun hc z7 z8 L9 a1 a2 a3 a4 => fin hc z7 z8 L9 a1 a2 a4) (n + 1) 0 (by omega) (by omega) hc _ _ _ hsm ?_ ?_ e8 rfl
      · simpa [ol] using hmv
      · simpa [ol] using e7
    refine w_loop IS_ok [28] ok_M_takeTurn ?_
    refine w_le 2 0 (fun h4 => by omega) (fun _ => ?_) rfl rfl
    refine w_eq rule 2 (fun _ => ?_) (fun h4 => absurd hr2 h4) hx2 rfl
    exact part [] B 0 (by omega) (fun p hp => by cases B p <;> simp) (by simp; omega) (fun hc z7 z8 L9 a1 a2 a3 a4 => second hc z7 z8 L9 a1 (by simpa using a2) (by simpa using a3) a4) (n + 1) 0 (by omega) (by omega) h _ _ _ Sm.rf (fun i hi => by simp [ol] at hi) rfl rfl rfl
  · refine w_loop IS_ok [84] ok_M_takeTurn ?_
    refine w_le 2 0 (fun h4 => by omega) (fun _ => ?_) rfl rfl
    refine w_eq rule 2 (fun h4 => absurd h4 hr2) (fun _ => ?_) hx2 rfl
    exact rot (by omega) (n + 1) 0 (by omega) (by omega) h _ _ _ Sm.rf (fun i hi => by omega) rfl
