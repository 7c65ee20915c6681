/-! the class: numbers in a row, of which no index is out of range -/
theorem w_m {x : Option Value} {K : Value → Prop} (v : Value) : x = some v → K v → (match x with
  | some v => K v
  | none => False) := fun hx k => by subst hx; exact k
theorem w_mn {x : Option Nat} {K : Nat → Prop} {R : Prop} (v : Nat) : x = some v → K v → (match x with
  | some v => K v
  | none => R) := fun hx k => by subst hx; exact k
theorem w_mm {x y : Option Nat} {K : Nat → Nat → Prop} (v u : Nat) : x = some v → y = some u → K v u → (match x, y with
  | some v, some u => K v u
  | _, _ => False) := fun hx hy k => by subst hx; subst hy; exact k
set_option maxHeartbeats 4000000 in
/-- the same for a method whose class has no plain name, but no row of a native for her -/
theorem e_call_ofF {η : Type} {I : e_IT η} (hI : e_IOk I) {y n : Nat} (hM : OkM y) (hy : plainFor (mNm y) = true) {as : List Value} {h : η} {Q : Option Value → η → Prop} (hlen : Nat.ble (e_args as).length (mML y) = true) (hwp : e_wp I y Q n 0 (e_L0 as (mML y)) [] ((mRm y).cells, (mRm y).slots) h) (hyl : Nat.beq y y_L_law = false := by rfl) : e_CallI I y as h Q := by
  intro l D b cI cS H0
  refine MetFree.of_bodySF (code := mBy y) (maxLocals := mML y) (ret := mRet y) hy (fun args s m hp hn => ?_) (fun p e s m args below meth c s₁ B hml hv _ => ?_)
  · obtain ⟨meth, c, h1, h2, h3, h4, h5, h6, -, -⟩ := Cond.code_spec hn (atoms_spec (ws := mWs y) hp _ List.mem_cons_self)
    exact ⟨meth, c, h1, h2, h3, h4, h5, h6⟩
  have hh0 : s₁.heap = s.heap := by rw [B.state]; rfl
  have key : W p l e (mRm y) s m args below meth c s.heap [] 0 0 (MQ below (e_Qc D b cI cS H0 (fun r σ => ∃ h', σ = I.1 h' ∧ Q r h')) args s (mRm y).cells (mRm y).slots (fun q => b ≤ q)) (entryFrame m args (mML y)) := ?_
  · obtain ⟨t, a1, o, b1, b2, b3⟩ := key s₁ hh0 (Stand.of_body B)
    exact ⟨t, o, a1, b1, b2, ⟨b3.1, b3.2⟩⟩
  obtain ⟨rfl, hS, hK⟩ := hv
  have hx := B.exec
  have hb := B.bytes
  have hr := B.returns
  have hlocks := B.notSynchronized
  have hts := atoms_spec (ws := mWs y) B.pre
  have hret : e_Ret p l e (mRm y) s m (as.map (e_v b)).toArray below meth c D b cI cS H0 (MQ below (e_Qc D b cI cS H0 (fun r σ => ∃ h', σ = I.1 h' ∧ Q r h')) (as.map (e_v b)).toArray s (mRm y).cells (mRm y).slots (fun q => b ≤ q)) y (fun r σ => ∃ h', σ = I.1 h' ∧ Q r h') := by
    intro r σ H locs cells slots pc ls hQ hS' hlo hc hs hdg hok
    refine W.widen hc hs ?_
    revert hok
    cases r with
    | none =>
      cases hm : mRet y with
      | none => intro _; exact W.vret hx hb (hr.trans hm) (fun t ht hW => ⟨none, σ, rfl, hQ, by rw [ht]; exact hS'⟩) hlo hdg
      | some t => intro z; cases t <;> exact z.elim
    | some v =>
      cases hm : mRet y with
      | none => intro z; exact z.elim
      | some t =>
        intro z
        cases t <;> cases v <;> first
          | exact z.elim
          | exact W.iret hx hb (hr.trans hm) (fun t ht hW => ⟨some _, σ, rfl, hQ, by rw [ht]; exact hS'⟩) hlo hdg
          | exact W.lret hx hb (hr.trans hm) (fun t ht hW => ⟨some _, σ, rfl, hQ, by rw [ht]; exact hS'⟩) hlo hdg
          | exact W.zret hx hb (hr.trans hm) (by rcases z with rfl | rfl <;> rfl) (fun t ht hW => ⟨some _, σ, rfl, hQ, by rw [ht]; exact hS'⟩) hlo hdg
          | exact W.aret hx hb (hr.trans hm) (Or.inl ⟨_, rfl⟩) (Or.inr ⟨_, rfl⟩) (fun t ht hW => ⟨some _, σ, rfl, hQ, by rw [ht]; exact hS'⟩) hlo hdg
  rw [lg_entry_eq]
  exact e_wp_ok hI hM n 0 _ [] _ h hwp p l e (mRm y) s m _ below meth c D b cI cS H0 _ ⟨hx, hb, hml, findClass_of_methodNamed B.named, fun w hw => hts w (List.mem_cons_of_mem _ hw), hK, Nat.le_refl _, Nat.le_refl _, (name_of_methodNamed B.named B.method).1, hret, fun z => absurd (hyl.symm.trans z) (by decide)⟩ s.heap [] 0 0 _ hS (fun q hq => (by cases hq)) (by simp) (by simp) (by rw [e_x0_no hyl]; exact e_LH_entry b (mML y) as (Nat.le_of_ble_eq_true hlen))
theorem w_callF {η : Type} {I : e_IT η} (hI : e_IOk I) {y : Nat} (stop : List Nat) (hM : OkM y) (hy : plainFor (mNm y) = true) {as : List Value} {h : η} {Q : Option Value → η → Prop} (hlen : Nat.ble (e_args as).length (mML y) = true) (hwp : e_wq I y stop Q 400 0 (e_L0 as (mML y)) [] ((mRm y).cells, (mRm y).slots) h) (hyl : Nat.beq y y_L_law = false := by rfl) : e_CallI I y as h Q :=
  e_call_ofF hI hM (n := 0) hy hlen (e_wq_ok hI hM 400 0 _ [] _ h hwp) hyl
theorem pf_98 : plainFor (mNm 98) = true := by decide +kernel
theorem pf_99 : plainFor (mNm 99) = true := by decide +kernel
/-- o is a Cells with the row a of n places, w wide -/
def CA (o a n w : Nat) : Prop := (∀ h, s_len h a = some n) ∧ (∀ h, s_get h o 0 0 = some (.ref a)) ∧ (∀ h, s_get h o 0 1 = some (.int (iI w))) ∧ n < 1000
theorem c_J_max {x y : Int32} {h : St} {Q : Option Value → St → Prop} (a b : Int) (hQ : Q (some (.int (iI (if b ≤ a then a else b)))) h) (hx : x = iI a) (hy : y = iI b) (ha : rg a := by omega) (hb : rg b := by omega) : SC y_J_max [.int x, .int y] h Q := by
  refine w_callF IS_ok [] ok_J_max pf_98 rfl ?_
  refine w_lt a b (fun g => ?_) (fun g => ?_) hx hy ha hb
  · rw [if_neg (by omega)] at hQ; rw [hy]; exact hQ
  · rw [if_pos (by omega)] at hQ; rw [hx]; exact hQ
theorem c_J_min {x y : Int32} {h : St} {Q : Option Value → St → Prop} (a b : Int) (hQ : Q (some (.int (iI (if a ≤ b then a else b)))) h) (hx : x = iI a) (hy : y = iI b) (ha : rg a := by omega) (hb : rg b := by omega) : SC y_J_min [.int x, .int y] h Q := by
  refine w_callF IS_ok [] ok_J_min pf_99 rfl ?_
  refine w_lt b a (fun g => ?_) (fun g => ?_) hy hx hb ha
  · rw [if_neg (by omega)] at hQ; rw [hy]; exact hQ
  · rw [if_pos (by omega)] at hQ; rw [hx]; exact hQ
theorem c_Cells_get1 {o a n w : Nat} {x : Int32} {h : St} {Q : Option Value → St → Prop} (hc : CA o a n w) (j : Nat) (hj : j < n) (hQ : Q (some (.int (h.2 a j))) h) (hx : x = iI j) : SC y_Cells_get1 [.ref o, .int x] h Q := by
  obtain ⟨hl, hg, hw, hn⟩ := hc
  refine w_call IS_ok [] ok_Cells_get1 rfl rfl ?_
  refine w_lt j 0 (fun _ => by omega) (fun _ => ?_) hx rfl
  refine w_m _ (hg h) ?_
  refine w_mn _ (hl h) ?_
  refine w_le n j (fun _ => by omega) (fun _ => ?_) rfl hx
  refine w_m _ (hg h) ?_
  refine w_mn _ (hl h) ?_
  refine w_ix j ?_ hx hj
  exact hQ
theorem rc_i {x y : Int32} {r c w : Nat} (hx : x = iI r) (hy : y = iI c) : x * iI w + y = iI ((r * w + c : Nat) : Int) := by
  rw [hx, hy]
  exact (congrArg (· + iI c) (iI_mul r w)).trans ((iI_add _ _).trans (congrArg iI (by omega)))
theorem c_Cells_get2 {o a n w : Nat} {x y : Int32} {h : St} {Q : Option Value → St → Prop} (hc : CA o a n w) (r c : Nat) (hj : r * w + c < n) (hQ : Q (some (.int (h.2 a (r * w + c)))) h) (hx : x = iI r) (hy : y = iI c) : SC y_Cells_get2 [.ref o, .int x, .int y] h Q := by
  obtain ⟨hl, hg, hw, hn⟩ := hc
  have he : x * iI w + y = iI ((r * w + c : Nat) : Int) := rc_i hx hy
  refine w_call IS_ok [] ok_Cells_get2 rfl rfl ?_
  refine w_m _ (hw h) ?_
  refine w_lt (r * w + c : Nat) 0 (fun _ => by omega) (fun _ => ?_) he rfl
  refine w_m _ (hg h) ?_
  refine w_mn _ (hl h) ?_
  refine w_le n (r * w + c : Nat) (fun _ => by omega) (fun _ => ?_) rfl he
  refine w_m _ (hg h) ?_
  refine w_mn _ (hl h) ?_
  refine w_ix (r * w + c) ?_ he hj
  exact hQ
theorem c_Cells_set2 {o a n w : Nat} {x v : Int32} {h : St} {Q : Option Value → St → Prop} (hc : CA o a n w) (j : Nat) (hj : j < n) (hQ : Q none (wa h a j v)) (hx : x = iI j) : SC y_Cells_set2 [.ref o, .int x, .int v] h Q := by
  obtain ⟨hl, hg, hw, hn⟩ := hc
  refine w_call IS_ok [] ok_Cells_set2 rfl rfl ?_
  refine w_lt j 0 (fun _ => by omega) (fun _ => ?_) hx rfl
  refine w_m _ (hg h) ?_
  refine w_mn _ (hl h) ?_
  refine w_le n j (fun _ => by omega) (fun _ => ?_) rfl hx
  refine w_m _ (hg h) ?_
  refine w_mn _ (hl h) ?_
  refine w_ix j ?_ hx hj
  exact hQ
theorem c_Cells_set3 {o a n w : Nat} {x y v : Int32} {h : St} {Q : Option Value → St → Prop} (hc : CA o a n w) (r c : Nat) (hj : r * w + c < n) (hQ : Q none (wa h a (r * w + c) v)) (hx : x = iI r) (hy : y = iI c) : SC y_Cells_set3 [.ref o, .int x, .int y, .int v] h Q := by
  obtain ⟨hl, hg, hw, hn⟩ := hc
  have he : x * iI w + y = iI ((r * w + c : Nat) : Int) := rc_i hx hy
  refine w_call IS_ok [] ok_Cells_set3 rfl rfl ?_
  refine w_m _ (hw h) ?_
  refine w_lt (r * w + c : Nat) 0 (fun _ => by omega) (fun _ => ?_) he rfl
  refine w_m _ (hg h) ?_
  refine w_mn _ (hl h) ?_
  refine w_le n (r * w + c : Nat) (fun _ => by omega) (fun _ => ?_) rfl he
  refine w_m _ (hg h) ?_
  refine w_mn _ (hl h) ?_
  refine w_ix (r * w + c) ?_ he hj
  exact hQ
theorem c_Cells_add {o a n w : Nat} {x v : Int32} {h : St} {Q : Option Value → St → Prop} (hc : CA o a n w) (j : Nat) (hj : j < n) (hQ : Q none (wa h a j (h.2 a j + v))) (hx : x = iI j) : SC y_Cells_add [.ref o, .int x, .int v] h Q := by
  obtain ⟨hl, hg, hw, hn⟩ := hc
  refine w_call IS_ok [] ok_Cells_add rfl rfl ?_
  refine w_lt j 0 (fun _ => by omega) (fun _ => ?_) hx rfl
  refine w_m _ (hg h) ?_
  refine w_mn _ (hl h) ?_
  refine w_le n j (fun _ => by omega) (fun _ => ?_) rfl hx
  refine w_m _ (hg h) ?_
  refine w_mn _ (hl h) ?_
  refine w_ix j ?_ hx hj
  refine w_mn _ (hl h) ?_
  refine w_ix j ?_ hx hj
  exact hQ
theorem c_Cells_fill {o a n w : Nat} {v : Int32} {h : St} {Q : Option Value → St → Prop} (hc : CA o a n w) (hQ : ∀ h', Sm [] [a] h h' → (∀ j, j < n → h'.2 a j = v) → Q none h') : SC y_Cells_fill [.ref o, .int v] h Q := by
  obtain ⟨hl, hg, hw, hn⟩ := hc
  refine w_call IS_ok [2] ok_Cells_fill rfl rfl ?_
  have loop : ∀ (m k : Nat) (hc : St) (z : Int32), n ≤ k + m → k ≤ n → Sm [] [a] h hc → (∀ j, j < k → hc.2 a j = v) → z = iI k → SR y_Cells_fill 2 [some (.ref o), some (.int v), some (.int z)] [] hc Q := by
    intro m
    induction m with
    | zero =>
      intro k hc z hm hk hs hv hz
      refine w_loop IS_ok [2] ok_Cells_fill ?_
      refine w_m _ (hg hc) ?_
      refine w_mn _ (hl hc) ?_
      exact w_le n k (fun _ => hQ hc hs (fun j hj => hv j (by omega))) (fun _ => by omega) rfl hz
    | succ m ih =>
      intro k hc z hm hk hs hv hz
      refine w_loop IS_ok [2] ok_Cells_fill ?_
      refine w_m _ (hg hc) ?_
      refine w_mn _ (hl hc) ?_
      refine w_le n k (fun _ => hQ hc hs (fun j hj => hv j (by omega))) (fun _ => ?_) rfl hz
      refine w_m _ (hg hc) ?_
      refine w_mn _ (hl hc) ?_
      refine w_ix k ?_ hz (by omega)
      refine ih (k + 1) (wa hc a k v) _ (by omega) (by omega) (hs.t (Sm.wa _ _ (by simp))) (fun j hj => ?_) (iI_1 hz)
      by_cases hjk : j = k
      · subst hjk; exact wa_s _ _ _ _
      · rw [wa_n _ _ _ _ hjk]; exact hv j (by omega)
  exact loop n 0 h _ (by omega) (by omega) Sm.rf (fun j hj => by omega) rfl
theorem c_Cells_copyFrom {o a n w o2 a2 w2 : Nat} {h : St} {Q : Option Value → St → Prop} (hc : CA o a n w) (hc2 : CA o2 a2 n w2) (hne : a ≠ a2) (hQ : ∀ h', Sm [] [a] h h' → (∀ j, j < n → h'.2 a j = h.2 a2 j) → Q none h') : SC y_Cells_copyFrom [.ref o, .ref o2] h Q := by
  obtain ⟨hl, hg, hw, hn⟩ := hc
  obtain ⟨hl2, hg2, hw2, -⟩ := hc2
  refine w_call IS_ok [] ok_Cells_copyFrom rfl rfl ?_
  refine w_m _ (hg2 h) ?_
  refine w_m _ (hg h) ?_
  refine w_m _ (hg2 h) ?_
  refine w_mn _ (hl2 h) ?_
  refine w_m _ (hg h) ?_
  refine w_mn _ (hl h) ?_
  refine c_J_min n n ?_ rfl rfl
  refine w_mm _ _ (hl h) (hl2 h) ?_
  refine ⟨n, by rw [if_pos (Int.le_refl _)]; rfl, Nat.le_refl _, Nat.le_refl _, rfl, rfl, hne, by decide, ?_⟩
  refine hQ (h.1, u1 h.2 a (e_cpy (h.2 a2) (h.2 a) n)) (Sm.wr _ (by simp)) (fun j hj => ?_)
  show u1 h.2 a (e_cpy (h.2 a2) (h.2 a) n) a j = _
  rw [u1_s]
  exact if_pos hj
