/-! the class: an act, the brackets -/
theorem c_Read_numbersOf {x : Int32} {h : St} {Q : Option Value → St → Prop} (c : Nat) (hc : c ≤ 255) (hQ : Q (some (.int (iI (if nArg c = 99 then -1 else (nArg c : Int))))) h) (hx : x = iI (c : Nat)) : SC y_Read_numbersOf [.int x] h Q := by
  refine w_call IS_ok [] ok_Read_numbersOf rfl rfl ?_
  have no : c ≠ 102 ∧ c ≠ 109 ∧ c ≠ 116 ∧ c ≠ 117 ∧ c ≠ 100 ∧ c ≠ 108 → Q (some (.int (-1))) h := by
    intro g
    have : nArg c = 99 := by unfold nArg; rw [if_neg g.1, if_neg g.2.1, if_neg g.2.2.1, if_neg (by omega)]
    rw [if_pos this] at hQ
    exact hQ
  refine w_eq c 100 (fun g => ?_) (fun g100 => ?_) hx rfl
  · have : c = 100 := by omega
    subst this
    exact hQ
  refine w_eq c 101 (fun g => no (by omega)) (fun g101 => ?_) hx rfl
  refine w_eq c 102 (fun g => ?_) (fun g102 => ?_) hx rfl
  · have : c = 102 := by omega
    subst this
    exact hQ
  refine w_eq c 103 (fun g => no (by omega)) (fun g103 => ?_) hx rfl
  refine w_eq c 104 (fun g => no (by omega)) (fun g104 => ?_) hx rfl
  refine w_eq c 105 (fun g => no (by omega)) (fun g105 => ?_) hx rfl
  refine w_eq c 106 (fun g => no (by omega)) (fun g106 => ?_) hx rfl
  refine w_eq c 107 (fun g => no (by omega)) (fun g107 => ?_) hx rfl
  refine w_eq c 108 (fun g => ?_) (fun g108 => ?_) hx rfl
  · have : c = 108 := by omega
    subst this
    exact hQ
  refine w_eq c 109 (fun g => ?_) (fun g109 => ?_) hx rfl
  · have : c = 109 := by omega
    subst this
    exact hQ
  refine w_eq c 110 (fun g => no (by omega)) (fun g110 => ?_) hx rfl
  refine w_eq c 111 (fun g => no (by omega)) (fun g111 => ?_) hx rfl
  refine w_eq c 112 (fun g => no (by omega)) (fun g112 => ?_) hx rfl
  refine w_eq c 113 (fun g => no (by omega)) (fun g113 => ?_) hx rfl
  refine w_eq c 114 (fun g => no (by omega)) (fun g114 => ?_) hx rfl
  refine w_eq c 115 (fun g => no (by omega)) (fun g115 => ?_) hx rfl
  refine w_eq c 116 (fun g => ?_) (fun g116 => ?_) hx rfl
  · have : c = 116 := by omega
    subst this
    exact hQ
  refine w_eq c 117 (fun g => ?_) (fun g117 => ?_) hx rfl
  · have : c = 117 := by omega
    subst this
    exact hQ
  exact no (by omega)
def CdC (T : Nat → Nat) (h : St) (j : Nat) : Cod → Prop
  | .inl e => h.2 81 (j * 6 + 0) = iI (T e.1 : Nat) ∧ h.2 81 (j * 6 + 1) = iI (e.1 : Nat) ∧ h.2 81 (j * 6 + 2) = iI (e.2.1 : Nat) ∧ ∀ k, k < nArg (T e.1) → h.2 81 (j * 6 + (3 + k)) = iI (e.2.2 k)
  | .inr (.inl t) => h.2 81 (j * 6 + 0) = 40 ∧ h.2 81 (j * 6 + 3) = iI (t : Nat)
  | .inr (.inr o) => h.2 81 (j * 6 + 0) = 41 ∧ h.2 81 (j * 6 + 3) = iI (o : Nat)
def KpC (c : Nat) (h h' : St) : Prop := ∀ i, i < c * 6 → h'.2 81 i = h.2 81 i
theorem KpC.rf {c : Nat} {h : St} : KpC c h h := fun _ _ => rfl
theorem KpC.t {c : Nat} {h h1 h2 : St} (a : KpC c h h1) (b : KpC c h1 h2) : KpC c h h2 := fun i hi => (b i hi).trans (a i hi)
theorem CdC.kp {T : Nat → Nat} {h h' : St} {c j : Nat} (k : KpC c h h') (hj : j < c) {x : Cod} (e3 : ∀ e, x = cAct e → nArg (T e.1) ≤ 3) (a : CdC T h j x) : CdC T h' j x := by
  unfold CdC at a ⊢
  split
  · next e =>
    have := e3 e rfl
    exact ⟨by rw [k _ (by omega)]; exact a.1, by rw [k _ (by omega)]; exact a.2.1, by rw [k _ (by omega)]; exact a.2.2.1, fun q hq => by rw [k _ (by omega)]; exact a.2.2.2 q hq⟩
  · exact ⟨by rw [k _ (by omega)]; exact a.1, by rw [k _ (by omega)]; exact a.2⟩
  · exact ⟨by rw [k _ (by omega)]; exact a.1, by rw [k _ (by omega)]; exact a.2⟩
theorem RS.stp {N : Nat} {T : Nat → Nat} {i d c c' : Nat} {fl : Int} {h h' : St} (r : RS N T i d c fl h) (a : Sm [(79, 1)] [81] h h') (e : h'.1 79 1 = iI (c' : Nat)) : RS N T i d c' fl h' := ⟨r.1.sm a (by decide) (by decide), by rw [a.1 _ _ (by decide)]; exact r.2.1, by rw [a.1 _ _ (by decide)]; exact r.2.2.1, e, by rw [a.1 _ _ (by decide)]; exact r.2.2.2.2⟩
theorem c_Steps_add {x1 x2 x3 : Int32} {h : St} {Q : Option Value → St → Prop} (c : Nat) (hc : c < 100) (h79 : h.1 79 1 = iI (c : Nat)) (hQ : ∀ h', Sm [(79, 1)] [81] h h' → h'.1 79 1 = iI (c + 1 : Nat) → h'.2 81 (c * 6 + 0) = x1 → h'.2 81 (c * 6 + 1) = x2 → h'.2 81 (c * 6 + 2) = x3 → KpC c h h' → Q (some (.int (iI (c : Nat)))) h') : SC y_Steps_add [.ref 79, .int x1, .int x2, .int x3] h Q := by
  refine w_call IS_ok [] ok_Steps_add rfl rfl ?_
  refine c_Cells_set3 CA_80 c 0 (by omega) ?_ h79 rfl
  refine c_Cells_set3 CA_80 c 1 (by omega) ?_ h79 rfl
  refine c_Cells_set3 CA_80 c 2 (by omega) ?_ h79 rfl
  have := hQ (wa (wa (wa (pg h 79 1 (h.1 79 1 + 1)) 81 (c * 6 + 0) x1) 81 (c * 6 + 1) x2) 81 (c * 6 + 2) x3) (((((Sm.pg _ (by decide)).t (Sm.wa _ _ (by decide))).t (Sm.wa _ _ (by decide))).t (Sm.wa _ _ (by decide)))) ?_ ?_ ?_ ?_ (fun i hi => ?_)
  · rw [← h79] at this
    exact this
  · exact iI_1 h79
  · rw [wa_n _ _ _ _ (by omega), wa_n _ _ _ _ (by omega), wa_s]
  · rw [wa_n _ _ _ _ (by omega), wa_s]
  · rw [wa_s]
  · rw [wa_n _ _ _ _ (by omega), wa_n _ _ _ _ (by omega), wa_n _ _ _ _ (by omega)]
    rfl
theorem wa_row (h : St) (a j : Nat) (x : Int32) : (wa h a j x).2 a = u1 (h.2 a) j x := u1_s _ _ _
theorem smq0 {h h' : St} (a : Sm [(75, 3), (75, 5)] [] h h') : SmQ h h' := a.mo (by decide) (by decide)
set_option maxHeartbeats 4000000 in
theorem c_Read_readAct {N : Nat} {T : Nat → Nat} {i d c : Nat} {x : Int32} {h : St} {Q : Option Value → St → Prop} (hB : TxB N T) (r : RS N T i d c (-1) h) (hi : i < N) (hc : c < 100)
    (hQF : ∀ (f i' c' : Nat) h', (f < 1000 ∧ i' < 1000) → ((nArg (T i) = 99 ∧ f = i) ∨ (nArg (T i) ≠ 99 ∧ rdA (chr N T) (T i) (nArg (T i)) 0 (i + 1) (fun _ => 0) = .inl f)) → SmQ h h' → RS N T i' d c' f h' → Q none h')
    (hQ1 : ∀ p a h', nArg (T i) ≠ 99 → rdA (chr N T) (T i) (nArg (T i)) 0 (i + 1) (fun _ => 0) = .inr (p, a) → SmQ h h' → RS N T p d (c + 1) (-1) h' → CdC T h' c (cAct (i, d + 1, a)) → KpC c h h' → h'.2 83 = h.2 83 → Q none h') (hx : x = iI (T i : Nat)) : SC y_Read_readAct [.ref 75, .int x] h Q := by
  refine w_call IS_ok [50] ok_Read_readAct rfl rfl ?_
  have hn100 := hB.1
  have hTi := hB.2 i hi
  refine c_Read_numbersOf (T i) hTi.2 ?_ hx
  have hnb := nArg_b (T i)
  by_cases g99 : nArg (T i) = 99
  · rw [if_pos g99]
    refine w_le 0 (-1) (fun g => by omega) (fun g => ?_) rfl rfl
    refine c_Read_fail r (by omega) i (fun h' s' r' => ?_) r.2.1
    exact hQF i i c h' ⟨by omega, by omega⟩ (Or.inl ⟨g99, rfl⟩) (s'.mo (by decide) (by decide)) r'
  rw [if_neg g99]
  have hm3 : nArg (T i) ≤ 3 := by omega
  refine w_le 0 (nArg (T i) : Int) (fun g => ?_) (fun g => by omega) rfl rfl
  refine c_Steps_add c hc r.2.2.2.1 (fun h1 s1 e79 q0 q1 q2 kp1 => ?_)
  have r1 : RS N T i d (c + 1) (-1) h1 := r.stp s1 e79
  have hQF2 : ∀ (f i' c' : Nat) h', (f < 1000 ∧ i' < 1000) → rdA (chr N T) (T i) (nArg (T i)) 0 (i + 1) (fun _ => 0) = .inl f → SmQ h h' → RS N T i' d c' f h' → Q none h' := fun f i' c' h' hb e => hQF f i' c' h' hb (Or.inr ⟨g99, e⟩)
  have hQ2 := fun p a h' => hQ1 p a h' g99
  generalize hm : nArg (T i) = m at *
  generalize hres : rdA (chr N T) (T i) m 0 (i + 1) (fun _ => 0) = RES at *
  -- a number
  have num : ∀ (fl : Int) (p k : Nat) (hc' : St) (z4 : Int32) (L5 : Option Value), -1 ≤ fl → fl < 1000 → p < 400 → k < 3 → RS N T p d (c + 1) fl hc' → z4 = iI (k : Nat) →
      (∀ (hd : St) (q : Nat) (v : Int) (w4 : Int32) (L5' : Option Value), q = p + (if T i = 109 ∧ 0 < k ∧ chr N T p = 45 then 1 else 0) → v = (if T i = 109 ∧ 0 < k ∧ chr N T p = 45 then -(nv (chr N T) q : Int) else (nv (chr N T) q : Int)) → RS N T (q + nd (chr N T) q) d (c + 1) (if fl < 0 then (if nd (chr N T) q = 0 ∨ isDb (chr N T (q + nd (chr N T) q)) = true then ((q + nd (chr N T) q : Nat) : Int) else fl) else fl) hd → SmQ hc' hd → hd.2 81 = u1 (hc'.2 81) (c * 6 + (3 + k)) (iI v) → hd.2 83 = hc'.2 83 → w4 = iI (k + 1 : Nat) → SR y_Read_readAct 50 [some (.ref 75), some (.int x), some (.int (iI (m : Int))), some (.int (iI (c : Nat))), some (.int w4), L5'] [] hd Q) →
      SR y_Read_readAct 67 [some (.ref 75), some (.int x), some (.int (iI (m : Int))), some (.int (iI (c : Nat))), some (.int z4), L5] [] hc' Q := by
    intro fl p k hc' z4 L5 hf1 hf2 hp hk hr e4 kk
    have at83 : ∀ (b : Nat) (zb : Int32), b ≤ 1 → (b = 1 ↔ T i = 109 ∧ 0 < k) → zb = iI (b : Nat) → SR y_Read_readAct 83 [some (.ref 75), some (.int x), some (.int (iI (m : Int))), some (.int (iI (c : Nat))), some (.int z4), L5] [.int zb] hc' Q := by
      intro b zb hb hbi ezb
      have ecn : (b = 1 ∧ chr N T p = 45) ↔ (T i = 109 ∧ 0 < k ∧ chr N T p = 45) := by rw [hbi]; exact ⟨fun ⟨⟨a, b⟩, c⟩ => ⟨a, b, c⟩, fun ⟨a, b, c⟩ => ⟨⟨a, b⟩, c⟩⟩
      refine w_loop IS_ok [50] ok_Read_readAct ?_
      refine c_Read_readNumber hB hr ⟨hf1, hf2⟩ (by omega) b hb _ rfl (fun h' s' r' => ?_) ezb
      refine c_Cells_set3 CA_80 c (3 + k) (by omega) ?_ rfl ?_
      · have s2 : Sm [] [81] h' (wa h' 81 (c * 6 + (3 + k)) (iI (if b = 1 ∧ chr N T p = 45 then -(nv (chr N T) (p + (if b = 1 ∧ chr N T p = 45 then 1 else 0)) : Int) else nv (chr N T) (p + (if b = 1 ∧ chr N T p = 45 then 1 else 0))))) := Sm.wa _ _ (by decide)
        refine kk _ (p + (if b = 1 ∧ chr N T p = 45 then 1 else 0)) (if b = 1 ∧ chr N T p = 45 then -(nv (chr N T) (p + (if b = 1 ∧ chr N T p = 45 then 1 else 0)) : Int) else nv (chr N T) (p + (if b = 1 ∧ chr N T p = 45 then 1 else 0))) _ _ ?_ ?_ (r'.row s2 (by decide)) ((s'.mo (by decide) (by decide)).t (s2.mo (by decide) (by decide))) ?_ ?_ (iI_1 e4)
        · simp only [ecn]
        · simp only [ecn]
        · rw [wa_row, s'.2 81 (by decide)]
        · rw [s2.2 _ (by decide), s'.2 _ (by decide)]
      · rw [e4]
        exact (iI_add 3 k).trans (congrArg iI (by omega))
    refine w_loop IS_ok [83] ok_Read_readAct ?_
    refine w_eq (T i : Nat) 109 (fun g2 => ?_) (fun g2 => ?_) hx rfl
    · refine w_le k 0 (fun g3 => ?_) (fun g3 => ?_) e4 rfl
      · exact at83 0 _ (by omega) ⟨fun z => by omega, fun z => by omega⟩ rfl
      · exact at83 1 _ (by omega) ⟨fun _ => ⟨by omega, by omega⟩, fun _ => rfl⟩ rfl
    · exact at83 0 _ (by omega) ⟨fun z => by omega, fun z => by omega⟩ rfl
  -- behind a fault
  have dead : ∀ (n k p f : Nat) (hc' : St) (z4 : Int32) (L5 : Option Value), RES = .inl f → m ≤ k + n → k ≤ m → p ≤ i + 1 + 6 * k → f < 1000 → SmQ h hc' → RS N T p d (c + 1) f hc' → z4 = iI (k : Nat) → SR y_Read_readAct 50 [some (.ref 75), some (.int x), some (.int (iI (m : Int))), some (.int (iI (c : Nat))), some (.int z4), L5] [] hc' Q := by
    have fin : ∀ (k p f : Nat) (hc' : St) (z4 : Int32) (L5 : Option Value), RES = .inl f → p ≤ i + 1 + 6 * 3 → f < 1000 → SmQ h hc' → RS N T p d (c + 1) f hc' → SR y_Read_readAct 112 [some (.ref 75), some (.int x), some (.int (iI (m : Int))), some (.int (iI (c : Nat))), some (.int z4), L5] [] hc' Q := by
      intro k p f hc' z4 L5 hre hp hf hs hr
      refine w_loop IS_ok [] ok_Read_readAct ?_
      refine c_Read_expect hB hr (by omega) (by omega) 59 (by omega) (fun _ h' s' r' => ?_) (fun _ h' s' r' => ?_) rfl
      · exact hQF2 f _ _ h' ⟨by omega, by omega⟩ hre (hs.t (smq0 s')) r'
      · rw [if_neg (by omega)] at r'
        exact hQF2 f _ _ h' ⟨by omega, by omega⟩ hre (hs.t (smq0 s')) r'
    intro n
    induction n with
    | zero =>
      intro k p f hc' z4 L5 hre hm1 hkm hp hf hs hr e4
      refine w_loop IS_ok [112] ok_Read_readAct ?_
      exact w_le m k (fun _ => fin k p f hc' _ _ hre (by omega) hf hs hr) (fun _ => by omega) rfl e4
    | succ n ih =>
      intro k p f hc' z4 L5 hre hm1 hkm hp hf hs hr e4
      have nx : ∀ (p2 : Nat) (hc2 : St), p2 ≤ p + 1 → SmQ h hc2 → RS N T p2 d (c + 1) f hc2 → k < m → SR y_Read_readAct 67 [some (.ref 75), some (.int x), some (.int (iI (m : Int))), some (.int (iI (c : Nat))), some (.int z4), L5] [] hc2 Q := by
        intro p2 hc2 hp2 hs2 hr2 hkm2
        refine num f p2 k hc2 z4 L5 (by omega) (by omega) (by omega) (by omega) hr2 e4 (fun hd q v w4 L5' hq hv hrd hsd _ _ e4' => ?_)
        rw [if_neg (by omega)] at hrd
        have hq1 : q ≤ p2 + 1 := by rw [hq]; split <;> omega
        have hnd := nd_b (chr N T) q
        exact ih (k + 1) _ f hd _ _ hre (by omega) (by omega) (by omega) hf (hs2.t hsd) hrd e4'
      refine w_loop IS_ok [67, 112] ok_Read_readAct ?_
      refine w_le m k (fun _ => fin k p f hc' _ _ hre (by omega) hf hs hr) (fun g2 => ?_) rfl e4
      refine w_le k 0 (fun g3 => nx p hc' (by omega) hs hr (by omega)) (fun g3 => ?_) e4 rfl
      refine c_Read_expect hB hr (by omega) (by omega) 44 (by omega) (fun _ h' s' r' => ?_) (fun _ h' s' r' => ?_) rfl
      · exact nx (p + 1) h' (by omega) (hs.t (smq0 s')) r' (by omega)
      · rw [if_neg (by omega)] at r'
        exact nx p h' (by omega) (hs.t (smq0 s')) r' (by omega)
  -- in good order
  have al : ∀ (n k p : Nat) (a : Nat → Int) (hc' : St) (z4 : Int32) (L5 : Option Value), k + n = m → rdA (chr N T) (T i) n k p a = RES → p ≤ i + 1 + 6 * k → SmQ h hc' → RS N T p d (c + 1) (-1) hc' → KpC c h hc' → (hc'.2 81 (c * 6 + 0) = iI (T i : Nat) ∧ hc'.2 81 (c * 6 + 1) = iI (i : Nat) ∧ hc'.2 81 (c * 6 + 2) = iI (d + 1 : Nat)) → (∀ j, j < k → hc'.2 81 (c * 6 + (3 + j)) = iI (a j)) → hc'.2 83 = h.2 83 → z4 = iI (k : Nat) → SR y_Read_readAct 50 [some (.ref 75), some (.int x), some (.int (iI (m : Int))), some (.int (iI (c : Nat))), some (.int z4), L5] [] hc' Q := by
    intro n
    induction n with
    | zero =>
      intro k p a hc' z4 L5 hkm hre hp hs hr hkp hhd hnu h83 e4
      unfold rdA at hre
      refine w_loop IS_ok [] ok_Read_readAct ?_
      refine w_le m k (fun _ => ?_) (fun _ => by omega) rfl e4
      refine c_Read_expect hB hr (by omega) (by omega) 59 (by omega) (fun g2 h' s' r' => ?_) (fun g2 h' s' r' => ?_) rfl
      · rw [if_pos g2] at hre
        refine hQ2 (p + 1) a h' hre.symm (hs.t (smq0 s')) r' ⟨?_, ?_, ?_, fun j hj => ?_⟩ (fun j hj => ?_) ?_
        · rw [s'.2 _ (by decide)]; exact hhd.1
        · rw [s'.2 _ (by decide)]; exact hhd.2.1
        · rw [s'.2 _ (by decide)]; exact hhd.2.2
        · rw [s'.2 _ (by decide)]; exact hnu j (by have hj2 : j < nArg (T i) := hj; omega)
        · rw [s'.2 _ (by decide)]; exact hkp j hj
        · rw [s'.2 _ (by decide)]; exact h83
      · rw [if_neg g2] at hre
        rw [if_pos (by omega)] at r'
        exact hQF2 p _ _ h' ⟨by omega, by omega⟩ hre.symm (hs.t (smq0 s')) r'
    | succ n ih =>
      intro k p a hc' z4 L5 hkm hre hp hs hr hkp hhd hnu h83 e4
      have nx : ∀ (p2 : Nat) (hc2 : St), p2 = (if 0 < k then p + 1 else p) → ¬ (0 < k ∧ chr N T p ≠ 44) → SmQ h hc2 → RS N T p2 d (c + 1) (-1) hc2 → hc2.2 = hc'.2 → SR y_Read_readAct 67 [some (.ref 75), some (.int x), some (.int (iI (m : Int))), some (.int (iI (c : Nat))), some (.int z4), L5] [] hc2 Q := by
        intro p2 hc2 hp2 hsep hs2 hr2 hrow
        have hpp : p2 ≤ p + 1 := by rw [hp2]; split <;> omega
        refine num (-1) p2 k hc2 z4 L5 (by omega) (by omega) (by omega) (by omega) hr2 e4 (fun hd q v w4 L5' hq hv hrd hsd h81 h83' e4' => ?_)
        rw [if_pos (by omega)] at hrd
        have hq1 : q ≤ p2 + 1 := by rw [hq]; split <;> omega
        have hnd := nd_b (chr N T) q
        have hre2 := hre
        unfold rdA at hre2
        rw [if_neg hsep, ← hp2, ← hq, ← hv] at hre2
        by_cases z0 : nd (chr N T) q = 0
        · rw [if_pos z0] at hre2
          rw [if_pos (Or.inl z0), z0, Nat.add_zero] at hrd
          exact dead m (k + 1) q q hd _ _ hre2.symm (by omega) (by omega) (by omega) (by omega) (hs2.t hsd) hrd e4'
        · rw [if_neg z0] at hre2
          by_cases z1 : isDb (chr N T (q + nd (chr N T) q)) = true
          · rw [if_pos (Or.inr z1)] at hrd
            have hd2 : 48 ≤ chr N T (q + nd (chr N T) q) ∧ chr N T (q + nd (chr N T) q) ≤ 57 := by simpa only [isDb, decide_eq_true_eq] using z1
            have hre3 : RES = .inl (q + nd (chr N T) q) := by
              rw [← hre2]
              cases n with
              | zero => unfold rdA; rw [if_neg (by omega)]
              | succ n => unfold rdA; rw [if_pos ⟨by omega, by omega⟩]
            exact dead m (k + 1) _ _ hd _ _ hre3 (by omega) (by omega) (by omega) (by omega) (hs2.t hsd) hrd e4'
          · rw [if_neg (by rintro (z | z); exact z0 z; exact z1 z)] at hrd
            refine ih (k + 1) _ _ hd _ _ (by omega) hre2 (by omega) (hs2.t hsd) hrd (fun j hj => ?_) ⟨?_, ?_, ?_⟩ (fun j hj => ?_) (by rw [h83', hrow]; exact h83) e4'
            · rw [h81, u1_n _ _ (by omega), hrow]; exact hkp j hj
            · rw [h81, u1_n _ _ (by omega), hrow]; exact hhd.1
            · rw [h81, u1_n _ _ (by omega), hrow]; exact hhd.2.1
            · rw [h81, u1_n _ _ (by omega), hrow]; exact hhd.2.2
            · by_cases z2 : j = k
              · subst z2; rw [h81, u1_s, u1_s]
              · rw [h81, u1_n _ _ (by omega), u1_n _ _ z2, hrow]; exact hnu j (by omega)
      refine w_loop IS_ok [67, 112] ok_Read_readAct ?_
      refine w_le m k (fun _ => by omega) (fun g2 => ?_) rfl e4
      refine w_le k 0 (fun g3 => nx p hc' (by rw [if_neg (by omega)]) (by omega) hs hr rfl) (fun g3 => ?_) e4 rfl
      refine c_Read_expect hB hr (by omega) (by omega) 44 (by omega) (fun g4 h' s' r' => ?_) (fun g4 h' s' r' => ?_) rfl
      · exact nx (p + 1) h' (by rw [if_pos (by omega)]) (fun z => z.2 g4) (hs.t (smq0 s')) r' (funext fun q => s'.2 q (by simp))
      · rw [if_pos (by omega)] at r'
        have hre3 : RES = .inl p := by rw [← hre]; unfold rdA; rw [if_pos ⟨by omega, g4⟩]
        refine num p p k h' z4 L5 (by omega) (by omega) (by omega) (by omega) r' e4 (fun hd q v w4 L5' hq hv hrd hsd _ _ e4' => ?_)
        rw [if_neg (by omega)] at hrd
        have hq1 : q ≤ p + 1 := by rw [hq]; split <;> omega
        have hnd := nd_b (chr N T) q
        exact dead m (k + 1) _ p hd _ _ hre3 (by omega) (by omega) (by omega) (by omega) ((hs.t (smq0 s')).t hsd) hrd e4'
  have s1' : SmQ h h1 := s1.mo (by decide) (by decide)
  refine al m 0 (i + 1) (fun _ => 0) (pg h1 75 3 (h1.1 75 3 + 1)) _ _ (by omega) hres (by omega) (s1'.t (Sm.pg _ (by decide))) (r1.plc (iI_1 r1.2.1)) kp1 ⟨q0.trans hx, q1.trans r.2.1, q2.trans (iI_1 r.2.2.1)⟩ (fun j hj => by omega) (s1.2 _ (by decide)) rfl
