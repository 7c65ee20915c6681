/-! clashes -/
theorem divr {x y : Int32} {a b : Nat} (hx : x = iI a) (hy : y = iI b) (ha : a < 2 ^ 31) (hb : b < 2 ^ 31) (h0 : 0 < b) : x / y = iI ((a / b : Nat) : Int) := by
  rw [hx, hy, ← iI_nat, ← iI_nat, pk_div ha h0 hb]
  rfl
/-- there is a clash at a dot -/
def clq (S : Nat → Int) (hr x y : Int) : Prop := hr ≠ -109 ∧ setp S hr.toNat x y ∧ shw S hr y ∧ ∃ k, k < (S 1).toNat ∧ vis S y k ∧ S (6 + k) ≠ hr ∧ setp S (od S k) x y
def CngR (S : Nat → Int) (hr x y r : Int) : Prop := (clq S hr x y ∧ FirR S x y hr r ∧ r ≠ -109) ∨ (¬ clq S hr x y ∧ r = -109)
set_option maxHeartbeats 1000000 in
theorem c_M_clashing {S : Nat → Int} {x1 x2 x3 : Int32} {h : St} {Q : Option Value → St → Prop} (hS : MS S h) (hW : WF S) (hr x y : Int) (hhr : hr = -109 ∨ (0 ≤ hr ∧ hr < 20)) (hQ : ∀ r, CngR S hr x y r → Q (some (.int (iI r))) h) (h1 : x1 = iI hr) (h2 : x2 = iI x) (h3 : x3 = iI y) (hx : 0 ≤ x ∧ x < 1000) (hy : 0 ≤ y ∧ y < 1000) : SC y_M_clashing [.ref 90, .int x1, .int x2, .int x3] h Q := by
  refine w_call IS_ok [] ok_M_clashing rfl rfl ?_
  refine w_eq hr (-109) (fun g => hQ _ (Or.inr ⟨fun z => z.1 g, rfl⟩)) (fun g1 => ?_) h1 rfl
  have e1 : x1 = iI hr.toNat := by rw [h1]; exact congrArg iI (by omega)
  refine c_M_isSet hS hW hr.toNat x y ?_ e1 h2 h3 (by omega) hx hy
  refine w_b (fun g => hQ _ (Or.inr ⟨fun z => g z.2.1, rfl⟩)) (fun g2 => ?_)
  refine c_M_isShown hS hW hr y ?_ h1 h3 (by omega) hy
  refine w_c (fun g => hQ _ (Or.inr ⟨fun z => g z.2.2.1, rfl⟩)) (fun g3 => ?_)
  refine c_M_firstAt hS hW x y hr (fun r hf => hQ r ?_) h2 h3 h1 hx hy (by omega)
  by_cases hr0 : r = -109
  · refine Or.inr ⟨fun z => ?_, hr0⟩
    obtain ⟨k, k1, k2, k3, k4⟩ := z.2.2.2
    rcases hf with ⟨j, hj, -, -, -, -, e⟩ | ⟨-, hno⟩
    · have := hW.od hj; omega
    · exact hno k k1 k2 k3 k4
  · refine Or.inl ⟨⟨g1, g2, g3, ?_⟩, hf, hr0⟩
    rcases hf with ⟨k, k1, k2, k3, k4, -, -⟩ | ⟨e, -⟩
    · exact ⟨k, k1, k2, k3, k4⟩
    · exact absurd e hr0
noncomputable def clN (S : Nat → Int) (hr : Int) (n : Nat) : Nat := sm (fun p : Nat => cI (clq S hr ((p % 64 : Nat) : Int) ((p / 64 : Nat) : Int))) n
theorem clN_le (S : Nat → Int) (hr : Int) (n : Nat) : clN S hr n ≤ n := by
  have := sm_le (f := fun p : Nat => cI (clq S hr ((p % 64 : Nat) : Int) ((p / 64 : Nat) : Int))) (b := 1) (n := n) (fun i _ => cI_le _)
  unfold clN
  omega
/-- what clash answers -/
def ClaR (S : Nat → Int) (w r : Int) : Prop := (¬ (0 ≤ w ∧ w ≤ 3) ∧ r = -101) ∨ ((0 ≤ w ∧ w ≤ 3) ∧ ∃ hr, HerR S (S 1).toNat hr ∧ ((w = 0 ∧ r = clN S hr 3072) ∨ (w ≠ 0 ∧ r = -109 ∧ ∀ p : Nat, p < 3072 → ¬ clq S hr ((p % 64 : Nat) : Int) ((p / 64 : Nat) : Int)) ∨
  (w ≠ 0 ∧ ∃ p : Nat, p < 3072 ∧ clq S hr ((p % 64 : Nat) : Int) ((p / 64 : Nat) : Int) ∧ (∀ q : Nat, q < p → ¬ clq S hr ((q % 64 : Nat) : Int) ((q / 64 : Nat) : Int)) ∧ ((w = 1 ∧ r = ((p % 64 : Nat) : Int)) ∨ (w = 2 ∧ r = ((p / 64 : Nat) : Int)) ∨ (w = 3 ∧ FirR S ((p % 64 : Nat) : Int) ((p / 64 : Nat) : Int) hr r)))))
set_option maxHeartbeats 4000000 in
theorem c_M_clash {S : Nat → Int} {x1 : Int32} {h : St} {Q : Option Value → St → Prop} (hS : MS S h) (hW : WF S) (w : Int) (hQ : ∀ h' r, Sm [(90, 0)] [] h h' → ClaR S w r → Q (some (.int (iI r))) h') (h1 : x1 = iI w) (rw' : rg w) : SC y_M_clash [.ref 90, .int x1] h Q := by
  refine w_call IS_ok [27] ok_M_clash rfl rfl ?_
  have s0 : Sm [(90, 0)] [] h (pf h 0 0) := Sm.pf _ (by decide)
  have hM := hS.sm s0 (by decide)
  refine c_M_in w 0 3 ?_ h1 rfl rfl rw' (by omega) (by omega)
  refine w_b (fun g1 => hQ _ _ s0 (Or.inl ⟨g1, rfl⟩)) (fun g1 => ?_)
  refine c_M_hero hM hW (fun hr hhr => ?_)
  have hrb : hr = -109 ∨ (0 ≤ hr ∧ hr < 20) := by
    rcases hhr with ⟨-, e⟩ | ⟨k, hk, e, -⟩
    · exact Or.inl e
    · have := hW.od hk; exact Or.inr (by omega)
  have loop : ∀ (m p : Nat), 3073 ≤ p + m → p ≤ 3072 → ∀ (v z : Int32) (L5 : Option Value), v = iI (clN S hr p) → z = iI p → (w ≠ 0 → ∀ q : Nat, q < p → ¬ clq S hr ((q % 64 : Nat) : Int) ((q / 64 : Nat) : Int)) → SR y_M_clash 27 [some (.ref 90), some (.int x1), some (.int (iI hr)), some (.int v), some (.int z), L5] [] (pf h 0 0) Q := by
    intro m
    induction m with
    | zero => intro p q1 q2; omega
    | succ m ih =>
      intro p q1 q2 v z L5 hv hz hno
      refine w_loop IS_ok [27] ok_M_clash ?_
      refine w_le 3072 p (fun q3 => ?_) (fun q3 => ?_) rfl hz
      · have hp : p = 3072 := by omega
        subst hp
        refine w_eq w 0 (fun q4 => ?_) (fun q4 => ?_) h1 rfl
        · rw [hv]
          exact hQ _ _ s0 (Or.inr ⟨g1, hr, hhr, Or.inl ⟨q4, rfl⟩⟩)
        · exact hQ _ _ s0 (Or.inr ⟨g1, hr, hhr, Or.inr (Or.inl ⟨q4, rfl, hno q4⟩)⟩)
      · have em := modr hz (show (64 : Int32) = iI (64 : Nat) from rfl) (by omega) (by omega) (by omega)
        have ed := divr hz (show (64 : Int32) = iI (64 : Nat) from rfl) (by omega) (by omega) (by omega)
        refine ⟨by decide, ?_⟩
        refine ⟨by decide, ?_⟩
        refine c_M_clashing hM hW hr ((p % 64 : Nat) : Int) ((p / 64 : Nat) : Int) hrb (fun r hcr => ?_) rfl em ed (by omega) (by omega)
        have hrr : r = -109 ∨ (0 ≤ r ∧ r < 20) := by
          rcases hcr with ⟨-, hf, -⟩ | ⟨-, e⟩
          · have := FirR_b hW hf; omega
          · exact Or.inl e
        refine w_eq r (-109) (fun q4 => ?_) (fun q4 => ?_) rfl rfl
        · have hn : ¬ clq S hr ((p % 64 : Nat) : Int) ((p / 64 : Nat) : Int) := by
            rcases hcr with ⟨-, -, hf⟩ | ⟨hn, -⟩
            · exact absurd q4 hf
            · exact hn
          refine ih (p + 1) (by omega) (by omega) _ _ _ ?_ (iI_1 hz) (fun hw0 q hq => ?_)
          · rw [hv]
            exact congrArg iI (by simp only [clN, sm]; rw [cI_f hn]; omega)
          · by_cases hqp : q = p
            · rw [hqp]; exact hn
            · exact hno hw0 q (by omega)
        · obtain ⟨hc, hf⟩ : clq S hr ((p % 64 : Nat) : Int) ((p / 64 : Nat) : Int) ∧ FirR S ((p % 64 : Nat) : Int) ((p / 64 : Nat) : Int) hr r := by
            rcases hcr with ⟨a, b, -⟩ | ⟨-, e⟩
            · exact ⟨a, b⟩
            · exact absurd e q4
          refine w_le w 0 (fun q5 => ?_) (fun q5 => ?_) h1 rfl
          · refine ih (p + 1) (by omega) (by omega) _ _ _ ?_ (iI_1 hz) (fun hw0 q hq => by omega)
            rw [hv]
            refine (iI_add _ 1).trans (congrArg iI ?_)
            simp only [clN, sm]
            rw [cI_t hc]
            omega
          · have hno' := hno (by omega)
            refine w_eq w 1 (fun q6 => ?_) (fun q6 => ?_) h1 rfl
            · refine ⟨by decide, ?_⟩
              have := hQ _ _ s0 (Or.inr ⟨g1, hr, hhr, Or.inr (Or.inr ⟨by omega, p, by omega, hc, hno', Or.inl ⟨q6, rfl⟩⟩)⟩)
              rw [← em] at this
              exact this
            · refine w_eq w 2 (fun q7 => ?_) (fun q7 => ?_) h1 rfl
              · refine ⟨by decide, ?_⟩
                have := hQ _ _ s0 (Or.inr ⟨g1, hr, hhr, Or.inr (Or.inr ⟨by omega, p, by omega, hc, hno', Or.inr (Or.inl ⟨q7, rfl⟩)⟩)⟩)
                rw [← ed] at this
                exact this
              · exact hQ _ _ s0 (Or.inr ⟨g1, hr, hhr, Or.inr (Or.inr ⟨by omega, p, by omega, hc, hno', Or.inr (Or.inr ⟨by omega, hf⟩)⟩)⟩)
  exact loop 3073 0 (by omega) (by omega) _ _ _ rfl rfl (fun _ q hq => by omega)
/-- what worstLine answers -/
def WrsR (S : Nat → Int) (k : Nat) (r m : Int) : Prop := (r = -109 ∧ m = 0 ∧ ∀ y : Nat, y < k → (cn S (od S) y (S 1).toNat : Int) ≤ S 2) ∨ (∃ y : Nat, y < k ∧ r = y ∧ m = cn S (od S) y (S 1).toNat - S 2 ∧ 0 < m ∧ (∀ z : Nat, z < k → cn S (od S) z (S 1).toNat ≤ cn S (od S) y (S 1).toNat) ∧ ∀ z : Nat, z < y → cn S (od S) z (S 1).toNat < cn S (od S) y (S 1).toNat)
set_option maxHeartbeats 1000000 in
theorem c_M_worstLine {S : Nat → Int} {h : St} {Q : Option Value → St → Prop} (hS : MS S h) (hW : WF S) (hQ : ∀ h' r m, Sm [(90, 0)] [] h h' → WrsR S 48 r m → Q (some (.int (iI r))) h') : SC y_M_worstLine [.ref 90] h Q := by
  refine w_call IS_ok [12] ok_M_worstLine rfl rfl ?_
  have s0 : Sm [(90, 0)] [] h (pf h 0 0) := Sm.pf _ (by decide)
  have hM := hS.sm s0 (by decide)
  have hn := hW.n
  have hlim := hW.lim
  have loop : ∀ (m k : Nat), 49 ≤ k + m → k ≤ 48 → ∀ (r mo : Int) (z : Int32) (L4 : Option Value), WrsR S k r mo → z = iI k → SR y_M_worstLine 12 [some (.ref 90), some (.int (iI r)), some (.int (iI mo)), some (.int z), L4] [] (pf h 0 0) Q := by
    intro m
    induction m with
    | zero => intro k q1 q2; omega
    | succ m ih =>
      intro k q1 q2 r mo z L4 hr hz
      refine w_loop IS_ok [12] ok_M_worstLine ?_
      refine w_le 48 k (fun q3 => ?_) (fun q3 => ?_) rfl hz
      · have : k = 48 := by omega
        subst this
        exact hQ _ _ _ s0 hr
      · refine c_M_standing hM hW k ?_ hz (by omega)
        have hcn := cn_le S (od S) k (S 1).toNat
        have hmo : 0 ≤ mo ∧ mo ≤ 20 := by
          rcases hr with ⟨-, e, -⟩ | ⟨y, hy, -, e, e2, -, -⟩
          · omega
          · have := cn_le S (od S) y (S 1).toNat
            omega
        refine w_ix 2 ?_ rfl (show 2 < 270 by omega)
        have ev : iI (cn S (od S) k (S 1).toNat) - (pf h 0 0).2 91 2 = iI (cn S (od S) k (S 1).toNat - S 2) := by rw [hM 2, iI_sub]
        refine w_le (cn S (od S) k (S 1).toNat - S 2) mo (fun q4 => ?_) (fun q4 => ?_) ev rfl
        · refine w_le (cn S (od S) k (S 1).toNat - S 2) mo (fun q5 => ?_) (fun q5 => by omega) ev rfl
          refine ih (k + 1) (by omega) (by omega) _ _ _ _ ?_ (iI_1 hz)
          rcases hr with ⟨e, e1, e2⟩ | ⟨y, hy, e, e1, e2, e3, e4⟩
          · refine Or.inl ⟨e, e1, fun y hy => ?_⟩
            by_cases hyk : y = k
            · rw [hyk]; omega
            · exact e2 y (by omega)
          · refine Or.inr ⟨y, by omega, e, e1, e2, fun z hz => ?_, e4⟩
            by_cases hzk : z = k
            · rw [hzk]; omega
            · exact e3 z (by omega)
        · refine w_le (cn S (od S) k (S 1).toNat - S 2) mo (fun q5 => by omega) (fun q5 => ?_) ev rfl
          rw [hz]
          have := ih (k + 1) (by omega) (by omega) k (cn S (od S) k (S 1).toNat - S 2) (iI k + 1) (some (.int (iI (cn S (od S) k (S 1).toNat - S 2)))) ?_ (iI_1 rfl)
          · rw [← ev] at this
            exact this
          · refine Or.inr ⟨k, by omega, rfl, rfl, by omega, fun z hz => ?_, fun z hz => ?_⟩
            · by_cases hzk : z = k
              · rw [hzk]; exact Nat.le_refl _
              · rcases hr with ⟨e, e1, e2⟩ | ⟨y, hy, e, e1, e2, e3, e4⟩
                · have := e2 z (by omega); omega
                · have := e3 z (by omega); omega
            · rcases hr with ⟨e, e1, e2⟩ | ⟨y, hy, e, e1, e2, e3, e4⟩
              · have := e2 z (by omega); omega
              · have := e3 z (by omega); omega
  exact loop 49 0 (by omega) (by omega) (-109) 0 _ _ (Or.inl ⟨rfl, rfl, fun y hy => by omega⟩) rfl
/-! the text; undo -/
theorem c_M_append {n : Nat} {T : Nat → Nat} {x1 : Int32} {h : St} {Q : Option Value → St → Prop} (hT : MTx n T h) (hn : n ≤ 100) (c : Int) (hQ0 : ∀ h', Sm [(90, 0)] [] h h' → ¬ (1 ≤ c ∧ c ≤ 255) → Q (some (.int (-101))) h') (hQ1 : ∀ h', Sm [(90, 0)] [] h h' → (1 ≤ c ∧ c ≤ 255) → n = 100 → Q (some (.int (-103))) h') (hQ2 : ∀ h', Sm [(90, 0), (90, 6)] [94] h h' → (1 ≤ c ∧ c ≤ 255) → n ≠ 100 → MTx (n + 1) (u1 T n c.toNat) h' → Q (some (.int (iI (n + 1 : Nat)))) h') (h1 : x1 = iI c) (rc : rg c) : SC y_M_append [.ref 90, .int x1] h Q := by
  refine w_call IS_ok [] ok_M_append rfl rfl ?_
  have s0 : Sm [(90, 0)] [] h (pf h 0 0) := Sm.pf _ (by decide)
  have hT0 := hT.sm s0 (by decide) (by decide)
  refine c_M_in c 1 255 ?_ h1 rfl rfl rc (by omega) (by omega)
  refine w_b (fun g1 => hQ0 _ s0 g1) (fun g1 => ?_)
  refine w_eq n 100 (fun g2 => hQ1 _ s0 g1 (by omega)) (fun g2 => ?_) hT0.1 rfl
  refine w_ix n ?_ hT0.1 (show n < 100 by omega)
  have el : (pf h 0 0).1 90 6 + 1 = iI ((n + 1 : Nat) : Int) := iI_1 hT0.1
  have := hQ2 (pf (wa (pf h 0 0) 94 n x1) 6 ((pf h 0 0).1 90 6 + 1)) (((s0.mo (by decide) (by decide)).t (Sm.wa _ _ (by decide))).t (Sm.pf _ (by decide))) g1 (by omega) ⟨by rw [pf_s]; exact el, fun i hi => ?_⟩
  · rw [← el, ← pf_s (wa (pf h 0 0) 94 n x1) 6 ((pf h 0 0).1 90 6 + 1)] at this
    exact this
  · show (wa (pf h 0 0) 94 n x1).2 94 i = _
    by_cases hin : i = n
    · rw [hin, wa_s, u1_s, h1]; exact congrArg iI (by omega)
    · rw [wa_n _ _ _ _ hin, u1_n _ _ hin]; exact hT0.2 i (by omega)
theorem c_M_clearText {n : Nat} {T : Nat → Nat} {h : St} {Q : Option Value → St → Prop} (hT : MTx n T h) (hQ : ∀ h', Sm [(90, 0), (90, 6)] [] h h' → MTx 0 T h' → Q (some (.int (iI n))) h') : SC y_M_clearText [.ref 90] h Q := by
  refine w_call IS_ok [] ok_M_clearText rfl rfl ?_
  have s0 : Sm [(90, 0)] [] h (pf h 0 0) := Sm.pf _ (by decide)
  have hT0 := hT.sm s0 (by decide) (by decide)
  have := hQ (pf (pf h 0 0) 6 0) ((s0.mo (by decide) (by decide)).t (Sm.pf _ (by decide))) ⟨by rw [pf_s]; rfl, fun i hi => by omega⟩
  rw [← hT0.1] at this
  exact this
/-- the latest state, where it tells something -/
def rsS (S G : Nat → Int) : Nat → Int := fun i => if i < 270 then G i else S i
set_option maxHeartbeats 1000000 in
theorem c_M_undo {S : Nat → Int} {n : Nat} {H : Nat → Nat → Int} {h : St} {Q : Option Value → St → Prop} (hS : MS S h) (hH : MH n H h) (hn : n ≤ 5) (hQ0 : ∀ h', Sm [(90, 0)] [] h h' → n = 0 → Q (some (.int (-102))) h') (hQ1 : ∀ h', Sm [(90, 0), (90, 4)] [91] h h' → 0 < n → MS (rsS S (H (n - 1))) h' → MH (n - 1) H h' → Q (some (.int (iI (n - 1 : Nat)))) h') : SC y_M_undo [.ref 90] h Q := by
  refine w_call IS_ok [27] ok_M_undo rfl rfl ?_
  have s0 : Sm [(90, 0)] [] h (pf h 0 0) := Sm.pf _ (by decide)
  have hH0 := hH.sm s0 (by decide) (by decide)
  refine w_eq n 0 (fun g => hQ0 _ s0 (by omega)) (fun g => ?_) hH0.1 rfl
  have el : (pf h 0 0).1 90 4 - 1 = iI ((n - 1 : Nat) : Int) := by rw [hH0.1]; exact (iI_sub _ 1).trans (congrArg iI (by omega))
  have s1 : Sm [(90, 0), (90, 4)] [91] h (pf (pf h 0 0) 4 ((pf h 0 0).1 90 4 - 1)) := (s0.mo (by decide) (by decide)).t (Sm.pf _ (by decide))
  have loop : ∀ (m k : Nat), 271 ≤ k + m → k ≤ 270 → ∀ (hc : St) (z : Int32), Sm [(90, 0), (90, 4)] [91] h hc → hc.1 90 4 = iI ((n - 1 : Nat) : Int) → (∀ i, i < k → hc.2 91 i = iI (H (n - 1) i)) → (∀ i, k ≤ i → hc.2 91 i = iI (S i)) → z = iI k → SR y_M_undo 27 [some (.ref 90), some (.int z)] [] hc Q := by
    intro m
    induction m with
    | zero => intro k q1 q2; omega
    | succ m ih =>
      intro k q1 q2 hc z hsm h4 hlo hhi hz
      have h93 : hc.2 93 = h.2 93 := hsm.2 93 (by decide)
      refine w_loop IS_ok [27] ok_M_undo ?_
      refine w_le 270 k (fun q3 => ?_) (fun q3 => ?_) rfl hz
      · have := hQ1 hc hsm (by omega) (fun i => ?_) ⟨h4, fun j hj i hi => by rw [h93]; exact hH.2 j (by omega) i hi⟩
        · rw [← h4] at this
          exact this
        · unfold rsS
          by_cases hi : i < 270
          · rw [if_pos hi]; exact hlo i (by omega)
          · rw [if_neg hi]; exact hhi i (by omega)
      · have ei : (270 : Int32) * hc.1 90 4 + z = iI ((270 * (n - 1) + k : Nat) : Int) := by
          rw [h4, hz]
          refine (congrArg (· + iI k) (iI_mul 270 (n - 1 : Nat))).trans ((iI_add _ _).trans (congrArg iI (by omega)))
        refine w_ix (270 * (n - 1) + k) ?_ ei (show 270 * (n - 1) + k < 1350 by omega)
        refine w_ix k ?_ hz (show k < 270 by omega)
        refine ih (k + 1) (by omega) (by omega) (wa hc 91 k (hc.2 93 (270 * (n - 1) + k))) _ (hsm.t (Sm.wa _ _ (by decide))) h4 (fun i hi => ?_) (fun i hi => ?_) (iI_1 hz)
        · by_cases hik : i = k
          · rw [hik, wa_s, h93]; exact hH.2 (n - 1) (by omega) k (by omega)
          · rw [wa_n _ _ _ _ hik]; exact hlo i (by omega)
        · rw [wa_n _ _ _ _ (by omega)]; exact hhi i (by omega)
  exact loop 271 0 (by omega) (by omega) (pf (pf h 0 0) 4 ((pf h 0 0).1 90 4 - 1)) _ s1 (by rw [pf_s]; exact el) (fun i hi => by omega) (fun i _ => hS i) rfl
