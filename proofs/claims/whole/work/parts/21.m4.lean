noncomputable def bC (P : Prop) : Int32 := @bI P (Classical.propDecidable P)
theorem bC_01 (P : Prop) : bC P = 0 ∨ bC P = 1 := @bI_01 P (Classical.propDecidable P)
theorem bC_t {P : Prop} (h : P) : bC P = 1 := @bI_t P (Classical.propDecidable P) h
theorem bC_f {P : Prop} (h : ¬ P) : bC P = 0 := @bI_f P (Classical.propDecidable P) h
theorem w_c {P : Prop} {A B : Prop} (f : ¬ P → A) (g : P → B) : if bC P = 0 then A else B := @w_b P (Classical.propDecidable P) A B f g
noncomputable def cI (P : Prop) : Nat := @ite _ P (Classical.propDecidable P) 1 0
theorem cI_t {P : Prop} (h : P) : cI P = 1 := @if_pos P (Classical.propDecidable P) h _ _ _
theorem cI_f {P : Prop} (h : ¬ P) : cI P = 0 := @if_neg P (Classical.propDecidable P) h _ _ _
theorem cI_iff {P R : Prop} (h : P ↔ R) : cI P = cI R := by rw [show P = R from propext h]
theorem cI_le (P : Prop) : cI P ≤ 1 := by
  by_cases h : P
  · rw [cI_t h]; exact Nat.le_refl _
  · rw [cI_f h]; exact Nat.zero_le _
theorem cn_inj {S : Nat → Int} {o : Nat → Nat} {y : Int} {j k : Nat} (hj : stn S (o j) y) (hk : stn S (o k) y) (h : cn S o y j = cn S o y k) : j = k := by
  rcases Nat.lt_trichotomy j k with h2 | h2 | h2
  · have := cn_lt h2 hj; omega
  · exact h2
  · have := cn_lt h2 hk; omega
/-- the first one that is shown on the line with a dot set there, but one -/
def FirR (S : Nat → Int) (x y but r : Int) : Prop := (∃ k, k < (S 1).toNat ∧ vis S y k ∧ S (6 + k) ≠ but ∧ setp S (od S k) x y ∧ (∀ j, j < k → vis S y j → S (6 + j) ≠ but → ¬ setp S (od S j) x y) ∧ r = S (6 + k)) ∨ (r = -109 ∧ ∀ j, j < (S 1).toNat → vis S y j → S (6 + j) ≠ but → ¬ setp S (od S j) x y)
theorem FirR_b {S : Nat → Int} (hW : WF S) {x y but r : Int} (h : FirR S x y but r) : r = -109 ∨ (0 ≤ r ∧ r < 20 ∧ r < S 0) := by
  rcases h with ⟨k, hk, -, -, -, -, rfl⟩ | ⟨rfl, -⟩
  · have := hW.od hk; exact Or.inr (by omega)
  · exact Or.inl rfl
set_option maxHeartbeats 4000000 in
theorem c_M_firstAt {S : Nat → Int} {x y z : Int32} {h : St} {Q : Option Value → St → Prop} (hS : MS S h) (hW : WF S) (a b c : Int) (hQ : ∀ r, FirR S a b c r → Q (some (.int (iI r))) h) (hx : x = iI a) (hy : y = iI b) (hz : z = iI c) (ha : 0 ≤ a ∧ a < 1000) (hb : 0 ≤ b ∧ b < 1000) (hc : rg c) : SC y_M_firstAt [.ref 90, .int x, .int y, .int z] h Q := by
  refine w_call IS_ok [7] ok_M_firstAt rfl rfl ?_
  have hlim := hW.lim
  have loop : ∀ (m i : Nat), 9 ≤ i + m → (i : Int) ≤ S 2 → ∀ (v w : Int32) (L6 : Option Value), w = iI i → ((v = iI (-109) ∧ ∀ j, j < (S 1).toNat → vis S b j → cn S (od S) b j < i → S (6 + j) ≠ c → ¬ setp S (od S j) a b) ∨ (∃ r, v = iI r ∧ r ≠ -109 ∧ FirR S a b c r)) → SR y_M_firstAt 7 [some (.ref 90), some (.int x), some (.int y), some (.int z), some (.int v), some (.int w), L6] [] h Q := by
    intro m
    induction m with
    | zero => intro i h1 h2; omega
    | succ m ih =>
      intro i h1 h2 v w L6 hw hI
      refine w_loop IS_ok [7] ok_M_firstAt ?_
      refine w_ix 2 (w_le (S 2) i (fun h3 => ?_) (fun h3 => ?_) (hS 2) hw) rfl (show 2 < 270 by omega)
      · rcases hI with ⟨rfl, hI⟩ | ⟨r, rfl, -, hr⟩
        · exact hQ _ (Or.inr ⟨rfl, fun j hj hv => hI j hj hv (by have := hv.2; omega)⟩)
        · exact hQ _ hr
      · rcases hI with ⟨hv, hI⟩ | ⟨r, hv, hr1, hr⟩
        · refine w_eq (-109) (-109) (fun _ => ?_) (fun h4 => absurd rfl h4) hv rfl
          refine c_M_shownOn hS hW b i (fun r0 hr0 => ?_) hy hw (by omega) (by omega)
          have hr0b : r0 = -109 ∨ (0 ≤ r0 ∧ r0 < 20) := by
            rcases hr0 with ⟨k, hk, -, -, rfl⟩ | ⟨rfl, -⟩
            · have := hW.od hk; exact Or.inr (by omega)
            · exact Or.inl rfl
          have next : (∀ j, j < (S 1).toNat → vis S b j → cn S (od S) b j = i → S (6 + j) ≠ c → ¬ setp S (od S j) a b) → ∀ L6 : Option Value, SR y_M_firstAt 7 [some (.ref 90), some (.int x), some (.int y), some (.int z), some (.int v), some (.int (w + 1)), L6] [] h Q := by
            intro hn L6
            refine ih (i + 1) (by omega) (by omega) _ _ _ (iI_1 hw) (Or.inl ⟨hv, fun j hj hvs hcn => ?_⟩)
            by_cases he : cn S (od S) b j = i
            · exact hn j hj hvs he
            · exact hI j hj hvs (by omega)
          refine w_eq r0 (-109) (fun h5 => ?_) (fun h5 => ?_) rfl rfl
          · exact next (fun j hj hvs he => by
              rcases hr0 with ⟨k, hk, -, -, h6⟩ | ⟨-, h6⟩
              · have := hW.od hk; omega
              · exact absurd (by rw [he]) (h6 j hj hvs)) _
          · rcases hr0 with ⟨k, hk, hvk, hck, rfl⟩ | ⟨h6, -⟩
            · have hod := hW.od hk
              have hu : ∀ j, j < (S 1).toNat → vis S b j → cn S (od S) b j = i → j = k := fun j hj hvs he => cn_inj hvs.1 hvk.1 (by omega)
              refine w_eq (S (6 + k)) c (fun h7 => ?_) (fun h7 => ?_) rfl hz
              · exact next (fun j hj hvs he hne => by
                  rw [hu j hj hvs he] at hne
                  exact absurd h7 hne) _
              · refine c_M_isSet hS hW (od S k) a b ?_ (by rw [← hod.1]) hx hy hod.2.1 ha hb
                refine w_b (fun h8 => ?_) (fun h8 => ?_)
                · exact next (fun j hj hvs he hne => by rw [hu j hj hvs he]; exact h8) _
                · refine ih (i + 1) (by omega) (by omega) _ _ _ (iI_1 hw) (Or.inr ⟨S (6 + k), rfl, by omega, Or.inl ⟨k, hk, hvk, h7, h8, fun j hj hvs hne => ?_, rfl⟩⟩)
                  have := cn_lt (S := S) (o := od S) (y := b) hj hvs.1
                  exact hI j (by omega) hvs (by omega) hne
            · exact absurd h6 h5
        · have hb2 := FirR_b hW hr
          refine w_eq r (-109) (fun h4 => absurd h4 hr1) (fun h4 => ?_) hv rfl
          rw [hv]
          exact hQ _ hr
  exact loop 9 0 (by omega) (by omega) _ _ _ rfl (Or.inl ⟨rfl, fun j hj hv hcn => by omega⟩)
def ColR (S : Nat → Int) (x y c : Int) : Prop := ∃ r, FirR S x y (-109) r ∧ c = (if r = -109 then 0 else S (26 + 9 * r.toNat + 4))
theorem c_M_colorAt {S : Nat → Int} {x y : Int32} {h : St} {Q : Option Value → St → Prop} (hS : MS S h) (hW : WF S) (a b : Int) (hQ : ∀ c, ColR S a b c → Q (some (.int (iI c))) h) (hx : x = iI a) (hy : y = iI b) (ha : 0 ≤ a ∧ a < 1000) (hb : 0 ≤ b ∧ b < 1000) : SC y_M_colorAt [.ref 90, .int x, .int y] h Q := by
  refine w_call IS_ok [] ok_M_colorAt rfl rfl ?_
  refine c_M_firstAt hS hW a b (-109) (fun r hr => ?_) hx hy rfl ha hb (by omega)
  have hrb := FirR_b hW hr
  refine w_eq r (-109) (fun h1 => ?_) (fun h1 => ?_) rfl rfl
  · have := hQ _ ⟨r, hr, rfl⟩
    rw [if_pos h1] at this
    exact this
  · have := hQ _ ⟨r, hr, rfl⟩
    rw [if_neg h1] at this
    exact c_M_of hS r.toNat 4 this (by congr 1; omega) rfl (by omega) (by omega)
/-- a dot of the stage that is not 0 -/
def lit (S : Nat → Int) (x y : Int) : Prop := ∃ k, k < (S 1).toNat ∧ vis S y k ∧ setp S (od S k) x y
theorem ColR_pos {S : Nat → Int} (hW : WF S) {x y c : Int} (h : ColR S x y c) : (0 < c ↔ lit S x y) ∧ 0 ≤ c ∧ c ≤ 9 := by
  obtain ⟨r, hr, rfl⟩ := h
  rcases hr with ⟨k, hk, hv, hne, hs, hf, rfl⟩ | ⟨rfl, hno⟩
  · have ho := hW.od hk
    have hc := hW.col (p := od S k) (by rw [← ho.1]; exact ho.2.2)
    have hc9 := (hW.wp (od S k) ho.2.1).2.2.2.2.1
    rw [if_neg (by omega)]
    have e : (S (6 + k)).toNat = od S k := rfl
    rw [e]
    exact ⟨⟨fun _ => ⟨k, hk, hv, hs⟩, fun _ => by omega⟩, by omega, by omega⟩
  · rw [if_pos rfl]
    refine ⟨⟨fun z => by omega, fun ⟨k, hk, hv, hs⟩ => ?_⟩, by omega, by omega⟩
    have ho := hW.od hk
    exact absurd hs (hno k hk hv (by omega))
noncomputable def dts (S : Nat → Int) (y : Int) (n : Nat) : Nat := sm (fun x => cI (lit S x y)) n
theorem dts_le (S : Nat → Int) (y : Int) (n : Nat) : dts S y n ≤ n := by
  have := sm_le (f := fun x : Nat => cI (lit S x y)) (b := 1) (n := n) (fun i _ => cI_le _)
  unfold dts
  omega
theorem c_M_dotsOn {S : Nat → Int} {x : Int32} {h : St} {Q : Option Value → St → Prop} (hS : MS S h) (hW : WF S) (b : Int) (hQ : Q (some (.int (iI (dts S b 64)))) h) (hx : x = iI b) (hb : 0 ≤ b ∧ b < 1000) : SC y_M_dotsOn [.ref 90, .int x] h Q := by
  refine w_call IS_ok [4] ok_M_dotsOn rfl rfl ?_
  have loop : ∀ (m k : Nat), 65 ≤ k + m → k ≤ 64 → ∀ v w : Int32, v = iI (dts S b k) → w = iI k → SR y_M_dotsOn 4 [some (.ref 90), some (.int x), some (.int v), some (.int w)] [] h Q := by
    intro m
    induction m with
    | zero => intro k h1 h2; omega
    | succ m ih =>
      intro k h1 h2 v w hv hw
      have hd := dts_le S b k
      refine w_loop IS_ok [4] ok_M_dotsOn ?_
      refine w_le 64 k (fun h3 => ?_) (fun h3 => ?_) rfl hw
      · have : k = 64 := by omega
        subst this
        rw [← hv] at hQ
        exact hQ
      · refine c_M_colorAt hS hW k b (fun c hc => ?_) hw hx (by omega) hb
        obtain ⟨c1, c2, c3⟩ := ColR_pos hW hc
        refine w_le c 0 (fun h4 => ?_) (fun h4 => ?_) rfl rfl
        · refine ih (k + 1) (by omega) (by omega) _ _ ?_ (iI_1 hw)
          rw [hv]
          refine (iI_add _ 0).trans (congrArg iI ?_)
          simp only [dts, sm]
          rw [cI_f (fun z => by have := c1.mpr z; omega)]
          omega
        · refine ih (k + 1) (by omega) (by omega) _ _ ?_ (iI_1 hw)
          rw [hv]
          refine (iI_add _ 1).trans (congrArg iI ?_)
          simp only [dts, sm]
          rw [cI_t (c1.mp h4)]
          omega
  exact loop 65 0 (by omega) (by omega) _ _ rfl rfl
def HerR (S : Nat → Int) (n : Nat) (r : Int) : Prop := (n = 0 ∧ r = -109) ∨ (∃ k, k < n ∧ r = S (6 + k) ∧ ∀ j, j < n → r ≤ S (6 + j))
theorem c_M_hero {S : Nat → Int} {h : St} {Q : Option Value → St → Prop} (hS : MS S h) (hW : WF S) (hQ : ∀ r, HerR S (S 1).toNat r → Q (some (.int (iI r))) h) : SC y_M_hero [.ref 90] h Q := by
  refine w_call IS_ok [5] ok_M_hero rfl rfl ?_
  obtain ⟨hn1, hn2, -⟩ := hW.n
  have loop : ∀ (m k : Nat), (S 1).toNat + 1 ≤ k + m → k ≤ (S 1).toNat → ∀ (r : Int) (w : Int32), HerR S k r → w = iI k → SR y_M_hero 5 [some (.ref 90), some (.int (iI r)), some (.int w)] [] h Q := by
    intro m
    induction m with
    | zero => intro k h1 h2; omega
    | succ m ih =>
      intro k h1 h2 r w hr hw
      refine w_loop IS_ok [5] ok_M_hero ?_
      refine w_ix 1 (w_le (S 1) k (fun h3 => ?_) (fun h3 => ?_) (hS 1) hw) rfl (show 1 < 270 by omega)
      · have : k = (S 1).toNat := by omega
        rw [this] at hr
        exact hQ _ hr
      · have ho := hW.od (k := k) (by omega)
        have hix : (6 : Int32) + w = iI ((6 + k : Nat) : Int) := by rw [hw]; exact (iI_add 6 k).trans (congrArg iI (by omega))
        have hrb : r = -109 ∨ (0 ≤ r ∧ r < 20) := by
          rcases hr with ⟨-, h4⟩ | ⟨j, hj, h4, -⟩
          · exact Or.inl h4
          · have := hW.od (k := j) (by omega); exact Or.inr (by omega)
        have new : (∀ j, j < k → S (6 + k) ≤ S (6 + j)) → SR y_M_hero 5 [some (.ref 90), some (.int (h.2 91 (6 + k))), some (.int (w + 1))] [] h Q := by
          intro hmin
          rw [hS]
          refine ih (k + 1) (by omega) (by omega) _ _ (Or.inr ⟨k, by omega, rfl, fun j hj => ?_⟩) (iI_1 hw)
          by_cases hjk : j = k
          · rw [hjk]; exact Int.le_refl _
          · exact hmin j (by omega)
        refine w_eq r (-109) (fun h4 => ?_) (fun h4 => ?_) rfl rfl
        · refine w_ix (6 + k) (new ?_) hix (show 6 + k < 270 by omega)
          rcases hr with ⟨h5, -⟩ | ⟨j, hj, h5, -⟩
          · intro j hj; omega
          · have := hW.od (k := j) (by omega); omega
        · refine w_ix (6 + k) (w_le r (S (6 + k)) (fun h5 => ?_) (fun h5 => ?_) rfl (hS _)) hix (show 6 + k < 270 by omega)
          · refine ih (k + 1) (by omega) (by omega) _ _ ?_ (iI_1 hw)
            rcases hr with ⟨-, h6⟩ | ⟨j, hj, h6, h7⟩
            · exact absurd h6 h4
            · refine Or.inr ⟨j, by omega, h6, fun i hi => ?_⟩
              by_cases hik : i = k
              · rw [hik]; exact h5
              · exact h7 i (by omega)
          · refine w_ix (6 + k) (new ?_) hix (show 6 + k < 270 by omega)
            rcases hr with ⟨-, h6⟩ | ⟨j, hj, h6, h7⟩
            · exact absurd h6 h4
            · intro i hi
              have := h7 i hi
              omega
  exact loop ((S 1).toNat + 1) 0 (by omega) (by omega) (-109) _ (Or.inl ⟨rfl, rfl⟩) rfl
/-- a puppet is shown on a line -/
def shw (S : Nat → Int) (p y : Int) : Prop := ∃ k, k < (S 1).toNat ∧ vis S y k ∧ S (6 + k) = p
theorem c_M_isShown {S : Nat → Int} {x y : Int32} {h : St} {Q : Option Value → St → Prop} (hS : MS S h) (hW : WF S) (p b : Int) (hQ : Q (some (.int (bC (shw S p b)))) h) (hx : x = iI p) (hy : y = iI b) (hp : 0 ≤ p ∧ p < 20) (hb : 0 ≤ b ∧ b < 1000) : SC y_M_isShown [.ref 90, .int x, .int y] h Q := by
  refine w_call IS_ok [5] ok_M_isShown rfl rfl ?_
  have hlim := hW.lim
  have loop : ∀ (m i : Nat), 9 ≤ i + m → (i : Int) ≤ S 2 → ∀ w : Int32, w = iI i → SR y_M_isShown 5 [some (.ref 90), some (.int x), some (.int y), some (.int (bC (∃ k, k < (S 1).toNat ∧ vis S b k ∧ cn S (od S) b k < i ∧ S (6 + k) = p))), some (.int w)] [] h Q := by
    intro m
    induction m with
    | zero => intro i h1 h2; omega
    | succ m ih =>
      intro i h1 h2 w hw
      refine w_loop IS_ok [5] ok_M_isShown ?_
      refine w_ix 2 (w_le (S 2) i (fun h3 => ?_) (fun h3 => ?_) (hS 2) hw) rfl (show 2 < 270 by omega)
      · refine ⟨bC_01 _, ?_⟩
        have e : shw S p b = (∃ k, k < (S 1).toNat ∧ vis S b k ∧ cn S (od S) b k < i ∧ S (6 + k) = p) := propext ⟨fun ⟨k, k1, k2, k3⟩ => ⟨k, k1, k2, by have := k2.2; omega, k3⟩, fun ⟨k, k1, k2, _, k3⟩ => ⟨k, k1, k2, k3⟩⟩
        rw [e] at hQ
        exact hQ
      · have hnext := ih (i + 1) (by omega) (by omega) _ (iI_1 hw)
        refine w_c (fun h4 => ?_) (fun h4 => ?_)
        · refine w_eq p (-109) (fun h5 => absurd h5 (by omega)) (fun _ => ?_) hx rfl
          refine c_M_shownOn hS hW b i (fun r hr => ?_) hy hw (by omega) (by omega)
          have hrb : r = -109 ∨ (0 ≤ r ∧ r < 20) := by
            rcases hr with ⟨k, hk, -, -, rfl⟩ | ⟨rfl, -⟩
            · have := hW.od hk; exact Or.inr (by omega)
            · exact Or.inl rfl
          refine w_eq r p (fun h6 => ?_) (fun h6 => ?_) rfl hx
          · rw [bC_t] at hnext
            · exact hnext
            · rcases hr with ⟨k, hk, hv, hc, h7⟩ | ⟨h7, -⟩
              · exact ⟨k, hk, hv, by omega, by omega⟩
              · omega
          · rw [bC_f] at hnext
            · exact hnext
            · intro ⟨k, hk, hv, hc, h7⟩
              by_cases hki : cn S (od S) b k < i
              · exact h4 ⟨k, hk, hv, hki, h7⟩
              · rcases hr with ⟨k', hk', hv', hc', h8⟩ | ⟨-, h8⟩
                · have := cn_inj hv.1 hv'.1 (show cn S (od S) b k = cn S (od S) b k' by omega)
                  rw [this] at h7
                  omega
                · exact h8 k hk hv (by omega)
        · rw [bC_t] at hnext
          · exact hnext
          · obtain ⟨k, k1, k2, k3, k4⟩ := h4
            exact ⟨k, k1, k2, by omega, k4⟩
  have h0 := loop 9 0 (by omega) (by omega) _ rfl
  rw [bC_f (fun ⟨k, _, _, k3, _⟩ => by omega)] at h0
  exact h0
