/-! numbers, states: 2 -/
theorem bsF_b {g : Nat → Nat} (hg : ∀ s, g s ≤ 20) : ∀ k : Nat, (bsF g k).1 ≤ k + 1 ∧ (bsF g k).2 ≤ 20
  | 0 => ⟨by show (1 : Nat) ≤ 1; omega, hg 1⟩
  | k + 1 => by
    have := bsF_b hg k
    unfold bsF
    split
    · exact ⟨by show k + 2 ≤ _; omega, hg _⟩
    · exact ⟨by omega, this.2⟩
/-- what bestStep answers -/
def BstR (S : Nat → Int) (w r : Int) : Prop := (¬ (0 ≤ w ∧ w ≤ 1) ∧ r = -101) ∨ (w = 0 ∧ r = (bsF (grb S) 18).1) ∨ (w = 1 ∧ r = (bsF (grb S) 18).2)
abbrev isDb (c : Nat) : Bool := decide (48 ≤ c ∧ c ≤ 57)
/-- a number goes on behind j digits of the value v: its value, and how many digits it has -/
def ext (ch : Nat → Nat) (i : Nat) : Nat → Nat → Nat → Nat × Nat
  | 0, j, v => (v, j)
  | f + 1, j, v => if isDb (ch (i + j)) = true ∧ 0 < v ∧ j < 3 then ext ch i f (j + 1) (10 * v + (ch (i + j) - 48)) else (v, j)
def nd (ch : Nat → Nat) (i : Nat) : Nat := if isDb (ch i) = true then (ext ch i 3 1 (ch i - 48)).2 else 0
/-- what opens a group at i: where its bracket ought to stand, and how often it is run -/
def gq (ch : Nat → Nat) (i : Nat) : Nat := if isDb (ch i) = true then i + nd ch i else i
theorem iI_q {x : Int32} {k : Nat} (h : x = iI k) (hk : 0 < k) : x - 1 = iI ((k - 1 : Nat) : Int) := by
  rw [h]
  exact (iI_sub k 1).trans (congrArg iI (by omega))
def Eqv (S S' : Nat → Int) : Prop := ∀ i, i < 270 → (i < 6 + (S 1).toNat ∨ 26 ≤ i) → S' i = S i
theorem Eqv.rf (S : Nat → Int) : Eqv S S := fun _ _ _ => rfl
theorem Eqv.n {S S' : Nat → Int} (e : Eqv S S') : S' 1 = S 1 := e 1 (by omega) (by omega)
theorem Eqv.sy {S S' : Nat → Int} (e : Eqv S S') : Eqv S' S := fun i h1 h2 => (e i h1 (by rw [e.n] at h2; exact h2)).symm
theorem Eqv.tr {S S1 S2 : Nat → Int} (a : Eqv S S1) (b : Eqv S1 S2) : Eqv S S2 := fun i h1 h2 => (b i h1 (by rw [a.n]; exact h2)).trans (a i h1 h2)
theorem Eqv.od {S S' : Nat → Int} (e : Eqv S S') (hW : WF S) {k : Nat} (hk : k < (S 1).toNat) : od S' k = od S k := by
  have := hW.n
  exact congrArg Int.toNat (e (6 + k) (by omega) (by omega))
theorem Eqv.wf {S S' : Nat → Int} (e : Eqv S S') (hW : WF S) : WF S' := by
  have hn := hW.n
  obtain ⟨h0, h1, h2, h3, h4, h5, h6, h7, h8, h9, h10, h11⟩ := hW
  refine ⟨?_, ?_, ?_, ?_, ?_, ?_, ?_, ?_, ?_, ?_, ?_, ?_⟩
  · rw [e 0 (by omega) (by omega)]; exact h0
  · rw [e 0 (by omega) (by omega), e.n]; exact h1
  · rw [e 2 (by omega) (by omega)]; exact h2
  · rw [e 3 (by omega) (by omega)]; exact h3
  · rw [e 4 (by omega) (by omega)]; exact h4
  · rw [e 5 (by omega) (by omega)]; exact h5
  · intro k hk
    rw [e.n] at hk
    rw [e 0 (by omega) (by omega), e (6 + k) (by omega) (by omega)]
    exact h6 k hk
  · intro j k hjk hk
    rw [e.n] at hk
    rw [e (6 + j) (by omega) (by omega), e (6 + k) (by omega) (by omega)]
    exact h7 j k hjk hk
  · intro p hp
    rw [e (26 + 9 * p) (by omega) (by omega), e (26 + 9 * p + 1) (by omega) (by omega), e (26 + 9 * p + 2) (by omega) (by omega), e (26 + 9 * p + 3) (by omega) (by omega), e (26 + 9 * p + 4) (by omega) (by omega), e (26 + 9 * p + 5) (by omega) (by omega), e (26 + 9 * p + 6) (by omega) (by omega), e (26 + 9 * p + 7) (by omega) (by omega), e (26 + 9 * p + 8) (by omega) (by omega), e 5 (by omega) (by omega)]
    exact h8 p hp
  · intro i hi
    rw [e (206 + i) (by omega) (by omega)]
    exact h9 i hi
  · intro p hp
    rw [e 0 (by omega) (by omega)] at hp
    rw [e (26 + 9 * p + 4) (by omega) (by omega)]
    exact h10 p hp
  · intro p hp hs j hj
    rw [e 0 (by omega) (by omega)] at hs
    rw [e (26 + 9 * p + j) (by omega) (by omega)]
    exact h11 p hp hs j hj
theorem Eqv.pos {S S' : Nat → Int} (e : Eqv S S') (hW : WF S) (p : Int) : pos S' p (S' 1).toNat = pos S p (S 1).toNat := by
  have hn := hW.n
  have : ∀ k, k ≤ (S 1).toNat → Jvm.Pilot.CPuppetTurnsLaw_law_r1533_6dc637.pos S' p k = Jvm.Pilot.CPuppetTurnsLaw_law_r1533_6dc637.pos S p k := by
    intro k
    induction k with
    | zero => intro _; rfl
    | succ k ih =>
      intro hk
      unfold Jvm.Pilot.CPuppetTurnsLaw_law_r1533_6dc637.pos
      rw [e (6 + k) (by omega) (by omega), ih (by omega)]
  rw [e.n]
  exact this _ (Nat.le_refl _)
theorem Eqv.hgh {S S' : Nat → Int} (e : Eqv S S') {p : Nat} (hp : p < 20) : hgh S' p = hgh S p := by
  unfold Jvm.Pilot.CPuppetTurnsLaw_law_r1533_6dc637.hgh
  rw [e (26 + 9 * p + 2) (by omega) (by omega)]
theorem Eqv.stn {S S' : Nat → Int} (e : Eqv S S') {p : Nat} (hp : p < 20) (y : Int) : stn S' p y = stn S p y := by
  unfold Jvm.Pilot.CPuppetTurnsLaw_law_r1533_6dc637.stn
  rw [e (26 + 9 * p + 1) (by omega) (by omega), e.hgh hp]
theorem Eqv.cn {S S' : Nat → Int} (e : Eqv S S') {o o' : Nat → Nat} {k : Nat} (ho : ∀ j, j < k → o' j = o j ∧ o j < 20) (y : Int) : cn S' o' y k = cn S o y k := by
  refine sm_congr (fun j hj => ?_)
  have := ho j hj
  rw [this.1]
  exact ite_congr (e.stn this.2 y) (fun _ => rfl) (fun _ => rfl)
theorem Eqv.hA {S S' : Nat → Int} (e : Eqv S S') {o o' : Nat → Nat} {k : Nat} (ho : ∀ j, j ≤ k → o' j = o j ∧ o j < 20) (y : Nat) : hA S' o' y k = hA S o y k := by
  unfold Jvm.Pilot.CPuppetTurnsLaw_law_r1533_6dc637.hA
  have h1 := e.cn (k := k + 1) (fun j hj => ho j (by omega)) (y : Int)
  have h2 := ho k (Nat.le_refl _)
  rw [h1, h2.1, e 2 (by omega) (by omega)]
  exact ite_congr (by rw [e.stn h2.2 (y : Int)]) (fun _ => rfl) (fun _ => rfl)
theorem Eqv.hT {S S' : Nat → Int} (e : Eqv S S') {o o' : Nat → Nat} {k : Nat} (ho : ∀ j, j < k → o' j = o j ∧ o j < 20) (y p : Nat) : hT S' o' k y p = hT S o k y p := by
  refine sm_congr (fun l _ => sm_congr (fun j hj => ?_))
  rw [(ho j hj).1, e.hA (fun i hi => ho i (by omega)) l]
theorem Eqv.hdd {S S' : Nat → Int} (e : Eqv S S') (hW : WF S) : hdd S' = hdd S := by
  funext p
  unfold Jvm.Pilot.CPuppetTurnsLaw_law_r1533_6dc637.hdd
  rw [e.n, e.hT (fun j hj => ⟨e.od hW hj, (hW.od hj).2.1⟩)]
theorem turnL_cg {B : Nat → Bool} {rule : Int} {step n : Nat} {o o' : Nat → Nat} (h : ∀ k, k < n → o' k = o k) : turnL B rule step n o' = turnL B rule step n o := by
  unfold turnL
  rw [ol_congr h, ol_congr (o := fun k => o' ((k + step) % n)) (o' := fun k => o ((k + step) % n)) (fun k hk => h _ (Nat.mod_lt _ (by omega)))]
theorem frP_cg {T T' : Nat → Int} {b : Bool} {p i : Nat} (hi : T' i = T i) (h1 : T' (26 + 9 * p + 6) = T (26 + 9 * p + 6)) (h2 : T' (26 + 9 * p + 7) = T (26 + 9 * p + 7)) (h3 : T' (26 + 9 * p + 8) = T (26 + 9 * p + 8)) : frP T' b p i = frP T b p i := by
  unfold frP
  rw [h1, h2, h3]
  simp only [u1_app]
  rw [hi]
theorem Eqv.frC {S S' : Nat → Int} (e : Eqv S S') (hW : WF S) (hd : Nat → Bool) : ∀ k, k ≤ (S 1).toNat → ∀ i, i < 270 → (i < 6 + (S 1).toNat ∨ 26 ≤ i) → frC S' hd k i = frC S hd k i
  | 0, _, i, h1, h2 => e i h1 h2
  | k + 1, hk, i, h1, h2 => by
    have ho := e.od hW (k := k) (by omega)
    have hb := (hW.od (k := k) (by omega)).2.1
    have ih := e.frC hW hd k (by omega)
    show frP (Jvm.Pilot.CPuppetTurnsLaw_law_r1533_6dc637.frC S' hd k) (hd (Jvm.Pilot.CPuppetTurnsLaw_law_r1533_6dc637.od S' k)) (Jvm.Pilot.CPuppetTurnsLaw_law_r1533_6dc637.od S' k) i = frP (Jvm.Pilot.CPuppetTurnsLaw_law_r1533_6dc637.frC S hd k) (hd (Jvm.Pilot.CPuppetTurnsLaw_law_r1533_6dc637.od S k)) (Jvm.Pilot.CPuppetTurnsLaw_law_r1533_6dc637.od S k) i
    rw [ho]
    exact frP_cg (ih i h1 h2) (ih _ (by omega) (by omega)) (ih _ (by omega) (by omega)) (ih _ (by omega) (by omega))
/-- an order, the state behind a frame -/
def ordS (S : Nat → Int) (n : Nat) (o : Nat → Nat) : Nat → Int := fun i => if i = 1 then (n : Int) else if 6 ≤ i ∧ i < 26 then (o (i - 6) : Int) else S i
def frS (S : Nat → Int) : Nat → Int := fun i => if i = 5 then S 5 + 1 else if 6 ≤ i ∧ i < 26 then (fl (turnL (hdd S) (S 3) (S 4).toNat (S 1).toNat (od S)) (i - 6) : Int) else frC S (hdd S) (S 1).toNat i
theorem ord_eqv {S S' : Nat → Int} {n : Nat} {o : Nat → Nat} (h : ROrd S n o S') : Eqv (ordS S n o) S' := by
  obtain ⟨h1, h2, h3⟩ := h
  intro i hi hg
  have : ordS S n o 1 = n := rfl
  rw [this] at hg
  by_cases z1 : i = 1
  · rw [z1]; exact h1
  · by_cases z2 : 6 ≤ i ∧ i < 26
    · have : ordS S n o i = o (i - 6) := by unfold ordS; rw [if_neg z1, if_pos z2]
      rw [this, ← h2 (i - 6) (by omega)]
      congr 1
      omega
    · have : ordS S n o i = S i := by unfold ordS; rw [if_neg z1, if_neg z2]
      rw [this, h3 i z1 z2]
theorem frS_1 {S : Nat → Int} (hW : WF S) : frS S 1 = S 1 := by
  show frC S (hdd S) (S 1).toNat 1 = S 1
  exact frC_o (fun j hj => (hW.od hj).2.1) (by omega)
theorem fr_eqv {S S' : Nat → Int} (hW : WF S) (h : RFr S S') : Eqv (frS S) S' := by
  obtain ⟨h1, h2, h3⟩ := h
  intro i hi hg
  rw [frS_1 hW] at hg
  by_cases z1 : i = 5
  · rw [z1]; exact h1
  · by_cases z2 : 6 ≤ i ∧ i < 26
    · have : frS S i = fl (turnL (hdd S) (S 3) (S 4).toNat (S 1).toNat (od S)) (i - 6) := by unfold frS; rw [if_neg z1, if_pos z2]
      rw [this, ← h2 (i - 6) (by omega)]
      congr 1
      omega
    · have : frS S i = frC S (hdd S) (S 1).toNat i := by unfold frS; rw [if_neg z1, if_neg z2]
      rw [this, h3 i z1 z2]
theorem ordS_cg {S S' : Nat → Int} {n : Nat} {o o' : Nat → Nat} (hS : ∀ i, i < 270 → ¬ (6 ≤ i ∧ i < 26) → S' i = S i) (ho : ∀ k, k < n → o' k = o k) : Eqv (ordS S n o) (ordS S' n o') := by
  intro i hi hg
  have : ordS S n o 1 = n := rfl
  rw [this] at hg
  unfold ordS
  by_cases z1 : i = 1
  · rw [if_pos z1, if_pos z1]
  · rw [if_neg z1, if_neg z1]
    by_cases z2 : 6 ≤ i ∧ i < 26
    · rw [if_pos z2, if_pos z2, ho _ (by omega)]
    · rw [if_neg z2, if_neg z2, hS i hi z2]
theorem frS_cg {S S' : Nat → Int} (e : Eqv S S') (hW : WF S) : Eqv (frS S) (frS S') := by
  intro i hi hg
  rw [frS_1 hW] at hg
  have hn := hW.n
  unfold frS
  rw [e 5 (by omega) (by omega), e.n, e.hdd hW, e 3 (by omega) (by omega), e 4 (by omega) (by omega), turnL_cg (fun k hk => e.od hW hk)]
  by_cases z1 : i = 5
  · rw [if_pos z1, if_pos z1]
  · rw [if_neg z1, if_neg z1]
    by_cases z2 : 6 ≤ i ∧ i < 26
    · rw [if_pos z2, if_pos z2]
    · rw [if_neg z2, if_neg z2]
      exact e.frC hW (hdd S) _ (Nat.le_refl _) i hi (by omega)
theorem WF.pu {S S' : Nat → Int} (hW : WF S) (p : Nat) (hp : (p : Int) < S 0) (ho : ∀ i, i < 26 + 9 * p ∨ 26 + 9 * p + 9 ≤ i → S' i = S i)
    (h0 : -15 ≤ S' (26 + 9 * p) ∧ S' (26 + 9 * p) ≤ 63) (h1 : -15 ≤ S' (26 + 9 * p + 1) ∧ S' (26 + 9 * p + 1) ≤ 47) (h2 : 0 ≤ S' (26 + 9 * p + 2) ∧ S' (26 + 9 * p + 2) ≤ 1) (h3 : 0 ≤ S' (26 + 9 * p + 3) ∧ S' (26 + 9 * p + 3) ≤ 7) (h4 : 1 ≤ S' (26 + 9 * p + 4) ∧ S' (26 + 9 * p + 4) ≤ 9) (h5 : 0 ≤ S' (26 + 9 * p + 5) ∧ S' (26 + 9 * p + 5) ≤ 3) (h6 : ∀ j, j < 3 → S' (26 + 9 * p + 6 + j) = S (26 + 9 * p + 6 + j)) : WF S' := by
  have hn := hW.n
  obtain ⟨g0, g1, g2, g3, g4, g5, g6, g7, g8, g9, g10, g11⟩ := hW
  have e0 := ho 0 (by omega)
  have e1 := ho 1 (by omega)
  have e5 := ho 5 (by omega)
  refine ⟨by rw [e0]; exact g0, by rw [e0, e1]; exact g1, by rw [ho 2 (by omega)]; exact g2, by rw [ho 3 (by omega)]; exact g3, by rw [ho 4 (by omega)]; exact g4, by rw [e5]; exact g5, ?_, ?_, ?_, ?_, ?_, ?_⟩
  · intro k hk
    rw [e1] at hk
    rw [e0, ho (6 + k) (by omega)]
    exact g6 k hk
  · intro j k hjk hk
    rw [e1] at hk
    rw [ho (6 + j) (by omega), ho (6 + k) (by omega)]
    exact g7 j k hjk hk
  · intro q hq
    have g := g8 q hq
    rw [e5]
    by_cases z : q = p
    · subst z
      have a0 := h6 0 (by omega)
      have a1 := h6 1 (by omega)
      have a2 := h6 2 (by omega)
      exact ⟨h0, h1, h2, h3, ⟨by omega, h4.2⟩, h5, by rw [show 26 + 9 * q + 6 = 26 + 9 * q + 6 + 0 from rfl, a0]; exact g.2.2.2.2.2.2.1, by rw [show 26 + 9 * q + 7 = 26 + 9 * q + 6 + 1 from rfl, a1]; exact g.2.2.2.2.2.2.2.1, by rw [show 26 + 9 * q + 8 = 26 + 9 * q + 6 + 2 from rfl, a2]; exact g.2.2.2.2.2.2.2.2⟩
    · rw [ho (26 + 9 * q) (by omega), ho (26 + 9 * q + 1) (by omega), ho (26 + 9 * q + 2) (by omega), ho (26 + 9 * q + 3) (by omega), ho (26 + 9 * q + 4) (by omega), ho (26 + 9 * q + 5) (by omega), ho (26 + 9 * q + 6) (by omega), ho (26 + 9 * q + 7) (by omega), ho (26 + 9 * q + 8) (by omega)]
      exact g
  · intro i hi
    rw [ho (206 + i) (by omega)]
    exact g9 i hi
  · intro q hq
    rw [e0] at hq
    by_cases z : q = p
    · subst z; exact h4.1
    · rw [ho (26 + 9 * q + 4) (by omega)]
      exact g10 q hq
  · intro q hq hs j hj
    rw [e0] at hs
    have : q ≠ p := by omega
    rw [ho (26 + 9 * q + j) (by omega)]
    exact g11 q hq hs j hj
theorem WF.mv {S : Nat → Int} (hW : WF S) {p : Nat} (hp : (p : Int) < S 0) {x y : Int} (hx : -15 ≤ x ∧ x ≤ 63) (hy : -15 ≤ y ∧ y ≤ 47) : WF (mvS S p x y) := by
  have hn := hW.n
  have g := hW.wp p (by omega)
  have gc := hW.2.2.2.2.2.2.2.2.2.2.1 p hp
  refine hW.pu p hp (fun i hi => mvS_n (by omega) (by omega)) ?_ ?_ ?_ ?_ ?_ ?_ (fun j hj => mvS_n (by omega) (by omega))
  · unfold mvS; rw [u1_n _ _ (by omega), u1_s]; exact hx
  · unfold mvS; rw [u1_s]; exact hy
  · rw [mvS_n (by omega) (by omega)]; exact g.2.2.1
  · rw [mvS_n (by omega) (by omega)]; exact g.2.2.2.1
  · rw [mvS_n (by omega) (by omega)]; exact ⟨gc, g.2.2.2.2.1.2⟩
  · rw [mvS_n (by omega) (by omega)]; exact g.2.2.2.2.2.1
theorem WF.tu {S : Nat → Int} (hW : WF S) {p : Nat} (hp : (p : Int) < S 0) {f : Int} (hf : 0 ≤ f ∧ f ≤ 3) : WF (u1 S (26 + 9 * p + 5) f) := by
  have hn := hW.n
  have g := hW.wp p (by omega)
  have gc := hW.2.2.2.2.2.2.2.2.2.2.1 p hp
  refine hW.pu p hp (fun i hi => u1_n _ _ (by omega)) ?_ ?_ ?_ ?_ ?_ ?_ (fun j hj => u1_n _ _ (by omega))
  · rw [u1_n _ _ (by omega)]; exact g.1
  · rw [u1_n _ _ (by omega)]; exact g.2.1
  · rw [u1_n _ _ (by omega)]; exact g.2.2.1
  · rw [u1_n _ _ (by omega)]; exact g.2.2.2.1
  · rw [u1_n _ _ (by omega)]; exact ⟨gc, g.2.2.2.2.1.2⟩
  · rw [u1_s]; exact hf
/-- what lies beside the order changes within its bounds -/
theorem WF.ot {S S' : Nat → Int} (hW : WF S) (ho : ∀ i, i < 206 → i ≠ 2 → i ≠ 3 → i ≠ 4 → S' i = S i) (h2 : 1 ≤ S' 2 ∧ S' 2 ≤ 8) (h3 : 0 ≤ S' 3 ∧ S' 3 ≤ 2) (h4 : 1 ≤ S' 4 ∧ S' 4 ≤ 19) (hp : ∀ i, i < 64 → 0 ≤ S' (206 + i) ∧ S' (206 + i) ≤ 255) : WF S' := by
  have hn := hW.n
  obtain ⟨g0, g1, g2, g3, g4, g5, g6, g7, g8, g9, g10, g11⟩ := hW
  have e0 := ho 0 (by omega) (by omega) (by omega) (by omega)
  have e1 := ho 1 (by omega) (by omega) (by omega) (by omega)
  have e5 := ho 5 (by omega) (by omega) (by omega) (by omega)
  refine ⟨by rw [e0]; exact g0, by rw [e0, e1]; exact g1, h2, h3, h4, by rw [e5]; exact g5, ?_, ?_, ?_, hp, ?_, ?_⟩
  · intro k hk
    rw [e1] at hk
    rw [e0, ho (6 + k) (by omega) (by omega) (by omega) (by omega)]
    exact g6 k hk
  · intro j k hjk hk
    rw [e1] at hk
    rw [ho (6 + j) (by omega) (by omega) (by omega) (by omega), ho (6 + k) (by omega) (by omega) (by omega) (by omega)]
    exact g7 j k hjk hk
  · intro q hq
    have g := g8 q hq
    have a : ∀ j, j < 9 → S' (26 + 9 * q + j) = S (26 + 9 * q + j) := fun j hj => ho _ (by omega) (by omega) (by omega) (by omega)
    rw [e5, a 1 (by omega), a 2 (by omega), a 3 (by omega), a 4 (by omega), a 5 (by omega), a 6 (by omega), a 7 (by omega), a 8 (by omega), show S' (26 + 9 * q) = S (26 + 9 * q) from a 0 (by omega)]
    exact g
  · intro q hq
    rw [e0] at hq
    rw [ho (26 + 9 * q + 4) (by omega) (by omega) (by omega) (by omega)]
    exact g10 q hq
  · intro q hq hs j hj
    rw [e0] at hs
    rw [ho (26 + 9 * q + j) (by omega) (by omega) (by omega) (by omega)]
    exact g11 q hq hs j hj
theorem WF.li {S : Nat → Int} (hW : WF S) {l : Int} (hl : 1 ≤ l ∧ l ≤ 8) : WF (u1 S 2 l) := by
  refine hW.ot (fun i _ h _ _ => u1_n _ _ h) (by rw [u1_s]; exact hl) (by rw [u1_n _ _ (by omega)]; exact hW.2.2.2.1) (by rw [u1_n _ _ (by omega)]; exact hW.2.2.2.2.1) (fun i hi => ?_)
  rw [u1_n _ _ (by omega)]
  exact hW.2.2.2.2.2.2.2.2.2.1 i hi
theorem WF.ru {S : Nat → Int} (hW : WF S) {a b : Int} (ha : 0 ≤ a ∧ a ≤ 2) (hb : 1 ≤ b ∧ b ≤ 19) : WF (u1 (u1 S 3 a) 4 b) := by
  refine hW.ot (fun i _ _ h3 h4 => by rw [u1_n _ _ h4, u1_n _ _ h3]) (by rw [u1_n _ _ (by omega), u1_n _ _ (by omega)]; exact hW.2.2.1) (by rw [u1_n _ _ (by omega), u1_s]; exact ha) (by rw [u1_s]; exact hb) (fun i hi => ?_)
  rw [u1_n _ _ (by omega), u1_n _ _ (by omega)]
  exact hW.2.2.2.2.2.2.2.2.2.1 i hi
theorem WF.pi {S : Nat → Int} (hW : WF S) {k : Nat} (hk : k < 64) {c : Int} (hc : 0 ≤ c ∧ c ≤ 255) : WF (u1 S (206 + k) c) := by
  refine hW.ot (fun i h _ _ _ => u1_n _ _ (by omega)) (by rw [u1_n _ _ (by omega)]; exact hW.2.2.1) (by rw [u1_n _ _ (by omega)]; exact hW.2.2.2.1) (by rw [u1_n _ _ (by omega)]; exact hW.2.2.2.2.1) (fun i hi => ?_)
  by_cases z : i = k
  · subst z; rw [u1_s]; exact hc
  · rw [u1_n _ _ (by omega)]
    exact hW.2.2.2.2.2.2.2.2.2.1 i hi
theorem WF.ro {S S' : Nat → Int} (hW : WF S) {n : Nat} {o : Nat → Nat} (h : ROrd S n o S') (hn : (n : Int) ≤ S 0) (ho : ∀ k, k < n → (o k : Int) < S 0) (hi : ∀ j k, j < k → k < n → o j ≠ o k) : WF S' := by
  obtain ⟨r1, r2, r3⟩ := h
  obtain ⟨g0, g1, g2, g3, g4, g5, g6, g7, g8, g9, g10, g11⟩ := hW
  have e0 := r3 0 (by omega) (by omega)
  have e5 := r3 5 (by omega) (by omega)
  refine ⟨by rw [e0]; exact g0, by rw [e0, r1]; omega, by rw [r3 2 (by omega) (by omega)]; exact g2, by rw [r3 3 (by omega) (by omega)]; exact g3, by rw [r3 4 (by omega) (by omega)]; exact g4, by rw [e5]; exact g5, ?_, ?_, ?_, ?_, ?_, ?_⟩
  · intro k hk
    have := ho k (by omega)
    rw [e0, r2 k (by omega)]
    omega
  · intro j k hjk hk
    rw [r2 j (by omega), r2 k (by omega)]
    have := hi j k hjk (by omega)
    omega
  · intro q hq
    have g := g8 q hq
    have a : ∀ j, j < 9 → S' (26 + 9 * q + j) = S (26 + 9 * q + j) := fun j hj => r3 _ (by omega) (by omega)
    rw [e5, a 1 (by omega), a 2 (by omega), a 3 (by omega), a 4 (by omega), a 5 (by omega), a 6 (by omega), a 7 (by omega), a 8 (by omega), show S' (26 + 9 * q) = S (26 + 9 * q) from a 0 (by omega)]
    exact g
  · intro i hi
    rw [r3 (206 + i) (by omega) (by omega)]
    exact g9 i hi
  · intro q hq
    rw [e0] at hq
    rw [r3 (26 + 9 * q + 4) (by omega) (by omega)]
    exact g10 q hq
  · intro q hq hs j hj
    rw [e0] at hs
    rw [r3 (26 + 9 * q + j) (by omega) (by omega)]
    exact g11 q hq hs j hj
theorem wf_nd {S : Nat → Int} (hW : WF S) {j k : Nat} (hj : j < (S 1).toNat) (hk : k < (S 1).toNat) (h : j ≠ k) : od S j ≠ od S k := fun z => h (wf_oi hW hj hk z)
theorem wf_out {S S' : Nat → Int} (hW : WF S) {q : Nat} (hq : q < (S 1).toNat) (h : ROrd S ((S 1).toNat - 1) (outO (od S) q) S') : WF S' := by
  have hn := hW.n
  refine hW.ro h (by omega) (fun k hk => ?_) (fun j k hjk hk => ?_)
  · unfold outO
    split
    · have := hW.od (k := k) (by omega); omega
    · have := hW.od (k := k + 1) (by omega); omega
  · unfold outO
    split <;> split <;> exact wf_nd hW (by omega) (by omega) (by omega)
theorem wf_lft {S S' : Nat → Int} (hW : WF S) {q : Nat} (hq : q < (S 1).toNat) (h : ROrd S (S 1).toNat (lftO (od S) q) S') : WF S' := by
  have hn := hW.n
  refine hW.ro h (by omega) (fun k hk => ?_) (fun j k hjk hk => ?_)
  · unfold lftO
    split
    · have := hW.od hq; omega
    · split
      · have := hW.od (k := k - 1) (by omega); omega
      · have := hW.od (k := k) (by omega); omega
  · unfold lftO
    split <;> split <;> (try split) <;> (try split) <;> first | omega | exact wf_nd hW (by omega) (by omega) (by omega)
theorem wf_low {S S' : Nat → Int} (hW : WF S) {q : Nat} (hq : q < (S 1).toNat) (h : ROrd S (S 1).toNat (lowO (od S) q (S 1).toNat) S') : WF S' := by
  have hn := hW.n
  refine hW.ro h (by omega) (fun k hk => ?_) (fun j k hjk hk => ?_)
  · unfold lowO
    split
    · have := hW.od (k := k) (by omega); omega
    · split
      · have := hW.od (k := k + 1) (by omega); omega
      · have := hW.od hq; omega
  · unfold lowO
    split <;> split <;> (try split) <;> (try split) <;> first | omega | exact wf_nd hW (by omega) (by omega) (by omega)
theorem ol_nd {o : Nat → Nat} {n : Nat} (h : ∀ j k, j < n → k < n → j ≠ k → o j ≠ o k) : (ol o n).Nodup := by
  unfold ol List.Nodup
  rw [List.pairwise_map]
  exact List.Pairwise.imp_of_mem (fun ha hb hab => h _ _ (List.mem_range.mp ha) (List.mem_range.mp hb) hab) List.nodup_range
theorem rot_ne {n s j k : Nat} (hj : j < n) (hk : k < n) (h : j < k) : (j + s) % n ≠ (k + s) % n := by
  intro e
  have h1 := Nat.sub_mod_eq_zero_of_mod_eq e.symm
  rw [show k + s - (j + s) = k - j by omega, Nat.mod_eq_of_lt (by omega)] at h1
  omega
theorem turnL_nd {B : Nat → Bool} {rule : Int} {step n : Nat} {o : Nat → Nat} (h : ∀ j k, j < n → k < n → j ≠ k → o j ≠ o k) : (turnL B rule step n o).Nodup := by
  unfold turnL
  split
  · exact (filt_perm B (ol o n)).nodup_iff.mpr (ol_nd h)
  · split
    · refine ol_nd (fun j k hj hk hjk => h _ _ (Nat.mod_lt _ (by omega)) (Nat.mod_lt _ (by omega)) ?_)
      rcases Nat.lt_or_gt_of_ne hjk with g | g
      · exact rot_ne hj hk g
      · exact (rot_ne hk hj g).symm
    · exact ol_nd h
theorem fl_ne {l : List Nat} (h : l.Nodup) {j k : Nat} (hjk : j < k) (hk : k < l.length) : fl l j ≠ fl l k := by
  unfold fl
  rw [List.getD_eq_getElem?_getD, List.getD_eq_getElem?_getD, List.getElem?_eq_getElem hk, List.getElem?_eq_getElem (show j < l.length by omega)]
  exact List.pairwise_iff_getElem.mp h j k (by omega) hk hjk
theorem frP_6 {T : Nat → Int} {b : Bool} {p : Nat} : frP T b p (26 + 9 * p + 6) = T (26 + 9 * p + 6) + (if b then 1 else 0) := by
  unfold frP
  rw [u1_n _ _ (by omega), u1_n _ _ (by omega), u1_s]
theorem frP_7 {T : Nat → Int} {b : Bool} {p : Nat} : frP T b p (26 + 9 * p + 7) = (if b then T (26 + 9 * p + 7) + 1 else 0) := by
  unfold frP
  rw [u1_n _ _ (by omega), u1_s]
theorem frP_8 {T : Nat → Int} {b : Bool} {p : Nat} : frP T b p (26 + 9 * p + 8) = (if (if b then T (26 + 9 * p + 7) + 1 else 0) ≤ T (26 + 9 * p + 8) then T (26 + 9 * p + 8) else (if b then T (26 + 9 * p + 7) + 1 else 0)) := by
  unfold frP
  rw [u1_s]
theorem frC_b {S : Nat → Int} (hW : WF S) (hd : Nat → Bool) : ∀ k, k ≤ (S 1).toNat → ∀ p, p < 20 → (0 ≤ frC S hd k (26 + 9 * p + 6) ∧ frC S hd k (26 + 9 * p + 6) ≤ S 5 + 1) ∧ (0 ≤ frC S hd k (26 + 9 * p + 7) ∧ frC S hd k (26 + 9 * p + 7) ≤ S 5 + 1) ∧ (0 ≤ frC S hd k (26 + 9 * p + 8) ∧ frC S hd k (26 + 9 * p + 8) ≤ S 5 + 1)
  | 0, _, p, hp => by
    have := hW.wp p hp
    show (0 ≤ S (26 + 9 * p + 6) ∧ S (26 + 9 * p + 6) ≤ S 5 + 1) ∧ (0 ≤ S (26 + 9 * p + 7) ∧ S (26 + 9 * p + 7) ≤ S 5 + 1) ∧ (0 ≤ S (26 + 9 * p + 8) ∧ S (26 + 9 * p + 8) ≤ S 5 + 1)
    omega
  | k + 1, hk, p, hp => by
    have ih := frC_b hW hd k (by omega) p hp
    by_cases z : p = od S k
    · have g := hW.wp p hp
      have hne : ∀ j, j < k → od S j ≠ p := fun j hj => by rw [z]; exact wf_nd hW (by omega) (by omega) (by omega)
      have e6 : frC S hd k (26 + 9 * p + 6) = S (26 + 9 * p + 6) := frC_p (by omega) hne
      have e7 : frC S hd k (26 + 9 * p + 7) = S (26 + 9 * p + 7) := frC_p (by omega) hne
      have e8 : frC S hd k (26 + 9 * p + 8) = S (26 + 9 * p + 8) := frC_p (by omega) hne
      have ef : frC S hd (k + 1) = frP (frC S hd k) (hd p) p := by rw [z]; rfl
      rw [ef, frP_6, frP_7, frP_8, e6, e7, e8]
      cases hd p <;> simp only [if_true, Bool.false_eq_true, if_false] <;> refine ⟨by omega, by omega, ?_⟩ <;> split <;> omega
    · have ef : ∀ i, i < 9 → frC S hd (k + 1) (26 + 9 * p + i) = frC S hd k (26 + 9 * p + i) := fun i hi => frP_o (by omega) (by omega) (by omega)
      rw [ef 6 (by omega), ef 7 (by omega), ef 8 (by omega)]
      exact ih
theorem wf_fr {S S' : Nat → Int} (hW : WF S) (h : RFr S S') (h5 : S 5 ≠ 9999) : WF S' := by
  obtain ⟨r5, r2, r3⟩ := h
  have hn := hW.n
  have hb : ∀ j, j < (S 1).toNat → od S j < 20 := fun j hj => (hW.od hj).2.1
  have hC := fun p hp => frC_b hW (hdd S) (S 1).toNat (Nat.le_refl _) p hp
  have lo : ∀ i, i ≠ 5 → ¬ (6 ≤ i ∧ i < 26) → (i < 26 ∨ 206 ≤ i) → S' i = S i := fun i h1 h2 h3 => (r3 i h1 h2).trans (frC_o hb h3)
  have pu : ∀ p i, i < 6 → S' (26 + 9 * p + i) = S (26 + 9 * p + i) := fun p i hi => (r3 _ (by omega) (by omega)).trans (frC_c hi)
  have hl : ∀ k, k < (S 1).toNat → ∃ j, j < (S 1).toNat ∧ od S j = fl (turnL (hdd S) (S 3) (S 4).toNat (S 1).toNat (od S)) k := fun k hk => turnL_mem (fl_mem (by rw [turnL_len]; exact hk))
  obtain ⟨g0, g1, g2, g3, g4, g5, g6, g7, g8, g9, g10, g11⟩ := id hW
  have e0 := lo 0 (by omega) (by omega) (by omega)
  have e1 := lo 1 (by omega) (by omega) (by omega)
  refine ⟨by rw [e0]; exact g0, by rw [e0, e1]; exact g1, by rw [lo 2 (by omega) (by omega) (by omega)]; exact g2, by rw [lo 3 (by omega) (by omega) (by omega)]; exact g3, by rw [lo 4 (by omega) (by omega) (by omega)]; exact g4, by rw [r5]; omega, ?_, ?_, ?_, ?_, ?_, ?_⟩
  · intro k hk
    rw [e1] at hk
    rw [e0, r2 k hk]
    obtain ⟨j, hj, e⟩ := hl k hk
    rw [← e]
    have := hW.od hj
    omega
  · intro j k hjk hk
    rw [e1] at hk
    rw [r2 j (by omega), r2 k hk]
    have := fl_ne (turnL_nd (B := hdd S) (rule := S 3) (step := (S 4).toNat) (o := od S) (fun j k hj hk hjk => wf_nd hW hj hk hjk)) hjk (by rw [turnL_len]; exact hk)
    omega
  · intro q hq
    have g := g8 q hq
    have c := hC q hq
    rw [r5, pu q 1 (by omega), pu q 2 (by omega), pu q 3 (by omega), pu q 4 (by omega), pu q 5 (by omega), show S' (26 + 9 * q) = S (26 + 9 * q) from pu q 0 (by omega), r3 (26 + 9 * q + 6) (by omega) (by omega), r3 (26 + 9 * q + 7) (by omega) (by omega), r3 (26 + 9 * q + 8) (by omega) (by omega)]
    exact ⟨g.1, g.2.1, g.2.2.1, g.2.2.2.1, g.2.2.2.2.1, g.2.2.2.2.2.1, c⟩
  · intro i hi
    rw [lo (206 + i) (by omega) (by omega) (by omega)]
    exact g9 i hi
  · intro q hq
    rw [e0] at hq
    rw [pu q 4 (by omega)]
    exact g10 q hq
  · intro q hq hs j hj
    rw [e0] at hs
    rw [r3 (26 + 9 * q + j) (by omega) (by omega), frC_p hj (fun i hi => by have := hW.od hi; omega)]
    exact g11 q hq hs j hj
theorem wf_rs {S G : Nat → Int} (hG : WF G) : WF (rsS S G) := by
  have e : Eqv G (rsS S G) := fun i hi _ => if_pos hi
  exact e.wf hG
theorem wf_cm {S : Nat → Int} (hW : WF S) {x y t g c : Int} (h20 : S 0 ≠ 20) (hx : -15 ≤ x ∧ x ≤ 63) (hy : -15 ≤ y ∧ y ≤ 47) (ht : 0 ≤ t ∧ t ≤ 1) (hg : 0 ≤ g ∧ g ≤ 7) (hc : 1 ≤ c ∧ c ≤ 9) : WF (cmS S x y t g c) := by
  have hn := hW.n
  obtain ⟨g0, g1, g2, g3, g4, g5, g6, g7, g8, g9, g10, g11⟩ := id hW
  obtain ⟨p, hp⟩ : ∃ p : Nat, S 0 = p := ⟨(S 0).toNat, by omega⟩
  obtain ⟨m, hm⟩ : ∃ m : Nat, S 1 = m := ⟨(S 1).toNat, by omega⟩
  have hz := g11 p (by omega) (by omega)
  have hcs : ∀ i, cmS S x y t g c i = if i = 26 + 9 * p + 4 then c else if i = 26 + 9 * p + 3 then g else if i = 26 + 9 * p + 2 then t else if i = 26 + 9 * p + 1 then y else if i = 26 + 9 * p then x else if i = 1 then S 1 + 1 else if i = 6 + m then S 0 else if i = 0 then S 0 + 1 else S i := by
    intro i
    unfold cmS
    rw [show (S 0).toNat = p by omega, show (S 1).toNat = m by omega]
    simp only [u1_app]
  have hot : ∀ i, i ≠ 0 → i ≠ 1 → i ≠ 6 + m → ¬ (26 + 9 * p ≤ i ∧ i < 26 + 9 * p + 5) → cmS S x y t g c i = S i := by
    intro i h0 h1 h2 h3
    rw [hcs, if_neg (by omega), if_neg (by omega), if_neg (by omega), if_neg (by omega), if_neg (by omega), if_neg (by omega), if_neg (by omega), if_neg (by omega)]
  have e0 : cmS S x y t g c 0 = S 0 + 1 := by rw [hcs, if_neg (by omega), if_neg (by omega), if_neg (by omega), if_neg (by omega), if_neg (by omega), if_neg (by omega), if_neg (by omega), if_pos rfl]
  have e1 : cmS S x y t g c 1 = S 1 + 1 := by rw [hcs, if_neg (by omega), if_neg (by omega), if_neg (by omega), if_neg (by omega), if_neg (by omega), if_pos rfl]
  have em : cmS S x y t g c (6 + m) = S 0 := by rw [hcs, if_neg (by omega), if_neg (by omega), if_neg (by omega), if_neg (by omega), if_neg (by omega), if_neg (by omega), if_pos rfl]
  refine ⟨by rw [e0]; omega, by rw [e0, e1]; omega, by rw [hot 2 (by omega) (by omega) (by omega) (by omega)]; exact g2, by rw [hot 3 (by omega) (by omega) (by omega) (by omega)]; exact g3, by rw [hot 4 (by omega) (by omega) (by omega) (by omega)]; exact g4, by rw [hot 5 (by omega) (by omega) (by omega) (by omega)]; exact g5, ?_, ?_, ?_, ?_, ?_, ?_⟩
  · intro k hk
    rw [e1] at hk
    rw [e0]
    by_cases z : k = m
    · subst z; rw [em]; omega
    · rw [hot (6 + k) (by omega) (by omega) (by omega) (by omega)]
      have := g6 k (by omega)
      omega
  · intro j k hjk hk
    rw [e1] at hk
    rw [hot (6 + j) (by omega) (by omega) (by omega) (by omega)]
    by_cases z : k = m
    · subst z
      rw [em]
      have := g6 j (by omega)
      omega
    · rw [hot (6 + k) (by omega) (by omega) (by omega) (by omega)]
      exact g7 j k hjk (by omega)
  · intro q hq
    have gq := g8 q hq
    rw [hot 5 (by omega) (by omega) (by omega) (by omega), hot (26 + 9 * q + 5) (by omega) (by omega) (by omega) (by omega), hot (26 + 9 * q + 6) (by omega) (by omega) (by omega) (by omega), hot (26 + 9 * q + 7) (by omega) (by omega) (by omega) (by omega), hot (26 + 9 * q + 8) (by omega) (by omega) (by omega) (by omega)]
    by_cases z : q = p
    · subst z
      have a0 : cmS S x y t g c (26 + 9 * q) = x := by rw [hcs, if_neg (by omega), if_neg (by omega), if_neg (by omega), if_neg (by omega), if_pos rfl]
      have a1 : cmS S x y t g c (26 + 9 * q + 1) = y := by rw [hcs, if_neg (by omega), if_neg (by omega), if_neg (by omega), if_pos rfl]
      have a2 : cmS S x y t g c (26 + 9 * q + 2) = t := by rw [hcs, if_neg (by omega), if_neg (by omega), if_pos rfl]
      have a3 : cmS S x y t g c (26 + 9 * q + 3) = g := by rw [hcs, if_neg (by omega), if_pos rfl]
      have a4 : cmS S x y t g c (26 + 9 * q + 4) = c := by rw [hcs, if_pos rfl]
      rw [a0, a1, a2, a3, a4]
      exact ⟨hx, hy, ht, hg, ⟨by omega, hc.2⟩, gq.2.2.2.2.2⟩
    · rw [hot (26 + 9 * q) (by omega) (by omega) (by omega) (by omega), hot (26 + 9 * q + 1) (by omega) (by omega) (by omega) (by omega), hot (26 + 9 * q + 2) (by omega) (by omega) (by omega) (by omega), hot (26 + 9 * q + 3) (by omega) (by omega) (by omega) (by omega), hot (26 + 9 * q + 4) (by omega) (by omega) (by omega) (by omega)]
      exact gq
  · intro i hi
    rw [hot (206 + i) (by omega) (by omega) (by omega) (by omega)]
    exact g9 i hi
  · intro q hq
    rw [e0] at hq
    by_cases z : q = p
    · subst z
      rw [hcs, if_pos rfl]
      exact hc.1
    · rw [hot (26 + 9 * q + 4) (by omega) (by omega) (by omega) (by omega)]
      exact g10 q (by omega)
  · intro q hq hs j hj
    rw [e0] at hs
    rw [hot (26 + 9 * q + j) (by omega) (by omega) (by omega) (by omega)]
    exact g11 q hq (by omega) j hj
