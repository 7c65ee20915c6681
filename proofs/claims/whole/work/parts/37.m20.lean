/-! states that differ in what no answer shows -/
def Eqv (S S' : Nat → Int) : Prop := ∀ i, i < 270 → (i < 6 + (S 1).toNat ∨ 26 ≤ i) → S' i = S i
theorem Eqv.rf (S : Nat → Int) : Eqv S S := fun _ _ _ => rfl
theorem Eqv.n {S S' : Nat → Int} (e : Eqv S S') : S' 1 = S 1 := e 1 (by omega) (by omega)
theorem Eqv.sy {S S' : Nat → Int} (e : Eqv S S') : Eqv S' S := fun i h1 h2 => (e i h1 (by rw [e.n] at h2; exact h2)).symm
theorem Eqv.tr {S S1 S2 : Nat → Int} (a : Eqv S S1) (b : Eqv S1 S2) : Eqv S S2 := fun i h1 h2 => (b i h1 (by rw [a.n]; exact h2)).trans (a i h1 h2)
theorem Eqv.od {S S' : Nat → Int} (e : Eqv S S') (hW : WF S) {k : Nat} (hk : k < (S 1).toNat) : od S' k = od S k := by
  have := hW.n
  exact congrArg Int.toNat (e (6 + k) (by omega) (by omega))
theorem Eqv.wf {S S' : Nat → Int} (e : Eqv S S') (hW : WF S) : WF S' := by
  have hn := hW.n
  obtain ⟨h0, h1, h2, h3, h4, h5, h6, h7, h8, h9, h10, h11⟩ := hW
  refine ⟨?_, ?_, ?_, ?_, ?_, ?_, ?_, ?_, ?_, ?_, ?_, ?_⟩
  · rw [e 0 (by omega) (by omega)]; exact h0
  · rw [e 0 (by omega) (by omega), e.n]; exact h1
  · rw [e 2 (by omega) (by omega)]; exact h2
  · rw [e 3 (by omega) (by omega)]; exact h3
  · rw [e 4 (by omega) (by omega)]; exact h4
  · rw [e 5 (by omega) (by omega)]; exact h5
  · intro k hk
    rw [e.n] at hk
    rw [e 0 (by omega) (by omega), e (6 + k) (by omega) (by omega)]
    exact h6 k hk
  · intro j k hjk hk
    rw [e.n] at hk
    rw [e (6 + j) (by omega) (by omega), e (6 + k) (by omega) (by omega)]
    exact h7 j k hjk hk
  · intro p hp
    rw [e (26 + 9 * p) (by omega) (by omega), e (26 + 9 * p + 1) (by omega) (by omega), e (26 + 9 * p + 2) (by omega) (by omega), e (26 + 9 * p + 3) (by omega) (by omega), e (26 + 9 * p + 4) (by omega) (by omega), e (26 + 9 * p + 5) (by omega) (by omega), e (26 + 9 * p + 6) (by omega) (by omega), e (26 + 9 * p + 7) (by omega) (by omega), e (26 + 9 * p + 8) (by omega) (by omega), e 5 (by omega) (by omega)]
    exact h8 p hp
  · intro i hi
    rw [e (206 + i) (by omega) (by omega)]
    exact h9 i hi
  · intro p hp
    rw [e 0 (by omega) (by omega)] at hp
    rw [e (26 + 9 * p + 4) (by omega) (by omega)]
    exact h10 p hp
  · intro p hp hs j hj
    rw [e 0 (by omega) (by omega)] at hs
    rw [e (26 + 9 * p + j) (by omega) (by omega)]
    exact h11 p hp hs j hj
theorem Eqv.pos {S S' : Nat → Int} (e : Eqv S S') (hW : WF S) (p : Int) : pos S' p (S' 1).toNat = pos S p (S 1).toNat := by
  have hn := hW.n
  have : ∀ k, k ≤ (S 1).toNat → Jvm.Pilot.CPuppetTurnsLaw_law_r5978_f2d878.pos S' p k = Jvm.Pilot.CPuppetTurnsLaw_law_r5978_f2d878.pos S p k := by
    intro k
    induction k with
    | zero => intro _; rfl
    | succ k ih =>
      intro hk
      unfold Jvm.Pilot.CPuppetTurnsLaw_law_r5978_f2d878.pos
      rw [e (6 + k) (by omega) (by omega), ih (by omega)]
  rw [e.n]
  exact this _ (Nat.le_refl _)
theorem Eqv.hgh {S S' : Nat → Int} (e : Eqv S S') {p : Nat} (hp : p < 20) : hgh S' p = hgh S p := by
  unfold Jvm.Pilot.CPuppetTurnsLaw_law_r5978_f2d878.hgh
  rw [e (26 + 9 * p + 2) (by omega) (by omega)]
theorem Eqv.stn {S S' : Nat → Int} (e : Eqv S S') {p : Nat} (hp : p < 20) (y : Int) : stn S' p y = stn S p y := by
  unfold Jvm.Pilot.CPuppetTurnsLaw_law_r5978_f2d878.stn
  rw [e (26 + 9 * p + 1) (by omega) (by omega), e.hgh hp]
theorem Eqv.cn {S S' : Nat → Int} (e : Eqv S S') {o o' : Nat → Nat} {k : Nat} (ho : ∀ j, j < k → o' j = o j ∧ o j < 20) (y : Int) : cn S' o' y k = cn S o y k := by
  refine sm_congr (fun j hj => ?_)
  have := ho j hj
  rw [this.1]
  exact ite_congr (e.stn this.2 y) (fun _ => rfl) (fun _ => rfl)
theorem Eqv.hA {S S' : Nat → Int} (e : Eqv S S') {o o' : Nat → Nat} {k : Nat} (ho : ∀ j, j ≤ k → o' j = o j ∧ o j < 20) (y : Nat) : hA S' o' y k = hA S o y k := by
  unfold Jvm.Pilot.CPuppetTurnsLaw_law_r5978_f2d878.hA
  have h1 := e.cn (k := k + 1) (fun j hj => ho j (by omega)) (y : Int)
  have h2 := ho k (Nat.le_refl _)
  rw [h1, h2.1, e 2 (by omega) (by omega)]
  exact ite_congr (by rw [e.stn h2.2 (y : Int)]) (fun _ => rfl) (fun _ => rfl)
theorem Eqv.hT {S S' : Nat → Int} (e : Eqv S S') {o o' : Nat → Nat} {k : Nat} (ho : ∀ j, j < k → o' j = o j ∧ o j < 20) (y p : Nat) : hT S' o' k y p = hT S o k y p := by
  refine sm_congr (fun l _ => sm_congr (fun j hj => ?_))
  rw [(ho j hj).1, e.hA (fun i hi => ho i (by omega)) l]
theorem Eqv.hdd {S S' : Nat → Int} (e : Eqv S S') (hW : WF S) : hdd S' = hdd S := by
  funext p
  unfold Jvm.Pilot.CPuppetTurnsLaw_law_r5978_f2d878.hdd
  rw [e.n, e.hT (fun j hj => ⟨e.od hW hj, (hW.od hj).2.1⟩)]
theorem turnL_cg {B : Nat → Bool} {rule : Int} {step n : Nat} {o o' : Nat → Nat} (h : ∀ k, k < n → o' k = o k) : turnL B rule step n o' = turnL B rule step n o := by
  unfold turnL
  rw [ol_congr h, ol_congr (o := fun k => o' ((k + step) % n)) (o' := fun k => o ((k + step) % n)) (fun k hk => h _ (Nat.mod_lt _ (by omega)))]
theorem frP_cg {T T' : Nat → Int} {b : Bool} {p i : Nat} (hi : T' i = T i) (h1 : T' (26 + 9 * p + 6) = T (26 + 9 * p + 6)) (h2 : T' (26 + 9 * p + 7) = T (26 + 9 * p + 7)) (h3 : T' (26 + 9 * p + 8) = T (26 + 9 * p + 8)) : frP T' b p i = frP T b p i := by
  unfold frP
  rw [h1, h2, h3]
  simp only [u1_app]
  rw [hi]
theorem Eqv.frC {S S' : Nat → Int} (e : Eqv S S') (hW : WF S) (hd : Nat → Bool) : ∀ k, k ≤ (S 1).toNat → ∀ i, i < 270 → (i < 6 + (S 1).toNat ∨ 26 ≤ i) → frC S' hd k i = frC S hd k i
  | 0, _, i, h1, h2 => e i h1 h2
  | k + 1, hk, i, h1, h2 => by
    have ho := e.od hW (k := k) (by omega)
    have hb := (hW.od (k := k) (by omega)).2.1
    have ih := e.frC hW hd k (by omega)
    show frP (Jvm.Pilot.CPuppetTurnsLaw_law_r5978_f2d878.frC S' hd k) (hd (Jvm.Pilot.CPuppetTurnsLaw_law_r5978_f2d878.od S' k)) (Jvm.Pilot.CPuppetTurnsLaw_law_r5978_f2d878.od S' k) i = frP (Jvm.Pilot.CPuppetTurnsLaw_law_r5978_f2d878.frC S hd k) (hd (Jvm.Pilot.CPuppetTurnsLaw_law_r5978_f2d878.od S k)) (Jvm.Pilot.CPuppetTurnsLaw_law_r5978_f2d878.od S k) i
    rw [ho]
    exact frP_cg (ih i h1 h2) (ih _ (by omega) (by omega)) (ih _ (by omega) (by omega)) (ih _ (by omega) (by omega))
/-- an order, the state behind a frame -/
def ordS (S : Nat → Int) (n : Nat) (o : Nat → Nat) : Nat → Int := fun i => if i = 1 then (n : Int) else if 6 ≤ i ∧ i < 26 then (o (i - 6) : Int) else S i
def frS (S : Nat → Int) : Nat → Int := fun i => if i = 5 then S 5 + 1 else if 6 ≤ i ∧ i < 26 then (fl (turnL (hdd S) (S 3) (S 4).toNat (S 1).toNat (od S)) (i - 6) : Int) else frC S (hdd S) (S 1).toNat i
theorem ord_eqv {S S' : Nat → Int} {n : Nat} {o : Nat → Nat} (h : ROrd S n o S') : Eqv (ordS S n o) S' := by
  obtain ⟨h1, h2, h3⟩ := h
  intro i hi hg
  have : ordS S n o 1 = n := rfl
  rw [this] at hg
  by_cases z1 : i = 1
  · rw [z1]; exact h1
  · by_cases z2 : 6 ≤ i ∧ i < 26
    · have : ordS S n o i = o (i - 6) := by unfold ordS; rw [if_neg z1, if_pos z2]
      rw [this, ← h2 (i - 6) (by omega)]
      congr 1
      omega
    · have : ordS S n o i = S i := by unfold ordS; rw [if_neg z1, if_neg z2]
      rw [this, h3 i z1 z2]
theorem frS_1 {S : Nat → Int} (hW : WF S) : frS S 1 = S 1 := by
  show frC S (hdd S) (S 1).toNat 1 = S 1
  exact frC_o (fun j hj => (hW.od hj).2.1) (by omega)
theorem fr_eqv {S S' : Nat → Int} (hW : WF S) (h : RFr S S') : Eqv (frS S) S' := by
  obtain ⟨h1, h2, h3⟩ := h
  intro i hi hg
  rw [frS_1 hW] at hg
  by_cases z1 : i = 5
  · rw [z1]; exact h1
  · by_cases z2 : 6 ≤ i ∧ i < 26
    · have : frS S i = fl (turnL (hdd S) (S 3) (S 4).toNat (S 1).toNat (od S)) (i - 6) := by unfold frS; rw [if_neg z1, if_pos z2]
      rw [this, ← h2 (i - 6) (by omega)]
      congr 1
      omega
    · have : frS S i = frC S (hdd S) (S 1).toNat i := by unfold frS; rw [if_neg z1, if_neg z2]
      rw [this, h3 i z1 z2]
theorem ordS_cg {S S' : Nat → Int} {n : Nat} {o o' : Nat → Nat} (hS : ∀ i, i < 270 → ¬ (6 ≤ i ∧ i < 26) → S' i = S i) (ho : ∀ k, k < n → o' k = o k) : Eqv (ordS S n o) (ordS S' n o') := by
  intro i hi hg
  have : ordS S n o 1 = n := rfl
  rw [this] at hg
  unfold ordS
  by_cases z1 : i = 1
  · rw [if_pos z1, if_pos z1]
  · rw [if_neg z1, if_neg z1]
    by_cases z2 : 6 ≤ i ∧ i < 26
    · rw [if_pos z2, if_pos z2, ho _ (by omega)]
    · rw [if_neg z2, if_neg z2, hS i hi z2]
theorem frS_cg {S S' : Nat → Int} (e : Eqv S S') (hW : WF S) : Eqv (frS S) (frS S') := by
  intro i hi hg
  rw [frS_1 hW] at hg
  have hn := hW.n
  unfold frS
  rw [e 5 (by omega) (by omega), e.n, e.hdd hW, e 3 (by omega) (by omega), e 4 (by omega) (by omega), turnL_cg (fun k hk => e.od hW hk)]
  by_cases z1 : i = 5
  · rw [if_pos z1, if_pos z1]
  · rw [if_neg z1, if_neg z1]
    by_cases z2 : 6 ≤ i ∧ i < 26
    · rw [if_pos z2, if_pos z2]
    · rw [if_neg z2, if_neg z2]
      exact e.frC hW (hdd S) _ (Nat.le_refl _) i hi (by omega)
