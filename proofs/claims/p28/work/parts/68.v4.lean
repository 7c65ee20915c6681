/-! sums over puppets, lines, the order -/
theorem sm_swap (f : Nat → Nat → Nat) (a : Nat) : ∀ b : Nat, sm (fun i => sm (f i) a) b = sm (fun j => sm (fun i => f i j) b) a
  | 0 => by
    have : ∀ a, sm (fun _ => 0) a = 0 := fun a => sm_zero.mpr (fun _ _ => rfl)
    simp only [sm, this]
  | b + 1 => by
    simp only [sm, sm_swap f a b, sm_add]
theorem sm_one {f : Nat → Nat} {j0 : Nat} : ∀ {n : Nat}, j0 < n → (∀ j, j < n → j ≠ j0 → f j = 0) → sm f n = f j0
  | 0, h, _ => by omega
  | n + 1, h, hz => by
    by_cases z : j0 = n
    · subst z
      have e : sm f j0 = 0 := sm_zero.mpr (fun i hi => hz i (by omega) (by omega))
      simp only [sm, e]
      omega
    · have e := sm_one (f := f) (j0 := j0) (n := n) (by omega) (fun j hj => hz j (by omega))
      have e2 := hz n (by omega) (fun w => z w.symm)
      simp only [sm, e, e2]
      omega
theorem thr_od {S : Nat → Int} (hW : WF S) {p : Nat} : thr S (p : Int) ↔ ∃ k, k < (S 1).toNat ∧ od S k = p := by
  constructor
  · intro g
    obtain ⟨g1, g2, g3⟩ := thr_pos g
    have := (hW.od g1).1
    exact ⟨_, g1, by omega⟩
  · rintro ⟨k, hk, e⟩
    have g := thr_at hW hk
    rw [(hW.od hk).1, e] at g
    exact g
theorem sm_od {S : Nat → Int} (hW : WF S) (g : Nat → Nat) : sm (fun p => if thr S (p : Int) then g p else 0) (S 0).toNat = sm (fun j => g (od S j)) (S 1).toNat := by
  have e1 : ∀ p, p < (S 0).toNat → (if thr S (p : Int) then g p else 0) = sm (fun j => if od S j = p then g p else 0) (S 1).toNat := by
    intro p hp
    by_cases z : thr S (p : Int)
    · obtain ⟨k, hk, e⟩ := (thr_od hW).mp z
      have e3 := sm_one (f := fun j => if od S j = p then g p else 0) hk (fun j hj hne => if_neg (fun w => hne (wf_oi hW hj hk (w.trans e.symm))))
      rw [if_pos z, e3, if_pos e]
    · have e3 : sm (fun j => if od S j = p then g p else 0) (S 1).toNat = 0 := sm_zero.mpr (fun j hj => if_neg (fun w => z ((thr_od hW).mpr ⟨j, hj, w⟩)))
      rw [if_neg z, e3]
  rw [sm_congr e1, sm_swap (fun p j => if od S j = p then g p else 0) (S 1).toNat (S 0).toNat]
  refine sm_congr (fun j hj => ?_)
  have ho := hW.od hj
  have e3 := sm_one (f := fun p => if od S j = p then g p else 0) (n := (S 0).toNat) (j0 := od S j) (by omega) (fun p hp hne => if_neg (fun w => hne w.symm))
  rw [e3]
  exact if_pos rfl
/-- how many are hidden on a line -/
def hdL (S : Nat → Int) (l : Nat) : Nat := sm (fun j => hA S (od S) l j) (S 1).toNat
theorem hdL_s {S : Nat → Int} (h2 : 1 ≤ S 2) (o : Nat → Nat) (l : Nat) : ∀ k : Nat, ((sm (fun j => hA S o l j) k : Nat) : Int) = (cn S o l k : Int) - (if (cn S o l k : Int) < S 2 then (cn S o l k : Int) else S 2)
  | 0 => by
    show (0 : Int) = ((0 : Nat) : Int) - (if ((0 : Nat) : Int) < S 2 then ((0 : Nat) : Int) else S 2)
    rw [if_pos (by omega)]
    omega
  | k + 1 => by
    have ih := hdL_s h2 o l k
    have e : sm (fun j => hA S o l j) (k + 1) = sm (fun j => hA S o l j) k + hA S o l k := rfl
    rw [e, show hA S o l k = (if stn S (o k) l ∧ S 2 < (cn S o l (k + 1) : Int) then 1 else 0) from rfl]
    by_cases z : stn S (o k) l
    · rw [cn_t z]
      by_cases z2 : S 2 < ((cn S o l k + 1 : Nat) : Int)
      · rw [if_pos ⟨z, z2⟩]
        by_cases z3 : (cn S o l k : Int) < S 2
        · rw [if_pos z3] at ih
          rw [if_neg (by omega)]
          omega
        · rw [if_neg z3] at ih
          rw [if_neg (by omega)]
          omega
      · rw [if_neg (fun w => z2 w.2)]
        rw [if_pos (show (cn S o l k : Int) < S 2 by omega)] at ih
        by_cases z3 : ((cn S o l k + 1 : Nat) : Int) < S 2
        · rw [if_pos z3]; omega
        · rw [if_neg z3]; omega
    · rw [cn_f z, if_neg (fun w => z w.1)]
      rw [Nat.add_zero]
      exact ih
theorem hdL_is {S : Nat → Int} (hW : WF S) (l : Nat) : (hdL S l : Int) = (cn S (od S) l (S 1).toNat : Int) - (if (cn S (od S) l (S 1).toNat : Int) < S 2 then (cn S (od S) l (S 1).toNat : Int) else S 2) := hdL_s hW.lim.1 (od S) l (S 1).toNat
theorem hT_od {S : Nat → Int} (hW : WF S) {j : Nat} (hj : j < (S 1).toNat) (m : Nat) : hT S (od S) (S 1).toNat m (od S j) = sm (fun l => hA S (od S) l j) m := by
  refine sm_congr (fun l _ => ?_)
  have e := sm_one (f := fun i => if od S i = od S j then hA S (od S) l i else 0) hj (fun i hi hne => if_neg (fun w => hne (wf_oi hW hi hj w)))
  show sm (fun i => if od S i = od S j then hA S (od S) l i else 0) _ = _
  rw [e]
  exact if_pos rfl
theorem hT_sum {S : Nat → Int} (hW : WF S) : sm (fun p => if thr S (p : Int) then hT S (od S) (S 1).toNat 48 p else 0) (S 0).toNat = sm (hdL S) 48 := by
  rw [sm_od hW (fun p => hT S (od S) (S 1).toNat 48 p), sm_congr (fun j hj => hT_od hW hj 48), sm_swap (fun j l => hA S (od S) l j) 48 (S 1).toNat]
  rfl
theorem lns_sum {S : Nat → Int} (hW : WF S) : sm (fun p => if thr S (p : Int) then lns S p 48 else 0) (S 0).toNat = sm (fun l : Nat => cn S (od S) l (S 1).toNat) 48 := by
  rw [sm_od hW (fun p => lns S p 48)]
  exact sm_swap (fun j l => if stn S (od S j) (l : Int) then 1 else 0) 48 (S 1).toNat
theorem hT_nt {S : Nat → Int} (hW : WF S) {p : Nat} (h : ¬ thr S (p : Int)) : hT S (od S) (S 1).toNat 48 p = 0 := hT_no (fun k hk w => h ((thr_od hW).mpr ⟨k, hk, w⟩))
theorem hid_sum {S : Nat → Int} (hW : WF S) : sm (fun p => if thr S (p : Int) then (if 0 < hT S (od S) (S 1).toNat 48 p then 1 else 0) else 0) (S 0).toNat = hidN S := by
  have hn := hW.n
  unfold hidN
  have e : ∀ p, p < 20 → (if hdd S p then 1 else 0) = (if thr S (p : Int) then (if 0 < hT S (od S) (S 1).toNat 48 p then 1 else 0) else 0) := by
    intro p _
    by_cases z : thr S (p : Int)
    · rw [if_pos z]; simp [hdd]
    · rw [if_neg z]; simp [hdd, hT_nt hW z]
  rw [sm_congr e]
  refine (sm_tail (show (S 0).toNat ≤ 20 by omega) (fun p h1 h2 => if_neg (fun z => ?_))).symm
  have := thr_b hW z
  omega
/-- none is hidden on any line -/
theorem hid_none {S : Nat → Int} (hW : WF S) : hidN S = 0 ↔ ∀ l : Nat, l < 48 → (cn S (od S) l (S 1).toNat : Int) ≤ S 2 := by
  rw [← hid_sum hW, sm_od hW (fun p => if 0 < hT S (od S) (S 1).toNat 48 p then 1 else 0), sm_zero]
  have h2 := hW.lim
  constructor
  · intro h l hl
    have e : hdL S l = 0 := sm_zero.mpr (fun j hj => by
      have h1 := h j hj
      have h3 : hT S (od S) (S 1).toNat 48 (od S j) = 0 := by
        by_cases z : 0 < hT S (od S) (S 1).toNat 48 (od S j)
        · rw [if_pos z] at h1; cases h1
        · omega
      rw [hT_od hW hj] at h3
      exact sm_zero.mp h3 l hl)
    have := hdL_is hW l
    rw [e] at this
    by_cases z : (cn S (od S) l (S 1).toNat : Int) < S 2
    · omega
    · rw [if_neg z] at this; omega
  · intro h j hj
    have e : hT S (od S) (S 1).toNat 48 (od S j) = 0 := by
      rw [hT_od hW hj]
      refine sm_zero.mpr (fun l hl => ?_)
      have h1 := h l hl
      have h3 := hdL_is hW l
      have h4 : hdL S l = 0 := by
        by_cases z : (cn S (od S) l (S 1).toNat : Int) < S 2
        · rw [if_pos z] at h3; omega
        · rw [if_neg z] at h3; omega
      exact sm_zero.mp h4 j hj
    rw [e]
    exact if_neg (by omega)
/-! positions, as bits -/
def PB (S : Nat → Int) : Nat → Nat
  | 0 => 0
  | k + 1 => if thr S (k : Int) then PB S k ||| 2 ^ (pos S (k : Int) (S 1).toNat).toNat else PB S k
theorem PB_b {S : Nat → Int} (hW : WF S) : ∀ k, PB S k < 2 ^ 20
  | 0 => show 0 < 2 ^ 20 by decide
  | k + 1 => by
    have hn := hW.n
    unfold PB
    by_cases z : thr S (k : Int)
    · rw [if_pos z]
      have := thr_pos z
      exact bit_or_b (PB_b hW k) (by omega)
    · rw [if_neg z]; exact PB_b hW k
theorem PB_t {S : Nat → Int} (i : Nat) : ∀ k, (PB S k).testBit i = true ↔ ∃ p : Nat, p < k ∧ thr S (p : Int) ∧ (pos S (p : Int) (S 1).toNat).toNat = i
  | 0 => by
    constructor
    · intro h; simp [PB] at h
    · rintro ⟨p, h, -⟩; omega
  | k + 1 => by
    have ih := PB_t (S := S) i k
    unfold PB
    by_cases z : thr S (k : Int)
    · rw [if_pos z, bit_or_t, Bool.or_eq_true, ih]
      constructor
      · rintro (⟨p, h1, h2⟩ | h)
        · exact ⟨p, by omega, h2⟩
        · exact ⟨k, by omega, z, of_decide_eq_true h⟩
      · rintro ⟨p, h1, h2, h3⟩
        by_cases e : p = k
        · subst e; exact Or.inr (decide_eq_true h3)
        · exact Or.inl ⟨p, by omega, h2, h3⟩
    · rw [if_neg z, ih]
      constructor
      · rintro ⟨p, h1, h2⟩; exact ⟨p, by omega, h2⟩
      · rintro ⟨p, h1, h2, h3⟩
        refine ⟨p, ?_, h2, h3⟩
        by_cases e : p = k
        · subst e; exact absurd h2 z
        · omega
theorem PB_all {S : Nat → Int} (hW : WF S) : PB S (S 0).toNat = 2 ^ (S 1).toNat - 1 := by
  apply Nat.eq_of_testBit_eq
  intro i
  rw [Nat.testBit_two_pow_sub_one]
  by_cases hi : i < (S 1).toNat
  · rw [decide_eq_true hi]
    have ho := hW.od hi
    refine (PB_t i _).mpr ⟨od S i, by omega, (thr_od hW).mpr ⟨i, hi, rfl⟩, ?_⟩
    rw [pos_is hW hi ho.1]
    omega
  · rw [decide_eq_false hi]
    refine Bool.eq_false_iff.mpr (fun h => ?_)
    obtain ⟨p, h1, h2, h3⟩ := (PB_t i _).mp h
    have := thr_pos h2
    omega
