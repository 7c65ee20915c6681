/-! what the law asks of answers that belong together -/
section
variable {S : Nat → Int} {n : Nat} {H : Nat → Nat → Int} {N : Nat} {T : Nat → Nat} {f : Nat} {G : Nat → Int} {h h1 : St}
theorem CI.up (hI : CI S n H N T f G h) {hi : Nat} (a : Fr 90 hi h h1) : CI S n H N T f G h1 := ⟨hI.1.fr a (by omega), hI.2.1.fr a (by omega), hI.2.2.1.fr a (by omega), hI.2.2.2.fr a (by omega)⟩
end
theorem lg_self (x : Int64) : lg_cmp x x = 0 := by
  unfold lg_cmp
  rw [if_neg (fun z => Int64.lt_irrefl z), if_pos rfl]
/-! clashes -/
def Cl1 (S : Nat → Int) (hr : Int) (p : Nat) : Prop := p < 3072 ∧ clq S hr ((p % 64 : Nat) : Int) ((p / 64 : Nat) : Int) ∧ ∀ q : Nat, q < p → ¬ clq S hr ((q % 64 : Nat) : Int) ((q / 64 : Nat) : Int)
theorem Cl1_u {S : Nat → Int} {hr : Int} {p q : Nat} (a : Cl1 S hr p) (b : Cl1 S hr q) : p = q := by
  rcases Nat.lt_trichotomy p q with h | h | h
  · exact absurd a.2.1 (b.2.2 p h)
  · exact h
  · exact absurd b.2.1 (a.2.2 q h)
theorem cla_0 {S : Nat → Int} {r : Int} (h : ClaR S 0 r) : ∃ hr, HerR S (S 1).toNat hr ∧ r = clN S hr 3072 := by
  rcases h with ⟨h1, -⟩ | ⟨-, hr, h2, h3⟩
  · exact absurd (by omega) h1
  · refine ⟨hr, h2, ?_⟩
    rcases h3 with h3 | ⟨h3, -⟩ | ⟨h3, -⟩
    · exact h3.2
    · exact absurd rfl h3
    · exact absurd rfl h3
theorem cl_some {S : Nat → Int} {hr : Int} (h : 0 < clN S hr 3072) : ∃ p : Nat, p < 3072 ∧ clq S hr ((p % 64 : Nat) : Int) ((p / 64 : Nat) : Int) := by
  refine Classical.byContradiction (fun z => ?_)
  have : clN S hr 3072 = 0 := sm_zero.mpr (fun p hp => cI_f (fun w => z ⟨p, hp, w⟩))
  omega
theorem cla_w {S : Nat → Int} {w r hr : Int} (hw : 1 ≤ w ∧ w ≤ 3) (hh : HerR S (S 1).toNat hr) (hc : ∃ p : Nat, p < 3072 ∧ clq S hr ((p % 64 : Nat) : Int) ((p / 64 : Nat) : Int)) (h : ClaR S w r) : ∃ p, Cl1 S hr p ∧ (w = 1 → r = ((p % 64 : Nat) : Int)) ∧ (w = 2 → r = ((p / 64 : Nat) : Int)) ∧ (w = 3 → FirR S ((p % 64 : Nat) : Int) ((p / 64 : Nat) : Int) hr r) := by
  rcases h with ⟨h1, -⟩ | ⟨-, hr', h2, h3⟩
  · exact absurd (by omega) h1
  · have e := HerR_u h2 hh
    subst e
    rcases h3 with h3 | ⟨-, -, h3⟩ | ⟨-, p, p1, p2, p3, p4⟩
    · omega
    · obtain ⟨p, p1, p2⟩ := hc
      exact absurd p2 (h3 p p1)
    · refine ⟨p, ⟨p1, p2, p3⟩, fun z => ?_, fun z => ?_, fun z => ?_⟩
      · rcases p4 with p4 | p4 | p4
        · exact p4.2
        · omega
        · omega
      · rcases p4 with p4 | p4 | p4
        · omega
        · exact p4.2
        · omega
      · rcases p4 with p4 | p4 | p4
        · omega
        · omega
        · exact p4.2
theorem clq_lit {S : Nat → Int} {hr x y : Int} (h : clq S hr x y) : lit S x y := by
  obtain ⟨-, -, -, k, k1, k2, -, k4⟩ := h
  exact ⟨k, k1, k2, k4⟩
theorem clq_fir {S : Nat → Int} (hW : WF S) {hr x y r : Int} (h : clq S hr x y) (hf : FirR S x y hr r) : r ≠ hr ∧ 0 ≤ r ∧ r < 20 := by
  obtain ⟨-, -, -, k, k1, k2, k3, k4⟩ := h
  rcases hf with ⟨j, j1, j2, j3, -, -, j6⟩ | ⟨-, j2⟩
  · have := hW.od j1
    exact ⟨by rw [j6]; exact j3, by omega, by omega⟩
  · exact absurd k4 (j2 k k1 k2 k3)
/-! the best step; until all have been shown -/
theorem bsF_lo (g : Nat → Nat) : ∀ k : Nat, 1 ≤ (bsF g k).1
  | 0 => Nat.le_refl 1
  | k + 1 => by
    have := bsF_lo g k
    unfold bsF
    split
    · exact Nat.le_add_left 1 (k + 1)
    · exact this
theorem bsF_z {g : Nat → Nat} (h : ∀ s, g s = 0) : ∀ k : Nat, bsF g k = (1, 0)
  | 0 => by unfold bsF; rw [h]
  | k + 1 => by
    have := bsF_z h k
    unfold bsF
    rw [this, if_neg (by rw [h]; decide)]
theorem all_1 {S : Nat → Int} (hW : WF S) (h : hidN S = 0) : allS S 1 := by
  intro k hk
  have ho := hW.od hk
  refine ⟨0, by omega, ?_⟩
  have h1 := sm_zero.mp h (od S k) ho.2.1
  show decide (0 < hT S (od S) (S 1).toNat 48 (od S k)) = false
  cases hd : hdd S (od S k) with
  | false => exact hd
  | true => rw [hd] at h1; cases h1
theorem all_le1 {S : Nat → Int} {r : Int} (h1 : allS S 1) (h : AllR S r) : r ≤ 1 := by
  rcases h with ⟨t, t1, t2, t3, t4⟩ | ⟨t1, t2⟩
  · by_cases z : t ≤ 1
    · omega
    · exact absurd h1 (t4 1 (by omega))
  · exact absurd h1 (t2 1 (by omega))
theorem all_n0 {S : Nat → Int} {r : Int} (h1 : 0 < (S 1).toNat) (h : AllR S r) : r ≠ 0 := by
  intro z
  rcases h with ⟨t, t1, t2, t3, t4⟩ | ⟨t1, t2⟩
  · have ht : t = 0 := by omega
    subst ht
    obtain ⟨i, i1, -⟩ := t3 0 h1
    omega
  · omega
theorem all_rg {S : Nat → Int} {r : Int} (h : AllR S r) : -109 ≤ r ∧ r ≤ 60 := by
  rcases h with ⟨t, t1, t2, -⟩ | ⟨t1, -⟩ <;> omega
/-! who is there stays there -/
theorem thr_ex {S : Nat → Int} {p : Int} : thr S p ↔ ∃ k, k < (S 1).toNat ∧ S (6 + k) = p := by
  constructor
  · intro g
    obtain ⟨g1, -, g3⟩ := thr_pos g
    exact ⟨_, g1, g3⟩
  · rintro ⟨k, hk, e⟩ z
    exact pos_no.mp z k hk e
theorem thr_cg {S S' : Nat → Int} (h1 : S' 1 = S 1) (ho : ∀ k, k < (S 1).toNat → S' (6 + k) = S (6 + k)) {p : Int} (g : thr S p) : thr S' p := by
  obtain ⟨k, hk, e⟩ := thr_ex.mp g
  exact thr_ex.mpr ⟨k, by rw [h1]; exact hk, by rw [ho k hk]; exact e⟩
theorem turnL_in {B : Nat → Bool} {rule : Int} {step n : Nat} {o : Nat → Nat} {k : Nat} (hk : k < n) : o k ∈ turnL B rule step n o := by
  have ho : o k ∈ ol o n := List.mem_map.mpr ⟨k, List.mem_range.mpr hk, rfl⟩
  unfold turnL
  by_cases h2 : rule = 2
  · rw [if_pos h2]
    cases hb : B (o k) with
    | true => exact List.mem_append_left _ (List.mem_filter.mpr ⟨ho, hb⟩)
    | false => exact List.mem_append_right _ (List.mem_filter.mpr ⟨ho, by simp [hb]⟩)
  · rw [if_neg h2]
    by_cases h1 : rule = 1
    · rw [if_pos h1]
      have hs : step % n < n := Nat.mod_lt _ (by omega)
      by_cases z : step % n ≤ k
      · refine List.mem_map.mpr ⟨k - step % n, List.mem_range.mpr (by omega), ?_⟩
        rw [Nat.add_mod, Nat.mod_eq_of_lt (a := k - step % n) (by omega), show k - step % n + step % n = k by omega, Nat.mod_eq_of_lt hk]
      · refine List.mem_map.mpr ⟨k + n - step % n, List.mem_range.mpr (by omega), ?_⟩
        rw [Nat.add_mod, Nat.mod_eq_of_lt (a := k + n - step % n) (by omega), show k + n - step % n + step % n = k + n by omega, Nat.add_mod_right, Nat.mod_eq_of_lt hk]
    · rw [if_neg h1]; exact ho
theorem thr_fr {S : Nat → Int} (hW : WF S) {p : Nat} (g : thr S (p : Int)) : thr (frS S) (p : Int) := by
  obtain ⟨k, hk, e⟩ := (thr_od hW).mp g
  have hm := turnL_in (B := hdd S) (rule := S 3) (step := (S 4).toNat) (o := od S) hk
  rw [e] at hm
  obtain ⟨j, hj, ej⟩ := List.getElem_of_mem hm
  have hl := turnL_len (hdd S) (S 3) (S 4).toNat (S 1).toNat (od S)
  have hn := hW.n
  refine thr_ex.mpr ⟨j, by rw [frS_1 hW]; omega, ?_⟩
  have hx : frS S (6 + j) = (fl (turnL (hdd S) (S 3) (S 4).toNat (S 1).toNat (od S)) j : Int) := by unfold frS; rw [if_neg (by omega), if_pos (by omega), show 6 + j - 6 = j by omega]
  rw [hx]
  congr 1
  unfold fl
  rw [List.getD_eq_getElem?_getD, List.getElem?_eq_getElem hj]
  exact ej
/-! one puppet alone is shown -/
theorem solo {S : Nat → Int} {p : Nat} {x l c : Int} (h2 : S 2 = 1) (hn : 0 < (S 1).toNat) (h0 : S 6 = (p : Int)) (hs : stn S p l) (h : ColR S x l c) : c = if setp S p x l then S (26 + 9 * p + 4) else 0 := by
  have ho : od S 0 = p := by show (S 6).toNat = p; rw [h0]; rfl
  have hv : ∀ k, vis S l k → k = 0 := by
    intro k hk
    by_cases z : k = 0
    · exact z
    · have h3 := cn_lt (S := S) (o := od S) (y := l) (j := 0) (k := k) (by omega) (by rw [ho]; exact hs)
      have h4 := hk.2
      omega
  have hv0 : vis S l 0 := ⟨by rw [ho]; exact hs, by rw [h2]; show ((0 : Nat) : Int) < 1; omega⟩
  obtain ⟨r, hr, e⟩ := h
  rcases hr with ⟨k, k1, k2, k3, k4, k5, k6⟩ | ⟨k1, k2⟩
  · have hk := hv k k2
    subst hk
    rw [ho] at k4
    have k6 : r = (p : Int) := k6.trans h0
    rw [if_pos k4]
    rw [if_neg (by omega)] at e
    rw [e, k6, Int.toNat_natCast]
  · have hz : ¬ setp S p x l := fun z => k2 0 hn hv0 (by show S 6 ≠ -109; omega) (by rw [ho]; exact z)
    rw [if_neg hz]
    rw [if_pos k1] at e
    exact e
theorem pix_0 {S : Nat → Int} {p dx dy : Nat} (h : S (26 + 9 * p + 5) = 0) : pix S p dx dy = (S (206 + 8 * (((S (26 + 9 * p + 3)).toNat + dy / 8) % 8) + dy % 8)).toNat.testBit (7 - dx) := by
  unfold pix pxD pxC pxR
  rw [h, if_neg (by decide), if_neg (by decide)]
theorem pix_3 {S : Nat → Int} {p dx dy : Nat} (h : S (26 + 9 * p + 5) = 3) : pix S p dx dy = (S (206 + 8 * (((S (26 + 9 * p + 3)).toNat + (hghN S p - 1 - dy) / 8) % 8) + (hghN S p - 1 - dy) % 8)).toNat.testBit (7 - (7 - dx)) := by
  unfold pix pxD pxC pxR
  rw [h, if_pos (by decide), if_pos (by decide)]
theorem pix_flip {S : Nat → Int} {p b k : Nat} (hp : p < 20) (h : S (26 + 9 * p + 5) = 0) (hb : b < 8) (hk : k < hghN S p) : pix (u1 S (26 + 9 * p + 5) 3) p (7 - b) (hghN S p - 1 - k) = pix S p b k := by
  have e2 : hghN (u1 S (26 + 9 * p + 5) 3) p = hghN S p := by unfold hghN; rw [u1_n _ _ (by omega)]
  have e3 : u1 S (26 + 9 * p + 5) 3 (26 + 9 * p + 3) = S (26 + 9 * p + 3) := u1_n _ _ (by omega)
  rw [pix_3 (u1_s _ _ _), pix_0 h, e2, e3, show hghN S p - 1 - (hghN S p - 1 - k) = k by omega, show 7 - (7 - (7 - b)) = 7 - b by omega, u1_n _ _ (by omega)]
/-- a row of dots, from the left to the right, as bits from the lowest on -/
def RB (S : Nat → Int) (p y : Nat) : Nat → Nat
  | 0 => 0
  | x + 1 => if pix S p x y = true then RB S p y x ||| 2 ^ x else RB S p y x
theorem RB_b (S : Nat → Int) (p y : Nat) : ∀ x, x ≤ 8 → RB S p y x < 2 ^ 20
  | 0, _ => show 0 < 2 ^ 20 by decide
  | x + 1, hx => by
    unfold RB
    split
    · exact bit_or_b (RB_b S p y x (by omega)) (by omega)
    · exact RB_b S p y x (by omega)
theorem RB_t (S : Nat → Int) (p y b : Nat) : ∀ x, (RB S p y x).testBit b = true → pix S p b y = true
  | 0, h => by simp [RB] at h
  | x + 1, h => by
    unfold RB at h
    by_cases z : pix S p x y = true
    · rw [if_pos z, bit_or_t, Bool.or_eq_true] at h
      rcases h with h | h
      · exact RB_t S p y b x h
      · have := of_decide_eq_true h
        subst this
        exact z
    · rw [if_neg z] at h
      exact RB_t S p y b x h
