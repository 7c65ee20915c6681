/-! once they are made -/
def G9 : Nat → Nat → Option Nat := gP_0 (u1 (fun _ _ => none) 0 (fun _ => none))
def F9 : Nat → Nat → Int32 := fP_0 (u1 (fun _ _ => 0) 0 (fun _ => 0))
def R9 : Nat → Nat → Int32 := rP_0 (fun _ _ => 0)
def h9 : St := (F9, R9)
set_option maxRecDepth 100000 in
theorem k_chk : (List.range 90).all (fun o => Nat.ble 12 (e_SH o).1 || (List.range (e_ct (e_SH o).1).2.2.1).all (fun k => bif e_isI (e_fty (e_SH o).1 k) then decide (F9 o k = FF F9 o k) else decide (G9 o k = e_GG o k))) = true := by decide +kernel
set_option maxRecDepth 100000 in
theorem k_chk2 : ∀ j, j < 5 → G9 39 j = e_GG 39 j := by decide +kernel
set_option maxRecDepth 100000 in
theorem k_chk3 : (List.range 90).all (fun o => Nat.blt (e_SH o).1 12 || (Nat.beq (e_SH o).1 100 || (Nat.beq (e_SH o).1 101 && (Nat.beq o 39 && Nat.beq (e_SH o).2 5)))) = true := by decide +kernel
theorem k_FF : ∀ o, o < 90 → FF F9 o = fun k => bif Nat.beq (e_SH o).1 0 && Nat.beq k 1 then e_WD o else F9 o k := fun o ho => by
  funext k
  unfold FF
  have : Nat.beq o 90 = false := Bool.eq_false_iff.mpr (fun z => by have := Nat.eq_of_beq_eq_true z; omega)
  rw [this]
  rfl
theorem s_n9 : s_n h9 = 90 := if_neg (by decide +kernel)
theorem k_ent {D : va_G} {b : Nat} {cI cS : ClassId} {H : Heap} {o : Nat} (ho : o < 90) (h : va_at D e_cls (b + o, e_ent b cI cS (k_emb (90, G9, F9, R9)) o) H) : va_at D e_cls (b + o, e_ent b cI cS (IS.1 h9) o) H := by
  have q3 := List.all_eq_true.mp k_chk3 o (List.mem_range.mpr ho)
  simp only [Bool.or_eq_true, Bool.and_eq_true] at q3
  rcases q3 with q3 | q3 | ⟨q3, q4, q5⟩
  · have hc : (e_SH o).1 < 12 := by simpa [Nat.blt_eq] using q3
    have q := List.all_eq_true.mp k_chk o (List.mem_range.mpr ho)
    rw [Bool.or_eq_true] at q
    rcases q with q | q
    · exact absurd (Nat.le_of_ble_eq_true q) (by omega)
    · rw [e_ent_obj (σ := IS.1 h9) (c := (e_SH o).1) rfl hc]
      rw [e_ent_obj (σ := k_emb (90, G9, F9, R9)) (c := (e_SH o).1) rfl hc] at h
      have e : e_fl b (IS.1 h9) (e_SH o).1 o = e_fl b (k_emb (90, G9, F9, R9)) (e_SH o).1 o := by
        unfold e_fl
        refine List.map_congr_left (fun k hk => ?_)
        have z := List.all_eq_true.mp q k hk
        unfold e_fv
        show (bif e_isI (e_fty (e_SH o).1 k) then Value.int (FF F9 o k) else va_rf ((e_GG o k).map (fun j => b + j))) = (bif e_isI (e_fty (e_SH o).1 k) then Value.int (F9 o k) else va_rf ((G9 o k).map (fun j => b + j)))
        cases hi : e_isI (e_fty (e_SH o).1 k) with
        | true =>
          rw [hi] at z
          have z2 : F9 o k = FF F9 o k := of_decide_eq_true z
          rw [← z2]
          rfl
        | false =>
          rw [hi] at z
          have z1 : G9 o k = e_GG o k := of_decide_eq_true z
          rw [← z1]
          rfl
      rw [e]
      exact h
  · have hc := Nat.eq_of_beq_eq_true q3
    rw [e_ent_int (σ := IS.1 h9) hc]
    rw [e_ent_int (σ := k_emb (90, G9, F9, R9)) hc] at h
    exact h
  · have hc := Nat.eq_of_beq_eq_true q3
    have ho39 := Nat.eq_of_beq_eq_true q4
    subst ho39
    rw [e_ent_ref (σ := IS.1 h9) hc]
    rw [e_ent_ref (σ := k_emb (90, G9, F9, R9)) hc] at h
    change H[b + 39]? = some (arrV cS 5 (fun j => va_rf ((G9 39 j).map (fun i => b + i)))) at h
    show H[b + 39]? = some (arrV cS 5 (fun j => va_rf ((e_GG 39 j).map (fun i => b + i))))
    rw [h]
    unfold arrV
    congr 3
    funext j
    dsimp only
    rw [k_chk2 j.val j.isLt]
theorem k_end {D : va_G} {b : Nat} {cI cS : ClassId} {H0 H : Heap} (h : e_Sim D b cI cS H0 (k_emb (90, G9, F9, R9)) H) : e_Sim D b cI cS H0 (IS.1 h9) H := ⟨by show _ = b + s_n h9; rw [s_n9]; exact h.1, h.2.1, fun o ho => by
  have ho' : o < s_n h9 := ho
  rw [s_n9] at ho'
  exact k_ent ho' (h.2.2 o ho')⟩
/-! what it shows -/
def S9 : Nat → Int := fun i => if i = 2 then 8 else if i = 4 then 1 else if 206 ≤ i ∧ i < 270 then 255 else 0
theorem S9_n {i : Nat} (h : 5 ≤ i) (h2 : ¬ (206 ≤ i ∧ i < 270)) : S9 i = 0 := by
  unfold S9; rw [if_neg (by omega), if_neg (by omega), if_neg h2]
theorem S9_p {i : Nat} (h : i < 64) : S9 (206 + i) = 255 := by
  unfold S9; rw [if_neg (by omega), if_neg (by omega), if_pos (by omega)]
theorem S9_W : WF S9 := by
  refine ⟨by decide, by decide, by decide, by decide, by decide, by decide, fun k hk => ?_, fun j k hj hk => ?_, fun p hp => ?_, fun i hi => ?_, fun p hp => ?_, fun p hp _ j hj => S9_n (by omega) (by omega)⟩
  · exact absurd hk (Nat.not_lt_zero _)
  · exact absurd hk (Nat.not_lt_zero _)
  · rw [S9_n (by omega) (by omega), S9_n (i := 26 + 9 * p + 1) (by omega) (by omega), S9_n (i := 26 + 9 * p + 2) (by omega) (by omega), S9_n (i := 26 + 9 * p + 3) (by omega) (by omega), S9_n (i := 26 + 9 * p + 4) (by omega) (by omega), S9_n (i := 26 + 9 * p + 5) (by omega) (by omega), S9_n (i := 26 + 9 * p + 6) (by omega) (by omega), S9_n (i := 26 + 9 * p + 7) (by omega) (by omega), S9_n (i := 26 + 9 * p + 8) (by omega) (by omega), S9_n (i := 5) (by omega) (by omega)]
    omega
  · rw [S9_p hi]; omega
  · have : S9 0 = 0 := by decide
    omega
set_option maxRecDepth 100000 in
theorem R9_c : (∀ i, i < 64 → R9 3 i = iI (S9 (206 + i))) ∧ (∀ p, p < 20 → ∀ j, j < 6 → R9 5 (p * 10 + j) = iI (S9 (26 + 9 * p + j))) ∧ (∀ p, p < 20 → ∀ j, j < 3 → R9 5 (p * 10 + (7 + j)) = iI (S9 (26 + 9 * p + (6 + j)))) := by decide +kernel
set_option maxRecDepth 100000 in
theorem F9_c : (F9 1 3 = iI (S9 1) ∧ F9 1 4 = iI (S9 0) ∧ F9 1 5 = iI (S9 2) ∧ F9 1 6 = iI (S9 3) ∧ F9 1 7 = iI (S9 4) ∧ F9 1 8 = iI (S9 5)) ∧ F9 38 1 = iI 0 ∧ F9 38 2 = iI 0 ∧ F9 76 1 = iI 0 ∧ F9 89 0 = iI 0 ∧ F9 90 0 = 0 := by decide +kernel
set_option maxRecDepth 100000 in
theorem J9 : CI S9 0 (fun _ _ => 0) 0 (fun _ => 0) 0 (fun _ => 0) h9 := by
  obtain ⟨r1, r2, r3⟩ := R9_c
  obtain ⟨f1, f2, f3, f4, f5, f6⟩ := F9_c
  refine ⟨⟨f1, r1, fun k hk => absurd hk (Nat.not_lt_zero _), r2, fun p _ hp => ?_, r3⟩, ⟨0, by omega, f2, f3, fun j hj => absurd hj (Nat.not_lt_zero _)⟩, ⟨f4, fun j hj => absurd hj (Nat.not_lt_zero _)⟩, ⟨f5, fun z => by omega⟩⟩
  have : S9 0 = 0 := by decide
  omega
theorem PX9 : PX S9 := fun p hp => by
  rw [S9_n (by omega) (by omega), S9_n (i := 26 + 9 * p + 8) (by omega) (by omega), S9_n (i := 26 + 9 * p + 6) (by omega) (by omega)]
  omega
theorem WX9 : WX S9 0 := ⟨S9_W, PX9, by decide⟩
