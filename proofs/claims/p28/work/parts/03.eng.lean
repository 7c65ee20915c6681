/-! THE ENGINE: an abstract machine over numbered objects, its weakest preconditions by computation, and that they hold of the machine. -/
abbrev Sg : Type := (Nat × (Nat → Nat × Nat)) × (Nat → Nat → Option Nat) × (Nat → Nat → Int32) × (Nat → Nat → Int32)
def mNm (y : Nat) : MethodName := (e_mt y).1
def mBy (y : Nat) : ByteArray := (e_mt y).2.1
def mML (y : Nat) : Nat := (e_mt y).2.2.1
def mRet (y : Nat) : Option FieldType := (e_mt y).2.2.2.1
def mRm (y : Nat) : Room := (e_mt y).2.2.2.2.1
def mCi (y : Nat) : Nat := (e_mt y).2.2.2.2.2.1
def mOps (y : Nat) : List (Nat × XO) := (e_mt y).2.2.2.2.2.2
def e_find : List (Nat × XO) → Nat → Option XO
  | [], _ => none
  | (q, o) :: r, pc => bif Nat.beq q pc then some o else e_find r pc
def e_op (y pc : Nat) : Option XO := e_find (mOps y) pc
theorem e_find_mem {pc : Nat} {o : XO} : ∀ {l : List (Nat × XO)}, e_find l pc = some o → (pc, o) ∈ l
  | [], h => by cases h
  | (q, o') :: r, h => by
    unfold e_find at h
    cases hq : Nat.beq q pc with
    | true =>
      rw [hq] at h
      have e1 := Nat.eq_of_beq_eq_true hq
      cases h
      subst e1
      exact List.mem_cons_self
    | false =>
      rw [hq] at h
      exact List.mem_cons_of_mem _ (e_find_mem h)
def u1 {α : Type} (f : Nat → α) (k : Nat) (x : α) : Nat → α := fun j => if j = k then x else f j
def u2 {α : Type} (f : Nat → Nat → α) (o k : Nat) (x : α) : Nat → Nat → α := u1 f o (u1 (f o) k x)
theorem u1_s {α : Type} (f : Nat → α) (k : Nat) (x : α) : u1 f k x k = x := if_pos rfl
theorem u1_n {α : Type} (f : Nat → α) {k j : Nat} (x : α) (h : j ≠ k) : u1 f k x j = f j := if_neg h
def e_v (b : Nat) : Value → Value
  | .ref a => .ref (b + a)
  | v => v
/-- a local of the law that holds its script: told by a float, of which there is none -/
def e_w (b : Nat) (x0 : Option Nat) : Value → Value
  | .float u => match x0 with
    | some a => .ref a
    | none => .float u
  | v => e_v b v
theorem e_w_none (b : Nat) (v : Value) : e_w b none v = e_v b v := by cases v <;> rfl
theorem e_w_cat (b : Nat) (x0 : Option Nat) (v : Value) : (e_w b x0 v).category = v.category := by cases v <;> (try rfl); cases x0 <;> rfl
def e_isI : FieldType → Bool
  | .int => true
  | .boolean => true
  | _ => false
def e_fty (c k : Nat) : FieldType := (e_ct c).2.2.2 k
def e_cls : List vw_C := (List.range 12).map (fun c => ((e_ct c).1, (e_ct c).2.1, (e_ct c).2.2.1))
theorem e_cls_at {c : Nat} (h : c < 12) : e_cls[c]? = some ((e_ct c).1, (e_ct c).2.1, (e_ct c).2.2.1) := by
  simp [e_cls, List.getElem?_map, List.getElem?_range h]
def e_fv (b : Nat) (σ : Sg) (c o k : Nat) : Value := bif e_isI (e_fty c k) then .int (σ.2.2.1 o k) else va_rf ((σ.2.1 o k).map (fun j => b + j))
def e_fl (b : Nat) (σ : Sg) (c o : Nat) : List Value := (List.range (e_ct c).2.2.1).map (e_fv b σ c o)
def e_ent (b : Nat) (cI cS : ClassId) (σ : Sg) (o : Nat) : va_E :=
  bif Nat.beq (σ.1.2 o).1 100 then .inl (cI, (σ.1.2 o).2, .inl (σ.2.2.2 o))
  else bif Nat.beq (σ.1.2 o).1 101 then .inl (cS, (σ.1.2 o).2, .inr (.inr (.inr (.inr (fun k => (σ.2.1 o k).map (fun j => b + j))))))
  else .inr ((σ.1.2 o).1, e_fl b σ (σ.1.2 o).1 o)
def e_Sim (D : va_G) (b : Nat) (cI cS : ClassId) (H0 : Heap) (σ : Sg) (H : Heap) : Prop :=
  H.size = b + σ.1.1 ∧ (∀ q : Nat, q < b → H[q]? = H0[q]?) ∧ ∀ o : Nat, o < σ.1.1 → va_at D e_cls (b + o, e_ent b cI cS σ o) H
abbrev e_tys (cI cS : ClassId) : List (ClassId × FieldType) := [(cI, .int), (cS, .object "PuppetTurns$Scene")]
/-! locals -/
def e_get : List (Option Value) → Nat → Option Value
  | [], _ => none
  | a :: _, 0 => a
  | _ :: r, n + 1 => e_get r n
def e_set : List (Option Value) → Nat → Option Value → List (Option Value)
  | [], _, _ => []
  | _ :: r, 0, v => v :: r
  | a :: r, n + 1, v => a :: e_set r n v
theorem e_set_len : ∀ (L : List (Option Value)) (k : Nat) (v : Option Value), (e_set L k v).length = L.length
  | [], _, _ => rfl
  | _ :: _, 0, _ => rfl
  | a :: r, n + 1, v => by simp [e_set, e_set_len r n v]
theorem e_set_get : ∀ (L : List (Option Value)) (k : Nat) (v : Option Value) (j : Nat) (w : Value), e_get (e_set L k v) j = some w → (j = k ∧ v = some w) ∨ (j ≠ k ∧ e_get L j = some w)
  | [], _, _, _, _, h => by cases h
  | _ :: _, 0, v, 0, w, h => Or.inl ⟨rfl, h⟩
  | _ :: _, 0, v, j + 1, w, h => Or.inr ⟨by omega, h⟩
  | a :: r, n + 1, v, 0, w, h => Or.inr ⟨by omega, h⟩
  | a :: r, n + 1, v, j + 1, w, h => by
    rcases e_set_get r n v j w h with ⟨h1, h2⟩ | ⟨h1, h2⟩
    · exact Or.inl ⟨by omega, h2⟩
    · exact Or.inr ⟨by omega, h2⟩
def e_below (L : List (Option Value)) : Nat → Bool
  | 0 => true
  | j + 1 => match e_get L j with
    | some w => Nat.beq w.category 1
    | none => true
def e_st1 (L : List (Option Value)) (k : Nat) (v : Value) : Option (List (Option Value)) := bif Nat.blt k L.length && e_below L k then some (e_set L k (some v)) else none
def e_st2 (L : List (Option Value)) (k : Nat) (v : Value) : Option (List (Option Value)) := bif Nat.blt (k + 1) L.length && e_below L k then some (e_set (e_set L k (some v)) (k + 1) none) else none
def e_LH (b : Nat) (x0 : Option Nat) (ls : Array Slot) (nL : Nat) (L : List (Option Value)) : Prop := L.length = nL ∧ ∃ l, lv_has ls nL l ∧ ∀ (j : Nat) (w : Value), e_get L j = some w → (j, e_w b x0 w) ∈ l
theorem e_v_cat (b : Nat) (v : Value) : (e_v b v).category = v.category := by cases v <;> rfl
theorem e_LH_get {b nL j : Nat} {x0 : Option Nat} {ls : Array Slot} {L : List (Option Value)} {w : Value} (h : e_LH b x0 ls nL L) (hg : e_get L j = some w) : ls[j]? = some (.val (e_w b x0 w)) := by
  obtain ⟨-, l, hl, hm⟩ := h
  exact hl.2.2 _ (hm j w hg)
theorem e_below_ok {L : List (Option Value)} {k j : Nat} {w : Value} (hb : e_below L k = true) (hg : e_get L j = some w) (hc : w.category = 2) : j + 1 ≠ k := by
  intro hk
  subst hk
  simp only [e_below, hg] at hb
  have := Nat.eq_of_beq_eq_true hb
  omega
theorem e_LH_st1 {b nL k : Nat} {x0 : Option Nat} {ls : Array Slot} {L L' : List (Option Value)} {v : Value} (h : e_LH b x0 ls nL L) (hs : e_st1 L k v = some L') :
    k < nL ∧ ∃ l, lv_has ls nL l ∧ ∀ ls', lv_has ls' nL ((k, e_w b x0 v) :: l.filter (fun q => !(q.1 == k) && !(q.1 + 1 == k && q.2.category == 2))) → e_LH b x0 ls' nL L' := by
  obtain ⟨hn, l, hl, hm⟩ := h
  unfold e_st1 at hs
  cases hc : (Nat.blt k L.length && e_below L k) with
  | false => rw [hc] at hs; cases hs
  | true =>
    rw [hc] at hs
    cases hs
    rw [Bool.and_eq_true] at hc
    have hk : k < L.length := by simpa [Nat.blt_eq] using hc.1
    refine ⟨by omega, l, hl, fun ls' h' => ⟨by rw [e_set_len]; exact hn, _, h', fun j w hj => ?_⟩⟩
    rcases e_set_get L k (some v) j w hj with ⟨h1, h2⟩ | ⟨h1, h2⟩
    · cases h2
      rw [h1]
      exact List.mem_cons_self
    · refine List.mem_cons_of_mem _ (List.mem_filter.mpr ⟨hm j w h2, ?_⟩)
      have h3 : ¬ (w.category = 2 ∧ j + 1 = k) := fun z => e_below_ok hc.2 h2 z.1 z.2
      rcases lv_cat w with h4 | h4
      · simp [h1, e_w_cat, h4]
      · have : j + 1 ≠ k := fun z => h3 ⟨h4, z⟩
        simp [h1, this]
theorem e_LH_st2 {b nL k : Nat} {x0 : Option Nat} {ls : Array Slot} {L L' : List (Option Value)} {v : Value} (h : e_LH b x0 ls nL L) (hs : e_st2 L k v = some L') :
    k + 1 < nL ∧ ∃ l, lv_has ls nL l ∧ ∀ ls', lv_has ls' nL ((k, e_w b x0 v) :: l.filter (fun q => !(q.1 == k) && (!(q.1 == k + 1) && !(q.1 + 1 == k && q.2.category == 2)))) → e_LH b x0 ls' nL L' := by
  obtain ⟨hn, l, hl, hm⟩ := h
  unfold e_st2 at hs
  cases hc : (Nat.blt (k + 1) L.length && e_below L k) with
  | false => rw [hc] at hs; cases hs
  | true =>
    rw [hc] at hs
    cases hs
    rw [Bool.and_eq_true] at hc
    have hk : k + 1 < L.length := by simpa [Nat.blt_eq] using hc.1
    refine ⟨by omega, l, hl, fun ls' h' => ⟨by rw [e_set_len, e_set_len]; exact hn, _, h', fun j w hj => ?_⟩⟩
    rcases e_set_get _ (k + 1) none j w hj with ⟨-, h2⟩ | ⟨h0, h2⟩
    · cases h2
    · rcases e_set_get L k (some v) j w h2 with ⟨h1, h2⟩ | ⟨h1, h2⟩
      · cases h2
        rw [h1]
        exact List.mem_cons_self
      · refine List.mem_cons_of_mem _ (List.mem_filter.mpr ⟨hm j w h2, ?_⟩)
        have h3 : ¬ (w.category = 2 ∧ j + 1 = k) := fun z => e_below_ok hc.2 h2 z.1 z.2
        rcases lv_cat w with h4 | h4
        · simp [h0, h1, e_w_cat, h4]
        · have : j + 1 ≠ k := fun z => h3 ⟨h4, z⟩
          simp [h0, h1, this]
def e_args : List Value → List (Option Value)
  | [] => []
  | v :: r => bif Nat.beq v.category 2 then some v :: none :: e_args r else some v :: e_args r
def e_pad : Nat → List (Option Value)
  | 0 => []
  | n + 1 => none :: e_pad n
def e_L0 (as : List Value) (nL : Nat) : List (Option Value) := e_args as ++ e_pad (nL - (e_args as).length)
theorem e_pad_get : ∀ n j, e_get (e_pad n) j = none
  | 0, _ => rfl
  | n + 1, 0 => rfl
  | n + 1, j + 1 => e_pad_get n j
theorem e_pad_len : ∀ n, (e_pad n).length = n
  | 0 => rfl
  | n + 1 => by simp [e_pad, e_pad_len n]
theorem e_args_mem (b n : Nat) : ∀ (as : List Value) (i j : Nat) (w : Value), e_get (e_args as ++ e_pad n) j = some w → (i + j, e_v b w) ∈ lv_args i (as.map (e_v b))
  | [], i, j, w, h => by simp only [e_args, List.nil_append] at h; rw [e_pad_get] at h; cases h
  | v :: r, i, j, w, h => by
    simp only [e_args] at h
    simp only [List.map_cons, lv_args, e_v_cat]
    rcases lv_cat v with hc | hc
    · rw [hc] at h
      simp only [show Nat.beq 1 2 = false from rfl, cond_false, List.cons_append] at h
      rw [if_neg (by omega)]
      cases j with
      | zero => simp only [e_get] at h; cases h; exact List.mem_cons_self
      | succ j => exact List.mem_cons_of_mem _ (by have := e_args_mem b n r (i + 1) j w h; rwa [show i + 1 + j = i + (j + 1) by omega] at this)
    · rw [hc] at h
      simp only [show Nat.beq 2 2 = true from rfl, cond_true, List.cons_append] at h
      rw [if_pos hc]
      cases j with
      | zero => simp only [e_get] at h; cases h; exact List.mem_cons_self
      | succ j =>
        cases j with
        | zero => simp only [e_get] at h; cases h
        | succ j => exact List.mem_cons_of_mem _ (by have := e_args_mem b n r (i + 2) j w h; rwa [show i + 2 + j = i + (j + 1 + 1) by omega] at this)
theorem e_args_len (b : Nat) : ∀ as : List Value, (lg_sl (as.map (e_v b))).length = (e_args as).length
  | [] => rfl
  | v :: r => by
    have ih := e_args_len b r
    unfold lg_sl at ih ⊢
    rcases lv_cat v with hc | hc
    · simp [e_args, hc, e_v_cat, ih, show Nat.beq 1 2 = false from rfl]
    · simp [e_args, hc, e_v_cat, ih, show Nat.beq 2 2 = true from rfl]
theorem e_LH_entry (b nL : Nat) (as : List Value) (h : (e_args as).length ≤ nL) : e_LH b none ((lg_sl (as.map (e_v b)) ++ List.replicate (nL - (lg_sl (as.map (e_v b))).length) Slot.unset).toArray) nL (e_L0 as nL) := by
  refine ⟨?_, _, lv_entry (as.map (e_v b)) (n := nL) (by rw [e_args_len]; exact h), fun j w hj => ?_⟩
  · simp [e_L0, e_pad_len]; omega
  · have := e_args_mem b _ as 0 j w hj
    rw [e_w_none]
    rwa [Nat.zero_add] at this
