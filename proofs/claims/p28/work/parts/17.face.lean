/-! the face of the objects once they are made: ints alone change; the object 90, a row of the law's own, is there when F 90 0 is 1 -/
abbrev St : Type := (Nat → Nat → Int32) × (Nat → Nat → Int32)
def FF (F : Nat → Nat → Int32) : Nat → Nat → Int32 := fun o k => bif Nat.beq o 90 then 0 else bif Nat.beq (e_SH o).1 0 && Nat.beq k 1 then e_WD o else F o k
def s_n (h : St) : Nat := if h.1 90 0 = 1 then 91 else 90
theorem s_n_le (h : St) : 90 ≤ s_n h := by unfold s_n; split <;> omega
def e_emb (h : St) : Sg := ((s_n h, e_SH), e_GG, FF h.1, h.2)
def s_get (h : St) (o c k : Nat) : Option Value := bif Nat.blt o e_NN && Nat.beq (e_SH o).1 c then some (bif e_isI (e_fty c k) then (bif Nat.beq c 0 && Nat.beq k 1 then .int (e_WD o) else .int (h.1 o k)) else va_rf (e_GG o k)) else none
def s_put (h : St) (o c k : Nat) (v : Value) : Option St := bif Nat.blt o e_NN && Nat.beq (e_SH o).1 c && (!(Nat.beq c 0) && e_isI (e_fty c k)) then (match v with
  | .int x => some (u2 h.1 o k x, h.2)
  | _ => none) else none
def s_len (h : St) (a : Nat) : Option Nat := bif Nat.blt a e_NN && (Nat.beq (e_SH a).1 100 && Nat.blt (e_SH a).2 2147483648) then some (e_SH a).2 else (bif Nat.beq a 90 then (if h.1 90 0 = 1 then some 16 else none) else none)
def s_rget (_ : St) (a j : Nat) : Option Value := bif Nat.blt a e_NN && (Nat.beq (e_SH a).1 101 && (Nat.blt j (e_SH a).2 && Nat.blt (e_SH a).2 2147483648)) then some (va_rf (e_GG a j)) else none
def s_newI (h : St) (n : Nat) : Option (Nat × St) := bif Nat.beq n 16 then (if h.1 90 0 = 0 then some (90, (u2 h.1 90 0 1, u1 h.2 90 (fun _ => 0))) else none) else none
def IS : e_IT St := (e_emb, s_get, s_put, s_len, fun h => h.2, fun h a f => (h.1, u1 h.2 a f), s_rget, fun _ _ _ _ => none, fun _ _ => none, s_newI, fun _ _ => none)
theorem s_blt {h : St} {o : Nat} {q : Bool} (z : (Nat.blt o e_NN && q) = true) : (Nat.blt o (s_n h) && q) = true ∧ Nat.beq o 90 = false := by
  rw [Bool.and_eq_true] at z
  have z1 : o < 90 := by simpa [Nat.blt_eq] using z.1
  have z2 := s_n_le h
  refine ⟨by rw [Bool.and_eq_true]; exact ⟨by simp only [Nat.blt_eq]; omega, z.2⟩, ?_⟩
  exact Bool.eq_false_iff.mpr (fun w => by have := Nat.eq_of_beq_eq_true w; omega)
theorem IS_ok : e_IOk IS := by
  refine ⟨?_, ?_, ?_, fun _ _ _ => rfl, fun _ _ _ => rfl, ?_, fun h a j v h' z => (by cases z), fun h c r z => (by cases z), ?_, fun h c r z => (by cases z)⟩
  · intro h o c k v z
    change s_get h o c k = some v at z
    show g_get (e_emb h) o c k = some v
    unfold s_get at z
    unfold g_get e_emb FF
    dsimp only
    cases hq : (Nat.blt o e_NN && Nat.beq (e_SH o).1 c) with
    | false => rw [hq] at z; cases z
    | true =>
      rw [hq] at z
      obtain ⟨y1, y2⟩ := s_blt (h := h) hq
      rw [y1, y2]
      rw [Bool.and_eq_true] at hq
      have hc := Nat.eq_of_beq_eq_true hq.2
      rw [← z, cond_true, cond_true, hc]
      cases e_isI (e_fty c k) with
      | false => rfl
      | true =>
        simp only [cond_true, cond_false]
        cases (Nat.beq c 0 && Nat.beq k 1) <;> rfl
  · intro h o c k v h' z
    change s_put h o c k v = some h' at z
    show g_put (e_emb h) o c k v = some (e_emb h')
    unfold s_put at z
    cases hq : (Nat.blt o e_NN && Nat.beq (e_SH o).1 c && (!(Nat.beq c 0) && e_isI (e_fty c k))) with
    | false => rw [hq] at z; cases z
    | true =>
      rw [hq] at z
      simp only [cond_true] at z
      simp only [Bool.and_eq_true] at hq
      obtain ⟨⟨qa, qb⟩, q2, q3⟩ := hq
      obtain ⟨q1, y2⟩ := s_blt (h := h) (o := o) (q := Nat.beq (e_SH o).1 c) (by rw [Bool.and_eq_true]; exact ⟨qa, qb⟩)
      have hc := Nat.eq_of_beq_eq_true qb
      have ho : o ≠ 90 := fun w => by rw [w] at y2; cases y2
      split at z
      · next x =>
        cases z
        unfold g_put e_emb
        dsimp only
        rw [q1, q3]
        simp only [cond_true]
        have en : s_n (u2 h.1 o k x, h.2) = s_n h := by
          unfold s_n u2
          show (if u1 h.1 o (u1 (h.1 o) k x) 90 0 = 1 then 91 else 90) = _
          rw [u1_n _ _ (fun w => ho w.symm)]
        rw [en]
        congr 4
        funext a j
        unfold FF u2 u1
        by_cases ha : a = o
        · subst ha
          rw [if_pos rfl, hc]
          have : Nat.beq c 0 = false := by simpa using q2
          rw [this, y2]
          simp
          rw [hc, this, y2]
          rfl
        · rw [if_neg ha]
          simp [ha]
      · cases z
  · intro h a n z
    change s_len h a = some n at z
    show g_len (e_emb h) a = some n
    unfold s_len at z
    unfold g_len e_emb
    dsimp only
    cases hq : (Nat.blt a e_NN && (Nat.beq (e_SH a).1 100 && Nat.blt (e_SH a).2 2147483648)) with
    | true =>
      rw [hq] at z
      rw [(s_blt (h := h) hq).1]
      exact z
    | false =>
      rw [hq] at z
      simp only [cond_false] at z
      cases h9 : Nat.beq a 90 with
      | false => rw [h9] at z; cases z
      | true =>
        rw [h9] at z
        have := Nat.eq_of_beq_eq_true h9
        subst this
        simp only [cond_true] at z
        by_cases hf : h.1 90 0 = 1
        · rw [if_pos hf] at z
          have : s_n h = 91 := if_pos hf
          rw [this]
          exact z
        · rw [if_neg hf] at z; cases z
  · intro h a j v z
    change s_rget h a j = some v at z
    show g_rget (e_emb h) a j = some v
    unfold s_rget at z
    unfold g_rget e_emb
    dsimp only
    cases hq : (Nat.blt a e_NN && (Nat.beq (e_SH a).1 101 && (Nat.blt j (e_SH a).2 && Nat.blt (e_SH a).2 2147483648))) with
    | false => rw [hq] at z; cases z
    | true =>
      rw [hq] at z
      rw [(s_blt (h := h) hq).1]
      exact z
  · intro h c r z
    change s_newI h c = some r at z
    show g_newI (e_emb h) c = some (r.1, e_emb r.2)
    unfold s_newI at z
    cases hc : Nat.beq c 16 with
    | false => rw [hc] at z; cases z
    | true =>
      rw [hc] at z
      simp only [cond_true] at z
      have := Nat.eq_of_beq_eq_true hc
      subst this
      by_cases hf : h.1 90 0 = 0
      · rw [if_pos hf] at z
        cases z
        have e1 : s_n h = 90 := if_neg (by rw [hf]; decide)
        have e2 : s_n (u2 h.1 90 0 1, u1 h.2 90 (fun _ => 0)) = 91 := if_pos (by show u2 h.1 90 0 1 90 0 = 1; unfold u2; rw [u1_s, u1_s])
        have e3 : u1 e_SH 90 (100, 16) = e_SH := by
          funext j
          by_cases hj : j = 90
          · subst hj; rw [u1_s]; rfl
          · rw [u1_n _ _ hj]
        have e4 : FF (u2 h.1 90 0 1) = FF h.1 := by
          funext o k
          unfold FF
          cases ho : Nat.beq o 90 with
          | true => rfl
          | false =>
            have : o ≠ 90 := fun w => by subst w; cases ho
            unfold u2
            rw [u1_n _ _ this]
        unfold g_newI e_emb
        dsimp only
        rw [e1, e2, e4, e3]
      · rw [if_neg hf] at z; cases z
abbrev SC (y : Nat) (as : List Value) (h : St) (Q : Option Value → St → Prop) : Prop := e_CallI IS y as h Q
abbrev SR (y pc : Nat) (L : List (Option Value)) (st : List Value) (h : St) (Q : Option Value → St → Prop) : Prop := e_RunI IS y pc L st (0, 0) h Q
theorem w_if {c : Prop} [Decidable c] {A B : Prop} (f : c → A) (g : ¬ c → B) : if c then A else B := by
  by_cases h : c
  · rw [if_pos h]; exact f h
  · rw [if_neg h]; exact g h
theorem w_t {c : Prop} [Decidable c] {A B : Prop} (h : c) (f : A) : if c then A else B := by rw [if_pos h]; exact f
theorem w_f {c : Prop} [Decidable c] {A B : Prop} (h : ¬ c) (f : B) : if c then A else B := by rw [if_neg h]; exact f
/-! the same, with places at which to stop -/
def e_in : List Nat → Nat → Bool
  | [], _ => false
  | a :: r, x => bif Nat.beq a x then true else e_in r x
def e_find2 : List (Nat × XO) → Nat → Option (Nat × XO)
  | [], _ => none
  | (q, o) :: r, pc => bif Nat.beq q pc then some (q, o) else e_find2 r pc
theorem e_find2_ok {pc q : Nat} {o : XO} : ∀ {l : List (Nat × XO)}, e_find2 l pc = some (q, o) → q = pc ∧ e_find l pc = some o
  | [], h => by cases h
  | (q', o') :: r, h => by
    unfold e_find2 at h
    unfold e_find
    cases hq : Nat.beq q' pc with
    | true =>
      rw [hq] at h
      cases h
      exact ⟨Nat.eq_of_beq_eq_true hq, rfl⟩
    | false =>
      rw [hq] at h
      exact e_find2_ok h
def e_wq {η : Type} (I : e_IT η) (y : Nat) (stop : List Nat) (Q : Option Value → η → Prop) : Nat → Nat → List (Option Value) → List Value → Nat × Nat → η → Prop
  | 0, pc, L, st, B, h => e_RunI I y pc L st B h Q
  | n + 1, pc, L, st, B, h => bif e_in stop pc then e_RunI I y pc L st B h Q else match e_find2 (mOps y) pc with
    | some (q, i, len, r1, r2, _, _, sw) => e_k I y i len r1 r2 sw q L st B h Q (e_wq I y stop Q n)
    | none => False
theorem e_wq_ok {η : Type} {I : e_IT η} (hI : e_IOk I) {y : Nat} {stop : List Nat} (hM : OkM y) {Q : Option Value → η → Prop} : ∀ (n pc : Nat) (L : List (Option Value)) (st : List Value) (B : Nat × Nat) (h : η), e_wq I y stop Q n pc L st B h → e_RunI I y pc L st B h Q
  | 0, _, _, _, _, _, k => k
  | n + 1, pc, L, st, B, h, k => by
    unfold e_wq at k
    cases hs : e_in stop pc with
    | true => rw [hs] at k; exact k
    | false =>
      rw [hs] at k
      simp only [cond_false] at k
      split at k
      · next q i len r1 r2 nest hh sw ho =>
        obtain ⟨rfl, ho⟩ := e_find2_ok ho
        exact e_k_ok hI hM ho (fun pc L st B h hk => e_wq_ok hI hM n pc L st B h hk) k
      · exact k.elim
/-- one step, then on to the next stop -/
def e_wr {η : Type} (I : e_IT η) (y : Nat) (stop : List Nat) (Q : Option Value → η → Prop) (n pc : Nat) (L : List (Option Value)) (st : List Value) (B : Nat × Nat) (h : η) : Prop := match e_op y pc with
  | some (i, len, r1, r2, _, _, sw) => e_k I y i len r1 r2 sw pc L st B h Q (e_wq I y stop Q n)
  | none => False
theorem w_loop {η : Type} {I : e_IT η} (hI : e_IOk I) {y : Nat} (stop : List Nat) (hM : OkM y) {Q : Option Value → η → Prop} {pc : Nat} {L : List (Option Value)} {st : List Value} {B : Nat × Nat} {h : η} (k : e_wr I y stop Q 400 pc L st B h) : e_RunI I y pc L st B h Q := by
  unfold e_wr at k
  split at k
  · next i len r1 r2 nest hh sw ho => exact e_k_ok hI hM ho (fun pc L st B h hk => e_wq_ok hI hM 400 pc L st B h hk) k
  · exact k.elim
theorem w_call {η : Type} {I : e_IT η} (hI : e_IOk I) {y : Nat} (stop : List Nat) (hM : OkM y) (hy : plainName (mNm y).cls = true) {as : List Value} {h : η} {Q : Option Value → η → Prop} (hlen : Nat.ble (e_args as).length (mML y) = true) (hwp : e_wq I y stop Q 400 0 (e_L0 as (mML y)) [] ((mRm y).cells, (mRm y).slots) h) (hyl : Nat.beq y y_L_law = false := by rfl) : e_CallI I y as h Q :=
  e_call_of hI hM (n := 0) hy hlen (e_wq_ok hI hM 400 0 _ [] _ h hwp) hyl
/-! ints by whole numbers -/
def iI (z : Int) : Int32 := Int32.ofInt z
abbrev rg (z : Int) : Prop := -2147483648 ≤ z ∧ z < 2147483648
theorem iI_add (a b : Int) : iI a + iI b = iI (a + b) := (Int32.ofInt_add a b).symm
theorem iI_sub (a b : Int) : iI a - iI b = iI (a - b) := (Int32.ofInt_sub a b).symm
theorem iI_mul (a b : Int) : iI a * iI b = iI (a * b) := (Int32.ofInt_mul a b).symm
theorem iI_neg (a : Int) : -iI a = iI (-a) := (Int32.ofInt_neg a).symm
theorem iI_toInt {a : Int} (h : rg a) : (iI a).toInt = a := Int32.toInt_ofInt_of_le h.1 h.2
theorem iI_of (x : Int32) : x = iI x.toInt := (Int32.ofInt_toInt x).symm
theorem iI_rg (x : Int32) : rg x.toInt := ⟨Int32.le_toInt x, Int32.toInt_lt x⟩
theorem iI_lt {a b : Int} (ha : rg a) (hb : rg b) : iI a < iI b ↔ a < b := by rw [Int32.lt_iff_toInt_lt, iI_toInt ha, iI_toInt hb]
theorem iI_le {a b : Int} (ha : rg a) (hb : rg b) : iI a ≤ iI b ↔ a ≤ b := by rw [Int32.le_iff_toInt_le, iI_toInt ha, iI_toInt hb]
theorem iI_eq {a b : Int} (ha : rg a) (hb : rg b) : iI a = iI b ↔ a = b := ⟨fun h => by rw [← iI_toInt ha, ← iI_toInt hb, h], fun h => by rw [h]⟩
theorem iI_nat (n : Nat) : nI n = iI (n : Int) := rfl
theorem iI_lit (n : Nat) : (OfNat.ofNat n : Int32) = iI (n : Int) := rfl
theorem iI_m (n : Nat) : (-(OfNat.ofNat n) : Int32) = iI (-(n : Int)) := iI_neg n
theorem w_lt {x y : Int32} {A B : Prop} (a b : Int) (f : a < b → A) (g : b ≤ a → B) (hx : x = iI a := by first | rfl | simp only [iI_lit, iI_nat, iI_add, iI_sub, iI_mul, iI_neg] <;> rfl) (hy : y = iI b := by first | rfl | simp only [iI_lit, iI_nat, iI_add, iI_sub, iI_mul, iI_neg] <;> rfl) (ha : rg a := by omega) (hb : rg b := by omega) : if x < y then A else B := by
  subst hx; subst hy
  exact w_if (fun h => f ((iI_lt ha hb).mp h)) (fun h => g (by have : ¬ a < b := fun z => h ((iI_lt ha hb).mpr z); omega))
theorem w_le {x y : Int32} {A B : Prop} (a b : Int) (f : a ≤ b → A) (g : b < a → B) (hx : x = iI a := by first | rfl | simp only [iI_lit, iI_nat, iI_add, iI_sub, iI_mul, iI_neg] <;> rfl) (hy : y = iI b := by first | rfl | simp only [iI_lit, iI_nat, iI_add, iI_sub, iI_mul, iI_neg] <;> rfl) (ha : rg a := by omega) (hb : rg b := by omega) : if x ≤ y then A else B := by
  subst hx; subst hy
  exact w_if (fun h => f ((iI_le ha hb).mp h)) (fun h => g (by have : ¬ a ≤ b := fun z => h ((iI_le ha hb).mpr z); omega))
theorem w_eq {x y : Int32} {A B : Prop} (a b : Int) (f : a = b → A) (g : a ≠ b → B) (hx : x = iI a := by first | rfl | simp only [iI_lit, iI_nat, iI_add, iI_sub, iI_mul, iI_neg] <;> rfl) (hy : y = iI b := by first | rfl | simp only [iI_lit, iI_nat, iI_add, iI_sub, iI_mul, iI_neg] <;> rfl) (ha : rg a := by omega) (hb : rg b := by omega) : if x = y then A else B := by
  subst hx; subst hy
  exact w_if (fun h => f ((iI_eq ha hb).mp h)) (fun h => g (fun z => h ((iI_eq ha hb).mpr z)))
/-- an index -/
theorem w_ix {x : Int32} {n : Nat} {K : Nat → Prop} (j : Nat) (k : K j) (hx : x = iI (j : Int) := by first | rfl | simp only [iI_lit, iI_nat, iI_add, iI_sub, iI_mul, iI_neg] <;> rfl) (hj : j < n := by omega) : ∃ i : Nat, x = nI i ∧ i < n ∧ K i := ⟨j, hx, hj, k⟩
