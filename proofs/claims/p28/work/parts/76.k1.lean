/-! the face of objects in the making: the shapes are those that they will have -/
abbrev Kt : Type := Nat × (Nat → Nat → Option Nat) × (Nat → Nat → Int32) × (Nat → Nat → Int32)
def k_emb (h : Kt) : Sg := ((h.1, e_SH), h.2)
def k_put : Kt → Nat → Nat → Nat → Value → Option Kt
  | (n, G, F, R), o, c, k, v => bif Nat.blt o n && Nat.beq (e_SH o).1 c then (match v with
    | .int x => bif e_isI (e_fty c k) then some (n, G, u2 F o k x, R) else none
    | .ref j => bif e_isI (e_fty c k) then none else some (n, u2 G o k (some j), F, R)
    | _ => none) else none
def k_wr : Kt → Nat → (Nat → Int32) → Kt
  | (n, G, F, R), a, f => (n, G, F, u1 R a f)
def k_rput : Kt → Nat → Nat → Value → Option Kt
  | (n, G, F, R), a, j, v => bif Nat.blt a n && (Nat.beq (e_SH a).1 101 && (Nat.blt j (e_SH a).2 && Nat.blt (e_SH a).2 2147483648)) then (match v with
    | .ref o => bif Nat.blt o n && Nat.beq (e_SH o).1 5 then some (n, u2 G a j (some o), F, R) else none
    | _ => none) else none
def k_new : Kt → Nat → Option (Nat × Kt)
  | (n, G, F, R), c => bif Nat.beq (e_SH n).1 c && (Nat.beq (e_SH n).2 0 && Nat.blt c 12) then some (n, (n + 1, u1 G n (fun _ => none), u1 F n (fun _ => 0), R)) else none
def k_newI : Kt → Nat → Option (Nat × Kt)
  | (n, G, F, R), c => bif Nat.beq (e_SH n).1 100 && Nat.beq (e_SH n).2 c then some (n, (n + 1, G, F, u1 R n (fun _ => 0))) else none
def k_newR : Kt → Nat → Option (Nat × Kt)
  | (n, G, F, R), c => bif Nat.beq (e_SH n).1 101 && Nat.beq (e_SH n).2 c then some (n, (n + 1, u1 G n (fun _ => none), F, R)) else none
def k_get : Kt → Nat → Nat → Nat → Option Value
  | (n, G, F, _), o, c, k => bif Nat.blt o n && Nat.beq (e_SH o).1 c then some (bif e_isI (e_fty c k) then .int (F o k) else va_rf (G o k)) else none
def k_row : Kt → Nat → Nat → Int32
  | (_, _, _, R), a, j => R a j
def IC : e_IT Kt := (k_emb, k_get, k_put, fun h => g_len (k_emb h), k_row, k_wr, fun h => g_rget (k_emb h), k_rput, k_new, k_newI, k_newR)
theorem k_sh {n a b : Nat} (h1 : (e_SH n).1 = a) (h2 : (e_SH n).2 = b) : u1 e_SH n (a, b) = e_SH := by
  funext j
  by_cases hj : j = n
  · subst hj; rw [u1_s, ← h1, ← h2]
  · rw [u1_n _ _ hj]
theorem IC_ok : e_IOk IC := by
  refine ⟨?_, ?_, fun h a n z => z, ?_, ?_, fun _ _ _ _ z => z, ?_, ?_, ?_, ?_⟩
  · rintro ⟨n, G, F, R⟩ o c k v z; exact z
  · rintro ⟨n, G, F, R⟩ o c k v h' z
    change k_put (n, G, F, R) o c k v = some h' at z
    show g_put ((n, e_SH), G, F, R) o c k v = some (k_emb h')
    unfold k_put at z
    unfold g_put
    dsimp only at z ⊢
    cases hq : (Nat.blt o n && Nat.beq (e_SH o).1 c) with
    | false => rw [hq] at z; cases z
    | true =>
      rw [hq] at z
      simp only [cond_true] at z ⊢
      cases v <;> try cases z
      all_goals
        dsimp only at z ⊢
        cases hi : e_isI (e_fty c k) <;> rw [hi] at z <;> cases z <;> rfl
  · rintro ⟨n, G, F, R⟩ a j; rfl
  · rintro ⟨n, G, F, R⟩ a f; rfl
  · rintro ⟨n, G, F, R⟩ a j v h' z
    change k_rput (n, G, F, R) a j v = some h' at z
    show g_rput ((n, e_SH), G, F, R) a j v = some (k_emb h')
    unfold k_rput at z
    unfold g_rput
    dsimp only at z ⊢
    cases hq : (Nat.blt a n && (Nat.beq (e_SH a).1 101 && (Nat.blt j (e_SH a).2 && Nat.blt (e_SH a).2 2147483648))) with
    | false => rw [hq] at z; cases z
    | true =>
      rw [hq] at z
      simp only [cond_true] at z ⊢
      cases v <;> try cases z
      next o =>
      dsimp only at z ⊢
      cases hi : (Nat.blt o n && Nat.beq (e_SH o).1 5) <;> rw [hi] at z <;> cases z <;> rfl
  · rintro ⟨n, G, F, R⟩ c r z
    change k_new (n, G, F, R) c = some r at z
    show g_new ((n, e_SH), G, F, R) c = some (r.1, k_emb r.2)
    unfold k_new at z
    unfold g_new
    dsimp only at z ⊢
    cases hq : (Nat.beq (e_SH n).1 c && (Nat.beq (e_SH n).2 0 && Nat.blt c 12)) with
    | false => rw [hq] at z; cases z
    | true =>
      rw [hq] at z
      simp only [Bool.and_eq_true] at hq
      obtain ⟨q1, q2, q3⟩ := hq
      rw [q3]
      cases z
      simp only [cond_true]
      rw [k_sh (Nat.eq_of_beq_eq_true q1) (Nat.eq_of_beq_eq_true q2)]
      rfl
  · rintro ⟨n, G, F, R⟩ c r z
    change k_newI (n, G, F, R) c = some r at z
    show g_newI ((n, e_SH), G, F, R) c = some (r.1, k_emb r.2)
    unfold k_newI at z
    unfold g_newI
    dsimp only at z ⊢
    cases hq : (Nat.beq (e_SH n).1 100 && Nat.beq (e_SH n).2 c) with
    | false => rw [hq] at z; cases z
    | true =>
      rw [hq] at z
      simp only [Bool.and_eq_true] at hq
      obtain ⟨q1, q2⟩ := hq
      cases z
      rw [k_sh (Nat.eq_of_beq_eq_true q1) (Nat.eq_of_beq_eq_true q2)]
      rfl
  · rintro ⟨n, G, F, R⟩ c r z
    change k_newR (n, G, F, R) c = some r at z
    show g_newR ((n, e_SH), G, F, R) c = some (r.1, k_emb r.2)
    unfold k_newR at z
    unfold g_newR
    dsimp only at z ⊢
    cases hq : (Nat.beq (e_SH n).1 101 && Nat.beq (e_SH n).2 c) with
    | false => rw [hq] at z; cases z
    | true =>
      rw [hq] at z
      simp only [Bool.and_eq_true] at hq
      obtain ⟨q1, q2⟩ := hq
      cases z
      rw [k_sh (Nat.eq_of_beq_eq_true q1) (Nat.eq_of_beq_eq_true q2)]
      rfl
abbrev CC (y : Nat) (as : List Value) (h : Kt) (Q : Option Value → Kt → Prop) : Prop := e_CallI IC y as h Q
abbrev CR (y pc : Nat) (L : List (Option Value)) (st : List Value) (B : Nat × Nat) (h : Kt) (Q : Option Value → Kt → Prop) : Prop := e_RunI IC y pc L st B h Q
theorem k_putR {n : Nat} {G : Nat → Nat → Option Nat} {F R : Nat → Nat → Int32} {o c k j : Nat} (hq : (Nat.blt o n && Nat.beq (e_SH o).1 c) = true) (hi : e_isI (e_fty c k) = false) : k_put (n, G, F, R) o c k (.ref j) = some (n, u2 G o k (some j), F, R) := by
  unfold k_put; dsimp only; rw [hq, hi]; rfl
theorem k_putI {n : Nat} {G : Nat → Nat → Option Nat} {F R : Nat → Nat → Int32} {o c k : Nat} {x : Int32} (hq : (Nat.blt o n && Nat.beq (e_SH o).1 c) = true) (hi : e_isI (e_fty c k) = true) : k_put (n, G, F, R) o c k (.int x) = some (n, G, u2 F o k x, R) := by
  unfold k_put; dsimp only; rw [hq, hi]; rfl
theorem k_nI {n len : Nat} {G : Nat → Nat → Option Nat} {F R : Nat → Nat → Int32} (hs : (Nat.beq (e_SH n).1 100 && Nat.beq (e_SH n).2 len) = true) : k_newI (n, G, F, R) len = some (n, (n + 1, G, F, u1 R n (fun _ => 0))) := by
  unfold k_newI; dsimp only; rw [hs]; rfl
theorem k_J_max {x y : Int32} {h : Kt} {Q : Option Value → Kt → Prop} (hQ : Q (some (.int x)) h) (hx : y ≤ x) : CC y_J_max [.int x, .int y] h Q := by
  refine w_callF IC_ok [] ok_J_max pf_98 rfl ?_
  refine w_if (fun g => ?_) (fun g => ?_)
  · exact absurd (Int32.lt_of_lt_of_le g hx) (Int32.lt_irrefl)
  · exact hQ
theorem w_mx {α : Type} {x : Option α} {K : α → Prop} (v : α) : x = some v → K v → (match x with
  | some v => K v
  | none => False) := fun hx k => by subst hx; exact k
theorem w_mo {η : Type} {x : Option (Nat × η)} {K : Nat → η → Prop} (v : Nat) (h : η) : x = some (v, h) → K v h → (match x with
  | some (v, h) => K v h
  | none => False) := fun hx k => by subst hx; exact k
theorem w_bf {c : Bool} {A : Prop} (hc : c = true) (k : A) : bif c then A else False := by subst hc; exact k
set_option maxHeartbeats 1000000 in
theorem k_Cells_init {a n : Nat} {G : Nat → Nat → Option Nat} {F R : Nat → Nat → Int32} {x w : Int32} {Q : Option Value → Kt → Prop} (len : Nat) (ha : (Nat.blt a (n + 1) && Nat.beq (e_SH a).1 0) = true) (hs : (Nat.beq (e_SH n).1 100 && Nat.beq (e_SH n).2 len) = true) (hx : x * w = nI len) (hl : Nat.ble len 600 = true) (kk : Q none (n + 1, u2 G a 0 (some n), u2 F a 1 w, u1 R n (fun _ => 0))) : CC y_Cells_init [.ref a, .int x, .int w] (n, G, F, R) Q := by
  have hl6 := Nat.le_of_ble_eq_true hl
  refine w_call IC_ok [] ok_Cells_init rfl rfl ?_
  refine k_J_max ?_ ?_
  · refine ⟨len, hx, ?_⟩
    refine w_mo n (n + 1, G, F, u1 R n (fun _ => 0)) (k_nI hs) ?_
    refine w_bf (by rw [Bool.and_eq_true, Bool.and_eq_true]; exact ⟨rfl, hl, by simp only [Nat.blt_eq]; omega⟩) ?_
    refine w_mx (n + 1, u2 G a 0 (some n), F, u1 R n (fun _ => 0)) (k_putR ha rfl) ?_
    refine w_mx (n + 1, u2 G a 0 (some n), u2 F a 1 w, u1 R n (fun _ => 0)) (k_putI ha rfl) ?_
    exact kk
  · rw [hx]
    exact (iI_le (a := (0 : Int)) (b := (len : Int)) (by omega) (by omega)).mpr (by omega)
