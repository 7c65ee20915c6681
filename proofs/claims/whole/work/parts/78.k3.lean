/-! the constructor of the reference -/
def gM (G : Nat → Nat → Option Nat) : Nat → Nat → Option Nat := (u2 (u2 (u2 (u2 (u2 (u2 (u2 (u2 (u2 (u2 (u2 (u2 (u2 (u2 (u2 (u2 (u2 (u2 G 90 1 (some 91)) 90 2 (some 92)) 90 3 (some 93)) 90 5 (some 94)) 90 7 (some 95)) 90 8 (some 96)) 90 9 (some 97)) 90 10 (some 98)) 90 11 (some 99)) 90 12 (some 100)) 90 13 (some 101)) 90 14 (some 102)) 90 15 (some 103)) 90 16 (some 104)) 90 18 (some 105)) 90 19 (some 106)) 90 20 (some 107)) 90 22 (some 108))
def fM (F : Nat → Nat → Int32) : Nat → Nat → Int32 := u2 F 90 0 0
def rM0 (R : Nat → Nat → Int32) : Nat → Nat → Int32 := (u1 (u1 (u1 (u1 (u1 (u1 (u1 (u1 (u1 (u1 (u1 (u1 (u1 (u1 (u1 (u1 (u1 (u1 R 91 (fun _ => 0)) 92 (fun _ => 0)) 93 (fun _ => 0)) 94 (fun _ => 0)) 95 (fun _ => 0)) 96 (fun _ => 0)) 97 (fun _ => 0)) 98 (fun _ => 0)) 99 (fun _ => 0)) 100 (fun _ => 0)) 101 (fun _ => 0)) 102 (fun _ => 0)) 103 (fun _ => 0)) 104 (fun _ => 0)) 105 (fun _ => 0)) 106 (fun _ => 0)) 107 (fun _ => 0)) 108 (fun _ => 0))
def rM2 (R : Nat → Nat → Int32) : Nat → Nat → Int32 := u1 R 91 (u1 (R 91) 2 8)
def rM4 (R : Nat → Nat → Int32) : Nat → Nat → Int32 := u1 R 91 (u1 (R 91) 4 1)
def rM (R : Nat → Nat → Int32) : Nat → Nat → Int32 := u1 (rM4 (rM2 (rM0 R))) 91 (fun j => if 206 ≤ j ∧ j < 206 + 64 then 255 else rM4 (rM2 (rM0 R)) 91 j)
set_option maxRecDepth 100000 in
set_option maxHeartbeats 4000000 in
theorem k_M_loop {G : Nat → Nat → Option Nat} {F R : Nat → Nat → Int32} {Q : Option Value → Kt → Prop} (kk : Q none (109, gM G, F, u1 R 91 (fun j => if 206 ≤ j ∧ j < 206 + 64 then 255 else R 91 j))) : CR y_M_init 169 [some (.ref 90), some (.int 0)] [] (0, 0) (109, gM G, F, R) Q := by
  have loop : ∀ (m k : Nat) (R' : Nat → Nat → Int32) (z : Int32), 64 ≤ k + m → k ≤ 64 → R' = u1 R 91 (fun j => if 206 ≤ j ∧ j < 206 + k then 255 else R 91 j) → z = iI k → CR y_M_init 169 [some (.ref 90), some (.int z)] [] (0, 0) (109, gM G, F, R') Q := by
    intro m
    induction m with
    | zero =>
      intro k R' z hm hk hs hz
      refine w_loop IC_ok [169] ok_M_init ?_
      refine w_le 64 k (fun _ => ?_) (fun _ => by omega) rfl hz
      have : k = 64 := by omega
      subst this
      subst hs
      exact kk
    | succ m ih =>
      intro k R' z hm hk hs hz
      refine w_loop IC_ok [169] ok_M_init ?_
      refine w_le 64 k (fun _ => ?_) (fun _ => ?_) rfl hz
      · have : k = 64 := by omega
        subst this
        subst hs
        exact kk
      refine w_ix (206 + k) ?_ (by rw [hz]; exact (iI_add 206 k).trans (congrArg iI (by omega))) (show 206 + k < 270 by omega)
      refine ih (k + 1) (u1 R' 91 (u1 (R' 91) (206 + k) 255)) _ (by omega) (by omega) ?_ (iI_1 hz)
      subst hs
      funext o2 j
      by_cases h1 : o2 = 91
      · subst h1
        rw [u1_s, u1_s]
        by_cases h2 : j = 206 + k
        · subst h2; rw [u1_s, u1_s, if_pos (by omega)]
        · rw [u1_n _ _ h2, u1_s]
          by_cases h3 : 206 ≤ j ∧ j < 206 + k
          · rw [if_pos h3, if_pos (by omega)]
          · rw [if_neg h3, if_neg (by omega)]
      · rw [u1_n _ _ h1, u1_n _ _ h1, u1_n _ _ h1]
  refine loop 64 0 R _ (by omega) (by omega) ?_ rfl
  funext o2 j
  by_cases h1 : o2 = 91
  · subst h1; rw [u1_s, if_neg (by omega)]
  · rw [u1_n _ _ h1]
set_option maxRecDepth 100000 in
set_option maxHeartbeats 8000000 in
theorem k_M {G : Nat → Nat → Option Nat} {F R : Nat → Nat → Int32} {Q : Option Value → Kt → Prop} (kk : Q none (109, gM G, fM F, rM R)) : CC y_M_init [.ref 90] (91, G, F, R) Q := by
  refine w_call IC_ok [169] ok_M_init rfl rfl ?_
  refine ⟨270, by decide, ?_⟩
  refine ⟨270, by decide, ?_⟩
  refine ⟨1350, by decide, ?_⟩
  refine ⟨100, by decide, ?_⟩
  refine ⟨20, by decide, ?_⟩
  refine ⟨20, by decide, ?_⟩
  refine ⟨20, by decide, ?_⟩
  refine ⟨20, by decide, ?_⟩
  refine ⟨100, by decide, ?_⟩
  refine ⟨100, by decide, ?_⟩
  refine ⟨100, by decide, ?_⟩
  refine ⟨100, by decide, ?_⟩
  refine ⟨100, by decide, ?_⟩
  refine ⟨100, by decide, ?_⟩
  refine ⟨5, by decide, ?_⟩
  refine ⟨5, by decide, ?_⟩
  refine ⟨3, by decide, ?_⟩
  refine ⟨5, by decide, ?_⟩
  refine ⟨2, by decide, show (2 : Nat) < 270 by decide, ?_⟩
  refine ⟨4, by decide, show (4 : Nat) < 270 by decide, ?_⟩
  exact k_M_loop (G := G) (F := fM F) (R := rM4 (rM2 (rM0 R))) kk
