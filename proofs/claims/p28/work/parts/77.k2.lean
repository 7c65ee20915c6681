/-! the constructors of the class -/
theorem k_gr {n o c k a : Nat} {G : Nat → Nat → Option Nat} {F R : Nat → Nat → Int32} (hq : (Nat.blt o n && Nat.beq (e_SH o).1 c) = true) (hi : e_isI (e_fty c k) = false) (hG : G o k = some a) : k_get (n, G, F, R) o c k = some (.ref a) := by
  unfold k_get; dsimp only; rw [hq, hi, hG]; rfl
theorem k_ln {n a len : Nat} {G : Nat → Nat → Option Nat} {F R : Nat → Nat → Int32} (hl : (Nat.blt a n && (Nat.beq (e_SH a).1 100 && Nat.blt (e_SH a).2 2147483648)) = true) (hln : (e_SH a).2 = len) : g_len (k_emb (n, G, F, R)) a = some len := by
  unfold g_len k_emb; dsimp only; rw [hl, hln]; rfl
theorem k_fill {o a n len : Nat} {G : Nat → Nat → Option Nat} {F R : Nat → Nat → Int32} {v : Int32} {Q : Option Value → Kt → Prop} (ho : (Nat.blt o n && Nat.beq (e_SH o).1 0) = true) (hG : G o 0 = some a) (hl : (Nat.blt a n && (Nat.beq (e_SH a).1 100 && Nat.blt (e_SH a).2 2147483648)) = true) (hln : (e_SH a).2 = len) (hlen : len < 1000) (kk : Q none (n, G, F, u1 R a (fun j => if j < len then v else R a j))) : CC y_Cells_fill [.ref o, .int v] (n, G, F, R) Q := by
  refine w_call IC_ok [2] ok_Cells_fill rfl rfl ?_
  have loop : ∀ (m k : Nat) (R' : Nat → Nat → Int32) (z : Int32), len ≤ k + m → k ≤ len → R' = u1 R a (fun j => if j < k then v else R a j) → z = iI k → CR y_Cells_fill 2 [some (.ref o), some (.int v), some (.int z)] [] (0, 0) (n, G, F, R') Q := by
    intro m
    induction m with
    | zero =>
      intro k R' z hm hk hs hz
      refine w_loop IC_ok [2] ok_Cells_fill ?_
      refine w_m _ (k_gr (R := R') ho rfl hG) ?_
      refine w_mn _ (k_ln (R := R') hl hln) ?_
      refine w_le len k (fun _ => ?_) (fun _ => by omega) rfl hz
      have : k = len := by omega
      subst this
      subst hs
      exact kk
    | succ m ih =>
      intro k R' z hm hk hs hz
      refine w_loop IC_ok [2] ok_Cells_fill ?_
      refine w_m _ (k_gr (R := R') ho rfl hG) ?_
      refine w_mn _ (k_ln (R := R') hl hln) ?_
      refine w_le len k (fun _ => ?_) (fun _ => ?_) rfl hz
      · have : k = len := by omega
        subst this
        subst hs
        exact kk
      refine w_m _ (k_gr (R := R') ho rfl hG) ?_
      refine w_mn _ (k_ln (R := R') hl hln) ?_
      refine w_ix k ?_ hz (by omega)
      refine ih (k + 1) (u1 R' a (u1 (R' a) k v)) _ (by omega) (by omega) ?_ (iI_1 hz)
      subst hs
      funext o2 j
      by_cases h1 : o2 = a
      · subst h1
        rw [u1_s, u1_s]
        by_cases h2 : j = k
        · subst h2; rw [u1_s, u1_s, if_pos (by omega)]
        · rw [u1_n _ _ h2, u1_s]
          by_cases h3 : j < k
          · rw [if_pos h3, if_pos (by omega)]
          · rw [if_neg h3, if_neg (by omega)]
      · rw [u1_n _ _ h1, u1_n _ _ h1, u1_n _ _ h1]
  refine loop len 0 R _ (by omega) (by omega) ?_ rfl
  funext o2 j
  by_cases h1 : o2 = a
  · subst h1; rw [u1_s, if_neg (by omega)]
  · rw [u1_n _ _ h1]
def gScene_1 (G : Nat → Nat → Option Nat) : Nat → Nat → Option Nat := (u2 (u2 (u1 (u2 (u2 (u1 (u2 (u2 (u1 G 2 (fun _ => none)) 2 0 (some 3)) 1 0 (some 2)) 4 (fun _ => none)) 4 0 (some 5)) 1 1 (some 4)) 6 (fun _ => none)) 6 0 (some 7)) 1 2 (some 6))
def fScene_1 (F : Nat → Nat → Int32) : Nat → Nat → Int32 := (u2 (u2 (u2 (u2 (u2 (u2 (u2 (u1 (u2 (u1 (u2 (u1 F 2 (fun _ => 0)) 2 1 8) 4 (fun _ => 0)) 4 1 10) 6 (fun _ => 0)) 6 1 1) 1 3 0) 1 4 0) 1 5 8) 1 6 0) 1 7 1) 1 8 0)
def rScene_1 (R : Nat → Nat → Int32) : Nat → Nat → Int32 := (u1 (u1 (u1 (u1 R 3 (fun _ => 0)) 5 (fun _ => 0)) 7 (fun _ => 0)) 3 (fun j => if j < 64 then 255 else (u1 (u1 (u1 R 3 (fun _ => 0)) 5 (fun _ => 0)) 7 (fun _ => 0)) 3 j))
set_option maxRecDepth 100000 in
set_option maxHeartbeats 4000000 in
theorem k_Scene_1 {G : Nat → Nat → Option Nat} {F R : Nat → Nat → Int32} {Q : Option Value → Kt → Prop} (kk : Q none (8, gScene_1 G, fScene_1 F, rScene_1 R)) : CC y_Scene_init [.ref 1] (2, G, F, R) Q := by
  refine w_call IC_ok [] ok_Scene_init rfl rfl ?_
  refine k_Cells_init 64 rfl rfl (by decide) rfl ?_
  refine k_Cells_init 200 rfl rfl (by decide) rfl ?_
  refine k_Cells_init 20 rfl rfl (by decide) rfl ?_
  refine k_fill (a := 3) rfl rfl rfl rfl (by decide) ?_
  exact kk
def gScene_8 (G : Nat → Nat → Option Nat) : Nat → Nat → Option Nat := (u2 (u2 (u1 (u2 (u2 (u1 (u2 (u2 (u1 G 9 (fun _ => none)) 9 0 (some 10)) 8 0 (some 9)) 11 (fun _ => none)) 11 0 (some 12)) 8 1 (some 11)) 13 (fun _ => none)) 13 0 (some 14)) 8 2 (some 13))
def fScene_8 (F : Nat → Nat → Int32) : Nat → Nat → Int32 := (u2 (u2 (u2 (u2 (u2 (u2 (u2 (u1 (u2 (u1 (u2 (u1 F 9 (fun _ => 0)) 9 1 8) 11 (fun _ => 0)) 11 1 10) 13 (fun _ => 0)) 13 1 1) 8 3 0) 8 4 0) 8 5 8) 8 6 0) 8 7 1) 8 8 0)
def rScene_8 (R : Nat → Nat → Int32) : Nat → Nat → Int32 := (u1 (u1 (u1 (u1 R 10 (fun _ => 0)) 12 (fun _ => 0)) 14 (fun _ => 0)) 10 (fun j => if j < 64 then 255 else (u1 (u1 (u1 R 10 (fun _ => 0)) 12 (fun _ => 0)) 14 (fun _ => 0)) 10 j))
set_option maxRecDepth 100000 in
set_option maxHeartbeats 4000000 in
theorem k_Scene_8 {G : Nat → Nat → Option Nat} {F R : Nat → Nat → Int32} {Q : Option Value → Kt → Prop} (kk : Q none (15, gScene_8 G, fScene_8 F, rScene_8 R)) : CC y_Scene_init [.ref 8] (9, G, F, R) Q := by
  refine w_call IC_ok [] ok_Scene_init rfl rfl ?_
  refine k_Cells_init 64 rfl rfl (by decide) rfl ?_
  refine k_Cells_init 200 rfl rfl (by decide) rfl ?_
  refine k_Cells_init 20 rfl rfl (by decide) rfl ?_
  refine k_fill (a := 10) rfl rfl rfl rfl (by decide) ?_
  exact kk
def gSurv_15 (G : Nat → Nat → Option Nat) : Nat → Nat → Option Nat := (u2 (u2 (u1 (u2 (u2 (u1 G 16 (fun _ => none)) 16 0 (some 17)) 15 0 (some 16)) 18 (fun _ => none)) 18 0 (some 19)) 15 1 (some 18))
def fSurv_15 (F : Nat → Nat → Int32) : Nat → Nat → Int32 := (u2 (u1 (u2 (u1 F 16 (fun _ => 0)) 16 1 1) 18 (fun _ => 0)) 18 1 1)
def rSurv_15 (R : Nat → Nat → Int32) : Nat → Nat → Int32 := (u1 (u1 R 17 (fun _ => 0)) 19 (fun _ => 0))
set_option maxRecDepth 100000 in
set_option maxHeartbeats 4000000 in
theorem k_Surv_15 {G : Nat → Nat → Option Nat} {F R : Nat → Nat → Int32} {Q : Option Value → Kt → Prop} (kk : Q none (20, gSurv_15 G, fSurv_15 F, rSurv_15 R)) : CC y_Surv_init [.ref 15] (16, G, F, R) Q := by
  refine w_call IC_ok [] ok_Surv_init rfl rfl ?_
  refine k_Cells_init 48 rfl rfl (by decide) rfl ?_
  refine k_Cells_init 20 rfl rfl (by decide) rfl ?_
  exact kk
def gSight_20 (G : Nat → Nat → Option Nat) : Nat → Nat → Option Nat := (u2 (u2 (u1 G 21 (fun _ => none)) 21 0 (some 22)) 20 0 (some 21))
def fSight_20 (F : Nat → Nat → Int32) : Nat → Nat → Int32 := (u2 (u2 (u1 F 21 (fun _ => 0)) 21 1 1) 20 1 0)
def rSight_20 (R : Nat → Nat → Int32) : Nat → Nat → Int32 := (u1 R 22 (fun _ => 0))
set_option maxRecDepth 100000 in
set_option maxHeartbeats 4000000 in
theorem k_Sight_20 {G : Nat → Nat → Option Nat} {F R : Nat → Nat → Int32} {Q : Option Value → Kt → Prop} (kk : Q none (23, gSight_20 G, fSight_20 F, rSight_20 R)) : CC y_Sight_init [.ref 20] (21, G, F, R) Q := by
  refine w_call IC_ok [] ok_Sight_init rfl rfl ?_
  refine k_Cells_init 8 rfl rfl (by decide) rfl ?_
  exact kk
def gScene_24 (G : Nat → Nat → Option Nat) : Nat → Nat → Option Nat := (u2 (u2 (u1 (u2 (u2 (u1 (u2 (u2 (u1 G 25 (fun _ => none)) 25 0 (some 26)) 24 0 (some 25)) 27 (fun _ => none)) 27 0 (some 28)) 24 1 (some 27)) 29 (fun _ => none)) 29 0 (some 30)) 24 2 (some 29))
def fScene_24 (F : Nat → Nat → Int32) : Nat → Nat → Int32 := (u2 (u2 (u2 (u2 (u2 (u2 (u2 (u1 (u2 (u1 (u2 (u1 F 25 (fun _ => 0)) 25 1 8) 27 (fun _ => 0)) 27 1 10) 29 (fun _ => 0)) 29 1 1) 24 3 0) 24 4 0) 24 5 8) 24 6 0) 24 7 1) 24 8 0)
def rScene_24 (R : Nat → Nat → Int32) : Nat → Nat → Int32 := (u1 (u1 (u1 (u1 R 26 (fun _ => 0)) 28 (fun _ => 0)) 30 (fun _ => 0)) 26 (fun j => if j < 64 then 255 else (u1 (u1 (u1 R 26 (fun _ => 0)) 28 (fun _ => 0)) 30 (fun _ => 0)) 26 j))
set_option maxRecDepth 100000 in
set_option maxHeartbeats 4000000 in
theorem k_Scene_24 {G : Nat → Nat → Option Nat} {F R : Nat → Nat → Int32} {Q : Option Value → Kt → Prop} (kk : Q none (31, gScene_24 G, fScene_24 F, rScene_24 R)) : CC y_Scene_init [.ref 24] (25, G, F, R) Q := by
  refine w_call IC_ok [] ok_Scene_init rfl rfl ?_
  refine k_Cells_init 64 rfl rfl (by decide) rfl ?_
  refine k_Cells_init 200 rfl rfl (by decide) rfl ?_
  refine k_Cells_init 20 rfl rfl (by decide) rfl ?_
  refine k_fill (a := 26) rfl rfl rfl rfl (by decide) ?_
  exact kk
def gSurv_31 (G : Nat → Nat → Option Nat) : Nat → Nat → Option Nat := (u2 (u2 (u1 (u2 (u2 (u1 G 32 (fun _ => none)) 32 0 (some 33)) 31 0 (some 32)) 34 (fun _ => none)) 34 0 (some 35)) 31 1 (some 34))
def fSurv_31 (F : Nat → Nat → Int32) : Nat → Nat → Int32 := (u2 (u1 (u2 (u1 F 32 (fun _ => 0)) 32 1 1) 34 (fun _ => 0)) 34 1 1)
def rSurv_31 (R : Nat → Nat → Int32) : Nat → Nat → Int32 := (u1 (u1 R 33 (fun _ => 0)) 35 (fun _ => 0))
set_option maxRecDepth 100000 in
set_option maxHeartbeats 4000000 in
theorem k_Surv_31 {G : Nat → Nat → Option Nat} {F R : Nat → Nat → Int32} {Q : Option Value → Kt → Prop} (kk : Q none (36, gSurv_31 G, fSurv_31 F, rSurv_31 R)) : CC y_Surv_init [.ref 31] (32, G, F, R) Q := by
  refine w_call IC_ok [] ok_Surv_init rfl rfl ?_
  refine k_Cells_init 48 rfl rfl (by decide) rfl ?_
  refine k_Cells_init 20 rfl rfl (by decide) rfl ?_
  exact kk
def gFore_23 (G : Nat → Nat → Option Nat) : Nat → Nat → Option Nat := (u2 (u2 (u1 (u2 (gSurv_31 (u1 (u2 (gScene_24 (u1 G 24 (fun _ => none))) 23 0 (some 24)) 31 (fun _ => none))) 23 1 (some 31)) 36 (fun _ => none)) 36 0 (some 37)) 23 2 (some 36))
def fFore_23 (F : Nat → Nat → Int32) : Nat → Nat → Int32 := (u2 (u2 (u2 (u1 (fSurv_31 (u1 (fScene_24 (u1 F 24 (fun _ => 0))) 31 (fun _ => 0))) 36 (fun _ => 0)) 36 1 1) 23 3 1) 23 4 0)
def rFore_23 (R : Nat → Nat → Int32) : Nat → Nat → Int32 := (u1 (rSurv_31 (rScene_24 R)) 37 (fun _ => 0))
set_option maxRecDepth 100000 in
set_option maxHeartbeats 4000000 in
theorem k_Fore_23 {G : Nat → Nat → Option Nat} {F R : Nat → Nat → Int32} {Q : Option Value → Kt → Prop} (kk : Q none (38, gFore_23 G, fFore_23 F, rFore_23 R)) : CC y_Fore_init [.ref 23] (24, G, F, R) Q := by
  refine w_call IC_ok [] ok_Fore_init rfl rfl ?_
  refine k_Scene_24 ?_
  refine k_Surv_31 ?_
  refine k_Cells_init 20 rfl rfl (by decide) rfl ?_
  exact kk
def gScene_40 (G : Nat → Nat → Option Nat) : Nat → Nat → Option Nat := (u2 (u2 (u1 (u2 (u2 (u1 (u2 (u2 (u1 G 41 (fun _ => none)) 41 0 (some 42)) 40 0 (some 41)) 43 (fun _ => none)) 43 0 (some 44)) 40 1 (some 43)) 45 (fun _ => none)) 45 0 (some 46)) 40 2 (some 45))
def fScene_40 (F : Nat → Nat → Int32) : Nat → Nat → Int32 := (u2 (u2 (u2 (u2 (u2 (u2 (u2 (u1 (u2 (u1 (u2 (u1 F 41 (fun _ => 0)) 41 1 8) 43 (fun _ => 0)) 43 1 10) 45 (fun _ => 0)) 45 1 1) 40 3 0) 40 4 0) 40 5 8) 40 6 0) 40 7 1) 40 8 0)
def rScene_40 (R : Nat → Nat → Int32) : Nat → Nat → Int32 := (u1 (u1 (u1 (u1 R 42 (fun _ => 0)) 44 (fun _ => 0)) 46 (fun _ => 0)) 42 (fun j => if j < 64 then 255 else (u1 (u1 (u1 R 42 (fun _ => 0)) 44 (fun _ => 0)) 46 (fun _ => 0)) 42 j))
set_option maxRecDepth 100000 in
set_option maxHeartbeats 4000000 in
theorem k_Scene_40 {G : Nat → Nat → Option Nat} {F R : Nat → Nat → Int32} {Q : Option Value → Kt → Prop} (kk : Q none (47, gScene_40 G, fScene_40 F, rScene_40 R)) : CC y_Scene_init [.ref 40] (41, G, F, R) Q := by
  refine w_call IC_ok [] ok_Scene_init rfl rfl ?_
  refine k_Cells_init 64 rfl rfl (by decide) rfl ?_
  refine k_Cells_init 200 rfl rfl (by decide) rfl ?_
  refine k_Cells_init 20 rfl rfl (by decide) rfl ?_
  refine k_fill (a := 42) rfl rfl rfl rfl (by decide) ?_
  exact kk
def gScene_47 (G : Nat → Nat → Option Nat) : Nat → Nat → Option Nat := (u2 (u2 (u1 (u2 (u2 (u1 (u2 (u2 (u1 G 48 (fun _ => none)) 48 0 (some 49)) 47 0 (some 48)) 50 (fun _ => none)) 50 0 (some 51)) 47 1 (some 50)) 52 (fun _ => none)) 52 0 (some 53)) 47 2 (some 52))
def fScene_47 (F : Nat → Nat → Int32) : Nat → Nat → Int32 := (u2 (u2 (u2 (u2 (u2 (u2 (u2 (u1 (u2 (u1 (u2 (u1 F 48 (fun _ => 0)) 48 1 8) 50 (fun _ => 0)) 50 1 10) 52 (fun _ => 0)) 52 1 1) 47 3 0) 47 4 0) 47 5 8) 47 6 0) 47 7 1) 47 8 0)
def rScene_47 (R : Nat → Nat → Int32) : Nat → Nat → Int32 := (u1 (u1 (u1 (u1 R 49 (fun _ => 0)) 51 (fun _ => 0)) 53 (fun _ => 0)) 49 (fun j => if j < 64 then 255 else (u1 (u1 (u1 R 49 (fun _ => 0)) 51 (fun _ => 0)) 53 (fun _ => 0)) 49 j))
set_option maxRecDepth 100000 in
set_option maxHeartbeats 4000000 in
theorem k_Scene_47 {G : Nat → Nat → Option Nat} {F R : Nat → Nat → Int32} {Q : Option Value → Kt → Prop} (kk : Q none (54, gScene_47 G, fScene_47 F, rScene_47 R)) : CC y_Scene_init [.ref 47] (48, G, F, R) Q := by
  refine w_call IC_ok [] ok_Scene_init rfl rfl ?_
  refine k_Cells_init 64 rfl rfl (by decide) rfl ?_
  refine k_Cells_init 200 rfl rfl (by decide) rfl ?_
  refine k_Cells_init 20 rfl rfl (by decide) rfl ?_
  refine k_fill (a := 49) rfl rfl rfl rfl (by decide) ?_
  exact kk
def gScene_54 (G : Nat → Nat → Option Nat) : Nat → Nat → Option Nat := (u2 (u2 (u1 (u2 (u2 (u1 (u2 (u2 (u1 G 55 (fun _ => none)) 55 0 (some 56)) 54 0 (some 55)) 57 (fun _ => none)) 57 0 (some 58)) 54 1 (some 57)) 59 (fun _ => none)) 59 0 (some 60)) 54 2 (some 59))
def fScene_54 (F : Nat → Nat → Int32) : Nat → Nat → Int32 := (u2 (u2 (u2 (u2 (u2 (u2 (u2 (u1 (u2 (u1 (u2 (u1 F 55 (fun _ => 0)) 55 1 8) 57 (fun _ => 0)) 57 1 10) 59 (fun _ => 0)) 59 1 1) 54 3 0) 54 4 0) 54 5 8) 54 6 0) 54 7 1) 54 8 0)
def rScene_54 (R : Nat → Nat → Int32) : Nat → Nat → Int32 := (u1 (u1 (u1 (u1 R 56 (fun _ => 0)) 58 (fun _ => 0)) 60 (fun _ => 0)) 56 (fun j => if j < 64 then 255 else (u1 (u1 (u1 R 56 (fun _ => 0)) 58 (fun _ => 0)) 60 (fun _ => 0)) 56 j))
set_option maxRecDepth 100000 in
set_option maxHeartbeats 4000000 in
theorem k_Scene_54 {G : Nat → Nat → Option Nat} {F R : Nat → Nat → Int32} {Q : Option Value → Kt → Prop} (kk : Q none (61, gScene_54 G, fScene_54 F, rScene_54 R)) : CC y_Scene_init [.ref 54] (55, G, F, R) Q := by
  refine w_call IC_ok [] ok_Scene_init rfl rfl ?_
  refine k_Cells_init 64 rfl rfl (by decide) rfl ?_
  refine k_Cells_init 200 rfl rfl (by decide) rfl ?_
  refine k_Cells_init 20 rfl rfl (by decide) rfl ?_
  refine k_fill (a := 56) rfl rfl rfl rfl (by decide) ?_
  exact kk
def gScene_61 (G : Nat → Nat → Option Nat) : Nat → Nat → Option Nat := (u2 (u2 (u1 (u2 (u2 (u1 (u2 (u2 (u1 G 62 (fun _ => none)) 62 0 (some 63)) 61 0 (some 62)) 64 (fun _ => none)) 64 0 (some 65)) 61 1 (some 64)) 66 (fun _ => none)) 66 0 (some 67)) 61 2 (some 66))
def fScene_61 (F : Nat → Nat → Int32) : Nat → Nat → Int32 := (u2 (u2 (u2 (u2 (u2 (u2 (u2 (u1 (u2 (u1 (u2 (u1 F 62 (fun _ => 0)) 62 1 8) 64 (fun _ => 0)) 64 1 10) 66 (fun _ => 0)) 66 1 1) 61 3 0) 61 4 0) 61 5 8) 61 6 0) 61 7 1) 61 8 0)
def rScene_61 (R : Nat → Nat → Int32) : Nat → Nat → Int32 := (u1 (u1 (u1 (u1 R 63 (fun _ => 0)) 65 (fun _ => 0)) 67 (fun _ => 0)) 63 (fun j => if j < 64 then 255 else (u1 (u1 (u1 R 63 (fun _ => 0)) 65 (fun _ => 0)) 67 (fun _ => 0)) 63 j))
set_option maxRecDepth 100000 in
set_option maxHeartbeats 4000000 in
theorem k_Scene_61 {G : Nat → Nat → Option Nat} {F R : Nat → Nat → Int32} {Q : Option Value → Kt → Prop} (kk : Q none (68, gScene_61 G, fScene_61 F, rScene_61 R)) : CC y_Scene_init [.ref 61] (62, G, F, R) Q := by
  refine w_call IC_ok [] ok_Scene_init rfl rfl ?_
  refine k_Cells_init 64 rfl rfl (by decide) rfl ?_
  refine k_Cells_init 200 rfl rfl (by decide) rfl ?_
  refine k_Cells_init 20 rfl rfl (by decide) rfl ?_
  refine k_fill (a := 63) rfl rfl rfl rfl (by decide) ?_
  exact kk
def gScene_68 (G : Nat → Nat → Option Nat) : Nat → Nat → Option Nat := (u2 (u2 (u1 (u2 (u2 (u1 (u2 (u2 (u1 G 69 (fun _ => none)) 69 0 (some 70)) 68 0 (some 69)) 71 (fun _ => none)) 71 0 (some 72)) 68 1 (some 71)) 73 (fun _ => none)) 73 0 (some 74)) 68 2 (some 73))
def fScene_68 (F : Nat → Nat → Int32) : Nat → Nat → Int32 := (u2 (u2 (u2 (u2 (u2 (u2 (u2 (u1 (u2 (u1 (u2 (u1 F 69 (fun _ => 0)) 69 1 8) 71 (fun _ => 0)) 71 1 10) 73 (fun _ => 0)) 73 1 1) 68 3 0) 68 4 0) 68 5 8) 68 6 0) 68 7 1) 68 8 0)
def rScene_68 (R : Nat → Nat → Int32) : Nat → Nat → Int32 := (u1 (u1 (u1 (u1 R 70 (fun _ => 0)) 72 (fun _ => 0)) 74 (fun _ => 0)) 70 (fun j => if j < 64 then 255 else (u1 (u1 (u1 R 70 (fun _ => 0)) 72 (fun _ => 0)) 74 (fun _ => 0)) 70 j))
set_option maxRecDepth 100000 in
set_option maxHeartbeats 4000000 in
theorem k_Scene_68 {G : Nat → Nat → Option Nat} {F R : Nat → Nat → Int32} {Q : Option Value → Kt → Prop} (kk : Q none (75, gScene_68 G, fScene_68 F, rScene_68 R)) : CC y_Scene_init [.ref 68] (69, G, F, R) Q := by
  refine w_call IC_ok [] ok_Scene_init rfl rfl ?_
  refine k_Cells_init 64 rfl rfl (by decide) rfl ?_
  refine k_Cells_init 200 rfl rfl (by decide) rfl ?_
  refine k_Cells_init 20 rfl rfl (by decide) rfl ?_
  refine k_fill (a := 70) rfl rfl rfl rfl (by decide) ?_
  exact kk
def gHist_38 (G : Nat → Nat → Option Nat) : Nat → Nat → Option Nat := (u2 (gScene_68 (u1 (u2 (gScene_61 (u1 (u2 (gScene_54 (u1 (u2 (gScene_47 (u1 (u2 (gScene_40 (u1 (u2 (u1 G 39 (fun _ => none)) 38 0 (some 39)) 40 (fun _ => none))) 39 0 (some 40)) 47 (fun _ => none))) 39 1 (some 47)) 54 (fun _ => none))) 39 2 (some 54)) 61 (fun _ => none))) 39 3 (some 61)) 68 (fun _ => none))) 39 4 (some 68))
def fHist_38 (F : Nat → Nat → Int32) : Nat → Nat → Int32 := (fScene_68 (u1 (fScene_61 (u1 (fScene_54 (u1 (fScene_47 (u1 (fScene_40 (u1 (u2 (u2 F 38 1 0) 38 2 0) 40 (fun _ => 0))) 47 (fun _ => 0))) 54 (fun _ => 0))) 61 (fun _ => 0))) 68 (fun _ => 0)))
def rHist_38 (R : Nat → Nat → Int32) : Nat → Nat → Int32 := (rScene_68 (rScene_61 (rScene_54 (rScene_47 (rScene_40 R)))))
set_option maxRecDepth 100000 in
set_option maxHeartbeats 4000000 in
theorem k_Hist_38 {G : Nat → Nat → Option Nat} {F R : Nat → Nat → Int32} {Q : Option Value → Kt → Prop} (kk : Q none (75, gHist_38 G, fHist_38 F, rHist_38 R)) : CC y_Hist_init [.ref 38] (39, G, F, R) Q := by
  refine w_call IC_ok [] ok_Hist_init rfl rfl ?_
  refine ⟨5, by decide, ?_⟩
  refine k_Scene_40 ?_
  refine ⟨0, by decide, ?_⟩
  refine k_Scene_47 ?_
  refine ⟨1, by decide, ?_⟩
  refine k_Scene_54 ?_
  refine ⟨2, by decide, ?_⟩
  refine k_Scene_61 ?_
  refine ⟨3, by decide, ?_⟩
  refine k_Scene_68 ?_
  refine ⟨4, by decide, ?_⟩
  exact kk
def gScript_76 (G : Nat → Nat → Option Nat) : Nat → Nat → Option Nat := (u2 (u2 (u1 G 77 (fun _ => none)) 77 0 (some 78)) 76 0 (some 77))
def fScript_76 (F : Nat → Nat → Int32) : Nat → Nat → Int32 := (u2 (u2 (u1 F 77 (fun _ => 0)) 77 1 1) 76 1 0)
def rScript_76 (R : Nat → Nat → Int32) : Nat → Nat → Int32 := (u1 R 78 (fun _ => 0))
set_option maxRecDepth 100000 in
set_option maxHeartbeats 4000000 in
theorem k_Script_76 {G : Nat → Nat → Option Nat} {F R : Nat → Nat → Int32} {Q : Option Value → Kt → Prop} (kk : Q none (79, gScript_76 G, fScript_76 F, rScript_76 R)) : CC y_Script_init [.ref 76] (77, G, F, R) Q := by
  refine w_call IC_ok [] ok_Script_init rfl rfl ?_
  refine k_Cells_init 100 rfl rfl (by decide) rfl ?_
  exact kk
def gSteps_79 (G : Nat → Nat → Option Nat) : Nat → Nat → Option Nat := (u2 (u2 (u1 G 80 (fun _ => none)) 80 0 (some 81)) 79 0 (some 80))
def fSteps_79 (F : Nat → Nat → Int32) : Nat → Nat → Int32 := (u2 (u2 (u1 F 80 (fun _ => 0)) 80 1 6) 79 1 0)
def rSteps_79 (R : Nat → Nat → Int32) : Nat → Nat → Int32 := (u1 R 81 (fun _ => 0))
set_option maxRecDepth 100000 in
set_option maxHeartbeats 4000000 in
theorem k_Steps_79 {G : Nat → Nat → Option Nat} {F R : Nat → Nat → Int32} {Q : Option Value → Kt → Prop} (kk : Q none (82, gSteps_79 G, fSteps_79 F, rSteps_79 R)) : CC y_Steps_init [.ref 79] (80, G, F, R) Q := by
  refine w_call IC_ok [] ok_Steps_init rfl rfl ?_
  refine k_Cells_init 600 rfl rfl (by decide) rfl ?_
  exact kk
def gRead_75 (G : Nat → Nat → Option Nat) : Nat → Nat → Option Nat := (u2 (u2 (u1 (u2 (gSteps_79 (u1 (u2 (gScript_76 (u1 G 76 (fun _ => none))) 75 0 (some 76)) 79 (fun _ => none))) 75 1 (some 79)) 82 (fun _ => none)) 82 0 (some 83)) 75 2 (some 82))
def fRead_75 (F : Nat → Nat → Int32) : Nat → Nat → Int32 := (u2 (u2 (u2 (u2 (u1 (fSteps_79 (u1 (fScript_76 (u1 F 76 (fun _ => 0))) 79 (fun _ => 0))) 82 (fun _ => 0)) 82 1 1) 75 3 0) 75 4 0) 75 5 (-1))
def rRead_75 (R : Nat → Nat → Int32) : Nat → Nat → Int32 := (u1 (rSteps_79 (rScript_76 R)) 83 (fun _ => 0))
set_option maxRecDepth 100000 in
set_option maxHeartbeats 4000000 in
theorem k_Read_75 {G : Nat → Nat → Option Nat} {F R : Nat → Nat → Int32} {Q : Option Value → Kt → Prop} (kk : Q none (84, gRead_75 G, fRead_75 F, rRead_75 R)) : CC y_Read_init [.ref 75] (76, G, F, R) Q := by
  refine w_call IC_ok [] ok_Read_init rfl rfl ?_
  refine k_Script_76 ?_
  refine k_Steps_79 ?_
  refine k_Cells_init 4 rfl rfl (by decide) rfl ?_
  exact kk
def gSched_84 (G : Nat → Nat → Option Nat) : Nat → Nat → Option Nat := (u2 (u2 (u1 (u2 (u2 (u1 G 85 (fun _ => none)) 85 0 (some 86)) 84 0 (some 85)) 87 (fun _ => none)) 87 0 (some 88)) 84 1 (some 87))
def fSched_84 (F : Nat → Nat → Int32) : Nat → Nat → Int32 := (u2 (u2 (u2 (u2 (u1 (u2 (u1 F 85 (fun _ => 0)) 85 1 1) 87 (fun _ => 0)) 87 1 1) 84 2 0) 84 3 0) 84 4 (-1))
def rSched_84 (R : Nat → Nat → Int32) : Nat → Nat → Int32 := (u1 (u1 R 86 (fun _ => 0)) 88 (fun _ => 0))
set_option maxRecDepth 100000 in
set_option maxHeartbeats 4000000 in
theorem k_Sched_84 {G : Nat → Nat → Option Nat} {F R : Nat → Nat → Int32} {Q : Option Value → Kt → Prop} (kk : Q none (89, gSched_84 G, fSched_84 F, rSched_84 R)) : CC y_Sched_init [.ref 84] (85, G, F, R) Q := by
  refine w_call IC_ok [] ok_Sched_init rfl rfl ?_
  refine k_Cells_init 200 rfl rfl (by decide) rfl ?_
  refine k_Cells_init 4 rfl rfl (by decide) rfl ?_
  exact kk
def gFail_89 (G : Nat → Nat → Option Nat) : Nat → Nat → Option Nat := G
def fFail_89 (F : Nat → Nat → Int32) : Nat → Nat → Int32 := (u2 (u2 (u2 (u2 (u2 (u2 F 89 0 0) 89 1 0) 89 2 0) 89 3 0) 89 4 0) 89 5 (-109))
def rFail_89 (R : Nat → Nat → Int32) : Nat → Nat → Int32 := R
set_option maxRecDepth 100000 in
set_option maxHeartbeats 4000000 in
theorem k_Fail_89 {G : Nat → Nat → Option Nat} {F R : Nat → Nat → Int32} {Q : Option Value → Kt → Prop} (kk : Q none (90, gFail_89 G, fFail_89 F, rFail_89 R)) : CC y_Fail_init [.ref 89] (90, G, F, R) Q := by
  refine w_call IC_ok [] ok_Fail_init rfl rfl ?_
  refine ⟨Or.inl rfl, ?_⟩
  exact kk
def gP_0 (G : Nat → Nat → Option Nat) : Nat → Nat → Option Nat := (u2 (gFail_89 (u1 (u2 (gSched_84 (u1 (u2 (gRead_75 (u1 (u2 (gHist_38 (u1 (u2 (gFore_23 (u1 (u2 (gSight_20 (u1 (u2 (gSurv_15 (u1 (u2 (gScene_8 (u1 (u2 (gScene_1 (u1 G 1 (fun _ => none))) 0 0 (some 1)) 8 (fun _ => none))) 0 1 (some 8)) 15 (fun _ => none))) 0 2 (some 15)) 20 (fun _ => none))) 0 3 (some 20)) 23 (fun _ => none))) 0 4 (some 23)) 38 (fun _ => none))) 0 5 (some 38)) 75 (fun _ => none))) 0 6 (some 75)) 84 (fun _ => none))) 0 7 (some 84)) 89 (fun _ => none))) 0 8 (some 89))
def fP_0 (F : Nat → Nat → Int32) : Nat → Nat → Int32 := (fFail_89 (u1 (fSched_84 (u1 (fRead_75 (u1 (fHist_38 (u1 (fFore_23 (u1 (fSight_20 (u1 (fSurv_15 (u1 (fScene_8 (u1 (fScene_1 (u1 F 1 (fun _ => 0))) 8 (fun _ => 0))) 15 (fun _ => 0))) 20 (fun _ => 0))) 23 (fun _ => 0))) 38 (fun _ => 0))) 75 (fun _ => 0))) 84 (fun _ => 0))) 89 (fun _ => 0)))
def rP_0 (R : Nat → Nat → Int32) : Nat → Nat → Int32 := (rFail_89 (rSched_84 (rRead_75 (rHist_38 (rFore_23 (rSight_20 (rSurv_15 (rScene_8 (rScene_1 R)))))))))
set_option maxRecDepth 100000 in
set_option maxHeartbeats 4000000 in
theorem k_P_0 {G : Nat → Nat → Option Nat} {F R : Nat → Nat → Int32} {Q : Option Value → Kt → Prop} (kk : Q none (90, gP_0 G, fP_0 F, rP_0 R)) : CC y_P_init [.ref 0] (1, G, F, R) Q := by
  refine w_call IC_ok [] ok_P_init rfl rfl ?_
  refine k_Scene_1 ?_
  refine k_Scene_8 ?_
  refine k_Surv_15 ?_
  refine k_Sight_20 ?_
  refine k_Fore_23 ?_
  refine k_Hist_38 ?_
  refine k_Read_75 ?_
  refine k_Sched_84 ?_
  refine k_Fail_89 ?_
  exact kk
