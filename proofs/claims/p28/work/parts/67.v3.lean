/-! the law's own methods: an act -/
def kkN (v : Int32) : Nat := v.toBitVec.toNat % 16
theorem kkN_lt (v : Int32) : kkN v < 16 := Nat.mod_lt _ (by decide)
theorem kk_and (v : Int32) : v &&& 15 = iI (kkN v : Nat) := by
  have h : nI v.toBitVec.toNat &&& nI 15 = nI (v.toBitVec.toNat &&& 15) := fa_and _ _
  rw [← v_nI v] at h
  rw [show (15 : Nat) = 2 ^ 4 - 1 from rfl, Nat.and_two_pow_sub_one_eq_mod] at h
  exact h
def sh (v k : Int32) : Int32 := v >>> (k &&& 31)
def t1N (v : Int32) : Nat := (sh v 14).toBitVec.toNat % 2
theorem t1_and (v : Int32) : sh v 14 &&& 1 = iI (t1N v : Nat) := by
  have h : nI (sh v 14).toBitVec.toNat &&& nI 1 = nI ((sh v 14).toBitVec.toNat &&& 1) := fa_and _ _
  rw [← v_nI (sh v 14)] at h
  rw [show (1 : Nat) = 2 ^ 1 - 1 from rfl, Nat.and_two_pow_sub_one_eq_mod] at h
  exact h
/-- an act of the law: what it answers, and the state behind it -/
noncomputable def actR (S : Nat → Int) (v : Int32) : Int × (Nat → Int) :=
  if kkN v = 0 then (S (206 + 8 * lowN (sh v 4) 8 + lowN (sh v 7) 8), u1 S (206 + 8 * lowN (sh v 4) 8 + lowN (sh v 7) 8) (lowN (sh v 10) 256 : Nat))
  else if kkN v = 1 then (if thr S (thV S (sh v 4) : Nat) then (pos S (thV S (sh v 4) : Nat) (S 1).toNat, ordS S ((S 1).toNat - 1) (outO (od S) (pos S (thV S (sh v 4) : Nat) (S 1).toNat).toNat)) else (-101, S))
  else if kkN v = 2 then (if thr S (thV S (sh v 4) : Nat) then ((lns (mvS S (thV S (sh v 4)) ((lowN (sh v 8) 79 : Nat) - 15) ((lowN (sh v 12) 63 : Nat) - 15)) (thV S (sh v 4)) 48 : Nat), mvS S (thV S (sh v 4)) ((lowN (sh v 8) 79 : Nat) - 15) ((lowN (sh v 12) 63 : Nat) - 15)) else (-101, S))
  else if kkN v = 3 then (if thr S (thV S (sh v 4) : Nat) then (S (26 + 9 * thV S (sh v 4) + 5), u1 S (26 + 9 * thV S (sh v 4) + 5) (lowN (sh v 8) 4 : Nat)) else (-101, S))
  else if kkN v = 4 then (if thr S (thV S (sh v 4) : Nat) then (pos S (thV S (sh v 4) : Nat) (S 1).toNat, ordS S (S 1).toNat (lftO (od S) (pos S (thV S (sh v 4) : Nat) (S 1).toNat).toNat)) else (-101, S))
  else if kkN v = 5 then (if thr S (thV S (sh v 4) : Nat) then (pos S (thV S (sh v 4) : Nat) (S 1).toNat, ordS S (S 1).toNat (lowO (od S) (pos S (thV S (sh v 4) : Nat) (S 1).toNat).toNat (S 1).toNat)) else (-101, S))
  else if kkN v = 6 then (S 2, u1 S 2 (1 + (lowN (sh v 4) 4 : Nat)))
  else if kkN v = 7 then (S 3, u1 (u1 S 3 (lowN (sh v 4) 3 : Nat)) 4 (1 + (lowN (sh v 6) 19 : Nat)))
  else if kkN v < 12 then ((hidN S : Nat), frS S)
  else if S 0 = 20 then (-103, S)
  else (S 0, cmS S ((lowN (sh v 4) 40 : Nat) - 8) ((lowN (sh v 9) 30 : Nat) - 10) (t1N v : Nat) (lowN (sh v 15) 8 : Nat) (1 + (lowN (sh v 18) 9 : Nat)))
theorem actR_lo (S : Nat → Int) (v : Int32) (hS : WF S) : (actR S v).1 < 0 → (actR S v).2 = S := by
  have hn := hS.n
  have hp : ∀ p : Int, thr S p → ¬ (pos S p (S 1).toNat < 0) := fun p g => by have := thr_pos g; omega
  unfold actR
  by_cases k0 : kkN v = 0
  · rw [if_pos k0]
    intro z
    have := hS.pic (i := 8 * lowN (sh v 4) 8 + lowN (sh v 7) 8) (by have := lowN_lt (sh v 4) (n := 8) (by omega); have := lowN_lt (sh v 7) (n := 8) (by omega); omega)
    rw [show 206 + (8 * lowN (sh v 4) 8 + lowN (sh v 7) 8) = 206 + 8 * lowN (sh v 4) 8 + lowN (sh v 7) 8 by omega] at this
    dsimp only at z
    omega
  rw [if_neg k0]
  by_cases k1 : kkN v = 1
  · rw [if_pos k1]
    by_cases g : thr S (thV S (sh v 4) : Nat)
    · rw [if_pos g]; intro z; exact absurd z (hp _ g)
    · rw [if_neg g]; intro _; rfl
  rw [if_neg k1]
  by_cases k2 : kkN v = 2
  · rw [if_pos k2]
    by_cases g : thr S (thV S (sh v 4) : Nat)
    · rw [if_pos g]; intro z; dsimp only at z; omega
    · rw [if_neg g]; intro _; rfl
  rw [if_neg k2]
  by_cases k3 : kkN v = 3
  · rw [if_pos k3]
    by_cases g : thr S (thV S (sh v 4) : Nat)
    · rw [if_pos g]; intro z
      have := (hS.wp _ (thV_b hS (sh v 4))).2.2.2.2.2.1
      dsimp only at z; omega
    · rw [if_neg g]; intro _; rfl
  rw [if_neg k3]
  by_cases k4 : kkN v = 4
  · rw [if_pos k4]
    by_cases g : thr S (thV S (sh v 4) : Nat)
    · rw [if_pos g]; intro z; exact absurd z (hp _ g)
    · rw [if_neg g]; intro _; rfl
  rw [if_neg k4]
  by_cases k5 : kkN v = 5
  · rw [if_pos k5]
    by_cases g : thr S (thV S (sh v 4) : Nat)
    · rw [if_pos g]; intro z; exact absurd z (hp _ g)
    · rw [if_neg g]; intro _; rfl
  rw [if_neg k5]
  by_cases k6 : kkN v = 6
  · rw [if_pos k6]; intro z; have := hS.lim; dsimp only at z; omega
  rw [if_neg k6]
  by_cases k7 : kkN v = 7
  · rw [if_pos k7]; intro z; have := hS.2.2.2.1; dsimp only at z; omega
  rw [if_neg k7]
  by_cases k8 : kkN v < 12
  · rw [if_pos k8]; intro z; dsimp only at z; omega
  rw [if_neg k8]
  by_cases k9 : S 0 = 20
  · rw [if_pos k9]; intro _; rfl
  · rw [if_neg k9]; intro z; dsimp only at z; omega
/-- what holds between the law's calls -/
def WX (S : Nat → Int) (t : Nat) : Prop := WF S ∧ PX S ∧ S 5 ≤ t
theorem WX.mo {S : Nat → Int} {t u : Nat} (h : WX S t) (htu : t ≤ u) : WX S u := ⟨h.1, h.2.1, by have := h.2.2; omega⟩
theorem fr5 (S : Nat → Int) : frS S 5 = S 5 + 1 := by unfold frS; rw [if_pos rfl]
theorem ordS_5 (S : Nat → Int) (n : Nat) (o : Nat → Nat) : ordS S n o 5 = S 5 := by unfold ordS; rw [if_neg (by omega), if_neg (by omega)]
theorem WX.ord {S : Nat → Int} {t : Nat} (h : WX S t) {n : Nat} {o : Nat → Nat} (hn : n ≤ 20) (hw : ∀ S', ROrd S n o S' → WF S') : WX (ordS S n o) t := ⟨h.1.ord hn hw, h.2.1.ord n o, by rw [ordS_5]; exact h.2.2⟩
theorem WX.out {S : Nat → Int} {t : Nat} (h : WX S t) {p : Int} (g : thr S p) : WX (ordS S ((S 1).toNat - 1) (outO (od S) (pos S p (S 1).toNat).toNat)) t := h.ord (by have := h.1.n; omega) (fun S' hR => wf_out h.1 (thr_pos g).1 hR)
theorem WX.lft {S : Nat → Int} {t : Nat} (h : WX S t) {p : Int} (g : thr S p) : WX (ordS S (S 1).toNat (lftO (od S) (pos S p (S 1).toNat).toNat)) t := h.ord h.1.n.2.1 (fun S' hR => wf_lft h.1 (thr_pos g).1 hR)
theorem WX.low {S : Nat → Int} {t : Nat} (h : WX S t) {p : Int} (g : thr S p) : WX (ordS S (S 1).toNat (lowO (od S) (pos S p (S 1).toNat).toNat (S 1).toNat)) t := h.ord h.1.n.2.1 (fun S' hR => wf_low h.1 (thr_pos g).1 hR)
theorem WX.mv {S : Nat → Int} {t : Nat} (h : WX S t) {p : Nat} (g : thr S p) {x y : Int} (hx : -15 ≤ x ∧ x ≤ 63) (hy : -15 ≤ y ∧ y ≤ 47) : WX (mvS S p x y) t := by
  have hb := thr_b h.1 g
  refine ⟨h.1.mv (by omega) hx hy, h.2.1.mo (fun q hq j hj => mvS_n (by omega) (by omega)), ?_⟩
  rw [mvS_n (by omega) (by omega)]
  exact h.2.2
theorem WX.tu {S : Nat → Int} {t : Nat} (h : WX S t) {p : Nat} (g : thr S p) {l : Int} (hl : 0 ≤ l ∧ l ≤ 3) : WX (u1 S (26 + 9 * p + 5) l) t := by
  have hb := thr_b h.1 g
  refine ⟨h.1.tu (by omega) hl, h.2.1.mo (fun q hq j hj => u1_n _ _ (by omega)), ?_⟩
  rw [u1_n _ _ (by omega)]
  exact h.2.2
theorem WX.li {S : Nat → Int} {t : Nat} (h : WX S t) {l : Int} (hl : 1 ≤ l ∧ l ≤ 8) : WX (u1 S 2 l) t := ⟨h.1.li hl, h.2.1.mo (fun q hq j hj => u1_n _ _ (by omega)), by rw [u1_n _ _ (by omega)]; exact h.2.2⟩
theorem WX.ru {S : Nat → Int} {t : Nat} (h : WX S t) {a b : Int} (ha : 0 ≤ a ∧ a ≤ 2) (hb : 1 ≤ b ∧ b ≤ 19) : WX (u1 (u1 S 3 a) 4 b) t := ⟨h.1.ru ha hb, h.2.1.mo (fun q hq j hj => by rw [u1_n _ _ (by omega), u1_n _ _ (by omega)]), by rw [u1_n _ _ (by omega), u1_n _ _ (by omega)]; exact h.2.2⟩
theorem WX.pi {S : Nat → Int} {t : Nat} (h : WX S t) {a b : Nat} (ha : a < 8) (hb : b < 8) {c : Int} (hc : 0 ≤ c ∧ c ≤ 255) : WX (u1 S (206 + 8 * a + b) c) t := by
  have := h.1.pi (k := 8 * a + b) (by omega) hc
  rw [show 206 + (8 * a + b) = 206 + 8 * a + b by omega] at this
  exact ⟨this, h.2.1.mo (fun q hq j hj => u1_n _ _ (by omega)), by rw [u1_n _ _ (by omega)]; exact h.2.2⟩
theorem WX.fr {S : Nat → Int} {t : Nat} (h : WX S t) (ht : t < 9999) : WX (frS S) (t + 1) := by
  have h5 := h.2.2
  exact ⟨wf_fr h.1 (rf_fr h.1) (by omega), h.2.1.frS h.1, by rw [fr5]; omega⟩
theorem cmS_5 (S : Nat → Int) (x y t g c : Int) (hn : (S 1).toNat < 20) : cmS S x y t g c 5 = S 5 := by
  rw [cmS_lo (by omega), u1_n _ _ (by omega), u1_n _ _ (by omega), u1_n _ _ (by omega)]
theorem WX.cm {S : Nat → Int} {u : Nat} (h : WX S u) {x y t g c : Int} (h20 : S 0 ≠ 20) (hx : -15 ≤ x ∧ x ≤ 63) (hy : -15 ≤ y ∧ y ≤ 47) (ht : 0 ≤ t ∧ t ≤ 1) (hg : 0 ≤ g ∧ g ≤ 7) (hc : 1 ≤ c ∧ c ≤ 9) : WX (cmS S x y t g c) u := by
  have hn := h.1.n
  exact ⟨wf_cm h.1 h20 hx hy ht hg hc, h.2.1.cm h.1 h20, by rw [cmS_5 _ _ _ _ _ _ (by omega)]; exact h.2.2⟩
theorem t1N_lt (v : Int32) : t1N v < 2 := Nat.mod_lt _ (by decide)
theorem actR_W {S : Nat → Int} {t : Nat} (h : WX S t) (ht : t < 9999) (v : Int32) : WX (actR S v).2 (t + 1) := by
  have hu := h.mo (show t ≤ t + 1 by omega)
  have l : ∀ (x : Int32) (n : Nat), 0 < n → (0 : Int) ≤ (lowN x n : Nat) ∧ (lowN x n : Nat) < (n : Int) := fun x n hn => by have := lowN_lt x hn; omega
  unfold actR
  by_cases k0 : kkN v = 0
  · rw [if_pos k0]
    exact hu.pi (lowN_lt _ (by omega)) (lowN_lt _ (by omega)) (by have := l (sh v 10) 256 (by omega); omega)
  rw [if_neg k0]
  by_cases k1 : kkN v = 1
  · rw [if_pos k1]
    by_cases g : thr S (thV S (sh v 4) : Nat)
    · rw [if_pos g]; exact hu.out g
    · rw [if_neg g]; exact hu
  rw [if_neg k1]
  by_cases k2 : kkN v = 2
  · rw [if_pos k2]
    by_cases g : thr S (thV S (sh v 4) : Nat)
    · rw [if_pos g]; exact hu.mv g (by have := l (sh v 8) 79 (by omega); omega) (by have := l (sh v 12) 63 (by omega); omega)
    · rw [if_neg g]; exact hu
  rw [if_neg k2]
  by_cases k3 : kkN v = 3
  · rw [if_pos k3]
    by_cases g : thr S (thV S (sh v 4) : Nat)
    · rw [if_pos g]; exact hu.tu g (by have := l (sh v 8) 4 (by omega); omega)
    · rw [if_neg g]; exact hu
  rw [if_neg k3]
  by_cases k4 : kkN v = 4
  · rw [if_pos k4]
    by_cases g : thr S (thV S (sh v 4) : Nat)
    · rw [if_pos g]; exact hu.lft g
    · rw [if_neg g]; exact hu
  rw [if_neg k4]
  by_cases k5 : kkN v = 5
  · rw [if_pos k5]
    by_cases g : thr S (thV S (sh v 4) : Nat)
    · rw [if_pos g]; exact hu.low g
    · rw [if_neg g]; exact hu
  rw [if_neg k5]
  by_cases k6 : kkN v = 6
  · rw [if_pos k6]; exact hu.li (by have := l (sh v 4) 4 (by omega); omega)
  rw [if_neg k6]
  by_cases k7 : kkN v = 7
  · rw [if_pos k7]; exact hu.ru (by have := l (sh v 4) 3 (by omega); omega) (by have := l (sh v 6) 19 (by omega); omega)
  rw [if_neg k7]
  by_cases k8 : kkN v < 12
  · rw [if_pos k8]; exact h.fr ht
  rw [if_neg k8]
  by_cases k9 : S 0 = 20
  · rw [if_pos k9]; exact hu
  · rw [if_neg k9]
    exact hu.cm k9 (by have := l (sh v 4) 40 (by omega); omega) (by have := l (sh v 9) 30 (by omega); omega) (by have := t1N_lt v; omega) (by have := l (sh v 15) 8 (by omega); omega) (by have := l (sh v 18) 9 (by omega); omega)
theorem actR_fr {S : Nat → Int} {v : Int32} (h1 : 7 < kkN v) (h2 : kkN v < 12) : (actR S v).1 = hidN S := by
  unfold actR
  rw [if_neg (by omega), if_neg (by omega), if_neg (by omega), if_neg (by omega), if_neg (by omega), if_neg (by omega), if_neg (by omega), if_neg (by omega), if_pos h2]
section
variable {S : Nat → Int} {n : Nat} {H : Nat → Nat → Int} {N : Nat} {T : Nat → Nat} {f : Nat} {G : Nat → Int} {h : St} {Q : Option Value → St → Prop}
set_option maxHeartbeats 4000000 in
theorem c_L_act {x : Int32} (hI : CI S n H N T f G h) (hW : WF S) (hn : n ≤ 5) (h5 : S 5 ≠ 9999) (hQ0 : (actR S x).1 < 0 → ∀ h', Fr 0 90 h h' → CI S n H N T f G h' → Q (some (.int (iI (actR S x).1))) h') (hQ1 : 0 ≤ (actR S x).1 → ∀ h', Fr 0 90 h h' → CI (actR S x).2 (psN n) (psH n H S) N T f G h' → Q (some (.int (iI (actR S x).1))) h') : SC y_L_act [.ref 0, .int x] h Q := by
  have hs := hW.n
  have l : ∀ (x : Int32) (n : Nat), 0 < n → (0 : Int) ≤ (lowN x n : Nat) ∧ (lowN x n : Nat) < (n : Int) := fun x n hn => by have := lowN_lt x hn; omega
  have hq := thV_b hW (sh x 4)
  refine w_call IS_ok [] ok_L_act rfl rfl ?_
  refine c_L_there hI hW (fun h1 f1 => ?_)
  have hI1 := hI.lk f1
  have f1' := f1.w (show 0 ≤ 15 by omega) (show 38 ≤ 90 by omega)
  have hk := kk_and x
  have hkl := kkN_lt x
  have q0 : ∀ (k : Int) (w : Int32), k < 0 → w = iI k → (actR S x).1 = k → ∀ h', Fr 0 90 h1 h' → CI S n H N T f G h' → Q (some (.int w)) h' := fun k w hk0 hw e h' f2 hI' => by
    have := hQ0 (by omega) h' (f1'.t f2) hI'
    rw [e] at this
    rw [hw]
    exact this
  have q1 : ∀ (k : Int) (S' : Nat → Int), 0 ≤ k → actR S x = (k, S') → ∀ h', Fr 0 90 h1 h' → CI S' (psN n) (psH n H S) N T f G h' → Q (some (.int (iI k))) h' := fun k S' hk0 e h' f2 hI' => by
    have := hQ1 (by rw [e]; exact hk0) h' (f1'.t f2) (by rw [e]; exact hI')
    rw [e] at this
    exact this
  refine w_eq (kkN x) 0 (fun k0 => ?_) (fun k0 => ?_) hk rfl
  · have k0 : kkN x = 0 := by omega
    refine c_L_low 8 (by omega) (by omega) ?_ rfl
    refine c_L_low 8 (by omega) (by omega) ?_ rfl
    refine c_L_low 256 (by omega) (by omega) ?_ rfl
    have l1 := l (sh x 4) 8 (by omega)
    have l2 := l (sh x 7) 8 (by omega)
    have l3 := l (sh x 10) 256 (by omega)
    have e : actR S x = (S (206 + 8 * lowN (sh x 4) 8 + lowN (sh x 7) 8), u1 S (206 + 8 * lowN (sh x 4) 8 + lowN (sh x 7) 8) (lowN (sh x 10) 256 : Nat)) := by unfold actR; rw [if_pos k0]
    have hp := hW.pic (i := 8 * lowN (sh x 4) 8 + lowN (sh x 7) 8) (by omega)
    rw [show 206 + (8 * lowN (sh x 4) 8 + lowN (sh x 7) 8) = 206 + 8 * lowN (sh x 4) 8 + lowN (sh x 7) 8 by omega] at hp
    exact c_P_setRow hI1 hW hn (lowN (sh x 4) 8 : Nat) (lowN (sh x 7) 8 : Nat) (lowN (sh x 10) 256 : Nat) (fun g => absurd (by omega) g) (fun _ h' f2 hI' => q1 _ _ hp.1 e h' f2 hI') rfl rfl rfl (by omega) (by omega) (by omega)
  have k0' : ¬ kkN x = 0 := by omega
  refine w_eq (kkN x) 1 (fun k1 => ?_) (fun k1 => ?_) hk rfl
  · have k1 : kkN x = 1 := by omega
    refine c_P_leave hI1 hW hn (thV S (sh x 4) : Nat) (fun g h' f2 hI' => q0 (-101) _ (by omega) rfl (by unfold actR; rw [if_neg k0', if_pos k1, if_neg g]) h' f2 hI') (fun g h' f2 hI' => q1 _ _ ?_ (by unfold actR; rw [if_neg k0', if_pos k1, if_pos g]) h' f2 hI') rfl (by omega)
    have := thr_pos g
    omega
  have k1' : ¬ kkN x = 1 := by omega
  refine w_eq (kkN x) 2 (fun k2 => ?_) (fun k2 => ?_) hk rfl
  · have k2 : kkN x = 2 := by omega
    refine c_L_low 79 (by omega) (by omega) ?_ rfl
    refine c_L_low 63 (by omega) (by omega) ?_ rfl
    have l1 := l (sh x 8) 79 (by omega)
    have l2 := l (sh x 12) 63 (by omega)
    refine c_P_move hI1 hW hn (thV S (sh x 4) : Nat) ((lowN (sh x 8) 79 : Nat) - 15) ((lowN (sh x 12) 63 : Nat) - 15) (fun g h' f2 hI' => q0 (-101) _ (by omega) rfl (by unfold actR; rw [if_neg k0', if_neg k1', if_pos k2, if_neg (fun z => g ⟨z, by omega, by omega⟩)]) h' f2 hI') (fun g h' f2 hI' => q1 _ _ (by omega) (by unfold actR; rw [if_neg k0', if_neg k1', if_pos k2, if_pos g.1]; rfl) h' f2 hI') rfl (iI_sub ((lowN (sh x 8) 79 : Nat) : Int) 15) (iI_sub ((lowN (sh x 12) 63 : Nat) : Int) 15) (by omega) (by omega) (by omega)
  have k2' : ¬ kkN x = 2 := by omega
  refine w_eq (kkN x) 3 (fun k3 => ?_) (fun k3 => ?_) hk rfl
  · have k3 : kkN x = 3 := by omega
    refine c_L_low 4 (by omega) (by omega) ?_ rfl
    have l1 := l (sh x 8) 4 (by omega)
    have hf := (hW.wp _ hq).2.2.2.2.2.1
    refine c_P_turn hI1 hW hn (thV S (sh x 4) : Nat) (lowN (sh x 8) 4 : Nat) (fun g h' f2 hI' => q0 (-101) _ (by omega) rfl (by unfold actR; rw [if_neg k0', if_neg k1', if_neg k2', if_pos k3, if_neg (fun z => g ⟨z, by omega⟩)]) h' f2 hI') (fun g h' f2 hI' => q1 _ _ hf.1 (by unfold actR; rw [if_neg k0', if_neg k1', if_neg k2', if_pos k3, if_pos g.1]; rfl) h' f2 hI') rfl rfl (by omega) (by omega)
  have k3' : ¬ kkN x = 3 := by omega
  refine w_eq (kkN x) 4 (fun k4 => ?_) (fun k4 => ?_) hk rfl
  · have k4 : kkN x = 4 := by omega
    refine c_P_lift hI1 hW hn (thV S (sh x 4) : Nat) (fun g h' f2 hI' => q0 (-101) _ (by omega) rfl (by unfold actR; rw [if_neg k0', if_neg k1', if_neg k2', if_neg k3', if_pos k4, if_neg g]) h' f2 hI') (fun g h' f2 hI' => q1 _ _ ?_ (by unfold actR; rw [if_neg k0', if_neg k1', if_neg k2', if_neg k3', if_pos k4, if_pos g]) h' f2 hI') rfl (by omega)
    have := thr_pos g
    omega
  have k4' : ¬ kkN x = 4 := by omega
  refine w_eq (kkN x) 5 (fun k5 => ?_) (fun k5 => ?_) hk rfl
  · have k5 : kkN x = 5 := by omega
    refine c_P_lower hI1 hW hn (thV S (sh x 4) : Nat) (fun g h' f2 hI' => q0 (-101) _ (by omega) rfl (by unfold actR; rw [if_neg k0', if_neg k1', if_neg k2', if_neg k3', if_neg k4', if_pos k5, if_neg g]) h' f2 hI') (fun g h' f2 hI' => q1 _ _ ?_ (by unfold actR; rw [if_neg k0', if_neg k1', if_neg k2', if_neg k3', if_neg k4', if_pos k5, if_pos g]) h' f2 hI') rfl (by omega)
    have := thr_pos g
    omega
  have k5' : ¬ kkN x = 5 := by omega
  refine w_eq (kkN x) 6 (fun k6 => ?_) (fun k6 => ?_) hk rfl
  · have k6 : kkN x = 6 := by omega
    refine c_L_low 4 (by omega) (by omega) ?_ rfl
    have l1 := l (sh x 4) 4 (by omega)
    have hl := hW.lim
    exact c_P_setLimit hI1 hW hn (1 + (lowN (sh x 4) 4 : Nat)) (fun g => absurd (by omega) g) (fun g h' f2 hI' => q1 _ _ (by omega) (by unfold actR; rw [if_neg k0', if_neg k1', if_neg k2', if_neg k3', if_neg k4', if_neg k5', if_pos k6]) h' f2 hI') (iI_add 1 ((lowN (sh x 4) 4 : Nat) : Int)) (by omega)
  have k6' : ¬ kkN x = 6 := by omega
  refine w_eq (kkN x) 7 (fun k7 => ?_) (fun k7 => ?_) hk rfl
  · have k7 : kkN x = 7 := by omega
    refine c_L_low 3 (by omega) (by omega) ?_ rfl
    refine c_L_low 19 (by omega) (by omega) ?_ rfl
    have l1 := l (sh x 4) 3 (by omega)
    have l2 := l (sh x 6) 19 (by omega)
    have hr := hW.2.2.2.1
    exact c_P_setRule hI1 hW hn (lowN (sh x 4) 3 : Nat) (1 + (lowN (sh x 6) 19 : Nat)) (fun g => absurd (by omega) g) (fun g h' f2 hI' => q1 _ _ hr.1 (by unfold actR; rw [if_neg k0', if_neg k1', if_neg k2', if_neg k3', if_neg k4', if_neg k5', if_neg k6', if_pos k7]) h' f2 hI') rfl (iI_add 1 ((lowN (sh x 6) 19 : Nat) : Int)) (by omega) (by omega)
  have k7' : ¬ kkN x = 7 := by omega
  have hfr : kkN x < 12 → SC y_P_frame [.ref 0] h1 (fun r h' => ∃ v, r = some (.int v) ∧ Q (some (.int v)) h') := fun k8 => by
    exact c_P_frame hI1 hW hn (fun g => absurd g h5) (fun g h' f2 hI' => ⟨_, rfl, q1 _ _ (by omega) (by unfold actR; rw [if_neg k0', if_neg k1', if_neg k2', if_neg k3', if_neg k4', if_neg k5', if_neg k6', if_neg k7', if_pos k8]) h' f2 hI'⟩)
  have hfr2 : kkN x < 12 → SC y_P_frame [.ref 0] h1 Q := fun k8 => by
    exact c_P_frame hI1 hW hn (fun g => absurd g h5) (fun g h' f2 hI' => q1 _ _ (by omega) (by unfold actR; rw [if_neg k0', if_neg k1', if_neg k2', if_neg k3', if_neg k4', if_neg k5', if_neg k6', if_neg k7', if_pos k8]) h' f2 hI')
  have fin : kkN x < 12 → ∀ (K : Option Value → St → Prop), (∀ v h', Q (some (.int v)) h' → K (some (.int v)) h') → SC y_P_frame [.ref 0] h1 K := fun k8 K hK => by
    exact c_P_frame hI1 hW hn (fun g => absurd g h5) (fun g h' f2 hI' => hK _ _ (q1 _ _ (by omega) (by unfold actR; rw [if_neg k0', if_neg k1', if_neg k2', if_neg k3', if_neg k4', if_neg k5', if_neg k6', if_neg k7', if_pos k8]) h' f2 hI'))
  refine w_eq (kkN x) 8 (fun k8 => ?_) (fun k8 => ?_) hk rfl
  · exact fin (by omega) _ (fun _ _ z => z)
  refine w_eq (kkN x) 9 (fun k9 => ?_) (fun k9 => ?_) hk rfl
  · exact fin (by omega) _ (fun _ _ z => z)
  refine w_eq (kkN x) 10 (fun k10 => ?_) (fun k10 => ?_) hk rfl
  · exact fin (by omega) _ (fun _ _ z => z)
  refine w_eq (kkN x) 11 (fun k11 => ?_) (fun k11 => ?_) hk rfl
  · exact fin (by omega) _ (fun _ _ z => z)
  have k8' : ¬ kkN x < 12 := by omega
  refine c_L_low 40 (by omega) (by omega) ?_ rfl
  refine c_L_low 30 (by omega) (by omega) ?_ rfl
  refine c_L_low 8 (by omega) (by omega) ?_ rfl
  refine c_L_low 9 (by omega) (by omega) ?_ rfl
  have l1 := l (sh x 4) 40 (by omega)
  have l2 := l (sh x 9) 30 (by omega)
  have l3 := l (sh x 15) 8 (by omega)
  have l4 := l (sh x 18) 9 (by omega)
  have l5 := t1N_lt x
  refine c_P_come hI1 hW hn ((lowN (sh x 4) 40 : Nat) - 8) ((lowN (sh x 9) 30 : Nat) - 10) (t1N x : Nat) (lowN (sh x 15) 8 : Nat) (1 + (lowN (sh x 18) 9 : Nat)) (fun g => absurd (by omega) g) (fun g g2 h' f2 hI' => q0 (-103) _ (by omega) rfl (by unfold actR; rw [if_neg k0', if_neg k1', if_neg k2', if_neg k3', if_neg k4', if_neg k5', if_neg k6', if_neg k7', if_neg k8', if_pos g2]) h' f2 hI') (fun g g2 h' f2 hI' => q1 _ _ hs.2.2.1 (by unfold actR; rw [if_neg k0', if_neg k1', if_neg k2', if_neg k3', if_neg k4', if_neg k5', if_neg k6', if_neg k7', if_neg k8', if_neg g2]) h' f2 hI') (iI_sub ((lowN (sh x 4) 40 : Nat) : Int) 8) (iI_sub ((lowN (sh x 9) 30 : Nat) : Int) 10) (t1_and x) rfl (iI_add 1 ((lowN (sh x 18) 9 : Nat) : Int)) (by omega) (by omega) (by omega) (by omega) (by omega)
end
