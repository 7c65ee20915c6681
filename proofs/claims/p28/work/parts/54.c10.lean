/-! the class: its state, and the calls that change the scene -/
def CT (N : Nat) (T : Nat → Nat) (h : St) : Prop := h.1 76 1 = iI (N : Nat) ∧ ∀ i, i < N → h.2 78 i = iI (T i : Nat)
def CF (f : Nat) (G : Nat → Int) (h : St) : Prop := h.1 89 0 = iI (f : Nat) ∧ (f = 1 → ∀ j, j < 5 → h.1 89 (1 + j) = iI (G j))
def CI (S : Nat → Int) (n : Nat) (H : Nat → Nat → Int) (N : Nat) (T : Nat → Nat) (f : Nat) (G : Nat → Int) (h : St) : Prop := CS 1 S h ∧ CH n H h ∧ CT N T h ∧ CF f G h
theorem CT.fr {N lo hi : Nat} {T : Nat → Nat} {h h' : St} (hC : CT N T h) (f : Fr lo hi h h') (hd : hi ≤ 76 ∨ 78 < lo) : CT N T h' := ⟨by rw [f.1 76 (by omega)]; exact hC.1, fun i hi => by rw [f.2 78 (by omega)]; exact hC.2 i hi⟩
theorem CF.fr {g lo hi : Nat} {G : Nat → Int} {h h' : St} (hC : CF g G h) (f : Fr lo hi h h') (hd : hi ≤ 89 ∨ 89 < lo) : CF g G h' := ⟨by rw [f.1 89 (by omega)]; exact hC.1, fun z j hj => by rw [f.1 89 (by omega)]; exact hC.2 z j hj⟩
theorem CI.eqv {S S' : Nat → Int} {n : Nat} {H : Nat → Nat → Int} {N : Nat} {T : Nat → Nat} {f : Nat} {G : Nat → Int} {h : St} (hI : CI S n H N T f G h) (e : Eqv S S') (hn : (S 1).toNat ≤ 20) : CI S' n H N T f G h := ⟨hI.1.eqv e hn, hI.2⟩
def Sc (h h' : St) : Prop := ∀ o, (8 ≤ o ∧ o < 15) ∨ 38 ≤ o → h'.1 o = h.1 o ∧ h'.2 o = h.2 o
theorem Sm.sc {X : List (Nat × Nat)} {Y : List Nat} {h h' : St} (a : Sm X Y h h') (hx : ∀ q ∈ X, q.1 < 8 ∨ (15 ≤ q.1 ∧ q.1 < 38)) (hy : ∀ q ∈ Y, q < 8 ∨ (15 ≤ q ∧ q < 38)) : Sc h h' :=
  fun o ho => ⟨funext fun k => a.1 o k (fun z => by have := hx _ z; dsimp only at this; omega), a.2 o (fun z => by have := hy _ z; omega)⟩
section
variable {S S' : Nat → Int} {n : Nat} {H : Nat → Nat → Int} {N : Nat} {T : Nat → Nat} {f : Nat} {G : Nat → Int} {h h1 h2 : St} {Q : Option Value → St → Prop}
theorem CI.bf (hI : CI S n H N T f G h) (f1 : Fr 8 15 h h1) : CI S n H N T f G h1 := ⟨hI.1.fr f1 (by omega), hI.2.1.fr f1 (by omega), hI.2.2.1.fr f1 (by omega), hI.2.2.2.fr f1 (by omega)⟩
theorem CI.sc (hI : CI S n H N T f G h1) (s : Sc h1 h2) (c1 : CS 1 S' h2) : CI S' n H N T f G h2 := by
  obtain ⟨-, ⟨w, hw, a1, a2, a3⟩, b, c⟩ := hI
  refine ⟨c1, ⟨w, hw, by rw [(s 38 (by omega)).1]; exact a1, by rw [(s 38 (by omega)).1]; exact a2, fun j hj => ?_⟩, ⟨by rw [(s 76 (by omega)).1]; exact b.1, fun i hi => by rw [(s 78 (by omega)).2]; exact b.2 i hi⟩, ⟨by rw [(s 89 (by omega)).1]; exact c.1, fun z j hj => by rw [(s 89 (by omega)).1]; exact c.2 z j hj⟩⟩
  have := a3 j hj
  unfold CS at this ⊢
  rw [(s _ (by omega)).1, (s _ (by omega)).2, (s _ (by omega)).2, (s _ (by omega)).2]
  exact this
theorem c_rec {x : Int32} (hI : CI S n H N T f G h) (hs : (S 1).toNat ≤ 20) (hn : n ≤ 5) (f1 : Fr 8 15 h h1) (c8 : CS 8 S h1) (s2 : Sc h1 h2) (c1 : CS 1 S' h2) (f2 : Fr 0 90 h1 h2) (a : Int) (ha : 0 ≤ a) (ra : rg a) (hQ : ∀ h', Fr 0 90 h h' → CI S' (psN n) (psH n H S) N T f G h' → Q (some (.int (iI a))) h') (hx : x = iI a) : SC y_P_recorded [.ref 0, .int x] h2 Q := by
  have i2 := (hI.bf f1).sc s2 c1
  have c82 : CS 8 S h2 := by
    unfold CS at c8 ⊢
    rw [(s2 8 (by omega)).1, (s2 (8 + 2) (by omega)).2, (s2 (8 + 4) (by omega)).2, (s2 (8 + 6) (by omega)).2]
    exact c8
  refine c_P_recorded c82 hs i2.2.1 hn a (fun z => by omega) (fun _ h3 f3 cH => ?_) hx ra
  exact hQ h3 ((f1.w (by omega) (by omega)).t (f2.t (f3.w (by omega) (by omega)))) ⟨i2.1.fr f3 (by omega), cH, i2.2.2.1.fr f3 (by omega), i2.2.2.2.fr f3 (by omega)⟩
theorem c_rec0 {x : Int32} (hI : CI S n H N T f G h) (hs : (S 1).toNat ≤ 20) (hn : n ≤ 5) (f1 : Fr 8 15 h h1) (c8 : CS 8 S h1) (a : Int) (ha : a < 0) (ra : rg a) (hQ : ∀ h', Fr 0 90 h h' → CI S n H N T f G h' → Q (some (.int (iI a))) h') (hx : x = iI a) : SC y_P_recorded [.ref 0, .int x] h1 Q :=
  c_P_recorded c8 hs (hI.bf f1).2.1 hn a (fun _ => hQ h1 (f1.w (by omega) (by omega)) (hI.bf f1)) (fun z => by omega) hx ra
theorem fr81 (s1 : Sm (fl6 8) [10, 12, 14] h h1) : Fr 8 15 h h1 := s1.fr (by decide) (by decide)
theorem c_P_setRow {x1 x2 x3 : Int32} (hI : CI S n H N T f G h) (hW : WF S) (hn : n ≤ 5) (a b c : Int) (hQ0 : ¬ ((0 ≤ a ∧ a ≤ 7) ∧ (0 ≤ b ∧ b ≤ 7) ∧ (0 ≤ c ∧ c ≤ 255)) → ∀ h', Fr 0 90 h h' → CI S n H N T f G h' → Q (some (.int (iI (-101)))) h')
    (hQ1 : ((0 ≤ a ∧ a ≤ 7) ∧ (0 ≤ b ∧ b ≤ 7) ∧ (0 ≤ c ∧ c ≤ 255)) → ∀ h', Fr 0 90 h h' → CI (u1 S (206 + 8 * a.toNat + b.toNat) c) (psN n) (psH n H S) N T f G h' → Q (some (.int (iI (S (206 + 8 * a.toNat + b.toNat))))) h') (h1 : x1 = iI a) (h2 : x2 = iI b) (h3 : x3 = iI c) (ra : rg a) (rb : rg b) (rc : rg c) : SC y_P_setRow [.ref 0, .int x1, .int x2, .int x3] h Q := by
  have hs := hW.n.2.1
  refine w_call IS_ok [] ok_P_setRow rfl rfl ?_
  refine c_Scene_copyFrom_8_1 hI.1 hs (fun hb s1 c8 => ?_)
  refine c_Scene_redraw (hI.bf (fr81 s1)).1 hs a b c (fun g => ?_) (fun g hc s2 c1 => ?_) h1 h2 h3 ra rb rc
  · exact c_rec0 hI hs hn (fr81 s1) c8 (-101) (by omega) (by omega) (hQ0 g) rfl
  · have hp := hW.pic (i := 8 * a.toNat + b.toNat) (by omega)
    rw [show 206 + (8 * a.toNat + b.toNat) = 206 + 8 * a.toNat + b.toNat by omega] at hp
    exact c_rec hI hs hn (fr81 s1) c8 (s2.sc (by decide) (by decide)) c1 (s2.fr (by decide) (by decide)) _ hp.1 (by omega) (hQ1 g) rfl
theorem c_P_come {x1 x2 x3 x4 x5 : Int32} (hI : CI S n H N T f G h) (hW : WF S) (hn : n ≤ 5) (x y t g c : Int)
    (hQ0 : ¬ (((-15 ≤ x ∧ x ≤ 63) ∧ (-15 ≤ y ∧ y ≤ 47)) ∧ (0 ≤ t ∧ t ≤ 1) ∧ (0 ≤ g ∧ g ≤ 7) ∧ (1 ≤ c ∧ c ≤ 9)) → ∀ h', Fr 0 90 h h' → CI S n H N T f G h' → Q (some (.int (iI (-101)))) h')
    (hQ1 : (((-15 ≤ x ∧ x ≤ 63) ∧ (-15 ≤ y ∧ y ≤ 47)) ∧ (0 ≤ t ∧ t ≤ 1) ∧ (0 ≤ g ∧ g ≤ 7) ∧ (1 ≤ c ∧ c ≤ 9)) → S 0 = 20 → ∀ h', Fr 0 90 h h' → CI S n H N T f G h' → Q (some (.int (iI (-103)))) h')
    (hQ2 : (((-15 ≤ x ∧ x ≤ 63) ∧ (-15 ≤ y ∧ y ≤ 47)) ∧ (0 ≤ t ∧ t ≤ 1) ∧ (0 ≤ g ∧ g ≤ 7) ∧ (1 ≤ c ∧ c ≤ 9)) → S 0 ≠ 20 → ∀ h', Fr 0 90 h h' → CI (cmS S x y t g c) (psN n) (psH n H S) N T f G h' → Q (some (.int (iI (S 0)))) h')
    (h1 : x1 = iI x) (h2 : x2 = iI y) (h3 : x3 = iI t) (h4 : x4 = iI g) (h5 : x5 = iI c) (rx : rg x) (ry : rg y) (rt : rg t) (rgg : rg g) (rc : rg c) : SC y_P_come [.ref 0, .int x1, .int x2, .int x3, .int x4, .int x5] h Q := by
  have hs := hW.n
  refine w_call IS_ok [] ok_P_come rfl rfl ?_
  refine c_Scene_copyFrom_8_1 hI.1 hs.2.1 (fun hb s1 c8 => ?_)
  refine c_Scene_admit (hI.bf (fr81 s1)).1 hW x y t g c (fun g => ?_) (fun g g2 => ?_) (fun g g2 hc s2 c1 => ?_) h1 h2 h3 h4 h5 rx ry rt rgg rc
  · exact c_rec0 hI hs.2.1 hn (fr81 s1) c8 (-101) (by omega) (by omega) (hQ0 g) rfl
  · exact c_rec0 hI hs.2.1 hn (fr81 s1) c8 (-103) (by omega) (by omega) (hQ1 g g2) rfl
  · exact c_rec hI hs.2.1 hn (fr81 s1) c8 (s2.sc (by decide) (by decide)) c1 (s2.fr (by decide) (by decide)) _ hs.2.2.1 (by omega) (hQ2 g g2) rfl
theorem c_P_leave {x1 : Int32} (hI : CI S n H N T f G h) (hW : WF S) (hn : n ≤ 5) (p : Int) (hQ0 : ¬ thr S p → ∀ h', Fr 0 90 h h' → CI S n H N T f G h' → Q (some (.int (iI (-101)))) h')
    (hQ1 : thr S p → ∀ h', Fr 0 90 h h' → CI (ordS S ((S 1).toNat - 1) (outO (od S) (pos S p (S 1).toNat).toNat)) (psN n) (psH n H S) N T f G h' → Q (some (.int (iI (pos S p (S 1).toNat)))) h') (h1 : x1 = iI p) (rp : rg p) : SC y_P_leave [.ref 0, .int x1] h Q := by
  have hs := hW.n
  refine w_call IS_ok [] ok_P_leave rfl rfl ?_
  refine c_Scene_copyFrom_8_1 hI.1 hs.2.1 (fun hb s1 c8 => ?_)
  refine c_Scene_dismiss (hI.bf (fr81 s1)).1 hW p (fun g => ?_) (fun g hc s2 c1 => ?_) h1 rp
  · exact c_rec0 hI hs.2.1 hn (fr81 s1) c8 (-101) (by omega) (by omega) (hQ0 g) rfl
  · have hp := thr_pos g
    exact c_rec hI hs.2.1 hn (fr81 s1) c8 (s2.sc (by decide) (by decide)) c1 (s2.fr (by decide) (by decide)) _ (by omega) (by omega) (hQ1 g) rfl
theorem c_P_move {x1 x2 x3 : Int32} (hI : CI S n H N T f G h) (hW : WF S) (hn : n ≤ 5) (p x y : Int) (hQ0 : ¬ (thr S p ∧ (-15 ≤ x ∧ x ≤ 63) ∧ (-15 ≤ y ∧ y ≤ 47)) → ∀ h', Fr 0 90 h h' → CI S n H N T f G h' → Q (some (.int (iI (-101)))) h')
    (hQ1 : (thr S p ∧ (-15 ≤ x ∧ x ≤ 63) ∧ (-15 ≤ y ∧ y ≤ 47)) → ∀ h', Fr 0 90 h h' → CI (mvS S p.toNat x y) (psN n) (psH n H S) N T f G h' → Q (some (.int (iI (lns (mvS S p.toNat x y) p.toNat 48 : Nat)))) h') (h1 : x1 = iI p) (h2 : x2 = iI x) (h3 : x3 = iI y) (rp : rg p) (rx : rg x) (ry : rg y) : SC y_P_move [.ref 0, .int x1, .int x2, .int x3] h Q := by
  have hs := hW.n
  refine w_call IS_ok [] ok_P_move rfl rfl ?_
  refine c_Scene_copyFrom_8_1 hI.1 hs.2.1 (fun hb s1 c8 => ?_)
  refine c_Scene_relocate (hI.bf (fr81 s1)).1 hW p x y (fun g => ?_) (fun g hc s2 c1 => ?_) h1 h2 h3 rp rx ry
  · exact c_rec0 hI hs.2.1 hn (fr81 s1) c8 (-101) (by omega) (by omega) (hQ0 g) rfl
  · have hl := lns_le (mvS S p.toNat x y) p.toNat 48
    exact c_rec hI hs.2.1 hn (fr81 s1) c8 (s2.sc (by decide) (by decide)) c1 (s2.fr (by decide) (by decide)) _ (by omega) (by omega) (hQ1 g) rfl
theorem c_P_turn {x1 x2 : Int32} (hI : CI S n H N T f G h) (hW : WF S) (hn : n ≤ 5) (p l : Int) (hQ0 : ¬ (thr S p ∧ (0 ≤ l ∧ l ≤ 3)) → ∀ h', Fr 0 90 h h' → CI S n H N T f G h' → Q (some (.int (iI (-101)))) h')
    (hQ1 : (thr S p ∧ (0 ≤ l ∧ l ≤ 3)) → ∀ h', Fr 0 90 h h' → CI (u1 S (26 + 9 * p.toNat + 5) l) (psN n) (psH n H S) N T f G h' → Q (some (.int (iI (S (26 + 9 * p.toNat + 5))))) h') (h1 : x1 = iI p) (h2 : x2 = iI l) (rp : rg p) (rl : rg l) : SC y_P_turn [.ref 0, .int x1, .int x2] h Q := by
  have hs := hW.n
  refine w_call IS_ok [] ok_P_turn rfl rfl ?_
  refine c_Scene_copyFrom_8_1 hI.1 hs.2.1 (fun hb s1 c8 => ?_)
  refine c_Scene_flip (hI.bf (fr81 s1)).1 hW p l (fun g => ?_) (fun g hc s2 c1 => ?_) h1 h2 rp rl
  · exact c_rec0 hI hs.2.1 hn (fr81 s1) c8 (-101) (by omega) (by omega) (hQ0 g) rfl
  · have hb := thr_b hW g.1
    have hw := (hW.wp p.toNat (by omega)).2.2.2.2.2.1
    exact c_rec hI hs.2.1 hn (fr81 s1) c8 (s2.sc (by decide) (by decide)) c1 (s2.fr (by decide) (by decide)) _ hw.1 (by omega) (hQ1 g) rfl
theorem c_P_lift {x1 : Int32} (hI : CI S n H N T f G h) (hW : WF S) (hn : n ≤ 5) (p : Int) (hQ0 : ¬ thr S p → ∀ h', Fr 0 90 h h' → CI S n H N T f G h' → Q (some (.int (iI (-101)))) h')
    (hQ1 : thr S p → ∀ h', Fr 0 90 h h' → CI (ordS S (S 1).toNat (lftO (od S) (pos S p (S 1).toNat).toNat)) (psN n) (psH n H S) N T f G h' → Q (some (.int (iI (pos S p (S 1).toNat)))) h') (h1 : x1 = iI p) (rp : rg p) : SC y_P_lift [.ref 0, .int x1] h Q := by
  have hs := hW.n
  refine w_call IS_ok [] ok_P_lift rfl rfl ?_
  refine c_Scene_copyFrom_8_1 hI.1 hs.2.1 (fun hb s1 c8 => ?_)
  refine c_Scene_putFirst (hI.bf (fr81 s1)).1 hW p (fun g => ?_) (fun g hc s2 c1 => ?_) h1 rp
  · exact c_rec0 hI hs.2.1 hn (fr81 s1) c8 (-101) (by omega) (by omega) (hQ0 g) rfl
  · have hp := thr_pos g
    exact c_rec hI hs.2.1 hn (fr81 s1) c8 (s2.sc (by decide) (by decide)) c1 (s2.fr (by decide) (by decide)) _ (by omega) (by omega) (hQ1 g) rfl
theorem c_P_lower {x1 : Int32} (hI : CI S n H N T f G h) (hW : WF S) (hn : n ≤ 5) (p : Int) (hQ0 : ¬ thr S p → ∀ h', Fr 0 90 h h' → CI S n H N T f G h' → Q (some (.int (iI (-101)))) h')
    (hQ1 : thr S p → ∀ h', Fr 0 90 h h' → CI (ordS S (S 1).toNat (lowO (od S) (pos S p (S 1).toNat).toNat (S 1).toNat)) (psN n) (psH n H S) N T f G h' → Q (some (.int (iI (pos S p (S 1).toNat)))) h') (h1 : x1 = iI p) (rp : rg p) : SC y_P_lower [.ref 0, .int x1] h Q := by
  have hs := hW.n
  refine w_call IS_ok [] ok_P_lower rfl rfl ?_
  refine c_Scene_copyFrom_8_1 hI.1 hs.2.1 (fun hb s1 c8 => ?_)
  refine c_Scene_putLast (hI.bf (fr81 s1)).1 hW p (fun g => ?_) (fun g hc s2 c1 => ?_) h1 rp
  · exact c_rec0 hI hs.2.1 hn (fr81 s1) c8 (-101) (by omega) (by omega) (hQ0 g) rfl
  · have hp := thr_pos g
    exact c_rec hI hs.2.1 hn (fr81 s1) c8 (s2.sc (by decide) (by decide)) c1 (s2.fr (by decide) (by decide)) _ (by omega) (by omega) (hQ1 g) rfl
theorem c_P_setLimit {x1 : Int32} (hI : CI S n H N T f G h) (hW : WF S) (hn : n ≤ 5) (l : Int) (hQ0 : ¬ (1 ≤ l ∧ l ≤ 8) → ∀ h', Fr 0 90 h h' → CI S n H N T f G h' → Q (some (.int (iI (-101)))) h')
    (hQ1 : (1 ≤ l ∧ l ≤ 8) → ∀ h', Fr 0 90 h h' → CI (u1 S 2 l) (psN n) (psH n H S) N T f G h' → Q (some (.int (iI (S 2)))) h') (h1 : x1 = iI l) (rl : rg l) : SC y_P_setLimit [.ref 0, .int x1] h Q := by
  have hs := hW.n
  refine w_call IS_ok [] ok_P_setLimit rfl rfl ?_
  refine c_Scene_copyFrom_8_1 hI.1 hs.2.1 (fun hb s1 c8 => ?_)
  refine c_Scene_changeLimit (hI.bf (fr81 s1)).1 l (fun g => ?_) (fun g hc s2 c1 => ?_) h1 rl
  · exact c_rec0 hI hs.2.1 hn (fr81 s1) c8 (-101) (by omega) (by omega) (hQ0 g) rfl
  · have hl := hW.lim
    exact c_rec hI hs.2.1 hn (fr81 s1) c8 (s2.sc (by decide) (by decide)) c1 (s2.fr (by decide) (by decide)) _ (by omega) (by omega) (hQ1 g) rfl
theorem c_P_setRule {x1 x2 : Int32} (hI : CI S n H N T f G h) (hW : WF S) (hn : n ≤ 5) (a b : Int) (hQ0 : ¬ ((0 ≤ a ∧ a ≤ 2) ∧ (1 ≤ b ∧ b ≤ 19)) → ∀ h', Fr 0 90 h h' → CI S n H N T f G h' → Q (some (.int (iI (-101)))) h')
    (hQ1 : ((0 ≤ a ∧ a ≤ 2) ∧ (1 ≤ b ∧ b ≤ 19)) → ∀ h', Fr 0 90 h h' → CI (u1 (u1 S 3 a) 4 b) (psN n) (psH n H S) N T f G h' → Q (some (.int (iI (S 3)))) h') (h1 : x1 = iI a) (h2 : x2 = iI b) (ra : rg a) (rb : rg b) : SC y_P_setRule [.ref 0, .int x1, .int x2] h Q := by
  have hs := hW.n
  have h3 := hW.2.2.2.1
  refine w_call IS_ok [] ok_P_setRule rfl rfl ?_
  refine c_Scene_copyFrom_8_1 hI.1 hs.2.1 (fun hb s1 c8 => ?_)
  refine c_Scene_changeRule (hI.bf (fr81 s1)).1 a b (fun g => ?_) (fun g hc s2 c1 => ?_) h1 h2 ra rb
  · exact c_rec0 hI hs.2.1 hn (fr81 s1) c8 (-101) (by omega) (by omega) (hQ0 g) rfl
  · exact c_rec hI hs.2.1 hn (fr81 s1) c8 (s2.sc (by decide) (by decide)) c1 (s2.fr (by decide) (by decide)) _ (by omega) (by omega) (hQ1 g) rfl
theorem c_P_frame (hI : CI S n H N T f G h) (hW : WF S) (hn : n ≤ 5) (hQ0 : S 5 = 9999 → ∀ h', Fr 0 90 h h' → CI S n H N T f G h' → Q (some (.int (iI (-103)))) h')
    (hQ1 : S 5 ≠ 9999 → ∀ h', Fr 0 90 h h' → CI (frS S) (psN n) (psH n H S) N T f G h' → Q (some (.int (iI (hidN S : Nat)))) h') : SC y_P_frame [.ref 0] h Q := by
  have hs := hW.n
  have h5 := hW.2.2.2.2.2.1
  refine w_call IS_ok [] ok_P_frame rfl rfl ?_
  refine c_Scene_copyFrom_8_1 hI.1 hs.2.1 (fun hb s1 c8 => ?_)
  refine c_Scene_makeFrame_1 (hI.bf (fr81 s1)).1 hW.wg (by omega) 9999 (by omega) (fun g => ?_) (fun g hc s2 c1 _ => ?_) rfl
  · exact c_rec0 hI hs.2.1 hn (fr81 s1) c8 (-103) (by omega) (by omega) (hQ0 (by omega)) rfl
  · have hl := hidN_le S
    exact c_rec hI hs.2.1 hn (fr81 s1) c8 (s2.sc (by decide) (by decide)) c1 (s2.fr (by decide) (by decide)) _ (by omega) (by omega) (hQ1 (by omega)) rfl
theorem CH.sz (hH : CH n H h) : h.1 38 2 = iI (n : Nat) := by obtain ⟨w, -, -, h2, -⟩ := hH; exact h2
theorem c_P_undo (hI : CI S n H N T f G h) (hn : n ≤ 5) (hs : 0 < n → (H (n - 1) 1).toNat ≤ 20) (hQ0 : n = 0 → Q (some (.int (iI (-102)))) h)
    (hQ1 : 0 < n → ∀ h', Fr 0 90 h h' → CI (H (n - 1)) (n - 1) H N T f G h' → Q (some (.int (iI (n - 1 : Nat)))) h') : SC y_P_undo [.ref 0] h Q := by
  refine w_call IS_ok [] ok_P_undo rfl rfl ?_
  refine w_eq n 0 (fun g => hQ0 (by omega)) (fun g => ?_) hI.2.1.sz rfl
  refine c_Hist_restore hI.2.1 hn (by omega) (hs (by omega)) (fun h' s1 c1 cH => ?_)
  have f1 : Fr 1 39 h h' := s1.fr (by decide) (by decide)
  have := hQ1 (by omega) h' (f1.w (by omega) (by omega)) ⟨c1, cH, hI.2.2.1.fr f1 (by omega), hI.2.2.2.fr f1 (by omega)⟩
  rw [← cH.sz] at this
  exact this
theorem c_P_failure {x1 : Int32} (hI : CI S n H N T f G h) (hf : f ≤ 1) (w : Int) (hQ : ∀ r, FaiR f G w r → Q (some (.int (iI r))) h) (h1 : x1 = iI w) (rw' : rg w) : SC y_P_failure [.ref 0, .int x1] h Q := by
  refine w_call IS_ok [] ok_P_failure rfl rfl ?_
  refine c_P_within w 0 4 ?_ h1 rfl rfl rw'
  refine w_b (fun g => hQ (-101) (Or.inl ⟨g, rfl⟩)) (fun g => ?_)
  refine w_call IS_ok [] ok_Fail_part rfl rfl ?_
  obtain ⟨c1, c2⟩ := hI.2.2.2
  refine w_eq f 0 (fun g2 => hQ (-109) (Or.inr ⟨g, Or.inl ⟨by omega, rfl⟩⟩)) (fun g2 => ?_) c1 rfl
  have f1 : f = 1 := by omega
  have c2 := c2 f1
  have hq : ∀ j : Nat, w = j → Q (some (.int (iI (G j)))) h := fun j hj => hQ _ (Or.inr ⟨g, Or.inr ⟨f1, by rw [hj]; rfl⟩⟩)
  have : w = 0 ∨ w = 1 ∨ w = 2 ∨ w = 3 ∨ w = 4 := by omega
  rcases this with rfl | rfl | rfl | rfl | rfl
  · subst h1; have := hq 0 rfl; rw [← c2 0 (by omega)] at this; exact this
  · subst h1; have := hq 1 rfl; rw [← c2 1 (by omega)] at this; exact this
  · subst h1; have := hq 2 rfl; rw [← c2 2 (by omega)] at this; exact this
  · subst h1; have := hq 3 rfl; rw [← c2 3 (by omega)] at this; exact this
  · subst h1; have := hq 4 rfl; rw [← c2 4 (by omega)] at this; exact this
end
