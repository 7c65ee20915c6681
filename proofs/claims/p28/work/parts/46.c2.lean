/-! the class: a scene -/
def pg (h : St) (o k : Nat) (x : Int32) : St := (u2 h.1 o k x, h.2)
theorem pg_s (h : St) (o k : Nat) (x : Int32) : (pg h o k x).1 o k = x := by show u2 h.1 o k x o k = x; unfold u2; rw [u1_s, u1_s]
theorem pg_n (h : St) (o k : Nat) (x : Int32) {j : Nat} (hj : j ≠ k) : (pg h o k x).1 o j = h.1 o j := by show u2 h.1 o k x o j = _; unfold u2; rw [u1_s, u1_n _ _ hj]
theorem pg_o (h : St) (o k : Nat) (x : Int32) {o' j : Nat} (ho : o' ≠ o) : (pg h o k x).1 o' j = h.1 o' j := by show u2 h.1 o k x o' j = _; unfold u2; rw [u1_n _ _ ho]
theorem Sm.pg {X : List (Nat × Nat)} {Y : List Nat} {h : St} {o k : Nat} (x : Int32) (ha : (o, k) ∈ X) : Sm X Y h (pg h o k x) := Sm.put x ha
/-- the scene at a shows S -/
def CS (a : Nat) (S : Nat → Int) (h : St) : Prop := (h.1 a 3 = iI (S 1) ∧ h.1 a 4 = iI (S 0) ∧ h.1 a 5 = iI (S 2) ∧ h.1 a 6 = iI (S 3) ∧ h.1 a 7 = iI (S 4) ∧ h.1 a 8 = iI (S 5)) ∧ (∀ i, i < 64 → h.2 (a + 2) i = iI (S (206 + i))) ∧ (∀ k, k < (S 1).toNat → h.2 (a + 6) k = iI (S (6 + k))) ∧ (∀ p, p < 20 → ∀ j, j < 6 → h.2 (a + 4) (p * 10 + j) = iI (S (26 + 9 * p + j))) ∧ (∀ p : Nat, p < 20 → (p : Int) < S 0 → h.2 (a + 4) (p * 10 + 6) = iI (hgh S p)) ∧ (∀ p, p < 20 → ∀ j, j < 3 → h.2 (a + 4) (p * 10 + (7 + j)) = iI (S (26 + 9 * p + (6 + j))))
theorem CS.sm {a : Nat} {S : Nat → Int} {X : List (Nat × Nat)} {Y : List Nat} {h h' : St} (hC : CS a S h) (s : Sm X Y h h') (hx : ∀ q ∈ X, q.1 ≠ a) (hy : ∀ q ∈ Y, q ≠ a + 2 ∧ q ≠ a + 4 ∧ q ≠ a + 6) : CS a S h' := by
  have e1 : ∀ k, h'.1 a k = h.1 a k := fun k => s.1 a k (fun z => hx _ z rfl)
  have e2 : h'.2 (a + 2) = h.2 (a + 2) := s.2 _ (fun z => (hy _ z).1 rfl)
  have e4 : h'.2 (a + 4) = h.2 (a + 4) := s.2 _ (fun z => (hy _ z).2.1 rfl)
  have e6 : h'.2 (a + 6) = h.2 (a + 6) := s.2 _ (fun z => (hy _ z).2.2 rfl)
  unfold CS
  rw [e1, e1, e1, e1, e1, e1, e2, e4, e6]
  exact hC
/-- what a frame needs to know of a state: its counts are at most b -/
def WG (b : Int) (S : Nat → Int) : Prop := (0 ≤ S 0 ∧ S 0 ≤ 20) ∧ (0 ≤ S 1 ∧ S 1 ≤ 20) ∧ (1 ≤ S 2 ∧ S 2 ≤ 8) ∧ (0 ≤ S 3 ∧ S 3 ≤ 2) ∧ (1 ≤ S 4 ∧ S 4 ≤ 19) ∧ (0 ≤ S 5 ∧ S 5 ≤ b) ∧ (∀ k, k < (S 1).toNat → S (6 + k) = (od S k : Int) ∧ od S k < 20 ∧ S (6 + k) < S 0) ∧ (∀ j k, j < (S 1).toNat → k < (S 1).toNat → od S j = od S k → j = k) ∧ (∀ p, p < 20 → -15 ≤ S (26 + 9 * p + 1) ∧ S (26 + 9 * p + 1) ≤ 47) ∧ (∀ p, p < 20 → ∀ j, j < 3 → 0 ≤ S (26 + 9 * p + (6 + j)) ∧ S (26 + 9 * p + (6 + j)) ≤ b)
theorem WF.wg {S : Nat → Int} (h : WF S) : WG 9999 S := by
  have hn := h.n
  have hw := h.wp
  have h5 := h.2.2.2.2.2.1
  refine ⟨h.1, by omega, h.2.2.1, h.2.2.2.1, h.2.2.2.2.1, h5, fun k hk => h.od hk, fun j k hj hk he => wf_oi h hj hk he, fun p hp => (hw p hp).2.1, fun p hp j hj => ?_⟩
  obtain ⟨-, -, -, -, -, -, a, b, c⟩ := hw p hp
  have : j = 0 ∨ j = 1 ∨ j = 2 := by omega
  rcases this with rfl | rfl | rfl
  · exact ⟨a.1, by have := a.2; show S (26 + 9 * p + 6) ≤ 9999; omega⟩
  · exact ⟨b.1, by have := b.2; show S (26 + 9 * p + 7) ≤ 9999; omega⟩
  · exact ⟨c.1, by have := c.2; show S (26 + 9 * p + 8) ≤ 9999; omega⟩
theorem CS.eqv {a : Nat} {S S' : Nat → Int} {h : St} (hC : CS a S h) (e : Eqv S S') (hn : (S 1).toNat ≤ 20) : CS a S' h := by
  obtain ⟨⟨a1, a2, a3, a4, a5, a6⟩, b, c, d, f, g⟩ := hC
  have k : ∀ i, i < 270 → (i < 6 ∨ 26 ≤ i) → S' i = S i := fun i h1 h2 => e i h1 (by omega)
  refine ⟨⟨by rw [k 1 (by omega) (by omega)]; exact a1, by rw [k 0 (by omega) (by omega)]; exact a2, by rw [k 2 (by omega) (by omega)]; exact a3, by rw [k 3 (by omega) (by omega)]; exact a4, by rw [k 4 (by omega) (by omega)]; exact a5, by rw [k 5 (by omega) (by omega)]; exact a6⟩, fun i hi => by rw [k _ (by omega) (by omega)]; exact b i hi, fun i hi => ?_, fun p hp j hj => by rw [k _ (by omega) (by omega)]; exact d p hp j hj, fun p hp h0 => ?_, fun p hp j hj => by rw [k _ (by omega) (by omega)]; exact g p hp j hj⟩
  · rw [k 1 (by omega) (by omega)] at hi
    rw [e _ (by omega) (by omega)]
    exact c i hi
  · rw [k 0 (by omega) (by omega)] at h0
    have := f p hp h0
    unfold hgh at this ⊢
    rw [k _ (by omega) (by omega)]
    exact this
def fst (S : Nat → Int) (p : Nat) : Int := if 0 ≤ S (26 + 9 * p + 1) then S (26 + 9 * p + 1) else 0
def lst (S : Nat → Int) (p : Nat) : Int := (if S (26 + 9 * p + 1) + hgh S p ≤ 48 then S (26 + 9 * p + 1) + hgh S p else 48) - 1
def shf {α : Type} (r : Nat → α) (f t : Nat) : Nat → α := fun k => if k = t then r f else if f ≤ k ∧ k < t then r (k + 1) else if t < k ∧ k ≤ f then r (k - 1) else r k
theorem CA_2 : CA 2 3 64 8 := ⟨fun _ => rfl, fun _ => rfl, fun _ => rfl, by decide⟩
theorem CA_4 : CA 4 5 200 10 := ⟨fun _ => rfl, fun _ => rfl, fun _ => rfl, by decide⟩
theorem CA_6 : CA 6 7 20 1 := ⟨fun _ => rfl, fun _ => rfl, fun _ => rfl, by decide⟩
theorem CA_9 : CA 9 10 64 8 := ⟨fun _ => rfl, fun _ => rfl, fun _ => rfl, by decide⟩
theorem CA_11 : CA 11 12 200 10 := ⟨fun _ => rfl, fun _ => rfl, fun _ => rfl, by decide⟩
theorem CA_13 : CA 13 14 20 1 := ⟨fun _ => rfl, fun _ => rfl, fun _ => rfl, by decide⟩
theorem CA_25 : CA 25 26 64 8 := ⟨fun _ => rfl, fun _ => rfl, fun _ => rfl, by decide⟩
theorem CA_27 : CA 27 28 200 10 := ⟨fun _ => rfl, fun _ => rfl, fun _ => rfl, by decide⟩
theorem CA_29 : CA 29 30 20 1 := ⟨fun _ => rfl, fun _ => rfl, fun _ => rfl, by decide⟩
theorem CA_41 : CA 41 42 64 8 := ⟨fun _ => rfl, fun _ => rfl, fun _ => rfl, by decide⟩
theorem CA_43 : CA 43 44 200 10 := ⟨fun _ => rfl, fun _ => rfl, fun _ => rfl, by decide⟩
theorem CA_45 : CA 45 46 20 1 := ⟨fun _ => rfl, fun _ => rfl, fun _ => rfl, by decide⟩
theorem CA_48 : CA 48 49 64 8 := ⟨fun _ => rfl, fun _ => rfl, fun _ => rfl, by decide⟩
theorem CA_50 : CA 50 51 200 10 := ⟨fun _ => rfl, fun _ => rfl, fun _ => rfl, by decide⟩
theorem CA_52 : CA 52 53 20 1 := ⟨fun _ => rfl, fun _ => rfl, fun _ => rfl, by decide⟩
theorem CA_55 : CA 55 56 64 8 := ⟨fun _ => rfl, fun _ => rfl, fun _ => rfl, by decide⟩
theorem CA_57 : CA 57 58 200 10 := ⟨fun _ => rfl, fun _ => rfl, fun _ => rfl, by decide⟩
theorem CA_59 : CA 59 60 20 1 := ⟨fun _ => rfl, fun _ => rfl, fun _ => rfl, by decide⟩
theorem CA_62 : CA 62 63 64 8 := ⟨fun _ => rfl, fun _ => rfl, fun _ => rfl, by decide⟩
theorem CA_64 : CA 64 65 200 10 := ⟨fun _ => rfl, fun _ => rfl, fun _ => rfl, by decide⟩
theorem CA_66 : CA 66 67 20 1 := ⟨fun _ => rfl, fun _ => rfl, fun _ => rfl, by decide⟩
theorem CA_69 : CA 69 70 64 8 := ⟨fun _ => rfl, fun _ => rfl, fun _ => rfl, by decide⟩
theorem CA_71 : CA 71 72 200 10 := ⟨fun _ => rfl, fun _ => rfl, fun _ => rfl, by decide⟩
theorem CA_73 : CA 73 74 20 1 := ⟨fun _ => rfl, fun _ => rfl, fun _ => rfl, by decide⟩
theorem CA_16 : CA 16 17 48 1 := ⟨fun _ => rfl, fun _ => rfl, fun _ => rfl, by decide⟩
theorem CA_18 : CA 18 19 20 1 := ⟨fun _ => rfl, fun _ => rfl, fun _ => rfl, by decide⟩
theorem CA_32 : CA 32 33 48 1 := ⟨fun _ => rfl, fun _ => rfl, fun _ => rfl, by decide⟩
theorem CA_34 : CA 34 35 20 1 := ⟨fun _ => rfl, fun _ => rfl, fun _ => rfl, by decide⟩
theorem CA_21 : CA 21 22 8 1 := ⟨fun _ => rfl, fun _ => rfl, fun _ => rfl, by decide⟩
theorem CA_36 : CA 36 37 20 1 := ⟨fun _ => rfl, fun _ => rfl, fun _ => rfl, by decide⟩
theorem CA_77 : CA 77 78 100 1 := ⟨fun _ => rfl, fun _ => rfl, fun _ => rfl, by decide⟩
theorem CA_80 : CA 80 81 600 6 := ⟨fun _ => rfl, fun _ => rfl, fun _ => rfl, by decide⟩
theorem CA_82 : CA 82 83 4 1 := ⟨fun _ => rfl, fun _ => rfl, fun _ => rfl, by decide⟩
theorem CA_85 : CA 85 86 200 1 := ⟨fun _ => rfl, fun _ => rfl, fun _ => rfl, by decide⟩
theorem CA_87 : CA 87 88 4 1 := ⟨fun _ => rfl, fun _ => rfl, fun _ => rfl, by decide⟩

theorem c_Scene_firstLine_1 {S : Nat → Int} {x : Int32} {h : St} {Q : Option Value → St → Prop} (hC : CS 1 S h) (p : Nat) (hp : p < 20) (hy : -15 ≤ S (26 + 9 * p + 1) ∧ S (26 + 9 * p + 1) ≤ 47) (hQ : Q (some (.int (iI (fst S p)))) h) (hx : x = iI p) : SC y_Scene_firstLine [.ref 1, .int x] h Q := by
  refine w_call IS_ok [] ok_Scene_firstLine rfl rfl ?_
  refine c_Cells_get2 CA_4 p 1 (by omega) ?_ hx rfl
  exact c_J_max (S (26 + 9 * p + 1)) 0 hQ (hC.2.2.2.1 p hp 1 (by omega)) rfl
theorem c_Scene_lastLine_1 {S : Nat → Int} {x : Int32} {h : St} {Q : Option Value → St → Prop} (hC : CS 1 S h) (p : Nat) (hp : p < 20) (hp0 : (p : Int) < S 0) (hy : -15 ≤ S (26 + 9 * p + 1) ∧ S (26 + 9 * p + 1) ≤ 47) (hQ : Q (some (.int (iI (lst S p)))) h) (hx : x = iI p) : SC y_Scene_lastLine [.ref 1, .int x] h Q := by
  refine w_call IS_ok [] ok_Scene_lastLine rfl rfl ?_
  refine c_Cells_get2 CA_4 p 1 (by omega) ?_ hx rfl
  refine c_Cells_get2 CA_4 p 6 (by omega) ?_ hx rfl
  have hh := hgh_b S p
  refine c_J_min (S (26 + 9 * p + 1) + hgh S p) 48 ?_ ?_ rfl
  · unfold lst at hQ
    rw [← iI_sub] at hQ
    exact hQ
  · exact (congr (congrArg HAdd.hAdd (hC.2.2.2.1 p hp 1 (by omega))) (hC.2.2.2.2.1 p hp hp0)).trans (iI_add _ _)
theorem c_Scene_shiftInOrder_1 {x y : Int32} {h : St} {Q : Option Value → St → Prop} (f t : Nat) (hf : f < 20) (ht : t < 20) (hQ : ∀ h', Sm [] [7] h h' → (∀ k, k < 20 → h'.2 7 k = shf (h.2 7) f t k) → Q none h') (hx : x = iI f) (hy : y = iI t) : SC y_Scene_shiftInOrder [.ref 1, .int x, .int y] h Q := by
  refine w_call IS_ok [12] ok_Scene_shiftInOrder rfl rfl ?_
  refine c_Cells_get1 CA_6 f hf ?_ hx
  have last : ∀ (c : Nat) (hc : St) (z : Int32), Sm [] [7] h hc → c ≤ f → c ≤ t → (t ≤ c ∨ c = f) → (∀ k, k < 20 → hc.2 7 k = if c < k ∧ k ≤ f then h.2 7 (k - 1) else if f ≤ k ∧ k < t then h.2 7 (k + 1) else h.2 7 k) → SR y_Scene_shiftInOrder 79 [some (.ref 1), some (.int x), some (.int y), some (.int (h.2 7 f)), some (.int z)] [] hc Q := by
    intro c hc z hs h1 h2 h3 hr
    refine w_loop IS_ok [] ok_Scene_shiftInOrder ?_
    refine c_Cells_set2 CA_6 t ht ?_ hy
    refine hQ _ (hs.t (Sm.wa _ _ (by decide))) (fun k hk => ?_)
    unfold shf
    by_cases z1 : k = t
    · rw [z1, wa_s, if_pos rfl]
    · rw [wa_n _ _ _ _ z1, if_neg z1, hr k hk]
      by_cases z2 : f ≤ k ∧ k < t
      · rw [if_neg (by omega), if_pos z2, if_pos z2]
      · rw [if_neg z2, if_neg z2]
        by_cases z3 : t < k ∧ k ≤ f
        · rw [if_pos (by omega), if_pos z3]
        · rw [if_neg (by omega), if_neg z3]
  have loop2 : ∀ (m c : Nat) (hc : St) (z : Int32), c ≤ t + m → c ≤ f → (t ≤ c ∨ c = f) → Sm [] [7] h hc → (∀ k, k < 20 → hc.2 7 k = if c < k ∧ k ≤ f then h.2 7 (k - 1) else if f ≤ k ∧ k < t then h.2 7 (k + 1) else h.2 7 k) → z = iI c → SR y_Scene_shiftInOrder 47 [some (.ref 1), some (.int x), some (.int y), some (.int (h.2 7 f)), some (.int z)] [] hc Q := by
    intro m
    induction m with
    | zero =>
      intro c hc z h1 h2 h3 hs hr hz
      refine w_loop IS_ok [79] ok_Scene_shiftInOrder ?_
      exact w_le c t (fun _ => last c hc z hs h2 (by omega) h3 hr) (fun _ => by omega) hz hy
    | succ m ih =>
      intro c hc z h1 h2 h3 hs hr hz
      refine w_loop IS_ok [47, 79] ok_Scene_shiftInOrder ?_
      refine w_le c t (fun _ => last c hc z hs h2 (by omega) h3 hr) (fun g => ?_) hz hy
      refine c_Cells_get1 CA_6 (c - 1) (by omega) ?_ (iI_q hz (by omega))
      refine c_Cells_set2 CA_6 c (by omega) ?_ hz
      refine ih (c - 1) (wa hc 7 c (hc.2 7 (c - 1))) _ (by omega) (by omega) (by omega) (hs.t (Sm.wa _ _ (by decide))) (fun k hk => ?_) (iI_p hz (by omega))
      by_cases z1 : k = c
      · subst z1
        rw [wa_s, hr _ (by omega), if_neg (by omega), if_neg (by omega), if_pos (by omega)]
      · rw [wa_n _ _ _ _ z1, hr k hk]
        by_cases z2 : c < k ∧ k ≤ f
        · rw [if_pos z2, if_pos (by omega)]
        · rw [if_neg z2, if_neg (by omega), if_neg (by omega)]
  have loop1 : ∀ (m c : Nat) (hc : St) (z : Int32), t ≤ c + m → f ≤ c → (c ≤ t ∨ c = f) → Sm [] [7] h hc → (∀ k, k < 20 → hc.2 7 k = if f ≤ k ∧ k < c then h.2 7 (k + 1) else h.2 7 k) → z = iI c → SR y_Scene_shiftInOrder 12 [some (.ref 1), some (.int x), some (.int y), some (.int (h.2 7 f)), some (.int z)] [] hc Q := by
    have mid : ∀ (c : Nat) (hc : St) (z : Int32), f ≤ c → (c ≤ t ∨ c = f) → t ≤ c → Sm [] [7] h hc → (∀ k, k < 20 → hc.2 7 k = if f ≤ k ∧ k < c then h.2 7 (k + 1) else h.2 7 k) → SR y_Scene_shiftInOrder 44 [some (.ref 1), some (.int x), some (.int y), some (.int (h.2 7 f)), some (.int z)] [] hc Q := by
      intro c hc z h1 h2 h3 hs hr
      refine w_loop IS_ok [47] ok_Scene_shiftInOrder ?_
      refine loop2 20 f hc _ (by omega) (by omega) (by omega) hs (fun k hk => ?_) hx
      rw [hr k hk, if_neg (by omega : ¬ (f < k ∧ k ≤ f))]
      by_cases z2 : f ≤ k ∧ k < t
      · rw [if_pos z2, if_pos (by omega)]
      · rw [if_neg z2, if_neg (by omega)]
    intro m
    induction m with
    | zero =>
      intro c hc z h1 h2 h3 hs hr hz
      refine w_loop IS_ok [44] ok_Scene_shiftInOrder ?_
      exact w_le t c (fun _ => mid c hc z h2 h3 (by omega) hs hr) (fun _ => by omega) hy hz
    | succ m ih =>
      intro c hc z h1 h2 h3 hs hr hz
      refine w_loop IS_ok [12, 44] ok_Scene_shiftInOrder ?_
      refine w_le t c (fun _ => mid c hc z h2 h3 (by omega) hs hr) (fun g => ?_) hy hz
      refine c_Cells_get1 CA_6 (c + 1) (by omega) ?_ (iI_1 hz)
      refine c_Cells_set2 CA_6 c (by omega) ?_ hz
      refine ih (c + 1) (wa hc 7 c (hc.2 7 (c + 1))) _ (by omega) (by omega) (by omega) (hs.t (Sm.wa _ _ (by decide))) (fun k hk => ?_) (iI_1 hz)
      by_cases z1 : k = c
      · subst z1
        rw [wa_s, hr _ (by omega), if_neg (by omega), if_pos (by omega)]
      · rw [wa_n _ _ _ _ z1, hr k hk]
        by_cases z2 : f ≤ k ∧ k < c
        · rw [if_pos z2, if_pos (by omega)]
        · rw [if_neg z2, if_neg (by omega)]
  refine loop1 20 f h _ (by omega) (by omega) (by omega) Sm.rf (fun k hk => ?_) hx
  rw [if_neg (by omega)]

theorem c_Scene_firstLine_24 {S : Nat → Int} {x : Int32} {h : St} {Q : Option Value → St → Prop} (hC : CS 24 S h) (p : Nat) (hp : p < 20) (hy : -15 ≤ S (26 + 9 * p + 1) ∧ S (26 + 9 * p + 1) ≤ 47) (hQ : Q (some (.int (iI (fst S p)))) h) (hx : x = iI p) : SC y_Scene_firstLine [.ref 24, .int x] h Q := by
  refine w_call IS_ok [] ok_Scene_firstLine rfl rfl ?_
  refine c_Cells_get2 CA_27 p 1 (by omega) ?_ hx rfl
  exact c_J_max (S (26 + 9 * p + 1)) 0 hQ (hC.2.2.2.1 p hp 1 (by omega)) rfl
theorem c_Scene_lastLine_24 {S : Nat → Int} {x : Int32} {h : St} {Q : Option Value → St → Prop} (hC : CS 24 S h) (p : Nat) (hp : p < 20) (hp0 : (p : Int) < S 0) (hy : -15 ≤ S (26 + 9 * p + 1) ∧ S (26 + 9 * p + 1) ≤ 47) (hQ : Q (some (.int (iI (lst S p)))) h) (hx : x = iI p) : SC y_Scene_lastLine [.ref 24, .int x] h Q := by
  refine w_call IS_ok [] ok_Scene_lastLine rfl rfl ?_
  refine c_Cells_get2 CA_27 p 1 (by omega) ?_ hx rfl
  refine c_Cells_get2 CA_27 p 6 (by omega) ?_ hx rfl
  have hh := hgh_b S p
  refine c_J_min (S (26 + 9 * p + 1) + hgh S p) 48 ?_ ?_ rfl
  · unfold lst at hQ
    rw [← iI_sub] at hQ
    exact hQ
  · exact (congr (congrArg HAdd.hAdd (hC.2.2.2.1 p hp 1 (by omega))) (hC.2.2.2.2.1 p hp hp0)).trans (iI_add _ _)
theorem c_Scene_shiftInOrder_24 {x y : Int32} {h : St} {Q : Option Value → St → Prop} (f t : Nat) (hf : f < 20) (ht : t < 20) (hQ : ∀ h', Sm [] [30] h h' → (∀ k, k < 20 → h'.2 30 k = shf (h.2 30) f t k) → Q none h') (hx : x = iI f) (hy : y = iI t) : SC y_Scene_shiftInOrder [.ref 24, .int x, .int y] h Q := by
  refine w_call IS_ok [12] ok_Scene_shiftInOrder rfl rfl ?_
  refine c_Cells_get1 CA_29 f hf ?_ hx
  have last : ∀ (c : Nat) (hc : St) (z : Int32), Sm [] [30] h hc → c ≤ f → c ≤ t → (t ≤ c ∨ c = f) → (∀ k, k < 20 → hc.2 30 k = if c < k ∧ k ≤ f then h.2 30 (k - 1) else if f ≤ k ∧ k < t then h.2 30 (k + 1) else h.2 30 k) → SR y_Scene_shiftInOrder 79 [some (.ref 24), some (.int x), some (.int y), some (.int (h.2 30 f)), some (.int z)] [] hc Q := by
    intro c hc z hs h1 h2 h3 hr
    refine w_loop IS_ok [] ok_Scene_shiftInOrder ?_
    refine c_Cells_set2 CA_29 t ht ?_ hy
    refine hQ _ (hs.t (Sm.wa _ _ (by decide))) (fun k hk => ?_)
    unfold shf
    by_cases z1 : k = t
    · rw [z1, wa_s, if_pos rfl]
    · rw [wa_n _ _ _ _ z1, if_neg z1, hr k hk]
      by_cases z2 : f ≤ k ∧ k < t
      · rw [if_neg (by omega), if_pos z2, if_pos z2]
      · rw [if_neg z2, if_neg z2]
        by_cases z3 : t < k ∧ k ≤ f
        · rw [if_pos (by omega), if_pos z3]
        · rw [if_neg (by omega), if_neg z3]
  have loop2 : ∀ (m c : Nat) (hc : St) (z : Int32), c ≤ t + m → c ≤ f → (t ≤ c ∨ c = f) → Sm [] [30] h hc → (∀ k, k < 20 → hc.2 30 k = if c < k ∧ k ≤ f then h.2 30 (k - 1) else if f ≤ k ∧ k < t then h.2 30 (k + 1) else h.2 30 k) → z = iI c → SR y_Scene_shiftInOrder 47 [some (.ref 24), some (.int x), some (.int y), some (.int (h.2 30 f)), some (.int z)] [] hc Q := by
    intro m
    induction m with
    | zero =>
      intro c hc z h1 h2 h3 hs hr hz
      refine w_loop IS_ok [79] ok_Scene_shiftInOrder ?_
      exact w_le c t (fun _ => last c hc z hs h2 (by omega) h3 hr) (fun _ => by omega) hz hy
    | succ m ih =>
      intro c hc z h1 h2 h3 hs hr hz
      refine w_loop IS_ok [47, 79] ok_Scene_shiftInOrder ?_
      refine w_le c t (fun _ => last c hc z hs h2 (by omega) h3 hr) (fun g => ?_) hz hy
      refine c_Cells_get1 CA_29 (c - 1) (by omega) ?_ (iI_q hz (by omega))
      refine c_Cells_set2 CA_29 c (by omega) ?_ hz
      refine ih (c - 1) (wa hc 30 c (hc.2 30 (c - 1))) _ (by omega) (by omega) (by omega) (hs.t (Sm.wa _ _ (by decide))) (fun k hk => ?_) (iI_p hz (by omega))
      by_cases z1 : k = c
      · subst z1
        rw [wa_s, hr _ (by omega), if_neg (by omega), if_neg (by omega), if_pos (by omega)]
      · rw [wa_n _ _ _ _ z1, hr k hk]
        by_cases z2 : c < k ∧ k ≤ f
        · rw [if_pos z2, if_pos (by omega)]
        · rw [if_neg z2, if_neg (by omega), if_neg (by omega)]
  have loop1 : ∀ (m c : Nat) (hc : St) (z : Int32), t ≤ c + m → f ≤ c → (c ≤ t ∨ c = f) → Sm [] [30] h hc → (∀ k, k < 20 → hc.2 30 k = if f ≤ k ∧ k < c then h.2 30 (k + 1) else h.2 30 k) → z = iI c → SR y_Scene_shiftInOrder 12 [some (.ref 24), some (.int x), some (.int y), some (.int (h.2 30 f)), some (.int z)] [] hc Q := by
    have mid : ∀ (c : Nat) (hc : St) (z : Int32), f ≤ c → (c ≤ t ∨ c = f) → t ≤ c → Sm [] [30] h hc → (∀ k, k < 20 → hc.2 30 k = if f ≤ k ∧ k < c then h.2 30 (k + 1) else h.2 30 k) → SR y_Scene_shiftInOrder 44 [some (.ref 24), some (.int x), some (.int y), some (.int (h.2 30 f)), some (.int z)] [] hc Q := by
      intro c hc z h1 h2 h3 hs hr
      refine w_loop IS_ok [47] ok_Scene_shiftInOrder ?_
      refine loop2 20 f hc _ (by omega) (by omega) (by omega) hs (fun k hk => ?_) hx
      rw [hr k hk, if_neg (by omega : ¬ (f < k ∧ k ≤ f))]
      by_cases z2 : f ≤ k ∧ k < t
      · rw [if_pos z2, if_pos (by omega)]
      · rw [if_neg z2, if_neg (by omega)]
    intro m
    induction m with
    | zero =>
      intro c hc z h1 h2 h3 hs hr hz
      refine w_loop IS_ok [44] ok_Scene_shiftInOrder ?_
      exact w_le t c (fun _ => mid c hc z h2 h3 (by omega) hs hr) (fun _ => by omega) hy hz
    | succ m ih =>
      intro c hc z h1 h2 h3 hs hr hz
      refine w_loop IS_ok [12, 44] ok_Scene_shiftInOrder ?_
      refine w_le t c (fun _ => mid c hc z h2 h3 (by omega) hs hr) (fun g => ?_) hy hz
      refine c_Cells_get1 CA_29 (c + 1) (by omega) ?_ (iI_1 hz)
      refine c_Cells_set2 CA_29 c (by omega) ?_ hz
      refine ih (c + 1) (wa hc 30 c (hc.2 30 (c + 1))) _ (by omega) (by omega) (by omega) (hs.t (Sm.wa _ _ (by decide))) (fun k hk => ?_) (iI_1 hz)
      by_cases z1 : k = c
      · subst z1
        rw [wa_s, hr _ (by omega), if_neg (by omega), if_pos (by omega)]
      · rw [wa_n _ _ _ _ z1, hr k hk]
        by_cases z2 : f ≤ k ∧ k < c
        · rw [if_pos z2, if_pos (by omega)]
        · rw [if_neg z2, if_neg (by omega)]
  refine loop1 20 f h _ (by omega) (by omega) (by omega) Sm.rf (fun k hk => ?_) hx
  rw [if_neg (by omega)]
