/-! reading an act -/
/-- how many numbers stand behind a letter; 99 behind what is none -/
def nArg (c : Nat) : Nat := if c = 102 then 0 else if c = 109 then 3 else if c = 116 then 2 else if c = 117 ∨ c = 100 ∨ c = 108 then 1 else 99
theorem c_M_numbersOf {x1 : Int32} {h : St} {Q : Option Value → St → Prop} (c : Int) (hc : -1 ≤ c ∧ c ≤ 255) (hQ : Q (some (.int (iI (if nArg c.toNat = 99 then -109 else (nArg c.toNat : Int))))) h) (h1 : x1 = iI c) : SC y_M_numbersOf [.int x1] h Q := by
  refine w_call IS_ok [] ok_M_numbersOf rfl rfl ?_
  have nx : ∀ v : Int, c = v → ∀ r : Int, (if nArg v.toNat = 99 then -109 else (nArg v.toNat : Int)) = r → Q (some (.int (iI r))) h := fun v hv r hr => by rw [hv, hr] at hQ; exact hQ
  refine w_eq c 100 (fun g => nx 100 g 1 rfl) (fun g0 => ?_) h1 rfl
  refine w_eq c 101 (fun g => nx 101 g (-109) rfl) (fun g1 => ?_) h1 rfl
  refine w_eq c 102 (fun g => nx 102 g 0 rfl) (fun g2 => ?_) h1 rfl
  refine w_eq c 103 (fun g => nx 103 g (-109) rfl) (fun g3 => ?_) h1 rfl
  refine w_eq c 104 (fun g => nx 104 g (-109) rfl) (fun g4 => ?_) h1 rfl
  refine w_eq c 105 (fun g => nx 105 g (-109) rfl) (fun g5 => ?_) h1 rfl
  refine w_eq c 106 (fun g => nx 106 g (-109) rfl) (fun g6 => ?_) h1 rfl
  refine w_eq c 107 (fun g => nx 107 g (-109) rfl) (fun g7 => ?_) h1 rfl
  refine w_eq c 108 (fun g => nx 108 g 1 rfl) (fun g8 => ?_) h1 rfl
  refine w_eq c 109 (fun g => nx 109 g 3 rfl) (fun g9 => ?_) h1 rfl
  refine w_eq c 110 (fun g => nx 110 g (-109) rfl) (fun g10 => ?_) h1 rfl
  refine w_eq c 111 (fun g => nx 111 g (-109) rfl) (fun g11 => ?_) h1 rfl
  refine w_eq c 112 (fun g => nx 112 g (-109) rfl) (fun g12 => ?_) h1 rfl
  refine w_eq c 113 (fun g => nx 113 g (-109) rfl) (fun g13 => ?_) h1 rfl
  refine w_eq c 114 (fun g => nx 114 g (-109) rfl) (fun g14 => ?_) h1 rfl
  refine w_eq c 115 (fun g => nx 115 g (-109) rfl) (fun g15 => ?_) h1 rfl
  refine w_eq c 116 (fun g => nx 116 g 2 rfl) (fun g16 => ?_) h1 rfl
  refine w_eq c 117 (fun g => nx 117 g 1 rfl) (fun g17 => ?_) h1 rfl
  have : nArg c.toNat = 99 := by
    unfold nArg
    rw [if_neg (by omega), if_neg (by omega), if_neg (by omega), if_neg (by omega)]
  rw [this] at hQ
  exact hQ
/-- one item is noted -/
theorem c_M_code {x1 x2 x3 x4 x5 : Int32} {h : St} {Q : Option Value → St → Prop} (c : Nat) (hc : c < 100) (h17 : h.1 90 17 = iI c) (hQ : ∀ h', Sm [(90, 17)] [99, 100, 101, 102, 103, 104] h h' → h'.1 90 17 = iI (c + 1 : Nat) → h'.2 99 = u1 (h.2 99) c x1 → h'.2 100 = u1 (h.2 100) c x2 → h'.2 101 = u1 (h.2 101) c (h.1 90 24 + 1) → h'.2 102 = u1 (h.2 102) c x3 → h'.2 103 = u1 (h.2 103) c x4 → h'.2 104 = u1 (h.2 104) c x5 → Q none h') : SC y_M_code [.ref 90, .int x1, .int x2, .int x3, .int x4, .int x5] h Q := by
  refine w_call IS_ok [] ok_M_code rfl rfl ?_
  refine w_ix c ?_ h17 (show c < 100 from hc)
  refine w_ix c ?_ h17 (show c < 100 from hc)
  refine w_ix c ?_ h17 (show c < 100 from hc)
  refine w_ix c ?_ h17 (show c < 100 from hc)
  refine w_ix c ?_ h17 (show c < 100 from hc)
  refine w_ix c ?_ h17 (show c < 100 from hc)
  have o : ∀ {g : St} {a b j : Nat} {x : Int32}, b ≠ a → (wa g a j x).2 b = g.2 b := fun hb => wa_o _ _ _ _ hb
  have s : ∀ {g : St} {a j : Nat} {x : Int32}, (wa g a j x).2 a = u1 (g.2 a) j x := fun {g a j x} => by show u1 g.2 a (u1 (g.2 a) j x) a = _; rw [u1_s]
  refine hQ (pf (wa (wa (wa (wa (wa (wa h 99 c x1) 100 c x2) 101 c (h.1 90 24 + 1)) 102 c x3) 103 c x4) 104 c x5) 17 (h.1 90 17 + 1)) ?_ ?_ ?_ ?_ ?_ ?_ ?_ ?_
  · exact ((((((Sm.wa _ _ (by decide)).t (Sm.wa _ _ (by decide))).t (Sm.wa _ _ (by decide))).t (Sm.wa _ _ (by decide))).t (Sm.wa _ _ (by decide))).t (Sm.wa _ _ (by decide))).t (Sm.pf _ (by decide))
  · rw [pf_s, h17]; exact iI_1 rfl
  · show (wa (wa (wa (wa (wa (wa h 99 c x1) 100 c x2) 101 c (h.1 90 24 + 1)) 102 c x3) 103 c x4) 104 c x5).2 99 = _
    rw [o (by decide), o (by decide), o (by decide), o (by decide), o (by decide), s]
  · show (wa (wa (wa (wa (wa (wa h 99 c x1) 100 c x2) 101 c (h.1 90 24 + 1)) 102 c x3) 103 c x4) 104 c x5).2 100 = _
    rw [o (by decide), o (by decide), o (by decide), o (by decide), s, o (by decide)]
  · show (wa (wa (wa (wa (wa (wa h 99 c x1) 100 c x2) 101 c (h.1 90 24 + 1)) 102 c x3) 103 c x4) 104 c x5).2 101 = _
    rw [o (by decide), o (by decide), o (by decide), s, o (by decide), o (by decide)]
  · show (wa (wa (wa (wa (wa (wa h 99 c x1) 100 c x2) 101 c (h.1 90 24 + 1)) 102 c x3) 103 c x4) 104 c x5).2 102 = _
    rw [o (by decide), o (by decide), s, o (by decide), o (by decide), o (by decide)]
  · show (wa (wa (wa (wa (wa (wa h 99 c x1) 100 c x2) 101 c (h.1 90 24 + 1)) 102 c x3) 103 c x4) 104 c x5).2 103 = _
    rw [o (by decide), s, o (by decide), o (by decide), o (by decide), o (by decide)]
  · show (wa (wa (wa (wa (wa (wa h 99 c x1) 100 c x2) 101 c (h.1 90 24 + 1)) 102 c x3) 103 c x4) 104 c x5).2 104 = _
    rw [s, o (by decide), o (by decide), o (by decide), o (by decide), o (by decide)]
/-- the numbers of an act are read: r still, behind the k-th, from the place p on -/
def rdA (ch : Nat → Nat) (lt : Nat) : Nat → Nat → Nat → (Nat → Int) → Nat ⊕ (Nat × (Nat → Int))
  | 0, _, p, a => if ch p = 59 then .inr (p + 1, a) else .inl p
  | r + 1, k, p, a =>
    if 0 < k ∧ ch p ≠ 44 then .inl p
    else if nd ch ((if 0 < k then p + 1 else p) + (if lt = 109 ∧ 0 < k ∧ ch (if 0 < k then p + 1 else p) = 45 then 1 else 0)) = 0 then .inl ((if 0 < k then p + 1 else p) + (if lt = 109 ∧ 0 < k ∧ ch (if 0 < k then p + 1 else p) = 45 then 1 else 0))
    else rdA ch lt r (k + 1) ((if 0 < k then p + 1 else p) + (if lt = 109 ∧ 0 < k ∧ ch (if 0 < k then p + 1 else p) = 45 then 1 else 0) + nd ch ((if 0 < k then p + 1 else p) + (if lt = 109 ∧ 0 < k ∧ ch (if 0 < k then p + 1 else p) = 45 then 1 else 0)))
      (u1 a k (if lt = 109 ∧ 0 < k ∧ ch (if 0 < k then p + 1 else p) = 45 then -(nv ch ((if 0 < k then p + 1 else p) + (if lt = 109 ∧ 0 < k ∧ ch (if 0 < k then p + 1 else p) = 45 then 1 else 0)) : Int) else (nv ch ((if 0 < k then p + 1 else p) + (if lt = 109 ∧ 0 < k ∧ ch (if 0 < k then p + 1 else p) = 45 then 1 else 0)) : Int)))
theorem RdS.sm {n : Nat} {T : Nat → Nat} {i d c : Nat} {h h' : St} {Y : List Nat} (hR : RdS n T i d c h) (a : Sm [] Y h h') (hy : 94 ∉ Y) : RdS n T i d c h' := ⟨hR.1.sm a (by decide) hy, by rw [a.1 _ _ (by decide)]; exact hR.2.1, by rw [a.1 _ _ (by decide)]; exact hR.2.2.1, by rw [a.1 _ _ (by decide)]; exact hR.2.2.2.1, by rw [a.1 _ _ (by decide)]; exact hR.2.2.2.2⟩
theorem RdS.nx {n : Nat} {T : Nat → Nat} {i d c : Nat} {h : St} (hR : RdS n T i d c h) {x : Int32} {j : Nat} (hx : x = iI j) : RdS n T j d c (pf h 23 x) :=
  ⟨hR.1.sm (Sm.pf (X := [(90, 23)]) (Y := []) _ (by decide)) (by decide) (by decide), by rw [pf_s]; exact hx, by rw [pf_n _ _ _ (by decide)]; exact hR.2.2.1, by rw [pf_n _ _ _ (by decide)]; exact hR.2.2.2.1, by rw [pf_n _ _ _ (by decide)]; exact hR.2.2.2.2⟩
