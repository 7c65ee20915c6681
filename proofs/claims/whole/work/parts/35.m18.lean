/-! a play, item by item -/
/-- an item: a fault (its place), an act (the place behind it, its numbers), what opens a group (the place of the bracket, the times), what closes one -/
abbrev Itm : Type := Nat ⊕ ((Nat × (Nat → Int)) ⊕ ((Nat × Nat) ⊕ Unit))
abbrev iBad (f : Nat) : Itm := .inl f
abbrev iAct (p : Nat) (a : Nat → Int) : Itm := .inr (.inl (p, a))
abbrev iOpn (q t : Nat) : Itm := .inr (.inr (.inl (q, t)))
abbrev iCls : Itm := .inr (.inr (.inr ()))
/-- an act: its place, its depth, its numbers -/
abbrev Ent : Type := Nat × Nat × (Nat → Int)
abbrev Cod : Type := Ent ⊕ (Nat ⊕ Nat)
abbrev cAct (e : Ent) : Cod := .inl e
abbrev cOpn (t : Nat) : Cod := .inr (.inl t)
abbrev cCls (o : Nat) : Cod := .inr (.inr o)
/-- what opens a group at i: where its bracket ought to stand, and how often it is run -/
def gq (ch : Nat → Nat) (i : Nat) : Nat := if isDb (ch i) = true then i + nd ch i else i
def gt (ch : Nat → Nat) (i : Nat) : Nat := if isDb (ch i) = true then nv ch i else 1
def grp (ch : Nat → Nat) (d i : Nat) : Itm :=
  if isDb (ch i) = true ∧ isDb (ch (gq ch i)) = true then iBad (gq ch i)
  else if isDb (ch i) = true ∧ ¬ (1 ≤ gt ch i ∧ gt ch i ≤ 9) then iBad i
  else if ch (gq ch i) ≠ 40 ∨ d = 4 then iBad (gq ch i)
  else iOpn (gq ch i) (gt ch i)
def item (ch : Nat → Nat) (d i : Nat) : Itm :=
  if ch i = 41 ∧ 0 < d then iCls
  else if ch i = 40 ∨ isDb (ch i) = true then grp ch d i
  else if nArg (ch i) = 99 then iBad i
  else match rdA ch (ch i) (nArg (ch i)) 0 (i + 1) (fun _ => 0) with
    | .inl f => iBad f
    | .inr (p, a) => iAct p a
def CdR (T : Nat → Nat) (h : St) (j : Nat) : Cod → Prop
  | .inl e => h.2 99 j = 0 ∧ h.2 100 j = iI e.1 ∧ h.2 101 j = iI e.2.1 ∧ (0 < nArg (T e.1) → h.2 102 j = iI (e.2.2 0)) ∧ (1 < nArg (T e.1) → h.2 103 j = iI (e.2.2 1)) ∧ (2 < nArg (T e.1) → h.2 104 j = iI (e.2.2 2))
  | .inr (.inl t) => h.2 99 j = 1 ∧ h.2 102 j = iI t
  | .inr (.inr o) => h.2 99 j = 2 ∧ h.2 102 j = iI o
def Kp (c : Nat) (h h' : St) : Prop := ∀ a, 99 ≤ a → a ≤ 104 → ∀ j, j ≠ c → h'.2 a j = h.2 a j
theorem kp_of {c : Nat} {h h' : St} {x0 x1 x2 x3 x4 x5 : Int32} (e0 : h'.2 99 = u1 (h.2 99) c x0) (e1 : h'.2 100 = u1 (h.2 100) c x1) (e2 : h'.2 101 = u1 (h.2 101) c x2) (e3 : h'.2 102 = u1 (h.2 102) c x3) (e4 : h'.2 103 = u1 (h.2 103) c x4) (e5 : h'.2 104 = u1 (h.2 104) c x5) : Kp c h h' := by
  intro a h1 h2 j hj
  rcases (show a = 99 ∨ a = 100 ∨ a = 101 ∨ a = 102 ∨ a = 103 ∨ a = 104 by omega) with rfl | rfl | rfl | rfl | rfl | rfl
  · rw [e0, u1_n _ _ hj]
  · rw [e1, u1_n _ _ hj]
  · rw [e2, u1_n _ _ hj]
  · rw [e3, u1_n _ _ hj]
  · rw [e4, u1_n _ _ hj]
  · rw [e5, u1_n _ _ hj]
set_option maxHeartbeats 4000000 in
theorem c_M_readGroup {n : Nat} {T : Nat → Nat} {h : St} {Q : Option Value → St → Prop} (hB : TxB n T) (i d c : Nat) (hR : RdS n T i d c h) (hi : i < n) (hc : c < 100) (hd : d ≤ 4)
    (hQF : ∀ f h', grp (chr n T) d i = iBad f → SmR h h' → Flt f d h' → Q none h')
    (hQ1 : ∀ q t h', grp (chr n T) d i = iOpn q t → d < 4 → SmR h h' → RdS n T (q + 1) (d + 1) (c + 1) h' → Kp c h h' → CdR T h' c (cOpn t) → h'.2 105 = u1 (h.2 105) d (iI c) → Q none h') : SC y_M_readGroup [.ref 90] h Q := by
  refine w_call IS_ok [49] ok_M_readGroup rfl rfl ?_
  have hn100 := hB.1
  obtain ⟨hT, h23, h24, h17, h25⟩ := id hR
  -- behind a fault
  have dead : ∀ (f p : Nat) (hcc : St) (L1 L2 : Option Value), grp (chr n T) d i = iBad f → SmR h hcc → MTx n T hcc → hcc.1 90 23 = iI p → p < 400 → Flt f d hcc → SR y_M_readGroup 49 [some (.ref 90), L1, L2] [] hcc Q := by
    sorry
  sorry
