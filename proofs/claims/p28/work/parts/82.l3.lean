/-! the law's end: refused calls -/
def QL : Option Value → St → Prop := fun r _ => r = some (.int 1)
abbrev LR (pc : Nat) (L : List (Option Value)) (st : List Value) (B : Nat × Nat) (h : St) : Prop := e_RunI IS y_L_law pc L st B h QL
section
variable {S : Nat → Int} {n : Nat} {H : Nat → Nat → Int} {N : Nat} {T : Nat → Nat} {f : Nat} {G : Nat → Int} {h : St}
set_option maxRecDepth 100000 in
set_option maxHeartbeats 4000000 in
theorem l_end {L2 L3 L4 L5 L6 L7 L9 L10 L11 L12 L13 : Option Value} {z8 : Int32} {B : Nat × Nat} (hI : CI S n H N T f G h) (hW : WF S) (hn : n ≤ 5) : LR 681 [some (.float 0), some (.ref 0), L2, L3, L4, L5, L6, L7, some (.int z8), L9, L10, L11, L12, L13] [] B h := by
  refine w_loop IS_ok [] ok_L_law ?_
  refine c_L_digest hI hW (fun h1 f1 => ?_)
  have I1 := hI.lk f1
  refine c_P_setRow I1 hW hn 8 0 0 (fun _ h2 f2 I2 => ?_) (fun g => absurd g (by omega)) rfl rfl rfl (by omega) (by omega) (by omega)
  refine c_P_come I2 hW hn 64 0 0 0 1 (fun _ h3 f3 I3 => ?_) (fun g => absurd g (by omega)) (fun g => absurd g (by omega)) rfl rfl rfl rfl rfl (by omega) (by omega) (by omega) (by omega) (by omega)
  refine c_P_setLimit I3 hW hn 9 (fun _ h4 f4 I4 => ?_) (fun g => absurd g (by omega)) rfl (by omega)
  refine c_P_setRule I4 hW hn 3 1 (fun _ h5 f5 I5 => ?_) (fun g => absurd g (by omega)) rfl rfl (by omega) (by omega)
  refine c_P_dot I5 hW 64 0 (fun h6 r6 f6 hr6 => ?_) rfl rfl (by omega) (by omega)
  have e6 : r6 = -101 := by
    rcases hr6 with ⟨-, e⟩ | ⟨g, -⟩
    · exact e
    · exact absurd g (by omega)
  refine w_eq r6 (-101) (fun _ => ?_) (fun g => absurd e6 g) rfl rfl
  have I6 := I5.lk f6
  refine c_P_line I6 hW 48 0 (fun h7 r7 f7 hr7 => ?_) rfl rfl (by omega) (by omega)
  have e7 : r7 = -101 := by
    rcases hr7 with ⟨-, e⟩ | ⟨g, -⟩
    · exact e
    · exact absurd g (by omega)
  refine w_eq r7 (-101) (fun _ => ?_) (fun g => absurd e7 g) rfl rfl
  have I7 := I6.lk f7
  refine c_P_clash I7 hW 4 (fun h8 r8 f8 hr8 => ?_) rfl (by omega)
  have e8 : r8 = -101 := by
    rcases hr8 with ⟨-, e⟩ | ⟨g, -⟩
    · exact e
    · exact absurd g (by omega)
  refine w_eq r8 (-101) (fun _ => ?_) (fun g => absurd e8 g) rfl rfl
  have I8 := I7.lk f8
  refine c_P_bestStep I8 hW 2 (fun h9 r9 f9 hr9 => ?_) rfl (by omega)
  have e9 : r9 = -101 := by
    rcases hr9 with ⟨-, e⟩ | ⟨g, -⟩ | ⟨g, -⟩
    · exact e
    · exact absurd g (by omega)
    · exact absurd g (by omega)
  refine w_eq r9 (-101) (fun _ => ?_) (fun g => absurd e9 g) rfl rfl
  have I9 := I8.lk f9
  refine c_L_digest I9 hW (fun h10 f10 => ?_)
  refine w_t (lg_self _) ?_
  exact ⟨Or.inr rfl, rfl⟩
end
