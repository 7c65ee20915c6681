/-! answers are functions of the state -/
theorem HerR_u {S : Nat → Int} {n : Nat} {r r' : Int} (a : HerR S n r) (b : HerR S n r') : r = r' := by
  rcases a with ⟨a1, a2⟩ | ⟨k, a1, a2, a3⟩ <;> rcases b with ⟨b1, b2⟩ | ⟨k', b1, b2, b3⟩
  · omega
  · omega
  · omega
  · have := a3 k' b1
    have := b3 k a1
    omega
theorem FirR_u {S : Nat → Int} (hW : WF S) {x y but r r' : Int} (a : FirR S x y but r) (b : FirR S x y but r') : r = r' := by
  rcases a with ⟨k, a1, a2, a3, a4, a5, a6⟩ | ⟨a1, a2⟩ <;> rcases b with ⟨k', b1, b2, b3, b4, b5, b6⟩ | ⟨b1, b2⟩
  · have : k = k' := by
      rcases Nat.lt_trichotomy k k' with h | h | h
      · exact absurd a4 (b5 k h a2 a3)
      · exact h
      · exact absurd b4 (a5 k' h b2 b3)
    rw [a6, b6, this]
  · exact absurd a4 (b2 k a1 a2 a3)
  · exact absurd b4 (a2 k' b1 b2 b3)
  · omega
theorem ColR_u {S : Nat → Int} (hW : WF S) {x y r r' : Int} (a : ColR S x y r) (b : ColR S x y r') : r = r' := by
  obtain ⟨q, a1, a2⟩ := a
  obtain ⟨q', b1, b2⟩ := b
  rw [a2, b2, FirR_u hW a1 b1]
theorem ShoR_u {S : Nat → Int} {y i r r' : Int} (a : ShoR S y i r) (b : ShoR S y i r') : r = r' := by
  rcases a with ⟨k, a1, a2, a3, a4⟩ | ⟨a1, a2⟩ <;> rcases b with ⟨k', b1, b2, b3, b4⟩ | ⟨b1, b2⟩
  · have : k = k' := cn_inj a2.1 b2.1 (by omega)
    rw [a4, b4, this]
  · exact absurd a3 (b2 k a1 a2)
  · exact absurd b3 (a2 k' b1 b2)
  · omega
theorem FaiR_u {f : Nat} {G : Nat → Int} {w r r' : Int} (a : FaiR f G w r) (b : FaiR f G w r') : r = r' := by
  unfold FaiR at a b
  omega
theorem CntR_u {S : Nat → Int} {n N : Nat} {w r r' : Int} (a : CntR S n N w r) (b : CntR S n N w r') : r = r' := by
  unfold CntR at a b
  by_cases h : w = 8
  · have a8 : HerR S (S 1).toNat r := by
      rcases a with a | a | a | a | a | a | a | a | a | a | a | a
      all_goals first | exact a.2 | omega
    have b8 : HerR S (S 1).toNat r' := by
      rcases b with a | a | a | a | a | a | a | a | a | a | a | a
      all_goals first | exact a.2 | omega
    exact HerR_u a8 b8
  · rcases a with a | a | a | a | a | a | a | a | a | a | a | a <;> rcases b with b | b | b | b | b | b | b | b | b | b | b | b <;> omega
theorem PupR_u {S : Nat → Int} {p w r r' : Int} (a : PupR S p w r) (b : PupR S p w r') : r = r' := by
  unfold PupR at a b
  rcases a with ⟨a1, a2⟩ | ⟨a1, a2⟩ <;> rcases b with ⟨b1, b2⟩ | ⟨b1, b2⟩
  · omega
  · exact absurd b1 a1
  · exact absurd a1 b1
  · rcases a2 with a | a | a | a | a <;> rcases b2 with b | b | b | b | b <;> omega
theorem LinR_u {S : Nat → Int} {y w r r' : Int} (a : LinR S y w r) (b : LinR S y w r') : r = r' := by
  unfold LinR at a b
  rcases a with ⟨a1, a2⟩ | ⟨a1, a2⟩ <;> rcases b with ⟨b1, b2⟩ | ⟨b1, b2⟩
  · omega
  · exact absurd b1 a1
  · exact absurd a1 b1
  · rcases a2 with a | a | a <;> rcases b2 with b | b | b <;> omega
theorem ShnR_u {S : Nat → Int} {y i r r' : Int} (a : ShnR S y i r) (b : ShnR S y i r') : r = r' := by
  unfold ShnR at a b
  rcases a with ⟨a1, a2⟩ | ⟨a1, a2⟩ <;> rcases b with ⟨b1, b2⟩ | ⟨b1, b2⟩
  · omega
  · exact absurd b1 a1
  · exact absurd a1 b1
  · exact ShoR_u a2 b2
theorem DotR_u {S : Nat → Int} (hW : WF S) {x y r r' : Int} (a : DotR S x y r) (b : DotR S x y r') : r = r' := by
  unfold DotR at a b
  rcases a with ⟨a1, a2⟩ | ⟨a1, a2⟩ <;> rcases b with ⟨b1, b2⟩ | ⟨b1, b2⟩
  · omega
  · exact absurd b1 a1
  · exact absurd a1 b1
  · exact ColR_u hW a2 b2
theorem ClaR_u {S : Nat → Int} (hW : WF S) {w r r' : Int} (a : ClaR S w r) (b : ClaR S w r') : r = r' := by
  unfold ClaR at a b
  rcases a with ⟨a1, a2⟩ | ⟨a1, hr, a2, a3⟩ <;> rcases b with ⟨b1, b2⟩ | ⟨b1, hr', b2, b3⟩
  · omega
  · exact absurd b1 a1
  · exact absurd a1 b1
  · have e := HerR_u a2 b2
    subst e
    rcases a3 with a | ⟨a4, a5, a6⟩ | ⟨a4, p, a5, a6, a7, a8⟩ <;> rcases b3 with b | ⟨b4, b5, b6⟩ | ⟨b4, p', b5, b6, b7, b8⟩
    · omega
    · omega
    · omega
    · omega
    · omega
    · exact absurd b6 (a6 p' b5)
    · omega
    · exact absurd a6 (b6 p a5)
    · have e : p = p' := by
        rcases Nat.lt_trichotomy p p' with h | h | h
        · exact absurd a6 (b7 p h)
        · exact h
        · exact absurd b6 (a7 p' h)
      subst e
      rcases a8 with a | a | a <;> rcases b8 with b | b | b
      · omega
      · omega
      · omega
      · omega
      · omega
      · omega
      · omega
      · omega
      · exact FirR_u hW a.2 b.2
theorem WrsR_u {S : Nat → Int} {r m r' m' : Int} (a : WrsR S 48 r m) (b : WrsR S 48 r' m') : r = r' := by
  rcases a with ⟨a1, a2, a3⟩ | ⟨y, a1, a2, a3, a4, a5, a6⟩ <;> rcases b with ⟨b1, b2, b3⟩ | ⟨y', b1, b2, b3, b4, b5, b6⟩
  · omega
  · have := a3 y' b1; omega
  · have := b3 y a1; omega
  · rcases Nat.lt_trichotomy y y' with h | h | h
    · have := b6 y h
      have := a5 y' b1
      omega
    · omega
    · have := a6 y' h
      have := b5 y a1
      omega
theorem HinR_u {S : Nat → Int} {p f r r' : Int} (a : HinR S p f r) (b : HinR S p f r') : r = r' := by
  unfold HinR at a b
  rcases a with ⟨a1, a2⟩ | ⟨a1, a2⟩ <;> rcases b with ⟨b1, b2⟩ | ⟨b1, b2⟩
  · omega
  · exact absurd b1 a1
  · exact absurd a1 b1
  · omega
theorem AllR_u {S : Nat → Int} {r r' : Int} (a : AllR S r) (b : AllR S r') : r = r' := by
  rcases a with ⟨t, a1, a2, a3, a4⟩ | ⟨a1, a2⟩ <;> rcases b with ⟨t', b1, b2, b3, b4⟩ | ⟨b1, b2⟩
  · rcases Nat.lt_trichotomy t t' with h | h | h
    · exact absurd a3 (b4 t h)
    · omega
    · exact absurd b3 (a4 t' h)
  · exact absurd a3 (b2 t a1)
  · exact absurd b3 (a2 t' b1)
  · omega
theorem BstR_u {S : Nat → Int} {w r r' : Int} (a : BstR S w r) (b : BstR S w r') : r = r' := by
  unfold BstR at a b
  omega
