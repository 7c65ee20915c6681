/-! the law: one puppet, its dots read into a row -/
theorem or_z (w : Nat) : nI w ||| 0 = nI w := by
  have := fa_or w 0
  rw [Nat.or_zero] at this
  exact this
section
variable {S : Nat → Int} {n : Nat} {H : Nat → Nat → Int} {N : Nat} {T : Nat → Nat} {f : Nat} {G : Nat → Int} {h : St}
set_option maxRecDepth 100000 in
set_option maxHeartbeats 8000000 in
/-- from the reading loop on -/
theorem l_rows {p : Nat} {v z8 : Int32} {B : Nat × Nat} {L3 L4 L6 L7 : Option Value} (hW : WF S) (hn : n ≤ 5) (hp20 : p < 20) (g : thr S (p : Int)) (hp : SP S p) (hV : S (26 + 9 * p + 5) = 0) : ∀ (m y : Nat) (hc : St) (z12 : Int32) (L13 : Option Value), y + m = hghN S p → CI S n H N T f G hc → hc.1 90 0 = 1 → (∀ q, q < y → hc.2 90 q = nI (RB S p q 8)) → (∀ q, y ≤ q → hc.2 90 q = 0) → z12 = iI (y : Nat) → LR 549 [some (.float 0), some (.ref 0), some (.int v), L3, L4, some (.int (iI (p : Nat))), L6, L7, some (.int z8), some (.int (iI (hghN S p : Nat))), some (.ref 90), some (.int (iI (S (26 + 9 * p + 4)))), some (.int z12), L13] [] B hc := by
  have hb := hghN_b S p
  have hcol := (hW.wp p hp20).2.2.2.2.1
  have h1 := hp.2.2.2.2.2
  have hpb := thr_b hW g
  intro m
  induction m with
  | zero =>
    intro y hc z12 L13 hm hI hfl hrow hrest e12
    refine w_loop IS_ok [549, 624] ok_L_law ?_
    refine w_le (hghN S p : Nat) y (fun _ => ?_) (fun _ => by omega) rfl e12
    refine c_P_turn hI hW hn (p : Nat) 3 (fun z => absurd ⟨g, by omega⟩ z) (fun _ h2 f2 I2 => ?_) rfl rfl (by omega) (by omega)
    have eh : hghN (u1 S (26 + 9 * p + 5) 3) p = hghN S p := by unfold hghN; rw [u1_n _ _ (by omega)]
    obtain ⟨p1, p2, p3, p4, p5, p6⟩ := hp
    refine l_back (S := u1 S (26 + 9 * p + 5) 3) (hW.tu (by omega) (by omega)) (psN_le hn) hp20 ⟨?_, ?_, ?_, ?_, ?_, ?_⟩ S rfl hV (hghN S p) 0 h2 _ (by omega) I2 (by rw [f2.1 90 (by omega)]; exact hfl) (fun q hq => by rw [f2.2 90 (by omega)]; exact hrow q (by omega)) rfl
    · rw [u1_n _ _ (by omega)]; exact p1
    · rw [u1_n _ _ (by omega)]; exact p2
    · rw [u1_n _ _ (by omega)]; exact p3
    · rw [u1_n _ _ (by omega)]; exact p4
    · rw [u1_n _ _ (by omega)]; exact p5
    · rw [u1_n _ _ (by omega)]; exact p6
  | succ m ih =>
    intro y hc z12 L13 hm hI hfl hrow hrest e12
    refine w_loop IS_ok [549, 559, 624] ok_L_law ?_
    refine w_le (hghN S p : Nat) y (fun _ => by omega) (fun _ => ?_) rfl e12
    -- the columns
    have inner : ∀ (mm x : Nat) (h2 : St) (z13 : Int32), x + mm = 8 → CI S n H N T f G h2 → h2.1 90 0 = 1 → (∀ q, q < y → h2.2 90 q = nI (RB S p q 8)) → h2.2 90 y = nI (RB S p y x) → (∀ q, y < q → h2.2 90 q = 0) → z13 = iI (x : Nat) → LR 559 [some (.float 0), some (.ref 0), some (.int v), L3, L4, some (.int (iI (p : Nat))), L6, L7, some (.int z8), some (.int (iI (hghN S p : Nat))), some (.ref 90), some (.int (iI (S (26 + 9 * p + 4)))), some (.int z12), some (.int z13)] [] B h2 := by
      intro mm
      induction mm with
      | zero =>
        intro x h2 z13 hx I2 fl2 r1 r2 r3 e13
        have hx8 : x = 8 := by omega
        subst hx8
        refine w_loop IS_ok [549, 559] ok_L_law ?_
        refine w_le 8 8 (fun _ => ?_) (fun _ => by omega) rfl e13
        refine ih (y + 1) h2 _ _ (by omega) I2 fl2 (fun q hq => ?_) (fun q hq => r3 q (by omega)) (iI_1 e12)
        by_cases z : q = y
        · subst z; exact r2
        · exact r1 q (by omega)
      | succ mm ih2 =>
        intro x h2 z13 hx I2 fl2 r1 r2 r3 e13
        refine w_loop IS_ok [559, 599] ok_L_law ?_
        refine w_le 8 x (fun _ => by omega) (fun _ => ?_) rfl e13
        refine w_mn 16 (s_len90 fl2) ?_
        refine w_ix y ?_ e12 (by omega)
        refine c_P_dot I2 hW (20 + (x : Nat)) (20 + (y : Nat)) (fun h3 c f3 hr => ?_) (by rw [e13]; exact iI_add 20 (x : Int)) (by rw [e12]; exact iI_add 20 (y : Int)) (by omega) (by omega)
        have e := solo_dot (x := x) (y := y) hp (by omega) (by omega) rfl rfl hr
        have I3 := I2.lk f3
        have fl3 : h3.1 90 0 = 1 := by rw [f3.1 90 (by omega)]; exact fl2
        have q3 : h3.2 90 = h2.2 90 := f3.2 90 (by omega)
        have hcr : 0 ≤ c ∧ c ≤ 9 := by
          rw [e]
          split <;> omega
        -- the bit is put in
        have put : ∀ w : Int32, nI (RB S p y x) ||| w = nI (RB S p y (x + 1)) → LR 599 [some (.float 0), some (.ref 0), some (.int v), L3, L4, some (.int (iI (p : Nat))), L6, L7, some (.int z8), some (.int (iI (hghN S p : Nat))), some (.ref 90), some (.int (iI (S (26 + 9 * p + 4)))), some (.int z12), some (.int z13)] [.int w, .int (h2.2 90 y), .int z12, .ref 90] B h3 := by
          intro w hw
          refine w_loop IS_ok [559] ok_L_law ?_
          refine w_mn 16 (s_len90 fl3) ?_
          refine w_ix y ?_ e12 (by omega)
          have fw := fr_wr (h := h3) y (h2.2 90 y ||| w)
          refine ih2 (x + 1) (wa h3 90 y (h2.2 90 y ||| w)) _ (by omega) (I3.up fw) fl3 (fun q hq => ?_) ?_ (fun q hq => ?_) (iI_1 e13)
          · rw [wa_n _ _ _ _ (by omega), q3]; exact r1 q hq
          · rw [wa_s, r2]; exact hw
          · rw [wa_n _ _ _ _ (by omega), q3]; exact r3 q hq
        have erb : RB S p y (x + 1) = if pix S p x y = true then RB S p y x ||| 2 ^ x else RB S p y x := rfl
        refine w_eq c (S (26 + 9 * p + 4)) (fun z => ?_) (fun z => ?_) rfl rfl
        · have hp1 : pix S p x y = true := Classical.byContradiction (fun w => by rw [if_neg w] at e; omega)
          rw [if_pos hp1] at erb
          refine put _ ?_
          rw [erb, e13]
          exact bit_or (by omega)
        · have hp0 : ¬ pix S p x y = true := fun w => by rw [if_pos w] at e; exact z e
          rw [if_neg hp0] at erb
          refine put _ ?_
          rw [erb]
          exact or_z _
    exact inner 8 0 hc _ rfl hI hfl hrow (by rw [hrest y (by omega)]; rfl) (fun q hq => hrest q (by omega)) rfl
end
