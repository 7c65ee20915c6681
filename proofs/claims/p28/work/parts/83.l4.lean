/-! the law: one puppet, seen from both sides -/
def SP (S : Nat → Int) (p : Nat) : Prop := S 2 = 1 ∧ 0 < (S 1).toNat ∧ S 6 = (p : Int) ∧ S (26 + 9 * p) = 20 ∧ S (26 + 9 * p + 1) = 20 ∧ 1 ≤ S (26 + 9 * p + 4)
theorem hghN_b (S : Nat → Int) (p : Nat) : hghN S p = 8 ∨ hghN S p = 16 := by unfold hghN; split <;> omega
theorem solo_dot {S : Nat → Int} {p x y : Nat} {c X Y : Int} (hp : SP S p) (hx : x < 8) (hy : y < hghN S p) (eX : X = 20 + x) (eY : Y = 20 + y) (h : DotR S X Y c) : c = if pix S p x y = true then S (26 + 9 * p + 4) else 0 := by
  obtain ⟨p1, p2, p3, p4, p5, p6⟩ := hp
  have hb := hghN_b S p
  have hi := hghN_i S p
  subst eX; subst eY
  have hs : stn S p ((20 : Int) + y) := ⟨by omega, by omega⟩
  rcases h with ⟨h1, -⟩ | ⟨-, h2⟩
  · exact absurd ⟨by omega, by omega⟩ h1
  · have e := solo p1 p2 p3 hs h2
    have e1 : ((20 : Int) + x - S (26 + 9 * p)).toNat = x := by omega
    have e2 : ((20 : Int) + y - S (26 + 9 * p + 1)).toNat = y := by omega
    by_cases z : pix S p x y = true
    · rw [if_pos z]
      rw [if_pos ⟨⟨by omega, by omega⟩, ⟨by omega, by omega⟩, by rw [e1, e2]; exact z⟩] at e
      exact e
    · rw [if_neg z]
      rw [if_neg (fun w => z (by have := w.2.2; rw [e1, e2] at this; exact this))] at e
      exact e
theorem s_len90 {h : St} (hf : h.1 90 0 = 1) : s_len h 90 = some 16 := by
  unfold s_len
  exact if_pos hf
theorem s_newI90 {h : St} (hf : h.1 90 0 = 0) : s_newI h 16 = some (90, (u2 h.1 90 0 1, u1 h.2 90 (fun _ => 0))) := by
  unfold s_newI
  exact if_pos hf
theorem fr_wr {h : St} (j : Nat) (x : Int32) : Fr 90 91 h (wa h 90 j x) := ⟨fun _ _ => rfl, fun o ho => wa_o h 90 j x (by omega)⟩
theorem fr_new {h : St} : Fr 90 91 h (u2 h.1 90 0 1, u1 h.2 90 (fun _ => 0)) := ⟨fun o ho => u1_n _ _ (by omega), fun o ho => u1_n _ _ (by omega)⟩
section
variable {S : Nat → Int} {n : Nat} {H : Nat → Nat → Int} {N : Nat} {T : Nat → Nat} {f : Nat} {G : Nat → Int} {h : St}
set_option maxRecDepth 100000 in
set_option maxHeartbeats 8000000 in
/-- the last loop: the turned puppet -/
theorem l_back {p : Nat} {v z8 z11 : Int32} {B : Nat × Nat} {L3 L4 L6 L7 L13 : Option Value} (hW : WF S) (hn : n ≤ 5) (hp20 : p < 20) (hp : SP S p) (V : Nat → Int) (hS : S = u1 V (26 + 9 * p + 5) 3) (hV : V (26 + 9 * p + 5) = 0) : ∀ (m k : Nat) (hc : St) (z12 : Int32), k + m = hghN V p → CI S n H N T f G hc → hc.1 90 0 = 1 → (∀ y, y < hghN V p → hc.2 90 y = nI (RB V p y 8)) → z12 = iI (k : Nat) → LR 624 [some (.float 0), some (.ref 0), some (.int v), L3, L4, some (.int (iI (p : Nat))), L6, L7, some (.int z8), some (.int (iI (hghN V p : Nat))), some (.ref 90), some (.int z11), some (.int z12), L13] [] B hc := by
  have hb := hghN_b V p
  have eh : hghN S p = hghN V p := by rw [hS]; unfold hghN; rw [u1_n _ _ (by omega)]
  have hl := lowN_lt v (n := 8) (by omega)
  intro m
  induction m with
  | zero =>
    intro k hc z12 hm hI hfl hrow e12
    refine w_loop IS_ok [624, 681] ok_L_law ?_
    exact w_le (hghN V p : Nat) k (fun _ => l_end hI hW hn) (fun _ => by omega) rfl e12
  | succ m ih =>
    intro k hc z12 hm hI hfl hrow e12
    have nx : ∀ hc' : St, Fr 15 38 hc hc' → LR 675 [some (.float 0), some (.ref 0), some (.int v), L3, L4, some (.int (iI (p : Nat))), L6, L7, some (.int z8), some (.int (iI (hghN V p : Nat))), some (.ref 90), some (.int z11), some (.int z12), L13] [] B hc' := by
      intro hc' fr
      refine w_loop IS_ok [624] ok_L_law ?_
      exact ih (k + 1) hc' _ (by omega) (hI.lk fr) (by rw [fr.1 90 (by omega)]; exact hfl) (fun y hy => by rw [fr.2 90 (by omega)]; exact hrow y hy) (iI_1 e12)
    refine w_loop IS_ok [624, 675, 681] ok_L_law ?_
    refine w_le (hghN V p : Nat) k (fun _ => by omega) (fun _ => ?_) rfl e12
    refine w_mn 16 (s_len90 hfl) ?_
    refine w_ix k ?_ e12 (by omega)
    refine c_L_low 8 (by omega) (by omega) ?_ rfl
    have hrb := RB_b V p k 8 (by omega)
    have ev : (hc.2 90 k >>> (iI (lowN v 8 : Nat) &&& 31)) &&& 1 = iI (if (RB V p k 8).testBit (lowN v 8) then 1 else 0) := by
      rw [hrow k (by omega)]
      exact bit_at hrb (by omega)
    refine w_eq (if (RB V p k 8).testBit (lowN v 8) then 1 else 0) 1 (fun g => ?_) (fun _ => nx hc Fr.rf) ev rfl (by split <;> omega)
    have hpix : pix V p (lowN v 8) k = true := by
      refine RB_t V p k (lowN v 8) 8 ?_
      cases hz : (RB V p k 8).testBit (lowN v 8) with
      | true => rfl
      | false => rw [hz] at g; exact absurd g (by decide)
    refine c_L_low 8 (by omega) (by omega) ?_ rfl
    refine c_P_dot hI hW (27 - (lowN v 8 : Nat)) (19 + (hghN V p : Nat) - k) (fun h2 r f2 hr => ?_) (iI_sub 27 ((lowN v 8 : Nat) : Int)) ?_ (by omega) (by omega)
    · have e := solo_dot (x := 7 - lowN v 8) (y := hghN V p - 1 - k) hp (by omega) (by omega) (by omega) (by omega) hr
      have hf := pix_flip hp20 hV hl (k := k) (by omega)
      rw [← hS, hpix] at hf
      rw [if_pos hf] at e
      have h1 := hp.2.2.2.2.2
      have h9 := (hW.wp p hp20).2.2.2.2.1
      refine w_eq r 0 (fun z => by omega) (fun _ => nx h2 f2) rfl rfl (by omega)
    · rw [e12]
      exact ((congrArg (fun q => q - iI (k : Nat)) (iI_add 19 ((hghN V p : Nat) : Int))).trans (iI_sub (19 + ((hghN V p : Nat) : Int)) (k : Int)))
end
