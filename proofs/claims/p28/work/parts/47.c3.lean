/-! the class: the survey -/
theorem stn_fl {S : Nat → Int} {p : Nat} {l : Nat} (hl : l < 48) : stn S p l ↔ fst S p ≤ l ∧ (l : Int) ≤ lst S p := by
  unfold fst lst stn
  split <;> split <;> omega
theorem fst_b {S : Nat → Int} {p : Nat} (hy : -15 ≤ S (26 + 9 * p + 1) ∧ S (26 + 9 * p + 1) ≤ 47) : 0 ≤ fst S p ∧ fst S p ≤ 47 := by
  unfold fst
  split <;> omega
theorem lst_b {S : Nat → Int} {p : Nat} (hy : -15 ≤ S (26 + 9 * p + 1) ∧ S (26 + 9 * p + 1) ≤ 47) : -20 ≤ lst S p ∧ lst S p ≤ 47 := by
  have := hgh_b S p
  unfold lst
  split <;> omega
theorem sm_tail {f : Nat → Nat} {y : Nat} : ∀ {m : Nat}, y ≤ m → (∀ l, y ≤ l → l < m → f l = 0) → sm f m = sm f y
  | 0, h, _ => by rw [show y = 0 by omega]
  | m + 1, h, hz => by
    by_cases z : y = m + 1
    · rw [z]
    · show sm f m + f m = _
      rw [hz m (by omega) (by omega), sm_tail (m := m) (by omega) (fun l h1 h2 => hz l h1 (by omega))]
      rfl
theorem smR (S : Nat → Int) (o : Nat → Nat) (k p m : Nat) : sm (fun l => hR S o l (k + 1) p) m = sm (fun l => hR S o l k p) m + (if o k = p then sm (fun l => hA S o l k) m else 0) := by
  have : sm (fun l => hR S o l (k + 1) p) m = sm (fun l => hR S o l k p + (if o k = p then hA S o l k else 0)) m := sm_congr (fun l _ => hR_s S o l k p)
  rw [this, sm_add]
  split
  · rfl
  · rw [show sm (fun _ => 0) m = 0 from sm_zero.mpr (fun _ _ => rfl)]

set_option maxHeartbeats 2000000 in
theorem c_Surv_look_1 {b : Int} {S : Nat → Int} {h : St} {Q : Option Value → St → Prop} (hC : CS 1 S h) (hG : WG b S) (hQ : ∀ h', Sm [] [17, 19] h h' → (∀ y, y < 48 → h'.2 17 y = iI (cn S (od S) y (S 1).toNat : Nat)) → (∀ p, p < 20 → h'.2 19 p = iI (hT S (od S) (S 1).toNat 48 p : Nat)) → Q none h') : SC y_Surv_look [.ref 15, .ref 1] h Q := by
  obtain ⟨g0, g1, g2, g3, g4, g5, god, ginj, gy, gc⟩ := id hG
  refine w_call IS_ok [18] ok_Surv_look rfl rfl ?_
  refine c_Cells_fill CA_16 (fun h1 hs1 hz1 => ?_)
  refine c_Cells_fill CA_18 (fun h2 hs2 hz2 => ?_)
  have outer : ∀ (m k : Nat) (hc : St) (z : Int32) (L3 L4 L5 : Option Value), (S 1).toNat ≤ k + m → k ≤ (S 1).toNat → Sm [] [17, 19] h hc → (∀ y : Nat, y < 48 → hc.2 17 y = iI (cn S (od S) y k : Nat)) → (∀ p, p < 20 → hc.2 19 p = iI (sm (fun l => hR S (od S) l k p) 48 : Nat)) → z = iI k → SR y_Surv_look 18 [some (.ref 15), some (.ref 1), some (.int z), L3, L4, L5] [] hc Q := by
    intro m
    induction m with
    | zero =>
      intro k hc z L3 L4 L5 hm hk hs ha hb hz
      have : k = (S 1).toNat := by omega
      subst this
      refine w_loop IS_ok [18] ok_Surv_look ?_
      exact w_le (S 1) (S 1).toNat (fun _ => hQ hc hs ha hb) (fun _ => by omega) ((hs.1 _ _ (by decide)).trans hC.1.1) hz
    | succ m ih =>
      intro k hc z L3 L4 L5 hm hk hs ha hb hz
      have hCc : CS 1 S hc := hC.sm hs (by decide) (by decide)
      refine w_loop IS_ok [18, 49] ok_Surv_look ?_
      refine w_le (S 1) k (fun g => ?_) (fun g => ?_) hCc.1.1 hz
      · have : k = (S 1).toNat := by omega
        subst this
        exact hQ hc hs ha hb
      obtain ⟨o1, o2, o3⟩ := god k (by omega)
      have hy := gy _ o2
      have hf := fst_b hy
      have hl := lst_b hy
      refine c_Cells_get1 CA_6 k (by omega) ?_ hz
      have eo : hc.2 7 k = iI (od S k : Nat) := (hCc.2.2.1 k (by omega)).trans (congrArg iI o1)
      refine c_Scene_lastLine_1 hCc (od S k) o2 (by omega) hy ?_ eo
      refine c_Scene_firstLine_1 hCc (od S k) o2 hy ?_ eo
      have done : ∀ (y : Nat) (hd : St) (z5 : Int32), lst S (od S k) < y → fst S (od S k) ≤ y → y ≤ 48 → Sm [] [17, 19] h hd → (∀ l, l < 48 → hd.2 17 l = iI ((if l < y then cn S (od S) l (k + 1) else cn S (od S) l k : Nat) : Nat)) → (∀ q, q < 20 → hd.2 19 q = iI ((sm (fun l => hR S (od S) l k q) 48 + (if od S k = q then sm (fun l => hA S (od S) l k) y else 0) : Nat) : Nat)) → SR y_Surv_look 97 [some (.ref 15), some (.ref 1), some (.int z), some (.int (hc.2 7 k)), some (.int (iI (lst S (od S k)))), some (.int z5)] [] hd Q := by
        intro y hd z5 hyl hyf hy48 hsd had hbd
        refine w_loop IS_ok [18] ok_Surv_look ?_
        refine ih (k + 1) hd _ _ _ _ (by omega) (by omega) hsd (fun l hl => ?_) (fun q hq => ?_) (iI_1 hz)
        · rw [had l hl]
          by_cases z1 : l < y
          · rw [if_pos z1]
          · rw [if_neg z1, cn_f (fun z2 => by have := (stn_fl hl).mp z2; omega)]
        · rw [hbd q hq, smR, sm_tail (f := fun l => hA S (od S) l k) (y := y) (m := 48) hy48 (fun l h1 h2 => if_neg (fun z2 => by have := (stn_fl h2).mp z2.1; omega))]
      have inner : ∀ (m y : Nat) (hd : St) (z5 : Int32), 48 ≤ y + m → fst S (od S k) ≤ y → y ≤ 48 → Sm [] [17, 19] h hd → (∀ l, l < 48 → hd.2 17 l = iI ((if l < y then cn S (od S) l (k + 1) else cn S (od S) l k : Nat) : Nat)) → (∀ q, q < 20 → hd.2 19 q = iI ((sm (fun l => hR S (od S) l k q) 48 + (if od S k = q then sm (fun l => hA S (od S) l k) y else 0) : Nat) : Nat)) → z5 = iI y → SR y_Surv_look 49 [some (.ref 15), some (.ref 1), some (.int z), some (.int (hc.2 7 k)), some (.int (iI (lst S (od S k)))), some (.int z5)] [] hd Q := by
        intro m
        induction m with
        | zero =>
          intro y hd z5 hm2 hyf hy48 hsd had hbd hz5
          refine w_loop IS_ok [97] ok_Surv_look ?_
          exact w_lt (lst S (od S k)) y (fun g => done y hd z5 g hyf hy48 hsd had hbd) (fun _ => by omega) rfl hz5
        | succ m ih2 =>
          intro y hd z5 hm2 hyf hy48 hsd had hbd hz5
          refine w_loop IS_ok [81, 97] ok_Surv_look ?_
          refine w_lt (lst S (od S k)) y (fun g => done y hd z5 g hyf hy48 hsd had hbd) (fun g => ?_) rfl hz5
          have hy47 : y < 48 := by omega
          have hst : stn S (od S k) y := (stn_fl hy47).mpr ⟨hyf, g⟩
          have hcn := cn_le S (od S) y k
          have hct := cn_t (o := od S) (k := k) hst
          have at81 : ∀ (he : St), Sm [] [17, 19] h he → he.2 17 = hd.2 17 → (∀ q, q < 20 → he.2 19 q = iI ((sm (fun l => hR S (od S) l k q) 48 + (if od S k = q then sm (fun l => hA S (od S) l k) (y + 1) else 0) : Nat) : Nat)) → SR y_Surv_look 81 [some (.ref 15), some (.ref 1), some (.int z), some (.int (hc.2 7 k)), some (.int (iI (lst S (od S k)))), some (.int z5)] [] he Q := by
            intro he hse hae hbe
            refine w_loop IS_ok [49] ok_Surv_look ?_
            refine c_Cells_add CA_16 y hy47 ?_ hz5
            refine ih2 (y + 1) (wa he 17 y (he.2 17 y + 1)) _ (by omega) (by omega) (by omega) (hse.t (Sm.wa _ _ (by decide))) (fun l hl => ?_) (fun q hq => ?_) (iI_1 hz5)
            · by_cases z1 : l = y
              · subst z1
                rw [wa_s, hae, had l hl, if_neg (by omega), if_pos (by omega), hct]
                exact iI_1 rfl
              · rw [wa_n _ _ _ _ z1, hae, had l hl]
                by_cases z2 : l < y
                · rw [if_pos z2, if_pos (by omega)]
                · rw [if_neg z2, if_neg (by omega)]
            · rw [wa_o _ _ _ _ (by decide)]
              exact hbe q hq
          refine c_Cells_get1 CA_16 y hy47 ?_ hz5
          have hCd : CS 1 S hd := hC.sm hsd (by decide) (by decide)
          have es : hd.2 17 y = iI (cn S (od S) y k : Nat) := by rw [had y hy47, if_neg (by omega)]
          have hsu : sm (fun l => hA S (od S) l k) (y + 1) = sm (fun l => hA S (od S) l k) y + hA S (od S) y k := rfl
          refine w_lt (cn S (od S) y k : Nat) (S 2) (fun g2 => ?_) (fun g2 => ?_) es hCd.1.2.2.1
          · refine at81 hd hsd rfl (fun q hq => ?_)
            rw [hbd q hq, hsu, show hA S (od S) y k = 0 from if_neg (fun z2 => by have := z2.2; omega)]
            rfl
          · refine c_Cells_add CA_18 (od S k) o2 ?_ eo
            refine at81 (wa hd 19 (od S k) (hd.2 19 (od S k) + 1)) (hsd.t (Sm.wa _ _ (by decide))) (wa_o _ _ _ _ (by decide)) (fun q hq => ?_)
            rw [hsu, show hA S (od S) y k = 1 from if_pos ⟨hst, by omega⟩]
            by_cases z1 : q = od S k
            · subst z1
              rw [wa_s, hbd _ o2, if_pos rfl, if_pos rfl]
              exact iI_1 rfl
            · rw [wa_n _ _ _ _ z1, hbd q hq, if_neg (fun z => z1 z.symm), if_neg (fun z => z1 z.symm)]
      refine inner 48 (fst S (od S k)).toNat hc _ (by omega) (by omega) (by omega) hs (fun l hl => ?_) (fun q hq => ?_) (congrArg iI (by omega))
      · rw [ha l hl]
        by_cases z1 : l < (fst S (od S k)).toNat
        · rw [if_pos z1, cn_f (fun z2 => by have := (stn_fl hl).mp z2; omega)]
        · rw [if_neg z1]
      · rw [hb q hq, show sm (fun l => hA S (od S) l k) (fst S (od S k)).toNat = 0 from sm_zero.mpr (fun l hl => if_neg (fun z2 => by have := (stn_fl (show l < 48 by omega)).mp z2.1; omega))]
        congr 2
        split <;> rfl
  refine outer (S 1).toNat 0 h2 _ _ _ _ (by omega) (by omega) ((hs1.mo (by decide) (by decide)).t (hs2.mo (by decide) (by decide))) (fun y hy => ?_) (fun p hp => ?_) rfl
  · rw [hs2.2 _ (by decide), hz1 y hy]; rfl
  · rw [hz2 p hp]
    exact (congrArg (fun z : Nat => iI (z : Int)) (sm_zero (f := fun l => hR S (od S) l 0 p).mpr (fun l _ => rfl))).symm
theorem c_Surv_isHidden_1 {B : Nat → Nat} {x : Int32} {h : St} {Q : Option Value → St → Prop} (hB : ∀ p, p < 20 → h.2 19 p = iI (B p : Nat) ∧ B p < 2000) (p : Nat) (hp : p < 20) (hQ : Q (some (.int (bI (0 < B p)))) h) (hx : x = iI p) : SC y_Surv_isHidden [.ref 15, .int x] h Q := by
  refine w_call IS_ok [] ok_Surv_isHidden rfl rfl ?_
  refine c_Cells_get1 CA_18 p hp ?_ hx
  have := hB p hp
  refine w_le (B p : Nat) 0 (fun g => ?_) (fun g => ?_) this.1 rfl
  · rw [bI_f (by omega)] at hQ
    exact ⟨Or.inl rfl, hQ⟩
  · rw [bI_t (by omega)] at hQ
    exact ⟨Or.inr rfl, hQ⟩

set_option maxHeartbeats 2000000 in
theorem c_Surv_look_24 {b : Int} {S : Nat → Int} {h : St} {Q : Option Value → St → Prop} (hC : CS 24 S h) (hG : WG b S) (hQ : ∀ h', Sm [] [33, 35] h h' → (∀ y, y < 48 → h'.2 33 y = iI (cn S (od S) y (S 1).toNat : Nat)) → (∀ p, p < 20 → h'.2 35 p = iI (hT S (od S) (S 1).toNat 48 p : Nat)) → Q none h') : SC y_Surv_look [.ref 31, .ref 24] h Q := by
  obtain ⟨g0, g1, g2, g3, g4, g5, god, ginj, gy, gc⟩ := id hG
  refine w_call IS_ok [18] ok_Surv_look rfl rfl ?_
  refine c_Cells_fill CA_32 (fun h1 hs1 hz1 => ?_)
  refine c_Cells_fill CA_34 (fun h2 hs2 hz2 => ?_)
  have outer : ∀ (m k : Nat) (hc : St) (z : Int32) (L3 L4 L5 : Option Value), (S 1).toNat ≤ k + m → k ≤ (S 1).toNat → Sm [] [33, 35] h hc → (∀ y : Nat, y < 48 → hc.2 33 y = iI (cn S (od S) y k : Nat)) → (∀ p, p < 20 → hc.2 35 p = iI (sm (fun l => hR S (od S) l k p) 48 : Nat)) → z = iI k → SR y_Surv_look 18 [some (.ref 31), some (.ref 24), some (.int z), L3, L4, L5] [] hc Q := by
    intro m
    induction m with
    | zero =>
      intro k hc z L3 L4 L5 hm hk hs ha hb hz
      have : k = (S 1).toNat := by omega
      subst this
      refine w_loop IS_ok [18] ok_Surv_look ?_
      exact w_le (S 1) (S 1).toNat (fun _ => hQ hc hs ha hb) (fun _ => by omega) ((hs.1 _ _ (by decide)).trans hC.1.1) hz
    | succ m ih =>
      intro k hc z L3 L4 L5 hm hk hs ha hb hz
      have hCc : CS 24 S hc := hC.sm hs (by decide) (by decide)
      refine w_loop IS_ok [18, 49] ok_Surv_look ?_
      refine w_le (S 1) k (fun g => ?_) (fun g => ?_) hCc.1.1 hz
      · have : k = (S 1).toNat := by omega
        subst this
        exact hQ hc hs ha hb
      obtain ⟨o1, o2, o3⟩ := god k (by omega)
      have hy := gy _ o2
      have hf := fst_b hy
      have hl := lst_b hy
      refine c_Cells_get1 CA_29 k (by omega) ?_ hz
      have eo : hc.2 30 k = iI (od S k : Nat) := (hCc.2.2.1 k (by omega)).trans (congrArg iI o1)
      refine c_Scene_lastLine_24 hCc (od S k) o2 (by omega) hy ?_ eo
      refine c_Scene_firstLine_24 hCc (od S k) o2 hy ?_ eo
      have done : ∀ (y : Nat) (hd : St) (z5 : Int32), lst S (od S k) < y → fst S (od S k) ≤ y → y ≤ 48 → Sm [] [33, 35] h hd → (∀ l, l < 48 → hd.2 33 l = iI ((if l < y then cn S (od S) l (k + 1) else cn S (od S) l k : Nat) : Nat)) → (∀ q, q < 20 → hd.2 35 q = iI ((sm (fun l => hR S (od S) l k q) 48 + (if od S k = q then sm (fun l => hA S (od S) l k) y else 0) : Nat) : Nat)) → SR y_Surv_look 97 [some (.ref 31), some (.ref 24), some (.int z), some (.int (hc.2 30 k)), some (.int (iI (lst S (od S k)))), some (.int z5)] [] hd Q := by
        intro y hd z5 hyl hyf hy48 hsd had hbd
        refine w_loop IS_ok [18] ok_Surv_look ?_
        refine ih (k + 1) hd _ _ _ _ (by omega) (by omega) hsd (fun l hl => ?_) (fun q hq => ?_) (iI_1 hz)
        · rw [had l hl]
          by_cases z1 : l < y
          · rw [if_pos z1]
          · rw [if_neg z1, cn_f (fun z2 => by have := (stn_fl hl).mp z2; omega)]
        · rw [hbd q hq, smR, sm_tail (f := fun l => hA S (od S) l k) (y := y) (m := 48) hy48 (fun l h1 h2 => if_neg (fun z2 => by have := (stn_fl h2).mp z2.1; omega))]
      have inner : ∀ (m y : Nat) (hd : St) (z5 : Int32), 48 ≤ y + m → fst S (od S k) ≤ y → y ≤ 48 → Sm [] [33, 35] h hd → (∀ l, l < 48 → hd.2 33 l = iI ((if l < y then cn S (od S) l (k + 1) else cn S (od S) l k : Nat) : Nat)) → (∀ q, q < 20 → hd.2 35 q = iI ((sm (fun l => hR S (od S) l k q) 48 + (if od S k = q then sm (fun l => hA S (od S) l k) y else 0) : Nat) : Nat)) → z5 = iI y → SR y_Surv_look 49 [some (.ref 31), some (.ref 24), some (.int z), some (.int (hc.2 30 k)), some (.int (iI (lst S (od S k)))), some (.int z5)] [] hd Q := by
        intro m
        induction m with
        | zero =>
          intro y hd z5 hm2 hyf hy48 hsd had hbd hz5
          refine w_loop IS_ok [97] ok_Surv_look ?_
          exact w_lt (lst S (od S k)) y (fun g => done y hd z5 g hyf hy48 hsd had hbd) (fun _ => by omega) rfl hz5
        | succ m ih2 =>
          intro y hd z5 hm2 hyf hy48 hsd had hbd hz5
          refine w_loop IS_ok [81, 97] ok_Surv_look ?_
          refine w_lt (lst S (od S k)) y (fun g => done y hd z5 g hyf hy48 hsd had hbd) (fun g => ?_) rfl hz5
          have hy47 : y < 48 := by omega
          have hst : stn S (od S k) y := (stn_fl hy47).mpr ⟨hyf, g⟩
          have hcn := cn_le S (od S) y k
          have hct := cn_t (o := od S) (k := k) hst
          have at81 : ∀ (he : St), Sm [] [33, 35] h he → he.2 33 = hd.2 33 → (∀ q, q < 20 → he.2 35 q = iI ((sm (fun l => hR S (od S) l k q) 48 + (if od S k = q then sm (fun l => hA S (od S) l k) (y + 1) else 0) : Nat) : Nat)) → SR y_Surv_look 81 [some (.ref 31), some (.ref 24), some (.int z), some (.int (hc.2 30 k)), some (.int (iI (lst S (od S k)))), some (.int z5)] [] he Q := by
            intro he hse hae hbe
            refine w_loop IS_ok [49] ok_Surv_look ?_
            refine c_Cells_add CA_32 y hy47 ?_ hz5
            refine ih2 (y + 1) (wa he 33 y (he.2 33 y + 1)) _ (by omega) (by omega) (by omega) (hse.t (Sm.wa _ _ (by decide))) (fun l hl => ?_) (fun q hq => ?_) (iI_1 hz5)
            · by_cases z1 : l = y
              · subst z1
                rw [wa_s, hae, had l hl, if_neg (by omega), if_pos (by omega), hct]
                exact iI_1 rfl
              · rw [wa_n _ _ _ _ z1, hae, had l hl]
                by_cases z2 : l < y
                · rw [if_pos z2, if_pos (by omega)]
                · rw [if_neg z2, if_neg (by omega)]
            · rw [wa_o _ _ _ _ (by decide)]
              exact hbe q hq
          refine c_Cells_get1 CA_32 y hy47 ?_ hz5
          have hCd : CS 24 S hd := hC.sm hsd (by decide) (by decide)
          have es : hd.2 33 y = iI (cn S (od S) y k : Nat) := by rw [had y hy47, if_neg (by omega)]
          have hsu : sm (fun l => hA S (od S) l k) (y + 1) = sm (fun l => hA S (od S) l k) y + hA S (od S) y k := rfl
          refine w_lt (cn S (od S) y k : Nat) (S 2) (fun g2 => ?_) (fun g2 => ?_) es hCd.1.2.2.1
          · refine at81 hd hsd rfl (fun q hq => ?_)
            rw [hbd q hq, hsu, show hA S (od S) y k = 0 from if_neg (fun z2 => by have := z2.2; omega)]
            rfl
          · refine c_Cells_add CA_34 (od S k) o2 ?_ eo
            refine at81 (wa hd 35 (od S k) (hd.2 35 (od S k) + 1)) (hsd.t (Sm.wa _ _ (by decide))) (wa_o _ _ _ _ (by decide)) (fun q hq => ?_)
            rw [hsu, show hA S (od S) y k = 1 from if_pos ⟨hst, by omega⟩]
            by_cases z1 : q = od S k
            · subst z1
              rw [wa_s, hbd _ o2, if_pos rfl, if_pos rfl]
              exact iI_1 rfl
            · rw [wa_n _ _ _ _ z1, hbd q hq, if_neg (fun z => z1 z.symm), if_neg (fun z => z1 z.symm)]
      refine inner 48 (fst S (od S k)).toNat hc _ (by omega) (by omega) (by omega) hs (fun l hl => ?_) (fun q hq => ?_) (congrArg iI (by omega))
      · rw [ha l hl]
        by_cases z1 : l < (fst S (od S k)).toNat
        · rw [if_pos z1, cn_f (fun z2 => by have := (stn_fl hl).mp z2; omega)]
        · rw [if_neg z1]
      · rw [hb q hq, show sm (fun l => hA S (od S) l k) (fst S (od S k)).toNat = 0 from sm_zero.mpr (fun l hl => if_neg (fun z2 => by have := (stn_fl (show l < 48 by omega)).mp z2.1; omega))]
        congr 2
        split <;> rfl
  refine outer (S 1).toNat 0 h2 _ _ _ _ (by omega) (by omega) ((hs1.mo (by decide) (by decide)).t (hs2.mo (by decide) (by decide))) (fun y hy => ?_) (fun p hp => ?_) rfl
  · rw [hs2.2 _ (by decide), hz1 y hy]; rfl
  · rw [hz2 p hp]
    exact (congrArg (fun z : Nat => iI (z : Int)) (sm_zero (f := fun l => hR S (od S) l 0 p).mpr (fun l _ => rfl))).symm
theorem c_Surv_isHidden_24 {B : Nat → Nat} {x : Int32} {h : St} {Q : Option Value → St → Prop} (hB : ∀ p, p < 20 → h.2 35 p = iI (B p : Nat) ∧ B p < 2000) (p : Nat) (hp : p < 20) (hQ : Q (some (.int (bI (0 < B p)))) h) (hx : x = iI p) : SC y_Surv_isHidden [.ref 31, .int x] h Q := by
  refine w_call IS_ok [] ok_Surv_isHidden rfl rfl ?_
  refine c_Cells_get1 CA_34 p hp ?_ hx
  have := hB p hp
  refine w_le (B p : Nat) 0 (fun g => ?_) (fun g => ?_) this.1 rfl
  · rw [bI_f (by omega)] at hQ
    exact ⟨Or.inl rfl, hQ⟩
  · rw [bI_t (by omega)] at hQ
    exact ⟨Or.inr rfl, hQ⟩
