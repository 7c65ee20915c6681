/-! the class: a text is read -/
theorem cdc_u {T : Nat → Nat} {h h' : St} {c : Nat} {C : Nat → Cod} {x : Cod} (k : KpC c h h') (e3 : ∀ j, j < c → ∀ e, C j = cAct e → nArg (T e.1) ≤ 3) (a : ∀ j, j < c → CdC T h j (C j)) (b : CdC T h' c x) : ∀ j, j < c + 1 → CdC T h' j (u1 C c x j) := by
  intro j hj
  by_cases z : j = c
  · subst z; rw [u1_s]; exact b
  · rw [u1_n _ _ z]; exact (a j (by omega)).kp k (by omega) (e3 j (by omega))
set_option maxHeartbeats 2000000 in
theorem c_Read_read {N : Nat} {T : Nat → Nat} {h : St} {Q : Option Value → St → Prop} (hB : TxB N T) (hT : CT N T h)
    (hQF : ∀ f d h', rd (chr N T) N N 0 [] [] = .inl (f, d) → SmQ h h' → h'.1 75 5 = iI (f : Nat) → h'.1 75 4 = iI (d : Nat) → Q (some (.int 0)) h')
    (hQ1 : ∀ l C c h', rd (chr N T) N N 0 [] [] = .inr l → SmQ h h' → c ≤ 100 → h'.1 79 1 = iI (c : Nat) → (∀ j, j < c → CdC T h' j (C j)) → SgN C 0 0 c l → (∀ j, j < c → ∀ e, C j = cAct e → EntOk N T e) → Q (some (.int 1)) h') : SC y_Read_read [.ref 75] h Q := by
  refine w_call IS_ok [25] ok_Read_read rfl rfl ?_
  have hn100 := hB.1
  generalize hres : rd (chr N T) N N 0 [] [] = RES at *
  have dead62 : ∀ (f d i c : Nat) (hcc : St) (z1 : Int32), RES = .inl (f, d) → f < 1000 → d ≤ 4 → SmQ h hcc → RS N T i d c f hcc → SR y_Read_read 62 [some (.ref 75), some (.int z1)] [] hcc Q := by
    intro f d i c hcc z1 hr hf hd hs r
    have at77 : ∀ hc2, SmQ h hc2 → RS N T i d c f hc2 → SR y_Read_read 77 [some (.ref 75), some (.int z1)] [] hc2 Q := by
      intro hc2 hs2 r2
      refine w_loop IS_ok [] ok_Read_read ?_
      refine w_le 0 f (fun g => ?_) (fun g => by omega) rfl r2.2.2.2.2
      exact ⟨Or.inl rfl, hQF f d hc2 hr hs2 r2.2.2.2.2 r2.2.2.1⟩
    refine w_loop IS_ok [77] ok_Read_read ?_
    refine w_le d 0 (fun g => at77 hcc hs r) (fun g => ?_) r.2.2.1 rfl
    by_cases hi : i < 1000
    · refine c_Read_fail r (by omega) i (fun h' s' r' => ?_) r.2.1
      rw [if_neg (by omega)] at r'
      exact at77 h' (hs.t (s'.mo (by decide) (by decide))) r'
    · refine c_Read_fail r (by omega) i (fun h' s' r' => ?_) r.2.1
      rw [if_neg (by omega)] at r'
      exact at77 h' (hs.t (s'.mo (by decide) (by decide))) r'
  have dead : ∀ (f d i c k : Nat) (hcc : St) (z1 : Int32), RES = .inl (f, d) → f < 1000 → d ≤ 4 → i < 2000 → k < 2000 → SmQ h hcc → RS N T i d c f hcc → z1 = iI (k : Nat) → SR y_Read_read 25 [some (.ref 75), some (.int z1)] [] hcc Q := by
    intro f d i c k hcc z1 hr hf hd hi hk hs r e1
    refine w_loop IS_ok [62] ok_Read_read ?_
    refine w_le 100 k (fun _ => dead62 f d i c hcc _ hr hf hd hs r) (fun _ => ?_) rfl e1
    refine w_le N i (fun _ => dead62 f d i c hcc _ hr hf hd hs r) (fun _ => ?_) r.1.1 r.2.1
    refine w_le 0 f (fun _ => dead62 f d i c hcc _ hr hf hd hs r) (fun _ => by omega) rfl r.2.2.2.2
  have endd : ∀ (stk : List (Nat × List Ent)) (cur : List Ent) (i c : Nat) (C : Nat → Cod) (s : Nat) (hcc : St) (z1 : Int32), (if stk.length = 0 then .inr cur else .inl (N, stk.length)) = RES → i = N → SmQ h hcc → RS N T i stk.length c (-1) hcc → c ≤ i → stk.length ≤ 4 → StN C (hcc.2 83) stk s → SgN C stk.length s c cur → (∀ j, j < c → CdC T hcc j (C j)) → (∀ j, j < c → ∀ e, C j = cAct e → EntOk N T e) → SR y_Read_read 62 [some (.ref 75), some (.int z1)] [] hcc Q := by
    intro stk cur i c C s hcc z1 hr hi hs r hci hlen hst hsg hcd hok
    subst hi
    refine w_loop IS_ok [] ok_Read_read ?_
    refine w_le stk.length 0 (fun g => ?_) (fun g => ?_) r.2.2.1 rfl
    · refine w_le 0 (-1) (fun g2 => by omega) (fun g2 => ?_) rfl r.2.2.2.2
      rw [if_pos (by omega)] at hr
      have hs0 : s = 0 := by
        cases stk with
        | nil => exact hst
        | cons x y => rw [List.length_cons] at g; omega
      have hl0 : stk.length = 0 := by omega
      rw [hs0, hl0] at hsg
      exact ⟨Or.inr rfl, hQ1 cur C c hcc hr.symm hs (by omega) r.2.2.2.1 hcd hsg hok⟩
    · rw [if_neg (by omega)] at hr
      refine c_Read_fail r (by omega) i (fun h' s' r' => ?_) r.2.1
      rw [if_pos (by omega)] at r'
      refine w_le 0 i (fun g2 => ?_) (fun g2 => by omega) rfl r'.2.2.2.2
      exact ⟨Or.inl rfl, hQF i stk.length h' hr.symm (hs.t (s'.mo (by decide) (by decide))) r'.2.2.2.2 r'.2.2.1⟩
  have loop : ∀ (f i k : Nat) (stk : List (Nat × List Ent)) (cur : List Ent) (c : Nat) (C : Nat → Cod) (s : Nat) (hcc : St) (z1 : Int32), rd (chr N T) N f i stk cur = RES → N ≤ f + i → i ≤ N → k ≤ i → SmQ h hcc → RS N T i stk.length c (-1) hcc → c ≤ i → stk.length ≤ 4 → StN C (hcc.2 83) stk s → SgN C stk.length s c cur → (∀ j, j < c → CdC T hcc j (C j)) → (∀ j, j < c → ∀ e, C j = cAct e → EntOk N T e) → z1 = iI (k : Nat) → SR y_Read_read 25 [some (.ref 75), some (.int z1)] [] hcc Q := by
    intro f
    induction f with
    | zero =>
      intro i k stk cur c C s hcc z1 hr hf hi hki hs r hci hlen hst hsg hcd hok e1
      refine w_loop IS_ok [62] ok_Read_read ?_
      have fin := fun z => endd stk cur i c C s hcc z hr (by omega) hs r hci hlen hst hsg hcd hok
      refine w_le 100 k (fun _ => fin _) (fun _ => ?_) rfl e1
      exact w_le N i (fun _ => fin _) (fun _ => by omega) r.1.1 r.2.1
    | succ f ih =>
      intro i k stk cur c C s hcc z1 hr hf hi hki hs r hci hlen hst hsg hcd hok e1
      unfold rd at hr
      by_cases hin : i < N
      · rw [if_pos hin] at hr
        refine w_loop IS_ok [25, 62] ok_Read_read ?_
        refine w_le 100 k (fun _ => by omega) (fun _ => ?_) rfl e1
        refine w_le N i (fun _ => by omega) (fun _ => ?_) r.1.1 r.2.1
        refine w_le 0 (-1) (fun g2 => by omega) (fun g2 => ?_) rfl r.2.2.2.2
        have hok2 : ∀ x : Cod, (∀ e, x = cAct e → EntOk N T e) → ∀ j, j < c + 1 → ∀ e, u1 C c x j = cAct e → EntOk N T e := by
          intro x hx j hj e he
          by_cases z : j = c
          · subst z; rw [u1_s] at he; exact hx e he
          · rw [u1_n _ _ z] at he; exact hok j (by omega) e he
        have he3 : ∀ j, j < c → ∀ e, C j = cAct e → nArg (T e.1) ≤ 3 := fun j hj e he => (hok j hj e he).2.1
        have hCn : ∀ (x : Cod) (m : Nat), m ≤ c → ∀ q, q < m → u1 C c x q = C q := fun x m hm q hq => u1_n _ _ (by omega)
        have hm := hsg.mono
        -- the innermost group's opening
        have hopen : ∃ o : Nat, (0 < stk.length → hcc.2 83 (stk.length - 1) = iI (o : Nat)) ∧ o < 1000 ∧ (0 < stk.length → s = o + 1) := by
          cases stk with
          | nil => exact ⟨0, fun z => by simp at z, by omega, fun z => by simp at z⟩
          | cons x rest =>
            obtain ⟨t, prev⟩ := x
            obtain ⟨o, s', h1, h2, h3, h4, h5, h6, h7, h8⟩ := hst
            refine ⟨o, fun _ => ?_, by omega, fun _ => h1⟩
            rw [List.length_cons, Nat.add_sub_cancel]
            exact h6
        obtain ⟨o, ho, ho1, hso⟩ := hopen
        refine c_Read_readNext hB r hin (by omega) hlen o ho ho1 ?_ ?_ ?_ ?_ ?_
        · intro f' i' c' h' hfb e hs' r'
          rw [e] at hr
          exact dead f' stk.length i' c' (k + 1) h' _ hr.symm hfb.1 hlen (by omega) (by omega) (hs.t hs') r' (iI_1 e1)
        · intro p a h' e hs' r' hcd' hkp h83
          rw [e] at hr
          have hb := item_act hin hlen e
          exact ih p (k + 1) stk _ (c + 1) (u1 C c (cAct (i, stk.length + 1, a))) s h' _ hr (by omega) hb.2.1 (by omega) (hs.t hs') r' (by omega) hlen (hst.mo (hCn _ _ hm.1) (fun q _ => by rw [h83])) ((hm.2.2.2 _ (hCn _ _ (Nat.le_refl _))).act (u1_s _ _ _)) (cdc_u hkp he3 hcd hcd') (hok2 _ (fun e he => by cases he; exact hb.2.2)) (iI_1 e1)
        · intro q t h' e hd4 hs' r' hcd' hkp h83
          rw [e] at hr
          have hb := item_opn e
          refine ih (q + 1) (k + 1) ((t, cur) :: stk) [] (c + 1) (u1 C c (cOpn t)) (c + 1) h' _ hr (by omega) (by omega) (by omega) (hs.t hs') r' (by omega) (by rw [List.length_cons]; omega) ?_ SgN.nil (cdc_u hkp he3 hcd hcd') (hok2 _ (fun e he => by cases he)) (iI_1 e1)
          refine ⟨c, s, rfl, u1_s _ _ _, hb.2.2.1, hb.2.2.2.1, hd4, by rw [h83, u1_s], hm.2.2.2 _ (hCn _ _ (Nat.le_refl _)), hst.mo (hCn _ _ hm.1) (fun q hq => by rw [h83, u1_n _ _ (by omega)])⟩
        · intro h' e hd0 hco hs' r' hrow
          rw [e] at hr
          cases stk with
          | nil => cases hd0
          | cons x rest =>
            obtain ⟨t, prev⟩ := x
            obtain ⟨o', s', e1', e2, e3, e4, e5, e6, e7, e8⟩ := hst
            have eoo : o' = o := by have := hso (by simp); omega
            subst eoo
            rw [List.length_cons] at hlen r'
            rw [Nat.add_sub_cancel] at r'
            have hm7 := e7.mono
            have hnil : cur = [] := hm.2.1 (by omega)
            subst hnil
            have efl : prev ++ (List.replicate t ([] : List Ent)).flatten = prev := by simp
            have hr : rd (chr N T) N f (i + 1) rest (prev ++ (List.replicate t ([] : List Ent)).flatten) = RES := hr
            rw [efl] at hr
            refine ih (i + 1) (k + 1) rest prev o' C s' h' _ hr (by omega) (by omega) (by omega) (hs.t hs') r' (by omega) (by omega) (e8.mo (fun _ _ => rfl) (fun q _ => by rw [hrow])) e7 (fun j hj => ?_) (fun j hj => hok j (by omega)) (iI_1 e1)
            exact (hcd j (by omega)).kp (c := c) (fun q _ => by rw [hrow]) (by omega) (he3 j (by omega))
        · intro h' e hd0 hco hs' r' hcd' hkp h83
          rw [e] at hr
          cases stk with
          | nil => cases hd0
          | cons x rest =>
            obtain ⟨t, prev⟩ := x
            obtain ⟨o', s', e1', e2, e3, e4, e5, e6, e7, e8⟩ := hst
            have eoo : o' = o := by have := hso (by simp); omega
            subst eoo
            rw [List.length_cons] at hlen r'
            rw [Nat.add_sub_cancel] at r'
            have hm7 := e7.mono
            have hne : cur ≠ [] := hm.2.2.1 (by omega)
            have hr : rd (chr N T) N f (i + 1) rest (prev ++ (List.replicate t cur).flatten) = RES := hr
            refine ih (i + 1) (k + 1) rest _ (c + 1) (u1 C c (cCls o')) s' h' _ hr (by omega) (by omega) (by omega) (hs.t hs') r' (by omega) (by omega) (e8.mo (hCn _ _ (by omega)) (fun q _ => by rw [h83])) ?_ (cdc_u hkp he3 hcd hcd') (hok2 _ (fun e he => by cases he)) (iI_1 e1)
            have hsg2 := hm.2.2.2 (u1 C c (cCls o')) (hCn _ _ (Nat.le_refl _))
            rw [e1'] at hsg2
            exact (hm7.2.2.2 _ (hCn _ _ (by omega))).grp hsg2 ((hCn _ (o' + 1) (by omega) o' (by omega)).trans e2) (u1_s _ _ _) e3 e4 e5 hne
      · rw [if_neg hin] at hr
        refine w_loop IS_ok [62] ok_Read_read ?_
        have fin := fun z => endd stk cur i c C s hcc z hr (by omega) hs r hci hlen hst hsg hcd hok
        refine w_le 100 k (fun _ => fin _) (fun _ => ?_) rfl e1
        exact w_le N i (fun _ => fin _) (fun _ => by omega) r.1.1 r.2.1
  have hs4 : SmQ h (pg (pg (pg (pg h 79 1 0) 75 3 0) 75 4 0) 75 5 (-1)) := (((Sm.pg _ (by decide)).t (Sm.pg _ (by decide))).t (Sm.pg _ (by decide))).t (Sm.pg _ (by decide))
  exact loop N 0 0 [] [] 0 (fun _ => cCls 0) 0 (pg (pg (pg (pg h 79 1 0) 75 3 0) 75 4 0) 75 5 (-1)) _ hres (by omega) (by omega) (by omega) hs4 ⟨hT.sm hs4 (by decide) (by decide), rfl, rfl, rfl, rfl⟩ (by omega) (by decide) rfl SgN.nil (fun j hj => by omega) (fun j hj => by omega) rfl
