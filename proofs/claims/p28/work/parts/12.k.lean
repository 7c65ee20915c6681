theorem e_sw_map {x : Int32} {d : Nat} {k k' : Nat → Prop} (hkk : ∀ t, k t → k' t) : ∀ {sw : List (Int32 × Nat)}, e_sw sw d x k → e_sw sw d x k'
  | [], h => hkk _ h
  | (v, t) :: r, h => by
    unfold e_sw at h ⊢
    by_cases hx : x = v
    · rw [if_pos hx] at h ⊢
      exact hkk _ h
    · rw [if_neg hx] at h ⊢
      exact e_sw_map hkk h
theorem e_pure_len {y pc len r1 r2 : Nat} {nest : Bool} {hh : List Nat} {i : Instr} {sw : List (Int32 × Nat)} {L L' : List (Option Value)} {st st' : List Value} (h : e_pure i sw r1 L st = some (L', st')) (hok : e_okB y pc (i, len, r1, r2, nest, hh, sw) = true) : len = e_len i ∧ e_need y i r1 0 false sw = e_need y i r1 r2 nest sw := by
  unfold e_pure at h
  split at h <;> first
    | (cases h; done)
    | (simp only [e_okB, Bool.and_eq_true] at hok; exact ⟨Nat.eq_of_beq_eq_true hok.2, rfl⟩)
theorem g_rlen_of {σ : Sg} {a : Nat} {v : Value} (h : g_rget σ a 0 = some v) : g_rlen σ a = some (σ.1.2 a).2 := by
  obtain ⟨h1, h2, -⟩ := g_rget_spec h
  unfold g_rlen
  rw [show (Nat.blt a σ.1.1 && Nat.beq (σ.1.2 a).1 101) = true by rw [Bool.and_eq_true]; exact ⟨by simpa [Nat.blt_eq] using h1, by rw [h2]; rfl⟩]
  rfl
set_option maxHeartbeats 16000000 in
theorem e_k_ok {η : Type} {I : e_IT η} (hI : e_IOk I) {y pc len r1 r2 : Nat} {nest : Bool} {hh : List Nat} {i : Instr} {sw : List (Int32 × Nat)} {L : List (Option Value)} {st : List Value} {B : Nat × Nat} {h : η} {Q : Option Value → η → Prop} {K : Nat → List (Option Value) → List Value → Nat × Nat → η → Prop} (hM : OkM y) (ho : e_op y pc = some (i, len, r1, r2, nest, hh, sw)) (ih : ∀ pc L st B h, K pc L st B h → e_RunI I y pc L st B h Q)
    (hk : e_k I y i len r1 r2 sw pc L st B h Q K) : e_RunI I y pc L st B h Q := by
  obtain ⟨hok, hneed⟩ := okm_at hM ho
  obtain ⟨hdg, hsw⟩ := okb_dec hok
  dsimp only at hdg hsw
  unfold e_k at hk
  obtain ⟨i1, i2, i3, i4, i5, i6, i7, i8, i9, i10⟩ := hI
  split at hk
  -- goto
  · simp only [e_okB, Bool.and_eq_true, decide_eq_true_eq] at hok
    have hlen := Nat.eq_of_beq_eq_true hok.2.1
    subst hlen
    intro p l e R s m args below meth c D b cI cS H0 Z Cx H locs cells slots ls hS hlo hc1 hc2 hL
    obtain ⟨hx, hb, hml, hown, hts, hK, hfr, hlc, hnm, hret, -⟩ := id Cx
    have go : ∀ pc' L' st' ls', K pc' L' st' B h → e_LH b (e_x0 y args) ls' (mML y) L' → W p l e R s m args below meth c H locs cells slots Z (F0 m pc' ls' (st'.map (e_v b))) := fun pc' L' st' ls' hK' hL' => ih _ _ _ _ _ hK' p l e R s m args below meth c D b cI cS H0 Z Cx H locs cells slots ls' hS hlo hc1 hc2 hL'
    exact lv_goto hx hb hdg hok.2.2 (go _ _ _ _ hk hL)
  -- icmp eq
  · simp only [e_okB, Bool.and_eq_true, decide_eq_true_eq] at hok
    have hlen := Nat.eq_of_beq_eq_true hok.2.1
    subst hlen
    split at hk
    · intro p l e R s m args below meth c D b cI cS H0 Z Cx H locs cells slots ls hS hlo hc1 hc2 hL
      obtain ⟨hx, hb, hml, hown, hts, hK, hfr, hlc, hnm, hret, -⟩ := id Cx
      have go : ∀ pc' L' st' ls', K pc' L' st' B h → e_LH b (e_x0 y args) ls' (mML y) L' → W p l e R s m args below meth c H locs cells slots Z (F0 m pc' ls' (st'.map (e_v b))) := fun pc' L' st' ls' hK' hL' => ih _ _ _ _ _ hK' p l e R s m args below meth c D b cI cS H0 Z Cx H locs cells slots ls' hS hlo hc1 hc2 hL'
      refine lv_icmp_eq hx hb hdg hok.2.2 (fun hc => ?_) (fun hc => ?_)
      · rw [if_pos hc] at hk
        exact go _ _ _ _ hk hL
      · rw [if_neg hc] at hk
        exact go _ _ _ _ hk hL
    · exact hk.elim
  -- icmp ne
  · simp only [e_okB, Bool.and_eq_true, decide_eq_true_eq] at hok
    have hlen := Nat.eq_of_beq_eq_true hok.2.1
    subst hlen
    split at hk
    · intro p l e R s m args below meth c D b cI cS H0 Z Cx H locs cells slots ls hS hlo hc1 hc2 hL
      obtain ⟨hx, hb, hml, hown, hts, hK, hfr, hlc, hnm, hret, -⟩ := id Cx
      have go : ∀ pc' L' st' ls', K pc' L' st' B h → e_LH b (e_x0 y args) ls' (mML y) L' → W p l e R s m args below meth c H locs cells slots Z (F0 m pc' ls' (st'.map (e_v b))) := fun pc' L' st' ls' hK' hL' => ih _ _ _ _ _ hK' p l e R s m args below meth c D b cI cS H0 Z Cx H locs cells slots ls' hS hlo hc1 hc2 hL'
      refine lv_icmp_ne hx hb hdg hok.2.2 (fun hc => ?_) (fun hc => ?_)
      · rw [if_neg hc] at hk
        exact go _ _ _ _ hk hL
      · rw [if_pos hc] at hk
        exact go _ _ _ _ hk hL
    · exact hk.elim
  -- icmp lt
  · simp only [e_okB, Bool.and_eq_true, decide_eq_true_eq] at hok
    have hlen := Nat.eq_of_beq_eq_true hok.2.1
    subst hlen
    split at hk
    · intro p l e R s m args below meth c D b cI cS H0 Z Cx H locs cells slots ls hS hlo hc1 hc2 hL
      obtain ⟨hx, hb, hml, hown, hts, hK, hfr, hlc, hnm, hret, -⟩ := id Cx
      have go : ∀ pc' L' st' ls', K pc' L' st' B h → e_LH b (e_x0 y args) ls' (mML y) L' → W p l e R s m args below meth c H locs cells slots Z (F0 m pc' ls' (st'.map (e_v b))) := fun pc' L' st' ls' hK' hL' => ih _ _ _ _ _ hK' p l e R s m args below meth c D b cI cS H0 Z Cx H locs cells slots ls' hS hlo hc1 hc2 hL'
      refine lv_icmp_lt hx hb hdg hok.2.2 (fun hc => ?_) (fun hc => ?_)
      · rw [if_pos hc] at hk
        exact go _ _ _ _ hk hL
      · rw [if_neg hc] at hk
        exact go _ _ _ _ hk hL
    · exact hk.elim
  -- icmp ge
  · simp only [e_okB, Bool.and_eq_true, decide_eq_true_eq] at hok
    have hlen := Nat.eq_of_beq_eq_true hok.2.1
    subst hlen
    split at hk
    · intro p l e R s m args below meth c D b cI cS H0 Z Cx H locs cells slots ls hS hlo hc1 hc2 hL
      obtain ⟨hx, hb, hml, hown, hts, hK, hfr, hlc, hnm, hret, -⟩ := id Cx
      have go : ∀ pc' L' st' ls', K pc' L' st' B h → e_LH b (e_x0 y args) ls' (mML y) L' → W p l e R s m args below meth c H locs cells slots Z (F0 m pc' ls' (st'.map (e_v b))) := fun pc' L' st' ls' hK' hL' => ih _ _ _ _ _ hK' p l e R s m args below meth c D b cI cS H0 Z Cx H locs cells slots ls' hS hlo hc1 hc2 hL'
      refine lv_icmp_ge hx hb hdg hok.2.2 (fun hc => ?_) (fun hc => ?_)
      · rw [if_pos hc] at hk
        exact go _ _ _ _ hk hL
      · rw [if_neg hc] at hk
        exact go _ _ _ _ hk hL
    · exact hk.elim
  -- icmp gt
  · simp only [e_okB, Bool.and_eq_true, decide_eq_true_eq] at hok
    have hlen := Nat.eq_of_beq_eq_true hok.2.1
    subst hlen
    split at hk
    · intro p l e R s m args below meth c D b cI cS H0 Z Cx H locs cells slots ls hS hlo hc1 hc2 hL
      obtain ⟨hx, hb, hml, hown, hts, hK, hfr, hlc, hnm, hret, -⟩ := id Cx
      have go : ∀ pc' L' st' ls', K pc' L' st' B h → e_LH b (e_x0 y args) ls' (mML y) L' → W p l e R s m args below meth c H locs cells slots Z (F0 m pc' ls' (st'.map (e_v b))) := fun pc' L' st' ls' hK' hL' => ih _ _ _ _ _ hK' p l e R s m args below meth c D b cI cS H0 Z Cx H locs cells slots ls' hS hlo hc1 hc2 hL'
      refine lv_icmp_gt hx hb hdg hok.2.2 (fun hc => ?_) (fun hc => ?_)
      · rw [if_pos hc] at hk
        exact go _ _ _ _ hk hL
      · rw [if_neg hc] at hk
        exact go _ _ _ _ hk hL
    · exact hk.elim
  -- icmp le
  · simp only [e_okB, Bool.and_eq_true, decide_eq_true_eq] at hok
    have hlen := Nat.eq_of_beq_eq_true hok.2.1
    subst hlen
    split at hk
    · intro p l e R s m args below meth c D b cI cS H0 Z Cx H locs cells slots ls hS hlo hc1 hc2 hL
      obtain ⟨hx, hb, hml, hown, hts, hK, hfr, hlc, hnm, hret, -⟩ := id Cx
      have go : ∀ pc' L' st' ls', K pc' L' st' B h → e_LH b (e_x0 y args) ls' (mML y) L' → W p l e R s m args below meth c H locs cells slots Z (F0 m pc' ls' (st'.map (e_v b))) := fun pc' L' st' ls' hK' hL' => ih _ _ _ _ _ hK' p l e R s m args below meth c D b cI cS H0 Z Cx H locs cells slots ls' hS hlo hc1 hc2 hL'
      refine lv_icmp_le hx hb hdg hok.2.2 (fun hc => ?_) (fun hc => ?_)
      · rw [if_pos hc] at hk
        exact go _ _ _ _ hk hL
      · rw [if_neg hc] at hk
        exact go _ _ _ _ hk hL
    · exact hk.elim
  -- if eq
  · simp only [e_okB, Bool.and_eq_true, decide_eq_true_eq] at hok
    have hlen := Nat.eq_of_beq_eq_true hok.2.1
    subst hlen
    split at hk
    · intro p l e R s m args below meth c D b cI cS H0 Z Cx H locs cells slots ls hS hlo hc1 hc2 hL
      obtain ⟨hx, hb, hml, hown, hts, hK, hfr, hlc, hnm, hret, -⟩ := id Cx
      have go : ∀ pc' L' st' ls', K pc' L' st' B h → e_LH b (e_x0 y args) ls' (mML y) L' → W p l e R s m args below meth c H locs cells slots Z (F0 m pc' ls' (st'.map (e_v b))) := fun pc' L' st' ls' hK' hL' => ih _ _ _ _ _ hK' p l e R s m args below meth c D b cI cS H0 Z Cx H locs cells slots ls' hS hlo hc1 hc2 hL'
      refine lv_if_eq hx hb hdg hok.2.2 (fun hc => ?_) (fun hc => ?_)
      · rw [if_pos hc] at hk
        exact go _ _ _ _ hk hL
      · rw [if_neg hc] at hk
        exact go _ _ _ _ hk hL
    · exact hk.elim
  -- if ne
  · simp only [e_okB, Bool.and_eq_true, decide_eq_true_eq] at hok
    have hlen := Nat.eq_of_beq_eq_true hok.2.1
    subst hlen
    split at hk
    · intro p l e R s m args below meth c D b cI cS H0 Z Cx H locs cells slots ls hS hlo hc1 hc2 hL
      obtain ⟨hx, hb, hml, hown, hts, hK, hfr, hlc, hnm, hret, -⟩ := id Cx
      have go : ∀ pc' L' st' ls', K pc' L' st' B h → e_LH b (e_x0 y args) ls' (mML y) L' → W p l e R s m args below meth c H locs cells slots Z (F0 m pc' ls' (st'.map (e_v b))) := fun pc' L' st' ls' hK' hL' => ih _ _ _ _ _ hK' p l e R s m args below meth c D b cI cS H0 Z Cx H locs cells slots ls' hS hlo hc1 hc2 hL'
      refine lv_if_ne hx hb hdg hok.2.2 (fun hc => ?_) (fun hc => ?_)
      · rw [if_neg hc] at hk
        exact go _ _ _ _ hk hL
      · rw [if_pos hc] at hk
        exact go _ _ _ _ hk hL
    · exact hk.elim
  -- if lt
  · simp only [e_okB, Bool.and_eq_true, decide_eq_true_eq] at hok
    have hlen := Nat.eq_of_beq_eq_true hok.2.1
    subst hlen
    split at hk
    · intro p l e R s m args below meth c D b cI cS H0 Z Cx H locs cells slots ls hS hlo hc1 hc2 hL
      obtain ⟨hx, hb, hml, hown, hts, hK, hfr, hlc, hnm, hret, -⟩ := id Cx
      have go : ∀ pc' L' st' ls', K pc' L' st' B h → e_LH b (e_x0 y args) ls' (mML y) L' → W p l e R s m args below meth c H locs cells slots Z (F0 m pc' ls' (st'.map (e_v b))) := fun pc' L' st' ls' hK' hL' => ih _ _ _ _ _ hK' p l e R s m args below meth c D b cI cS H0 Z Cx H locs cells slots ls' hS hlo hc1 hc2 hL'
      refine lv_if_lt hx hb hdg hok.2.2 (fun hc => ?_) (fun hc => ?_)
      · rw [if_pos hc] at hk
        exact go _ _ _ _ hk hL
      · rw [if_neg hc] at hk
        exact go _ _ _ _ hk hL
    · exact hk.elim
  -- if ge
  · simp only [e_okB, Bool.and_eq_true, decide_eq_true_eq] at hok
    have hlen := Nat.eq_of_beq_eq_true hok.2.1
    subst hlen
    split at hk
    · intro p l e R s m args below meth c D b cI cS H0 Z Cx H locs cells slots ls hS hlo hc1 hc2 hL
      obtain ⟨hx, hb, hml, hown, hts, hK, hfr, hlc, hnm, hret, -⟩ := id Cx
      have go : ∀ pc' L' st' ls', K pc' L' st' B h → e_LH b (e_x0 y args) ls' (mML y) L' → W p l e R s m args below meth c H locs cells slots Z (F0 m pc' ls' (st'.map (e_v b))) := fun pc' L' st' ls' hK' hL' => ih _ _ _ _ _ hK' p l e R s m args below meth c D b cI cS H0 Z Cx H locs cells slots ls' hS hlo hc1 hc2 hL'
      refine lv_if_ge hx hb hdg hok.2.2 (fun hc => ?_) (fun hc => ?_)
      · rw [if_pos hc] at hk
        exact go _ _ _ _ hk hL
      · rw [if_neg hc] at hk
        exact go _ _ _ _ hk hL
    · exact hk.elim
  -- if gt
  · simp only [e_okB, Bool.and_eq_true, decide_eq_true_eq] at hok
    have hlen := Nat.eq_of_beq_eq_true hok.2.1
    subst hlen
    split at hk
    · intro p l e R s m args below meth c D b cI cS H0 Z Cx H locs cells slots ls hS hlo hc1 hc2 hL
      obtain ⟨hx, hb, hml, hown, hts, hK, hfr, hlc, hnm, hret, -⟩ := id Cx
      have go : ∀ pc' L' st' ls', K pc' L' st' B h → e_LH b (e_x0 y args) ls' (mML y) L' → W p l e R s m args below meth c H locs cells slots Z (F0 m pc' ls' (st'.map (e_v b))) := fun pc' L' st' ls' hK' hL' => ih _ _ _ _ _ hK' p l e R s m args below meth c D b cI cS H0 Z Cx H locs cells slots ls' hS hlo hc1 hc2 hL'
      refine lv_if_gt hx hb hdg hok.2.2 (fun hc => ?_) (fun hc => ?_)
      · rw [if_pos hc] at hk
        exact go _ _ _ _ hk hL
      · rw [if_neg hc] at hk
        exact go _ _ _ _ hk hL
    · exact hk.elim
  -- if le
  · simp only [e_okB, Bool.and_eq_true, decide_eq_true_eq] at hok
    have hlen := Nat.eq_of_beq_eq_true hok.2.1
    subst hlen
    split at hk
    · intro p l e R s m args below meth c D b cI cS H0 Z Cx H locs cells slots ls hS hlo hc1 hc2 hL
      obtain ⟨hx, hb, hml, hown, hts, hK, hfr, hlc, hnm, hret, -⟩ := id Cx
      have go : ∀ pc' L' st' ls', K pc' L' st' B h → e_LH b (e_x0 y args) ls' (mML y) L' → W p l e R s m args below meth c H locs cells slots Z (F0 m pc' ls' (st'.map (e_v b))) := fun pc' L' st' ls' hK' hL' => ih _ _ _ _ _ hK' p l e R s m args below meth c D b cI cS H0 Z Cx H locs cells slots ls' hS hlo hc1 hc2 hL'
      refine lv_if_le hx hb hdg hok.2.2 (fun hc => ?_) (fun hc => ?_)
      · rw [if_pos hc] at hk
        exact go _ _ _ _ hk hL
      · rw [if_neg hc] at hk
        exact go _ _ _ _ hk hL
    · exact hk.elim
  -- ifnull
  · simp only [e_okB, Bool.and_eq_true, decide_eq_true_eq] at hok
    have hlen : len = 3 := Nat.eq_of_beq_eq_true hok.2
    subst hlen
    split at hk
    · intro p l e R s m args below meth c D b cI cS H0 Z Cx H locs cells slots ls hS hlo hc1 hc2 hL
      obtain ⟨hx, hb, hml, hown, hts, hK, hfr, hlc, hnm, hret, -⟩ := id Cx
      have go : ∀ pc' L' st' ls', K pc' L' st' B h → e_LH b (e_x0 y args) ls' (mML y) L' → W p l e R s m args below meth c H locs cells slots Z (F0 m pc' ls' (st'.map (e_v b))) := fun pc' L' st' ls' hK' hL' => ih _ _ _ _ _ hK' p l e R s m args below meth c D b cI cS H0 Z Cx H locs cells slots ls' hS hlo hc1 hc2 hL'
      exact lv_ifnull hx hb hdg (go _ _ _ _ hk hL)
    · exact hk.elim
  -- tableswitch
  · simp only [e_okB, Bool.and_eq_true, decide_eq_true_eq] at hok
    split at hk
    · intro p l e R s m args below meth c D b cI cS H0 Z Cx H locs cells slots ls hS hlo hc1 hc2 hL
      obtain ⟨hx, hb, hml, hown, hts, hK, hfr, hlc, hnm, hret, -⟩ := id Cx
      have go : ∀ pc' L' st' ls', K pc' L' st' B h → e_LH b (e_x0 y args) ls' (mML y) L' → W p l e R s m args below meth c H locs cells slots Z (F0 m pc' ls' (st'.map (e_v b))) := fun pc' L' st' ls' hK' hL' => ih _ _ _ _ _ hK' p l e R s m args below meth c D b cI cS H0 Z Cx H locs cells slots ls' hS hlo hc1 hc2 hL'
      exact e_table_ok hx hb hdg hok.2.1 hok.2.2 (e_sw_map (fun t ht => go _ _ _ _ ht hL) hk)
    · exact hk.elim
  -- lookupswitch
  · simp only [e_okB, Bool.and_eq_true, decide_eq_true_eq] at hok
    split at hk
    · intro p l e R s m args below meth c D b cI cS H0 Z Cx H locs cells slots ls hS hlo hc1 hc2 hL
      obtain ⟨hx, hb, hml, hown, hts, hK, hfr, hlc, hnm, hret, -⟩ := id Cx
      have go : ∀ pc' L' st' ls', K pc' L' st' B h → e_LH b (e_x0 y args) ls' (mML y) L' → W p l e R s m args below meth c H locs cells slots Z (F0 m pc' ls' (st'.map (e_v b))) := fun pc' L' st' ls' hK' hL' => ih _ _ _ _ _ hK' p l e R s m args below meth c D b cI cS H0 Z Cx H locs cells slots ls' hS hlo hc1 hc2 hL'
      exact e_lookup_ok hx hb hdg hok.2.1 hok.2.2 (e_sw_map (fun t ht => go _ _ _ _ ht hL) hk)
    · exact hk.elim
  -- idiv
  · simp only [e_okB, Bool.and_eq_true, decide_eq_true_eq] at hok
    have hlen : len = 1 := Nat.eq_of_beq_eq_true hok.2
    subst hlen
    split at hk
    · intro p l e R s m args below meth c D b cI cS H0 Z Cx H locs cells slots ls hS hlo hc1 hc2 hL
      obtain ⟨hx, hb, hml, hown, hts, hK, hfr, hlc, hnm, hret, -⟩ := id Cx
      have go : ∀ pc' L' st' ls', K pc' L' st' B h → e_LH b (e_x0 y args) ls' (mML y) L' → W p l e R s m args below meth c H locs cells slots Z (F0 m pc' ls' (st'.map (e_v b))) := fun pc' L' st' ls' hK' hL' => ih _ _ _ _ _ hK' p l e R s m args below meth c D b cI cS H0 Z Cx H locs cells slots ls' hS hlo hc1 hc2 hL'
      exact lv_idiv hx hb hdg hk.1 (go _ _ _ _ hk.2 hL)
    · exact hk.elim
  -- irem
  · simp only [e_okB, Bool.and_eq_true, decide_eq_true_eq] at hok
    have hlen : len = 1 := Nat.eq_of_beq_eq_true hok.2
    subst hlen
    split at hk
    · intro p l e R s m args below meth c D b cI cS H0 Z Cx H locs cells slots ls hS hlo hc1 hc2 hL
      obtain ⟨hx, hb, hml, hown, hts, hK, hfr, hlc, hnm, hret, -⟩ := id Cx
      have go : ∀ pc' L' st' ls', K pc' L' st' B h → e_LH b (e_x0 y args) ls' (mML y) L' → W p l e R s m args below meth c H locs cells slots Z (F0 m pc' ls' (st'.map (e_v b))) := fun pc' L' st' ls' hK' hL' => ih _ _ _ _ _ hK' p l e R s m args below meth c D b cI cS H0 Z Cx H locs cells slots ls' hS hlo hc1 hc2 hL'
      exact lv_irem hx hb hdg hk.1 (go _ _ _ _ hk.2 hL)
    · exact hk.elim
  -- getfield
  · simp only [e_okB, Bool.and_eq_true, decide_eq_true_eq] at hok
    have hlen := Nat.eq_of_beq_eq_true hok.2.1
    subst hlen
    have hr1 : r1 < 12 := by simpa [Nat.blt_eq] using hok.2.2.1
    have hr2 : r2 < (e_ct r1).2.2.1 := by simpa [Nat.blt_eq] using hok.2.2.2
    split at hk
    · split at hk
      · next hg =>
        intro p l e R s m args below meth c D b cI cS H0 Z Cx H locs cells slots ls hS hlo hc1 hc2 hL
        obtain ⟨hx, hb, hml, hown, hts, hK, hfr, hlc, hnm, hret, -⟩ := id Cx
        have go : ∀ pc' L' st' ls', K pc' L' st' B h → e_LH b (e_x0 y args) ls' (mML y) L' → W p l e R s m args below meth c H locs cells slots Z (F0 m pc' ls' (st'.map (e_v b))) := fun pc' L' st' ls' hK' hL' => ih _ _ _ _ _ hK' p l e R s m args below meth c D b cI cS H0 Z Cx H locs cells slots ls' hS hlo hc1 hc2 hL'
        exact e_getf_ok (nest := nest) hx hb hown hts hK hS (i1 _ _ _ _ _ hg) hr1 hr2 (hneed _ (by simp [e_need])) hdg (go _ _ _ _ hk hL)
      · exact hk.elim
    · exact hk.elim
  -- putfield
  · simp only [e_okB, Bool.and_eq_true, decide_eq_true_eq] at hok
    have hlen := Nat.eq_of_beq_eq_true hok.2.1
    subst hlen
    have hr1 : r1 < 12 := by simpa [Nat.blt_eq] using hok.2.2.1.1
    have hr2 : r2 < (e_ct r1).2.2.1 := by simpa [Nat.blt_eq] using hok.2.2.1.2
    split at hk
    · split at hk
      · next hg =>
        split at hk
        · next hbo =>
          intro p l e R s m args below meth c D b cI cS H0 Z Cx H locs cells slots ls hS hlo hc1 hc2 hL
          obtain ⟨hx, hb, hml, hown, hts, hK, hfr, hlc, hnm, hret, -⟩ := id Cx
          have go : ∀ pc' L' st' ls', K pc' L' st' B h → e_LH b (e_x0 y args) ls' (mML y) L' → W p l e R s m args below meth c H locs cells slots Z (F0 m pc' ls' (st'.map (e_v b))) := fun pc' L' st' ls' hK' hL' => ih _ _ _ _ _ hK' p l e R s m args below meth c D b cI cS H0 Z Cx H locs cells slots ls' hS hlo hc1 hc2 hL'
          refine e_putf_ok (nest := nest) hx hb hown hts hK hnm hS (i2 _ _ _ _ _ _ hg) hr1 hr2 (fun _ => hk.1) hok.2.2.2 (hneed _ (by simp [e_need])) hdg hlo (fun H' locs' hS' hlo' => ?_)
          exact ih _ _ _ _ _ hk.2 p l e R s m args below meth c D b cI cS H0 Z Cx H' locs' cells slots ls hS' hlo' hc1 hc2 hL
        · next hbo =>
          intro p l e R s m args below meth c D b cI cS H0 Z Cx H locs cells slots ls hS hlo hc1 hc2 hL
          obtain ⟨hx, hb, hml, hown, hts, hK, hfr, hlc, hnm, hret, -⟩ := id Cx
          have go : ∀ pc' L' st' ls', K pc' L' st' B h → e_LH b (e_x0 y args) ls' (mML y) L' → W p l e R s m args below meth c H locs cells slots Z (F0 m pc' ls' (st'.map (e_v b))) := fun pc' L' st' ls' hK' hL' => ih _ _ _ _ _ hK' p l e R s m args below meth c D b cI cS H0 Z Cx H locs cells slots ls' hS hlo hc1 hc2 hL'
          refine e_putf_ok (nest := nest) hx hb hown hts hK hnm hS (i2 _ _ _ _ _ _ hg) hr1 hr2 (fun z => (hbo z).elim) hok.2.2.2 (hneed _ (by simp [e_need])) hdg hlo (fun H' locs' hS' hlo' => ?_)
          exact ih _ _ _ _ _ hk p l e R s m args below meth c D b cI cS H0 Z Cx H' locs' cells slots ls hS' hlo' hc1 hc2 hL
      · exact hk.elim
    · exact hk.elim
  -- arraylength
  · simp only [e_okB, Bool.and_eq_true, decide_eq_true_eq] at hok
    have hlen : len = 1 := Nat.eq_of_beq_eq_true hok.2
    subst hlen
    split at hk
    · split at hk
      · next hg =>
        intro p l e R s m args below meth c D b cI cS H0 Z Cx H locs cells slots ls hS hlo hc1 hc2 hL
        obtain ⟨hx, hb, hml, hown, hts, hK, hfr, hlc, hnm, hret, -⟩ := id Cx
        have go : ∀ pc' L' st' ls', K pc' L' st' B h → e_LH b (e_x0 y args) ls' (mML y) L' → W p l e R s m args below meth c H locs cells slots Z (F0 m pc' ls' (st'.map (e_v b))) := fun pc' L' st' ls' hK' hL' => ih _ _ _ _ _ hK' p l e R s m args below meth c D b cI cS H0 Z Cx H locs cells slots ls' hS hlo hc1 hc2 hL'
        exact e_alen_ok hx hb hK hS (i3 _ _ _ hg) hdg (go _ _ _ _ hk hL)
      · split at hk
        · next hg =>
          intro p l e R s m args below meth c D b cI cS H0 Z Cx H locs cells slots ls hS hlo hc1 hc2 hL
          obtain ⟨hx, hb, hml, hown, hts, hK, hfr, hlc, hnm, hret, -⟩ := id Cx
          have go : ∀ pc' L' st' ls', K pc' L' st' B h → e_LH b (e_x0 y args) ls' (mML y) L' → W p l e R s m args below meth c H locs cells slots Z (F0 m pc' ls' (st'.map (e_v b))) := fun pc' L' st' ls' hK' hL' => ih _ _ _ _ _ hK' p l e R s m args below meth c D b cI cS H0 Z Cx H locs cells slots ls' hS hlo hc1 hc2 hL'
          exact e_rlen_ok hx hb hK hS (g_rlen_of (i6 _ _ _ _ hg)) hdg (go _ _ _ _ hk hL)
        · exact hk.elim
    · exact hk.elim
  -- iaload
  · simp only [e_okB, Bool.and_eq_true, decide_eq_true_eq] at hok
    have hlen : len = 1 := Nat.eq_of_beq_eq_true hok.2
    subst hlen
    split at hk
    · split at hk
      · next hg =>
        obtain ⟨j, hj1, hj2, hk⟩ := hk
        intro p l e R s m args below meth c D b cI cS H0 Z Cx H locs cells slots ls hS hlo hc1 hc2 hL
        obtain ⟨hx, hb, hml, hown, hts, hK, hfr, hlc, hnm, hret, -⟩ := id Cx
        have go : ∀ pc' L' st' ls', K pc' L' st' B h → e_LH b (e_x0 y args) ls' (mML y) L' → W p l e R s m args below meth c H locs cells slots Z (F0 m pc' ls' (st'.map (e_v b))) := fun pc' L' st' ls' hK' hL' => ih _ _ _ _ _ hK' p l e R s m args below meth c D b cI cS H0 Z Cx H locs cells slots ls' hS hlo hc1 hc2 hL'
        refine e_iald_ok hx hb hK hS (i3 _ _ _ hg) hj1 hj2 hdg ?_
        rw [i4]
        exact go _ _ _ _ hk hL
      · exact hk.elim
    · exact hk.elim
  -- iastore
  · simp only [e_okB, Bool.and_eq_true, decide_eq_true_eq] at hok
    have hlen : len = 1 := Nat.eq_of_beq_eq_true hok.2
    subst hlen
    split at hk
    · split at hk
      · next hg =>
        obtain ⟨j, hj1, hj2, hk⟩ := hk
        intro p l e R s m args below meth c D b cI cS H0 Z Cx H locs cells slots ls hS hlo hc1 hc2 hL
        obtain ⟨hx, hb, hml, hown, hts, hK, hfr, hlc, hnm, hret, -⟩ := id Cx
        have go : ∀ pc' L' st' ls', K pc' L' st' B h → e_LH b (e_x0 y args) ls' (mML y) L' → W p l e R s m args below meth c H locs cells slots Z (F0 m pc' ls' (st'.map (e_v b))) := fun pc' L' st' ls' hK' hL' => ih _ _ _ _ _ hK' p l e R s m args below meth c D b cI cS H0 Z Cx H locs cells slots ls' hS hlo hc1 hc2 hL'
        refine e_iast_ok hx hb hK hS (i3 _ _ _ hg) hj1 hj2 hdg hlo (fun H' locs' hS' hlo' => ?_)
        rw [show (I.1 h).2.2.2 _ = I.2.2.2.2.1 h _ from funext (fun j => i4 h _ j), ← i5] at hS'
        exact ih _ _ _ _ _ hk p l e R s m args below meth c D b cI cS H0 Z Cx H' locs' cells slots ls hS' hlo' hc1 hc2 hL
      · exact hk.elim
    · exact hk.elim
  -- aaload
  · simp only [e_okB, Bool.and_eq_true, decide_eq_true_eq] at hok
    have hlen : len = 1 := Nat.eq_of_beq_eq_true hok.2
    subst hlen
    split at hk
    · obtain ⟨j, hj1, hk⟩ := hk
      split at hk
      · next hg =>
        intro p l e R s m args below meth c D b cI cS H0 Z Cx H locs cells slots ls hS hlo hc1 hc2 hL
        obtain ⟨hx, hb, hml, hown, hts, hK, hfr, hlc, hnm, hret, -⟩ := id Cx
        have go : ∀ pc' L' st' ls', K pc' L' st' B h → e_LH b (e_x0 y args) ls' (mML y) L' → W p l e R s m args below meth c H locs cells slots Z (F0 m pc' ls' (st'.map (e_v b))) := fun pc' L' st' ls' hK' hL' => ih _ _ _ _ _ hK' p l e R s m args below meth c D b cI cS H0 Z Cx H locs cells slots ls' hS hlo hc1 hc2 hL'
        exact e_aald_ok hx hb hK hS (i6 _ _ _ _ hg) hj1 hdg (go _ _ _ _ hk hL)
      · exact hk.elim
    · exact hk.elim
  -- aastore
  · simp only [e_okB, Bool.and_eq_true, decide_eq_true_eq] at hok
    have hlen : len = 1 := Nat.eq_of_beq_eq_true hok.2
    subst hlen
    split at hk
    · obtain ⟨j, hj1, hk⟩ := hk
      split at hk
      · next hg =>
        intro p l e R s m args below meth c D b cI cS H0 Z Cx H locs cells slots ls hS hlo hc1 hc2 hL
        obtain ⟨hx, hb, hml, hown, hts, hK, hfr, hlc, hnm, hret, -⟩ := id Cx
        have go : ∀ pc' L' st' ls', K pc' L' st' B h → e_LH b (e_x0 y args) ls' (mML y) L' → W p l e R s m args below meth c H locs cells slots Z (F0 m pc' ls' (st'.map (e_v b))) := fun pc' L' st' ls' hK' hL' => ih _ _ _ _ _ hK' p l e R s m args below meth c D b cI cS H0 Z Cx H locs cells slots ls' hS hlo hc1 hc2 hL'
        refine e_aast_ok hx hb hK hS (i7 _ _ _ _ _ hg) hj1 hdg hlo (fun H' locs' hS' hlo' => ?_)
        exact ih _ _ _ _ _ hk p l e R s m args below meth c D b cI cS H0 Z Cx H' locs' cells slots ls hS' hlo' hc1 hc2 hL
      · exact hk.elim
    · exact hk.elim
  -- new
  · simp only [e_okB, Bool.and_eq_true, decide_eq_true_eq] at hok
    have hlen := Nat.eq_of_beq_eq_true hok.2.1
    subst hlen
    split at hk
    · next o h' hg =>
      cases hq : (Nat.ble 1 B.1 && Nat.ble (e_ct r1).2.2.1 B.2) with
      | false => rw [hq] at hk; exact hk.elim
      | true =>
        rw [hq] at hk
        rw [Bool.and_eq_true] at hq
        have q1 := Nat.le_of_ble_eq_true hq.1
        have q2 := Nat.le_of_ble_eq_true hq.2
        intro p l e R s m args below meth c D b cI cS H0 Z Cx H locs cells slots ls hS hlo hc1 hc2 hL
        obtain ⟨hx, hb, hml, hown, hts, hK, hfr, hlc, hnm, hret, -⟩ := id Cx
        have go : ∀ pc' L' st' ls', K pc' L' st' B h → e_LH b (e_x0 y args) ls' (mML y) L' → W p l e R s m args below meth c H locs cells slots Z (F0 m pc' ls' (st'.map (e_v b))) := fun pc' L' st' ls' hK' hL' => ih _ _ _ _ _ hK' p l e R s m args below meth c D b cI cS H0 Z Cx H locs cells slots ls' hS hlo hc1 hc2 hL'
        refine e_new_ok hx hb hown hts hK hS (i8 _ _ _ hg) (fun w hw => hneed w hw) (by omega) (by omega) hdg (fun H' hS' => ?_)
        exact ih _ _ _ _ _ hk p l e R s m args below meth c D b cI cS H0 Z Cx H' locs _ _ ls hS' hlo (by show cells + 1 + (B.1 - 1) ≤ _; omega) (by show slots + _ + (B.2 - _) ≤ _; omega) hL
    · exact hk.elim
  -- newarray
  · simp only [e_okB, Bool.and_eq_true, decide_eq_true_eq] at hok
    have hlen : len = 2 := Nat.eq_of_beq_eq_true hok.2
    subst hlen
    split at hk
    · obtain ⟨n, hj1, hk⟩ := hk
      split at hk
      · next o h' hg =>
        cases hq : (Nat.ble 1 B.1 && (Nat.ble n B.2 && Nat.blt n 100000)) with
        | false => rw [hq] at hk; exact hk.elim
        | true =>
          rw [hq] at hk
          rw [Bool.and_eq_true, Bool.and_eq_true] at hq
          have q1 := Nat.le_of_ble_eq_true hq.1
          have q2 := Nat.le_of_ble_eq_true hq.2.1
          have q3 : n < 100000 := by simpa [Nat.blt_eq] using hq.2.2
          intro p l e R s m args below meth c D b cI cS H0 Z Cx H locs cells slots ls hS hlo hc1 hc2 hL
          obtain ⟨hx, hb, hml, hown, hts, hK, hfr, hlc, hnm, hret, -⟩ := id Cx
          have go : ∀ pc' L' st' ls', K pc' L' st' B h → e_LH b (e_x0 y args) ls' (mML y) L' → W p l e R s m args below meth c H locs cells slots Z (F0 m pc' ls' (st'.map (e_v b))) := fun pc' L' st' ls' hK' hL' => ih _ _ _ _ _ hK' p l e R s m args below meth c D b cI cS H0 Z Cx H locs cells slots ls' hS hlo hc1 hc2 hL'
          refine e_newI_ok hx hb hts hK hS (i9 _ _ _ hg) hj1 q3 (hneed _ (by simp [e_need])) (by omega) (by omega) hdg (fun H' hS' => ?_)
          exact ih _ _ _ _ _ hk p l e R s m args below meth c D b cI cS H0 Z Cx H' locs _ _ ls hS' hlo (by show cells + 1 + (B.1 - 1) ≤ _; omega) (by show slots + _ + (B.2 - _) ≤ _; omega) hL
      · exact hk.elim
    · exact hk.elim
  -- anewarray
  · simp only [e_okB, Bool.and_eq_true, decide_eq_true_eq] at hok
    have hlen : len = 3 := Nat.eq_of_beq_eq_true hok.2
    subst hlen
    split at hk
    · obtain ⟨n, hj1, hk⟩ := hk
      split at hk
      · next o h' hg =>
        cases hq : (Nat.ble 1 B.1 && (Nat.ble n B.2 && Nat.blt n 100000)) with
        | false => rw [hq] at hk; exact hk.elim
        | true =>
          rw [hq] at hk
          rw [Bool.and_eq_true, Bool.and_eq_true] at hq
          have q1 := Nat.le_of_ble_eq_true hq.1
          have q2 := Nat.le_of_ble_eq_true hq.2.1
          have q3 : n < 100000 := by simpa [Nat.blt_eq] using hq.2.2
          intro p l e R s m args below meth c D b cI cS H0 Z Cx H locs cells slots ls hS hlo hc1 hc2 hL
          obtain ⟨hx, hb, hml, hown, hts, hK, hfr, hlc, hnm, hret, -⟩ := id Cx
          have go : ∀ pc' L' st' ls', K pc' L' st' B h → e_LH b (e_x0 y args) ls' (mML y) L' → W p l e R s m args below meth c H locs cells slots Z (F0 m pc' ls' (st'.map (e_v b))) := fun pc' L' st' ls' hK' hL' => ih _ _ _ _ _ hK' p l e R s m args below meth c D b cI cS H0 Z Cx H locs cells slots ls' hS hlo hc1 hc2 hL'
          refine e_newR_ok hx hb hown hts hK hS (i10 _ _ _ hg) hj1 q3 (fun w hw => hneed w hw) (by omega) (by omega) hdg (fun H' hS' => ?_)
          exact ih _ _ _ _ _ hk p l e R s m args below meth c D b cI cS H0 Z Cx H' locs _ _ ls hS' hlo (by show cells + 1 + (B.1 - 1) ≤ _; omega) (by show slots + _ + (B.2 - _) ≤ _; omega) hL
      · exact hk.elim
    · exact hk.elim
  -- ireturn
  · simp only [e_okB, Bool.and_eq_true, decide_eq_true_eq] at hok
    have hlen : len = 1 := Nat.eq_of_beq_eq_true hok.2
    subst hlen
    split at hk
    · split at hk
      · next hm =>
        intro p l e R s m args below meth c D b cI cS H0 Z Cx H locs cells slots ls hS hlo hc1 hc2 hL
        obtain ⟨hx, hb, hml, hown, hts, hK, hfr, hlc, hnm, hret, -⟩ := id Cx
        have go : ∀ pc' L' st' ls', K pc' L' st' B h → e_LH b (e_x0 y args) ls' (mML y) L' → W p l e R s m args below meth c H locs cells slots Z (F0 m pc' ls' (st'.map (e_v b))) := fun pc' L' st' ls' hK' hL' => ih _ _ _ _ _ hK' p l e R s m args below meth c D b cI cS H0 Z Cx H locs cells slots ls' hS hlo hc1 hc2 hL'
        exact hret (some (.int _)) (I.1 h) H locs cells slots pc ls ⟨h, rfl, hk⟩ hS hlo (by omega) (by omega) hdg (by rw [hm]; trivial)
      · next hm =>
        intro p l e R s m args below meth c D b cI cS H0 Z Cx H locs cells slots ls hS hlo hc1 hc2 hL
        obtain ⟨hx, hb, hml, hown, hts, hK, hfr, hlc, hnm, hret, -⟩ := id Cx
        have go : ∀ pc' L' st' ls', K pc' L' st' B h → e_LH b (e_x0 y args) ls' (mML y) L' → W p l e R s m args below meth c H locs cells slots Z (F0 m pc' ls' (st'.map (e_v b))) := fun pc' L' st' ls' hK' hL' => ih _ _ _ _ _ hK' p l e R s m args below meth c D b cI cS H0 Z Cx H locs cells slots ls' hS hlo hc1 hc2 hL'
        exact hret (some (.int _)) (I.1 h) H locs cells slots pc ls ⟨h, rfl, hk.2⟩ hS hlo (by omega) (by omega) hdg (by rw [hm]; exact hk.1)
      · exact hk.elim
    · exact hk.elim
  -- lreturn
  · simp only [e_okB, Bool.and_eq_true, decide_eq_true_eq] at hok
    have hlen : len = 1 := Nat.eq_of_beq_eq_true hok.2
    subst hlen
    split at hk
    · split at hk
      · next hm =>
        intro p l e R s m args below meth c D b cI cS H0 Z Cx H locs cells slots ls hS hlo hc1 hc2 hL
        obtain ⟨hx, hb, hml, hown, hts, hK, hfr, hlc, hnm, hret, -⟩ := id Cx
        have go : ∀ pc' L' st' ls', K pc' L' st' B h → e_LH b (e_x0 y args) ls' (mML y) L' → W p l e R s m args below meth c H locs cells slots Z (F0 m pc' ls' (st'.map (e_v b))) := fun pc' L' st' ls' hK' hL' => ih _ _ _ _ _ hK' p l e R s m args below meth c D b cI cS H0 Z Cx H locs cells slots ls' hS hlo hc1 hc2 hL'
        exact hret (some (.long _)) (I.1 h) H locs cells slots pc ls ⟨h, rfl, hk⟩ hS hlo (by omega) (by omega) hdg (by rw [hm]; trivial)
      · exact hk.elim
    · exact hk.elim
  -- areturn
  · simp only [e_okB, Bool.and_eq_true, decide_eq_true_eq] at hok
    have hlen : len = 1 := Nat.eq_of_beq_eq_true hok.2
    subst hlen
    split at hk
    · split at hk
      · next hm =>
        intro p l e R s m args below meth c D b cI cS H0 Z Cx H locs cells slots ls hS hlo hc1 hc2 hL
        obtain ⟨hx, hb, hml, hown, hts, hK, hfr, hlc, hnm, hret, -⟩ := id Cx
        have go : ∀ pc' L' st' ls', K pc' L' st' B h → e_LH b (e_x0 y args) ls' (mML y) L' → W p l e R s m args below meth c H locs cells slots Z (F0 m pc' ls' (st'.map (e_v b))) := fun pc' L' st' ls' hK' hL' => ih _ _ _ _ _ hK' p l e R s m args below meth c D b cI cS H0 Z Cx H locs cells slots ls' hS hlo hc1 hc2 hL'
        exact hret (some (.ref _)) (I.1 h) H locs cells slots pc ls ⟨h, rfl, hk⟩ hS hlo (by omega) (by omega) hdg (by rw [hm]; trivial)
      · exact hk.elim
    · exact hk.elim
  -- return
  · simp only [e_okB, Bool.and_eq_true, decide_eq_true_eq] at hok
    have hlen : len = 1 := Nat.eq_of_beq_eq_true hok.2
    subst hlen
    split at hk
    · split at hk
      · next hm =>
        intro p l e R s m args below meth c D b cI cS H0 Z Cx H locs cells slots ls hS hlo hc1 hc2 hL
        obtain ⟨hx, hb, hml, hown, hts, hK, hfr, hlc, hnm, hret, -⟩ := id Cx
        have go : ∀ pc' L' st' ls', K pc' L' st' B h → e_LH b (e_x0 y args) ls' (mML y) L' → W p l e R s m args below meth c H locs cells slots Z (F0 m pc' ls' (st'.map (e_v b))) := fun pc' L' st' ls' hK' hL' => ih _ _ _ _ _ hK' p l e R s m args below meth c D b cI cS H0 Z Cx H locs cells slots ls' hS hlo hc1 hc2 hL'
        exact hret none (I.1 h) H locs cells slots pc ls ⟨h, rfl, hk⟩ hS hlo (by omega) (by omega) hdg (by rw [hm]; trivial)
      · exact hk.elim
    · exact hk.elim
  -- invokestatic
  · simp only [e_okB, Bool.and_eq_true, decide_eq_true_eq] at hok
    have hlen := Nat.eq_of_beq_eq_true hok.2.1
    subst hlen
    cases hq : Nat.beq r1 1001 with
    | true =>
      rw [hq] at hk hok
      simp only [cond_true, Bool.and_eq_true] at hk hok
      have hfr1 := Nat.le_of_ble_eq_true hok.2.2.1.1
      have hlc1 := Nat.le_of_ble_eq_true hok.2.2.1.2
      split at hk
      · split at hk
        · next g1 g0 =>
          obtain ⟨j, j1, j2, j3, j4, j5, -, j6, hk⟩ := hk
          intro p l e R s m args below meth c D b cI cS H0 Z Cx H locs cells slots ls hS hlo hc1 hc2 hL
          obtain ⟨hx, hb, hml, hown, hts, hK, hfr, hlc, hnm, hret, -⟩ := id Cx
          have go : ∀ pc' L' st' ls', K pc' L' st' B h → e_LH b (e_x0 y args) ls' (mML y) L' → W p l e R s m args below meth c H locs cells slots Z (F0 m pc' ls' (st'.map (e_v b))) := fun pc' L' st' ls' hK' hL' => ih _ _ _ _ _ hK' p l e R s m args below meth c D b cI cS H0 Z Cx H locs cells slots ls' hS hlo hc1 hc2 hL'
          have hsz : ls.size = mML y := by obtain ⟨-, lv, z1, -⟩ := hL; exact z1.1
          refine e_copy_ok hx hb (hml.trans hsz.symm) hown hts hK hS (i3 _ _ _ g1) (i3 _ _ _ g0) j1 j2 j3 j4 j5 (fun w hw => hneed w (by simp only [e_need, hq, cond_true]; exact hw)) (by omega) (by have := e_cat_sum (b := b) (by assumption : List Value); rw [e_cat_sum]; omega) hdg hlo (fun H' locs' hS' hlo' => ?_)
          rw [show (I.1 h).2.2.2 _ = I.2.2.2.2.1 h _ from funext (fun j => i4 h _ j), show (I.1 h).2.2.2 _ = I.2.2.2.2.1 h _ from funext (fun j => i4 h _ j), ← i5] at hS'
          exact ih _ _ _ _ _ hk p l e R s m args below meth c D b cI cS H0 Z Cx H' locs' cells slots ls hS' hlo' hc1 hc2 hL
        · exact hk.elim
      · exact hk.elim
    | false =>
      rw [hq] at hk hok
      simp only [cond_false] at hk hok
      have hn : ∀ w ∈ e_need y (.invokestatic _) r1 r2 nest sw, w ∈ e_WS := hneed
      simp only [e_need, hq, cond_false] at hn
      exact e_call_ok (virt := false) (n := r2) (nest := nest) i1 ih hk hdg hok.2.2 (fun w hw => hn w (by simp only [List.mem_cons, List.not_mem_nil, or_false] at hw ⊢; rcases hw with h | h | h <;> simp [h])) (Or.inl ⟨rfl, rfl, hn _ (by simp)⟩)
  -- invokevirtual
  · simp only [e_okB, Bool.and_eq_true, decide_eq_true_eq] at hok
    have hlen := Nat.eq_of_beq_eq_true hok.2.1
    subst hlen
    have hn : ∀ w ∈ e_need y (.invokevirtual _) r1 r2 nest sw, w ∈ e_WS := hneed
    simp only [e_need] at hn
    have hci : mCi r1 < 12 := by simpa [Nat.blt_eq] using hok.2.2.1.2
    exact e_call_ok (virt := true) (n := r2) (nest := nest) i1 ih hk hdg hok.2.2.1.1 (fun w hw => hn w (by simp only [List.mem_cons, List.not_mem_nil, or_false] at hw ⊢; rcases hw with h | h | h <;> simp [h])) (Or.inr (Or.inl ⟨rfl, rfl, hn _ (by simp), hn _ (by simp), hci, hok.2.2.2⟩))
  -- invokespecial
  · simp only [e_okB, Bool.and_eq_true, decide_eq_true_eq] at hok
    have hlen := Nat.eq_of_beq_eq_true hok.2.1
    subst hlen
    cases hq : Nat.beq r1 1000 with
    | true =>
      rw [hq] at hk hok
      simp only [cond_true, Bool.and_eq_true] at hk hok
      have hfr1 := Nat.le_of_ble_eq_true hok.2.2.1.1
      have hlc1 := Nat.le_of_ble_eq_true hok.2.2.1.2
      split at hk
      · next st' =>
        cases hq2 : Nat.ble (e_cat st') 8 with
        | false => rw [hq2] at hk; exact hk.elim
        | true =>
          rw [hq2] at hk
          have q2 := Nat.le_of_ble_eq_true hq2
          have hn : ∀ w ∈ e_need y (.invokespecial _) r1 r2 nest sw, w ∈ e_WS := hneed
          simp only [e_need, hq, cond_true] at hn
          intro p l e R s m args below meth c D b cI cS H0 Z Cx H locs cells slots ls hS hlo hc1 hc2 hL
          obtain ⟨hx, hb, hml, hown, hts, hK, hfr, hlc, hnm, hret, -⟩ := id Cx
          have go : ∀ pc' L' st' ls', K pc' L' st' B h → e_LH b (e_x0 y args) ls' (mML y) L' → W p l e R s m args below meth c H locs cells slots Z (F0 m pc' ls' (st'.map (e_v b))) := fun pc' L' st' ls' hK' hL' => ih _ _ _ _ _ hK' p l e R s m args below meth c D b cI cS H0 Z Cx H locs cells slots ls' hS hlo hc1 hc2 hL'
          have hsz : ls.size = mML y := by obtain ⟨-, lv, z1, -⟩ := hL; exact z1.1
          exact W.objInit hx hb hown (hts _ (hn _ (by simp))) (hts _ (hn _ (by simp))) (hts _ (hn _ (by simp))) rfl (hsz.trans hml.symm) rfl hdg (by omega) (by show 2 * 0 + _ + 12 ≤ _; rw [e_cat_sum]; omega) (go _ _ _ _ hk hL)
      · exact hk.elim
    | false =>
      rw [hq] at hk hok
      simp only [cond_false, Bool.and_eq_true, decide_eq_true_eq] at hk hok
      have hn : ∀ w ∈ e_need y (.invokespecial _) r1 r2 nest sw, w ∈ e_WS := hneed
      simp only [e_need, hq, cond_false] at hn
      exact e_call_ok (virt := true) (n := r2) (nest := nest) i1 ih hk hdg hok.2.2.1.1 (fun w hw => hn w (by simp only [List.mem_cons, List.not_mem_nil, or_false] at hw ⊢; rcases hw with h | h | h <;> simp [h])) (Or.inr (Or.inr ⟨rfl, rfl, hn _ (by simp), hok.2.2.1.2, hok.2.2.2⟩))
  -- pure
  · split at hk
    · next L' st' hp =>
      have hk : K (pc + len) L' st' B h := by
        cases hz : e_isSt i with
        | true => rw [hz, cond_true, e_force_eq] at hk; exact hk
        | false => rw [hz] at hk; exact hk
      obtain ⟨q1, q2⟩ := e_pure_len hp hok
      subst q1
      intro p l e R s m args below meth c D b cI cS H0 Z Cx H locs cells slots ls hS hlo hc1 hc2 hL
      obtain ⟨hx, hb, hml, hown, hts, hK, hfr, hlc, hnm, hret, -⟩ := id Cx
      have go : ∀ pc' L' st' ls', K pc' L' st' B h → e_LH b (e_x0 y args) ls' (mML y) L' → W p l e R s m args below meth c H locs cells slots Z (F0 m pc' ls' (st'.map (e_v b))) := fun pc' L' st' ls' hK' hL' => ih _ _ _ _ _ hK' p l e R s m args below meth c D b cI cS H0 Z Cx H locs cells slots ls' hS hlo hc1 hc2 hL'
      exact e_pure_ok hx hb hown hsw (fun w hw => hts w (hneed w (by rw [← q2]; exact hw))) hdg hL hp (fun ls' hL' => go _ _ _ _ hk hL')
    · exact hk.elim
theorem e_wp_ok {η : Type} {I : e_IT η} (hI : e_IOk I) {y : Nat} (hM : OkM y) {Q : Option Value → η → Prop} : ∀ (n pc : Nat) (L : List (Option Value)) (st : List Value) (B : Nat × Nat) (h : η), e_wp I y Q n pc L st B h → e_RunI I y pc L st B h Q
  | 0, _, _, _, _, _, k => k
  | n + 1, pc, L, st, B, h, k => by
    unfold e_wp at k
    split at k
    · next i len r1 r2 nest hh sw ho => exact e_k_ok hI hM ho (fun pc L st B h hk => e_wp_ok hI hM n pc L st B h hk) k
    · exact k.elim
