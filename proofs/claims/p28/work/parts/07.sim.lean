/-! the heap holds the numbered objects: reads and writes keep it so -/
theorem e_va_map (r : Option Nat) (b : Nat) : e_v b (va_rf r) = va_rf (r.map (fun j => b + j)) := by cases r <;> rfl
theorem e_ent_obj {b : Nat} {cI cS : ClassId} {σ : Sg} {o c : Nat} (h : (σ.1.2 o).1 = c) (hc : c < 12) : e_ent b cI cS σ o = .inr (c, e_fl b σ c o) := by
  unfold e_ent
  have h1 : Nat.beq (σ.1.2 o).1 100 = false := by rw [h]; exact Bool.eq_false_iff.mpr (fun z => by have := Nat.eq_of_beq_eq_true z; omega)
  have h2 : Nat.beq (σ.1.2 o).1 101 = false := by rw [h]; exact Bool.eq_false_iff.mpr (fun z => by have := Nat.eq_of_beq_eq_true z; omega)
  rw [h1, h2, h]
  rfl
theorem e_ent_int {b : Nat} {cI cS : ClassId} {σ : Sg} {o : Nat} (h : (σ.1.2 o).1 = 100) : e_ent b cI cS σ o = .inl (cI, (σ.1.2 o).2, .inl (σ.2.2.2 o)) := by
  unfold e_ent
  rw [h]
  rfl
theorem e_ent_ref {b : Nat} {cI cS : ClassId} {σ : Sg} {o : Nat} (h : (σ.1.2 o).1 = 101) : e_ent b cI cS σ o = .inl (cS, (σ.1.2 o).2, .inr (.inr (.inr (.inr (fun k => (σ.2.1 o k).map (fun j => b + j)))))) := by
  unfold e_ent
  rw [h]
  rfl
theorem e_ent_congr {b : Nat} {cI cS : ClassId} {σ σ' : Sg} {o : Nat} (h1 : σ'.1.2 o = σ.1.2 o) (h2 : σ'.2.1 o = σ.2.1 o) (h3 : σ'.2.2.1 o = σ.2.2.1 o) (h4 : σ'.2.2.2 o = σ.2.2.2 o) : e_ent b cI cS σ' o = e_ent b cI cS σ o := by
  have h5 : ∀ c, e_fl b σ' c o = e_fl b σ c o := fun c => by
    unfold e_fl
    congr 1
    funext k
    unfold e_fv
    rw [h2, h3]
  unfold e_ent
  rw [h1, h2, h4, h5]
theorem e_fl_len (b : Nat) (σ : Sg) (c o : Nat) : (e_fl b σ c o).length = (e_ct c).2.2.1 := by simp [e_fl]
theorem e_fl_at {b : Nat} {σ : Sg} {c o k : Nat} (h : k < (e_ct c).2.2.1) : (e_fl b σ c o)[k]? = some (e_fv b σ c o k) := by simp [e_fl, List.getElem?_map, List.getElem?_range h]
theorem e_fl_set {b : Nat} {σ σ' : Sg} {c o k : Nat} {w : Value} (h1 : e_fv b σ' c o k = w) (h2 : ∀ j, j ≠ k → e_fv b σ' c o j = e_fv b σ c o j) : e_fl b σ' c o = (e_fl b σ c o).set k w := by
  apply List.ext_getElem
  · simp [e_fl]
  · intro i g1 g2
    rw [List.getElem_set]
    split
    · next h => subst h; simp [e_fl, h1]
    · next h => simp [e_fl, h2 i (fun z => h z.symm)]
theorem sim_upd {D : va_G} {b : Nat} {cI cS : ClassId} {H0 H H' : Heap} {σ σ' : Sg} {o : Nat} (hS : e_Sim D b cI cS H0 σ H) (hN : σ'.1.1 = σ.1.1) (he : ∀ q, q ≠ o → e_ent b cI cS σ' q = e_ent b cI cS σ q) (z : H'.size = H.size) (oq : ∀ q : Nat, q ≠ b + o → H'[q]? = H[q]?) (ha : va_at D e_cls (b + o, e_ent b cI cS σ' o) H') : e_Sim D b cI cS H0 σ' H' := by
  obtain ⟨h1, h2, h3⟩ := hS
  refine ⟨by rw [z, h1, hN], fun q hq => by rw [oq q (by omega)]; exact h2 q hq, fun q hq => ?_⟩
  by_cases hqo : q = o
  · subst hqo
    exact ha
  · rw [he q hqo]
    exact (h3 q (by rw [← hN]; exact hq)).kept (oq _ (by omega))
theorem sim_new {D : va_G} {b : Nat} {cI cS : ClassId} {H0 H H' : Heap} {σ σ' : Sg} (hS : e_Sim D b cI cS H0 σ H) (hN : σ'.1.1 = σ.1.1 + 1) (he : ∀ q, q ≠ σ.1.1 → e_ent b cI cS σ' q = e_ent b cI cS σ q) (z : H'.size = H.size + 1) (oq : ∀ q : Nat, q < H.size → H'[q]? = H[q]?) (ha : va_at D e_cls (b + σ.1.1, e_ent b cI cS σ' σ.1.1) H') : e_Sim D b cI cS H0 σ' H' := by
  obtain ⟨h1, h2, h3⟩ := hS
  refine ⟨by rw [z, h1, hN]; omega, fun q hq => by rw [oq q (by omega)]; exact h2 q hq, fun q hq => ?_⟩
  by_cases hqo : q = σ.1.1
  · subst hqo
    exact ha
  · rw [he q hqo]
    exact (h3 q (by omega)).kept (oq _ (by omega))
theorem e_warm {w : Cond} (h : w ∈ e_WS) {s U : State} {a a' : Array Value} (hW : s.WarmedH U.vm) (hb : w.before a s = true) : w.before a' U = true := by
  have h1 := (List.mem_filter.mp h).2
  unfold e_wmB at h1
  rw [Bool.or_eq_true] at h1
  rcases h1 with h1 | h1
  · exact word_at hW (good_of_word h1) hb
  · split at h1
    · exact va_Nw.use rfl (va_Nw.warmF hW (va_Nw.of rfl hb))
    · exact va_Nw.use rfl (va_Nw.warmM hW (va_Nw.of rfl hb))
    · exact va_AO.use (va_AO.moved hW.alike (va_AO.of hb))
    · cases h1
set_option maxRecDepth 100000 in
theorem e_uws_all : (List.range 12).all (fun c => (u_ws (e_ct c).1 (e_ct c).2.1 (e_ct c).2.2.1).all (fun w => decide (w ∈ e_WS))) = true := by decide +kernel
theorem e_uws {c : Nat} (h : c < 12) : ∀ w ∈ u_ws (e_ct c).1 (e_ct c).2.1 (e_ct c).2.2.1, w ∈ e_WS := fun w hw => of_decide_eq_true (List.all_eq_true.mp (List.all_eq_true.mp e_uws_all c (List.mem_range.mpr h)) w hw)
theorem e_nm_all : ∀ c, c < 12 → ∀ a, a < (e_ct c).2.2.1 → ∀ b, b < (e_ct c).2.2.1 → a ≠ b → ((e_ct c).2.1 a).2.1 ≠ ((e_ct c).2.1 b).2.1 := by decide +kernel
theorem e_ty_all : ∀ c, c < 12 → ∀ k, k < (e_ct c).2.2.1 → parseFieldDescriptor ((e_ct c).2.1 k).2.2.1 = some (e_fty c k) := by decide +kernel
def e_isR : FieldType → Bool
  | .object _ => true
  | .array _ => true
  | _ => false
/-- the kinds of fields that there are -/
theorem e_kinds : ∀ c, c < 12 → ∀ k, k < (e_ct c).2.2.1 → e_fty c k = .int ∨ e_fty c k = .boolean ∨ e_isR (e_fty c k) = true := by decide +kernel
