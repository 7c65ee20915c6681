def e_chk (y : Nat) (q : Nat × XO) : Bool := e_okB y q.1 q.2 && (e_need y q.2.1 q.2.2.2.1 q.2.2.2.2.1 q.2.2.2.2.2.1 q.2.2.2.2.2.2.2).all e_wmB && decide (e_need y q.2.1 q.2.2.2.1 q.2.2.2.2.1 q.2.2.2.2.2.1 q.2.2.2.2.2.2.2 = q.2.2.2.2.2.2.1.filterMap (fun i => lw_tbl[i]?))
set_option maxRecDepth 100000 in
theorem ok_law_0 : (((mOps 107).drop 0).take 40).all (e_chk 107) = true := by decide +kernel
set_option maxRecDepth 100000 in
theorem ok_law_1 : (((mOps 107).drop 40).take 40).all (e_chk 107) = true := by decide +kernel
set_option maxRecDepth 100000 in
theorem ok_law_2 : (((mOps 107).drop 80).take 40).all (e_chk 107) = true := by decide +kernel
set_option maxRecDepth 100000 in
theorem ok_law_3 : (((mOps 107).drop 120).take 40).all (e_chk 107) = true := by decide +kernel
set_option maxRecDepth 100000 in
theorem ok_law_4 : (((mOps 107).drop 160).take 40).all (e_chk 107) = true := by decide +kernel
set_option maxRecDepth 100000 in
theorem ok_law_5 : (((mOps 107).drop 200).take 40).all (e_chk 107) = true := by decide +kernel
set_option maxRecDepth 100000 in
theorem ok_law_6 : (((mOps 107).drop 240).take 40).all (e_chk 107) = true := by decide +kernel
set_option maxRecDepth 100000 in
theorem ok_law_7 : (((mOps 107).drop 280).take 40).all (e_chk 107) = true := by decide +kernel
set_option maxRecDepth 100000 in
theorem ok_law_8 : (((mOps 107).drop 320).take 40).all (e_chk 107) = true := by decide +kernel
set_option maxRecDepth 100000 in
theorem ok_law_9 : (((mOps 107).drop 360).take 40).all (e_chk 107) = true := by decide +kernel
set_option maxRecDepth 100000 in
theorem ok_law_10 : (((mOps 107).drop 400).take 40).all (e_chk 107) = true := by decide +kernel
theorem e_all_split {α : Type} (p : α → Bool) (l : List α) (a n : Nat) (h1 : ((l.drop a).take n).all p = true) (h2 : (l.drop (a + n)).all p = true) : (l.drop a).all p = true := by
  rw [← List.take_append_drop n (l.drop a), List.all_append, List.drop_drop, h1, h2]
  rfl
set_option maxRecDepth 100000 in
theorem ok_law_end : ((mOps 107).drop 440).all (e_chk 107) = true := by decide +kernel
theorem ok_L_law : OkM 107 := by
  have h := (e_all_split _ _ 0 40 ok_law_0 (e_all_split _ _ 40 40 ok_law_1 (e_all_split _ _ 80 40 ok_law_2 (e_all_split _ _ 120 40 ok_law_3 (e_all_split _ _ 160 40 ok_law_4 (e_all_split _ _ 200 40 ok_law_5 (e_all_split _ _ 240 40 ok_law_6 (e_all_split _ _ 280 40 ok_law_7 (e_all_split _ _ 320 40 ok_law_8 (e_all_split _ _ 360 40 ok_law_9 (e_all_split _ _ 400 40 ok_law_10 ok_law_end)))))))))))
  rw [List.drop_zero] at h
  exact List.all_eq_true.mp h
