/-! the law: a new object -/
section
set_option maxRecDepth 100000 in
set_option maxHeartbeats 8000000 in
theorem l_first : LR 8 [some (.float 0), some (.ref 0), none, none, none, none, none, none, none, none, none, none, none, none] [] (1, 16) h9 := by
  have hI := J9
  have hW := S9_W
  have hn0 : (S9 1).toNat = 0 := by decide
  have fl9 : h9.1 90 0 = 0 := F9_c.2.2.2.2.2
  have her : ∀ r, HerR S9 (S9 1).toNat r → r = -109 := by
    intro r h
    rcases h with ⟨-, h2⟩ | ⟨k, h2, -⟩
    · exact h2
    · omega
  have hcq : ∀ x y : Int, ¬ clq S9 (-109) x y := fun x y z => z.1 rfl
  refine w_loop IS_ok [67] ok_L_law ?_
  refine c_P_count hI hW 8 (fun h1 r1 f1 hr1 => ?_) rfl (by omega)
  have e1 := her r1 (cnt_8 hr1)
  have I1 := hI.lk f1
  refine w_eq r1 (-109) (fun _ => ?_) (fun z => absurd e1 z) rfl rfl
  refine c_P_clash I1 hW 0 (fun h2 r2 f2 hr2 => ?_) rfl (by omega)
  have I2 := I1.lk f2
  have e2 : r2 = 0 := by
    obtain ⟨hr, hh, e⟩ := cla_0 hr2
    rw [her hr hh] at e
    rw [e]
    have : clN S9 (-109) 3072 = 0 := sm_zero.mpr (fun p _ => cI_f (hcq _ _))
    omega
  refine w_eq r2 0 (fun _ => ?_) (fun z => absurd e2 z) rfl rfl
  refine c_P_clash I2 hW 1 (fun h3 r3 f3 hr3 => ?_) rfl (by omega)
  have I3 := I2.lk f3
  have e3 : r3 = -109 := by
    rcases hr3 with ⟨z, -⟩ | ⟨-, hr, hh, z⟩
    · exact absurd (by omega) z
    · rw [her hr hh] at z
      rcases z with ⟨z, -⟩ | ⟨-, z, -⟩ | ⟨-, p, -, z, -⟩
      · omega
      · exact z
      · exact absurd z (hcq _ _)
  refine w_eq r3 (-109) (fun _ => ?_) (fun z => absurd e3 z) rfl rfl
  refine c_P_allShownIn I3 hW (fun h4 r4 f4 hr4 => ?_)
  have I4 := I3.lk f4
  have e4 : r4 = 0 := by
    have h0 : allS S9 0 := fun k hk => by omega
    rcases hr4 with ⟨t, t1, t2, t3, t4⟩ | ⟨-, z⟩
    · by_cases w : t = 0
      · omega
      · exact absurd h0 (t4 0 (by omega))
    · exact absurd h0 (z 0 (by omega))
  refine w_eq r4 0 (fun _ => ?_) (fun z => absurd e4 z) rfl rfl
  refine c_P_bestStep I4 hW 0 (fun h5 r5 f5 hr5 => ?_) rfl (by omega)
  have I5 := I4.lk f5
  have e5 : r5 = 1 := by
    have hg : ∀ s, grb S9 s = 0 := fun s => mxF_z (fun p _ => ofn_no hW (fun k hk => by omega))
    have hb := bsF_z hg 18
    rcases hr5 with ⟨z, -⟩ | ⟨-, z⟩ | ⟨z, -⟩
    · exact absurd (by omega) z
    · rw [hb] at z; exact z
    · omega
  refine w_eq r5 1 (fun _ => ?_) (fun z => absurd e5 z) rfl rfl
  refine c_P_failure I5 (by omega) 0 (fun r6 hr6 => ?_) rfl (by omega)
  have e6 : r6 = -109 := by
    rcases hr6 with ⟨z, -⟩ | ⟨-, ⟨-, z⟩ | ⟨z, -⟩⟩
    · exact absurd (by omega) z
    · exact z
    · omega
  refine w_eq r6 (-109) (fun _ => ?_) (fun z => absurd e6 z) rfl rfl
  exact l_loop 18 0 S9 0 _ h5 _ _ _ _ _ _ _ _ _ _ _ _ rfl I5 (by omega) WX9 (by rw [f5.1 90 (by omega), f4.1 90 (by omega), f3.1 90 (by omega), f2.1 90 (by omega), f1.1 90 (by omega)]; exact fl9) rfl
end
