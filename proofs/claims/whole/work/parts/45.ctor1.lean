/-! making: the constructors -/
theorem kk_obj : Cond.code Lib.objectInit ⟨#[0xb1]⟩ 1 none ∈ wd_G := wd_in 57 (by decide +kernel) rfl
theorem kk_arr : Cond.arrayClass .int ∈ wd_G := wd_in 75 (by decide +kernel) rfl
def nuC (j : Nat) : Nat := if j < 36 then (j - 22) / 3 else ((j - 47) % 23) / 3
def M0 : Mem := fun i k => if KD i = 1 ∧ k = 1 then nI (nuC i) else 0
theorem M0_z {j : Nat} (h : KD j ≠ 1) : M0 j = fun _ => 0 := by
  funext k; unfold M0; rw [if_neg (fun q => h q.1)]
theorem adS {x : CT} {ad : Nat → Nat} {N : List Nat} {i q : Nat} (h : ∀ j, j ∉ N → ad j = AX x j) (hi : i ∈ N) : ∀ j, j ∉ N → sa ad i q j = AX x j := fun j hj => (sa_ne (fun e => hj (by rw [e]; exact hi))).trans (h j hj)
theorem adN {x : CT} {ad ad' : Nat → Nat} {N N1 : List Nat} (h : ∀ j, j ∉ N → ad j = AX x j) (h1 : ∀ j, j ∉ N1 → ad' j = ad j) (hs : ∀ j ∈ N1, j ∈ N) : ∀ j, j ∉ N → ad' j = AX x j := fun j hj => (h1 j (fun q => hj (hs j q))).trans (h j hj)
abbrev mi_0 : MI := (yX0_init, cX0_init, 2, none, { frames := 2, cells := 10, slots := 571, locals := 33 })
theorem pnf_0 : plainFor yX0_init = true := by decide +kernel
abbrev mi_1 : MI := (yX1_init, cX1_init, 3, none, { frames := 1, cells := 2, slots := 12, locals := 12 })
theorem pnf_1 : plainFor yX1_init = true := by decide +kernel
abbrev mi_2 : MI := (yX2_init, cX2_init, 3, none, { frames := 3, cells := 93, slots := 640, locals := 56 })
theorem pnf_2 : plainFor yX2_init = true := by decide +kernel
abbrev mi_3 : MI := (yX3_init, cX3_init, 1, none, { frames := 1, cells := 3, slots := 18, locals := 12 })
theorem pnf_3 : plainFor yX3_init = true := by decide +kernel
abbrev mi_4 : MI := (yX4_init, cX4_init, 3, none, { frames := 2, cells := 22, slots := 156, locals := 34 })
theorem pnf_4 : plainFor yX4_init = true := by decide +kernel
abbrev mi_5 : MI := (yX5_init, cX5_init, 1, none, { frames := 1, cells := 1, slots := 200, locals := 12 })
theorem pnf_5 : plainFor yX5_init = true := by decide +kernel
abbrev mi_6 : MI := (yX6_init, cX6_init, 2, none, { frames := 1, cells := 8, slots := 60, locals := 12 })
theorem pnf_6 : plainFor yX6_init = true := by decide +kernel
abbrev mi_7 : MI := (yX7_init, cX7_init, 1, none, { frames := 4, cells := 138, slots := 1629, locals := 100 })
theorem pnf_7 : plainFor yX7_init = true := by decide +kernel
abbrev mi_8 : MI := (yX8_init, cX8_init, 1, none, { frames := 1, cells := 3, slots := 1138, locals := 40 })
theorem pnf_8 : plainFor yX8_init = true := by decide +kernel
theorem kk_56 : (.instanceMethod Lib.objectInit : Cond) ∈ wd_G := wd_in 56 (by decide +kernel) rfl
theorem kk_63 : (.methodLink RX5 3 Lib.objectInit : Cond) ∈ wd_G := wd_in 63 (by decide +kernel) rfl
theorem kk_64 : (.fieldLink RX5 9 RX5 "letters" "[I" : Cond) ∈ wd_G := wd_in 64 (by decide +kernel) rfl
theorem kk_81 : (.methodLink RX3 3 Lib.objectInit : Cond) ∈ wd_G := wd_in 81 (by decide +kernel) rfl
theorem kk_82 : (.fieldLink RX3 9 RX3 "need" "[I" : Cond) ∈ wd_G := wd_in 82 (by decide +kernel) rfl
theorem kk_86 : (.fieldLink RX3 15 RX3 "spare" "[I" : Cond) ∈ wd_G := wd_in 86 (by decide +kernel) rfl
theorem kk_88 : (.fieldLink RX3 18 RX3 "firstWeight" "[I" : Cond) ∈ wd_G := wd_in 88 (by decide +kernel) rfl
theorem kk_134 : (.methodLink RX6 3 Lib.objectInit : Cond) ∈ wd_G := wd_in 134 (by decide +kernel) rfl
theorem kk_135 : (.fieldLink RX6 36 RX6 "plan" "LFileRounds$Plan;" : Cond) ∈ wd_G := wd_in 135 (by decide +kernel) rfl
theorem kk_136 : (.fieldLink RX6 9 RX6 "weight" "[I" : Cond) ∈ wd_G := wd_in 136 (by decide +kernel) rfl
theorem kk_138 : (.fieldLink RX6 15 RX6 "version" "[I" : Cond) ∈ wd_G := wd_in 138 (by decide +kernel) rfl
theorem kk_141 : (.fieldLink RX6 18 RX6 "next" "[I" : Cond) ∈ wd_G := wd_in 141 (by decide +kernel) rfl
theorem kk_143 : (.fieldLink RX6 21 RX6 "credit" "[I" : Cond) ∈ wd_G := wd_in 143 (by decide +kernel) rfl
theorem kk_145 : (.fieldLink RX6 24 RX6 "sentOf" "[I" : Cond) ∈ wd_G := wd_in 145 (by decide +kernel) rfl
theorem kk_147 : (.fieldLink RX6 27 RX6 "lastFiles" "[I" : Cond) ∈ wd_G := wd_in 147 (by decide +kernel) rfl
theorem kk_148 : (.fieldLink RX6 30 RX6 "lastSymbols" "[I" : Cond) ∈ wd_G := wd_in 148 (by decide +kernel) rfl
theorem kk_149 : (.fieldLink RX6 33 RX6 "lastVersions" "[I" : Cond) ∈ wd_G := wd_in 149 (by decide +kernel) rfl
theorem kk_187 : (.methodLink RX1 3 Lib.objectInit : Cond) ∈ wd_G := wd_in 187 (by decide +kernel) rfl
theorem kk_188 : (.fieldLink RX1 18 RX1 "plan" "LFileRounds$Plan;" : Cond) ∈ wd_G := wd_in 188 (by decide +kernel) rfl
theorem kk_189 : (.fieldLink RX1 22 RX1 "number" "I" : Cond) ∈ wd_G := wd_in 189 (by decide +kernel) rfl
theorem kk_190 : (.fieldLink RX1 9 RX1 "held" "[I" : Cond) ∈ wd_G := wd_in 190 (by decide +kernel) rfl
theorem kk_192 : (.fieldLink RX1 15 RX1 "told" "[I" : Cond) ∈ wd_G := wd_in 192 (by decide +kernel) rfl
theorem flpf_5_9 : FL RX5 9 5 0 := ⟨RX5, TX5, 3, rfl, by decide, rfl, in_X5, Or.inl kk_64⟩
theorem ffpf_5_9 : FF RX5 5 0 (tyX5 0) := ⟨RX5, TX5, 3, tyX5, rfl, rfl, rfl, by decide +kernel, tyX5_ok, nmX5⟩
theorem lkpf_5_9 : Cond.fieldLink RX5 9 RX5 ((vwCl.getD 5 ("", fun _ => ("", "", "", false), 0)).2.1 0).2.1 ((vwCl.getD 5 ("", fun _ => ("", "", "", false), 0)).2.1 0).2.2.1 ∈ wd_G := kk_64
theorem flpf_3_9 : FL RX3 9 3 0 := ⟨RX3, TX3, 6, rfl, by decide, rfl, in_X3, Or.inl kk_82⟩
theorem ffpf_3_9 : FF RX3 3 0 (tyX3 0) := ⟨RX3, TX3, 6, tyX3, rfl, rfl, rfl, by decide +kernel, tyX3_ok, nmX3⟩
theorem lkpf_3_9 : Cond.fieldLink RX3 9 RX3 ((vwCl.getD 3 ("", fun _ => ("", "", "", false), 0)).2.1 0).2.1 ((vwCl.getD 3 ("", fun _ => ("", "", "", false), 0)).2.1 0).2.2.1 ∈ wd_G := kk_82
theorem flpf_3_15 : FL RX3 15 3 1 := ⟨RX3, TX3, 6, rfl, by decide, rfl, in_X3, Or.inl kk_86⟩
theorem ffpf_3_15 : FF RX3 3 1 (tyX3 1) := ⟨RX3, TX3, 6, tyX3, rfl, rfl, rfl, by decide +kernel, tyX3_ok, nmX3⟩
theorem lkpf_3_15 : Cond.fieldLink RX3 15 RX3 ((vwCl.getD 3 ("", fun _ => ("", "", "", false), 0)).2.1 1).2.1 ((vwCl.getD 3 ("", fun _ => ("", "", "", false), 0)).2.1 1).2.2.1 ∈ wd_G := kk_86
theorem flpf_3_18 : FL RX3 18 3 2 := ⟨RX3, TX3, 6, rfl, by decide, rfl, in_X3, Or.inl kk_88⟩
theorem ffpf_3_18 : FF RX3 3 2 (tyX3 2) := ⟨RX3, TX3, 6, tyX3, rfl, rfl, rfl, by decide +kernel, tyX3_ok, nmX3⟩
theorem lkpf_3_18 : Cond.fieldLink RX3 18 RX3 ((vwCl.getD 3 ("", fun _ => ("", "", "", false), 0)).2.1 2).2.1 ((vwCl.getD 3 ("", fun _ => ("", "", "", false), 0)).2.1 2).2.2.1 ∈ wd_G := kk_88
theorem flpf_6_9 : FL RX6 9 6 1 := ⟨RX6, TX6, 12, rfl, by decide, rfl, in_X6, Or.inl kk_136⟩
theorem ffpf_6_9 : FF RX6 6 1 (tyX6 1) := ⟨RX6, TX6, 12, tyX6, rfl, rfl, rfl, by decide +kernel, tyX6_ok, nmX6⟩
theorem lkpf_6_9 : Cond.fieldLink RX6 9 RX6 ((vwCl.getD 6 ("", fun _ => ("", "", "", false), 0)).2.1 1).2.1 ((vwCl.getD 6 ("", fun _ => ("", "", "", false), 0)).2.1 1).2.2.1 ∈ wd_G := kk_136
theorem flpf_6_15 : FL RX6 15 6 2 := ⟨RX6, TX6, 12, rfl, by decide, rfl, in_X6, Or.inl kk_138⟩
theorem ffpf_6_15 : FF RX6 6 2 (tyX6 2) := ⟨RX6, TX6, 12, tyX6, rfl, rfl, rfl, by decide +kernel, tyX6_ok, nmX6⟩
theorem lkpf_6_15 : Cond.fieldLink RX6 15 RX6 ((vwCl.getD 6 ("", fun _ => ("", "", "", false), 0)).2.1 2).2.1 ((vwCl.getD 6 ("", fun _ => ("", "", "", false), 0)).2.1 2).2.2.1 ∈ wd_G := kk_138
theorem flpf_6_18 : FL RX6 18 6 3 := ⟨RX6, TX6, 12, rfl, by decide, rfl, in_X6, Or.inl kk_141⟩
theorem ffpf_6_18 : FF RX6 6 3 (tyX6 3) := ⟨RX6, TX6, 12, tyX6, rfl, rfl, rfl, by decide +kernel, tyX6_ok, nmX6⟩
theorem lkpf_6_18 : Cond.fieldLink RX6 18 RX6 ((vwCl.getD 6 ("", fun _ => ("", "", "", false), 0)).2.1 3).2.1 ((vwCl.getD 6 ("", fun _ => ("", "", "", false), 0)).2.1 3).2.2.1 ∈ wd_G := kk_141
theorem flpf_6_21 : FL RX6 21 6 4 := ⟨RX6, TX6, 12, rfl, by decide, rfl, in_X6, Or.inl kk_143⟩
theorem ffpf_6_21 : FF RX6 6 4 (tyX6 4) := ⟨RX6, TX6, 12, tyX6, rfl, rfl, rfl, by decide +kernel, tyX6_ok, nmX6⟩
theorem lkpf_6_21 : Cond.fieldLink RX6 21 RX6 ((vwCl.getD 6 ("", fun _ => ("", "", "", false), 0)).2.1 4).2.1 ((vwCl.getD 6 ("", fun _ => ("", "", "", false), 0)).2.1 4).2.2.1 ∈ wd_G := kk_143
theorem flpf_6_24 : FL RX6 24 6 5 := ⟨RX6, TX6, 12, rfl, by decide, rfl, in_X6, Or.inl kk_145⟩
theorem ffpf_6_24 : FF RX6 6 5 (tyX6 5) := ⟨RX6, TX6, 12, tyX6, rfl, rfl, rfl, by decide +kernel, tyX6_ok, nmX6⟩
theorem lkpf_6_24 : Cond.fieldLink RX6 24 RX6 ((vwCl.getD 6 ("", fun _ => ("", "", "", false), 0)).2.1 5).2.1 ((vwCl.getD 6 ("", fun _ => ("", "", "", false), 0)).2.1 5).2.2.1 ∈ wd_G := kk_145
theorem flpf_6_27 : FL RX6 27 6 6 := ⟨RX6, TX6, 12, rfl, by decide, rfl, in_X6, Or.inl kk_147⟩
theorem ffpf_6_27 : FF RX6 6 6 (tyX6 6) := ⟨RX6, TX6, 12, tyX6, rfl, rfl, rfl, by decide +kernel, tyX6_ok, nmX6⟩
theorem lkpf_6_27 : Cond.fieldLink RX6 27 RX6 ((vwCl.getD 6 ("", fun _ => ("", "", "", false), 0)).2.1 6).2.1 ((vwCl.getD 6 ("", fun _ => ("", "", "", false), 0)).2.1 6).2.2.1 ∈ wd_G := kk_147
theorem flpf_6_30 : FL RX6 30 6 7 := ⟨RX6, TX6, 12, rfl, by decide, rfl, in_X6, Or.inl kk_148⟩
theorem ffpf_6_30 : FF RX6 6 7 (tyX6 7) := ⟨RX6, TX6, 12, tyX6, rfl, rfl, rfl, by decide +kernel, tyX6_ok, nmX6⟩
theorem lkpf_6_30 : Cond.fieldLink RX6 30 RX6 ((vwCl.getD 6 ("", fun _ => ("", "", "", false), 0)).2.1 7).2.1 ((vwCl.getD 6 ("", fun _ => ("", "", "", false), 0)).2.1 7).2.2.1 ∈ wd_G := kk_148
theorem flpf_6_33 : FL RX6 33 6 8 := ⟨RX6, TX6, 12, rfl, by decide, rfl, in_X6, Or.inl kk_149⟩
theorem ffpf_6_33 : FF RX6 6 8 (tyX6 8) := ⟨RX6, TX6, 12, tyX6, rfl, rfl, rfl, by decide +kernel, tyX6_ok, nmX6⟩
theorem lkpf_6_33 : Cond.fieldLink RX6 33 RX6 ((vwCl.getD 6 ("", fun _ => ("", "", "", false), 0)).2.1 8).2.1 ((vwCl.getD 6 ("", fun _ => ("", "", "", false), 0)).2.1 8).2.2.1 ∈ wd_G := kk_149
theorem flpf_6_36 : FL RX6 36 6 0 := ⟨RX6, TX6, 12, rfl, by decide, rfl, in_X6, Or.inl kk_135⟩
theorem ffpf_6_36 : FF RX6 6 0 (tyX6 0) := ⟨RX6, TX6, 12, tyX6, rfl, rfl, rfl, by decide +kernel, tyX6_ok, nmX6⟩
theorem lkpf_6_36 : Cond.fieldLink RX6 36 RX6 ((vwCl.getD 6 ("", fun _ => ("", "", "", false), 0)).2.1 0).2.1 ((vwCl.getD 6 ("", fun _ => ("", "", "", false), 0)).2.1 0).2.2.1 ∈ wd_G := kk_135
theorem flpf_1_9 : FL RX1 9 1 2 := ⟨RX1, TX1, 8, rfl, by decide, rfl, in_X1, Or.inl kk_190⟩
theorem ffpf_1_9 : FF RX1 1 2 (tyX1 2) := ⟨RX1, TX1, 8, tyX1, rfl, rfl, rfl, by decide +kernel, tyX1_ok, nmX1⟩
theorem lkpf_1_9 : Cond.fieldLink RX1 9 RX1 ((vwCl.getD 1 ("", fun _ => ("", "", "", false), 0)).2.1 2).2.1 ((vwCl.getD 1 ("", fun _ => ("", "", "", false), 0)).2.1 2).2.2.1 ∈ wd_G := kk_190
theorem flpf_1_15 : FL RX1 15 1 3 := ⟨RX1, TX1, 8, rfl, by decide, rfl, in_X1, Or.inl kk_192⟩
theorem ffpf_1_15 : FF RX1 1 3 (tyX1 3) := ⟨RX1, TX1, 8, tyX1, rfl, rfl, rfl, by decide +kernel, tyX1_ok, nmX1⟩
theorem lkpf_1_15 : Cond.fieldLink RX1 15 RX1 ((vwCl.getD 1 ("", fun _ => ("", "", "", false), 0)).2.1 3).2.1 ((vwCl.getD 1 ("", fun _ => ("", "", "", false), 0)).2.1 3).2.2.1 ∈ wd_G := kk_192
theorem flpf_1_18 : FL RX1 18 1 0 := ⟨RX1, TX1, 8, rfl, by decide, rfl, in_X1, Or.inl kk_188⟩
theorem ffpf_1_18 : FF RX1 1 0 (tyX1 0) := ⟨RX1, TX1, 8, tyX1, rfl, rfl, rfl, by decide +kernel, tyX1_ok, nmX1⟩
theorem lkpf_1_18 : Cond.fieldLink RX1 18 RX1 ((vwCl.getD 1 ("", fun _ => ("", "", "", false), 0)).2.1 0).2.1 ((vwCl.getD 1 ("", fun _ => ("", "", "", false), 0)).2.1 0).2.2.1 ∈ wd_G := kk_188
theorem flpf_1_22 : FL RX1 22 1 1 := ⟨RX1, TX1, 8, rfl, by decide, rfl, in_X1, Or.inl kk_189⟩
theorem ffpf_1_22 : FF RX1 1 1 (tyX1 1) := ⟨RX1, TX1, 8, tyX1, rfl, rfl, rfl, by decide +kernel, tyX1_ok, nmX1⟩
theorem lkpf_1_22 : Cond.fieldLink RX1 22 RX1 ((vwCl.getD 1 ("", fun _ => ("", "", "", false), 0)).2.1 1).2.1 ((vwCl.getD 1 ("", fun _ => ("", "", "", false), 0)).2.1 1).2.2.1 ∈ wd_G := kk_189
set_option maxRecDepth 100000 in
theorem cn_1 : CN mi_5 [2] [.ref 1] [(1, xO 5 [.null, .int 0, .int 0])] (fun M => ZL [1, 2] M) (fun M => M = M0) := by
  refine CN.intro pnf_5 rfl rfl (by decide) (by decide) (fun x X O Nm T => ?_)
  have hN0 : ∀ j, j ∉ [2] → AX x j = AX x j := fun _ _ => rfl
  refine wq_aload_n (pc := 0) X dX5_init_0 rfl rfl ?_
  refine wq_objInit (pc := 1) X kk_63 kk_56 kk_obj rfl (by decide) (by decide) dX5_init_1 ?_
  refine wq_aload_n (pc := 4) X dX5_init_4 rfl rfl ?_
  refine wq_sipush (pc := 5) (v := nI 200) X dX5_init_5 (by decide) ?_
  refine wq_newI (pc := 8) (i := 2) (kc' := 1) (ks' := 200) X kk_arr (by decide) (by decide +kernel) rfl rfl rfl rfl (by decide) (by decide) dX5_init_8 (fun q1 => ?_)
  have hN1 := adS (q := q1) hN0 (show 2 ∈ [2] by decide)
  refine wq_putF (pc := 10) (q0 := 0) X Nm flpf_5_9 ffpf_5_9 rfl (by decide) (fun _ => rfl) (fun _ => rfl) rfl dX5_init_10 lkpf_5_9 ?_
  exact wq_ret (pc := 13) (M := M0) X T hN1 rfl rfl (⟨rfl, ⟨by decide +kernel, by decide, rfl⟩, ⟨rfl, ⟨by decide +kernel, by decide +kernel, (M0_z (by decide +kernel)).symm⟩, trivial⟩⟩) rfl dX5_init_13
set_option maxRecDepth 100000 in
theorem cn_3 : CN mi_3 [4, 5, 6] [.ref 3] [(3, xO 3 [.null, .null, .null, .int 0, .int 0, .int 0])] (fun M => ZL [3, 4, 5, 6] M) (fun M => M = M0) := by
  refine CN.intro pnf_3 rfl rfl (by decide) (by decide) (fun x X O Nm T => ?_)
  have hN0 : ∀ j, j ∉ [4, 5, 6] → AX x j = AX x j := fun _ _ => rfl
  refine wq_aload_n (pc := 0) X dX3_init_0 rfl rfl ?_
  refine wq_objInit (pc := 1) X kk_81 kk_56 kk_obj rfl (by decide) (by decide) dX3_init_1 ?_
  refine wq_aload_n (pc := 4) X dX3_init_4 rfl rfl ?_
  refine wq_bipush (pc := 5) (v := nI 6) X dX3_init_5 (by decide) ?_
  refine wq_newI (pc := 7) (i := 4) (kc' := 1) (ks' := 6) X kk_arr (by decide) (by decide +kernel) rfl rfl rfl rfl (by decide) (by decide) dX3_init_7 (fun q1 => ?_)
  have hN1 := adS (q := q1) hN0 (show 4 ∈ [4, 5, 6] by decide)
  refine wq_putF (pc := 9) (q0 := 0) X Nm flpf_3_9 ffpf_3_9 rfl (by decide) (fun _ => rfl) (fun _ => rfl) rfl dX3_init_9 lkpf_3_9 ?_
  refine wq_aload_n (pc := 12) X dX3_init_12 rfl rfl ?_
  refine wq_bipush (pc := 13) (v := nI 6) X dX3_init_13 (by decide) ?_
  refine wq_newI (pc := 15) (i := 5) (kc' := 2) (ks' := 12) X kk_arr (by decide) (by decide +kernel) rfl rfl rfl rfl (by decide) (by decide) dX3_init_15 (fun q2 => ?_)
  have hN2 := adS (q := q2) hN1 (show 5 ∈ [4, 5, 6] by decide)
  refine wq_putF (pc := 17) (q0 := 0) X Nm flpf_3_15 ffpf_3_15 rfl (by decide) (fun _ => rfl) (fun _ => rfl) rfl dX3_init_17 lkpf_3_15 ?_
  refine wq_aload_n (pc := 20) X dX3_init_20 rfl rfl ?_
  refine wq_bipush (pc := 21) (v := nI 6) X dX3_init_21 (by decide) ?_
  refine wq_newI (pc := 23) (i := 6) (kc' := 3) (ks' := 18) X kk_arr (by decide) (by decide +kernel) rfl rfl rfl rfl (by decide) (by decide) dX3_init_23 (fun q3 => ?_)
  have hN3 := adS (q := q3) hN2 (show 6 ∈ [4, 5, 6] by decide)
  refine wq_putF (pc := 25) (q0 := 0) X Nm flpf_3_18 ffpf_3_18 rfl (by decide) (fun _ => rfl) (fun _ => rfl) rfl dX3_init_25 lkpf_3_18 ?_
  exact wq_ret (pc := 28) (M := M0) X T hN3 rfl rfl (⟨rfl, ⟨by decide +kernel, by decide, rfl⟩, ⟨rfl, ⟨by decide +kernel, by decide +kernel, (M0_z (by decide +kernel)).symm⟩, ⟨rfl, ⟨by decide +kernel, by decide +kernel, (M0_z (by decide +kernel)).symm⟩, ⟨rfl, ⟨by decide +kernel, by decide +kernel, (M0_z (by decide +kernel)).symm⟩, trivial⟩⟩⟩⟩) rfl dX3_init_28
set_option maxRecDepth 100000 in
theorem cn_7 : CN mi_3 [8, 9, 10] [.ref 7] [(7, xO 3 [.null, .null, .null, .int 0, .int 0, .int 0])] (fun M => ZL [7, 8, 9, 10] M) (fun M => M = M0) := by
  refine CN.intro pnf_3 rfl rfl (by decide) (by decide) (fun x X O Nm T => ?_)
  have hN0 : ∀ j, j ∉ [8, 9, 10] → AX x j = AX x j := fun _ _ => rfl
  refine wq_aload_n (pc := 0) X dX3_init_0 rfl rfl ?_
  refine wq_objInit (pc := 1) X kk_81 kk_56 kk_obj rfl (by decide) (by decide) dX3_init_1 ?_
  refine wq_aload_n (pc := 4) X dX3_init_4 rfl rfl ?_
  refine wq_bipush (pc := 5) (v := nI 6) X dX3_init_5 (by decide) ?_
  refine wq_newI (pc := 7) (i := 8) (kc' := 1) (ks' := 6) X kk_arr (by decide) (by decide +kernel) rfl rfl rfl rfl (by decide) (by decide) dX3_init_7 (fun q1 => ?_)
  have hN1 := adS (q := q1) hN0 (show 8 ∈ [8, 9, 10] by decide)
  refine wq_putF (pc := 9) (q0 := 0) X Nm flpf_3_9 ffpf_3_9 rfl (by decide) (fun _ => rfl) (fun _ => rfl) rfl dX3_init_9 lkpf_3_9 ?_
  refine wq_aload_n (pc := 12) X dX3_init_12 rfl rfl ?_
  refine wq_bipush (pc := 13) (v := nI 6) X dX3_init_13 (by decide) ?_
  refine wq_newI (pc := 15) (i := 9) (kc' := 2) (ks' := 12) X kk_arr (by decide) (by decide +kernel) rfl rfl rfl rfl (by decide) (by decide) dX3_init_15 (fun q2 => ?_)
  have hN2 := adS (q := q2) hN1 (show 9 ∈ [8, 9, 10] by decide)
  refine wq_putF (pc := 17) (q0 := 0) X Nm flpf_3_15 ffpf_3_15 rfl (by decide) (fun _ => rfl) (fun _ => rfl) rfl dX3_init_17 lkpf_3_15 ?_
  refine wq_aload_n (pc := 20) X dX3_init_20 rfl rfl ?_
  refine wq_bipush (pc := 21) (v := nI 6) X dX3_init_21 (by decide) ?_
  refine wq_newI (pc := 23) (i := 10) (kc' := 3) (ks' := 18) X kk_arr (by decide) (by decide +kernel) rfl rfl rfl rfl (by decide) (by decide) dX3_init_23 (fun q3 => ?_)
  have hN3 := adS (q := q3) hN2 (show 10 ∈ [8, 9, 10] by decide)
  refine wq_putF (pc := 25) (q0 := 0) X Nm flpf_3_18 ffpf_3_18 rfl (by decide) (fun _ => rfl) (fun _ => rfl) rfl dX3_init_25 lkpf_3_18 ?_
  exact wq_ret (pc := 28) (M := M0) X T hN3 rfl rfl (⟨rfl, ⟨by decide +kernel, by decide, rfl⟩, ⟨rfl, ⟨by decide +kernel, by decide +kernel, (M0_z (by decide +kernel)).symm⟩, ⟨rfl, ⟨by decide +kernel, by decide +kernel, (M0_z (by decide +kernel)).symm⟩, ⟨rfl, ⟨by decide +kernel, by decide +kernel, (M0_z (by decide +kernel)).symm⟩, trivial⟩⟩⟩⟩) rfl dX3_init_28
set_option maxRecDepth 100000 in
theorem cn_13 : CN mi_6 [14, 15, 16, 17, 18, 19, 20, 21] [.ref 13, .ref 7] [(13, xO 6 [.null, .null, .null, .null, .null, .null, .null, .null, .null, .int 0, .int 0, .int 0])] (fun M => ZL [13, 14, 15, 16, 17, 18, 19, 20, 21] M) (fun M => M = M0) := by
  refine CN.intro pnf_6 rfl rfl (by decide) (by decide) (fun x X O Nm T => ?_)
  have hN0 : ∀ j, j ∉ [14, 15, 16, 17, 18, 19, 20, 21] → AX x j = AX x j := fun _ _ => rfl
  refine wq_aload_n (pc := 0) X dX6_init_0 rfl rfl ?_
  refine wq_objInit (pc := 1) X kk_134 kk_56 kk_obj rfl (by decide) (by decide) dX6_init_1 ?_
  refine wq_aload_n (pc := 4) X dX6_init_4 rfl rfl ?_
  refine wq_bipush (pc := 5) (v := nI 6) X dX6_init_5 (by decide) ?_
  refine wq_newI (pc := 7) (i := 14) (kc' := 1) (ks' := 6) X kk_arr (by decide) (by decide +kernel) rfl rfl rfl rfl (by decide) (by decide) dX6_init_7 (fun q1 => ?_)
  have hN1 := adS (q := q1) hN0 (show 14 ∈ [14, 15, 16, 17, 18, 19, 20, 21] by decide)
  refine wq_putF (pc := 9) (q0 := 0) X Nm flpf_6_9 ffpf_6_9 rfl (by decide) (fun _ => rfl) (fun _ => rfl) rfl dX6_init_9 lkpf_6_9 ?_
  refine wq_aload_n (pc := 12) X dX6_init_12 rfl rfl ?_
  refine wq_bipush (pc := 13) (v := nI 6) X dX6_init_13 (by decide) ?_
  refine wq_newI (pc := 15) (i := 15) (kc' := 2) (ks' := 12) X kk_arr (by decide) (by decide +kernel) rfl rfl rfl rfl (by decide) (by decide) dX6_init_15 (fun q2 => ?_)
  have hN2 := adS (q := q2) hN1 (show 15 ∈ [14, 15, 16, 17, 18, 19, 20, 21] by decide)
  refine wq_putF (pc := 17) (q0 := 0) X Nm flpf_6_15 ffpf_6_15 rfl (by decide) (fun _ => rfl) (fun _ => rfl) rfl dX6_init_17 lkpf_6_15 ?_
  refine wq_aload_n (pc := 20) X dX6_init_20 rfl rfl ?_
  refine wq_bipush (pc := 21) (v := nI 6) X dX6_init_21 (by decide) ?_
  refine wq_newI (pc := 23) (i := 16) (kc' := 3) (ks' := 18) X kk_arr (by decide) (by decide +kernel) rfl rfl rfl rfl (by decide) (by decide) dX6_init_23 (fun q3 => ?_)
  have hN3 := adS (q := q3) hN2 (show 16 ∈ [14, 15, 16, 17, 18, 19, 20, 21] by decide)
  refine wq_putF (pc := 25) (q0 := 0) X Nm flpf_6_18 ffpf_6_18 rfl (by decide) (fun _ => rfl) (fun _ => rfl) rfl dX6_init_25 lkpf_6_18 ?_
  refine wq_aload_n (pc := 28) X dX6_init_28 rfl rfl ?_
  refine wq_bipush (pc := 29) (v := nI 6) X dX6_init_29 (by decide) ?_
  refine wq_newI (pc := 31) (i := 17) (kc' := 4) (ks' := 24) X kk_arr (by decide) (by decide +kernel) rfl rfl rfl rfl (by decide) (by decide) dX6_init_31 (fun q4 => ?_)
  have hN4 := adS (q := q4) hN3 (show 17 ∈ [14, 15, 16, 17, 18, 19, 20, 21] by decide)
  refine wq_putF (pc := 33) (q0 := 0) X Nm flpf_6_21 ffpf_6_21 rfl (by decide) (fun _ => rfl) (fun _ => rfl) rfl dX6_init_33 lkpf_6_21 ?_
  refine wq_aload_n (pc := 36) X dX6_init_36 rfl rfl ?_
  refine wq_bipush (pc := 37) (v := nI 6) X dX6_init_37 (by decide) ?_
  refine wq_newI (pc := 39) (i := 18) (kc' := 5) (ks' := 30) X kk_arr (by decide) (by decide +kernel) rfl rfl rfl rfl (by decide) (by decide) dX6_init_39 (fun q5 => ?_)
  have hN5 := adS (q := q5) hN4 (show 18 ∈ [14, 15, 16, 17, 18, 19, 20, 21] by decide)
  refine wq_putF (pc := 41) (q0 := 0) X Nm flpf_6_24 ffpf_6_24 rfl (by decide) (fun _ => rfl) (fun _ => rfl) rfl dX6_init_41 lkpf_6_24 ?_
  refine wq_aload_n (pc := 44) X dX6_init_44 rfl rfl ?_
  refine wq_bipush (pc := 45) (v := nI 10) X dX6_init_45 (by decide) ?_
  refine wq_newI (pc := 47) (i := 19) (kc' := 6) (ks' := 40) X kk_arr (by decide) (by decide +kernel) rfl rfl rfl rfl (by decide) (by decide) dX6_init_47 (fun q6 => ?_)
  have hN6 := adS (q := q6) hN5 (show 19 ∈ [14, 15, 16, 17, 18, 19, 20, 21] by decide)
  refine wq_putF (pc := 49) (q0 := 0) X Nm flpf_6_27 ffpf_6_27 rfl (by decide) (fun _ => rfl) (fun _ => rfl) rfl dX6_init_49 lkpf_6_27 ?_
  refine wq_aload_n (pc := 52) X dX6_init_52 rfl rfl ?_
  refine wq_bipush (pc := 53) (v := nI 10) X dX6_init_53 (by decide) ?_
  refine wq_newI (pc := 55) (i := 20) (kc' := 7) (ks' := 50) X kk_arr (by decide) (by decide +kernel) rfl rfl rfl rfl (by decide) (by decide) dX6_init_55 (fun q7 => ?_)
  have hN7 := adS (q := q7) hN6 (show 20 ∈ [14, 15, 16, 17, 18, 19, 20, 21] by decide)
  refine wq_putF (pc := 57) (q0 := 0) X Nm flpf_6_30 ffpf_6_30 rfl (by decide) (fun _ => rfl) (fun _ => rfl) rfl dX6_init_57 lkpf_6_30 ?_
  refine wq_aload_n (pc := 60) X dX6_init_60 rfl rfl ?_
  refine wq_bipush (pc := 61) (v := nI 10) X dX6_init_61 (by decide) ?_
  refine wq_newI (pc := 63) (i := 21) (kc' := 8) (ks' := 60) X kk_arr (by decide) (by decide +kernel) rfl rfl rfl rfl (by decide) (by decide) dX6_init_63 (fun q8 => ?_)
  have hN8 := adS (q := q8) hN7 (show 21 ∈ [14, 15, 16, 17, 18, 19, 20, 21] by decide)
  refine wq_putF (pc := 65) (q0 := 0) X Nm flpf_6_33 ffpf_6_33 rfl (by decide) (fun _ => rfl) (fun _ => rfl) rfl dX6_init_65 lkpf_6_33 ?_
  refine wq_aload_n (pc := 68) X dX6_init_68 rfl rfl ?_
  refine wq_aload_n (pc := 69) X dX6_init_69 rfl rfl ?_
  refine wq_putF (pc := 70) (q0 := 0) X Nm flpf_6_36 ffpf_6_36 rfl (by decide) (fun _ => rfl) (fun _ => rfl) rfl dX6_init_70 lkpf_6_36 ?_
  exact wq_ret (pc := 73) (M := M0) X T hN8 rfl rfl (⟨rfl, ⟨by decide +kernel, by decide, rfl⟩, ⟨rfl, ⟨by decide +kernel, by decide +kernel, (M0_z (by decide +kernel)).symm⟩, ⟨rfl, ⟨by decide +kernel, by decide +kernel, (M0_z (by decide +kernel)).symm⟩, ⟨rfl, ⟨by decide +kernel, by decide +kernel, (M0_z (by decide +kernel)).symm⟩, ⟨rfl, ⟨by decide +kernel, by decide +kernel, (M0_z (by decide +kernel)).symm⟩, ⟨rfl, ⟨by decide +kernel, by decide +kernel, (M0_z (by decide +kernel)).symm⟩, ⟨rfl, ⟨by decide +kernel, by decide +kernel, (M0_z (by decide +kernel)).symm⟩, ⟨rfl, ⟨by decide +kernel, by decide +kernel, (M0_z (by decide +kernel)).symm⟩, ⟨rfl, ⟨by decide +kernel, by decide +kernel, (M0_z (by decide +kernel)).symm⟩, trivial⟩⟩⟩⟩⟩⟩⟩⟩⟩) rfl dX6_init_73
set_option maxRecDepth 100000 in
theorem cn_38 : CN mi_6 [39, 40, 41, 42, 43, 44, 45, 46] [.ref 38, .ref 7] [(38, xO 6 [.null, .null, .null, .null, .null, .null, .null, .null, .null, .int 0, .int 0, .int 0])] (fun M => ZL [38, 39, 40, 41, 42, 43, 44, 45, 46] M) (fun M => M = M0) := by
  refine CN.intro pnf_6 rfl rfl (by decide) (by decide) (fun x X O Nm T => ?_)
  have hN0 : ∀ j, j ∉ [39, 40, 41, 42, 43, 44, 45, 46] → AX x j = AX x j := fun _ _ => rfl
  refine wq_aload_n (pc := 0) X dX6_init_0 rfl rfl ?_
  refine wq_objInit (pc := 1) X kk_134 kk_56 kk_obj rfl (by decide) (by decide) dX6_init_1 ?_
  refine wq_aload_n (pc := 4) X dX6_init_4 rfl rfl ?_
  refine wq_bipush (pc := 5) (v := nI 6) X dX6_init_5 (by decide) ?_
  refine wq_newI (pc := 7) (i := 39) (kc' := 1) (ks' := 6) X kk_arr (by decide) (by decide +kernel) rfl rfl rfl rfl (by decide) (by decide) dX6_init_7 (fun q1 => ?_)
  have hN1 := adS (q := q1) hN0 (show 39 ∈ [39, 40, 41, 42, 43, 44, 45, 46] by decide)
  refine wq_putF (pc := 9) (q0 := 0) X Nm flpf_6_9 ffpf_6_9 rfl (by decide) (fun _ => rfl) (fun _ => rfl) rfl dX6_init_9 lkpf_6_9 ?_
  refine wq_aload_n (pc := 12) X dX6_init_12 rfl rfl ?_
  refine wq_bipush (pc := 13) (v := nI 6) X dX6_init_13 (by decide) ?_
  refine wq_newI (pc := 15) (i := 40) (kc' := 2) (ks' := 12) X kk_arr (by decide) (by decide +kernel) rfl rfl rfl rfl (by decide) (by decide) dX6_init_15 (fun q2 => ?_)
  have hN2 := adS (q := q2) hN1 (show 40 ∈ [39, 40, 41, 42, 43, 44, 45, 46] by decide)
  refine wq_putF (pc := 17) (q0 := 0) X Nm flpf_6_15 ffpf_6_15 rfl (by decide) (fun _ => rfl) (fun _ => rfl) rfl dX6_init_17 lkpf_6_15 ?_
  refine wq_aload_n (pc := 20) X dX6_init_20 rfl rfl ?_
  refine wq_bipush (pc := 21) (v := nI 6) X dX6_init_21 (by decide) ?_
  refine wq_newI (pc := 23) (i := 41) (kc' := 3) (ks' := 18) X kk_arr (by decide) (by decide +kernel) rfl rfl rfl rfl (by decide) (by decide) dX6_init_23 (fun q3 => ?_)
  have hN3 := adS (q := q3) hN2 (show 41 ∈ [39, 40, 41, 42, 43, 44, 45, 46] by decide)
  refine wq_putF (pc := 25) (q0 := 0) X Nm flpf_6_18 ffpf_6_18 rfl (by decide) (fun _ => rfl) (fun _ => rfl) rfl dX6_init_25 lkpf_6_18 ?_
  refine wq_aload_n (pc := 28) X dX6_init_28 rfl rfl ?_
  refine wq_bipush (pc := 29) (v := nI 6) X dX6_init_29 (by decide) ?_
  refine wq_newI (pc := 31) (i := 42) (kc' := 4) (ks' := 24) X kk_arr (by decide) (by decide +kernel) rfl rfl rfl rfl (by decide) (by decide) dX6_init_31 (fun q4 => ?_)
  have hN4 := adS (q := q4) hN3 (show 42 ∈ [39, 40, 41, 42, 43, 44, 45, 46] by decide)
  refine wq_putF (pc := 33) (q0 := 0) X Nm flpf_6_21 ffpf_6_21 rfl (by decide) (fun _ => rfl) (fun _ => rfl) rfl dX6_init_33 lkpf_6_21 ?_
  refine wq_aload_n (pc := 36) X dX6_init_36 rfl rfl ?_
  refine wq_bipush (pc := 37) (v := nI 6) X dX6_init_37 (by decide) ?_
  refine wq_newI (pc := 39) (i := 43) (kc' := 5) (ks' := 30) X kk_arr (by decide) (by decide +kernel) rfl rfl rfl rfl (by decide) (by decide) dX6_init_39 (fun q5 => ?_)
  have hN5 := adS (q := q5) hN4 (show 43 ∈ [39, 40, 41, 42, 43, 44, 45, 46] by decide)
  refine wq_putF (pc := 41) (q0 := 0) X Nm flpf_6_24 ffpf_6_24 rfl (by decide) (fun _ => rfl) (fun _ => rfl) rfl dX6_init_41 lkpf_6_24 ?_
  refine wq_aload_n (pc := 44) X dX6_init_44 rfl rfl ?_
  refine wq_bipush (pc := 45) (v := nI 10) X dX6_init_45 (by decide) ?_
  refine wq_newI (pc := 47) (i := 44) (kc' := 6) (ks' := 40) X kk_arr (by decide) (by decide +kernel) rfl rfl rfl rfl (by decide) (by decide) dX6_init_47 (fun q6 => ?_)
  have hN6 := adS (q := q6) hN5 (show 44 ∈ [39, 40, 41, 42, 43, 44, 45, 46] by decide)
  refine wq_putF (pc := 49) (q0 := 0) X Nm flpf_6_27 ffpf_6_27 rfl (by decide) (fun _ => rfl) (fun _ => rfl) rfl dX6_init_49 lkpf_6_27 ?_
  refine wq_aload_n (pc := 52) X dX6_init_52 rfl rfl ?_
  refine wq_bipush (pc := 53) (v := nI 10) X dX6_init_53 (by decide) ?_
  refine wq_newI (pc := 55) (i := 45) (kc' := 7) (ks' := 50) X kk_arr (by decide) (by decide +kernel) rfl rfl rfl rfl (by decide) (by decide) dX6_init_55 (fun q7 => ?_)
  have hN7 := adS (q := q7) hN6 (show 45 ∈ [39, 40, 41, 42, 43, 44, 45, 46] by decide)
  refine wq_putF (pc := 57) (q0 := 0) X Nm flpf_6_30 ffpf_6_30 rfl (by decide) (fun _ => rfl) (fun _ => rfl) rfl dX6_init_57 lkpf_6_30 ?_
  refine wq_aload_n (pc := 60) X dX6_init_60 rfl rfl ?_
  refine wq_bipush (pc := 61) (v := nI 10) X dX6_init_61 (by decide) ?_
  refine wq_newI (pc := 63) (i := 46) (kc' := 8) (ks' := 60) X kk_arr (by decide) (by decide +kernel) rfl rfl rfl rfl (by decide) (by decide) dX6_init_63 (fun q8 => ?_)
  have hN8 := adS (q := q8) hN7 (show 46 ∈ [39, 40, 41, 42, 43, 44, 45, 46] by decide)
  refine wq_putF (pc := 65) (q0 := 0) X Nm flpf_6_33 ffpf_6_33 rfl (by decide) (fun _ => rfl) (fun _ => rfl) rfl dX6_init_65 lkpf_6_33 ?_
  refine wq_aload_n (pc := 68) X dX6_init_68 rfl rfl ?_
  refine wq_aload_n (pc := 69) X dX6_init_69 rfl rfl ?_
  refine wq_putF (pc := 70) (q0 := 0) X Nm flpf_6_36 ffpf_6_36 rfl (by decide) (fun _ => rfl) (fun _ => rfl) rfl dX6_init_70 lkpf_6_36 ?_
  exact wq_ret (pc := 73) (M := M0) X T hN8 rfl rfl (⟨rfl, ⟨by decide +kernel, by decide, rfl⟩, ⟨rfl, ⟨by decide +kernel, by decide +kernel, (M0_z (by decide +kernel)).symm⟩, ⟨rfl, ⟨by decide +kernel, by decide +kernel, (M0_z (by decide +kernel)).symm⟩, ⟨rfl, ⟨by decide +kernel, by decide +kernel, (M0_z (by decide +kernel)).symm⟩, ⟨rfl, ⟨by decide +kernel, by decide +kernel, (M0_z (by decide +kernel)).symm⟩, ⟨rfl, ⟨by decide +kernel, by decide +kernel, (M0_z (by decide +kernel)).symm⟩, ⟨rfl, ⟨by decide +kernel, by decide +kernel, (M0_z (by decide +kernel)).symm⟩, ⟨rfl, ⟨by decide +kernel, by decide +kernel, (M0_z (by decide +kernel)).symm⟩, ⟨rfl, ⟨by decide +kernel, by decide +kernel, (M0_z (by decide +kernel)).symm⟩, trivial⟩⟩⟩⟩⟩⟩⟩⟩⟩) rfl dX6_init_73
set_option maxRecDepth 100000 in
theorem cn_61 : CN mi_6 [62, 63, 64, 65, 66, 67, 68, 69] [.ref 61, .ref 7] [(61, xO 6 [.null, .null, .null, .null, .null, .null, .null, .null, .null, .int 0, .int 0, .int 0])] (fun M => ZL [61, 62, 63, 64, 65, 66, 67, 68, 69] M) (fun M => M = M0) := by
  refine CN.intro pnf_6 rfl rfl (by decide) (by decide) (fun x X O Nm T => ?_)
  have hN0 : ∀ j, j ∉ [62, 63, 64, 65, 66, 67, 68, 69] → AX x j = AX x j := fun _ _ => rfl
  refine wq_aload_n (pc := 0) X dX6_init_0 rfl rfl ?_
  refine wq_objInit (pc := 1) X kk_134 kk_56 kk_obj rfl (by decide) (by decide) dX6_init_1 ?_
  refine wq_aload_n (pc := 4) X dX6_init_4 rfl rfl ?_
  refine wq_bipush (pc := 5) (v := nI 6) X dX6_init_5 (by decide) ?_
  refine wq_newI (pc := 7) (i := 62) (kc' := 1) (ks' := 6) X kk_arr (by decide) (by decide +kernel) rfl rfl rfl rfl (by decide) (by decide) dX6_init_7 (fun q1 => ?_)
  have hN1 := adS (q := q1) hN0 (show 62 ∈ [62, 63, 64, 65, 66, 67, 68, 69] by decide)
  refine wq_putF (pc := 9) (q0 := 0) X Nm flpf_6_9 ffpf_6_9 rfl (by decide) (fun _ => rfl) (fun _ => rfl) rfl dX6_init_9 lkpf_6_9 ?_
  refine wq_aload_n (pc := 12) X dX6_init_12 rfl rfl ?_
  refine wq_bipush (pc := 13) (v := nI 6) X dX6_init_13 (by decide) ?_
  refine wq_newI (pc := 15) (i := 63) (kc' := 2) (ks' := 12) X kk_arr (by decide) (by decide +kernel) rfl rfl rfl rfl (by decide) (by decide) dX6_init_15 (fun q2 => ?_)
  have hN2 := adS (q := q2) hN1 (show 63 ∈ [62, 63, 64, 65, 66, 67, 68, 69] by decide)
  refine wq_putF (pc := 17) (q0 := 0) X Nm flpf_6_15 ffpf_6_15 rfl (by decide) (fun _ => rfl) (fun _ => rfl) rfl dX6_init_17 lkpf_6_15 ?_
  refine wq_aload_n (pc := 20) X dX6_init_20 rfl rfl ?_
  refine wq_bipush (pc := 21) (v := nI 6) X dX6_init_21 (by decide) ?_
  refine wq_newI (pc := 23) (i := 64) (kc' := 3) (ks' := 18) X kk_arr (by decide) (by decide +kernel) rfl rfl rfl rfl (by decide) (by decide) dX6_init_23 (fun q3 => ?_)
  have hN3 := adS (q := q3) hN2 (show 64 ∈ [62, 63, 64, 65, 66, 67, 68, 69] by decide)
  refine wq_putF (pc := 25) (q0 := 0) X Nm flpf_6_18 ffpf_6_18 rfl (by decide) (fun _ => rfl) (fun _ => rfl) rfl dX6_init_25 lkpf_6_18 ?_
  refine wq_aload_n (pc := 28) X dX6_init_28 rfl rfl ?_
  refine wq_bipush (pc := 29) (v := nI 6) X dX6_init_29 (by decide) ?_
  refine wq_newI (pc := 31) (i := 65) (kc' := 4) (ks' := 24) X kk_arr (by decide) (by decide +kernel) rfl rfl rfl rfl (by decide) (by decide) dX6_init_31 (fun q4 => ?_)
  have hN4 := adS (q := q4) hN3 (show 65 ∈ [62, 63, 64, 65, 66, 67, 68, 69] by decide)
  refine wq_putF (pc := 33) (q0 := 0) X Nm flpf_6_21 ffpf_6_21 rfl (by decide) (fun _ => rfl) (fun _ => rfl) rfl dX6_init_33 lkpf_6_21 ?_
  refine wq_aload_n (pc := 36) X dX6_init_36 rfl rfl ?_
  refine wq_bipush (pc := 37) (v := nI 6) X dX6_init_37 (by decide) ?_
  refine wq_newI (pc := 39) (i := 66) (kc' := 5) (ks' := 30) X kk_arr (by decide) (by decide +kernel) rfl rfl rfl rfl (by decide) (by decide) dX6_init_39 (fun q5 => ?_)
  have hN5 := adS (q := q5) hN4 (show 66 ∈ [62, 63, 64, 65, 66, 67, 68, 69] by decide)
  refine wq_putF (pc := 41) (q0 := 0) X Nm flpf_6_24 ffpf_6_24 rfl (by decide) (fun _ => rfl) (fun _ => rfl) rfl dX6_init_41 lkpf_6_24 ?_
  refine wq_aload_n (pc := 44) X dX6_init_44 rfl rfl ?_
  refine wq_bipush (pc := 45) (v := nI 10) X dX6_init_45 (by decide) ?_
  refine wq_newI (pc := 47) (i := 67) (kc' := 6) (ks' := 40) X kk_arr (by decide) (by decide +kernel) rfl rfl rfl rfl (by decide) (by decide) dX6_init_47 (fun q6 => ?_)
  have hN6 := adS (q := q6) hN5 (show 67 ∈ [62, 63, 64, 65, 66, 67, 68, 69] by decide)
  refine wq_putF (pc := 49) (q0 := 0) X Nm flpf_6_27 ffpf_6_27 rfl (by decide) (fun _ => rfl) (fun _ => rfl) rfl dX6_init_49 lkpf_6_27 ?_
  refine wq_aload_n (pc := 52) X dX6_init_52 rfl rfl ?_
  refine wq_bipush (pc := 53) (v := nI 10) X dX6_init_53 (by decide) ?_
  refine wq_newI (pc := 55) (i := 68) (kc' := 7) (ks' := 50) X kk_arr (by decide) (by decide +kernel) rfl rfl rfl rfl (by decide) (by decide) dX6_init_55 (fun q7 => ?_)
  have hN7 := adS (q := q7) hN6 (show 68 ∈ [62, 63, 64, 65, 66, 67, 68, 69] by decide)
  refine wq_putF (pc := 57) (q0 := 0) X Nm flpf_6_30 ffpf_6_30 rfl (by decide) (fun _ => rfl) (fun _ => rfl) rfl dX6_init_57 lkpf_6_30 ?_
  refine wq_aload_n (pc := 60) X dX6_init_60 rfl rfl ?_
  refine wq_bipush (pc := 61) (v := nI 10) X dX6_init_61 (by decide) ?_
  refine wq_newI (pc := 63) (i := 69) (kc' := 8) (ks' := 60) X kk_arr (by decide) (by decide +kernel) rfl rfl rfl rfl (by decide) (by decide) dX6_init_63 (fun q8 => ?_)
  have hN8 := adS (q := q8) hN7 (show 69 ∈ [62, 63, 64, 65, 66, 67, 68, 69] by decide)
  refine wq_putF (pc := 65) (q0 := 0) X Nm flpf_6_33 ffpf_6_33 rfl (by decide) (fun _ => rfl) (fun _ => rfl) rfl dX6_init_65 lkpf_6_33 ?_
  refine wq_aload_n (pc := 68) X dX6_init_68 rfl rfl ?_
  refine wq_aload_n (pc := 69) X dX6_init_69 rfl rfl ?_
  refine wq_putF (pc := 70) (q0 := 0) X Nm flpf_6_36 ffpf_6_36 rfl (by decide) (fun _ => rfl) (fun _ => rfl) rfl dX6_init_70 lkpf_6_36 ?_
  exact wq_ret (pc := 73) (M := M0) X T hN8 rfl rfl (⟨rfl, ⟨by decide +kernel, by decide, rfl⟩, ⟨rfl, ⟨by decide +kernel, by decide +kernel, (M0_z (by decide +kernel)).symm⟩, ⟨rfl, ⟨by decide +kernel, by decide +kernel, (M0_z (by decide +kernel)).symm⟩, ⟨rfl, ⟨by decide +kernel, by decide +kernel, (M0_z (by decide +kernel)).symm⟩, ⟨rfl, ⟨by decide +kernel, by decide +kernel, (M0_z (by decide +kernel)).symm⟩, ⟨rfl, ⟨by decide +kernel, by decide +kernel, (M0_z (by decide +kernel)).symm⟩, ⟨rfl, ⟨by decide +kernel, by decide +kernel, (M0_z (by decide +kernel)).symm⟩, ⟨rfl, ⟨by decide +kernel, by decide +kernel, (M0_z (by decide +kernel)).symm⟩, ⟨rfl, ⟨by decide +kernel, by decide +kernel, (M0_z (by decide +kernel)).symm⟩, trivial⟩⟩⟩⟩⟩⟩⟩⟩⟩) rfl dX6_init_73
set_option maxRecDepth 100000 in
theorem cn_84 : CN mi_6 [85, 86, 87, 88, 89, 90, 91, 92] [.ref 84, .ref 7] [(84, xO 6 [.null, .null, .null, .null, .null, .null, .null, .null, .null, .int 0, .int 0, .int 0])] (fun M => ZL [84, 85, 86, 87, 88, 89, 90, 91, 92] M) (fun M => M = M0) := by
  refine CN.intro pnf_6 rfl rfl (by decide) (by decide) (fun x X O Nm T => ?_)
  have hN0 : ∀ j, j ∉ [85, 86, 87, 88, 89, 90, 91, 92] → AX x j = AX x j := fun _ _ => rfl
  refine wq_aload_n (pc := 0) X dX6_init_0 rfl rfl ?_
  refine wq_objInit (pc := 1) X kk_134 kk_56 kk_obj rfl (by decide) (by decide) dX6_init_1 ?_
  refine wq_aload_n (pc := 4) X dX6_init_4 rfl rfl ?_
  refine wq_bipush (pc := 5) (v := nI 6) X dX6_init_5 (by decide) ?_
  refine wq_newI (pc := 7) (i := 85) (kc' := 1) (ks' := 6) X kk_arr (by decide) (by decide +kernel) rfl rfl rfl rfl (by decide) (by decide) dX6_init_7 (fun q1 => ?_)
  have hN1 := adS (q := q1) hN0 (show 85 ∈ [85, 86, 87, 88, 89, 90, 91, 92] by decide)
  refine wq_putF (pc := 9) (q0 := 0) X Nm flpf_6_9 ffpf_6_9 rfl (by decide) (fun _ => rfl) (fun _ => rfl) rfl dX6_init_9 lkpf_6_9 ?_
  refine wq_aload_n (pc := 12) X dX6_init_12 rfl rfl ?_
  refine wq_bipush (pc := 13) (v := nI 6) X dX6_init_13 (by decide) ?_
  refine wq_newI (pc := 15) (i := 86) (kc' := 2) (ks' := 12) X kk_arr (by decide) (by decide +kernel) rfl rfl rfl rfl (by decide) (by decide) dX6_init_15 (fun q2 => ?_)
  have hN2 := adS (q := q2) hN1 (show 86 ∈ [85, 86, 87, 88, 89, 90, 91, 92] by decide)
  refine wq_putF (pc := 17) (q0 := 0) X Nm flpf_6_15 ffpf_6_15 rfl (by decide) (fun _ => rfl) (fun _ => rfl) rfl dX6_init_17 lkpf_6_15 ?_
  refine wq_aload_n (pc := 20) X dX6_init_20 rfl rfl ?_
  refine wq_bipush (pc := 21) (v := nI 6) X dX6_init_21 (by decide) ?_
  refine wq_newI (pc := 23) (i := 87) (kc' := 3) (ks' := 18) X kk_arr (by decide) (by decide +kernel) rfl rfl rfl rfl (by decide) (by decide) dX6_init_23 (fun q3 => ?_)
  have hN3 := adS (q := q3) hN2 (show 87 ∈ [85, 86, 87, 88, 89, 90, 91, 92] by decide)
  refine wq_putF (pc := 25) (q0 := 0) X Nm flpf_6_18 ffpf_6_18 rfl (by decide) (fun _ => rfl) (fun _ => rfl) rfl dX6_init_25 lkpf_6_18 ?_
  refine wq_aload_n (pc := 28) X dX6_init_28 rfl rfl ?_
  refine wq_bipush (pc := 29) (v := nI 6) X dX6_init_29 (by decide) ?_
  refine wq_newI (pc := 31) (i := 88) (kc' := 4) (ks' := 24) X kk_arr (by decide) (by decide +kernel) rfl rfl rfl rfl (by decide) (by decide) dX6_init_31 (fun q4 => ?_)
  have hN4 := adS (q := q4) hN3 (show 88 ∈ [85, 86, 87, 88, 89, 90, 91, 92] by decide)
  refine wq_putF (pc := 33) (q0 := 0) X Nm flpf_6_21 ffpf_6_21 rfl (by decide) (fun _ => rfl) (fun _ => rfl) rfl dX6_init_33 lkpf_6_21 ?_
  refine wq_aload_n (pc := 36) X dX6_init_36 rfl rfl ?_
  refine wq_bipush (pc := 37) (v := nI 6) X dX6_init_37 (by decide) ?_
  refine wq_newI (pc := 39) (i := 89) (kc' := 5) (ks' := 30) X kk_arr (by decide) (by decide +kernel) rfl rfl rfl rfl (by decide) (by decide) dX6_init_39 (fun q5 => ?_)
  have hN5 := adS (q := q5) hN4 (show 89 ∈ [85, 86, 87, 88, 89, 90, 91, 92] by decide)
  refine wq_putF (pc := 41) (q0 := 0) X Nm flpf_6_24 ffpf_6_24 rfl (by decide) (fun _ => rfl) (fun _ => rfl) rfl dX6_init_41 lkpf_6_24 ?_
  refine wq_aload_n (pc := 44) X dX6_init_44 rfl rfl ?_
  refine wq_bipush (pc := 45) (v := nI 10) X dX6_init_45 (by decide) ?_
  refine wq_newI (pc := 47) (i := 90) (kc' := 6) (ks' := 40) X kk_arr (by decide) (by decide +kernel) rfl rfl rfl rfl (by decide) (by decide) dX6_init_47 (fun q6 => ?_)
  have hN6 := adS (q := q6) hN5 (show 90 ∈ [85, 86, 87, 88, 89, 90, 91, 92] by decide)
  refine wq_putF (pc := 49) (q0 := 0) X Nm flpf_6_27 ffpf_6_27 rfl (by decide) (fun _ => rfl) (fun _ => rfl) rfl dX6_init_49 lkpf_6_27 ?_
  refine wq_aload_n (pc := 52) X dX6_init_52 rfl rfl ?_
  refine wq_bipush (pc := 53) (v := nI 10) X dX6_init_53 (by decide) ?_
  refine wq_newI (pc := 55) (i := 91) (kc' := 7) (ks' := 50) X kk_arr (by decide) (by decide +kernel) rfl rfl rfl rfl (by decide) (by decide) dX6_init_55 (fun q7 => ?_)
  have hN7 := adS (q := q7) hN6 (show 91 ∈ [85, 86, 87, 88, 89, 90, 91, 92] by decide)
  refine wq_putF (pc := 57) (q0 := 0) X Nm flpf_6_30 ffpf_6_30 rfl (by decide) (fun _ => rfl) (fun _ => rfl) rfl dX6_init_57 lkpf_6_30 ?_
  refine wq_aload_n (pc := 60) X dX6_init_60 rfl rfl ?_
  refine wq_bipush (pc := 61) (v := nI 10) X dX6_init_61 (by decide) ?_
  refine wq_newI (pc := 63) (i := 92) (kc' := 8) (ks' := 60) X kk_arr (by decide) (by decide +kernel) rfl rfl rfl rfl (by decide) (by decide) dX6_init_63 (fun q8 => ?_)
  have hN8 := adS (q := q8) hN7 (show 92 ∈ [85, 86, 87, 88, 89, 90, 91, 92] by decide)
  refine wq_putF (pc := 65) (q0 := 0) X Nm flpf_6_33 ffpf_6_33 rfl (by decide) (fun _ => rfl) (fun _ => rfl) rfl dX6_init_65 lkpf_6_33 ?_
  refine wq_aload_n (pc := 68) X dX6_init_68 rfl rfl ?_
  refine wq_aload_n (pc := 69) X dX6_init_69 rfl rfl ?_
  refine wq_putF (pc := 70) (q0 := 0) X Nm flpf_6_36 ffpf_6_36 rfl (by decide) (fun _ => rfl) (fun _ => rfl) rfl dX6_init_70 lkpf_6_36 ?_
  exact wq_ret (pc := 73) (M := M0) X T hN8 rfl rfl (⟨rfl, ⟨by decide +kernel, by decide, rfl⟩, ⟨rfl, ⟨by decide +kernel, by decide +kernel, (M0_z (by decide +kernel)).symm⟩, ⟨rfl, ⟨by decide +kernel, by decide +kernel, (M0_z (by decide +kernel)).symm⟩, ⟨rfl, ⟨by decide +kernel, by decide +kernel, (M0_z (by decide +kernel)).symm⟩, ⟨rfl, ⟨by decide +kernel, by decide +kernel, (M0_z (by decide +kernel)).symm⟩, ⟨rfl, ⟨by decide +kernel, by decide +kernel, (M0_z (by decide +kernel)).symm⟩, ⟨rfl, ⟨by decide +kernel, by decide +kernel, (M0_z (by decide +kernel)).symm⟩, ⟨rfl, ⟨by decide +kernel, by decide +kernel, (M0_z (by decide +kernel)).symm⟩, ⟨rfl, ⟨by decide +kernel, by decide +kernel, (M0_z (by decide +kernel)).symm⟩, trivial⟩⟩⟩⟩⟩⟩⟩⟩⟩) rfl dX6_init_73
set_option maxRecDepth 100000 in
theorem cn_107 : CN mi_6 [108, 109, 110, 111, 112, 113, 114, 115] [.ref 107, .ref 7] [(107, xO 6 [.null, .null, .null, .null, .null, .null, .null, .null, .null, .int 0, .int 0, .int 0])] (fun M => ZL [107, 108, 109, 110, 111, 112, 113, 114, 115] M) (fun M => M = M0) := by
  refine CN.intro pnf_6 rfl rfl (by decide) (by decide) (fun x X O Nm T => ?_)
  have hN0 : ∀ j, j ∉ [108, 109, 110, 111, 112, 113, 114, 115] → AX x j = AX x j := fun _ _ => rfl
  refine wq_aload_n (pc := 0) X dX6_init_0 rfl rfl ?_
  refine wq_objInit (pc := 1) X kk_134 kk_56 kk_obj rfl (by decide) (by decide) dX6_init_1 ?_
  refine wq_aload_n (pc := 4) X dX6_init_4 rfl rfl ?_
  refine wq_bipush (pc := 5) (v := nI 6) X dX6_init_5 (by decide) ?_
  refine wq_newI (pc := 7) (i := 108) (kc' := 1) (ks' := 6) X kk_arr (by decide) (by decide +kernel) rfl rfl rfl rfl (by decide) (by decide) dX6_init_7 (fun q1 => ?_)
  have hN1 := adS (q := q1) hN0 (show 108 ∈ [108, 109, 110, 111, 112, 113, 114, 115] by decide)
  refine wq_putF (pc := 9) (q0 := 0) X Nm flpf_6_9 ffpf_6_9 rfl (by decide) (fun _ => rfl) (fun _ => rfl) rfl dX6_init_9 lkpf_6_9 ?_
  refine wq_aload_n (pc := 12) X dX6_init_12 rfl rfl ?_
  refine wq_bipush (pc := 13) (v := nI 6) X dX6_init_13 (by decide) ?_
  refine wq_newI (pc := 15) (i := 109) (kc' := 2) (ks' := 12) X kk_arr (by decide) (by decide +kernel) rfl rfl rfl rfl (by decide) (by decide) dX6_init_15 (fun q2 => ?_)
  have hN2 := adS (q := q2) hN1 (show 109 ∈ [108, 109, 110, 111, 112, 113, 114, 115] by decide)
  refine wq_putF (pc := 17) (q0 := 0) X Nm flpf_6_15 ffpf_6_15 rfl (by decide) (fun _ => rfl) (fun _ => rfl) rfl dX6_init_17 lkpf_6_15 ?_
  refine wq_aload_n (pc := 20) X dX6_init_20 rfl rfl ?_
  refine wq_bipush (pc := 21) (v := nI 6) X dX6_init_21 (by decide) ?_
  refine wq_newI (pc := 23) (i := 110) (kc' := 3) (ks' := 18) X kk_arr (by decide) (by decide +kernel) rfl rfl rfl rfl (by decide) (by decide) dX6_init_23 (fun q3 => ?_)
  have hN3 := adS (q := q3) hN2 (show 110 ∈ [108, 109, 110, 111, 112, 113, 114, 115] by decide)
  refine wq_putF (pc := 25) (q0 := 0) X Nm flpf_6_18 ffpf_6_18 rfl (by decide) (fun _ => rfl) (fun _ => rfl) rfl dX6_init_25 lkpf_6_18 ?_
  refine wq_aload_n (pc := 28) X dX6_init_28 rfl rfl ?_
  refine wq_bipush (pc := 29) (v := nI 6) X dX6_init_29 (by decide) ?_
  refine wq_newI (pc := 31) (i := 111) (kc' := 4) (ks' := 24) X kk_arr (by decide) (by decide +kernel) rfl rfl rfl rfl (by decide) (by decide) dX6_init_31 (fun q4 => ?_)
  have hN4 := adS (q := q4) hN3 (show 111 ∈ [108, 109, 110, 111, 112, 113, 114, 115] by decide)
  refine wq_putF (pc := 33) (q0 := 0) X Nm flpf_6_21 ffpf_6_21 rfl (by decide) (fun _ => rfl) (fun _ => rfl) rfl dX6_init_33 lkpf_6_21 ?_
  refine wq_aload_n (pc := 36) X dX6_init_36 rfl rfl ?_
  refine wq_bipush (pc := 37) (v := nI 6) X dX6_init_37 (by decide) ?_
  refine wq_newI (pc := 39) (i := 112) (kc' := 5) (ks' := 30) X kk_arr (by decide) (by decide +kernel) rfl rfl rfl rfl (by decide) (by decide) dX6_init_39 (fun q5 => ?_)
  have hN5 := adS (q := q5) hN4 (show 112 ∈ [108, 109, 110, 111, 112, 113, 114, 115] by decide)
  refine wq_putF (pc := 41) (q0 := 0) X Nm flpf_6_24 ffpf_6_24 rfl (by decide) (fun _ => rfl) (fun _ => rfl) rfl dX6_init_41 lkpf_6_24 ?_
  refine wq_aload_n (pc := 44) X dX6_init_44 rfl rfl ?_
  refine wq_bipush (pc := 45) (v := nI 10) X dX6_init_45 (by decide) ?_
  refine wq_newI (pc := 47) (i := 113) (kc' := 6) (ks' := 40) X kk_arr (by decide) (by decide +kernel) rfl rfl rfl rfl (by decide) (by decide) dX6_init_47 (fun q6 => ?_)
  have hN6 := adS (q := q6) hN5 (show 113 ∈ [108, 109, 110, 111, 112, 113, 114, 115] by decide)
  refine wq_putF (pc := 49) (q0 := 0) X Nm flpf_6_27 ffpf_6_27 rfl (by decide) (fun _ => rfl) (fun _ => rfl) rfl dX6_init_49 lkpf_6_27 ?_
  refine wq_aload_n (pc := 52) X dX6_init_52 rfl rfl ?_
  refine wq_bipush (pc := 53) (v := nI 10) X dX6_init_53 (by decide) ?_
  refine wq_newI (pc := 55) (i := 114) (kc' := 7) (ks' := 50) X kk_arr (by decide) (by decide +kernel) rfl rfl rfl rfl (by decide) (by decide) dX6_init_55 (fun q7 => ?_)
  have hN7 := adS (q := q7) hN6 (show 114 ∈ [108, 109, 110, 111, 112, 113, 114, 115] by decide)
  refine wq_putF (pc := 57) (q0 := 0) X Nm flpf_6_30 ffpf_6_30 rfl (by decide) (fun _ => rfl) (fun _ => rfl) rfl dX6_init_57 lkpf_6_30 ?_
  refine wq_aload_n (pc := 60) X dX6_init_60 rfl rfl ?_
  refine wq_bipush (pc := 61) (v := nI 10) X dX6_init_61 (by decide) ?_
  refine wq_newI (pc := 63) (i := 115) (kc' := 8) (ks' := 60) X kk_arr (by decide) (by decide +kernel) rfl rfl rfl rfl (by decide) (by decide) dX6_init_63 (fun q8 => ?_)
  have hN8 := adS (q := q8) hN7 (show 115 ∈ [108, 109, 110, 111, 112, 113, 114, 115] by decide)
  refine wq_putF (pc := 65) (q0 := 0) X Nm flpf_6_33 ffpf_6_33 rfl (by decide) (fun _ => rfl) (fun _ => rfl) rfl dX6_init_65 lkpf_6_33 ?_
  refine wq_aload_n (pc := 68) X dX6_init_68 rfl rfl ?_
  refine wq_aload_n (pc := 69) X dX6_init_69 rfl rfl ?_
  refine wq_putF (pc := 70) (q0 := 0) X Nm flpf_6_36 ffpf_6_36 rfl (by decide) (fun _ => rfl) (fun _ => rfl) rfl dX6_init_70 lkpf_6_36 ?_
  exact wq_ret (pc := 73) (M := M0) X T hN8 rfl rfl (⟨rfl, ⟨by decide +kernel, by decide, rfl⟩, ⟨rfl, ⟨by decide +kernel, by decide +kernel, (M0_z (by decide +kernel)).symm⟩, ⟨rfl, ⟨by decide +kernel, by decide +kernel, (M0_z (by decide +kernel)).symm⟩, ⟨rfl, ⟨by decide +kernel, by decide +kernel, (M0_z (by decide +kernel)).symm⟩, ⟨rfl, ⟨by decide +kernel, by decide +kernel, (M0_z (by decide +kernel)).symm⟩, ⟨rfl, ⟨by decide +kernel, by decide +kernel, (M0_z (by decide +kernel)).symm⟩, ⟨rfl, ⟨by decide +kernel, by decide +kernel, (M0_z (by decide +kernel)).symm⟩, ⟨rfl, ⟨by decide +kernel, by decide +kernel, (M0_z (by decide +kernel)).symm⟩, ⟨rfl, ⟨by decide +kernel, by decide +kernel, (M0_z (by decide +kernel)).symm⟩, trivial⟩⟩⟩⟩⟩⟩⟩⟩⟩) rfl dX6_init_73
set_option maxRecDepth 100000 in
theorem cn_130 : CN mi_6 [131, 132, 133, 134, 135, 136, 137, 138] [.ref 130, .ref 7] [(130, xO 6 [.null, .null, .null, .null, .null, .null, .null, .null, .null, .int 0, .int 0, .int 0])] (fun M => ZL [130, 131, 132, 133, 134, 135, 136, 137, 138] M) (fun M => M = M0) := by
  refine CN.intro pnf_6 rfl rfl (by decide) (by decide) (fun x X O Nm T => ?_)
  have hN0 : ∀ j, j ∉ [131, 132, 133, 134, 135, 136, 137, 138] → AX x j = AX x j := fun _ _ => rfl
  refine wq_aload_n (pc := 0) X dX6_init_0 rfl rfl ?_
  refine wq_objInit (pc := 1) X kk_134 kk_56 kk_obj rfl (by decide) (by decide) dX6_init_1 ?_
  refine wq_aload_n (pc := 4) X dX6_init_4 rfl rfl ?_
  refine wq_bipush (pc := 5) (v := nI 6) X dX6_init_5 (by decide) ?_
  refine wq_newI (pc := 7) (i := 131) (kc' := 1) (ks' := 6) X kk_arr (by decide) (by decide +kernel) rfl rfl rfl rfl (by decide) (by decide) dX6_init_7 (fun q1 => ?_)
  have hN1 := adS (q := q1) hN0 (show 131 ∈ [131, 132, 133, 134, 135, 136, 137, 138] by decide)
  refine wq_putF (pc := 9) (q0 := 0) X Nm flpf_6_9 ffpf_6_9 rfl (by decide) (fun _ => rfl) (fun _ => rfl) rfl dX6_init_9 lkpf_6_9 ?_
  refine wq_aload_n (pc := 12) X dX6_init_12 rfl rfl ?_
  refine wq_bipush (pc := 13) (v := nI 6) X dX6_init_13 (by decide) ?_
  refine wq_newI (pc := 15) (i := 132) (kc' := 2) (ks' := 12) X kk_arr (by decide) (by decide +kernel) rfl rfl rfl rfl (by decide) (by decide) dX6_init_15 (fun q2 => ?_)
  have hN2 := adS (q := q2) hN1 (show 132 ∈ [131, 132, 133, 134, 135, 136, 137, 138] by decide)
  refine wq_putF (pc := 17) (q0 := 0) X Nm flpf_6_15 ffpf_6_15 rfl (by decide) (fun _ => rfl) (fun _ => rfl) rfl dX6_init_17 lkpf_6_15 ?_
  refine wq_aload_n (pc := 20) X dX6_init_20 rfl rfl ?_
  refine wq_bipush (pc := 21) (v := nI 6) X dX6_init_21 (by decide) ?_
  refine wq_newI (pc := 23) (i := 133) (kc' := 3) (ks' := 18) X kk_arr (by decide) (by decide +kernel) rfl rfl rfl rfl (by decide) (by decide) dX6_init_23 (fun q3 => ?_)
  have hN3 := adS (q := q3) hN2 (show 133 ∈ [131, 132, 133, 134, 135, 136, 137, 138] by decide)
  refine wq_putF (pc := 25) (q0 := 0) X Nm flpf_6_18 ffpf_6_18 rfl (by decide) (fun _ => rfl) (fun _ => rfl) rfl dX6_init_25 lkpf_6_18 ?_
  refine wq_aload_n (pc := 28) X dX6_init_28 rfl rfl ?_
  refine wq_bipush (pc := 29) (v := nI 6) X dX6_init_29 (by decide) ?_
  refine wq_newI (pc := 31) (i := 134) (kc' := 4) (ks' := 24) X kk_arr (by decide) (by decide +kernel) rfl rfl rfl rfl (by decide) (by decide) dX6_init_31 (fun q4 => ?_)
  have hN4 := adS (q := q4) hN3 (show 134 ∈ [131, 132, 133, 134, 135, 136, 137, 138] by decide)
  refine wq_putF (pc := 33) (q0 := 0) X Nm flpf_6_21 ffpf_6_21 rfl (by decide) (fun _ => rfl) (fun _ => rfl) rfl dX6_init_33 lkpf_6_21 ?_
  refine wq_aload_n (pc := 36) X dX6_init_36 rfl rfl ?_
  refine wq_bipush (pc := 37) (v := nI 6) X dX6_init_37 (by decide) ?_
  refine wq_newI (pc := 39) (i := 135) (kc' := 5) (ks' := 30) X kk_arr (by decide) (by decide +kernel) rfl rfl rfl rfl (by decide) (by decide) dX6_init_39 (fun q5 => ?_)
  have hN5 := adS (q := q5) hN4 (show 135 ∈ [131, 132, 133, 134, 135, 136, 137, 138] by decide)
  refine wq_putF (pc := 41) (q0 := 0) X Nm flpf_6_24 ffpf_6_24 rfl (by decide) (fun _ => rfl) (fun _ => rfl) rfl dX6_init_41 lkpf_6_24 ?_
  refine wq_aload_n (pc := 44) X dX6_init_44 rfl rfl ?_
  refine wq_bipush (pc := 45) (v := nI 10) X dX6_init_45 (by decide) ?_
  refine wq_newI (pc := 47) (i := 136) (kc' := 6) (ks' := 40) X kk_arr (by decide) (by decide +kernel) rfl rfl rfl rfl (by decide) (by decide) dX6_init_47 (fun q6 => ?_)
  have hN6 := adS (q := q6) hN5 (show 136 ∈ [131, 132, 133, 134, 135, 136, 137, 138] by decide)
  refine wq_putF (pc := 49) (q0 := 0) X Nm flpf_6_27 ffpf_6_27 rfl (by decide) (fun _ => rfl) (fun _ => rfl) rfl dX6_init_49 lkpf_6_27 ?_
  refine wq_aload_n (pc := 52) X dX6_init_52 rfl rfl ?_
  refine wq_bipush (pc := 53) (v := nI 10) X dX6_init_53 (by decide) ?_
  refine wq_newI (pc := 55) (i := 137) (kc' := 7) (ks' := 50) X kk_arr (by decide) (by decide +kernel) rfl rfl rfl rfl (by decide) (by decide) dX6_init_55 (fun q7 => ?_)
  have hN7 := adS (q := q7) hN6 (show 137 ∈ [131, 132, 133, 134, 135, 136, 137, 138] by decide)
  refine wq_putF (pc := 57) (q0 := 0) X Nm flpf_6_30 ffpf_6_30 rfl (by decide) (fun _ => rfl) (fun _ => rfl) rfl dX6_init_57 lkpf_6_30 ?_
  refine wq_aload_n (pc := 60) X dX6_init_60 rfl rfl ?_
  refine wq_bipush (pc := 61) (v := nI 10) X dX6_init_61 (by decide) ?_
  refine wq_newI (pc := 63) (i := 138) (kc' := 8) (ks' := 60) X kk_arr (by decide) (by decide +kernel) rfl rfl rfl rfl (by decide) (by decide) dX6_init_63 (fun q8 => ?_)
  have hN8 := adS (q := q8) hN7 (show 138 ∈ [131, 132, 133, 134, 135, 136, 137, 138] by decide)
  refine wq_putF (pc := 65) (q0 := 0) X Nm flpf_6_33 ffpf_6_33 rfl (by decide) (fun _ => rfl) (fun _ => rfl) rfl dX6_init_65 lkpf_6_33 ?_
  refine wq_aload_n (pc := 68) X dX6_init_68 rfl rfl ?_
  refine wq_aload_n (pc := 69) X dX6_init_69 rfl rfl ?_
  refine wq_putF (pc := 70) (q0 := 0) X Nm flpf_6_36 ffpf_6_36 rfl (by decide) (fun _ => rfl) (fun _ => rfl) rfl dX6_init_70 lkpf_6_36 ?_
  exact wq_ret (pc := 73) (M := M0) X T hN8 rfl rfl (⟨rfl, ⟨by decide +kernel, by decide, rfl⟩, ⟨rfl, ⟨by decide +kernel, by decide +kernel, (M0_z (by decide +kernel)).symm⟩, ⟨rfl, ⟨by decide +kernel, by decide +kernel, (M0_z (by decide +kernel)).symm⟩, ⟨rfl, ⟨by decide +kernel, by decide +kernel, (M0_z (by decide +kernel)).symm⟩, ⟨rfl, ⟨by decide +kernel, by decide +kernel, (M0_z (by decide +kernel)).symm⟩, ⟨rfl, ⟨by decide +kernel, by decide +kernel, (M0_z (by decide +kernel)).symm⟩, ⟨rfl, ⟨by decide +kernel, by decide +kernel, (M0_z (by decide +kernel)).symm⟩, ⟨rfl, ⟨by decide +kernel, by decide +kernel, (M0_z (by decide +kernel)).symm⟩, ⟨rfl, ⟨by decide +kernel, by decide +kernel, (M0_z (by decide +kernel)).symm⟩, trivial⟩⟩⟩⟩⟩⟩⟩⟩⟩) rfl dX6_init_73
set_option maxRecDepth 100000 in
theorem cn_22 : CN mi_1 [23, 24] [.ref 22, .ref 7, .int (nI 0)] [(22, xO 1 [.null, .int 0, .null, .null, .int 0, .int 0, .int 0, .int 0])] (fun M => ZL [22, 23, 24] M) (fun M => M = M0) := by
  refine CN.intro pnf_1 rfl rfl (by decide) (by decide) (fun x X O Nm T => ?_)
  have hN0 : ∀ j, j ∉ [23, 24] → AX x j = AX x j := fun _ _ => rfl
  refine wq_aload_n (pc := 0) X dX1_init_0 rfl rfl ?_
  refine wq_objInit (pc := 1) X kk_187 kk_56 kk_obj rfl (by decide) (by decide) dX1_init_1 ?_
  refine wq_aload_n (pc := 4) X dX1_init_4 rfl rfl ?_
  refine wq_bipush (pc := 5) (v := nI 6) X dX1_init_5 (by decide) ?_
  refine wq_newI (pc := 7) (i := 23) (kc' := 1) (ks' := 6) X kk_arr (by decide) (by decide +kernel) rfl rfl rfl rfl (by decide) (by decide) dX1_init_7 (fun q1 => ?_)
  have hN1 := adS (q := q1) hN0 (show 23 ∈ [23, 24] by decide)
  refine wq_putF (pc := 9) (q0 := 0) X Nm flpf_1_9 ffpf_1_9 rfl (by decide) (fun _ => rfl) (fun _ => rfl) rfl dX1_init_9 lkpf_1_9 ?_
  refine wq_aload_n (pc := 12) X dX1_init_12 rfl rfl ?_
  refine wq_bipush (pc := 13) (v := nI 6) X dX1_init_13 (by decide) ?_
  refine wq_newI (pc := 15) (i := 24) (kc' := 2) (ks' := 12) X kk_arr (by decide) (by decide +kernel) rfl rfl rfl rfl (by decide) (by decide) dX1_init_15 (fun q2 => ?_)
  have hN2 := adS (q := q2) hN1 (show 24 ∈ [23, 24] by decide)
  refine wq_putF (pc := 17) (q0 := 0) X Nm flpf_1_15 ffpf_1_15 rfl (by decide) (fun _ => rfl) (fun _ => rfl) rfl dX1_init_17 lkpf_1_15 ?_
  refine wq_aload_n (pc := 20) X dX1_init_20 rfl rfl ?_
  refine wq_aload_n (pc := 21) X dX1_init_21 rfl rfl ?_
  refine wq_putF (pc := 22) (q0 := 0) X Nm flpf_1_18 ffpf_1_18 rfl (by decide) (fun _ => rfl) (fun _ => rfl) rfl dX1_init_22 lkpf_1_18 ?_
  refine wq_aload_n (pc := 25) X dX1_init_25 rfl rfl ?_
  refine wq_iload_n (pc := 26) X dX1_init_26 rfl rfl ?_
  refine wq_putF (pc := 27) (q0 := 0) X Nm flpf_1_22 ffpf_1_22 rfl (by decide) (fun _ => rfl) (fun _ => rfl) rfl dX1_init_27 lkpf_1_22 ?_
  exact wq_ret (pc := 30) (M := M0) X T hN2 rfl rfl (⟨rfl, ⟨by decide +kernel, by decide, rfl⟩, ⟨rfl, ⟨by decide +kernel, by decide +kernel, (M0_z (by decide +kernel)).symm⟩, ⟨rfl, ⟨by decide +kernel, by decide +kernel, (M0_z (by decide +kernel)).symm⟩, trivial⟩⟩⟩) rfl dX1_init_30
set_option maxRecDepth 100000 in
theorem cn_25 : CN mi_1 [26, 27] [.ref 25, .ref 7, .int (nI 1)] [(25, xO 1 [.null, .int 0, .null, .null, .int 0, .int 0, .int 0, .int 0])] (fun M => ZL [25, 26, 27] M) (fun M => M = M0) := by
  refine CN.intro pnf_1 rfl rfl (by decide) (by decide) (fun x X O Nm T => ?_)
  have hN0 : ∀ j, j ∉ [26, 27] → AX x j = AX x j := fun _ _ => rfl
  refine wq_aload_n (pc := 0) X dX1_init_0 rfl rfl ?_
  refine wq_objInit (pc := 1) X kk_187 kk_56 kk_obj rfl (by decide) (by decide) dX1_init_1 ?_
  refine wq_aload_n (pc := 4) X dX1_init_4 rfl rfl ?_
  refine wq_bipush (pc := 5) (v := nI 6) X dX1_init_5 (by decide) ?_
  refine wq_newI (pc := 7) (i := 26) (kc' := 1) (ks' := 6) X kk_arr (by decide) (by decide +kernel) rfl rfl rfl rfl (by decide) (by decide) dX1_init_7 (fun q1 => ?_)
  have hN1 := adS (q := q1) hN0 (show 26 ∈ [26, 27] by decide)
  refine wq_putF (pc := 9) (q0 := 0) X Nm flpf_1_9 ffpf_1_9 rfl (by decide) (fun _ => rfl) (fun _ => rfl) rfl dX1_init_9 lkpf_1_9 ?_
  refine wq_aload_n (pc := 12) X dX1_init_12 rfl rfl ?_
  refine wq_bipush (pc := 13) (v := nI 6) X dX1_init_13 (by decide) ?_
  refine wq_newI (pc := 15) (i := 27) (kc' := 2) (ks' := 12) X kk_arr (by decide) (by decide +kernel) rfl rfl rfl rfl (by decide) (by decide) dX1_init_15 (fun q2 => ?_)
  have hN2 := adS (q := q2) hN1 (show 27 ∈ [26, 27] by decide)
  refine wq_putF (pc := 17) (q0 := 0) X Nm flpf_1_15 ffpf_1_15 rfl (by decide) (fun _ => rfl) (fun _ => rfl) rfl dX1_init_17 lkpf_1_15 ?_
  refine wq_aload_n (pc := 20) X dX1_init_20 rfl rfl ?_
  refine wq_aload_n (pc := 21) X dX1_init_21 rfl rfl ?_
  refine wq_putF (pc := 22) (q0 := 0) X Nm flpf_1_18 ffpf_1_18 rfl (by decide) (fun _ => rfl) (fun _ => rfl) rfl dX1_init_22 lkpf_1_18 ?_
  refine wq_aload_n (pc := 25) X dX1_init_25 rfl rfl ?_
  refine wq_iload_n (pc := 26) X dX1_init_26 rfl rfl ?_
  refine wq_putF (pc := 27) (q0 := 0) X Nm flpf_1_22 ffpf_1_22 rfl (by decide) (fun _ => rfl) (fun _ => rfl) rfl dX1_init_27 lkpf_1_22 ?_
  exact wq_ret (pc := 30) (M := M0) X T hN2 rfl rfl (⟨rfl, ⟨by decide +kernel, by decide, rfl⟩, ⟨rfl, ⟨by decide +kernel, by decide +kernel, (M0_z (by decide +kernel)).symm⟩, ⟨rfl, ⟨by decide +kernel, by decide +kernel, (M0_z (by decide +kernel)).symm⟩, trivial⟩⟩⟩) rfl dX1_init_30
set_option maxRecDepth 100000 in
theorem cn_28 : CN mi_1 [29, 30] [.ref 28, .ref 7, .int (nI 2)] [(28, xO 1 [.null, .int 0, .null, .null, .int 0, .int 0, .int 0, .int 0])] (fun M => ZL [28, 29, 30] M) (fun M => M = M0) := by
  refine CN.intro pnf_1 rfl rfl (by decide) (by decide) (fun x X O Nm T => ?_)
  have hN0 : ∀ j, j ∉ [29, 30] → AX x j = AX x j := fun _ _ => rfl
  refine wq_aload_n (pc := 0) X dX1_init_0 rfl rfl ?_
  refine wq_objInit (pc := 1) X kk_187 kk_56 kk_obj rfl (by decide) (by decide) dX1_init_1 ?_
  refine wq_aload_n (pc := 4) X dX1_init_4 rfl rfl ?_
  refine wq_bipush (pc := 5) (v := nI 6) X dX1_init_5 (by decide) ?_
  refine wq_newI (pc := 7) (i := 29) (kc' := 1) (ks' := 6) X kk_arr (by decide) (by decide +kernel) rfl rfl rfl rfl (by decide) (by decide) dX1_init_7 (fun q1 => ?_)
  have hN1 := adS (q := q1) hN0 (show 29 ∈ [29, 30] by decide)
  refine wq_putF (pc := 9) (q0 := 0) X Nm flpf_1_9 ffpf_1_9 rfl (by decide) (fun _ => rfl) (fun _ => rfl) rfl dX1_init_9 lkpf_1_9 ?_
  refine wq_aload_n (pc := 12) X dX1_init_12 rfl rfl ?_
  refine wq_bipush (pc := 13) (v := nI 6) X dX1_init_13 (by decide) ?_
  refine wq_newI (pc := 15) (i := 30) (kc' := 2) (ks' := 12) X kk_arr (by decide) (by decide +kernel) rfl rfl rfl rfl (by decide) (by decide) dX1_init_15 (fun q2 => ?_)
  have hN2 := adS (q := q2) hN1 (show 30 ∈ [29, 30] by decide)
  refine wq_putF (pc := 17) (q0 := 0) X Nm flpf_1_15 ffpf_1_15 rfl (by decide) (fun _ => rfl) (fun _ => rfl) rfl dX1_init_17 lkpf_1_15 ?_
  refine wq_aload_n (pc := 20) X dX1_init_20 rfl rfl ?_
  refine wq_aload_n (pc := 21) X dX1_init_21 rfl rfl ?_
  refine wq_putF (pc := 22) (q0 := 0) X Nm flpf_1_18 ffpf_1_18 rfl (by decide) (fun _ => rfl) (fun _ => rfl) rfl dX1_init_22 lkpf_1_18 ?_
  refine wq_aload_n (pc := 25) X dX1_init_25 rfl rfl ?_
  refine wq_iload_n (pc := 26) X dX1_init_26 rfl rfl ?_
  refine wq_putF (pc := 27) (q0 := 0) X Nm flpf_1_22 ffpf_1_22 rfl (by decide) (fun _ => rfl) (fun _ => rfl) rfl dX1_init_27 lkpf_1_22 ?_
  exact wq_ret (pc := 30) (M := M0) X T hN2 rfl rfl (⟨rfl, ⟨by decide +kernel, by decide, rfl⟩, ⟨rfl, ⟨by decide +kernel, by decide +kernel, (M0_z (by decide +kernel)).symm⟩, ⟨rfl, ⟨by decide +kernel, by decide +kernel, (M0_z (by decide +kernel)).symm⟩, trivial⟩⟩⟩) rfl dX1_init_30
set_option maxRecDepth 100000 in
theorem cn_31 : CN mi_1 [32, 33] [.ref 31, .ref 7, .int (nI 3)] [(31, xO 1 [.null, .int 0, .null, .null, .int 0, .int 0, .int 0, .int 0])] (fun M => ZL [31, 32, 33] M) (fun M => M = M0) := by
  refine CN.intro pnf_1 rfl rfl (by decide) (by decide) (fun x X O Nm T => ?_)
  have hN0 : ∀ j, j ∉ [32, 33] → AX x j = AX x j := fun _ _ => rfl
  refine wq_aload_n (pc := 0) X dX1_init_0 rfl rfl ?_
  refine wq_objInit (pc := 1) X kk_187 kk_56 kk_obj rfl (by decide) (by decide) dX1_init_1 ?_
  refine wq_aload_n (pc := 4) X dX1_init_4 rfl rfl ?_
  refine wq_bipush (pc := 5) (v := nI 6) X dX1_init_5 (by decide) ?_
  refine wq_newI (pc := 7) (i := 32) (kc' := 1) (ks' := 6) X kk_arr (by decide) (by decide +kernel) rfl rfl rfl rfl (by decide) (by decide) dX1_init_7 (fun q1 => ?_)
  have hN1 := adS (q := q1) hN0 (show 32 ∈ [32, 33] by decide)
  refine wq_putF (pc := 9) (q0 := 0) X Nm flpf_1_9 ffpf_1_9 rfl (by decide) (fun _ => rfl) (fun _ => rfl) rfl dX1_init_9 lkpf_1_9 ?_
  refine wq_aload_n (pc := 12) X dX1_init_12 rfl rfl ?_
  refine wq_bipush (pc := 13) (v := nI 6) X dX1_init_13 (by decide) ?_
  refine wq_newI (pc := 15) (i := 33) (kc' := 2) (ks' := 12) X kk_arr (by decide) (by decide +kernel) rfl rfl rfl rfl (by decide) (by decide) dX1_init_15 (fun q2 => ?_)
  have hN2 := adS (q := q2) hN1 (show 33 ∈ [32, 33] by decide)
  refine wq_putF (pc := 17) (q0 := 0) X Nm flpf_1_15 ffpf_1_15 rfl (by decide) (fun _ => rfl) (fun _ => rfl) rfl dX1_init_17 lkpf_1_15 ?_
  refine wq_aload_n (pc := 20) X dX1_init_20 rfl rfl ?_
  refine wq_aload_n (pc := 21) X dX1_init_21 rfl rfl ?_
  refine wq_putF (pc := 22) (q0 := 0) X Nm flpf_1_18 ffpf_1_18 rfl (by decide) (fun _ => rfl) (fun _ => rfl) rfl dX1_init_22 lkpf_1_18 ?_
  refine wq_aload_n (pc := 25) X dX1_init_25 rfl rfl ?_
  refine wq_iload_n (pc := 26) X dX1_init_26 rfl rfl ?_
  refine wq_putF (pc := 27) (q0 := 0) X Nm flpf_1_22 ffpf_1_22 rfl (by decide) (fun _ => rfl) (fun _ => rfl) rfl dX1_init_27 lkpf_1_22 ?_
  exact wq_ret (pc := 30) (M := M0) X T hN2 rfl rfl (⟨rfl, ⟨by decide +kernel, by decide, rfl⟩, ⟨rfl, ⟨by decide +kernel, by decide +kernel, (M0_z (by decide +kernel)).symm⟩, ⟨rfl, ⟨by decide +kernel, by decide +kernel, (M0_z (by decide +kernel)).symm⟩, trivial⟩⟩⟩) rfl dX1_init_30
set_option maxRecDepth 100000 in
theorem cn_47 : CN mi_1 [48, 49] [.ref 47, .ref 7, .int (nI 0)] [(47, xO 1 [.null, .int 0, .null, .null, .int 0, .int 0, .int 0, .int 0])] (fun M => ZL [47, 48, 49] M) (fun M => M = M0) := by
  refine CN.intro pnf_1 rfl rfl (by decide) (by decide) (fun x X O Nm T => ?_)
  have hN0 : ∀ j, j ∉ [48, 49] → AX x j = AX x j := fun _ _ => rfl
  refine wq_aload_n (pc := 0) X dX1_init_0 rfl rfl ?_
  refine wq_objInit (pc := 1) X kk_187 kk_56 kk_obj rfl (by decide) (by decide) dX1_init_1 ?_
  refine wq_aload_n (pc := 4) X dX1_init_4 rfl rfl ?_
  refine wq_bipush (pc := 5) (v := nI 6) X dX1_init_5 (by decide) ?_
  refine wq_newI (pc := 7) (i := 48) (kc' := 1) (ks' := 6) X kk_arr (by decide) (by decide +kernel) rfl rfl rfl rfl (by decide) (by decide) dX1_init_7 (fun q1 => ?_)
  have hN1 := adS (q := q1) hN0 (show 48 ∈ [48, 49] by decide)
  refine wq_putF (pc := 9) (q0 := 0) X Nm flpf_1_9 ffpf_1_9 rfl (by decide) (fun _ => rfl) (fun _ => rfl) rfl dX1_init_9 lkpf_1_9 ?_
  refine wq_aload_n (pc := 12) X dX1_init_12 rfl rfl ?_
  refine wq_bipush (pc := 13) (v := nI 6) X dX1_init_13 (by decide) ?_
  refine wq_newI (pc := 15) (i := 49) (kc' := 2) (ks' := 12) X kk_arr (by decide) (by decide +kernel) rfl rfl rfl rfl (by decide) (by decide) dX1_init_15 (fun q2 => ?_)
  have hN2 := adS (q := q2) hN1 (show 49 ∈ [48, 49] by decide)
  refine wq_putF (pc := 17) (q0 := 0) X Nm flpf_1_15 ffpf_1_15 rfl (by decide) (fun _ => rfl) (fun _ => rfl) rfl dX1_init_17 lkpf_1_15 ?_
  refine wq_aload_n (pc := 20) X dX1_init_20 rfl rfl ?_
  refine wq_aload_n (pc := 21) X dX1_init_21 rfl rfl ?_
  refine wq_putF (pc := 22) (q0 := 0) X Nm flpf_1_18 ffpf_1_18 rfl (by decide) (fun _ => rfl) (fun _ => rfl) rfl dX1_init_22 lkpf_1_18 ?_
  refine wq_aload_n (pc := 25) X dX1_init_25 rfl rfl ?_
  refine wq_iload_n (pc := 26) X dX1_init_26 rfl rfl ?_
  refine wq_putF (pc := 27) (q0 := 0) X Nm flpf_1_22 ffpf_1_22 rfl (by decide) (fun _ => rfl) (fun _ => rfl) rfl dX1_init_27 lkpf_1_22 ?_
  exact wq_ret (pc := 30) (M := M0) X T hN2 rfl rfl (⟨rfl, ⟨by decide +kernel, by decide, rfl⟩, ⟨rfl, ⟨by decide +kernel, by decide +kernel, (M0_z (by decide +kernel)).symm⟩, ⟨rfl, ⟨by decide +kernel, by decide +kernel, (M0_z (by decide +kernel)).symm⟩, trivial⟩⟩⟩) rfl dX1_init_30
set_option maxRecDepth 100000 in
theorem cn_50 : CN mi_1 [51, 52] [.ref 50, .ref 7, .int (nI 1)] [(50, xO 1 [.null, .int 0, .null, .null, .int 0, .int 0, .int 0, .int 0])] (fun M => ZL [50, 51, 52] M) (fun M => M = M0) := by
  refine CN.intro pnf_1 rfl rfl (by decide) (by decide) (fun x X O Nm T => ?_)
  have hN0 : ∀ j, j ∉ [51, 52] → AX x j = AX x j := fun _ _ => rfl
  refine wq_aload_n (pc := 0) X dX1_init_0 rfl rfl ?_
  refine wq_objInit (pc := 1) X kk_187 kk_56 kk_obj rfl (by decide) (by decide) dX1_init_1 ?_
  refine wq_aload_n (pc := 4) X dX1_init_4 rfl rfl ?_
  refine wq_bipush (pc := 5) (v := nI 6) X dX1_init_5 (by decide) ?_
  refine wq_newI (pc := 7) (i := 51) (kc' := 1) (ks' := 6) X kk_arr (by decide) (by decide +kernel) rfl rfl rfl rfl (by decide) (by decide) dX1_init_7 (fun q1 => ?_)
  have hN1 := adS (q := q1) hN0 (show 51 ∈ [51, 52] by decide)
  refine wq_putF (pc := 9) (q0 := 0) X Nm flpf_1_9 ffpf_1_9 rfl (by decide) (fun _ => rfl) (fun _ => rfl) rfl dX1_init_9 lkpf_1_9 ?_
  refine wq_aload_n (pc := 12) X dX1_init_12 rfl rfl ?_
  refine wq_bipush (pc := 13) (v := nI 6) X dX1_init_13 (by decide) ?_
  refine wq_newI (pc := 15) (i := 52) (kc' := 2) (ks' := 12) X kk_arr (by decide) (by decide +kernel) rfl rfl rfl rfl (by decide) (by decide) dX1_init_15 (fun q2 => ?_)
  have hN2 := adS (q := q2) hN1 (show 52 ∈ [51, 52] by decide)
  refine wq_putF (pc := 17) (q0 := 0) X Nm flpf_1_15 ffpf_1_15 rfl (by decide) (fun _ => rfl) (fun _ => rfl) rfl dX1_init_17 lkpf_1_15 ?_
  refine wq_aload_n (pc := 20) X dX1_init_20 rfl rfl ?_
  refine wq_aload_n (pc := 21) X dX1_init_21 rfl rfl ?_
  refine wq_putF (pc := 22) (q0 := 0) X Nm flpf_1_18 ffpf_1_18 rfl (by decide) (fun _ => rfl) (fun _ => rfl) rfl dX1_init_22 lkpf_1_18 ?_
  refine wq_aload_n (pc := 25) X dX1_init_25 rfl rfl ?_
  refine wq_iload_n (pc := 26) X dX1_init_26 rfl rfl ?_
  refine wq_putF (pc := 27) (q0 := 0) X Nm flpf_1_22 ffpf_1_22 rfl (by decide) (fun _ => rfl) (fun _ => rfl) rfl dX1_init_27 lkpf_1_22 ?_
  exact wq_ret (pc := 30) (M := M0) X T hN2 rfl rfl (⟨rfl, ⟨by decide +kernel, by decide, rfl⟩, ⟨rfl, ⟨by decide +kernel, by decide +kernel, (M0_z (by decide +kernel)).symm⟩, ⟨rfl, ⟨by decide +kernel, by decide +kernel, (M0_z (by decide +kernel)).symm⟩, trivial⟩⟩⟩) rfl dX1_init_30
set_option maxRecDepth 100000 in
theorem cn_53 : CN mi_1 [54, 55] [.ref 53, .ref 7, .int (nI 2)] [(53, xO 1 [.null, .int 0, .null, .null, .int 0, .int 0, .int 0, .int 0])] (fun M => ZL [53, 54, 55] M) (fun M => M = M0) := by
  refine CN.intro pnf_1 rfl rfl (by decide) (by decide) (fun x X O Nm T => ?_)
  have hN0 : ∀ j, j ∉ [54, 55] → AX x j = AX x j := fun _ _ => rfl
  refine wq_aload_n (pc := 0) X dX1_init_0 rfl rfl ?_
  refine wq_objInit (pc := 1) X kk_187 kk_56 kk_obj rfl (by decide) (by decide) dX1_init_1 ?_
  refine wq_aload_n (pc := 4) X dX1_init_4 rfl rfl ?_
  refine wq_bipush (pc := 5) (v := nI 6) X dX1_init_5 (by decide) ?_
  refine wq_newI (pc := 7) (i := 54) (kc' := 1) (ks' := 6) X kk_arr (by decide) (by decide +kernel) rfl rfl rfl rfl (by decide) (by decide) dX1_init_7 (fun q1 => ?_)
  have hN1 := adS (q := q1) hN0 (show 54 ∈ [54, 55] by decide)
  refine wq_putF (pc := 9) (q0 := 0) X Nm flpf_1_9 ffpf_1_9 rfl (by decide) (fun _ => rfl) (fun _ => rfl) rfl dX1_init_9 lkpf_1_9 ?_
  refine wq_aload_n (pc := 12) X dX1_init_12 rfl rfl ?_
  refine wq_bipush (pc := 13) (v := nI 6) X dX1_init_13 (by decide) ?_
  refine wq_newI (pc := 15) (i := 55) (kc' := 2) (ks' := 12) X kk_arr (by decide) (by decide +kernel) rfl rfl rfl rfl (by decide) (by decide) dX1_init_15 (fun q2 => ?_)
  have hN2 := adS (q := q2) hN1 (show 55 ∈ [54, 55] by decide)
  refine wq_putF (pc := 17) (q0 := 0) X Nm flpf_1_15 ffpf_1_15 rfl (by decide) (fun _ => rfl) (fun _ => rfl) rfl dX1_init_17 lkpf_1_15 ?_
  refine wq_aload_n (pc := 20) X dX1_init_20 rfl rfl ?_
  refine wq_aload_n (pc := 21) X dX1_init_21 rfl rfl ?_
  refine wq_putF (pc := 22) (q0 := 0) X Nm flpf_1_18 ffpf_1_18 rfl (by decide) (fun _ => rfl) (fun _ => rfl) rfl dX1_init_22 lkpf_1_18 ?_
  refine wq_aload_n (pc := 25) X dX1_init_25 rfl rfl ?_
  refine wq_iload_n (pc := 26) X dX1_init_26 rfl rfl ?_
  refine wq_putF (pc := 27) (q0 := 0) X Nm flpf_1_22 ffpf_1_22 rfl (by decide) (fun _ => rfl) (fun _ => rfl) rfl dX1_init_27 lkpf_1_22 ?_
  exact wq_ret (pc := 30) (M := M0) X T hN2 rfl rfl (⟨rfl, ⟨by decide +kernel, by decide, rfl⟩, ⟨rfl, ⟨by decide +kernel, by decide +kernel, (M0_z (by decide +kernel)).symm⟩, ⟨rfl, ⟨by decide +kernel, by decide +kernel, (M0_z (by decide +kernel)).symm⟩, trivial⟩⟩⟩) rfl dX1_init_30
set_option maxRecDepth 100000 in
theorem cn_56 : CN mi_1 [57, 58] [.ref 56, .ref 7, .int (nI 3)] [(56, xO 1 [.null, .int 0, .null, .null, .int 0, .int 0, .int 0, .int 0])] (fun M => ZL [56, 57, 58] M) (fun M => M = M0) := by
  refine CN.intro pnf_1 rfl rfl (by decide) (by decide) (fun x X O Nm T => ?_)
  have hN0 : ∀ j, j ∉ [57, 58] → AX x j = AX x j := fun _ _ => rfl
  refine wq_aload_n (pc := 0) X dX1_init_0 rfl rfl ?_
  refine wq_objInit (pc := 1) X kk_187 kk_56 kk_obj rfl (by decide) (by decide) dX1_init_1 ?_
  refine wq_aload_n (pc := 4) X dX1_init_4 rfl rfl ?_
  refine wq_bipush (pc := 5) (v := nI 6) X dX1_init_5 (by decide) ?_
  refine wq_newI (pc := 7) (i := 57) (kc' := 1) (ks' := 6) X kk_arr (by decide) (by decide +kernel) rfl rfl rfl rfl (by decide) (by decide) dX1_init_7 (fun q1 => ?_)
  have hN1 := adS (q := q1) hN0 (show 57 ∈ [57, 58] by decide)
  refine wq_putF (pc := 9) (q0 := 0) X Nm flpf_1_9 ffpf_1_9 rfl (by decide) (fun _ => rfl) (fun _ => rfl) rfl dX1_init_9 lkpf_1_9 ?_
  refine wq_aload_n (pc := 12) X dX1_init_12 rfl rfl ?_
  refine wq_bipush (pc := 13) (v := nI 6) X dX1_init_13 (by decide) ?_
  refine wq_newI (pc := 15) (i := 58) (kc' := 2) (ks' := 12) X kk_arr (by decide) (by decide +kernel) rfl rfl rfl rfl (by decide) (by decide) dX1_init_15 (fun q2 => ?_)
  have hN2 := adS (q := q2) hN1 (show 58 ∈ [57, 58] by decide)
  refine wq_putF (pc := 17) (q0 := 0) X Nm flpf_1_15 ffpf_1_15 rfl (by decide) (fun _ => rfl) (fun _ => rfl) rfl dX1_init_17 lkpf_1_15 ?_
  refine wq_aload_n (pc := 20) X dX1_init_20 rfl rfl ?_
  refine wq_aload_n (pc := 21) X dX1_init_21 rfl rfl ?_
  refine wq_putF (pc := 22) (q0 := 0) X Nm flpf_1_18 ffpf_1_18 rfl (by decide) (fun _ => rfl) (fun _ => rfl) rfl dX1_init_22 lkpf_1_18 ?_
  refine wq_aload_n (pc := 25) X dX1_init_25 rfl rfl ?_
  refine wq_iload_n (pc := 26) X dX1_init_26 rfl rfl ?_
  refine wq_putF (pc := 27) (q0 := 0) X Nm flpf_1_22 ffpf_1_22 rfl (by decide) (fun _ => rfl) (fun _ => rfl) rfl dX1_init_27 lkpf_1_22 ?_
  exact wq_ret (pc := 30) (M := M0) X T hN2 rfl rfl (⟨rfl, ⟨by decide +kernel, by decide, rfl⟩, ⟨rfl, ⟨by decide +kernel, by decide +kernel, (M0_z (by decide +kernel)).symm⟩, ⟨rfl, ⟨by decide +kernel, by decide +kernel, (M0_z (by decide +kernel)).symm⟩, trivial⟩⟩⟩) rfl dX1_init_30
set_option maxRecDepth 100000 in
theorem cn_70 : CN mi_1 [71, 72] [.ref 70, .ref 7, .int (nI 0)] [(70, xO 1 [.null, .int 0, .null, .null, .int 0, .int 0, .int 0, .int 0])] (fun M => ZL [70, 71, 72] M) (fun M => M = M0) := by
  refine CN.intro pnf_1 rfl rfl (by decide) (by decide) (fun x X O Nm T => ?_)
  have hN0 : ∀ j, j ∉ [71, 72] → AX x j = AX x j := fun _ _ => rfl
  refine wq_aload_n (pc := 0) X dX1_init_0 rfl rfl ?_
  refine wq_objInit (pc := 1) X kk_187 kk_56 kk_obj rfl (by decide) (by decide) dX1_init_1 ?_
  refine wq_aload_n (pc := 4) X dX1_init_4 rfl rfl ?_
  refine wq_bipush (pc := 5) (v := nI 6) X dX1_init_5 (by decide) ?_
  refine wq_newI (pc := 7) (i := 71) (kc' := 1) (ks' := 6) X kk_arr (by decide) (by decide +kernel) rfl rfl rfl rfl (by decide) (by decide) dX1_init_7 (fun q1 => ?_)
  have hN1 := adS (q := q1) hN0 (show 71 ∈ [71, 72] by decide)
  refine wq_putF (pc := 9) (q0 := 0) X Nm flpf_1_9 ffpf_1_9 rfl (by decide) (fun _ => rfl) (fun _ => rfl) rfl dX1_init_9 lkpf_1_9 ?_
  refine wq_aload_n (pc := 12) X dX1_init_12 rfl rfl ?_
  refine wq_bipush (pc := 13) (v := nI 6) X dX1_init_13 (by decide) ?_
  refine wq_newI (pc := 15) (i := 72) (kc' := 2) (ks' := 12) X kk_arr (by decide) (by decide +kernel) rfl rfl rfl rfl (by decide) (by decide) dX1_init_15 (fun q2 => ?_)
  have hN2 := adS (q := q2) hN1 (show 72 ∈ [71, 72] by decide)
  refine wq_putF (pc := 17) (q0 := 0) X Nm flpf_1_15 ffpf_1_15 rfl (by decide) (fun _ => rfl) (fun _ => rfl) rfl dX1_init_17 lkpf_1_15 ?_
  refine wq_aload_n (pc := 20) X dX1_init_20 rfl rfl ?_
  refine wq_aload_n (pc := 21) X dX1_init_21 rfl rfl ?_
  refine wq_putF (pc := 22) (q0 := 0) X Nm flpf_1_18 ffpf_1_18 rfl (by decide) (fun _ => rfl) (fun _ => rfl) rfl dX1_init_22 lkpf_1_18 ?_
  refine wq_aload_n (pc := 25) X dX1_init_25 rfl rfl ?_
  refine wq_iload_n (pc := 26) X dX1_init_26 rfl rfl ?_
  refine wq_putF (pc := 27) (q0 := 0) X Nm flpf_1_22 ffpf_1_22 rfl (by decide) (fun _ => rfl) (fun _ => rfl) rfl dX1_init_27 lkpf_1_22 ?_
  exact wq_ret (pc := 30) (M := M0) X T hN2 rfl rfl (⟨rfl, ⟨by decide +kernel, by decide, rfl⟩, ⟨rfl, ⟨by decide +kernel, by decide +kernel, (M0_z (by decide +kernel)).symm⟩, ⟨rfl, ⟨by decide +kernel, by decide +kernel, (M0_z (by decide +kernel)).symm⟩, trivial⟩⟩⟩) rfl dX1_init_30
set_option maxRecDepth 100000 in
theorem cn_73 : CN mi_1 [74, 75] [.ref 73, .ref 7, .int (nI 1)] [(73, xO 1 [.null, .int 0, .null, .null, .int 0, .int 0, .int 0, .int 0])] (fun M => ZL [73, 74, 75] M) (fun M => M = M0) := by
  refine CN.intro pnf_1 rfl rfl (by decide) (by decide) (fun x X O Nm T => ?_)
  have hN0 : ∀ j, j ∉ [74, 75] → AX x j = AX x j := fun _ _ => rfl
  refine wq_aload_n (pc := 0) X dX1_init_0 rfl rfl ?_
  refine wq_objInit (pc := 1) X kk_187 kk_56 kk_obj rfl (by decide) (by decide) dX1_init_1 ?_
  refine wq_aload_n (pc := 4) X dX1_init_4 rfl rfl ?_
  refine wq_bipush (pc := 5) (v := nI 6) X dX1_init_5 (by decide) ?_
  refine wq_newI (pc := 7) (i := 74) (kc' := 1) (ks' := 6) X kk_arr (by decide) (by decide +kernel) rfl rfl rfl rfl (by decide) (by decide) dX1_init_7 (fun q1 => ?_)
  have hN1 := adS (q := q1) hN0 (show 74 ∈ [74, 75] by decide)
  refine wq_putF (pc := 9) (q0 := 0) X Nm flpf_1_9 ffpf_1_9 rfl (by decide) (fun _ => rfl) (fun _ => rfl) rfl dX1_init_9 lkpf_1_9 ?_
  refine wq_aload_n (pc := 12) X dX1_init_12 rfl rfl ?_
  refine wq_bipush (pc := 13) (v := nI 6) X dX1_init_13 (by decide) ?_
  refine wq_newI (pc := 15) (i := 75) (kc' := 2) (ks' := 12) X kk_arr (by decide) (by decide +kernel) rfl rfl rfl rfl (by decide) (by decide) dX1_init_15 (fun q2 => ?_)
  have hN2 := adS (q := q2) hN1 (show 75 ∈ [74, 75] by decide)
  refine wq_putF (pc := 17) (q0 := 0) X Nm flpf_1_15 ffpf_1_15 rfl (by decide) (fun _ => rfl) (fun _ => rfl) rfl dX1_init_17 lkpf_1_15 ?_
  refine wq_aload_n (pc := 20) X dX1_init_20 rfl rfl ?_
  refine wq_aload_n (pc := 21) X dX1_init_21 rfl rfl ?_
  refine wq_putF (pc := 22) (q0 := 0) X Nm flpf_1_18 ffpf_1_18 rfl (by decide) (fun _ => rfl) (fun _ => rfl) rfl dX1_init_22 lkpf_1_18 ?_
  refine wq_aload_n (pc := 25) X dX1_init_25 rfl rfl ?_
  refine wq_iload_n (pc := 26) X dX1_init_26 rfl rfl ?_
  refine wq_putF (pc := 27) (q0 := 0) X Nm flpf_1_22 ffpf_1_22 rfl (by decide) (fun _ => rfl) (fun _ => rfl) rfl dX1_init_27 lkpf_1_22 ?_
  exact wq_ret (pc := 30) (M := M0) X T hN2 rfl rfl (⟨rfl, ⟨by decide +kernel, by decide, rfl⟩, ⟨rfl, ⟨by decide +kernel, by decide +kernel, (M0_z (by decide +kernel)).symm⟩, ⟨rfl, ⟨by decide +kernel, by decide +kernel, (M0_z (by decide +kernel)).symm⟩, trivial⟩⟩⟩) rfl dX1_init_30
set_option maxRecDepth 100000 in
theorem cn_76 : CN mi_1 [77, 78] [.ref 76, .ref 7, .int (nI 2)] [(76, xO 1 [.null, .int 0, .null, .null, .int 0, .int 0, .int 0, .int 0])] (fun M => ZL [76, 77, 78] M) (fun M => M = M0) := by
  refine CN.intro pnf_1 rfl rfl (by decide) (by decide) (fun x X O Nm T => ?_)
  have hN0 : ∀ j, j ∉ [77, 78] → AX x j = AX x j := fun _ _ => rfl
  refine wq_aload_n (pc := 0) X dX1_init_0 rfl rfl ?_
  refine wq_objInit (pc := 1) X kk_187 kk_56 kk_obj rfl (by decide) (by decide) dX1_init_1 ?_
  refine wq_aload_n (pc := 4) X dX1_init_4 rfl rfl ?_
  refine wq_bipush (pc := 5) (v := nI 6) X dX1_init_5 (by decide) ?_
  refine wq_newI (pc := 7) (i := 77) (kc' := 1) (ks' := 6) X kk_arr (by decide) (by decide +kernel) rfl rfl rfl rfl (by decide) (by decide) dX1_init_7 (fun q1 => ?_)
  have hN1 := adS (q := q1) hN0 (show 77 ∈ [77, 78] by decide)
  refine wq_putF (pc := 9) (q0 := 0) X Nm flpf_1_9 ffpf_1_9 rfl (by decide) (fun _ => rfl) (fun _ => rfl) rfl dX1_init_9 lkpf_1_9 ?_
  refine wq_aload_n (pc := 12) X dX1_init_12 rfl rfl ?_
  refine wq_bipush (pc := 13) (v := nI 6) X dX1_init_13 (by decide) ?_
  refine wq_newI (pc := 15) (i := 78) (kc' := 2) (ks' := 12) X kk_arr (by decide) (by decide +kernel) rfl rfl rfl rfl (by decide) (by decide) dX1_init_15 (fun q2 => ?_)
  have hN2 := adS (q := q2) hN1 (show 78 ∈ [77, 78] by decide)
  refine wq_putF (pc := 17) (q0 := 0) X Nm flpf_1_15 ffpf_1_15 rfl (by decide) (fun _ => rfl) (fun _ => rfl) rfl dX1_init_17 lkpf_1_15 ?_
  refine wq_aload_n (pc := 20) X dX1_init_20 rfl rfl ?_
  refine wq_aload_n (pc := 21) X dX1_init_21 rfl rfl ?_
  refine wq_putF (pc := 22) (q0 := 0) X Nm flpf_1_18 ffpf_1_18 rfl (by decide) (fun _ => rfl) (fun _ => rfl) rfl dX1_init_22 lkpf_1_18 ?_
  refine wq_aload_n (pc := 25) X dX1_init_25 rfl rfl ?_
  refine wq_iload_n (pc := 26) X dX1_init_26 rfl rfl ?_
  refine wq_putF (pc := 27) (q0 := 0) X Nm flpf_1_22 ffpf_1_22 rfl (by decide) (fun _ => rfl) (fun _ => rfl) rfl dX1_init_27 lkpf_1_22 ?_
  exact wq_ret (pc := 30) (M := M0) X T hN2 rfl rfl (⟨rfl, ⟨by decide +kernel, by decide, rfl⟩, ⟨rfl, ⟨by decide +kernel, by decide +kernel, (M0_z (by decide +kernel)).symm⟩, ⟨rfl, ⟨by decide +kernel, by decide +kernel, (M0_z (by decide +kernel)).symm⟩, trivial⟩⟩⟩) rfl dX1_init_30
set_option maxRecDepth 100000 in
theorem cn_79 : CN mi_1 [80, 81] [.ref 79, .ref 7, .int (nI 3)] [(79, xO 1 [.null, .int 0, .null, .null, .int 0, .int 0, .int 0, .int 0])] (fun M => ZL [79, 80, 81] M) (fun M => M = M0) := by
  refine CN.intro pnf_1 rfl rfl (by decide) (by decide) (fun x X O Nm T => ?_)
  have hN0 : ∀ j, j ∉ [80, 81] → AX x j = AX x j := fun _ _ => rfl
  refine wq_aload_n (pc := 0) X dX1_init_0 rfl rfl ?_
  refine wq_objInit (pc := 1) X kk_187 kk_56 kk_obj rfl (by decide) (by decide) dX1_init_1 ?_
  refine wq_aload_n (pc := 4) X dX1_init_4 rfl rfl ?_
  refine wq_bipush (pc := 5) (v := nI 6) X dX1_init_5 (by decide) ?_
  refine wq_newI (pc := 7) (i := 80) (kc' := 1) (ks' := 6) X kk_arr (by decide) (by decide +kernel) rfl rfl rfl rfl (by decide) (by decide) dX1_init_7 (fun q1 => ?_)
  have hN1 := adS (q := q1) hN0 (show 80 ∈ [80, 81] by decide)
  refine wq_putF (pc := 9) (q0 := 0) X Nm flpf_1_9 ffpf_1_9 rfl (by decide) (fun _ => rfl) (fun _ => rfl) rfl dX1_init_9 lkpf_1_9 ?_
  refine wq_aload_n (pc := 12) X dX1_init_12 rfl rfl ?_
  refine wq_bipush (pc := 13) (v := nI 6) X dX1_init_13 (by decide) ?_
  refine wq_newI (pc := 15) (i := 81) (kc' := 2) (ks' := 12) X kk_arr (by decide) (by decide +kernel) rfl rfl rfl rfl (by decide) (by decide) dX1_init_15 (fun q2 => ?_)
  have hN2 := adS (q := q2) hN1 (show 81 ∈ [80, 81] by decide)
  refine wq_putF (pc := 17) (q0 := 0) X Nm flpf_1_15 ffpf_1_15 rfl (by decide) (fun _ => rfl) (fun _ => rfl) rfl dX1_init_17 lkpf_1_15 ?_
  refine wq_aload_n (pc := 20) X dX1_init_20 rfl rfl ?_
  refine wq_aload_n (pc := 21) X dX1_init_21 rfl rfl ?_
  refine wq_putF (pc := 22) (q0 := 0) X Nm flpf_1_18 ffpf_1_18 rfl (by decide) (fun _ => rfl) (fun _ => rfl) rfl dX1_init_22 lkpf_1_18 ?_
  refine wq_aload_n (pc := 25) X dX1_init_25 rfl rfl ?_
  refine wq_iload_n (pc := 26) X dX1_init_26 rfl rfl ?_
  refine wq_putF (pc := 27) (q0 := 0) X Nm flpf_1_22 ffpf_1_22 rfl (by decide) (fun _ => rfl) (fun _ => rfl) rfl dX1_init_27 lkpf_1_22 ?_
  exact wq_ret (pc := 30) (M := M0) X T hN2 rfl rfl (⟨rfl, ⟨by decide +kernel, by decide, rfl⟩, ⟨rfl, ⟨by decide +kernel, by decide +kernel, (M0_z (by decide +kernel)).symm⟩, ⟨rfl, ⟨by decide +kernel, by decide +kernel, (M0_z (by decide +kernel)).symm⟩, trivial⟩⟩⟩) rfl dX1_init_30
set_option maxRecDepth 100000 in
theorem cn_93 : CN mi_1 [94, 95] [.ref 93, .ref 7, .int (nI 0)] [(93, xO 1 [.null, .int 0, .null, .null, .int 0, .int 0, .int 0, .int 0])] (fun M => ZL [93, 94, 95] M) (fun M => M = M0) := by
  refine CN.intro pnf_1 rfl rfl (by decide) (by decide) (fun x X O Nm T => ?_)
  have hN0 : ∀ j, j ∉ [94, 95] → AX x j = AX x j := fun _ _ => rfl
  refine wq_aload_n (pc := 0) X dX1_init_0 rfl rfl ?_
  refine wq_objInit (pc := 1) X kk_187 kk_56 kk_obj rfl (by decide) (by decide) dX1_init_1 ?_
  refine wq_aload_n (pc := 4) X dX1_init_4 rfl rfl ?_
  refine wq_bipush (pc := 5) (v := nI 6) X dX1_init_5 (by decide) ?_
  refine wq_newI (pc := 7) (i := 94) (kc' := 1) (ks' := 6) X kk_arr (by decide) (by decide +kernel) rfl rfl rfl rfl (by decide) (by decide) dX1_init_7 (fun q1 => ?_)
  have hN1 := adS (q := q1) hN0 (show 94 ∈ [94, 95] by decide)
  refine wq_putF (pc := 9) (q0 := 0) X Nm flpf_1_9 ffpf_1_9 rfl (by decide) (fun _ => rfl) (fun _ => rfl) rfl dX1_init_9 lkpf_1_9 ?_
  refine wq_aload_n (pc := 12) X dX1_init_12 rfl rfl ?_
  refine wq_bipush (pc := 13) (v := nI 6) X dX1_init_13 (by decide) ?_
  refine wq_newI (pc := 15) (i := 95) (kc' := 2) (ks' := 12) X kk_arr (by decide) (by decide +kernel) rfl rfl rfl rfl (by decide) (by decide) dX1_init_15 (fun q2 => ?_)
  have hN2 := adS (q := q2) hN1 (show 95 ∈ [94, 95] by decide)
  refine wq_putF (pc := 17) (q0 := 0) X Nm flpf_1_15 ffpf_1_15 rfl (by decide) (fun _ => rfl) (fun _ => rfl) rfl dX1_init_17 lkpf_1_15 ?_
  refine wq_aload_n (pc := 20) X dX1_init_20 rfl rfl ?_
  refine wq_aload_n (pc := 21) X dX1_init_21 rfl rfl ?_
  refine wq_putF (pc := 22) (q0 := 0) X Nm flpf_1_18 ffpf_1_18 rfl (by decide) (fun _ => rfl) (fun _ => rfl) rfl dX1_init_22 lkpf_1_18 ?_
  refine wq_aload_n (pc := 25) X dX1_init_25 rfl rfl ?_
  refine wq_iload_n (pc := 26) X dX1_init_26 rfl rfl ?_
  refine wq_putF (pc := 27) (q0 := 0) X Nm flpf_1_22 ffpf_1_22 rfl (by decide) (fun _ => rfl) (fun _ => rfl) rfl dX1_init_27 lkpf_1_22 ?_
  exact wq_ret (pc := 30) (M := M0) X T hN2 rfl rfl (⟨rfl, ⟨by decide +kernel, by decide, rfl⟩, ⟨rfl, ⟨by decide +kernel, by decide +kernel, (M0_z (by decide +kernel)).symm⟩, ⟨rfl, ⟨by decide +kernel, by decide +kernel, (M0_z (by decide +kernel)).symm⟩, trivial⟩⟩⟩) rfl dX1_init_30
set_option maxRecDepth 100000 in
theorem cn_96 : CN mi_1 [97, 98] [.ref 96, .ref 7, .int (nI 1)] [(96, xO 1 [.null, .int 0, .null, .null, .int 0, .int 0, .int 0, .int 0])] (fun M => ZL [96, 97, 98] M) (fun M => M = M0) := by
  refine CN.intro pnf_1 rfl rfl (by decide) (by decide) (fun x X O Nm T => ?_)
  have hN0 : ∀ j, j ∉ [97, 98] → AX x j = AX x j := fun _ _ => rfl
  refine wq_aload_n (pc := 0) X dX1_init_0 rfl rfl ?_
  refine wq_objInit (pc := 1) X kk_187 kk_56 kk_obj rfl (by decide) (by decide) dX1_init_1 ?_
  refine wq_aload_n (pc := 4) X dX1_init_4 rfl rfl ?_
  refine wq_bipush (pc := 5) (v := nI 6) X dX1_init_5 (by decide) ?_
  refine wq_newI (pc := 7) (i := 97) (kc' := 1) (ks' := 6) X kk_arr (by decide) (by decide +kernel) rfl rfl rfl rfl (by decide) (by decide) dX1_init_7 (fun q1 => ?_)
  have hN1 := adS (q := q1) hN0 (show 97 ∈ [97, 98] by decide)
  refine wq_putF (pc := 9) (q0 := 0) X Nm flpf_1_9 ffpf_1_9 rfl (by decide) (fun _ => rfl) (fun _ => rfl) rfl dX1_init_9 lkpf_1_9 ?_
  refine wq_aload_n (pc := 12) X dX1_init_12 rfl rfl ?_
  refine wq_bipush (pc := 13) (v := nI 6) X dX1_init_13 (by decide) ?_
  refine wq_newI (pc := 15) (i := 98) (kc' := 2) (ks' := 12) X kk_arr (by decide) (by decide +kernel) rfl rfl rfl rfl (by decide) (by decide) dX1_init_15 (fun q2 => ?_)
  have hN2 := adS (q := q2) hN1 (show 98 ∈ [97, 98] by decide)
  refine wq_putF (pc := 17) (q0 := 0) X Nm flpf_1_15 ffpf_1_15 rfl (by decide) (fun _ => rfl) (fun _ => rfl) rfl dX1_init_17 lkpf_1_15 ?_
  refine wq_aload_n (pc := 20) X dX1_init_20 rfl rfl ?_
  refine wq_aload_n (pc := 21) X dX1_init_21 rfl rfl ?_
  refine wq_putF (pc := 22) (q0 := 0) X Nm flpf_1_18 ffpf_1_18 rfl (by decide) (fun _ => rfl) (fun _ => rfl) rfl dX1_init_22 lkpf_1_18 ?_
  refine wq_aload_n (pc := 25) X dX1_init_25 rfl rfl ?_
  refine wq_iload_n (pc := 26) X dX1_init_26 rfl rfl ?_
  refine wq_putF (pc := 27) (q0 := 0) X Nm flpf_1_22 ffpf_1_22 rfl (by decide) (fun _ => rfl) (fun _ => rfl) rfl dX1_init_27 lkpf_1_22 ?_
  exact wq_ret (pc := 30) (M := M0) X T hN2 rfl rfl (⟨rfl, ⟨by decide +kernel, by decide, rfl⟩, ⟨rfl, ⟨by decide +kernel, by decide +kernel, (M0_z (by decide +kernel)).symm⟩, ⟨rfl, ⟨by decide +kernel, by decide +kernel, (M0_z (by decide +kernel)).symm⟩, trivial⟩⟩⟩) rfl dX1_init_30
set_option maxRecDepth 100000 in
theorem cn_99 : CN mi_1 [100, 101] [.ref 99, .ref 7, .int (nI 2)] [(99, xO 1 [.null, .int 0, .null, .null, .int 0, .int 0, .int 0, .int 0])] (fun M => ZL [99, 100, 101] M) (fun M => M = M0) := by
  refine CN.intro pnf_1 rfl rfl (by decide) (by decide) (fun x X O Nm T => ?_)
  have hN0 : ∀ j, j ∉ [100, 101] → AX x j = AX x j := fun _ _ => rfl
  refine wq_aload_n (pc := 0) X dX1_init_0 rfl rfl ?_
  refine wq_objInit (pc := 1) X kk_187 kk_56 kk_obj rfl (by decide) (by decide) dX1_init_1 ?_
  refine wq_aload_n (pc := 4) X dX1_init_4 rfl rfl ?_
  refine wq_bipush (pc := 5) (v := nI 6) X dX1_init_5 (by decide) ?_
  refine wq_newI (pc := 7) (i := 100) (kc' := 1) (ks' := 6) X kk_arr (by decide) (by decide +kernel) rfl rfl rfl rfl (by decide) (by decide) dX1_init_7 (fun q1 => ?_)
  have hN1 := adS (q := q1) hN0 (show 100 ∈ [100, 101] by decide)
  refine wq_putF (pc := 9) (q0 := 0) X Nm flpf_1_9 ffpf_1_9 rfl (by decide) (fun _ => rfl) (fun _ => rfl) rfl dX1_init_9 lkpf_1_9 ?_
  refine wq_aload_n (pc := 12) X dX1_init_12 rfl rfl ?_
  refine wq_bipush (pc := 13) (v := nI 6) X dX1_init_13 (by decide) ?_
  refine wq_newI (pc := 15) (i := 101) (kc' := 2) (ks' := 12) X kk_arr (by decide) (by decide +kernel) rfl rfl rfl rfl (by decide) (by decide) dX1_init_15 (fun q2 => ?_)
  have hN2 := adS (q := q2) hN1 (show 101 ∈ [100, 101] by decide)
  refine wq_putF (pc := 17) (q0 := 0) X Nm flpf_1_15 ffpf_1_15 rfl (by decide) (fun _ => rfl) (fun _ => rfl) rfl dX1_init_17 lkpf_1_15 ?_
  refine wq_aload_n (pc := 20) X dX1_init_20 rfl rfl ?_
  refine wq_aload_n (pc := 21) X dX1_init_21 rfl rfl ?_
  refine wq_putF (pc := 22) (q0 := 0) X Nm flpf_1_18 ffpf_1_18 rfl (by decide) (fun _ => rfl) (fun _ => rfl) rfl dX1_init_22 lkpf_1_18 ?_
  refine wq_aload_n (pc := 25) X dX1_init_25 rfl rfl ?_
  refine wq_iload_n (pc := 26) X dX1_init_26 rfl rfl ?_
  refine wq_putF (pc := 27) (q0 := 0) X Nm flpf_1_22 ffpf_1_22 rfl (by decide) (fun _ => rfl) (fun _ => rfl) rfl dX1_init_27 lkpf_1_22 ?_
  exact wq_ret (pc := 30) (M := M0) X T hN2 rfl rfl (⟨rfl, ⟨by decide +kernel, by decide, rfl⟩, ⟨rfl, ⟨by decide +kernel, by decide +kernel, (M0_z (by decide +kernel)).symm⟩, ⟨rfl, ⟨by decide +kernel, by decide +kernel, (M0_z (by decide +kernel)).symm⟩, trivial⟩⟩⟩) rfl dX1_init_30
set_option maxRecDepth 100000 in
theorem cn_102 : CN mi_1 [103, 104] [.ref 102, .ref 7, .int (nI 3)] [(102, xO 1 [.null, .int 0, .null, .null, .int 0, .int 0, .int 0, .int 0])] (fun M => ZL [102, 103, 104] M) (fun M => M = M0) := by
  refine CN.intro pnf_1 rfl rfl (by decide) (by decide) (fun x X O Nm T => ?_)
  have hN0 : ∀ j, j ∉ [103, 104] → AX x j = AX x j := fun _ _ => rfl
  refine wq_aload_n (pc := 0) X dX1_init_0 rfl rfl ?_
  refine wq_objInit (pc := 1) X kk_187 kk_56 kk_obj rfl (by decide) (by decide) dX1_init_1 ?_
  refine wq_aload_n (pc := 4) X dX1_init_4 rfl rfl ?_
  refine wq_bipush (pc := 5) (v := nI 6) X dX1_init_5 (by decide) ?_
  refine wq_newI (pc := 7) (i := 103) (kc' := 1) (ks' := 6) X kk_arr (by decide) (by decide +kernel) rfl rfl rfl rfl (by decide) (by decide) dX1_init_7 (fun q1 => ?_)
  have hN1 := adS (q := q1) hN0 (show 103 ∈ [103, 104] by decide)
  refine wq_putF (pc := 9) (q0 := 0) X Nm flpf_1_9 ffpf_1_9 rfl (by decide) (fun _ => rfl) (fun _ => rfl) rfl dX1_init_9 lkpf_1_9 ?_
  refine wq_aload_n (pc := 12) X dX1_init_12 rfl rfl ?_
  refine wq_bipush (pc := 13) (v := nI 6) X dX1_init_13 (by decide) ?_
  refine wq_newI (pc := 15) (i := 104) (kc' := 2) (ks' := 12) X kk_arr (by decide) (by decide +kernel) rfl rfl rfl rfl (by decide) (by decide) dX1_init_15 (fun q2 => ?_)
  have hN2 := adS (q := q2) hN1 (show 104 ∈ [103, 104] by decide)
  refine wq_putF (pc := 17) (q0 := 0) X Nm flpf_1_15 ffpf_1_15 rfl (by decide) (fun _ => rfl) (fun _ => rfl) rfl dX1_init_17 lkpf_1_15 ?_
  refine wq_aload_n (pc := 20) X dX1_init_20 rfl rfl ?_
  refine wq_aload_n (pc := 21) X dX1_init_21 rfl rfl ?_
  refine wq_putF (pc := 22) (q0 := 0) X Nm flpf_1_18 ffpf_1_18 rfl (by decide) (fun _ => rfl) (fun _ => rfl) rfl dX1_init_22 lkpf_1_18 ?_
  refine wq_aload_n (pc := 25) X dX1_init_25 rfl rfl ?_
  refine wq_iload_n (pc := 26) X dX1_init_26 rfl rfl ?_
  refine wq_putF (pc := 27) (q0 := 0) X Nm flpf_1_22 ffpf_1_22 rfl (by decide) (fun _ => rfl) (fun _ => rfl) rfl dX1_init_27 lkpf_1_22 ?_
  exact wq_ret (pc := 30) (M := M0) X T hN2 rfl rfl (⟨rfl, ⟨by decide +kernel, by decide, rfl⟩, ⟨rfl, ⟨by decide +kernel, by decide +kernel, (M0_z (by decide +kernel)).symm⟩, ⟨rfl, ⟨by decide +kernel, by decide +kernel, (M0_z (by decide +kernel)).symm⟩, trivial⟩⟩⟩) rfl dX1_init_30
set_option maxRecDepth 100000 in
theorem cn_116 : CN mi_1 [117, 118] [.ref 116, .ref 7, .int (nI 0)] [(116, xO 1 [.null, .int 0, .null, .null, .int 0, .int 0, .int 0, .int 0])] (fun M => ZL [116, 117, 118] M) (fun M => M = M0) := by
  refine CN.intro pnf_1 rfl rfl (by decide) (by decide) (fun x X O Nm T => ?_)
  have hN0 : ∀ j, j ∉ [117, 118] → AX x j = AX x j := fun _ _ => rfl
  refine wq_aload_n (pc := 0) X dX1_init_0 rfl rfl ?_
  refine wq_objInit (pc := 1) X kk_187 kk_56 kk_obj rfl (by decide) (by decide) dX1_init_1 ?_
  refine wq_aload_n (pc := 4) X dX1_init_4 rfl rfl ?_
  refine wq_bipush (pc := 5) (v := nI 6) X dX1_init_5 (by decide) ?_
  refine wq_newI (pc := 7) (i := 117) (kc' := 1) (ks' := 6) X kk_arr (by decide) (by decide +kernel) rfl rfl rfl rfl (by decide) (by decide) dX1_init_7 (fun q1 => ?_)
  have hN1 := adS (q := q1) hN0 (show 117 ∈ [117, 118] by decide)
  refine wq_putF (pc := 9) (q0 := 0) X Nm flpf_1_9 ffpf_1_9 rfl (by decide) (fun _ => rfl) (fun _ => rfl) rfl dX1_init_9 lkpf_1_9 ?_
  refine wq_aload_n (pc := 12) X dX1_init_12 rfl rfl ?_
  refine wq_bipush (pc := 13) (v := nI 6) X dX1_init_13 (by decide) ?_
  refine wq_newI (pc := 15) (i := 118) (kc' := 2) (ks' := 12) X kk_arr (by decide) (by decide +kernel) rfl rfl rfl rfl (by decide) (by decide) dX1_init_15 (fun q2 => ?_)
  have hN2 := adS (q := q2) hN1 (show 118 ∈ [117, 118] by decide)
  refine wq_putF (pc := 17) (q0 := 0) X Nm flpf_1_15 ffpf_1_15 rfl (by decide) (fun _ => rfl) (fun _ => rfl) rfl dX1_init_17 lkpf_1_15 ?_
  refine wq_aload_n (pc := 20) X dX1_init_20 rfl rfl ?_
  refine wq_aload_n (pc := 21) X dX1_init_21 rfl rfl ?_
  refine wq_putF (pc := 22) (q0 := 0) X Nm flpf_1_18 ffpf_1_18 rfl (by decide) (fun _ => rfl) (fun _ => rfl) rfl dX1_init_22 lkpf_1_18 ?_
  refine wq_aload_n (pc := 25) X dX1_init_25 rfl rfl ?_
  refine wq_iload_n (pc := 26) X dX1_init_26 rfl rfl ?_
  refine wq_putF (pc := 27) (q0 := 0) X Nm flpf_1_22 ffpf_1_22 rfl (by decide) (fun _ => rfl) (fun _ => rfl) rfl dX1_init_27 lkpf_1_22 ?_
  exact wq_ret (pc := 30) (M := M0) X T hN2 rfl rfl (⟨rfl, ⟨by decide +kernel, by decide, rfl⟩, ⟨rfl, ⟨by decide +kernel, by decide +kernel, (M0_z (by decide +kernel)).symm⟩, ⟨rfl, ⟨by decide +kernel, by decide +kernel, (M0_z (by decide +kernel)).symm⟩, trivial⟩⟩⟩) rfl dX1_init_30
set_option maxRecDepth 100000 in
theorem cn_119 : CN mi_1 [120, 121] [.ref 119, .ref 7, .int (nI 1)] [(119, xO 1 [.null, .int 0, .null, .null, .int 0, .int 0, .int 0, .int 0])] (fun M => ZL [119, 120, 121] M) (fun M => M = M0) := by
  refine CN.intro pnf_1 rfl rfl (by decide) (by decide) (fun x X O Nm T => ?_)
  have hN0 : ∀ j, j ∉ [120, 121] → AX x j = AX x j := fun _ _ => rfl
  refine wq_aload_n (pc := 0) X dX1_init_0 rfl rfl ?_
  refine wq_objInit (pc := 1) X kk_187 kk_56 kk_obj rfl (by decide) (by decide) dX1_init_1 ?_
  refine wq_aload_n (pc := 4) X dX1_init_4 rfl rfl ?_
  refine wq_bipush (pc := 5) (v := nI 6) X dX1_init_5 (by decide) ?_
  refine wq_newI (pc := 7) (i := 120) (kc' := 1) (ks' := 6) X kk_arr (by decide) (by decide +kernel) rfl rfl rfl rfl (by decide) (by decide) dX1_init_7 (fun q1 => ?_)
  have hN1 := adS (q := q1) hN0 (show 120 ∈ [120, 121] by decide)
  refine wq_putF (pc := 9) (q0 := 0) X Nm flpf_1_9 ffpf_1_9 rfl (by decide) (fun _ => rfl) (fun _ => rfl) rfl dX1_init_9 lkpf_1_9 ?_
  refine wq_aload_n (pc := 12) X dX1_init_12 rfl rfl ?_
  refine wq_bipush (pc := 13) (v := nI 6) X dX1_init_13 (by decide) ?_
  refine wq_newI (pc := 15) (i := 121) (kc' := 2) (ks' := 12) X kk_arr (by decide) (by decide +kernel) rfl rfl rfl rfl (by decide) (by decide) dX1_init_15 (fun q2 => ?_)
  have hN2 := adS (q := q2) hN1 (show 121 ∈ [120, 121] by decide)
  refine wq_putF (pc := 17) (q0 := 0) X Nm flpf_1_15 ffpf_1_15 rfl (by decide) (fun _ => rfl) (fun _ => rfl) rfl dX1_init_17 lkpf_1_15 ?_
  refine wq_aload_n (pc := 20) X dX1_init_20 rfl rfl ?_
  refine wq_aload_n (pc := 21) X dX1_init_21 rfl rfl ?_
  refine wq_putF (pc := 22) (q0 := 0) X Nm flpf_1_18 ffpf_1_18 rfl (by decide) (fun _ => rfl) (fun _ => rfl) rfl dX1_init_22 lkpf_1_18 ?_
  refine wq_aload_n (pc := 25) X dX1_init_25 rfl rfl ?_
  refine wq_iload_n (pc := 26) X dX1_init_26 rfl rfl ?_
  refine wq_putF (pc := 27) (q0 := 0) X Nm flpf_1_22 ffpf_1_22 rfl (by decide) (fun _ => rfl) (fun _ => rfl) rfl dX1_init_27 lkpf_1_22 ?_
  exact wq_ret (pc := 30) (M := M0) X T hN2 rfl rfl (⟨rfl, ⟨by decide +kernel, by decide, rfl⟩, ⟨rfl, ⟨by decide +kernel, by decide +kernel, (M0_z (by decide +kernel)).symm⟩, ⟨rfl, ⟨by decide +kernel, by decide +kernel, (M0_z (by decide +kernel)).symm⟩, trivial⟩⟩⟩) rfl dX1_init_30
set_option maxRecDepth 100000 in
theorem cn_122 : CN mi_1 [123, 124] [.ref 122, .ref 7, .int (nI 2)] [(122, xO 1 [.null, .int 0, .null, .null, .int 0, .int 0, .int 0, .int 0])] (fun M => ZL [122, 123, 124] M) (fun M => M = M0) := by
  refine CN.intro pnf_1 rfl rfl (by decide) (by decide) (fun x X O Nm T => ?_)
  have hN0 : ∀ j, j ∉ [123, 124] → AX x j = AX x j := fun _ _ => rfl
  refine wq_aload_n (pc := 0) X dX1_init_0 rfl rfl ?_
  refine wq_objInit (pc := 1) X kk_187 kk_56 kk_obj rfl (by decide) (by decide) dX1_init_1 ?_
  refine wq_aload_n (pc := 4) X dX1_init_4 rfl rfl ?_
  refine wq_bipush (pc := 5) (v := nI 6) X dX1_init_5 (by decide) ?_
  refine wq_newI (pc := 7) (i := 123) (kc' := 1) (ks' := 6) X kk_arr (by decide) (by decide +kernel) rfl rfl rfl rfl (by decide) (by decide) dX1_init_7 (fun q1 => ?_)
  have hN1 := adS (q := q1) hN0 (show 123 ∈ [123, 124] by decide)
  refine wq_putF (pc := 9) (q0 := 0) X Nm flpf_1_9 ffpf_1_9 rfl (by decide) (fun _ => rfl) (fun _ => rfl) rfl dX1_init_9 lkpf_1_9 ?_
  refine wq_aload_n (pc := 12) X dX1_init_12 rfl rfl ?_
  refine wq_bipush (pc := 13) (v := nI 6) X dX1_init_13 (by decide) ?_
  refine wq_newI (pc := 15) (i := 124) (kc' := 2) (ks' := 12) X kk_arr (by decide) (by decide +kernel) rfl rfl rfl rfl (by decide) (by decide) dX1_init_15 (fun q2 => ?_)
  have hN2 := adS (q := q2) hN1 (show 124 ∈ [123, 124] by decide)
  refine wq_putF (pc := 17) (q0 := 0) X Nm flpf_1_15 ffpf_1_15 rfl (by decide) (fun _ => rfl) (fun _ => rfl) rfl dX1_init_17 lkpf_1_15 ?_
  refine wq_aload_n (pc := 20) X dX1_init_20 rfl rfl ?_
  refine wq_aload_n (pc := 21) X dX1_init_21 rfl rfl ?_
  refine wq_putF (pc := 22) (q0 := 0) X Nm flpf_1_18 ffpf_1_18 rfl (by decide) (fun _ => rfl) (fun _ => rfl) rfl dX1_init_22 lkpf_1_18 ?_
  refine wq_aload_n (pc := 25) X dX1_init_25 rfl rfl ?_
  refine wq_iload_n (pc := 26) X dX1_init_26 rfl rfl ?_
  refine wq_putF (pc := 27) (q0 := 0) X Nm flpf_1_22 ffpf_1_22 rfl (by decide) (fun _ => rfl) (fun _ => rfl) rfl dX1_init_27 lkpf_1_22 ?_
  exact wq_ret (pc := 30) (M := M0) X T hN2 rfl rfl (⟨rfl, ⟨by decide +kernel, by decide, rfl⟩, ⟨rfl, ⟨by decide +kernel, by decide +kernel, (M0_z (by decide +kernel)).symm⟩, ⟨rfl, ⟨by decide +kernel, by decide +kernel, (M0_z (by decide +kernel)).symm⟩, trivial⟩⟩⟩) rfl dX1_init_30
set_option maxRecDepth 100000 in
theorem cn_125 : CN mi_1 [126, 127] [.ref 125, .ref 7, .int (nI 3)] [(125, xO 1 [.null, .int 0, .null, .null, .int 0, .int 0, .int 0, .int 0])] (fun M => ZL [125, 126, 127] M) (fun M => M = M0) := by
  refine CN.intro pnf_1 rfl rfl (by decide) (by decide) (fun x X O Nm T => ?_)
  have hN0 : ∀ j, j ∉ [126, 127] → AX x j = AX x j := fun _ _ => rfl
  refine wq_aload_n (pc := 0) X dX1_init_0 rfl rfl ?_
  refine wq_objInit (pc := 1) X kk_187 kk_56 kk_obj rfl (by decide) (by decide) dX1_init_1 ?_
  refine wq_aload_n (pc := 4) X dX1_init_4 rfl rfl ?_
  refine wq_bipush (pc := 5) (v := nI 6) X dX1_init_5 (by decide) ?_
  refine wq_newI (pc := 7) (i := 126) (kc' := 1) (ks' := 6) X kk_arr (by decide) (by decide +kernel) rfl rfl rfl rfl (by decide) (by decide) dX1_init_7 (fun q1 => ?_)
  have hN1 := adS (q := q1) hN0 (show 126 ∈ [126, 127] by decide)
  refine wq_putF (pc := 9) (q0 := 0) X Nm flpf_1_9 ffpf_1_9 rfl (by decide) (fun _ => rfl) (fun _ => rfl) rfl dX1_init_9 lkpf_1_9 ?_
  refine wq_aload_n (pc := 12) X dX1_init_12 rfl rfl ?_
  refine wq_bipush (pc := 13) (v := nI 6) X dX1_init_13 (by decide) ?_
  refine wq_newI (pc := 15) (i := 127) (kc' := 2) (ks' := 12) X kk_arr (by decide) (by decide +kernel) rfl rfl rfl rfl (by decide) (by decide) dX1_init_15 (fun q2 => ?_)
  have hN2 := adS (q := q2) hN1 (show 127 ∈ [126, 127] by decide)
  refine wq_putF (pc := 17) (q0 := 0) X Nm flpf_1_15 ffpf_1_15 rfl (by decide) (fun _ => rfl) (fun _ => rfl) rfl dX1_init_17 lkpf_1_15 ?_
  refine wq_aload_n (pc := 20) X dX1_init_20 rfl rfl ?_
  refine wq_aload_n (pc := 21) X dX1_init_21 rfl rfl ?_
  refine wq_putF (pc := 22) (q0 := 0) X Nm flpf_1_18 ffpf_1_18 rfl (by decide) (fun _ => rfl) (fun _ => rfl) rfl dX1_init_22 lkpf_1_18 ?_
  refine wq_aload_n (pc := 25) X dX1_init_25 rfl rfl ?_
  refine wq_iload_n (pc := 26) X dX1_init_26 rfl rfl ?_
  refine wq_putF (pc := 27) (q0 := 0) X Nm flpf_1_22 ffpf_1_22 rfl (by decide) (fun _ => rfl) (fun _ => rfl) rfl dX1_init_27 lkpf_1_22 ?_
  exact wq_ret (pc := 30) (M := M0) X T hN2 rfl rfl (⟨rfl, ⟨by decide +kernel, by decide, rfl⟩, ⟨rfl, ⟨by decide +kernel, by decide +kernel, (M0_z (by decide +kernel)).symm⟩, ⟨rfl, ⟨by decide +kernel, by decide +kernel, (M0_z (by decide +kernel)).symm⟩, trivial⟩⟩⟩) rfl dX1_init_30
