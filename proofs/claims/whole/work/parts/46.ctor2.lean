/-! making: the constructors -/
theorem kk_41 : (.initialized RX6 : Cond) ∈ wd_G := wd_in 41 (by decide +kernel) rfl
theorem kk_42 : (.initialized RX1 : Cond) ∈ wd_G := wd_in 42 (by decide +kernel) rfl
theorem kk_126 : (.methodLink RX4 3 Lib.objectInit : Cond) ∈ wd_G := wd_in 126 (by decide +kernel) rfl
theorem kk_127 : (.classLink RX4 9 RX1 : Cond) ∈ wd_G := wd_in 127 (by decide +kernel) rfl
theorem kk_129 : (.classLink RX4 17 RX6 : Cond) ∈ wd_G := wd_in 129 (by decide +kernel) rfl
theorem kk_130 : (.instantiable RX6 12 : Cond) ∈ wd_G := wd_in 130 (by decide +kernel) rfl
theorem kk_131 : (.methodLink RX4 19 yX6_init : Cond) ∈ wd_G := wd_in 131 (by decide +kernel) rfl
theorem kk_132 : (.instanceMethod yX6_init : Cond) ∈ wd_G := wd_in 132 (by decide +kernel) rfl
theorem kk_183 : (.instantiable RX1 8 : Cond) ∈ wd_G := wd_in 183 (by decide +kernel) rfl
theorem kk_184 : (.methodLink RX4 26 yX1_init : Cond) ∈ wd_G := wd_in 184 (by decide +kernel) rfl
theorem kk_185 : (.instanceMethod yX1_init : Cond) ∈ wd_G := wd_in 185 (by decide +kernel) rfl
theorem kk_219 : (.fieldLink RX4 22 RX4 "sender" "LFileRounds$Sender;" : Cond) ∈ wd_G := wd_in 219 (by decide +kernel) rfl
theorem kk_221 : (.fieldLink RX4 11 RX4 "listeners" "[LFileRounds$Listener;" : Cond) ∈ wd_G := wd_in 221 (by decide +kernel) rfl
theorem kk_268 : (.methodLink RX0 3 Lib.objectInit : Cond) ∈ wd_G := wd_in 268 (by decide +kernel) rfl
theorem kk_269 : (.classLink RX0 19 RX6 : Cond) ∈ wd_G := wd_in 269 (by decide +kernel) rfl
theorem kk_270 : (.methodLink RX0 21 yX6_init : Cond) ∈ wd_G := wd_in 270 (by decide +kernel) rfl
theorem kk_271 : (.fieldLink RX0 15 RX0 "plan" "LFileRounds$Plan;" : Cond) ∈ wd_G := wd_in 271 (by decide +kernel) rfl
theorem kk_272 : (.fieldLink RX0 24 RX0 "ahead" "LFileRounds$Sender;" : Cond) ∈ wd_G := wd_in 272 (by decide +kernel) rfl
theorem kk_273 : (.fieldLink RX0 9 RX0 "coming" "[I" : Cond) ∈ wd_G := wd_in 273 (by decide +kernel) rfl
theorem flpf_4_11 : FL RX4 11 4 1 := ⟨RX4, TX4, 3, rfl, by decide, rfl, in_X4, Or.inl kk_221⟩
theorem ffpf_4_11 : FF RX4 4 1 (tyX4 1) := ⟨RX4, TX4, 3, tyX4, rfl, rfl, rfl, by decide +kernel, tyX4_ok, nmX4⟩
theorem lkpf_4_11 : Cond.fieldLink RX4 11 RX4 ((vwCl.getD 4 ("", fun _ => ("", "", "", false), 0)).2.1 1).2.1 ((vwCl.getD 4 ("", fun _ => ("", "", "", false), 0)).2.1 1).2.2.1 ∈ wd_G := kk_221
theorem nc_4_17 : NC RX4 17 6 12 [.null, .null, .null, .null, .null, .null, .null, .null, .null, .int 0, .int 0, .int 0] := ⟨RX6, TX6, tyX6, rfl, in_X6, tyX6_ok, kk_129, kk_130, kk_41, by decide +kernel⟩
theorem si_4_19 : SI RX4 19 mi_6 1 := ⟨kk_132, kk_41, wd_in 133 (by decide +kernel) rfl, rfl, ⟨by decide +kernel, by decide +kernel, by decide +kernel⟩, rfl, Or.inl kk_131⟩
theorem flpf_4_22 : FL RX4 22 4 0 := ⟨RX4, TX4, 3, rfl, by decide, rfl, in_X4, Or.inl kk_219⟩
theorem ffpf_4_22 : FF RX4 4 0 (tyX4 0) := ⟨RX4, TX4, 3, tyX4, rfl, rfl, rfl, by decide +kernel, tyX4_ok, nmX4⟩
theorem lkpf_4_22 : Cond.fieldLink RX4 22 RX4 ((vwCl.getD 4 ("", fun _ => ("", "", "", false), 0)).2.1 0).2.1 ((vwCl.getD 4 ("", fun _ => ("", "", "", false), 0)).2.1 0).2.2.1 ∈ wd_G := kk_219
theorem nc_4_9 : NC RX4 9 1 8 [.null, .int 0, .null, .null, .int 0, .int 0, .int 0, .int 0] := ⟨RX1, TX1, tyX1, rfl, in_X1, tyX1_ok, kk_127, kk_183, kk_42, by decide +kernel⟩
theorem si_4_26 : SI RX4 26 mi_1 2 := ⟨kk_185, kk_42, wd_in 186 (by decide +kernel) rfl, rfl, ⟨by decide +kernel, by decide +kernel, by decide +kernel⟩, rfl, Or.inl kk_184⟩
theorem flpf_0_9 : FL RX0 9 0 2 := ⟨RX0, TX0, 5, rfl, by decide, rfl, in_X0, Or.inl kk_273⟩
theorem ffpf_0_9 : FF RX0 0 2 (tyX0 2) := ⟨RX0, TX0, 5, tyX0, rfl, rfl, rfl, by decide +kernel, tyX0_ok, nmX0⟩
theorem lkpf_0_9 : Cond.fieldLink RX0 9 RX0 ((vwCl.getD 0 ("", fun _ => ("", "", "", false), 0)).2.1 2).2.1 ((vwCl.getD 0 ("", fun _ => ("", "", "", false), 0)).2.1 2).2.2.1 ∈ wd_G := kk_273
theorem flpf_0_15 : FL RX0 15 0 0 := ⟨RX0, TX0, 5, rfl, by decide, rfl, in_X0, Or.inl kk_271⟩
theorem ffpf_0_15 : FF RX0 0 0 (tyX0 0) := ⟨RX0, TX0, 5, tyX0, rfl, rfl, rfl, by decide +kernel, tyX0_ok, nmX0⟩
theorem lkpf_0_15 : Cond.fieldLink RX0 15 RX0 ((vwCl.getD 0 ("", fun _ => ("", "", "", false), 0)).2.1 0).2.1 ((vwCl.getD 0 ("", fun _ => ("", "", "", false), 0)).2.1 0).2.2.1 ∈ wd_G := kk_271
theorem nc_0_19 : NC RX0 19 6 12 [.null, .null, .null, .null, .null, .null, .null, .null, .null, .int 0, .int 0, .int 0] := ⟨RX6, TX6, tyX6, rfl, in_X6, tyX6_ok, kk_269, kk_130, kk_41, by decide +kernel⟩
theorem si_0_21 : SI RX0 21 mi_6 1 := ⟨kk_132, kk_41, wd_in 133 (by decide +kernel) rfl, rfl, ⟨by decide +kernel, by decide +kernel, by decide +kernel⟩, rfl, Or.inl kk_270⟩
theorem flpf_0_24 : FL RX0 24 0 1 := ⟨RX0, TX0, 5, rfl, by decide, rfl, in_X0, Or.inl kk_272⟩
theorem ffpf_0_24 : FF RX0 0 1 (tyX0 1) := ⟨RX0, TX0, 5, tyX0, rfl, rfl, rfl, by decide +kernel, tyX0_ok, nmX0⟩
theorem lkpf_0_24 : Cond.fieldLink RX0 24 RX0 ((vwCl.getD 0 ("", fun _ => ("", "", "", false), 0)).2.1 1).2.1 ((vwCl.getD 0 ("", fun _ => ("", "", "", false), 0)).2.1 1).2.2.1 ∈ wd_G := kk_272
set_option maxRecDepth 100000 in
theorem cn_11 : CN mi_4 [12, 13, 14, 15, 16, 17, 18, 19, 20, 21, 22, 23, 24, 25, 26, 27, 28, 29, 30, 31, 32, 33] [.ref 11, .ref 7] [(11, xO 4 [.null, .null, .int 0])] (fun M => ZL [11, 12, 13, 14, 15, 16, 17, 18, 19, 20, 21, 22, 23, 24, 25, 26, 27, 28, 29, 30, 31, 32, 33] M) (fun M => M = M0) := by
  refine CN.intro pnf_4 rfl rfl (by decide) (by decide) (fun x X O Nm T => ?_)
  have hN0 : ∀ j, j ∉ [12, 13, 14, 15, 16, 17, 18, 19, 20, 21, 22, 23, 24, 25, 26, 27, 28, 29, 30, 31, 32, 33] → AX x j = AX x j := fun _ _ => rfl
  refine wq_aload_n (pc := 0) X dX4_init_0 rfl rfl ?_
  refine wq_objInit (pc := 1) X kk_126 kk_56 kk_obj rfl (by decide) (by decide) dX4_init_1 ?_
  refine wq_aload_n (pc := 4) X dX4_init_4 rfl rfl ?_
  refine wq_iconst (pc := 5) (v := nI 4) X dX4_init_5 (by decide) ?_
  refine wq_newq (pc := 6) (i := 12) (w := 10) (kc' := 1) (ks' := 4) X O (C := "FileRounds$Listener") (Or.inl ⟨rfl, rfl⟩) kk_127 (by decide +kernel) rfl rfl rfl rfl (by decide) (by decide) dX4_init_6 (fun q1 => ?_)
  have hN1 := adS (q := q1) hN0 (show 12 ∈ [12, 13, 14, 15, 16, 17, 18, 19, 20, 21, 22, 23, 24, 25, 26, 27, 28, 29, 30, 31, 32, 33] by decide)
  refine wq_putF (pc := 9) (q0 := 0) X Nm flpf_4_11 ffpf_4_11 rfl (by decide) (fun _ => rfl) (fun _ => rfl) rfl dX4_init_9 lkpf_4_11 ?_
  refine wq_aload_n (pc := 12) X dX4_init_12 rfl rfl ?_
  refine wq_new (pc := 13) (i := 13) (kc' := 2) (ks' := 16) X nc_4_17 rfl (by decide +kernel) rfl rfl rfl rfl (by decide) (by decide) dX4_init_13 (fun q2 => ?_)
  have hN2 := adS (q := q2) hN1 (show 13 ∈ [12, 13, 14, 15, 16, 17, 18, 19, 20, 21, 22, 23, 24, 25, 26, 27, 28, 29, 30, 31, 32, 33] by decide)
  refine wq_dup (pc := 16) X dX4_init_16 rfl ?_
  refine wq_aload_n (pc := 17) X dX4_init_17 rfl rfl ?_
  refine wq_init (pc := 18) (Zr := [(11, xO 4 [.null, .ref 12, .int 0]), (12, xQ 10 [])]) (st := [.ref 13, .ref 11]) (kc' := 10) (ks' := 76) X O si_4_19 ⟨by decide, by decide⟩ cn_13 rfl (by decide +kernel) rfl rfl rfl rfl rfl (Nat.le_of_ble_eq_true rfl) rfl rfl (by decide) (by decide) dX4_init_18 (fun ad3 M3 hn hm => ?_)
  have hN3 := adN hN2 hn (by decide)
  clear hn
  subst hm
  show WQ x ad3 10 76 [(11, xO 4 [.null, .ref 12, .int 0]), (12, xQ 10 []), (13, xD 13 (M0 13)), (14, xD 14 (M0 14)), (15, xD 15 (M0 15)), (16, xD 16 (M0 16)), (17, xD 17 (M0 17)), (18, xD 18 (M0 18)), (19, xD 19 (M0 19)), (20, xD 20 (M0 20)), (21, xD 21 (M0 21))] 21 [some (.ref 11), some (.ref 7), none] [.ref 13, .ref 11]
  refine wq_putF (pc := 21) (q0 := 0) X Nm flpf_4_22 ffpf_4_22 rfl (by decide) (fun _ => rfl) (fun _ => rfl) rfl dX4_init_21 lkpf_4_22 ?_
  refine wq_iconst (pc := 24) (v := nI 0) X dX4_init_24 (by decide) ?_
  refine wq_istore_n (pc := 25) X dX4_init_25 rfl (by decide) rfl rfl ?_
  refine wq_iload_n (pc := 26) X dX4_init_26 rfl rfl ?_
  refine wq_iconst (pc := 27) (v := nI 4) X dX4_init_27 (by decide) ?_
  refine wq_icmp_ge (pc := 28) (tgt := 52) X dX4_init_28 (by decide) (fun q => absurd q (by decide)) (fun _ => ?_)
  refine wq_aload_n (pc := 31) X dX4_init_31 rfl rfl ?_
  refine wq_get (pc := 32) (q0 := 0) X flpf_4_11 rfl rfl dX4_init_32 ?_
  refine wq_iload_n (pc := 35) X dX4_init_35 rfl rfl ?_
  refine wq_new (pc := 36) (i := 22) (kc' := 11) (ks' := 84) X nc_4_9 rfl (by decide +kernel) rfl rfl rfl rfl (by decide) (by decide) dX4_init_36 (fun q4 => ?_)
  have hN4 := adS (q := q4) hN3 (show 22 ∈ [12, 13, 14, 15, 16, 17, 18, 19, 20, 21, 22, 23, 24, 25, 26, 27, 28, 29, 30, 31, 32, 33] by decide)
  refine wq_dup (pc := 39) X dX4_init_39 rfl ?_
  refine wq_aload_n (pc := 40) X dX4_init_40 rfl rfl ?_
  refine wq_iload_n (pc := 41) X dX4_init_41 rfl rfl ?_
  refine wq_init (pc := 42) (Zr := [(11, xO 4 [.ref 13, .ref 12, .int 0]), (12, xQ 10 []), (13, xD 13 (M0 13)), (14, xD 14 (M0 14)), (15, xD 15 (M0 15)), (16, xD 16 (M0 16)), (17, xD 17 (M0 17)), (18, xD 18 (M0 18)), (19, xD 19 (M0 19)), (20, xD 20 (M0 20)), (21, xD 21 (M0 21))]) (st := [.ref 22, .int (nI 0), .ref 12]) (kc' := 13) (ks' := 96) X O si_4_26 ⟨by decide, by decide⟩ cn_22 rfl (by decide +kernel) rfl rfl rfl rfl rfl (Nat.le_of_ble_eq_true rfl) rfl rfl (by decide) (by decide) dX4_init_42 (fun ad5 M5 hn hm => ?_)
  have hN5 := adN hN4 hn (by decide)
  clear hn
  subst hm
  show WQ x ad5 13 96 [(11, xO 4 [.ref 13, .ref 12, .int 0]), (12, xQ 10 []), (13, xD 13 (M0 13)), (14, xD 14 (M0 14)), (15, xD 15 (M0 15)), (16, xD 16 (M0 16)), (17, xD 17 (M0 17)), (18, xD 18 (M0 18)), (19, xD 19 (M0 19)), (20, xD 20 (M0 20)), (21, xD 21 (M0 21)), (22, xD 22 (M0 22)), (23, xD 23 (M0 23)), (24, xD 24 (M0 24))] 45 [some (.ref 11), some (.ref 7), some (.int (nI 0))] [.ref 22, .int (nI 0), .ref 12]
  refine wq_aast (pc := 45) (q0 := 1) (qk := 11) (gl := []) (w := 10) (ci := 1) X (Or.inl ⟨rfl, rfl⟩) rfl rfl rfl (by decide +kernel) (by decide) (by decide) rfl dX4_init_45 ?_
  refine wq_iinc (pc := 46) (v := nI 1) X dX4_init_46 rfl (by decide) rfl rfl ?_
  refine wq_goto (pc := 49) (tgt := 26) X dX4_init_49 (by decide) ?_
  refine wq_iload_n (pc := 26) X dX4_init_26 rfl rfl ?_
  refine wq_iconst (pc := 27) (v := nI 4) X dX4_init_27 (by decide) ?_
  refine wq_icmp_ge (pc := 28) (tgt := 52) X dX4_init_28 (by decide) (fun q => absurd q (by decide)) (fun _ => ?_)
  refine wq_aload_n (pc := 31) X dX4_init_31 rfl rfl ?_
  refine wq_get (pc := 32) (q0 := 0) X flpf_4_11 rfl rfl dX4_init_32 ?_
  refine wq_iload_n (pc := 35) X dX4_init_35 rfl rfl ?_
  refine wq_new (pc := 36) (i := 25) (kc' := 14) (ks' := 104) X nc_4_9 rfl (by decide +kernel) rfl rfl rfl rfl (by decide) (by decide) dX4_init_36 (fun q6 => ?_)
  have hN6 := adS (q := q6) hN5 (show 25 ∈ [12, 13, 14, 15, 16, 17, 18, 19, 20, 21, 22, 23, 24, 25, 26, 27, 28, 29, 30, 31, 32, 33] by decide)
  refine wq_dup (pc := 39) X dX4_init_39 rfl ?_
  refine wq_aload_n (pc := 40) X dX4_init_40 rfl rfl ?_
  refine wq_iload_n (pc := 41) X dX4_init_41 rfl rfl ?_
  refine wq_init (pc := 42) (Zr := [(11, xO 4 [.ref 13, .ref 12, .int 0]), (12, xQ 10 [22]), (13, xD 13 (M0 13)), (14, xD 14 (M0 14)), (15, xD 15 (M0 15)), (16, xD 16 (M0 16)), (17, xD 17 (M0 17)), (18, xD 18 (M0 18)), (19, xD 19 (M0 19)), (20, xD 20 (M0 20)), (21, xD 21 (M0 21)), (22, xD 22 (M0 22)), (23, xD 23 (M0 23)), (24, xD 24 (M0 24))]) (st := [.ref 25, .int (nI 1), .ref 12]) (kc' := 16) (ks' := 116) X O si_4_26 ⟨by decide, by decide⟩ cn_25 rfl (by decide +kernel) rfl rfl rfl rfl rfl (Nat.le_of_ble_eq_true rfl) rfl rfl (by decide) (by decide) dX4_init_42 (fun ad7 M7 hn hm => ?_)
  have hN7 := adN hN6 hn (by decide)
  clear hn
  subst hm
  show WQ x ad7 16 116 [(11, xO 4 [.ref 13, .ref 12, .int 0]), (12, xQ 10 [22]), (13, xD 13 (M0 13)), (14, xD 14 (M0 14)), (15, xD 15 (M0 15)), (16, xD 16 (M0 16)), (17, xD 17 (M0 17)), (18, xD 18 (M0 18)), (19, xD 19 (M0 19)), (20, xD 20 (M0 20)), (21, xD 21 (M0 21)), (22, xD 22 (M0 22)), (23, xD 23 (M0 23)), (24, xD 24 (M0 24)), (25, xD 25 (M0 25)), (26, xD 26 (M0 26)), (27, xD 27 (M0 27))] 45 [some (.ref 11), some (.ref 7), some (.int (nI 1))] [.ref 25, .int (nI 1), .ref 12]
  refine wq_aast (pc := 45) (q0 := 1) (qk := 14) (gl := [22]) (w := 10) (ci := 1) X (Or.inl ⟨rfl, rfl⟩) rfl rfl rfl (by decide +kernel) (by decide) (by decide) rfl dX4_init_45 ?_
  refine wq_iinc (pc := 46) (v := nI 2) X dX4_init_46 rfl (by decide) rfl rfl ?_
  refine wq_goto (pc := 49) (tgt := 26) X dX4_init_49 (by decide) ?_
  refine wq_iload_n (pc := 26) X dX4_init_26 rfl rfl ?_
  refine wq_iconst (pc := 27) (v := nI 4) X dX4_init_27 (by decide) ?_
  refine wq_icmp_ge (pc := 28) (tgt := 52) X dX4_init_28 (by decide) (fun q => absurd q (by decide)) (fun _ => ?_)
  refine wq_aload_n (pc := 31) X dX4_init_31 rfl rfl ?_
  refine wq_get (pc := 32) (q0 := 0) X flpf_4_11 rfl rfl dX4_init_32 ?_
  refine wq_iload_n (pc := 35) X dX4_init_35 rfl rfl ?_
  refine wq_new (pc := 36) (i := 28) (kc' := 17) (ks' := 124) X nc_4_9 rfl (by decide +kernel) rfl rfl rfl rfl (by decide) (by decide) dX4_init_36 (fun q8 => ?_)
  have hN8 := adS (q := q8) hN7 (show 28 ∈ [12, 13, 14, 15, 16, 17, 18, 19, 20, 21, 22, 23, 24, 25, 26, 27, 28, 29, 30, 31, 32, 33] by decide)
  refine wq_dup (pc := 39) X dX4_init_39 rfl ?_
  refine wq_aload_n (pc := 40) X dX4_init_40 rfl rfl ?_
  refine wq_iload_n (pc := 41) X dX4_init_41 rfl rfl ?_
  refine wq_init (pc := 42) (Zr := [(11, xO 4 [.ref 13, .ref 12, .int 0]), (12, xQ 10 [22, 25]), (13, xD 13 (M0 13)), (14, xD 14 (M0 14)), (15, xD 15 (M0 15)), (16, xD 16 (M0 16)), (17, xD 17 (M0 17)), (18, xD 18 (M0 18)), (19, xD 19 (M0 19)), (20, xD 20 (M0 20)), (21, xD 21 (M0 21)), (22, xD 22 (M0 22)), (23, xD 23 (M0 23)), (24, xD 24 (M0 24)), (25, xD 25 (M0 25)), (26, xD 26 (M0 26)), (27, xD 27 (M0 27))]) (st := [.ref 28, .int (nI 2), .ref 12]) (kc' := 19) (ks' := 136) X O si_4_26 ⟨by decide, by decide⟩ cn_28 rfl (by decide +kernel) rfl rfl rfl rfl rfl (Nat.le_of_ble_eq_true rfl) rfl rfl (by decide) (by decide) dX4_init_42 (fun ad9 M9 hn hm => ?_)
  have hN9 := adN hN8 hn (by decide)
  clear hn
  subst hm
  show WQ x ad9 19 136 [(11, xO 4 [.ref 13, .ref 12, .int 0]), (12, xQ 10 [22, 25]), (13, xD 13 (M0 13)), (14, xD 14 (M0 14)), (15, xD 15 (M0 15)), (16, xD 16 (M0 16)), (17, xD 17 (M0 17)), (18, xD 18 (M0 18)), (19, xD 19 (M0 19)), (20, xD 20 (M0 20)), (21, xD 21 (M0 21)), (22, xD 22 (M0 22)), (23, xD 23 (M0 23)), (24, xD 24 (M0 24)), (25, xD 25 (M0 25)), (26, xD 26 (M0 26)), (27, xD 27 (M0 27)), (28, xD 28 (M0 28)), (29, xD 29 (M0 29)), (30, xD 30 (M0 30))] 45 [some (.ref 11), some (.ref 7), some (.int (nI 2))] [.ref 28, .int (nI 2), .ref 12]
  refine wq_aast (pc := 45) (q0 := 1) (qk := 17) (gl := [22, 25]) (w := 10) (ci := 1) X (Or.inl ⟨rfl, rfl⟩) rfl rfl rfl (by decide +kernel) (by decide) (by decide) rfl dX4_init_45 ?_
  refine wq_iinc (pc := 46) (v := nI 3) X dX4_init_46 rfl (by decide) rfl rfl ?_
  refine wq_goto (pc := 49) (tgt := 26) X dX4_init_49 (by decide) ?_
  refine wq_iload_n (pc := 26) X dX4_init_26 rfl rfl ?_
  refine wq_iconst (pc := 27) (v := nI 4) X dX4_init_27 (by decide) ?_
  refine wq_icmp_ge (pc := 28) (tgt := 52) X dX4_init_28 (by decide) (fun q => absurd q (by decide)) (fun _ => ?_)
  refine wq_aload_n (pc := 31) X dX4_init_31 rfl rfl ?_
  refine wq_get (pc := 32) (q0 := 0) X flpf_4_11 rfl rfl dX4_init_32 ?_
  refine wq_iload_n (pc := 35) X dX4_init_35 rfl rfl ?_
  refine wq_new (pc := 36) (i := 31) (kc' := 20) (ks' := 144) X nc_4_9 rfl (by decide +kernel) rfl rfl rfl rfl (by decide) (by decide) dX4_init_36 (fun q10 => ?_)
  have hN10 := adS (q := q10) hN9 (show 31 ∈ [12, 13, 14, 15, 16, 17, 18, 19, 20, 21, 22, 23, 24, 25, 26, 27, 28, 29, 30, 31, 32, 33] by decide)
  refine wq_dup (pc := 39) X dX4_init_39 rfl ?_
  refine wq_aload_n (pc := 40) X dX4_init_40 rfl rfl ?_
  refine wq_iload_n (pc := 41) X dX4_init_41 rfl rfl ?_
  refine wq_init (pc := 42) (Zr := [(11, xO 4 [.ref 13, .ref 12, .int 0]), (12, xQ 10 [22, 25, 28]), (13, xD 13 (M0 13)), (14, xD 14 (M0 14)), (15, xD 15 (M0 15)), (16, xD 16 (M0 16)), (17, xD 17 (M0 17)), (18, xD 18 (M0 18)), (19, xD 19 (M0 19)), (20, xD 20 (M0 20)), (21, xD 21 (M0 21)), (22, xD 22 (M0 22)), (23, xD 23 (M0 23)), (24, xD 24 (M0 24)), (25, xD 25 (M0 25)), (26, xD 26 (M0 26)), (27, xD 27 (M0 27)), (28, xD 28 (M0 28)), (29, xD 29 (M0 29)), (30, xD 30 (M0 30))]) (st := [.ref 31, .int (nI 3), .ref 12]) (kc' := 22) (ks' := 156) X O si_4_26 ⟨by decide, by decide⟩ cn_31 rfl (by decide +kernel) rfl rfl rfl rfl rfl (Nat.le_of_ble_eq_true rfl) rfl rfl (by decide) (by decide) dX4_init_42 (fun ad11 M11 hn hm => ?_)
  have hN11 := adN hN10 hn (by decide)
  clear hn
  subst hm
  show WQ x ad11 22 156 [(11, xO 4 [.ref 13, .ref 12, .int 0]), (12, xQ 10 [22, 25, 28]), (13, xD 13 (M0 13)), (14, xD 14 (M0 14)), (15, xD 15 (M0 15)), (16, xD 16 (M0 16)), (17, xD 17 (M0 17)), (18, xD 18 (M0 18)), (19, xD 19 (M0 19)), (20, xD 20 (M0 20)), (21, xD 21 (M0 21)), (22, xD 22 (M0 22)), (23, xD 23 (M0 23)), (24, xD 24 (M0 24)), (25, xD 25 (M0 25)), (26, xD 26 (M0 26)), (27, xD 27 (M0 27)), (28, xD 28 (M0 28)), (29, xD 29 (M0 29)), (30, xD 30 (M0 30)), (31, xD 31 (M0 31)), (32, xD 32 (M0 32)), (33, xD 33 (M0 33))] 45 [some (.ref 11), some (.ref 7), some (.int (nI 3))] [.ref 31, .int (nI 3), .ref 12]
  refine wq_aast (pc := 45) (q0 := 1) (qk := 20) (gl := [22, 25, 28]) (w := 10) (ci := 1) X (Or.inl ⟨rfl, rfl⟩) rfl rfl rfl (by decide +kernel) (by decide) (by decide) rfl dX4_init_45 ?_
  refine wq_iinc (pc := 46) (v := nI 4) X dX4_init_46 rfl (by decide) rfl rfl ?_
  refine wq_goto (pc := 49) (tgt := 26) X dX4_init_49 (by decide) ?_
  refine wq_iload_n (pc := 26) X dX4_init_26 rfl rfl ?_
  refine wq_iconst (pc := 27) (v := nI 4) X dX4_init_27 (by decide) ?_
  refine wq_icmp_ge (pc := 28) (tgt := 52) X dX4_init_28 (by decide) (fun _ => ?_) (fun q => absurd (by decide) q)
  exact wq_ret (pc := 52) (M := M0) X T hN11 rfl rfl (⟨rfl, ⟨by decide +kernel, by decide, rfl⟩, ⟨rfl, ⟨by decide +kernel, Or.inl ⟨rfl, rfl⟩⟩, ⟨rfl, ⟨rfl, rfl⟩, ⟨rfl, ⟨rfl, rfl⟩, ⟨rfl, ⟨rfl, rfl⟩, ⟨rfl, ⟨rfl, rfl⟩, ⟨rfl, ⟨rfl, rfl⟩, ⟨rfl, ⟨rfl, rfl⟩, ⟨rfl, ⟨rfl, rfl⟩, ⟨rfl, ⟨rfl, rfl⟩, ⟨rfl, ⟨rfl, rfl⟩, ⟨rfl, ⟨rfl, rfl⟩, ⟨rfl, ⟨rfl, rfl⟩, ⟨rfl, ⟨rfl, rfl⟩, ⟨rfl, ⟨rfl, rfl⟩, ⟨rfl, ⟨rfl, rfl⟩, ⟨rfl, ⟨rfl, rfl⟩, ⟨rfl, ⟨rfl, rfl⟩, ⟨rfl, ⟨rfl, rfl⟩, ⟨rfl, ⟨rfl, rfl⟩, ⟨rfl, ⟨rfl, rfl⟩, ⟨rfl, ⟨rfl, rfl⟩, ⟨rfl, ⟨rfl, rfl⟩, trivial⟩⟩⟩⟩⟩⟩⟩⟩⟩⟩⟩⟩⟩⟩⟩⟩⟩⟩⟩⟩⟩⟩⟩) rfl dX4_init_52
set_option maxRecDepth 100000 in
theorem cn_36 : CN mi_4 [37, 38, 39, 40, 41, 42, 43, 44, 45, 46, 47, 48, 49, 50, 51, 52, 53, 54, 55, 56, 57, 58] [.ref 36, .ref 7] [(36, xO 4 [.null, .null, .int 0])] (fun M => ZL [36, 37, 38, 39, 40, 41, 42, 43, 44, 45, 46, 47, 48, 49, 50, 51, 52, 53, 54, 55, 56, 57, 58] M) (fun M => M = M0) := by
  refine CN.intro pnf_4 rfl rfl (by decide) (by decide) (fun x X O Nm T => ?_)
  have hN0 : ∀ j, j ∉ [37, 38, 39, 40, 41, 42, 43, 44, 45, 46, 47, 48, 49, 50, 51, 52, 53, 54, 55, 56, 57, 58] → AX x j = AX x j := fun _ _ => rfl
  refine wq_aload_n (pc := 0) X dX4_init_0 rfl rfl ?_
  refine wq_objInit (pc := 1) X kk_126 kk_56 kk_obj rfl (by decide) (by decide) dX4_init_1 ?_
  refine wq_aload_n (pc := 4) X dX4_init_4 rfl rfl ?_
  refine wq_iconst (pc := 5) (v := nI 4) X dX4_init_5 (by decide) ?_
  refine wq_newq (pc := 6) (i := 37) (w := 10) (kc' := 1) (ks' := 4) X O (C := "FileRounds$Listener") (Or.inl ⟨rfl, rfl⟩) kk_127 (by decide +kernel) rfl rfl rfl rfl (by decide) (by decide) dX4_init_6 (fun q1 => ?_)
  have hN1 := adS (q := q1) hN0 (show 37 ∈ [37, 38, 39, 40, 41, 42, 43, 44, 45, 46, 47, 48, 49, 50, 51, 52, 53, 54, 55, 56, 57, 58] by decide)
  refine wq_putF (pc := 9) (q0 := 0) X Nm flpf_4_11 ffpf_4_11 rfl (by decide) (fun _ => rfl) (fun _ => rfl) rfl dX4_init_9 lkpf_4_11 ?_
  refine wq_aload_n (pc := 12) X dX4_init_12 rfl rfl ?_
  refine wq_new (pc := 13) (i := 38) (kc' := 2) (ks' := 16) X nc_4_17 rfl (by decide +kernel) rfl rfl rfl rfl (by decide) (by decide) dX4_init_13 (fun q2 => ?_)
  have hN2 := adS (q := q2) hN1 (show 38 ∈ [37, 38, 39, 40, 41, 42, 43, 44, 45, 46, 47, 48, 49, 50, 51, 52, 53, 54, 55, 56, 57, 58] by decide)
  refine wq_dup (pc := 16) X dX4_init_16 rfl ?_
  refine wq_aload_n (pc := 17) X dX4_init_17 rfl rfl ?_
  refine wq_init (pc := 18) (Zr := [(36, xO 4 [.null, .ref 37, .int 0]), (37, xQ 10 [])]) (st := [.ref 38, .ref 36]) (kc' := 10) (ks' := 76) X O si_4_19 ⟨by decide, by decide⟩ cn_38 rfl (by decide +kernel) rfl rfl rfl rfl rfl (Nat.le_of_ble_eq_true rfl) rfl rfl (by decide) (by decide) dX4_init_18 (fun ad3 M3 hn hm => ?_)
  have hN3 := adN hN2 hn (by decide)
  clear hn
  subst hm
  show WQ x ad3 10 76 [(36, xO 4 [.null, .ref 37, .int 0]), (37, xQ 10 []), (38, xD 38 (M0 38)), (39, xD 39 (M0 39)), (40, xD 40 (M0 40)), (41, xD 41 (M0 41)), (42, xD 42 (M0 42)), (43, xD 43 (M0 43)), (44, xD 44 (M0 44)), (45, xD 45 (M0 45)), (46, xD 46 (M0 46))] 21 [some (.ref 36), some (.ref 7), none] [.ref 38, .ref 36]
  refine wq_putF (pc := 21) (q0 := 0) X Nm flpf_4_22 ffpf_4_22 rfl (by decide) (fun _ => rfl) (fun _ => rfl) rfl dX4_init_21 lkpf_4_22 ?_
  refine wq_iconst (pc := 24) (v := nI 0) X dX4_init_24 (by decide) ?_
  refine wq_istore_n (pc := 25) X dX4_init_25 rfl (by decide) rfl rfl ?_
  refine wq_iload_n (pc := 26) X dX4_init_26 rfl rfl ?_
  refine wq_iconst (pc := 27) (v := nI 4) X dX4_init_27 (by decide) ?_
  refine wq_icmp_ge (pc := 28) (tgt := 52) X dX4_init_28 (by decide) (fun q => absurd q (by decide)) (fun _ => ?_)
  refine wq_aload_n (pc := 31) X dX4_init_31 rfl rfl ?_
  refine wq_get (pc := 32) (q0 := 0) X flpf_4_11 rfl rfl dX4_init_32 ?_
  refine wq_iload_n (pc := 35) X dX4_init_35 rfl rfl ?_
  refine wq_new (pc := 36) (i := 47) (kc' := 11) (ks' := 84) X nc_4_9 rfl (by decide +kernel) rfl rfl rfl rfl (by decide) (by decide) dX4_init_36 (fun q4 => ?_)
  have hN4 := adS (q := q4) hN3 (show 47 ∈ [37, 38, 39, 40, 41, 42, 43, 44, 45, 46, 47, 48, 49, 50, 51, 52, 53, 54, 55, 56, 57, 58] by decide)
  refine wq_dup (pc := 39) X dX4_init_39 rfl ?_
  refine wq_aload_n (pc := 40) X dX4_init_40 rfl rfl ?_
  refine wq_iload_n (pc := 41) X dX4_init_41 rfl rfl ?_
  refine wq_init (pc := 42) (Zr := [(36, xO 4 [.ref 38, .ref 37, .int 0]), (37, xQ 10 []), (38, xD 38 (M0 38)), (39, xD 39 (M0 39)), (40, xD 40 (M0 40)), (41, xD 41 (M0 41)), (42, xD 42 (M0 42)), (43, xD 43 (M0 43)), (44, xD 44 (M0 44)), (45, xD 45 (M0 45)), (46, xD 46 (M0 46))]) (st := [.ref 47, .int (nI 0), .ref 37]) (kc' := 13) (ks' := 96) X O si_4_26 ⟨by decide, by decide⟩ cn_47 rfl (by decide +kernel) rfl rfl rfl rfl rfl (Nat.le_of_ble_eq_true rfl) rfl rfl (by decide) (by decide) dX4_init_42 (fun ad5 M5 hn hm => ?_)
  have hN5 := adN hN4 hn (by decide)
  clear hn
  subst hm
  show WQ x ad5 13 96 [(36, xO 4 [.ref 38, .ref 37, .int 0]), (37, xQ 10 []), (38, xD 38 (M0 38)), (39, xD 39 (M0 39)), (40, xD 40 (M0 40)), (41, xD 41 (M0 41)), (42, xD 42 (M0 42)), (43, xD 43 (M0 43)), (44, xD 44 (M0 44)), (45, xD 45 (M0 45)), (46, xD 46 (M0 46)), (47, xD 47 (M0 47)), (48, xD 48 (M0 48)), (49, xD 49 (M0 49))] 45 [some (.ref 36), some (.ref 7), some (.int (nI 0))] [.ref 47, .int (nI 0), .ref 37]
  refine wq_aast (pc := 45) (q0 := 1) (qk := 11) (gl := []) (w := 10) (ci := 1) X (Or.inl ⟨rfl, rfl⟩) rfl rfl rfl (by decide +kernel) (by decide) (by decide) rfl dX4_init_45 ?_
  refine wq_iinc (pc := 46) (v := nI 1) X dX4_init_46 rfl (by decide) rfl rfl ?_
  refine wq_goto (pc := 49) (tgt := 26) X dX4_init_49 (by decide) ?_
  refine wq_iload_n (pc := 26) X dX4_init_26 rfl rfl ?_
  refine wq_iconst (pc := 27) (v := nI 4) X dX4_init_27 (by decide) ?_
  refine wq_icmp_ge (pc := 28) (tgt := 52) X dX4_init_28 (by decide) (fun q => absurd q (by decide)) (fun _ => ?_)
  refine wq_aload_n (pc := 31) X dX4_init_31 rfl rfl ?_
  refine wq_get (pc := 32) (q0 := 0) X flpf_4_11 rfl rfl dX4_init_32 ?_
  refine wq_iload_n (pc := 35) X dX4_init_35 rfl rfl ?_
  refine wq_new (pc := 36) (i := 50) (kc' := 14) (ks' := 104) X nc_4_9 rfl (by decide +kernel) rfl rfl rfl rfl (by decide) (by decide) dX4_init_36 (fun q6 => ?_)
  have hN6 := adS (q := q6) hN5 (show 50 ∈ [37, 38, 39, 40, 41, 42, 43, 44, 45, 46, 47, 48, 49, 50, 51, 52, 53, 54, 55, 56, 57, 58] by decide)
  refine wq_dup (pc := 39) X dX4_init_39 rfl ?_
  refine wq_aload_n (pc := 40) X dX4_init_40 rfl rfl ?_
  refine wq_iload_n (pc := 41) X dX4_init_41 rfl rfl ?_
  refine wq_init (pc := 42) (Zr := [(36, xO 4 [.ref 38, .ref 37, .int 0]), (37, xQ 10 [47]), (38, xD 38 (M0 38)), (39, xD 39 (M0 39)), (40, xD 40 (M0 40)), (41, xD 41 (M0 41)), (42, xD 42 (M0 42)), (43, xD 43 (M0 43)), (44, xD 44 (M0 44)), (45, xD 45 (M0 45)), (46, xD 46 (M0 46)), (47, xD 47 (M0 47)), (48, xD 48 (M0 48)), (49, xD 49 (M0 49))]) (st := [.ref 50, .int (nI 1), .ref 37]) (kc' := 16) (ks' := 116) X O si_4_26 ⟨by decide, by decide⟩ cn_50 rfl (by decide +kernel) rfl rfl rfl rfl rfl (Nat.le_of_ble_eq_true rfl) rfl rfl (by decide) (by decide) dX4_init_42 (fun ad7 M7 hn hm => ?_)
  have hN7 := adN hN6 hn (by decide)
  clear hn
  subst hm
  show WQ x ad7 16 116 [(36, xO 4 [.ref 38, .ref 37, .int 0]), (37, xQ 10 [47]), (38, xD 38 (M0 38)), (39, xD 39 (M0 39)), (40, xD 40 (M0 40)), (41, xD 41 (M0 41)), (42, xD 42 (M0 42)), (43, xD 43 (M0 43)), (44, xD 44 (M0 44)), (45, xD 45 (M0 45)), (46, xD 46 (M0 46)), (47, xD 47 (M0 47)), (48, xD 48 (M0 48)), (49, xD 49 (M0 49)), (50, xD 50 (M0 50)), (51, xD 51 (M0 51)), (52, xD 52 (M0 52))] 45 [some (.ref 36), some (.ref 7), some (.int (nI 1))] [.ref 50, .int (nI 1), .ref 37]
  refine wq_aast (pc := 45) (q0 := 1) (qk := 14) (gl := [47]) (w := 10) (ci := 1) X (Or.inl ⟨rfl, rfl⟩) rfl rfl rfl (by decide +kernel) (by decide) (by decide) rfl dX4_init_45 ?_
  refine wq_iinc (pc := 46) (v := nI 2) X dX4_init_46 rfl (by decide) rfl rfl ?_
  refine wq_goto (pc := 49) (tgt := 26) X dX4_init_49 (by decide) ?_
  refine wq_iload_n (pc := 26) X dX4_init_26 rfl rfl ?_
  refine wq_iconst (pc := 27) (v := nI 4) X dX4_init_27 (by decide) ?_
  refine wq_icmp_ge (pc := 28) (tgt := 52) X dX4_init_28 (by decide) (fun q => absurd q (by decide)) (fun _ => ?_)
  refine wq_aload_n (pc := 31) X dX4_init_31 rfl rfl ?_
  refine wq_get (pc := 32) (q0 := 0) X flpf_4_11 rfl rfl dX4_init_32 ?_
  refine wq_iload_n (pc := 35) X dX4_init_35 rfl rfl ?_
  refine wq_new (pc := 36) (i := 53) (kc' := 17) (ks' := 124) X nc_4_9 rfl (by decide +kernel) rfl rfl rfl rfl (by decide) (by decide) dX4_init_36 (fun q8 => ?_)
  have hN8 := adS (q := q8) hN7 (show 53 ∈ [37, 38, 39, 40, 41, 42, 43, 44, 45, 46, 47, 48, 49, 50, 51, 52, 53, 54, 55, 56, 57, 58] by decide)
  refine wq_dup (pc := 39) X dX4_init_39 rfl ?_
  refine wq_aload_n (pc := 40) X dX4_init_40 rfl rfl ?_
  refine wq_iload_n (pc := 41) X dX4_init_41 rfl rfl ?_
  refine wq_init (pc := 42) (Zr := [(36, xO 4 [.ref 38, .ref 37, .int 0]), (37, xQ 10 [47, 50]), (38, xD 38 (M0 38)), (39, xD 39 (M0 39)), (40, xD 40 (M0 40)), (41, xD 41 (M0 41)), (42, xD 42 (M0 42)), (43, xD 43 (M0 43)), (44, xD 44 (M0 44)), (45, xD 45 (M0 45)), (46, xD 46 (M0 46)), (47, xD 47 (M0 47)), (48, xD 48 (M0 48)), (49, xD 49 (M0 49)), (50, xD 50 (M0 50)), (51, xD 51 (M0 51)), (52, xD 52 (M0 52))]) (st := [.ref 53, .int (nI 2), .ref 37]) (kc' := 19) (ks' := 136) X O si_4_26 ⟨by decide, by decide⟩ cn_53 rfl (by decide +kernel) rfl rfl rfl rfl rfl (Nat.le_of_ble_eq_true rfl) rfl rfl (by decide) (by decide) dX4_init_42 (fun ad9 M9 hn hm => ?_)
  have hN9 := adN hN8 hn (by decide)
  clear hn
  subst hm
  show WQ x ad9 19 136 [(36, xO 4 [.ref 38, .ref 37, .int 0]), (37, xQ 10 [47, 50]), (38, xD 38 (M0 38)), (39, xD 39 (M0 39)), (40, xD 40 (M0 40)), (41, xD 41 (M0 41)), (42, xD 42 (M0 42)), (43, xD 43 (M0 43)), (44, xD 44 (M0 44)), (45, xD 45 (M0 45)), (46, xD 46 (M0 46)), (47, xD 47 (M0 47)), (48, xD 48 (M0 48)), (49, xD 49 (M0 49)), (50, xD 50 (M0 50)), (51, xD 51 (M0 51)), (52, xD 52 (M0 52)), (53, xD 53 (M0 53)), (54, xD 54 (M0 54)), (55, xD 55 (M0 55))] 45 [some (.ref 36), some (.ref 7), some (.int (nI 2))] [.ref 53, .int (nI 2), .ref 37]
  refine wq_aast (pc := 45) (q0 := 1) (qk := 17) (gl := [47, 50]) (w := 10) (ci := 1) X (Or.inl ⟨rfl, rfl⟩) rfl rfl rfl (by decide +kernel) (by decide) (by decide) rfl dX4_init_45 ?_
  refine wq_iinc (pc := 46) (v := nI 3) X dX4_init_46 rfl (by decide) rfl rfl ?_
  refine wq_goto (pc := 49) (tgt := 26) X dX4_init_49 (by decide) ?_
  refine wq_iload_n (pc := 26) X dX4_init_26 rfl rfl ?_
  refine wq_iconst (pc := 27) (v := nI 4) X dX4_init_27 (by decide) ?_
  refine wq_icmp_ge (pc := 28) (tgt := 52) X dX4_init_28 (by decide) (fun q => absurd q (by decide)) (fun _ => ?_)
  refine wq_aload_n (pc := 31) X dX4_init_31 rfl rfl ?_
  refine wq_get (pc := 32) (q0 := 0) X flpf_4_11 rfl rfl dX4_init_32 ?_
  refine wq_iload_n (pc := 35) X dX4_init_35 rfl rfl ?_
  refine wq_new (pc := 36) (i := 56) (kc' := 20) (ks' := 144) X nc_4_9 rfl (by decide +kernel) rfl rfl rfl rfl (by decide) (by decide) dX4_init_36 (fun q10 => ?_)
  have hN10 := adS (q := q10) hN9 (show 56 ∈ [37, 38, 39, 40, 41, 42, 43, 44, 45, 46, 47, 48, 49, 50, 51, 52, 53, 54, 55, 56, 57, 58] by decide)
  refine wq_dup (pc := 39) X dX4_init_39 rfl ?_
  refine wq_aload_n (pc := 40) X dX4_init_40 rfl rfl ?_
  refine wq_iload_n (pc := 41) X dX4_init_41 rfl rfl ?_
  refine wq_init (pc := 42) (Zr := [(36, xO 4 [.ref 38, .ref 37, .int 0]), (37, xQ 10 [47, 50, 53]), (38, xD 38 (M0 38)), (39, xD 39 (M0 39)), (40, xD 40 (M0 40)), (41, xD 41 (M0 41)), (42, xD 42 (M0 42)), (43, xD 43 (M0 43)), (44, xD 44 (M0 44)), (45, xD 45 (M0 45)), (46, xD 46 (M0 46)), (47, xD 47 (M0 47)), (48, xD 48 (M0 48)), (49, xD 49 (M0 49)), (50, xD 50 (M0 50)), (51, xD 51 (M0 51)), (52, xD 52 (M0 52)), (53, xD 53 (M0 53)), (54, xD 54 (M0 54)), (55, xD 55 (M0 55))]) (st := [.ref 56, .int (nI 3), .ref 37]) (kc' := 22) (ks' := 156) X O si_4_26 ⟨by decide, by decide⟩ cn_56 rfl (by decide +kernel) rfl rfl rfl rfl rfl (Nat.le_of_ble_eq_true rfl) rfl rfl (by decide) (by decide) dX4_init_42 (fun ad11 M11 hn hm => ?_)
  have hN11 := adN hN10 hn (by decide)
  clear hn
  subst hm
  show WQ x ad11 22 156 [(36, xO 4 [.ref 38, .ref 37, .int 0]), (37, xQ 10 [47, 50, 53]), (38, xD 38 (M0 38)), (39, xD 39 (M0 39)), (40, xD 40 (M0 40)), (41, xD 41 (M0 41)), (42, xD 42 (M0 42)), (43, xD 43 (M0 43)), (44, xD 44 (M0 44)), (45, xD 45 (M0 45)), (46, xD 46 (M0 46)), (47, xD 47 (M0 47)), (48, xD 48 (M0 48)), (49, xD 49 (M0 49)), (50, xD 50 (M0 50)), (51, xD 51 (M0 51)), (52, xD 52 (M0 52)), (53, xD 53 (M0 53)), (54, xD 54 (M0 54)), (55, xD 55 (M0 55)), (56, xD 56 (M0 56)), (57, xD 57 (M0 57)), (58, xD 58 (M0 58))] 45 [some (.ref 36), some (.ref 7), some (.int (nI 3))] [.ref 56, .int (nI 3), .ref 37]
  refine wq_aast (pc := 45) (q0 := 1) (qk := 20) (gl := [47, 50, 53]) (w := 10) (ci := 1) X (Or.inl ⟨rfl, rfl⟩) rfl rfl rfl (by decide +kernel) (by decide) (by decide) rfl dX4_init_45 ?_
  refine wq_iinc (pc := 46) (v := nI 4) X dX4_init_46 rfl (by decide) rfl rfl ?_
  refine wq_goto (pc := 49) (tgt := 26) X dX4_init_49 (by decide) ?_
  refine wq_iload_n (pc := 26) X dX4_init_26 rfl rfl ?_
  refine wq_iconst (pc := 27) (v := nI 4) X dX4_init_27 (by decide) ?_
  refine wq_icmp_ge (pc := 28) (tgt := 52) X dX4_init_28 (by decide) (fun _ => ?_) (fun q => absurd (by decide) q)
  exact wq_ret (pc := 52) (M := M0) X T hN11 rfl rfl (⟨rfl, ⟨by decide +kernel, by decide, rfl⟩, ⟨rfl, ⟨by decide +kernel, Or.inl ⟨rfl, rfl⟩⟩, ⟨rfl, ⟨rfl, rfl⟩, ⟨rfl, ⟨rfl, rfl⟩, ⟨rfl, ⟨rfl, rfl⟩, ⟨rfl, ⟨rfl, rfl⟩, ⟨rfl, ⟨rfl, rfl⟩, ⟨rfl, ⟨rfl, rfl⟩, ⟨rfl, ⟨rfl, rfl⟩, ⟨rfl, ⟨rfl, rfl⟩, ⟨rfl, ⟨rfl, rfl⟩, ⟨rfl, ⟨rfl, rfl⟩, ⟨rfl, ⟨rfl, rfl⟩, ⟨rfl, ⟨rfl, rfl⟩, ⟨rfl, ⟨rfl, rfl⟩, ⟨rfl, ⟨rfl, rfl⟩, ⟨rfl, ⟨rfl, rfl⟩, ⟨rfl, ⟨rfl, rfl⟩, ⟨rfl, ⟨rfl, rfl⟩, ⟨rfl, ⟨rfl, rfl⟩, ⟨rfl, ⟨rfl, rfl⟩, ⟨rfl, ⟨rfl, rfl⟩, ⟨rfl, ⟨rfl, rfl⟩, trivial⟩⟩⟩⟩⟩⟩⟩⟩⟩⟩⟩⟩⟩⟩⟩⟩⟩⟩⟩⟩⟩⟩⟩) rfl dX4_init_52
set_option maxRecDepth 100000 in
theorem cn_59 : CN mi_4 [60, 61, 62, 63, 64, 65, 66, 67, 68, 69, 70, 71, 72, 73, 74, 75, 76, 77, 78, 79, 80, 81] [.ref 59, .ref 7] [(59, xO 4 [.null, .null, .int 0])] (fun M => ZL [59, 60, 61, 62, 63, 64, 65, 66, 67, 68, 69, 70, 71, 72, 73, 74, 75, 76, 77, 78, 79, 80, 81] M) (fun M => M = M0) := by
  refine CN.intro pnf_4 rfl rfl (by decide) (by decide) (fun x X O Nm T => ?_)
  have hN0 : ∀ j, j ∉ [60, 61, 62, 63, 64, 65, 66, 67, 68, 69, 70, 71, 72, 73, 74, 75, 76, 77, 78, 79, 80, 81] → AX x j = AX x j := fun _ _ => rfl
  refine wq_aload_n (pc := 0) X dX4_init_0 rfl rfl ?_
  refine wq_objInit (pc := 1) X kk_126 kk_56 kk_obj rfl (by decide) (by decide) dX4_init_1 ?_
  refine wq_aload_n (pc := 4) X dX4_init_4 rfl rfl ?_
  refine wq_iconst (pc := 5) (v := nI 4) X dX4_init_5 (by decide) ?_
  refine wq_newq (pc := 6) (i := 60) (w := 10) (kc' := 1) (ks' := 4) X O (C := "FileRounds$Listener") (Or.inl ⟨rfl, rfl⟩) kk_127 (by decide +kernel) rfl rfl rfl rfl (by decide) (by decide) dX4_init_6 (fun q1 => ?_)
  have hN1 := adS (q := q1) hN0 (show 60 ∈ [60, 61, 62, 63, 64, 65, 66, 67, 68, 69, 70, 71, 72, 73, 74, 75, 76, 77, 78, 79, 80, 81] by decide)
  refine wq_putF (pc := 9) (q0 := 0) X Nm flpf_4_11 ffpf_4_11 rfl (by decide) (fun _ => rfl) (fun _ => rfl) rfl dX4_init_9 lkpf_4_11 ?_
  refine wq_aload_n (pc := 12) X dX4_init_12 rfl rfl ?_
  refine wq_new (pc := 13) (i := 61) (kc' := 2) (ks' := 16) X nc_4_17 rfl (by decide +kernel) rfl rfl rfl rfl (by decide) (by decide) dX4_init_13 (fun q2 => ?_)
  have hN2 := adS (q := q2) hN1 (show 61 ∈ [60, 61, 62, 63, 64, 65, 66, 67, 68, 69, 70, 71, 72, 73, 74, 75, 76, 77, 78, 79, 80, 81] by decide)
  refine wq_dup (pc := 16) X dX4_init_16 rfl ?_
  refine wq_aload_n (pc := 17) X dX4_init_17 rfl rfl ?_
  refine wq_init (pc := 18) (Zr := [(59, xO 4 [.null, .ref 60, .int 0]), (60, xQ 10 [])]) (st := [.ref 61, .ref 59]) (kc' := 10) (ks' := 76) X O si_4_19 ⟨by decide, by decide⟩ cn_61 rfl (by decide +kernel) rfl rfl rfl rfl rfl (Nat.le_of_ble_eq_true rfl) rfl rfl (by decide) (by decide) dX4_init_18 (fun ad3 M3 hn hm => ?_)
  have hN3 := adN hN2 hn (by decide)
  clear hn
  subst hm
  show WQ x ad3 10 76 [(59, xO 4 [.null, .ref 60, .int 0]), (60, xQ 10 []), (61, xD 61 (M0 61)), (62, xD 62 (M0 62)), (63, xD 63 (M0 63)), (64, xD 64 (M0 64)), (65, xD 65 (M0 65)), (66, xD 66 (M0 66)), (67, xD 67 (M0 67)), (68, xD 68 (M0 68)), (69, xD 69 (M0 69))] 21 [some (.ref 59), some (.ref 7), none] [.ref 61, .ref 59]
  refine wq_putF (pc := 21) (q0 := 0) X Nm flpf_4_22 ffpf_4_22 rfl (by decide) (fun _ => rfl) (fun _ => rfl) rfl dX4_init_21 lkpf_4_22 ?_
  refine wq_iconst (pc := 24) (v := nI 0) X dX4_init_24 (by decide) ?_
  refine wq_istore_n (pc := 25) X dX4_init_25 rfl (by decide) rfl rfl ?_
  refine wq_iload_n (pc := 26) X dX4_init_26 rfl rfl ?_
  refine wq_iconst (pc := 27) (v := nI 4) X dX4_init_27 (by decide) ?_
  refine wq_icmp_ge (pc := 28) (tgt := 52) X dX4_init_28 (by decide) (fun q => absurd q (by decide)) (fun _ => ?_)
  refine wq_aload_n (pc := 31) X dX4_init_31 rfl rfl ?_
  refine wq_get (pc := 32) (q0 := 0) X flpf_4_11 rfl rfl dX4_init_32 ?_
  refine wq_iload_n (pc := 35) X dX4_init_35 rfl rfl ?_
  refine wq_new (pc := 36) (i := 70) (kc' := 11) (ks' := 84) X nc_4_9 rfl (by decide +kernel) rfl rfl rfl rfl (by decide) (by decide) dX4_init_36 (fun q4 => ?_)
  have hN4 := adS (q := q4) hN3 (show 70 ∈ [60, 61, 62, 63, 64, 65, 66, 67, 68, 69, 70, 71, 72, 73, 74, 75, 76, 77, 78, 79, 80, 81] by decide)
  refine wq_dup (pc := 39) X dX4_init_39 rfl ?_
  refine wq_aload_n (pc := 40) X dX4_init_40 rfl rfl ?_
  refine wq_iload_n (pc := 41) X dX4_init_41 rfl rfl ?_
  refine wq_init (pc := 42) (Zr := [(59, xO 4 [.ref 61, .ref 60, .int 0]), (60, xQ 10 []), (61, xD 61 (M0 61)), (62, xD 62 (M0 62)), (63, xD 63 (M0 63)), (64, xD 64 (M0 64)), (65, xD 65 (M0 65)), (66, xD 66 (M0 66)), (67, xD 67 (M0 67)), (68, xD 68 (M0 68)), (69, xD 69 (M0 69))]) (st := [.ref 70, .int (nI 0), .ref 60]) (kc' := 13) (ks' := 96) X O si_4_26 ⟨by decide, by decide⟩ cn_70 rfl (by decide +kernel) rfl rfl rfl rfl rfl (Nat.le_of_ble_eq_true rfl) rfl rfl (by decide) (by decide) dX4_init_42 (fun ad5 M5 hn hm => ?_)
  have hN5 := adN hN4 hn (by decide)
  clear hn
  subst hm
  show WQ x ad5 13 96 [(59, xO 4 [.ref 61, .ref 60, .int 0]), (60, xQ 10 []), (61, xD 61 (M0 61)), (62, xD 62 (M0 62)), (63, xD 63 (M0 63)), (64, xD 64 (M0 64)), (65, xD 65 (M0 65)), (66, xD 66 (M0 66)), (67, xD 67 (M0 67)), (68, xD 68 (M0 68)), (69, xD 69 (M0 69)), (70, xD 70 (M0 70)), (71, xD 71 (M0 71)), (72, xD 72 (M0 72))] 45 [some (.ref 59), some (.ref 7), some (.int (nI 0))] [.ref 70, .int (nI 0), .ref 60]
  refine wq_aast (pc := 45) (q0 := 1) (qk := 11) (gl := []) (w := 10) (ci := 1) X (Or.inl ⟨rfl, rfl⟩) rfl rfl rfl (by decide +kernel) (by decide) (by decide) rfl dX4_init_45 ?_
  refine wq_iinc (pc := 46) (v := nI 1) X dX4_init_46 rfl (by decide) rfl rfl ?_
  refine wq_goto (pc := 49) (tgt := 26) X dX4_init_49 (by decide) ?_
  refine wq_iload_n (pc := 26) X dX4_init_26 rfl rfl ?_
  refine wq_iconst (pc := 27) (v := nI 4) X dX4_init_27 (by decide) ?_
  refine wq_icmp_ge (pc := 28) (tgt := 52) X dX4_init_28 (by decide) (fun q => absurd q (by decide)) (fun _ => ?_)
  refine wq_aload_n (pc := 31) X dX4_init_31 rfl rfl ?_
  refine wq_get (pc := 32) (q0 := 0) X flpf_4_11 rfl rfl dX4_init_32 ?_
  refine wq_iload_n (pc := 35) X dX4_init_35 rfl rfl ?_
  refine wq_new (pc := 36) (i := 73) (kc' := 14) (ks' := 104) X nc_4_9 rfl (by decide +kernel) rfl rfl rfl rfl (by decide) (by decide) dX4_init_36 (fun q6 => ?_)
  have hN6 := adS (q := q6) hN5 (show 73 ∈ [60, 61, 62, 63, 64, 65, 66, 67, 68, 69, 70, 71, 72, 73, 74, 75, 76, 77, 78, 79, 80, 81] by decide)
  refine wq_dup (pc := 39) X dX4_init_39 rfl ?_
  refine wq_aload_n (pc := 40) X dX4_init_40 rfl rfl ?_
  refine wq_iload_n (pc := 41) X dX4_init_41 rfl rfl ?_
  refine wq_init (pc := 42) (Zr := [(59, xO 4 [.ref 61, .ref 60, .int 0]), (60, xQ 10 [70]), (61, xD 61 (M0 61)), (62, xD 62 (M0 62)), (63, xD 63 (M0 63)), (64, xD 64 (M0 64)), (65, xD 65 (M0 65)), (66, xD 66 (M0 66)), (67, xD 67 (M0 67)), (68, xD 68 (M0 68)), (69, xD 69 (M0 69)), (70, xD 70 (M0 70)), (71, xD 71 (M0 71)), (72, xD 72 (M0 72))]) (st := [.ref 73, .int (nI 1), .ref 60]) (kc' := 16) (ks' := 116) X O si_4_26 ⟨by decide, by decide⟩ cn_73 rfl (by decide +kernel) rfl rfl rfl rfl rfl (Nat.le_of_ble_eq_true rfl) rfl rfl (by decide) (by decide) dX4_init_42 (fun ad7 M7 hn hm => ?_)
  have hN7 := adN hN6 hn (by decide)
  clear hn
  subst hm
  show WQ x ad7 16 116 [(59, xO 4 [.ref 61, .ref 60, .int 0]), (60, xQ 10 [70]), (61, xD 61 (M0 61)), (62, xD 62 (M0 62)), (63, xD 63 (M0 63)), (64, xD 64 (M0 64)), (65, xD 65 (M0 65)), (66, xD 66 (M0 66)), (67, xD 67 (M0 67)), (68, xD 68 (M0 68)), (69, xD 69 (M0 69)), (70, xD 70 (M0 70)), (71, xD 71 (M0 71)), (72, xD 72 (M0 72)), (73, xD 73 (M0 73)), (74, xD 74 (M0 74)), (75, xD 75 (M0 75))] 45 [some (.ref 59), some (.ref 7), some (.int (nI 1))] [.ref 73, .int (nI 1), .ref 60]
  refine wq_aast (pc := 45) (q0 := 1) (qk := 14) (gl := [70]) (w := 10) (ci := 1) X (Or.inl ⟨rfl, rfl⟩) rfl rfl rfl (by decide +kernel) (by decide) (by decide) rfl dX4_init_45 ?_
  refine wq_iinc (pc := 46) (v := nI 2) X dX4_init_46 rfl (by decide) rfl rfl ?_
  refine wq_goto (pc := 49) (tgt := 26) X dX4_init_49 (by decide) ?_
  refine wq_iload_n (pc := 26) X dX4_init_26 rfl rfl ?_
  refine wq_iconst (pc := 27) (v := nI 4) X dX4_init_27 (by decide) ?_
  refine wq_icmp_ge (pc := 28) (tgt := 52) X dX4_init_28 (by decide) (fun q => absurd q (by decide)) (fun _ => ?_)
  refine wq_aload_n (pc := 31) X dX4_init_31 rfl rfl ?_
  refine wq_get (pc := 32) (q0 := 0) X flpf_4_11 rfl rfl dX4_init_32 ?_
  refine wq_iload_n (pc := 35) X dX4_init_35 rfl rfl ?_
  refine wq_new (pc := 36) (i := 76) (kc' := 17) (ks' := 124) X nc_4_9 rfl (by decide +kernel) rfl rfl rfl rfl (by decide) (by decide) dX4_init_36 (fun q8 => ?_)
  have hN8 := adS (q := q8) hN7 (show 76 ∈ [60, 61, 62, 63, 64, 65, 66, 67, 68, 69, 70, 71, 72, 73, 74, 75, 76, 77, 78, 79, 80, 81] by decide)
  refine wq_dup (pc := 39) X dX4_init_39 rfl ?_
  refine wq_aload_n (pc := 40) X dX4_init_40 rfl rfl ?_
  refine wq_iload_n (pc := 41) X dX4_init_41 rfl rfl ?_
  refine wq_init (pc := 42) (Zr := [(59, xO 4 [.ref 61, .ref 60, .int 0]), (60, xQ 10 [70, 73]), (61, xD 61 (M0 61)), (62, xD 62 (M0 62)), (63, xD 63 (M0 63)), (64, xD 64 (M0 64)), (65, xD 65 (M0 65)), (66, xD 66 (M0 66)), (67, xD 67 (M0 67)), (68, xD 68 (M0 68)), (69, xD 69 (M0 69)), (70, xD 70 (M0 70)), (71, xD 71 (M0 71)), (72, xD 72 (M0 72)), (73, xD 73 (M0 73)), (74, xD 74 (M0 74)), (75, xD 75 (M0 75))]) (st := [.ref 76, .int (nI 2), .ref 60]) (kc' := 19) (ks' := 136) X O si_4_26 ⟨by decide, by decide⟩ cn_76 rfl (by decide +kernel) rfl rfl rfl rfl rfl (Nat.le_of_ble_eq_true rfl) rfl rfl (by decide) (by decide) dX4_init_42 (fun ad9 M9 hn hm => ?_)
  have hN9 := adN hN8 hn (by decide)
  clear hn
  subst hm
  show WQ x ad9 19 136 [(59, xO 4 [.ref 61, .ref 60, .int 0]), (60, xQ 10 [70, 73]), (61, xD 61 (M0 61)), (62, xD 62 (M0 62)), (63, xD 63 (M0 63)), (64, xD 64 (M0 64)), (65, xD 65 (M0 65)), (66, xD 66 (M0 66)), (67, xD 67 (M0 67)), (68, xD 68 (M0 68)), (69, xD 69 (M0 69)), (70, xD 70 (M0 70)), (71, xD 71 (M0 71)), (72, xD 72 (M0 72)), (73, xD 73 (M0 73)), (74, xD 74 (M0 74)), (75, xD 75 (M0 75)), (76, xD 76 (M0 76)), (77, xD 77 (M0 77)), (78, xD 78 (M0 78))] 45 [some (.ref 59), some (.ref 7), some (.int (nI 2))] [.ref 76, .int (nI 2), .ref 60]
  refine wq_aast (pc := 45) (q0 := 1) (qk := 17) (gl := [70, 73]) (w := 10) (ci := 1) X (Or.inl ⟨rfl, rfl⟩) rfl rfl rfl (by decide +kernel) (by decide) (by decide) rfl dX4_init_45 ?_
  refine wq_iinc (pc := 46) (v := nI 3) X dX4_init_46 rfl (by decide) rfl rfl ?_
  refine wq_goto (pc := 49) (tgt := 26) X dX4_init_49 (by decide) ?_
  refine wq_iload_n (pc := 26) X dX4_init_26 rfl rfl ?_
  refine wq_iconst (pc := 27) (v := nI 4) X dX4_init_27 (by decide) ?_
  refine wq_icmp_ge (pc := 28) (tgt := 52) X dX4_init_28 (by decide) (fun q => absurd q (by decide)) (fun _ => ?_)
  refine wq_aload_n (pc := 31) X dX4_init_31 rfl rfl ?_
  refine wq_get (pc := 32) (q0 := 0) X flpf_4_11 rfl rfl dX4_init_32 ?_
  refine wq_iload_n (pc := 35) X dX4_init_35 rfl rfl ?_
  refine wq_new (pc := 36) (i := 79) (kc' := 20) (ks' := 144) X nc_4_9 rfl (by decide +kernel) rfl rfl rfl rfl (by decide) (by decide) dX4_init_36 (fun q10 => ?_)
  have hN10 := adS (q := q10) hN9 (show 79 ∈ [60, 61, 62, 63, 64, 65, 66, 67, 68, 69, 70, 71, 72, 73, 74, 75, 76, 77, 78, 79, 80, 81] by decide)
  refine wq_dup (pc := 39) X dX4_init_39 rfl ?_
  refine wq_aload_n (pc := 40) X dX4_init_40 rfl rfl ?_
  refine wq_iload_n (pc := 41) X dX4_init_41 rfl rfl ?_
  refine wq_init (pc := 42) (Zr := [(59, xO 4 [.ref 61, .ref 60, .int 0]), (60, xQ 10 [70, 73, 76]), (61, xD 61 (M0 61)), (62, xD 62 (M0 62)), (63, xD 63 (M0 63)), (64, xD 64 (M0 64)), (65, xD 65 (M0 65)), (66, xD 66 (M0 66)), (67, xD 67 (M0 67)), (68, xD 68 (M0 68)), (69, xD 69 (M0 69)), (70, xD 70 (M0 70)), (71, xD 71 (M0 71)), (72, xD 72 (M0 72)), (73, xD 73 (M0 73)), (74, xD 74 (M0 74)), (75, xD 75 (M0 75)), (76, xD 76 (M0 76)), (77, xD 77 (M0 77)), (78, xD 78 (M0 78))]) (st := [.ref 79, .int (nI 3), .ref 60]) (kc' := 22) (ks' := 156) X O si_4_26 ⟨by decide, by decide⟩ cn_79 rfl (by decide +kernel) rfl rfl rfl rfl rfl (Nat.le_of_ble_eq_true rfl) rfl rfl (by decide) (by decide) dX4_init_42 (fun ad11 M11 hn hm => ?_)
  have hN11 := adN hN10 hn (by decide)
  clear hn
  subst hm
  show WQ x ad11 22 156 [(59, xO 4 [.ref 61, .ref 60, .int 0]), (60, xQ 10 [70, 73, 76]), (61, xD 61 (M0 61)), (62, xD 62 (M0 62)), (63, xD 63 (M0 63)), (64, xD 64 (M0 64)), (65, xD 65 (M0 65)), (66, xD 66 (M0 66)), (67, xD 67 (M0 67)), (68, xD 68 (M0 68)), (69, xD 69 (M0 69)), (70, xD 70 (M0 70)), (71, xD 71 (M0 71)), (72, xD 72 (M0 72)), (73, xD 73 (M0 73)), (74, xD 74 (M0 74)), (75, xD 75 (M0 75)), (76, xD 76 (M0 76)), (77, xD 77 (M0 77)), (78, xD 78 (M0 78)), (79, xD 79 (M0 79)), (80, xD 80 (M0 80)), (81, xD 81 (M0 81))] 45 [some (.ref 59), some (.ref 7), some (.int (nI 3))] [.ref 79, .int (nI 3), .ref 60]
  refine wq_aast (pc := 45) (q0 := 1) (qk := 20) (gl := [70, 73, 76]) (w := 10) (ci := 1) X (Or.inl ⟨rfl, rfl⟩) rfl rfl rfl (by decide +kernel) (by decide) (by decide) rfl dX4_init_45 ?_
  refine wq_iinc (pc := 46) (v := nI 4) X dX4_init_46 rfl (by decide) rfl rfl ?_
  refine wq_goto (pc := 49) (tgt := 26) X dX4_init_49 (by decide) ?_
  refine wq_iload_n (pc := 26) X dX4_init_26 rfl rfl ?_
  refine wq_iconst (pc := 27) (v := nI 4) X dX4_init_27 (by decide) ?_
  refine wq_icmp_ge (pc := 28) (tgt := 52) X dX4_init_28 (by decide) (fun _ => ?_) (fun q => absurd (by decide) q)
  exact wq_ret (pc := 52) (M := M0) X T hN11 rfl rfl (⟨rfl, ⟨by decide +kernel, by decide, rfl⟩, ⟨rfl, ⟨by decide +kernel, Or.inl ⟨rfl, rfl⟩⟩, ⟨rfl, ⟨rfl, rfl⟩, ⟨rfl, ⟨rfl, rfl⟩, ⟨rfl, ⟨rfl, rfl⟩, ⟨rfl, ⟨rfl, rfl⟩, ⟨rfl, ⟨rfl, rfl⟩, ⟨rfl, ⟨rfl, rfl⟩, ⟨rfl, ⟨rfl, rfl⟩, ⟨rfl, ⟨rfl, rfl⟩, ⟨rfl, ⟨rfl, rfl⟩, ⟨rfl, ⟨rfl, rfl⟩, ⟨rfl, ⟨rfl, rfl⟩, ⟨rfl, ⟨rfl, rfl⟩, ⟨rfl, ⟨rfl, rfl⟩, ⟨rfl, ⟨rfl, rfl⟩, ⟨rfl, ⟨rfl, rfl⟩, ⟨rfl, ⟨rfl, rfl⟩, ⟨rfl, ⟨rfl, rfl⟩, ⟨rfl, ⟨rfl, rfl⟩, ⟨rfl, ⟨rfl, rfl⟩, ⟨rfl, ⟨rfl, rfl⟩, ⟨rfl, ⟨rfl, rfl⟩, trivial⟩⟩⟩⟩⟩⟩⟩⟩⟩⟩⟩⟩⟩⟩⟩⟩⟩⟩⟩⟩⟩⟩⟩) rfl dX4_init_52
set_option maxRecDepth 100000 in
theorem cn_82 : CN mi_4 [83, 84, 85, 86, 87, 88, 89, 90, 91, 92, 93, 94, 95, 96, 97, 98, 99, 100, 101, 102, 103, 104] [.ref 82, .ref 7] [(82, xO 4 [.null, .null, .int 0])] (fun M => ZL [82, 83, 84, 85, 86, 87, 88, 89, 90, 91, 92, 93, 94, 95, 96, 97, 98, 99, 100, 101, 102, 103, 104] M) (fun M => M = M0) := by
  refine CN.intro pnf_4 rfl rfl (by decide) (by decide) (fun x X O Nm T => ?_)
  have hN0 : ∀ j, j ∉ [83, 84, 85, 86, 87, 88, 89, 90, 91, 92, 93, 94, 95, 96, 97, 98, 99, 100, 101, 102, 103, 104] → AX x j = AX x j := fun _ _ => rfl
  refine wq_aload_n (pc := 0) X dX4_init_0 rfl rfl ?_
  refine wq_objInit (pc := 1) X kk_126 kk_56 kk_obj rfl (by decide) (by decide) dX4_init_1 ?_
  refine wq_aload_n (pc := 4) X dX4_init_4 rfl rfl ?_
  refine wq_iconst (pc := 5) (v := nI 4) X dX4_init_5 (by decide) ?_
  refine wq_newq (pc := 6) (i := 83) (w := 10) (kc' := 1) (ks' := 4) X O (C := "FileRounds$Listener") (Or.inl ⟨rfl, rfl⟩) kk_127 (by decide +kernel) rfl rfl rfl rfl (by decide) (by decide) dX4_init_6 (fun q1 => ?_)
  have hN1 := adS (q := q1) hN0 (show 83 ∈ [83, 84, 85, 86, 87, 88, 89, 90, 91, 92, 93, 94, 95, 96, 97, 98, 99, 100, 101, 102, 103, 104] by decide)
  refine wq_putF (pc := 9) (q0 := 0) X Nm flpf_4_11 ffpf_4_11 rfl (by decide) (fun _ => rfl) (fun _ => rfl) rfl dX4_init_9 lkpf_4_11 ?_
  refine wq_aload_n (pc := 12) X dX4_init_12 rfl rfl ?_
  refine wq_new (pc := 13) (i := 84) (kc' := 2) (ks' := 16) X nc_4_17 rfl (by decide +kernel) rfl rfl rfl rfl (by decide) (by decide) dX4_init_13 (fun q2 => ?_)
  have hN2 := adS (q := q2) hN1 (show 84 ∈ [83, 84, 85, 86, 87, 88, 89, 90, 91, 92, 93, 94, 95, 96, 97, 98, 99, 100, 101, 102, 103, 104] by decide)
  refine wq_dup (pc := 16) X dX4_init_16 rfl ?_
  refine wq_aload_n (pc := 17) X dX4_init_17 rfl rfl ?_
  refine wq_init (pc := 18) (Zr := [(82, xO 4 [.null, .ref 83, .int 0]), (83, xQ 10 [])]) (st := [.ref 84, .ref 82]) (kc' := 10) (ks' := 76) X O si_4_19 ⟨by decide, by decide⟩ cn_84 rfl (by decide +kernel) rfl rfl rfl rfl rfl (Nat.le_of_ble_eq_true rfl) rfl rfl (by decide) (by decide) dX4_init_18 (fun ad3 M3 hn hm => ?_)
  have hN3 := adN hN2 hn (by decide)
  clear hn
  subst hm
  show WQ x ad3 10 76 [(82, xO 4 [.null, .ref 83, .int 0]), (83, xQ 10 []), (84, xD 84 (M0 84)), (85, xD 85 (M0 85)), (86, xD 86 (M0 86)), (87, xD 87 (M0 87)), (88, xD 88 (M0 88)), (89, xD 89 (M0 89)), (90, xD 90 (M0 90)), (91, xD 91 (M0 91)), (92, xD 92 (M0 92))] 21 [some (.ref 82), some (.ref 7), none] [.ref 84, .ref 82]
  refine wq_putF (pc := 21) (q0 := 0) X Nm flpf_4_22 ffpf_4_22 rfl (by decide) (fun _ => rfl) (fun _ => rfl) rfl dX4_init_21 lkpf_4_22 ?_
  refine wq_iconst (pc := 24) (v := nI 0) X dX4_init_24 (by decide) ?_
  refine wq_istore_n (pc := 25) X dX4_init_25 rfl (by decide) rfl rfl ?_
  refine wq_iload_n (pc := 26) X dX4_init_26 rfl rfl ?_
  refine wq_iconst (pc := 27) (v := nI 4) X dX4_init_27 (by decide) ?_
  refine wq_icmp_ge (pc := 28) (tgt := 52) X dX4_init_28 (by decide) (fun q => absurd q (by decide)) (fun _ => ?_)
  refine wq_aload_n (pc := 31) X dX4_init_31 rfl rfl ?_
  refine wq_get (pc := 32) (q0 := 0) X flpf_4_11 rfl rfl dX4_init_32 ?_
  refine wq_iload_n (pc := 35) X dX4_init_35 rfl rfl ?_
  refine wq_new (pc := 36) (i := 93) (kc' := 11) (ks' := 84) X nc_4_9 rfl (by decide +kernel) rfl rfl rfl rfl (by decide) (by decide) dX4_init_36 (fun q4 => ?_)
  have hN4 := adS (q := q4) hN3 (show 93 ∈ [83, 84, 85, 86, 87, 88, 89, 90, 91, 92, 93, 94, 95, 96, 97, 98, 99, 100, 101, 102, 103, 104] by decide)
  refine wq_dup (pc := 39) X dX4_init_39 rfl ?_
  refine wq_aload_n (pc := 40) X dX4_init_40 rfl rfl ?_
  refine wq_iload_n (pc := 41) X dX4_init_41 rfl rfl ?_
  refine wq_init (pc := 42) (Zr := [(82, xO 4 [.ref 84, .ref 83, .int 0]), (83, xQ 10 []), (84, xD 84 (M0 84)), (85, xD 85 (M0 85)), (86, xD 86 (M0 86)), (87, xD 87 (M0 87)), (88, xD 88 (M0 88)), (89, xD 89 (M0 89)), (90, xD 90 (M0 90)), (91, xD 91 (M0 91)), (92, xD 92 (M0 92))]) (st := [.ref 93, .int (nI 0), .ref 83]) (kc' := 13) (ks' := 96) X O si_4_26 ⟨by decide, by decide⟩ cn_93 rfl (by decide +kernel) rfl rfl rfl rfl rfl (Nat.le_of_ble_eq_true rfl) rfl rfl (by decide) (by decide) dX4_init_42 (fun ad5 M5 hn hm => ?_)
  have hN5 := adN hN4 hn (by decide)
  clear hn
  subst hm
  show WQ x ad5 13 96 [(82, xO 4 [.ref 84, .ref 83, .int 0]), (83, xQ 10 []), (84, xD 84 (M0 84)), (85, xD 85 (M0 85)), (86, xD 86 (M0 86)), (87, xD 87 (M0 87)), (88, xD 88 (M0 88)), (89, xD 89 (M0 89)), (90, xD 90 (M0 90)), (91, xD 91 (M0 91)), (92, xD 92 (M0 92)), (93, xD 93 (M0 93)), (94, xD 94 (M0 94)), (95, xD 95 (M0 95))] 45 [some (.ref 82), some (.ref 7), some (.int (nI 0))] [.ref 93, .int (nI 0), .ref 83]
  refine wq_aast (pc := 45) (q0 := 1) (qk := 11) (gl := []) (w := 10) (ci := 1) X (Or.inl ⟨rfl, rfl⟩) rfl rfl rfl (by decide +kernel) (by decide) (by decide) rfl dX4_init_45 ?_
  refine wq_iinc (pc := 46) (v := nI 1) X dX4_init_46 rfl (by decide) rfl rfl ?_
  refine wq_goto (pc := 49) (tgt := 26) X dX4_init_49 (by decide) ?_
  refine wq_iload_n (pc := 26) X dX4_init_26 rfl rfl ?_
  refine wq_iconst (pc := 27) (v := nI 4) X dX4_init_27 (by decide) ?_
  refine wq_icmp_ge (pc := 28) (tgt := 52) X dX4_init_28 (by decide) (fun q => absurd q (by decide)) (fun _ => ?_)
  refine wq_aload_n (pc := 31) X dX4_init_31 rfl rfl ?_
  refine wq_get (pc := 32) (q0 := 0) X flpf_4_11 rfl rfl dX4_init_32 ?_
  refine wq_iload_n (pc := 35) X dX4_init_35 rfl rfl ?_
  refine wq_new (pc := 36) (i := 96) (kc' := 14) (ks' := 104) X nc_4_9 rfl (by decide +kernel) rfl rfl rfl rfl (by decide) (by decide) dX4_init_36 (fun q6 => ?_)
  have hN6 := adS (q := q6) hN5 (show 96 ∈ [83, 84, 85, 86, 87, 88, 89, 90, 91, 92, 93, 94, 95, 96, 97, 98, 99, 100, 101, 102, 103, 104] by decide)
  refine wq_dup (pc := 39) X dX4_init_39 rfl ?_
  refine wq_aload_n (pc := 40) X dX4_init_40 rfl rfl ?_
  refine wq_iload_n (pc := 41) X dX4_init_41 rfl rfl ?_
  refine wq_init (pc := 42) (Zr := [(82, xO 4 [.ref 84, .ref 83, .int 0]), (83, xQ 10 [93]), (84, xD 84 (M0 84)), (85, xD 85 (M0 85)), (86, xD 86 (M0 86)), (87, xD 87 (M0 87)), (88, xD 88 (M0 88)), (89, xD 89 (M0 89)), (90, xD 90 (M0 90)), (91, xD 91 (M0 91)), (92, xD 92 (M0 92)), (93, xD 93 (M0 93)), (94, xD 94 (M0 94)), (95, xD 95 (M0 95))]) (st := [.ref 96, .int (nI 1), .ref 83]) (kc' := 16) (ks' := 116) X O si_4_26 ⟨by decide, by decide⟩ cn_96 rfl (by decide +kernel) rfl rfl rfl rfl rfl (Nat.le_of_ble_eq_true rfl) rfl rfl (by decide) (by decide) dX4_init_42 (fun ad7 M7 hn hm => ?_)
  have hN7 := adN hN6 hn (by decide)
  clear hn
  subst hm
  show WQ x ad7 16 116 [(82, xO 4 [.ref 84, .ref 83, .int 0]), (83, xQ 10 [93]), (84, xD 84 (M0 84)), (85, xD 85 (M0 85)), (86, xD 86 (M0 86)), (87, xD 87 (M0 87)), (88, xD 88 (M0 88)), (89, xD 89 (M0 89)), (90, xD 90 (M0 90)), (91, xD 91 (M0 91)), (92, xD 92 (M0 92)), (93, xD 93 (M0 93)), (94, xD 94 (M0 94)), (95, xD 95 (M0 95)), (96, xD 96 (M0 96)), (97, xD 97 (M0 97)), (98, xD 98 (M0 98))] 45 [some (.ref 82), some (.ref 7), some (.int (nI 1))] [.ref 96, .int (nI 1), .ref 83]
  refine wq_aast (pc := 45) (q0 := 1) (qk := 14) (gl := [93]) (w := 10) (ci := 1) X (Or.inl ⟨rfl, rfl⟩) rfl rfl rfl (by decide +kernel) (by decide) (by decide) rfl dX4_init_45 ?_
  refine wq_iinc (pc := 46) (v := nI 2) X dX4_init_46 rfl (by decide) rfl rfl ?_
  refine wq_goto (pc := 49) (tgt := 26) X dX4_init_49 (by decide) ?_
  refine wq_iload_n (pc := 26) X dX4_init_26 rfl rfl ?_
  refine wq_iconst (pc := 27) (v := nI 4) X dX4_init_27 (by decide) ?_
  refine wq_icmp_ge (pc := 28) (tgt := 52) X dX4_init_28 (by decide) (fun q => absurd q (by decide)) (fun _ => ?_)
  refine wq_aload_n (pc := 31) X dX4_init_31 rfl rfl ?_
  refine wq_get (pc := 32) (q0 := 0) X flpf_4_11 rfl rfl dX4_init_32 ?_
  refine wq_iload_n (pc := 35) X dX4_init_35 rfl rfl ?_
  refine wq_new (pc := 36) (i := 99) (kc' := 17) (ks' := 124) X nc_4_9 rfl (by decide +kernel) rfl rfl rfl rfl (by decide) (by decide) dX4_init_36 (fun q8 => ?_)
  have hN8 := adS (q := q8) hN7 (show 99 ∈ [83, 84, 85, 86, 87, 88, 89, 90, 91, 92, 93, 94, 95, 96, 97, 98, 99, 100, 101, 102, 103, 104] by decide)
  refine wq_dup (pc := 39) X dX4_init_39 rfl ?_
  refine wq_aload_n (pc := 40) X dX4_init_40 rfl rfl ?_
  refine wq_iload_n (pc := 41) X dX4_init_41 rfl rfl ?_
  refine wq_init (pc := 42) (Zr := [(82, xO 4 [.ref 84, .ref 83, .int 0]), (83, xQ 10 [93, 96]), (84, xD 84 (M0 84)), (85, xD 85 (M0 85)), (86, xD 86 (M0 86)), (87, xD 87 (M0 87)), (88, xD 88 (M0 88)), (89, xD 89 (M0 89)), (90, xD 90 (M0 90)), (91, xD 91 (M0 91)), (92, xD 92 (M0 92)), (93, xD 93 (M0 93)), (94, xD 94 (M0 94)), (95, xD 95 (M0 95)), (96, xD 96 (M0 96)), (97, xD 97 (M0 97)), (98, xD 98 (M0 98))]) (st := [.ref 99, .int (nI 2), .ref 83]) (kc' := 19) (ks' := 136) X O si_4_26 ⟨by decide, by decide⟩ cn_99 rfl (by decide +kernel) rfl rfl rfl rfl rfl (Nat.le_of_ble_eq_true rfl) rfl rfl (by decide) (by decide) dX4_init_42 (fun ad9 M9 hn hm => ?_)
  have hN9 := adN hN8 hn (by decide)
  clear hn
  subst hm
  show WQ x ad9 19 136 [(82, xO 4 [.ref 84, .ref 83, .int 0]), (83, xQ 10 [93, 96]), (84, xD 84 (M0 84)), (85, xD 85 (M0 85)), (86, xD 86 (M0 86)), (87, xD 87 (M0 87)), (88, xD 88 (M0 88)), (89, xD 89 (M0 89)), (90, xD 90 (M0 90)), (91, xD 91 (M0 91)), (92, xD 92 (M0 92)), (93, xD 93 (M0 93)), (94, xD 94 (M0 94)), (95, xD 95 (M0 95)), (96, xD 96 (M0 96)), (97, xD 97 (M0 97)), (98, xD 98 (M0 98)), (99, xD 99 (M0 99)), (100, xD 100 (M0 100)), (101, xD 101 (M0 101))] 45 [some (.ref 82), some (.ref 7), some (.int (nI 2))] [.ref 99, .int (nI 2), .ref 83]
  refine wq_aast (pc := 45) (q0 := 1) (qk := 17) (gl := [93, 96]) (w := 10) (ci := 1) X (Or.inl ⟨rfl, rfl⟩) rfl rfl rfl (by decide +kernel) (by decide) (by decide) rfl dX4_init_45 ?_
  refine wq_iinc (pc := 46) (v := nI 3) X dX4_init_46 rfl (by decide) rfl rfl ?_
  refine wq_goto (pc := 49) (tgt := 26) X dX4_init_49 (by decide) ?_
  refine wq_iload_n (pc := 26) X dX4_init_26 rfl rfl ?_
  refine wq_iconst (pc := 27) (v := nI 4) X dX4_init_27 (by decide) ?_
  refine wq_icmp_ge (pc := 28) (tgt := 52) X dX4_init_28 (by decide) (fun q => absurd q (by decide)) (fun _ => ?_)
  refine wq_aload_n (pc := 31) X dX4_init_31 rfl rfl ?_
  refine wq_get (pc := 32) (q0 := 0) X flpf_4_11 rfl rfl dX4_init_32 ?_
  refine wq_iload_n (pc := 35) X dX4_init_35 rfl rfl ?_
  refine wq_new (pc := 36) (i := 102) (kc' := 20) (ks' := 144) X nc_4_9 rfl (by decide +kernel) rfl rfl rfl rfl (by decide) (by decide) dX4_init_36 (fun q10 => ?_)
  have hN10 := adS (q := q10) hN9 (show 102 ∈ [83, 84, 85, 86, 87, 88, 89, 90, 91, 92, 93, 94, 95, 96, 97, 98, 99, 100, 101, 102, 103, 104] by decide)
  refine wq_dup (pc := 39) X dX4_init_39 rfl ?_
  refine wq_aload_n (pc := 40) X dX4_init_40 rfl rfl ?_
  refine wq_iload_n (pc := 41) X dX4_init_41 rfl rfl ?_
  refine wq_init (pc := 42) (Zr := [(82, xO 4 [.ref 84, .ref 83, .int 0]), (83, xQ 10 [93, 96, 99]), (84, xD 84 (M0 84)), (85, xD 85 (M0 85)), (86, xD 86 (M0 86)), (87, xD 87 (M0 87)), (88, xD 88 (M0 88)), (89, xD 89 (M0 89)), (90, xD 90 (M0 90)), (91, xD 91 (M0 91)), (92, xD 92 (M0 92)), (93, xD 93 (M0 93)), (94, xD 94 (M0 94)), (95, xD 95 (M0 95)), (96, xD 96 (M0 96)), (97, xD 97 (M0 97)), (98, xD 98 (M0 98)), (99, xD 99 (M0 99)), (100, xD 100 (M0 100)), (101, xD 101 (M0 101))]) (st := [.ref 102, .int (nI 3), .ref 83]) (kc' := 22) (ks' := 156) X O si_4_26 ⟨by decide, by decide⟩ cn_102 rfl (by decide +kernel) rfl rfl rfl rfl rfl (Nat.le_of_ble_eq_true rfl) rfl rfl (by decide) (by decide) dX4_init_42 (fun ad11 M11 hn hm => ?_)
  have hN11 := adN hN10 hn (by decide)
  clear hn
  subst hm
  show WQ x ad11 22 156 [(82, xO 4 [.ref 84, .ref 83, .int 0]), (83, xQ 10 [93, 96, 99]), (84, xD 84 (M0 84)), (85, xD 85 (M0 85)), (86, xD 86 (M0 86)), (87, xD 87 (M0 87)), (88, xD 88 (M0 88)), (89, xD 89 (M0 89)), (90, xD 90 (M0 90)), (91, xD 91 (M0 91)), (92, xD 92 (M0 92)), (93, xD 93 (M0 93)), (94, xD 94 (M0 94)), (95, xD 95 (M0 95)), (96, xD 96 (M0 96)), (97, xD 97 (M0 97)), (98, xD 98 (M0 98)), (99, xD 99 (M0 99)), (100, xD 100 (M0 100)), (101, xD 101 (M0 101)), (102, xD 102 (M0 102)), (103, xD 103 (M0 103)), (104, xD 104 (M0 104))] 45 [some (.ref 82), some (.ref 7), some (.int (nI 3))] [.ref 102, .int (nI 3), .ref 83]
  refine wq_aast (pc := 45) (q0 := 1) (qk := 20) (gl := [93, 96, 99]) (w := 10) (ci := 1) X (Or.inl ⟨rfl, rfl⟩) rfl rfl rfl (by decide +kernel) (by decide) (by decide) rfl dX4_init_45 ?_
  refine wq_iinc (pc := 46) (v := nI 4) X dX4_init_46 rfl (by decide) rfl rfl ?_
  refine wq_goto (pc := 49) (tgt := 26) X dX4_init_49 (by decide) ?_
  refine wq_iload_n (pc := 26) X dX4_init_26 rfl rfl ?_
  refine wq_iconst (pc := 27) (v := nI 4) X dX4_init_27 (by decide) ?_
  refine wq_icmp_ge (pc := 28) (tgt := 52) X dX4_init_28 (by decide) (fun _ => ?_) (fun q => absurd (by decide) q)
  exact wq_ret (pc := 52) (M := M0) X T hN11 rfl rfl (⟨rfl, ⟨by decide +kernel, by decide, rfl⟩, ⟨rfl, ⟨by decide +kernel, Or.inl ⟨rfl, rfl⟩⟩, ⟨rfl, ⟨rfl, rfl⟩, ⟨rfl, ⟨rfl, rfl⟩, ⟨rfl, ⟨rfl, rfl⟩, ⟨rfl, ⟨rfl, rfl⟩, ⟨rfl, ⟨rfl, rfl⟩, ⟨rfl, ⟨rfl, rfl⟩, ⟨rfl, ⟨rfl, rfl⟩, ⟨rfl, ⟨rfl, rfl⟩, ⟨rfl, ⟨rfl, rfl⟩, ⟨rfl, ⟨rfl, rfl⟩, ⟨rfl, ⟨rfl, rfl⟩, ⟨rfl, ⟨rfl, rfl⟩, ⟨rfl, ⟨rfl, rfl⟩, ⟨rfl, ⟨rfl, rfl⟩, ⟨rfl, ⟨rfl, rfl⟩, ⟨rfl, ⟨rfl, rfl⟩, ⟨rfl, ⟨rfl, rfl⟩, ⟨rfl, ⟨rfl, rfl⟩, ⟨rfl, ⟨rfl, rfl⟩, ⟨rfl, ⟨rfl, rfl⟩, ⟨rfl, ⟨rfl, rfl⟩, trivial⟩⟩⟩⟩⟩⟩⟩⟩⟩⟩⟩⟩⟩⟩⟩⟩⟩⟩⟩⟩⟩⟩⟩) rfl dX4_init_52
set_option maxRecDepth 100000 in
theorem cn_105 : CN mi_4 [106, 107, 108, 109, 110, 111, 112, 113, 114, 115, 116, 117, 118, 119, 120, 121, 122, 123, 124, 125, 126, 127] [.ref 105, .ref 7] [(105, xO 4 [.null, .null, .int 0])] (fun M => ZL [105, 106, 107, 108, 109, 110, 111, 112, 113, 114, 115, 116, 117, 118, 119, 120, 121, 122, 123, 124, 125, 126, 127] M) (fun M => M = M0) := by
  refine CN.intro pnf_4 rfl rfl (by decide) (by decide) (fun x X O Nm T => ?_)
  have hN0 : ∀ j, j ∉ [106, 107, 108, 109, 110, 111, 112, 113, 114, 115, 116, 117, 118, 119, 120, 121, 122, 123, 124, 125, 126, 127] → AX x j = AX x j := fun _ _ => rfl
  refine wq_aload_n (pc := 0) X dX4_init_0 rfl rfl ?_
  refine wq_objInit (pc := 1) X kk_126 kk_56 kk_obj rfl (by decide) (by decide) dX4_init_1 ?_
  refine wq_aload_n (pc := 4) X dX4_init_4 rfl rfl ?_
  refine wq_iconst (pc := 5) (v := nI 4) X dX4_init_5 (by decide) ?_
  refine wq_newq (pc := 6) (i := 106) (w := 10) (kc' := 1) (ks' := 4) X O (C := "FileRounds$Listener") (Or.inl ⟨rfl, rfl⟩) kk_127 (by decide +kernel) rfl rfl rfl rfl (by decide) (by decide) dX4_init_6 (fun q1 => ?_)
  have hN1 := adS (q := q1) hN0 (show 106 ∈ [106, 107, 108, 109, 110, 111, 112, 113, 114, 115, 116, 117, 118, 119, 120, 121, 122, 123, 124, 125, 126, 127] by decide)
  refine wq_putF (pc := 9) (q0 := 0) X Nm flpf_4_11 ffpf_4_11 rfl (by decide) (fun _ => rfl) (fun _ => rfl) rfl dX4_init_9 lkpf_4_11 ?_
  refine wq_aload_n (pc := 12) X dX4_init_12 rfl rfl ?_
  refine wq_new (pc := 13) (i := 107) (kc' := 2) (ks' := 16) X nc_4_17 rfl (by decide +kernel) rfl rfl rfl rfl (by decide) (by decide) dX4_init_13 (fun q2 => ?_)
  have hN2 := adS (q := q2) hN1 (show 107 ∈ [106, 107, 108, 109, 110, 111, 112, 113, 114, 115, 116, 117, 118, 119, 120, 121, 122, 123, 124, 125, 126, 127] by decide)
  refine wq_dup (pc := 16) X dX4_init_16 rfl ?_
  refine wq_aload_n (pc := 17) X dX4_init_17 rfl rfl ?_
  refine wq_init (pc := 18) (Zr := [(105, xO 4 [.null, .ref 106, .int 0]), (106, xQ 10 [])]) (st := [.ref 107, .ref 105]) (kc' := 10) (ks' := 76) X O si_4_19 ⟨by decide, by decide⟩ cn_107 rfl (by decide +kernel) rfl rfl rfl rfl rfl (Nat.le_of_ble_eq_true rfl) rfl rfl (by decide) (by decide) dX4_init_18 (fun ad3 M3 hn hm => ?_)
  have hN3 := adN hN2 hn (by decide)
  clear hn
  subst hm
  show WQ x ad3 10 76 [(105, xO 4 [.null, .ref 106, .int 0]), (106, xQ 10 []), (107, xD 107 (M0 107)), (108, xD 108 (M0 108)), (109, xD 109 (M0 109)), (110, xD 110 (M0 110)), (111, xD 111 (M0 111)), (112, xD 112 (M0 112)), (113, xD 113 (M0 113)), (114, xD 114 (M0 114)), (115, xD 115 (M0 115))] 21 [some (.ref 105), some (.ref 7), none] [.ref 107, .ref 105]
  refine wq_putF (pc := 21) (q0 := 0) X Nm flpf_4_22 ffpf_4_22 rfl (by decide) (fun _ => rfl) (fun _ => rfl) rfl dX4_init_21 lkpf_4_22 ?_
  refine wq_iconst (pc := 24) (v := nI 0) X dX4_init_24 (by decide) ?_
  refine wq_istore_n (pc := 25) X dX4_init_25 rfl (by decide) rfl rfl ?_
  refine wq_iload_n (pc := 26) X dX4_init_26 rfl rfl ?_
  refine wq_iconst (pc := 27) (v := nI 4) X dX4_init_27 (by decide) ?_
  refine wq_icmp_ge (pc := 28) (tgt := 52) X dX4_init_28 (by decide) (fun q => absurd q (by decide)) (fun _ => ?_)
  refine wq_aload_n (pc := 31) X dX4_init_31 rfl rfl ?_
  refine wq_get (pc := 32) (q0 := 0) X flpf_4_11 rfl rfl dX4_init_32 ?_
  refine wq_iload_n (pc := 35) X dX4_init_35 rfl rfl ?_
  refine wq_new (pc := 36) (i := 116) (kc' := 11) (ks' := 84) X nc_4_9 rfl (by decide +kernel) rfl rfl rfl rfl (by decide) (by decide) dX4_init_36 (fun q4 => ?_)
  have hN4 := adS (q := q4) hN3 (show 116 ∈ [106, 107, 108, 109, 110, 111, 112, 113, 114, 115, 116, 117, 118, 119, 120, 121, 122, 123, 124, 125, 126, 127] by decide)
  refine wq_dup (pc := 39) X dX4_init_39 rfl ?_
  refine wq_aload_n (pc := 40) X dX4_init_40 rfl rfl ?_
  refine wq_iload_n (pc := 41) X dX4_init_41 rfl rfl ?_
  refine wq_init (pc := 42) (Zr := [(105, xO 4 [.ref 107, .ref 106, .int 0]), (106, xQ 10 []), (107, xD 107 (M0 107)), (108, xD 108 (M0 108)), (109, xD 109 (M0 109)), (110, xD 110 (M0 110)), (111, xD 111 (M0 111)), (112, xD 112 (M0 112)), (113, xD 113 (M0 113)), (114, xD 114 (M0 114)), (115, xD 115 (M0 115))]) (st := [.ref 116, .int (nI 0), .ref 106]) (kc' := 13) (ks' := 96) X O si_4_26 ⟨by decide, by decide⟩ cn_116 rfl (by decide +kernel) rfl rfl rfl rfl rfl (Nat.le_of_ble_eq_true rfl) rfl rfl (by decide) (by decide) dX4_init_42 (fun ad5 M5 hn hm => ?_)
  have hN5 := adN hN4 hn (by decide)
  clear hn
  subst hm
  show WQ x ad5 13 96 [(105, xO 4 [.ref 107, .ref 106, .int 0]), (106, xQ 10 []), (107, xD 107 (M0 107)), (108, xD 108 (M0 108)), (109, xD 109 (M0 109)), (110, xD 110 (M0 110)), (111, xD 111 (M0 111)), (112, xD 112 (M0 112)), (113, xD 113 (M0 113)), (114, xD 114 (M0 114)), (115, xD 115 (M0 115)), (116, xD 116 (M0 116)), (117, xD 117 (M0 117)), (118, xD 118 (M0 118))] 45 [some (.ref 105), some (.ref 7), some (.int (nI 0))] [.ref 116, .int (nI 0), .ref 106]
  refine wq_aast (pc := 45) (q0 := 1) (qk := 11) (gl := []) (w := 10) (ci := 1) X (Or.inl ⟨rfl, rfl⟩) rfl rfl rfl (by decide +kernel) (by decide) (by decide) rfl dX4_init_45 ?_
  refine wq_iinc (pc := 46) (v := nI 1) X dX4_init_46 rfl (by decide) rfl rfl ?_
  refine wq_goto (pc := 49) (tgt := 26) X dX4_init_49 (by decide) ?_
  refine wq_iload_n (pc := 26) X dX4_init_26 rfl rfl ?_
  refine wq_iconst (pc := 27) (v := nI 4) X dX4_init_27 (by decide) ?_
  refine wq_icmp_ge (pc := 28) (tgt := 52) X dX4_init_28 (by decide) (fun q => absurd q (by decide)) (fun _ => ?_)
  refine wq_aload_n (pc := 31) X dX4_init_31 rfl rfl ?_
  refine wq_get (pc := 32) (q0 := 0) X flpf_4_11 rfl rfl dX4_init_32 ?_
  refine wq_iload_n (pc := 35) X dX4_init_35 rfl rfl ?_
  refine wq_new (pc := 36) (i := 119) (kc' := 14) (ks' := 104) X nc_4_9 rfl (by decide +kernel) rfl rfl rfl rfl (by decide) (by decide) dX4_init_36 (fun q6 => ?_)
  have hN6 := adS (q := q6) hN5 (show 119 ∈ [106, 107, 108, 109, 110, 111, 112, 113, 114, 115, 116, 117, 118, 119, 120, 121, 122, 123, 124, 125, 126, 127] by decide)
  refine wq_dup (pc := 39) X dX4_init_39 rfl ?_
  refine wq_aload_n (pc := 40) X dX4_init_40 rfl rfl ?_
  refine wq_iload_n (pc := 41) X dX4_init_41 rfl rfl ?_
  refine wq_init (pc := 42) (Zr := [(105, xO 4 [.ref 107, .ref 106, .int 0]), (106, xQ 10 [116]), (107, xD 107 (M0 107)), (108, xD 108 (M0 108)), (109, xD 109 (M0 109)), (110, xD 110 (M0 110)), (111, xD 111 (M0 111)), (112, xD 112 (M0 112)), (113, xD 113 (M0 113)), (114, xD 114 (M0 114)), (115, xD 115 (M0 115)), (116, xD 116 (M0 116)), (117, xD 117 (M0 117)), (118, xD 118 (M0 118))]) (st := [.ref 119, .int (nI 1), .ref 106]) (kc' := 16) (ks' := 116) X O si_4_26 ⟨by decide, by decide⟩ cn_119 rfl (by decide +kernel) rfl rfl rfl rfl rfl (Nat.le_of_ble_eq_true rfl) rfl rfl (by decide) (by decide) dX4_init_42 (fun ad7 M7 hn hm => ?_)
  have hN7 := adN hN6 hn (by decide)
  clear hn
  subst hm
  show WQ x ad7 16 116 [(105, xO 4 [.ref 107, .ref 106, .int 0]), (106, xQ 10 [116]), (107, xD 107 (M0 107)), (108, xD 108 (M0 108)), (109, xD 109 (M0 109)), (110, xD 110 (M0 110)), (111, xD 111 (M0 111)), (112, xD 112 (M0 112)), (113, xD 113 (M0 113)), (114, xD 114 (M0 114)), (115, xD 115 (M0 115)), (116, xD 116 (M0 116)), (117, xD 117 (M0 117)), (118, xD 118 (M0 118)), (119, xD 119 (M0 119)), (120, xD 120 (M0 120)), (121, xD 121 (M0 121))] 45 [some (.ref 105), some (.ref 7), some (.int (nI 1))] [.ref 119, .int (nI 1), .ref 106]
  refine wq_aast (pc := 45) (q0 := 1) (qk := 14) (gl := [116]) (w := 10) (ci := 1) X (Or.inl ⟨rfl, rfl⟩) rfl rfl rfl (by decide +kernel) (by decide) (by decide) rfl dX4_init_45 ?_
  refine wq_iinc (pc := 46) (v := nI 2) X dX4_init_46 rfl (by decide) rfl rfl ?_
  refine wq_goto (pc := 49) (tgt := 26) X dX4_init_49 (by decide) ?_
  refine wq_iload_n (pc := 26) X dX4_init_26 rfl rfl ?_
  refine wq_iconst (pc := 27) (v := nI 4) X dX4_init_27 (by decide) ?_
  refine wq_icmp_ge (pc := 28) (tgt := 52) X dX4_init_28 (by decide) (fun q => absurd q (by decide)) (fun _ => ?_)
  refine wq_aload_n (pc := 31) X dX4_init_31 rfl rfl ?_
  refine wq_get (pc := 32) (q0 := 0) X flpf_4_11 rfl rfl dX4_init_32 ?_
  refine wq_iload_n (pc := 35) X dX4_init_35 rfl rfl ?_
  refine wq_new (pc := 36) (i := 122) (kc' := 17) (ks' := 124) X nc_4_9 rfl (by decide +kernel) rfl rfl rfl rfl (by decide) (by decide) dX4_init_36 (fun q8 => ?_)
  have hN8 := adS (q := q8) hN7 (show 122 ∈ [106, 107, 108, 109, 110, 111, 112, 113, 114, 115, 116, 117, 118, 119, 120, 121, 122, 123, 124, 125, 126, 127] by decide)
  refine wq_dup (pc := 39) X dX4_init_39 rfl ?_
  refine wq_aload_n (pc := 40) X dX4_init_40 rfl rfl ?_
  refine wq_iload_n (pc := 41) X dX4_init_41 rfl rfl ?_
  refine wq_init (pc := 42) (Zr := [(105, xO 4 [.ref 107, .ref 106, .int 0]), (106, xQ 10 [116, 119]), (107, xD 107 (M0 107)), (108, xD 108 (M0 108)), (109, xD 109 (M0 109)), (110, xD 110 (M0 110)), (111, xD 111 (M0 111)), (112, xD 112 (M0 112)), (113, xD 113 (M0 113)), (114, xD 114 (M0 114)), (115, xD 115 (M0 115)), (116, xD 116 (M0 116)), (117, xD 117 (M0 117)), (118, xD 118 (M0 118)), (119, xD 119 (M0 119)), (120, xD 120 (M0 120)), (121, xD 121 (M0 121))]) (st := [.ref 122, .int (nI 2), .ref 106]) (kc' := 19) (ks' := 136) X O si_4_26 ⟨by decide, by decide⟩ cn_122 rfl (by decide +kernel) rfl rfl rfl rfl rfl (Nat.le_of_ble_eq_true rfl) rfl rfl (by decide) (by decide) dX4_init_42 (fun ad9 M9 hn hm => ?_)
  have hN9 := adN hN8 hn (by decide)
  clear hn
  subst hm
  show WQ x ad9 19 136 [(105, xO 4 [.ref 107, .ref 106, .int 0]), (106, xQ 10 [116, 119]), (107, xD 107 (M0 107)), (108, xD 108 (M0 108)), (109, xD 109 (M0 109)), (110, xD 110 (M0 110)), (111, xD 111 (M0 111)), (112, xD 112 (M0 112)), (113, xD 113 (M0 113)), (114, xD 114 (M0 114)), (115, xD 115 (M0 115)), (116, xD 116 (M0 116)), (117, xD 117 (M0 117)), (118, xD 118 (M0 118)), (119, xD 119 (M0 119)), (120, xD 120 (M0 120)), (121, xD 121 (M0 121)), (122, xD 122 (M0 122)), (123, xD 123 (M0 123)), (124, xD 124 (M0 124))] 45 [some (.ref 105), some (.ref 7), some (.int (nI 2))] [.ref 122, .int (nI 2), .ref 106]
  refine wq_aast (pc := 45) (q0 := 1) (qk := 17) (gl := [116, 119]) (w := 10) (ci := 1) X (Or.inl ⟨rfl, rfl⟩) rfl rfl rfl (by decide +kernel) (by decide) (by decide) rfl dX4_init_45 ?_
  refine wq_iinc (pc := 46) (v := nI 3) X dX4_init_46 rfl (by decide) rfl rfl ?_
  refine wq_goto (pc := 49) (tgt := 26) X dX4_init_49 (by decide) ?_
  refine wq_iload_n (pc := 26) X dX4_init_26 rfl rfl ?_
  refine wq_iconst (pc := 27) (v := nI 4) X dX4_init_27 (by decide) ?_
  refine wq_icmp_ge (pc := 28) (tgt := 52) X dX4_init_28 (by decide) (fun q => absurd q (by decide)) (fun _ => ?_)
  refine wq_aload_n (pc := 31) X dX4_init_31 rfl rfl ?_
  refine wq_get (pc := 32) (q0 := 0) X flpf_4_11 rfl rfl dX4_init_32 ?_
  refine wq_iload_n (pc := 35) X dX4_init_35 rfl rfl ?_
  refine wq_new (pc := 36) (i := 125) (kc' := 20) (ks' := 144) X nc_4_9 rfl (by decide +kernel) rfl rfl rfl rfl (by decide) (by decide) dX4_init_36 (fun q10 => ?_)
  have hN10 := adS (q := q10) hN9 (show 125 ∈ [106, 107, 108, 109, 110, 111, 112, 113, 114, 115, 116, 117, 118, 119, 120, 121, 122, 123, 124, 125, 126, 127] by decide)
  refine wq_dup (pc := 39) X dX4_init_39 rfl ?_
  refine wq_aload_n (pc := 40) X dX4_init_40 rfl rfl ?_
  refine wq_iload_n (pc := 41) X dX4_init_41 rfl rfl ?_
  refine wq_init (pc := 42) (Zr := [(105, xO 4 [.ref 107, .ref 106, .int 0]), (106, xQ 10 [116, 119, 122]), (107, xD 107 (M0 107)), (108, xD 108 (M0 108)), (109, xD 109 (M0 109)), (110, xD 110 (M0 110)), (111, xD 111 (M0 111)), (112, xD 112 (M0 112)), (113, xD 113 (M0 113)), (114, xD 114 (M0 114)), (115, xD 115 (M0 115)), (116, xD 116 (M0 116)), (117, xD 117 (M0 117)), (118, xD 118 (M0 118)), (119, xD 119 (M0 119)), (120, xD 120 (M0 120)), (121, xD 121 (M0 121)), (122, xD 122 (M0 122)), (123, xD 123 (M0 123)), (124, xD 124 (M0 124))]) (st := [.ref 125, .int (nI 3), .ref 106]) (kc' := 22) (ks' := 156) X O si_4_26 ⟨by decide, by decide⟩ cn_125 rfl (by decide +kernel) rfl rfl rfl rfl rfl (Nat.le_of_ble_eq_true rfl) rfl rfl (by decide) (by decide) dX4_init_42 (fun ad11 M11 hn hm => ?_)
  have hN11 := adN hN10 hn (by decide)
  clear hn
  subst hm
  show WQ x ad11 22 156 [(105, xO 4 [.ref 107, .ref 106, .int 0]), (106, xQ 10 [116, 119, 122]), (107, xD 107 (M0 107)), (108, xD 108 (M0 108)), (109, xD 109 (M0 109)), (110, xD 110 (M0 110)), (111, xD 111 (M0 111)), (112, xD 112 (M0 112)), (113, xD 113 (M0 113)), (114, xD 114 (M0 114)), (115, xD 115 (M0 115)), (116, xD 116 (M0 116)), (117, xD 117 (M0 117)), (118, xD 118 (M0 118)), (119, xD 119 (M0 119)), (120, xD 120 (M0 120)), (121, xD 121 (M0 121)), (122, xD 122 (M0 122)), (123, xD 123 (M0 123)), (124, xD 124 (M0 124)), (125, xD 125 (M0 125)), (126, xD 126 (M0 126)), (127, xD 127 (M0 127))] 45 [some (.ref 105), some (.ref 7), some (.int (nI 3))] [.ref 125, .int (nI 3), .ref 106]
  refine wq_aast (pc := 45) (q0 := 1) (qk := 20) (gl := [116, 119, 122]) (w := 10) (ci := 1) X (Or.inl ⟨rfl, rfl⟩) rfl rfl rfl (by decide +kernel) (by decide) (by decide) rfl dX4_init_45 ?_
  refine wq_iinc (pc := 46) (v := nI 4) X dX4_init_46 rfl (by decide) rfl rfl ?_
  refine wq_goto (pc := 49) (tgt := 26) X dX4_init_49 (by decide) ?_
  refine wq_iload_n (pc := 26) X dX4_init_26 rfl rfl ?_
  refine wq_iconst (pc := 27) (v := nI 4) X dX4_init_27 (by decide) ?_
  refine wq_icmp_ge (pc := 28) (tgt := 52) X dX4_init_28 (by decide) (fun _ => ?_) (fun q => absurd (by decide) q)
  exact wq_ret (pc := 52) (M := M0) X T hN11 rfl rfl (⟨rfl, ⟨by decide +kernel, by decide, rfl⟩, ⟨rfl, ⟨by decide +kernel, Or.inl ⟨rfl, rfl⟩⟩, ⟨rfl, ⟨rfl, rfl⟩, ⟨rfl, ⟨rfl, rfl⟩, ⟨rfl, ⟨rfl, rfl⟩, ⟨rfl, ⟨rfl, rfl⟩, ⟨rfl, ⟨rfl, rfl⟩, ⟨rfl, ⟨rfl, rfl⟩, ⟨rfl, ⟨rfl, rfl⟩, ⟨rfl, ⟨rfl, rfl⟩, ⟨rfl, ⟨rfl, rfl⟩, ⟨rfl, ⟨rfl, rfl⟩, ⟨rfl, ⟨rfl, rfl⟩, ⟨rfl, ⟨rfl, rfl⟩, ⟨rfl, ⟨rfl, rfl⟩, ⟨rfl, ⟨rfl, rfl⟩, ⟨rfl, ⟨rfl, rfl⟩, ⟨rfl, ⟨rfl, rfl⟩, ⟨rfl, ⟨rfl, rfl⟩, ⟨rfl, ⟨rfl, rfl⟩, ⟨rfl, ⟨rfl, rfl⟩, ⟨rfl, ⟨rfl, rfl⟩, ⟨rfl, ⟨rfl, rfl⟩, trivial⟩⟩⟩⟩⟩⟩⟩⟩⟩⟩⟩⟩⟩⟩⟩⟩⟩⟩⟩⟩⟩⟩⟩) rfl dX4_init_52
set_option maxRecDepth 100000 in
theorem cn_128 : CN mi_0 [129, 130, 131, 132, 133, 134, 135, 136, 137, 138] [.ref 128, .ref 7] [(128, xO 0 [.null, .null, .null, .int 0, .int 0])] (fun M => ZL [128, 129, 130, 131, 132, 133, 134, 135, 136, 137, 138] M) (fun M => M = M0) := by
  refine CN.intro pnf_0 rfl rfl (by decide) (by decide) (fun x X O Nm T => ?_)
  have hN0 : ∀ j, j ∉ [129, 130, 131, 132, 133, 134, 135, 136, 137, 138] → AX x j = AX x j := fun _ _ => rfl
  refine wq_aload_n (pc := 0) X dX0_init_0 rfl rfl ?_
  refine wq_objInit (pc := 1) X kk_268 kk_56 kk_obj rfl (by decide) (by decide) dX0_init_1 ?_
  refine wq_aload_n (pc := 4) X dX0_init_4 rfl rfl ?_
  refine wq_sipush (pc := 5) (v := nI 499) X dX0_init_5 (by decide) ?_
  refine wq_newI (pc := 8) (i := 129) (kc' := 1) (ks' := 499) X kk_arr (by decide) (by decide +kernel) rfl rfl rfl rfl (by decide) (by decide) dX0_init_8 (fun q1 => ?_)
  have hN1 := adS (q := q1) hN0 (show 129 ∈ [129, 130, 131, 132, 133, 134, 135, 136, 137, 138] by decide)
  refine wq_putF (pc := 10) (q0 := 0) X Nm flpf_0_9 ffpf_0_9 rfl (by decide) (fun _ => rfl) (fun _ => rfl) rfl dX0_init_10 lkpf_0_9 ?_
  refine wq_aload_n (pc := 13) X dX0_init_13 rfl rfl ?_
  refine wq_aload_n (pc := 14) X dX0_init_14 rfl rfl ?_
  refine wq_putF (pc := 15) (q0 := 0) X Nm flpf_0_15 ffpf_0_15 rfl (by decide) (fun _ => rfl) (fun _ => rfl) rfl dX0_init_15 lkpf_0_15 ?_
  refine wq_aload_n (pc := 18) X dX0_init_18 rfl rfl ?_
  refine wq_new (pc := 19) (i := 130) (kc' := 2) (ks' := 511) X nc_0_19 rfl (by decide +kernel) rfl rfl rfl rfl (by decide) (by decide) dX0_init_19 (fun q2 => ?_)
  have hN2 := adS (q := q2) hN1 (show 130 ∈ [129, 130, 131, 132, 133, 134, 135, 136, 137, 138] by decide)
  refine wq_dup (pc := 22) X dX0_init_22 rfl ?_
  refine wq_aload_n (pc := 23) X dX0_init_23 rfl rfl ?_
  refine wq_init (pc := 24) (Zr := [(128, xO 0 [.ref 7, .null, .ref 129, .int 0, .int 0]), (129, xI 499 (fun _ => 0))]) (st := [.ref 130, .ref 128]) (kc' := 10) (ks' := 571) X O si_0_21 ⟨by decide, by decide⟩ cn_130 rfl (by decide +kernel) rfl rfl rfl rfl rfl (Nat.le_of_ble_eq_true rfl) rfl rfl (by decide) (by decide) dX0_init_24 (fun ad3 M3 hn hm => ?_)
  have hN3 := adN hN2 hn (by decide)
  clear hn
  subst hm
  show WQ x ad3 10 571 [(128, xO 0 [.ref 7, .null, .ref 129, .int 0, .int 0]), (129, xI 499 (fun _ => 0)), (130, xD 130 (M0 130)), (131, xD 131 (M0 131)), (132, xD 132 (M0 132)), (133, xD 133 (M0 133)), (134, xD 134 (M0 134)), (135, xD 135 (M0 135)), (136, xD 136 (M0 136)), (137, xD 137 (M0 137)), (138, xD 138 (M0 138))] 27 [some (.ref 128), some (.ref 7)] [.ref 130, .ref 128]
  refine wq_putF (pc := 27) (q0 := 0) X Nm flpf_0_24 ffpf_0_24 rfl (by decide) (fun _ => rfl) (fun _ => rfl) rfl dX0_init_27 lkpf_0_24 ?_
  exact wq_ret (pc := 30) (M := M0) X T hN3 rfl rfl (⟨rfl, ⟨by decide +kernel, by decide, rfl⟩, ⟨rfl, ⟨by decide +kernel, by decide +kernel, (M0_z (by decide +kernel)).symm⟩, ⟨rfl, ⟨rfl, rfl⟩, ⟨rfl, ⟨rfl, rfl⟩, ⟨rfl, ⟨rfl, rfl⟩, ⟨rfl, ⟨rfl, rfl⟩, ⟨rfl, ⟨rfl, rfl⟩, ⟨rfl, ⟨rfl, rfl⟩, ⟨rfl, ⟨rfl, rfl⟩, ⟨rfl, ⟨rfl, rfl⟩, ⟨rfl, ⟨rfl, rfl⟩, trivial⟩⟩⟩⟩⟩⟩⟩⟩⟩⟩⟩) rfl dX0_init_30
