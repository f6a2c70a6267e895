/-! making: the reference -/
def CS (x : CT) (ad : Nat → Nat) (kc ks : Nat) : CT := match x with
  | (p, l, e, R, s, m, args, below, meth, c, A, QQ, D, cs, _, _, _) => (p, l, e, R, s, m, args, below, meth, c, A, QQ, D, cs, ad, kc, ks)
theorem to_wp {x : CT} {L : List Nat} {ad : Nat → Nat} {kc ks pc : Nat} {lo : List (Option Value)} {st : List Value} {M : Mem} (h : WP (CS x ad kc ks) L pc lo st M) : WQ x ad kc ks (ZL L M) pc lo st := by
  obtain ⟨p, l, e, R', s, m, args, below, meth, c, A, QQ, D, cs, ad0, kc0, ks0⟩ := x
  intro H locs ls hP hD hS hl
  rw [WX_ZL] at hP hD
  exact h H locs ls hP hD hS hl
theorem of_wp {x : CT} {L : List Nat} {ad : Nat → Nat} {kc ks pc : Nat} {lo : List (Option Value)} {st : List Value} {M : Mem} (h : WQ x ad kc ks (ZL L M) pc lo st) : WP (CS x ad kc ks) L pc lo st M := by
  obtain ⟨p, l, e, R', s, m, args, below, meth, c, A, QQ, D, cs, ad0, kc0, ks0⟩ := x
  intro H locs ls hP hD hS hl
  rw [← WX_ZL] at hP hD
  exact h H locs ls hP hD hS hl
theorem BS_CS {x : CT} {L : List Nat} {cc : ByteArray} {nL : Nat} {own : String} {R : Room} {ad : Nat → Nat} {kc ks : Nat} (X : BS x [] cc nL own R) (hL : L.Nodup) (h1 : kc ≤ R.cells) (h2 : ks ≤ R.slots) : BS (CS x ad kc ks) L cc nL own R := by
  obtain ⟨p, l, e, R', s, m, args, below, meth, c, A, QQ, D, cs, ad0, kc0, ks0⟩ := x
  obtain ⟨hR, hx, hb, hml, hown, hts, hnw, hlk, hA, hK, hnd, hkc, hks⟩ := X
  exact ⟨hR, hx, hb, hml, hown, hts, hnw, hlk, hA, hK, hL, h1, h2⟩
theorem cvZ_ZL : ∀ (L : List Nat) (M : Mem), cvZ (ZL L M) L M
  | [], _ => trivial
  | _ :: L, M => ⟨rfl, ⟨rfl, rfl⟩, cvZ_ZL L M⟩
theorem wq_cv {x : CT} {L : List Nat} {ad : Nat → Nat} {kc ks pc : Nat} {Z : List (Nat × XE)} {lo : List (Option Value)} {st : List Value} {M : Mem} (h : cvZ Z L M) (k : WQ x ad kc ks (ZL L M) pc lo st) : WQ x ad kc ks Z pc lo st := by
  obtain ⟨p, l, e, R', s, m, args, below, meth, c, A, QQ, D, cs, ad0, kc0, ks0⟩ := x
  intro H locs ls hP hD hS hl
  obtain ⟨hP1, hD1⟩ := cvZ_PD h hP hD
  exact k H locs ls hP1 hD1 hS hl
abbrev L4 : List Nat := [139, 140, 141, 142]
theorem nd4m : L4.Nodup := by decide
theorem am139 : AC L4 139 8 0 := ⟨by decide, by decide +kernel, by decide +kernel⟩
theorem am140 : AC L4 140 9 918 := ⟨by decide, by decide +kernel, by decide +kernel⟩
theorem am142 : AC L4 142 9 20 := ⟨by decide, by decide +kernel, by decide +kernel⟩
def st3 : PT := (3, 5, 12, fun k => if k = 0 then (4, 2, 3) else if k = 1 then (6, 0, 1) else (2, 1, 2))
theorem st3_v : PV st3 := ⟨by decide, by decide, by decide, by decide⟩
def MM : Mem := MU (MU (MU (MU (MU (MU (MU (MU (MU (MU M0 142 0 (nI 3)) 142 (1 + 3 * 0) (nI 4)) 142 (2 + 3 * 0) (nI 2)) 142 (3 + 3 * 0) (nI 3)) 142 (1 + 3 * 1) (nI 6)) 142 (2 + 3 * 1) (nI 0)) 142 (3 + 3 * 1) (nI 1)) 142 (1 + 3 * 2) (nI 2)) 142 (2 + 3 * 2) (nI 1)) 142 (3 + 3 * 2) (nI 2)
def IM (M : Mem) : Prop := M 140 = bgF (fun _ => 0) st3 ∧ M 139 1 = nI 0 ∧ M 139 3 = nI 0
theorem kk_605 : (.methodLink RX8 1 Lib.objectInit : Cond) ∈ wd_G := wd_in 605 (by decide +kernel) rfl
theorem kk_614 : (.fieldLink RX8 7 RX8 "w" "[I" : Cond) ∈ wd_G := wd_in 614 (by decide +kernel) rfl
theorem kk_616 : (.fieldLink RX8 13 RX8 "text" "[I" : Cond) ∈ wd_G := wd_in 616 (by decide +kernel) rfl
theorem kk_618 : (.fieldLink RX8 16 RX8 "laid" "[I" : Cond) ∈ wd_G := wd_in 618 (by decide +kernel) rfl
theorem flpf_8_7 : FL RX8 7 8 0 := ⟨RX8, TX8, 9, rfl, by decide, rfl, in_X8, Or.inl kk_614⟩
theorem ffpf_8_7 : FF RX8 8 0 (tyX8 0) := ⟨RX8, TX8, 9, tyX8, rfl, rfl, rfl, by decide +kernel, tyX8_ok, nmX8⟩
theorem lkpf_8_7 : Cond.fieldLink RX8 7 RX8 ((vwCl.getD 8 ("", fun _ => ("", "", "", false), 0)).2.1 0).2.1 ((vwCl.getD 8 ("", fun _ => ("", "", "", false), 0)).2.1 0).2.2.1 ∈ wd_G := kk_614
theorem flpf_8_13 : FL RX8 13 8 2 := ⟨RX8, TX8, 9, rfl, by decide, rfl, in_X8, Or.inl kk_616⟩
theorem ffpf_8_13 : FF RX8 8 2 (tyX8 2) := ⟨RX8, TX8, 9, tyX8, rfl, rfl, rfl, by decide +kernel, tyX8_ok, nmX8⟩
theorem lkpf_8_13 : Cond.fieldLink RX8 13 RX8 ((vwCl.getD 8 ("", fun _ => ("", "", "", false), 0)).2.1 2).2.1 ((vwCl.getD 8 ("", fun _ => ("", "", "", false), 0)).2.1 2).2.2.1 ∈ wd_G := kk_616
theorem flpf_8_16 : FL RX8 16 8 4 := ⟨RX8, TX8, 9, rfl, by decide, rfl, in_X8, Or.inl kk_618⟩
theorem ffpf_8_16 : FF RX8 8 4 (tyX8 4) := ⟨RX8, TX8, 9, tyX8, rfl, rfl, rfl, by decide +kernel, tyX8_ok, nmX8⟩
theorem lkpf_8_16 : Cond.fieldLink RX8 16 RX8 ((vwCl.getD 8 ("", fun _ => ("", "", "", false), 0)).2.1 4).2.1 ((vwCl.getD 8 ("", fun _ => ("", "", "", false), 0)).2.1 4).2.2.1 ∈ wd_G := kk_618
set_option maxRecDepth 100000 in
theorem cn_139 : CN mi_8 [140, 141, 142] [.ref 139] [(139, xO 8 [.null, .int 0, .null, .int 0, .null, .int 0, .int 0, .int 0, .int 0])] (fun M => ZL L4 M) IM := by
  refine CN.intro pnf_8 rfl rfl (by decide) (by decide) (fun x X O Nm T => ?_)
  have hN0 : ∀ j, j ∉ [140, 141, 142] → AX x j = AX x j := fun _ _ => rfl
  refine wq_aload_n (pc := 0) X dX8_init_0 rfl rfl ?_
  refine wq_objInit (pc := 1) X kk_605 kk_56 kk_obj rfl (by decide) (by decide) dX8_init_1 ?_
  refine wq_aload_n (pc := 4) X dX8_init_4 rfl rfl ?_
  refine wq_sipush (pc := 5) (v := nI 918) X dX8_init_5 (by decide) ?_
  refine wq_newI (pc := 8) (i := 140) (kc' := 1) (ks' := 918) X kk_arr (by decide) (by decide +kernel) rfl rfl rfl rfl (by decide) (by decide) dX8_init_8 (fun q1 => ?_)
  have hN1 := adS (q := q1) hN0 (show 140 ∈ [140, 141, 142] by decide)
  refine wq_putF (pc := 10) (q0 := 0) X Nm flpf_8_7 ffpf_8_7 rfl (by decide) (fun _ => rfl) (fun _ => rfl) rfl dX8_init_10 lkpf_8_7 ?_
  refine wq_aload_n (pc := 13) X dX8_init_13 rfl rfl ?_
  refine wq_sipush (pc := 14) (v := nI 200) X dX8_init_14 (by decide) ?_
  refine wq_newI (pc := 17) (i := 141) (kc' := 2) (ks' := 1118) X kk_arr (by decide) (by decide +kernel) rfl rfl rfl rfl (by decide) (by decide) dX8_init_17 (fun q2 => ?_)
  have hN2 := adS (q := q2) hN1 (show 141 ∈ [140, 141, 142] by decide)
  refine wq_putF (pc := 19) (q0 := 0) X Nm flpf_8_13 ffpf_8_13 rfl (by decide) (fun _ => rfl) (fun _ => rfl) rfl dX8_init_19 lkpf_8_13 ?_
  refine wq_aload_n (pc := 22) X dX8_init_22 rfl rfl ?_
  refine wq_bipush (pc := 23) (v := nI 20) X dX8_init_23 (by decide) ?_
  refine wq_newI (pc := 25) (i := 142) (kc' := 3) (ks' := 1138) X kk_arr (by decide) (by decide +kernel) rfl rfl rfl rfl (by decide) (by decide) dX8_init_25 (fun q3 => ?_)
  have hN3 := adS (q := q3) hN2 (show 142 ∈ [140, 141, 142] by decide)
  refine wq_putF (pc := 27) (q0 := 0) X Nm flpf_8_16 ffpf_8_16 rfl (by decide) (fun _ => rfl) (fun _ => rfl) rfl dX8_init_27 lkpf_8_16 ?_
  refine wq_cv (L := L4) (M := M0) (⟨rfl, ⟨by decide +kernel, by decide, rfl⟩, ⟨rfl, ⟨by decide +kernel, by decide +kernel, (M0_z (by decide +kernel)).symm⟩, ⟨rfl, ⟨by decide +kernel, by decide +kernel, (M0_z (by decide +kernel)).symm⟩, ⟨rfl, ⟨by decide +kernel, by decide +kernel, (M0_z (by decide +kernel)).symm⟩, trivial⟩⟩⟩⟩) ?_
  refine to_wp ?_
  have X1 := BS_CS (L := L4) (kc := 3) (ks := 1138) (ad := sa (sa (sa (AX x) 140 q1) 141 q2) 142 q3) X nd4m (by decide) (by decide)
  refine wp_aload_n (pc := 30) X1 dX8_init_30 rfl rfl ?_
  refine wp_get (pc := 31) X1 fl_X8_16 am139 (by decide) (fg_8_4 am139) dX8_init_31 ?_
  refine wp_iconst (pc := 34) (v := nI 0) X1 dX8_init_34 (by decide) ?_
  refine wp_iconst (pc := 35) (v := nI 3) X1 dX8_init_35 (by decide) ?_
  refine wn_iast (pc := 36) X1 am142 (by decide) (by decide) dX8_init_36 ?_
  refine wp_aload_n (pc := 37) X1 dX8_init_37 rfl rfl ?_
  refine wp_iconst (pc := 38) (v := nI 0) X1 dX8_init_38 (by decide) ?_
  refine wp_iconst (pc := 39) (v := nI 4) X1 dX8_init_39 (by decide) ?_
  refine wp_iconst (pc := 40) (v := nI 2) X1 dX8_init_40 (by decide) ?_
  refine wp_iconst (pc := 41) (v := nI 3) X1 dX8_init_41 (by decide) ?_
  refine wp_invVv (pc := 42) X1 sv_X8_19 am139 (by decide) rfl ⟨by decide, by decide⟩ (As := [.int (nI 0), .int (nI 4), .int (nI 2), .int (nI 3)]) (st := []) rfl rfl (Nat.le_of_ble_eq_true rfl) dX8_init_42 ?_
  refine c_laysFile nd4m am139 am142 (n := 0) (by decide) ?_
  refine wp_aload_n (pc := 45) X1 dX8_init_45 rfl rfl ?_
  refine wp_iconst (pc := 46) (v := nI 1) X1 dX8_init_46 (by decide) ?_
  refine wp_bipush (pc := 47) (v := nI 6) X1 dX8_init_47 (by decide) ?_
  refine wp_iconst (pc := 49) (v := nI 0) X1 dX8_init_49 (by decide) ?_
  refine wp_iconst (pc := 50) (v := nI 1) X1 dX8_init_50 (by decide) ?_
  refine wp_invVv (pc := 51) X1 sv_X8_19 am139 (by decide) rfl ⟨by decide, by decide⟩ (As := [.int (nI 1), .int (nI 6), .int (nI 0), .int (nI 1)]) (st := []) rfl rfl (Nat.le_of_ble_eq_true rfl) dX8_init_51 ?_
  refine c_laysFile nd4m am139 am142 (n := 1) (by decide) ?_
  refine wp_aload_n (pc := 54) X1 dX8_init_54 rfl rfl ?_
  refine wp_iconst (pc := 55) (v := nI 2) X1 dX8_init_55 (by decide) ?_
  refine wp_iconst (pc := 56) (v := nI 2) X1 dX8_init_56 (by decide) ?_
  refine wp_iconst (pc := 57) (v := nI 1) X1 dX8_init_57 (by decide) ?_
  refine wp_iconst (pc := 58) (v := nI 2) X1 dX8_init_58 (by decide) ?_
  refine wp_invVv (pc := 59) X1 sv_X8_19 am139 (by decide) rfl ⟨by decide, by decide⟩ (As := [.int (nI 2), .int (nI 2), .int (nI 1), .int (nI 2)]) (st := []) rfl rfl (Nat.le_of_ble_eq_true rfl) dX8_init_59 ?_
  refine c_laysFile nd4m am139 am142 (n := 2) (by decide) ?_
  show WP _ L4 62 [some (.ref 139)] [] MM
  refine wp_aload_n (pc := 62) X1 dX8_init_62 rfl rfl ?_
  refine wp_iconst (pc := 63) (v := nI 5) X1 dX8_init_63 (by decide) ?_
  refine wp_bipush (pc := 64) (v := nI 12) X1 dX8_init_64 (by decide) ?_
  refine wp_invVv (pc := 66) X1 sv_X8_23 am139 (by decide) rfl ⟨by decide, by decide⟩ (As := [.int (nI 5), .int (nI 12)]) (st := []) rfl rfl (Nat.le_of_ble_eq_true rfl) dX8_init_66 ?_
  refine c_begins (st := st3) nd4m am139 am142 am140 rfl (by decide) (fun k hk => ?_) ?_
  · have : k = 0 ∨ k = 1 ∨ k = 2 := by have : k < 3 := hk; omega
    rcases this with rfl | rfl | rfl <;> exact ⟨rfl, rfl, rfl⟩
  · refine of_wp ?_
    refine wq_ret (pc := 69) X T hN3 rfl rfl (cvZ_ZL _ _) ⟨?_, ?_, ?_⟩ dX8_init_69
    · rw [MR_ne (by decide), MR_at, show MM 140 = fun _ => 0 from M0_z (j := 140) (by decide +kernel)]
    · rw [MR_at, upd_at]
    · rw [MR_at, upd_ne (by decide)]; rfl
