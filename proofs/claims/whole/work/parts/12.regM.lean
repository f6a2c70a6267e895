theorem r_X8_within_0 {x : CT} {L : List Nat} {Q : Int32 → Mem → Prop} {M : Mem}  {a0 a1 a2 : Int32} (X : BS x L cX8_within 3 RX8 (m_X8_within).2.2.2.2) (T : RT x L (some .boolean) Q) 
    (h : (a0 < a1 → Q (nI 0) M) ∧ (¬ a0 < a1 → (a2 < a0 → Q (nI 0) M) ∧ (¬ a2 < a0 → Q (nI 1) M))) : WP x L 0 [some (.int a0), some (.int a1), some (.int a2)] [] M := by
  refine wp_iload_n (pc := 0) X dX8_within_0 rfl rfl ?_
  refine wp_iload_n (pc := 1) X dX8_within_1 rfl rfl ?_
  refine wp_icmp_lt (pc := 2) (tgt := 14) X dX8_within_2 (by decide) (fun hc => ?_) (fun hc => ?_)
  · replace h := h.1 hc
    refine wp_iconst (pc := 14) (v := nI 0) X dX8_within_14 (by decide) ?_
    exact wp_zret (pc := 15) X T (by decide) dX8_within_15 h
  · replace h := h.2 hc
    refine wp_iload_n (pc := 5) X dX8_within_5 rfl rfl ?_
    refine wp_iload_n (pc := 6) X dX8_within_6 rfl rfl ?_
    refine wp_icmp_gt (pc := 7) (tgt := 14) X dX8_within_7 (by decide) (fun hc => ?_) (fun hc => ?_)
    · replace h := h.1 hc
      refine wp_iconst (pc := 14) (v := nI 0) X dX8_within_14 (by decide) ?_
      exact wp_zret (pc := 15) X T (by decide) dX8_within_15 h
    · replace h := h.2 hc
      refine wp_iconst (pc := 10) (v := nI 1) X dX8_within_10 (by decide) ?_
      refine wp_goto (pc := 11) (tgt := 15) X dX8_within_11 (by decide) ?_
      exact wp_zret (pc := 15) X T (by decide) dX8_within_15 h
theorem r_X8_ones_0 {x : CT} {L : List Nat} {Q : Int32 → Mem → Prop} {M : Mem}  {a0 : Int32} (X : BS x L cX8_ones 3 RX8 (m_X8_ones).2.2.2.2) (T : RT x L (some .int) Q) 
    (h : WP x L 4 [some (.int a0), some (.int (nI 0)), some (.int (nI 0))] [] M) : WP x L 0 [some (.int a0), none, none] [] M := by
  refine wp_iconst (pc := 0) (v := nI 0) X dX8_ones_0 (by decide) ?_
  refine wp_istore_n (pc := 1) (lo' := [some (.int a0), some (.int (nI 0)), none]) X dX8_ones_1 rfl (Nat.le_of_ble_eq_true rfl) rfl rfl ?_
  refine wp_iconst (pc := 2) (v := nI 0) X dX8_ones_2 (by decide) ?_
  refine wp_istore_n (pc := 3) (lo' := [some (.int a0), some (.int (nI 0)), some (.int (nI 0))]) X dX8_ones_3 rfl (Nat.le_of_ble_eq_true rfl) rfl rfl ?_
  exact h
theorem r_X8_ones_4 {x : CT} {L : List Nat} {Q : Int32 → Mem → Prop} {M : Mem}  {a0 a1 : Int32} {k : Nat} (X : BS x L cX8_ones 3 RX8 (m_X8_ones).2.2.2.2) (T : RT x L (some .int) Q) 
    (h : k < 2 ^ 31 ∧ (18 ≤ k → Q a1 M) ∧ (k < 18 → WP x L 4 [some (.int a0), some (.int (a1 + ((a0 >>> ((nI k) &&& 31)) &&& (nI 1)))), some (.int (nI (k + 1)))] [] M)) : WP x L 4 [some (.int a0), some (.int a1), some (.int (nI k))] [] M := by
  refine wp_iload_n (pc := 4) X dX8_ones_4 rfl rfl ?_
  refine wp_bipush (pc := 5) (v := nI 18) X dX8_ones_5 (by decide) ?_
  obtain ⟨hb1, h⟩ := h
  refine wn_icmp_ge (pc := 7) (tgt := 24) X dX8_ones_7 (by decide) hb1 (by decide) (fun hc => ?_) (fun hc => ?_)
  · replace h := h.1 hc
    refine wp_iload_n (pc := 24) X dX8_ones_24 rfl rfl ?_
    exact wp_iret (pc := 25) X T dX8_ones_25 h
  · replace h := h.2 hc
    refine wp_iload_n (pc := 10) X dX8_ones_10 rfl rfl ?_
    refine wp_iload_n (pc := 11) X dX8_ones_11 rfl rfl ?_
    refine wp_iload_n (pc := 12) X dX8_ones_12 rfl rfl ?_
    refine wp_ishr (pc := 13) X dX8_ones_13 ?_
    refine wp_iconst (pc := 14) (v := nI 1) X dX8_ones_14 (by decide) ?_
    refine wp_iand (pc := 15) X dX8_ones_15 ?_
    refine wp_iadd (pc := 16) X dX8_ones_16 ?_
    refine wp_istore_n (pc := 17) (lo' := [some (.int a0), some (.int (a1 + ((a0 >>> ((nI k) &&& 31)) &&& (nI 1)))), some (.int (nI k))]) X dX8_ones_17 rfl (Nat.le_of_ble_eq_true rfl) rfl rfl ?_
    refine wn_iinc (pc := 18) (d := 1) (lo' := [some (.int a0), some (.int (a1 + ((a0 >>> ((nI k) &&& 31)) &&& (nI 1)))), some (.int (nI (k + 1)))]) X dX8_ones_18 rfl (by decide) rfl rfl ?_
    refine wp_goto (pc := 21) (tgt := 4) X dX8_ones_21 (by decide) ?_
    exact h
theorem r_X8_laysFile_0 {x : CT} {L : List Nat} {Q : Int32 → Mem → Prop} {M : Mem}  {a1 : Nat} {a2 a3 a4 : Int32} (X : BS x L cX8_laysFile 5 RX8 (m_X8_laysFile).2.2.2.2) (T : RT x L none Q) (A_139 : AC L 139 8 0) (A_142 : AC L 142 9 20)
    (h : (1 + (3 * a1)) < 20 ∧ (2 + (3 * a1)) < 20 ∧ (3 + (3 * a1)) < 20 ∧ Q 0 (MU (MU (MU M 142 (1 + (3 * a1)) a2) 142 (2 + (3 * a1)) a3) 142 (3 + (3 * a1)) a4)) : WP x L 0 [some (.ref 139), some (.int (nI a1)), some (.int a2), some (.int a3), some (.int a4)] [] M := by
  refine wp_aload_n (pc := 0) X dX8_laysFile_0 rfl rfl ?_
  refine wp_get (pc := 1) X fl_X8_16 A_139 (by decide) (fg_8_4 A_139) dX8_laysFile_1 ?_
  refine wp_iconst (pc := 4) (v := nI 1) X dX8_laysFile_4 (by decide) ?_
  refine wp_iconst (pc := 5) (v := nI 3) X dX8_laysFile_5 (by decide) ?_
  refine wp_iload_n (pc := 6) X dX8_laysFile_6 rfl rfl ?_
  refine wn_imul (pc := 7) X dX8_laysFile_7 ?_
  refine wn_iadd (pc := 8) X dX8_laysFile_8 ?_
  refine wp_iload_n (pc := 9) X dX8_laysFile_9 rfl rfl ?_
  obtain ⟨hj1, h⟩ := h
  refine wn_iast (pc := 10) X A_142 hj1 (by decide) dX8_laysFile_10 ?_
  refine wp_aload_n (pc := 11) X dX8_laysFile_11 rfl rfl ?_
  refine wp_get (pc := 12) X fl_X8_16 A_139 (by decide) (fg_8_4 A_139) dX8_laysFile_12 ?_
  refine wp_iconst (pc := 15) (v := nI 2) X dX8_laysFile_15 (by decide) ?_
  refine wp_iconst (pc := 16) (v := nI 3) X dX8_laysFile_16 (by decide) ?_
  refine wp_iload_n (pc := 17) X dX8_laysFile_17 rfl rfl ?_
  refine wn_imul (pc := 18) X dX8_laysFile_18 ?_
  refine wn_iadd (pc := 19) X dX8_laysFile_19 ?_
  refine wp_iload_n (pc := 20) X dX8_laysFile_20 rfl rfl ?_
  obtain ⟨hj2, h⟩ := h
  refine wn_iast (pc := 21) X A_142 hj2 (by decide) dX8_laysFile_21 ?_
  refine wp_aload_n (pc := 22) X dX8_laysFile_22 rfl rfl ?_
  refine wp_get (pc := 23) X fl_X8_16 A_139 (by decide) (fg_8_4 A_139) dX8_laysFile_23 ?_
  refine wp_iconst (pc := 26) (v := nI 3) X dX8_laysFile_26 (by decide) ?_
  refine wp_iconst (pc := 27) (v := nI 3) X dX8_laysFile_27 (by decide) ?_
  refine wp_iload_n (pc := 28) X dX8_laysFile_28 rfl rfl ?_
  refine wn_imul (pc := 29) X dX8_laysFile_29 ?_
  refine wn_iadd (pc := 30) X dX8_laysFile_30 ?_
  refine wp_iload (pc := 31) X dX8_laysFile_31 rfl ?_
  obtain ⟨hj3, h⟩ := h
  refine wn_iast (pc := 33) X A_142 hj3 (by decide) dX8_laysFile_33 ?_
  exact wp_ret (pc := 34) X T dX8_laysFile_34 h
theorem r_X8_begins_0 {x : CT} {L : List Nat} {Q : Int32 → Mem → Prop} {M : Mem}  {a1 a2 : Int32} (X : BS x L cX8_begins 4 RX8 (m_X8_begins).2.2.2.2) (T : RT x L none Q) 
    (h : WP x L 2 [some (.ref 139), some (.int a1), some (.int a2), some (.int (nI 0))] [] M) : WP x L 0 [some (.ref 139), some (.int a1), some (.int a2), none] [] M := by
  refine wp_iconst (pc := 0) (v := nI 0) X dX8_begins_0 (by decide) ?_
  refine wp_istore_n (pc := 1) (lo' := [some (.ref 139), some (.int a1), some (.int a2), some (.int (nI 0))]) X dX8_begins_1 rfl (Nat.le_of_ble_eq_true rfl) rfl rfl ?_
  exact h
theorem r_X8_begins_2 {x : CT} {L : List Nat} {Q : Int32 → Mem → Prop} {M : Mem}  {a1 a2 : Int32} {k : Nat} (X : BS x L cX8_begins 4 RX8 (m_X8_begins).2.2.2.2) (T : RT x L none Q) (A_139 : AC L 139 8 0) (A_142 : AC L 142 9 20) (A_140 : AC L 140 9 918)
    (h : k < 2 ^ 31 ∧ (153 ≤ k → WP x L 37 [some (.ref 139), some (.int a1), some (.int a2), some (.int (nI 0))] [] (MU M 140 42 (M 142 0))) ∧ (k < 153 → k < 918 ∧ WP x L 2 [some (.ref 139), some (.int a1), some (.int a2), some (.int (nI (k + 1)))] [] (MU M 140 k (nI 0)))) : WP x L 2 [some (.ref 139), some (.int a1), some (.int a2), some (.int (nI k))] [] M := by
  refine wp_iload_n (pc := 2) X dX8_begins_2 rfl rfl ?_
  refine wp_sipush (pc := 3) (v := nI 153) X dX8_begins_3 (by decide) ?_
  obtain ⟨hb2, h⟩ := h
  refine wn_icmp_ge (pc := 6) (tgt := 22) X dX8_begins_6 (by decide) hb2 (by decide) (fun hc => ?_) (fun hc => ?_)
  · replace h := h.1 hc
    refine wp_aload_n (pc := 22) X dX8_begins_22 rfl rfl ?_
    refine wp_get (pc := 23) X fl_X8_7 A_139 (by decide) (fg_8_0 A_139) dX8_begins_23 ?_
    refine wp_bipush (pc := 26) (v := nI 42) X dX8_begins_26 (by decide) ?_
    refine wp_aload_n (pc := 28) X dX8_begins_28 rfl rfl ?_
    refine wp_get (pc := 29) X fl_X8_16 A_139 (by decide) (fg_8_4 A_139) dX8_begins_29 ?_
    refine wp_iconst (pc := 32) (v := nI 0) X dX8_begins_32 (by decide) ?_
    refine wn_iald (pc := 33) X A_142 (by decide) (by decide) dX8_begins_33 ?_
    refine wn_iast (pc := 34) X A_140 (by decide) (by decide) dX8_begins_34 ?_
    refine wp_iconst (pc := 35) (v := nI 0) X dX8_begins_35 (by decide) ?_
    refine wp_istore_n (pc := 36) (lo' := [some (.ref 139), some (.int a1), some (.int a2), some (.int (nI 0))]) X dX8_begins_36 rfl (Nat.le_of_ble_eq_true rfl) rfl rfl ?_
    exact h
  · replace h := h.2 hc
    refine wp_aload_n (pc := 9) X dX8_begins_9 rfl rfl ?_
    refine wp_get (pc := 10) X fl_X8_7 A_139 (by decide) (fg_8_0 A_139) dX8_begins_10 ?_
    refine wp_iload_n (pc := 13) X dX8_begins_13 rfl rfl ?_
    refine wp_iconst (pc := 14) (v := nI 0) X dX8_begins_14 (by decide) ?_
    obtain ⟨hj1, h⟩ := h
    refine wn_iast (pc := 15) X A_140 hj1 (by decide) dX8_begins_15 ?_
    refine wn_iinc (pc := 16) (d := 1) (lo' := [some (.ref 139), some (.int a1), some (.int a2), some (.int (nI (k + 1)))]) X dX8_begins_16 rfl (by decide) rfl rfl ?_
    refine wp_goto (pc := 19) (tgt := 2) X dX8_begins_19 (by decide) ?_
    exact h
theorem r_X8_begins_37 {x : CT} {L : List Nat} {Q : Int32 → Mem → Prop} {M : Mem}  {a1 a2 : Int32} {k : Nat} (X : BS x L cX8_begins 4 RX8 (m_X8_begins).2.2.2.2) (T : RT x L none Q) (A_139 : AC L 139 8 0) (A_142 : AC L 142 9 20) (A_140 : AC L 140 9 918)
    (h : ∃ v1 : Nat, M 142 0 = nI v1 ∧ k < 2 ^ 31 ∧ v1 < 2 ^ 31 ∧ (v1 ≤ k → Q 0 (MU (MU (MU M 140 43 a1) 140 44 a2) 139 1 (nI 0))) ∧ (k < v1 → (1 + (3 * k)) < 20 ∧ (0 + k) < 918 ∧ (2 + (3 * k)) < 20 ∧ (6 + k) < 918 ∧ (3 + (3 * k)) < 20 ∧ (12 + k) < 918 ∧ WP x L 37 [some (.ref 139), some (.int a1), some (.int a2), some (.int (nI (k + 1)))] [] (MU (MU (MU M 140 (0 + k) (M 142 (1 + (3 * k)))) 140 (6 + k) ((MU M 140 (0 + k) (M 142 (1 + (3 * k)))) 142 (2 + (3 * k)))) 140 (12 + k) ((MU (MU M 140 (0 + k) (M 142 (1 + (3 * k)))) 140 (6 + k) ((MU M 140 (0 + k) (M 142 (1 + (3 * k)))) 142 (2 + (3 * k)))) 142 (3 + (3 * k)))))) : WP x L 37 [some (.ref 139), some (.int a1), some (.int a2), some (.int (nI k))] [] M := by
  refine wp_iload_n (pc := 37) X dX8_begins_37 rfl rfl ?_
  refine wp_aload_n (pc := 38) X dX8_begins_38 rfl rfl ?_
  refine wp_get (pc := 39) X fl_X8_16 A_139 (by decide) (fg_8_4 A_139) dX8_begins_39 ?_
  refine wp_iconst (pc := 42) (v := nI 0) X dX8_begins_42 (by decide) ?_
  obtain ⟨v1, he2, h⟩ := h
  refine we_iald (pc := 43) X A_142 (by decide) (by decide) he2 dX8_begins_43 ?_
  obtain ⟨hb9, hb10, h⟩ := h
  refine wn_icmp_ge (pc := 44) (tgt := 109) X dX8_begins_44 (by decide) hb9 hb10 (fun hc => ?_) (fun hc => ?_)
  · replace h := h.1 hc
    refine wp_aload_n (pc := 109) X dX8_begins_109 rfl rfl ?_
    refine wp_get (pc := 110) X fl_X8_7 A_139 (by decide) (fg_8_0 A_139) dX8_begins_110 ?_
    refine wp_bipush (pc := 113) (v := nI 43) X dX8_begins_113 (by decide) ?_
    refine wp_iload_n (pc := 115) X dX8_begins_115 rfl rfl ?_
    refine wn_iast (pc := 116) X A_140 (by decide) (by decide) dX8_begins_116 ?_
    refine wp_aload_n (pc := 117) X dX8_begins_117 rfl rfl ?_
    refine wp_get (pc := 118) X fl_X8_7 A_139 (by decide) (fg_8_0 A_139) dX8_begins_118 ?_
    refine wp_bipush (pc := 121) (v := nI 44) X dX8_begins_121 (by decide) ?_
    refine wp_iload_n (pc := 123) X dX8_begins_123 rfl rfl ?_
    refine wn_iast (pc := 124) X A_140 (by decide) (by decide) dX8_begins_124 ?_
    refine wp_aload_n (pc := 125) X dX8_begins_125 rfl rfl ?_
    refine wp_iconst (pc := 126) (v := nI 0) X dX8_begins_126 (by decide) ?_
    refine wp_put (pc := 127) X fl_X8_27 fp_8_1 A_139 (by decide) (fk_8_1 A_139) (fs_8_1 A_139 _) dX8_begins_127 ?_
    exact wp_ret (pc := 130) X T dX8_begins_130 h
  · replace h := h.2 hc
    refine wp_aload_n (pc := 47) X dX8_begins_47 rfl rfl ?_
    refine wp_get (pc := 48) X fl_X8_7 A_139 (by decide) (fg_8_0 A_139) dX8_begins_48 ?_
    refine wp_iconst (pc := 51) (v := nI 0) X dX8_begins_51 (by decide) ?_
    refine wp_iload_n (pc := 52) X dX8_begins_52 rfl rfl ?_
    refine wn_iadd (pc := 53) X dX8_begins_53 ?_
    refine wp_aload_n (pc := 54) X dX8_begins_54 rfl rfl ?_
    refine wp_get (pc := 55) X fl_X8_16 A_139 (by decide) (fg_8_4 A_139) dX8_begins_55 ?_
    refine wp_iconst (pc := 58) (v := nI 1) X dX8_begins_58 (by decide) ?_
    refine wp_iconst (pc := 59) (v := nI 3) X dX8_begins_59 (by decide) ?_
    refine wp_iload_n (pc := 60) X dX8_begins_60 rfl rfl ?_
    refine wn_imul (pc := 61) X dX8_begins_61 ?_
    refine wn_iadd (pc := 62) X dX8_begins_62 ?_
    obtain ⟨hj3, h⟩ := h
    refine wn_iald (pc := 63) X A_142 hj3 (by decide) dX8_begins_63 ?_
    obtain ⟨hj4, h⟩ := h
    refine wn_iast (pc := 64) X A_140 hj4 (by decide) dX8_begins_64 ?_
    refine wp_aload_n (pc := 65) X dX8_begins_65 rfl rfl ?_
    refine wp_get (pc := 66) X fl_X8_7 A_139 (by decide) (fg_8_0 A_139) dX8_begins_66 ?_
    refine wp_bipush (pc := 69) (v := nI 6) X dX8_begins_69 (by decide) ?_
    refine wp_iload_n (pc := 71) X dX8_begins_71 rfl rfl ?_
    refine wn_iadd (pc := 72) X dX8_begins_72 ?_
    refine wp_aload_n (pc := 73) X dX8_begins_73 rfl rfl ?_
    refine wp_get (pc := 74) X fl_X8_16 A_139 (by decide) (fg_8_4 A_139) dX8_begins_74 ?_
    refine wp_iconst (pc := 77) (v := nI 2) X dX8_begins_77 (by decide) ?_
    refine wp_iconst (pc := 78) (v := nI 3) X dX8_begins_78 (by decide) ?_
    refine wp_iload_n (pc := 79) X dX8_begins_79 rfl rfl ?_
    refine wn_imul (pc := 80) X dX8_begins_80 ?_
    refine wn_iadd (pc := 81) X dX8_begins_81 ?_
    obtain ⟨hj5, h⟩ := h
    refine wn_iald (pc := 82) X A_142 hj5 (by decide) dX8_begins_82 ?_
    obtain ⟨hj6, h⟩ := h
    refine wn_iast (pc := 83) X A_140 hj6 (by decide) dX8_begins_83 ?_
    refine wp_aload_n (pc := 84) X dX8_begins_84 rfl rfl ?_
    refine wp_get (pc := 85) X fl_X8_7 A_139 (by decide) (fg_8_0 A_139) dX8_begins_85 ?_
    refine wp_bipush (pc := 88) (v := nI 12) X dX8_begins_88 (by decide) ?_
    refine wp_iload_n (pc := 90) X dX8_begins_90 rfl rfl ?_
    refine wn_iadd (pc := 91) X dX8_begins_91 ?_
    refine wp_aload_n (pc := 92) X dX8_begins_92 rfl rfl ?_
    refine wp_get (pc := 93) X fl_X8_16 A_139 (by decide) (fg_8_4 A_139) dX8_begins_93 ?_
    refine wp_iconst (pc := 96) (v := nI 3) X dX8_begins_96 (by decide) ?_
    refine wp_iconst (pc := 97) (v := nI 3) X dX8_begins_97 (by decide) ?_
    refine wp_iload_n (pc := 98) X dX8_begins_98 rfl rfl ?_
    refine wn_imul (pc := 99) X dX8_begins_99 ?_
    refine wn_iadd (pc := 100) X dX8_begins_100 ?_
    obtain ⟨hj7, h⟩ := h
    refine wn_iald (pc := 101) X A_142 hj7 (by decide) dX8_begins_101 ?_
    obtain ⟨hj8, h⟩ := h
    refine wn_iast (pc := 102) X A_140 hj8 (by decide) dX8_begins_102 ?_
    refine wn_iinc (pc := 103) (d := 1) (lo' := [some (.ref 139), some (.int a1), some (.int a2), some (.int (nI (k + 1)))]) X dX8_begins_103 rfl (by decide) rfl rfl ?_
    refine wp_goto (pc := 106) (tgt := 37) X dX8_begins_106 (by decide) ?_
    exact h
theorem r_X8_write_0 {x : CT} {L : List Nat} {Q : Int32 → Mem → Prop} {M : Mem}  {a1 : Int32} (X : BS x L cX8_write 2 RX8 (m_X8_write).2.2.2.2) (T : RT x L (some .int) Q) (A_139 : AC L 139 8 0) (A_141 : AC L 141 9 200)
    (h : CM m_X8_within L [.int a1, .int (nI 32), .int (nI 126)] M (fun r2 M1 => (¬ r2 = 0 → ∃ v3 : Nat, M1 139 3 = nI v3 ∧ v3 < 2 ^ 31 ∧ (¬ v3 = 200 → ∃ v5 : Nat, M1 139 3 = nI v5 ∧ v5 < 200 ∧ ∃ v8 : Nat, (MU M1 141 v5 a1) 139 3 = nI v8 ∧ ∃ v10 : Nat, (MU (MU M1 141 v5 a1) 139 3 (nI (v8 + 1))) 139 3 = nI v10 ∧ Q (nI v10) (MU (MU M1 141 v5 a1) 139 3 (nI (v8 + 1)))) ∧ (v3 = 200 → Q (-3) M1)) ∧ (r2 = 0 → Q (-1) M1))) : WP x L 0 [some (.ref 139), some (.int a1)] [] M := by
  refine wp_iload_n (pc := 0) X dX8_write_0 rfl rfl ?_
  refine wp_bipush (pc := 1) (v := nI 32) X dX8_write_1 (by decide) ?_
  refine wp_bipush (pc := 3) (v := nI 126) X dX8_write_3 (by decide) ?_
  refine wp_invS (pc := 5) X sv_X8_31  rfl ⟨by decide, by decide⟩ (As := [.int a1, .int (nI 32), .int (nI 126)]) (st := []) rfl rfl (Nat.le_of_ble_eq_true rfl) dX8_write_5 ?_
  refine CM.mono h (fun r2 M1 h => ?_)
  refine wp_if_ne (pc := 8) (tgt := 13) X dX8_write_8 (by decide) (fun hc => ?_) (fun hc => ?_)
  · replace h := h.1 hc
    refine wp_aload_n (pc := 13) X dX8_write_13 rfl rfl ?_
    obtain ⟨v3, he4, h⟩ := h
    refine we_get (pc := 14) X fl_X8_35 A_139 (by decide) (fg_8_3 A_139) he4 dX8_write_14 ?_
    refine wp_sipush (pc := 17) (v := nI 200) X dX8_write_17 (by decide) ?_
    obtain ⟨hb12, h⟩ := h
    refine wn_icmp_ne (pc := 20) (tgt := 26) X dX8_write_20 (by decide) hb12 (by decide) (fun hc => ?_) (fun hc => ?_)
    · replace h := h.1 hc
      refine wp_aload_n (pc := 26) X dX8_write_26 rfl rfl ?_
      refine wp_get (pc := 27) X fl_X8_13 A_139 (by decide) (fg_8_2 A_139) dX8_write_27 ?_
      refine wp_aload_n (pc := 30) X dX8_write_30 rfl rfl ?_
      obtain ⟨v5, he6, h⟩ := h
      refine we_get (pc := 31) X fl_X8_35 A_139 (by decide) (fg_8_3 A_139) he6 dX8_write_31 ?_
      refine wp_iload_n (pc := 34) X dX8_write_34 rfl rfl ?_
      obtain ⟨hj7, h⟩ := h
      refine wn_iast (pc := 35) X A_141 hj7 (by decide) dX8_write_35 ?_
      refine wp_aload_n (pc := 36) X dX8_write_36 rfl rfl ?_
      refine wp_dup (pc := 37) X dX8_write_37 rfl ?_
      obtain ⟨v8, he9, h⟩ := h
      refine we_get (pc := 38) X fl_X8_35 A_139 (by decide) (fg_8_3 A_139) he9 dX8_write_38 ?_
      refine wp_iconst (pc := 41) (v := nI 1) X dX8_write_41 (by decide) ?_
      refine wn_iadd (pc := 42) X dX8_write_42 ?_
      refine wp_put (pc := 43) X fl_X8_35 fp_8_3 A_139 (by decide) (fk_8_3 A_139) (fs_8_3 A_139 _) dX8_write_43 ?_
      refine wp_aload_n (pc := 46) X dX8_write_46 rfl rfl ?_
      obtain ⟨v10, he11, h⟩ := h
      refine we_get (pc := 47) X fl_X8_35 A_139 (by decide) (fg_8_3 A_139) he11 dX8_write_47 ?_
      exact wp_iret (pc := 50) X T dX8_write_50 h
    · replace h := h.2 hc
      refine wp_bipush (pc := 23) (v := (-3)) X dX8_write_23 (by decide) ?_
      exact wp_iret (pc := 25) X T dX8_write_25 h
  · replace h := h.2 hc
    refine wp_iconst (pc := 11) (v := (-1)) X dX8_write_11 (by decide) ?_
    exact wp_iret (pc := 12) X T dX8_write_12 h
theorem r_X8_wipe_0 {x : CT} {L : List Nat} {Q : Int32 → Mem → Prop} {M : Mem}  (X : BS x L cX8_wipe 2 RX8 (m_X8_wipe).2.2.2.2) (T : RT x L (some .int) Q) (A_139 : AC L 139 8 0)
    (h : Q (M 139 3) (MU M 139 3 (nI 0))) : WP x L 0 [some (.ref 139), none] [] M := by
  refine wp_aload_n (pc := 0) X dX8_wipe_0 rfl rfl ?_
  refine wp_get (pc := 1) X fl_X8_35 A_139 (by decide) (fg_8_3 A_139) dX8_wipe_1 ?_
  refine wp_istore_n (pc := 4) (lo' := [some (.ref 139), some (.int (M 139 3))]) X dX8_wipe_4 rfl (Nat.le_of_ble_eq_true rfl) rfl rfl ?_
  refine wp_aload_n (pc := 5) X dX8_wipe_5 rfl rfl ?_
  refine wp_iconst (pc := 6) (v := nI 0) X dX8_wipe_6 (by decide) ?_
  refine wp_put (pc := 7) X fl_X8_35 fp_8_3 A_139 (by decide) (fk_8_3 A_139) (fs_8_3 A_139 _) dX8_wipe_7 ?_
  refine wp_iload_n (pc := 10) X dX8_wipe_10 rfl rfl ?_
  exact wp_iret (pc := 11) X T dX8_wipe_11 h
theorem r_X8_here_0 {x : CT} {L : List Nat} {Q : Int32 → Mem → Prop} {M : Mem}  (X : BS x L cX8_here 1 RX8 (m_X8_here).2.2.2.2) (T : RT x L (some .int) Q) (A_139 : AC L 139 8 0) (A_141 : AC L 141 9 200)
    (h : ∃ v1 : Nat, M 139 5 = nI v1 ∧ ∃ v3 : Nat, M 139 3 = nI v3 ∧ v1 < 2 ^ 31 ∧ v3 < 2 ^ 31 ∧ (v3 ≤ v1 → Q (nI 0) M) ∧ (v1 < v3 → ∃ v5 : Nat, M 139 5 = nI v5 ∧ v5 < 200 ∧ Q (M 141 v5) M)) : WP x L 0 [some (.ref 139)] [] M := by
  refine wp_aload_n (pc := 0) X dX8_here_0 rfl rfl ?_
  obtain ⟨v1, he2, h⟩ := h
  refine we_get (pc := 1) X fl_X8_38 A_139 (by decide) (fg_8_5 A_139) he2 dX8_here_1 ?_
  refine wp_aload_n (pc := 4) X dX8_here_4 rfl rfl ?_
  obtain ⟨v3, he4, h⟩ := h
  refine we_get (pc := 5) X fl_X8_35 A_139 (by decide) (fg_8_3 A_139) he4 dX8_here_5 ?_
  obtain ⟨hb8, hb9, h⟩ := h
  refine wn_icmp_ge (pc := 8) (tgt := 23) X dX8_here_8 (by decide) hb8 hb9 (fun hc => ?_) (fun hc => ?_)
  · replace h := h.1 hc
    refine wp_iconst (pc := 23) (v := nI 0) X dX8_here_23 (by decide) ?_
    exact wp_iret (pc := 24) X T dX8_here_24 h
  · replace h := h.2 hc
    refine wp_aload_n (pc := 11) X dX8_here_11 rfl rfl ?_
    refine wp_get (pc := 12) X fl_X8_13 A_139 (by decide) (fg_8_2 A_139) dX8_here_12 ?_
    refine wp_aload_n (pc := 15) X dX8_here_15 rfl rfl ?_
    obtain ⟨v5, he6, h⟩ := h
    refine we_get (pc := 16) X fl_X8_38 A_139 (by decide) (fg_8_5 A_139) he6 dX8_here_16 ?_
    obtain ⟨hj7, h⟩ := h
    refine wn_iald (pc := 19) X A_141 hj7 (by decide) dX8_here_19 ?_
    refine wp_goto (pc := 20) (tgt := 24) X dX8_here_20 (by decide) ?_
    exact wp_iret (pc := 24) X T dX8_here_24 h
theorem r_X8_passes_0 {x : CT} {L : List Nat} {Q : Int32 → Mem → Prop} {M : Mem}  {a1 a2 a3 : Int32} (X : BS x L cX8_passes 6 RX8 (m_X8_passes).2.2.2.2) (T : RT x L (some .boolean) Q) (A_139 : AC L 139 8 0)
    (h : WP x L 8 [some (.ref 139), some (.int a1), some (.int a2), some (.int a3), some (.int (nI 0)), none] [] (MU M 139 6 (nI 0))) : WP x L 0 [some (.ref 139), some (.int a1), some (.int a2), some (.int a3), none, none] [] M := by
  refine wp_iconst (pc := 0) (v := nI 0) X dX8_passes_0 (by decide) ?_
  refine wp_istore (pc := 1) (lo' := [some (.ref 139), some (.int a1), some (.int a2), some (.int a3), some (.int (nI 0)), none]) X dX8_passes_1 (Nat.le_of_ble_eq_true rfl) rfl rfl ?_
  refine wp_aload_n (pc := 3) X dX8_passes_3 rfl rfl ?_
  refine wp_iconst (pc := 4) (v := nI 0) X dX8_passes_4 (by decide) ?_
  refine wp_put (pc := 5) X fl_X8_41 fp_8_6 A_139 (by decide) (fk_8_6 A_139) (fs_8_6 A_139 _) dX8_passes_5 ?_
  exact h
theorem r_X8_passes_8 {x : CT} {L : List Nat} {Q : Int32 → Mem → Prop} {M : Mem}  {a1 a2 a3 : Int32} {k : Nat} (X : BS x L cX8_passes 6 RX8 (m_X8_passes).2.2.2.2) (T : RT x L (some .boolean) Q) (A_139 : AC L 139 8 0)
    (h : CM m_X8_here L [.ref 139] M (fun r2 M1 => CM m_X8_within L [.int r2, .int (nI 48), .int (nI 57)] M1 (fun r4 M3 => (r4 = 0 → k < 2 ^ 31 ∧ (k = 0 → ∃ v5 : Nat, M3 139 5 = nI v5 ∧ Q (nI 0) (MU M3 139 5 (nI (v5 + 1)))) ∧ (0 < k → CM m_X8_within L [.int (M3 139 6), .int a1, .int a2] M3 (fun r8 M7 => (r8 = 0 → ∃ v9 : Nat, M7 139 5 = nI v9 ∧ Q (nI 0) (MU M7 139 5 (nI (v9 + 1)))) ∧ (¬ r8 = 0 → CM m_X8_here L [.ref 139] M7 (fun r12 M11 => (¬ r12 = a3 → ∃ v13 : Nat, M11 139 5 = nI v13 ∧ Q (nI 0) (MU M11 139 5 (nI (v13 + 1)))) ∧ (r12 = a3 → ∃ v15 : Nat, M11 139 5 = nI v15 ∧ Q (nI 1) (MU M11 139 5 (nI (v15 + 1))))))))) ∧ (¬ r4 = 0 → k < 2 ^ 31 ∧ (2 ≤ k → k < 2 ^ 31 ∧ (k = 0 → ∃ v18 : Nat, M3 139 5 = nI v18 ∧ Q (nI 0) (MU M3 139 5 (nI (v18 + 1)))) ∧ (0 < k → CM m_X8_within L [.int (M3 139 6), .int a1, .int a2] M3 (fun r21 M20 => (r21 = 0 → ∃ v22 : Nat, M20 139 5 = nI v22 ∧ Q (nI 0) (MU M20 139 5 (nI (v22 + 1)))) ∧ (¬ r21 = 0 → CM m_X8_here L [.ref 139] M20 (fun r25 M24 => (¬ r25 = a3 → ∃ v26 : Nat, M24 139 5 = nI v26 ∧ Q (nI 0) (MU M24 139 5 (nI (v26 + 1)))) ∧ (r25 = a3 → ∃ v28 : Nat, M24 139 5 = nI v28 ∧ Q (nI 1) (MU M24 139 5 (nI (v28 + 1))))))))) ∧ (k < 2 → CM m_X8_here L [.ref 139] M3 (fun r32 M31 => ∃ v33 : Nat, (MU M31 139 6 ((((nI 10) * (M3 139 6)) + r32) - (nI 48))) 139 5 = nI v33 ∧ WP x L 8 [some (.ref 139), some (.int a1), some (.int a2), some (.int a3), some (.int (nI (k + 1))), none] [] (MU (MU M31 139 6 ((((nI 10) * (M3 139 6)) + r32) - (nI 48))) 139 5 (nI (v33 + 1))))))))) : WP x L 8 [some (.ref 139), some (.int a1), some (.int a2), some (.int a3), some (.int (nI k)), none] [] M := by
  refine wp_aload_n (pc := 8) X dX8_passes_8 rfl rfl ?_
  refine wp_invV (pc := 9) X sv_X8_44 A_139 (by decide) rfl ⟨by decide, by decide⟩ (As := []) (st := []) rfl rfl (Nat.le_of_ble_eq_true rfl) dX8_passes_9 ?_
  refine CM.mono h (fun r2 M1 h => ?_)
  refine wp_bipush (pc := 12) (v := nI 48) X dX8_passes_12 (by decide) ?_
  refine wp_bipush (pc := 14) (v := nI 57) X dX8_passes_14 (by decide) ?_
  refine wp_invS (pc := 16) X sv_X8_31  rfl ⟨by decide, by decide⟩ (As := [.int r2, .int (nI 48), .int (nI 57)]) (st := []) rfl rfl (Nat.le_of_ble_eq_true rfl) dX8_passes_16 ?_
  refine CM.mono h (fun r4 M3 h => ?_)
  refine wp_if_eq (pc := 19) (tgt := 63) X dX8_passes_19 (by decide) (fun hc => ?_) (fun hc => ?_)
  · replace h := h.1 hc
    refine wp_iload (pc := 63) X dX8_passes_63 rfl ?_
    obtain ⟨hb17, h⟩ := h
    refine wn_if_le (pc := 65) (tgt := 92) X dX8_passes_65 (by decide) hb17 (fun hc => ?_) (fun hc => ?_)
    · replace h := h.1 hc
      refine wp_iconst (pc := 92) (v := nI 0) X dX8_passes_92 (by decide) ?_
      refine wp_istore (pc := 93) (lo' := [some (.ref 139), some (.int a1), some (.int a2), some (.int a3), some (.int (nI k)), some (.int (nI 0))]) X dX8_passes_93 (Nat.le_of_ble_eq_true rfl) rfl rfl ?_
      refine wp_aload_n (pc := 95) X dX8_passes_95 rfl rfl ?_
      refine wp_dup (pc := 96) X dX8_passes_96 rfl ?_
      obtain ⟨v5, he6, h⟩ := h
      refine we_get (pc := 97) X fl_X8_38 A_139 (by decide) (fg_8_5 A_139) he6 dX8_passes_97 ?_
      refine wp_iconst (pc := 100) (v := nI 1) X dX8_passes_100 (by decide) ?_
      refine wn_iadd (pc := 101) X dX8_passes_101 ?_
      refine wp_put (pc := 102) X fl_X8_38 fp_8_5 A_139 (by decide) (fk_8_5 A_139) (fs_8_5 A_139 _) dX8_passes_102 ?_
      refine wp_iload (pc := 105) X dX8_passes_105 rfl ?_
      exact wp_zret (pc := 107) X T (by decide) dX8_passes_107 h
    · replace h := h.2 hc
      refine wp_aload_n (pc := 68) X dX8_passes_68 rfl rfl ?_
      refine wp_get (pc := 69) X fl_X8_41 A_139 (by decide) (fg_8_6 A_139) dX8_passes_69 ?_
      refine wp_iload_n (pc := 72) X dX8_passes_72 rfl rfl ?_
      refine wp_iload_n (pc := 73) X dX8_passes_73 rfl rfl ?_
      refine wp_invS (pc := 74) X sv_X8_31  rfl ⟨by decide, by decide⟩ (As := [.int (M3 139 6), .int a1, .int a2]) (st := []) rfl rfl (Nat.le_of_ble_eq_true rfl) dX8_passes_74 ?_
      refine CM.mono h (fun r8 M7 h => ?_)
      refine wp_if_eq (pc := 77) (tgt := 92) X dX8_passes_77 (by decide) (fun hc => ?_) (fun hc => ?_)
      · replace h := h.1 hc
        refine wp_iconst (pc := 92) (v := nI 0) X dX8_passes_92 (by decide) ?_
        refine wp_istore (pc := 93) (lo' := [some (.ref 139), some (.int a1), some (.int a2), some (.int a3), some (.int (nI k)), some (.int (nI 0))]) X dX8_passes_93 (Nat.le_of_ble_eq_true rfl) rfl rfl ?_
        refine wp_aload_n (pc := 95) X dX8_passes_95 rfl rfl ?_
        refine wp_dup (pc := 96) X dX8_passes_96 rfl ?_
        obtain ⟨v9, he10, h⟩ := h
        refine we_get (pc := 97) X fl_X8_38 A_139 (by decide) (fg_8_5 A_139) he10 dX8_passes_97 ?_
        refine wp_iconst (pc := 100) (v := nI 1) X dX8_passes_100 (by decide) ?_
        refine wn_iadd (pc := 101) X dX8_passes_101 ?_
        refine wp_put (pc := 102) X fl_X8_38 fp_8_5 A_139 (by decide) (fk_8_5 A_139) (fs_8_5 A_139 _) dX8_passes_102 ?_
        refine wp_iload (pc := 105) X dX8_passes_105 rfl ?_
        exact wp_zret (pc := 107) X T (by decide) dX8_passes_107 h
      · replace h := h.2 hc
        refine wp_aload_n (pc := 80) X dX8_passes_80 rfl rfl ?_
        refine wp_invV (pc := 81) X sv_X8_44 A_139 (by decide) rfl ⟨by decide, by decide⟩ (As := []) (st := []) rfl rfl (Nat.le_of_ble_eq_true rfl) dX8_passes_81 ?_
        refine CM.mono h (fun r12 M11 h => ?_)
        refine wp_iload_n (pc := 84) X dX8_passes_84 rfl rfl ?_
        refine wp_icmp_ne (pc := 85) (tgt := 92) X dX8_passes_85 (by decide) (fun hc => ?_) (fun hc => ?_)
        · replace h := h.1 hc
          refine wp_iconst (pc := 92) (v := nI 0) X dX8_passes_92 (by decide) ?_
          refine wp_istore (pc := 93) (lo' := [some (.ref 139), some (.int a1), some (.int a2), some (.int a3), some (.int (nI k)), some (.int (nI 0))]) X dX8_passes_93 (Nat.le_of_ble_eq_true rfl) rfl rfl ?_
          refine wp_aload_n (pc := 95) X dX8_passes_95 rfl rfl ?_
          refine wp_dup (pc := 96) X dX8_passes_96 rfl ?_
          obtain ⟨v13, he14, h⟩ := h
          refine we_get (pc := 97) X fl_X8_38 A_139 (by decide) (fg_8_5 A_139) he14 dX8_passes_97 ?_
          refine wp_iconst (pc := 100) (v := nI 1) X dX8_passes_100 (by decide) ?_
          refine wn_iadd (pc := 101) X dX8_passes_101 ?_
          refine wp_put (pc := 102) X fl_X8_38 fp_8_5 A_139 (by decide) (fk_8_5 A_139) (fs_8_5 A_139 _) dX8_passes_102 ?_
          refine wp_iload (pc := 105) X dX8_passes_105 rfl ?_
          exact wp_zret (pc := 107) X T (by decide) dX8_passes_107 h
        · replace h := h.2 hc
          refine wp_iconst (pc := 88) (v := nI 1) X dX8_passes_88 (by decide) ?_
          refine wp_goto (pc := 89) (tgt := 93) X dX8_passes_89 (by decide) ?_
          refine wp_istore (pc := 93) (lo' := [some (.ref 139), some (.int a1), some (.int a2), some (.int a3), some (.int (nI k)), some (.int (nI 1))]) X dX8_passes_93 (Nat.le_of_ble_eq_true rfl) rfl rfl ?_
          refine wp_aload_n (pc := 95) X dX8_passes_95 rfl rfl ?_
          refine wp_dup (pc := 96) X dX8_passes_96 rfl ?_
          obtain ⟨v15, he16, h⟩ := h
          refine we_get (pc := 97) X fl_X8_38 A_139 (by decide) (fg_8_5 A_139) he16 dX8_passes_97 ?_
          refine wp_iconst (pc := 100) (v := nI 1) X dX8_passes_100 (by decide) ?_
          refine wn_iadd (pc := 101) X dX8_passes_101 ?_
          refine wp_put (pc := 102) X fl_X8_38 fp_8_5 A_139 (by decide) (fk_8_5 A_139) (fs_8_5 A_139 _) dX8_passes_102 ?_
          refine wp_iload (pc := 105) X dX8_passes_105 rfl ?_
          exact wp_zret (pc := 107) X T (by decide) dX8_passes_107 h
  · replace h := h.2 hc
    refine wp_iload (pc := 22) X dX8_passes_22 rfl ?_
    refine wp_iconst (pc := 24) (v := nI 2) X dX8_passes_24 (by decide) ?_
    obtain ⟨hb35, h⟩ := h
    refine wn_icmp_ge (pc := 25) (tgt := 63) X dX8_passes_25 (by decide) hb35 (by decide) (fun hc => ?_) (fun hc => ?_)
    · replace h := h.1 hc
      refine wp_iload (pc := 63) X dX8_passes_63 rfl ?_
      obtain ⟨hb30, h⟩ := h
      refine wn_if_le (pc := 65) (tgt := 92) X dX8_passes_65 (by decide) hb30 (fun hc => ?_) (fun hc => ?_)
      · replace h := h.1 hc
        refine wp_iconst (pc := 92) (v := nI 0) X dX8_passes_92 (by decide) ?_
        refine wp_istore (pc := 93) (lo' := [some (.ref 139), some (.int a1), some (.int a2), some (.int a3), some (.int (nI k)), some (.int (nI 0))]) X dX8_passes_93 (Nat.le_of_ble_eq_true rfl) rfl rfl ?_
        refine wp_aload_n (pc := 95) X dX8_passes_95 rfl rfl ?_
        refine wp_dup (pc := 96) X dX8_passes_96 rfl ?_
        obtain ⟨v18, he19, h⟩ := h
        refine we_get (pc := 97) X fl_X8_38 A_139 (by decide) (fg_8_5 A_139) he19 dX8_passes_97 ?_
        refine wp_iconst (pc := 100) (v := nI 1) X dX8_passes_100 (by decide) ?_
        refine wn_iadd (pc := 101) X dX8_passes_101 ?_
        refine wp_put (pc := 102) X fl_X8_38 fp_8_5 A_139 (by decide) (fk_8_5 A_139) (fs_8_5 A_139 _) dX8_passes_102 ?_
        refine wp_iload (pc := 105) X dX8_passes_105 rfl ?_
        exact wp_zret (pc := 107) X T (by decide) dX8_passes_107 h
      · replace h := h.2 hc
        refine wp_aload_n (pc := 68) X dX8_passes_68 rfl rfl ?_
        refine wp_get (pc := 69) X fl_X8_41 A_139 (by decide) (fg_8_6 A_139) dX8_passes_69 ?_
        refine wp_iload_n (pc := 72) X dX8_passes_72 rfl rfl ?_
        refine wp_iload_n (pc := 73) X dX8_passes_73 rfl rfl ?_
        refine wp_invS (pc := 74) X sv_X8_31  rfl ⟨by decide, by decide⟩ (As := [.int (M3 139 6), .int a1, .int a2]) (st := []) rfl rfl (Nat.le_of_ble_eq_true rfl) dX8_passes_74 ?_
        refine CM.mono h (fun r21 M20 h => ?_)
        refine wp_if_eq (pc := 77) (tgt := 92) X dX8_passes_77 (by decide) (fun hc => ?_) (fun hc => ?_)
        · replace h := h.1 hc
          refine wp_iconst (pc := 92) (v := nI 0) X dX8_passes_92 (by decide) ?_
          refine wp_istore (pc := 93) (lo' := [some (.ref 139), some (.int a1), some (.int a2), some (.int a3), some (.int (nI k)), some (.int (nI 0))]) X dX8_passes_93 (Nat.le_of_ble_eq_true rfl) rfl rfl ?_
          refine wp_aload_n (pc := 95) X dX8_passes_95 rfl rfl ?_
          refine wp_dup (pc := 96) X dX8_passes_96 rfl ?_
          obtain ⟨v22, he23, h⟩ := h
          refine we_get (pc := 97) X fl_X8_38 A_139 (by decide) (fg_8_5 A_139) he23 dX8_passes_97 ?_
          refine wp_iconst (pc := 100) (v := nI 1) X dX8_passes_100 (by decide) ?_
          refine wn_iadd (pc := 101) X dX8_passes_101 ?_
          refine wp_put (pc := 102) X fl_X8_38 fp_8_5 A_139 (by decide) (fk_8_5 A_139) (fs_8_5 A_139 _) dX8_passes_102 ?_
          refine wp_iload (pc := 105) X dX8_passes_105 rfl ?_
          exact wp_zret (pc := 107) X T (by decide) dX8_passes_107 h
        · replace h := h.2 hc
          refine wp_aload_n (pc := 80) X dX8_passes_80 rfl rfl ?_
          refine wp_invV (pc := 81) X sv_X8_44 A_139 (by decide) rfl ⟨by decide, by decide⟩ (As := []) (st := []) rfl rfl (Nat.le_of_ble_eq_true rfl) dX8_passes_81 ?_
          refine CM.mono h (fun r25 M24 h => ?_)
          refine wp_iload_n (pc := 84) X dX8_passes_84 rfl rfl ?_
          refine wp_icmp_ne (pc := 85) (tgt := 92) X dX8_passes_85 (by decide) (fun hc => ?_) (fun hc => ?_)
          · replace h := h.1 hc
            refine wp_iconst (pc := 92) (v := nI 0) X dX8_passes_92 (by decide) ?_
            refine wp_istore (pc := 93) (lo' := [some (.ref 139), some (.int a1), some (.int a2), some (.int a3), some (.int (nI k)), some (.int (nI 0))]) X dX8_passes_93 (Nat.le_of_ble_eq_true rfl) rfl rfl ?_
            refine wp_aload_n (pc := 95) X dX8_passes_95 rfl rfl ?_
            refine wp_dup (pc := 96) X dX8_passes_96 rfl ?_
            obtain ⟨v26, he27, h⟩ := h
            refine we_get (pc := 97) X fl_X8_38 A_139 (by decide) (fg_8_5 A_139) he27 dX8_passes_97 ?_
            refine wp_iconst (pc := 100) (v := nI 1) X dX8_passes_100 (by decide) ?_
            refine wn_iadd (pc := 101) X dX8_passes_101 ?_
            refine wp_put (pc := 102) X fl_X8_38 fp_8_5 A_139 (by decide) (fk_8_5 A_139) (fs_8_5 A_139 _) dX8_passes_102 ?_
            refine wp_iload (pc := 105) X dX8_passes_105 rfl ?_
            exact wp_zret (pc := 107) X T (by decide) dX8_passes_107 h
          · replace h := h.2 hc
            refine wp_iconst (pc := 88) (v := nI 1) X dX8_passes_88 (by decide) ?_
            refine wp_goto (pc := 89) (tgt := 93) X dX8_passes_89 (by decide) ?_
            refine wp_istore (pc := 93) (lo' := [some (.ref 139), some (.int a1), some (.int a2), some (.int a3), some (.int (nI k)), some (.int (nI 1))]) X dX8_passes_93 (Nat.le_of_ble_eq_true rfl) rfl rfl ?_
            refine wp_aload_n (pc := 95) X dX8_passes_95 rfl rfl ?_
            refine wp_dup (pc := 96) X dX8_passes_96 rfl ?_
            obtain ⟨v28, he29, h⟩ := h
            refine we_get (pc := 97) X fl_X8_38 A_139 (by decide) (fg_8_5 A_139) he29 dX8_passes_97 ?_
            refine wp_iconst (pc := 100) (v := nI 1) X dX8_passes_100 (by decide) ?_
            refine wn_iadd (pc := 101) X dX8_passes_101 ?_
            refine wp_put (pc := 102) X fl_X8_38 fp_8_5 A_139 (by decide) (fk_8_5 A_139) (fs_8_5 A_139 _) dX8_passes_102 ?_
            refine wp_iload (pc := 105) X dX8_passes_105 rfl ?_
            exact wp_zret (pc := 107) X T (by decide) dX8_passes_107 h
    · replace h := h.2 hc
      refine wp_aload_n (pc := 28) X dX8_passes_28 rfl rfl ?_
      refine wp_bipush (pc := 29) (v := nI 10) X dX8_passes_29 (by decide) ?_
      refine wp_aload_n (pc := 31) X dX8_passes_31 rfl rfl ?_
      refine wp_get (pc := 32) X fl_X8_41 A_139 (by decide) (fg_8_6 A_139) dX8_passes_32 ?_
      refine wp_imul (pc := 35) X dX8_passes_35 ?_
      refine wp_aload_n (pc := 36) X dX8_passes_36 rfl rfl ?_
      refine wp_invV (pc := 37) X sv_X8_44 A_139 (by decide) rfl ⟨by decide, by decide⟩ (As := []) (st := [.int ((nI 10) * (M3 139 6)), .ref 139]) rfl rfl (Nat.le_of_ble_eq_true rfl) dX8_passes_37 ?_
      refine CM.mono h (fun r32 M31 h => ?_)
      refine wp_iadd (pc := 40) X dX8_passes_40 ?_
      refine wp_bipush (pc := 41) (v := nI 48) X dX8_passes_41 (by decide) ?_
      refine wp_isub (pc := 43) X dX8_passes_43 ?_
      refine wp_put (pc := 44) X fl_X8_41 fp_8_6 A_139 (by decide) (fk_8_6 A_139) (fs_8_6 A_139 _) dX8_passes_44 ?_
      refine wp_aload_n (pc := 47) X dX8_passes_47 rfl rfl ?_
      refine wp_dup (pc := 48) X dX8_passes_48 rfl ?_
      obtain ⟨v33, he34, h⟩ := h
      refine we_get (pc := 49) X fl_X8_38 A_139 (by decide) (fg_8_5 A_139) he34 dX8_passes_49 ?_
      refine wp_iconst (pc := 52) (v := nI 1) X dX8_passes_52 (by decide) ?_
      refine wn_iadd (pc := 53) X dX8_passes_53 ?_
      refine wp_put (pc := 54) X fl_X8_38 fp_8_5 A_139 (by decide) (fk_8_5 A_139) (fs_8_5 A_139 _) dX8_passes_54 ?_
      refine wn_iinc (pc := 57) (d := 1) (lo' := [some (.ref 139), some (.int a1), some (.int a2), some (.int a3), some (.int (nI (k + 1))), none]) X dX8_passes_57 rfl (by decide) rfl rfl ?_
      refine wp_goto (pc := 60) (tgt := 8) X dX8_passes_60 (by decide) ?_
      exact h
theorem r_X8_passesFile_0 {x : CT} {L : List Nat} {Q : Int32 → Mem → Prop} {M : Mem}  (X : BS x L cX8_passesFile 4 RX8 (m_X8_passesFile).2.2.2.2) (T : RT x L (some .boolean) Q) (A_139 : AC L 139 8 0) (A_142 : AC L 142 9 20)
    (h : ∃ v1 : Nat, M 142 0 = nI v1 ∧ v1 < 2 ^ 31 ∧ (v1 = 6 → Q (nI 0) M) ∧ (¬ v1 = 6 → CM m_X8_passes L [.ref 139, .int (nI 1), .int (nI 12), .int (nI 44)] M (fun r4 M3 => (¬ r4 = 0 → CM m_X8_passes L [.ref 139, .int (nI 0), .int (nI 6), .int (nI 44)] M3 (fun r6 M5 => (¬ r6 = 0 → CM m_X8_passes L [.ref 139, .int (nI 1), .int (nI 9), .int (nI 59)] M5 (fun r8 M7 => (¬ r8 = 0 → CM m_X8_laysFile L [.ref 139, .int (nI v1), .int (M3 139 6), .int (M5 139 6), .int (M7 139 6)] M7 (fun _ M9 => Q (nI 1) (MU M9 142 0 ((M9 142 0) + (nI 1))))) ∧ (r8 = 0 → Q (nI 0) M7))) ∧ (r6 = 0 → Q (nI 0) M5))) ∧ (r4 = 0 → Q (nI 0) M3)))) : WP x L 0 [some (.ref 139), none, none, none] [] M := by
  refine wp_aload_n (pc := 0) X dX8_passesFile_0 rfl rfl ?_
  refine wp_get (pc := 1) X fl_X8_16 A_139 (by decide) (fg_8_4 A_139) dX8_passesFile_1 ?_
  refine wp_iconst (pc := 4) (v := nI 0) X dX8_passesFile_4 (by decide) ?_
  obtain ⟨v1, he2, h⟩ := h
  refine we_iald (pc := 5) X A_142 (by decide) (by decide) he2 dX8_passesFile_5 ?_
  refine wp_istore_n (pc := 6) (lo' := [some (.ref 139), some (.int (nI v1)), none, none]) X dX8_passesFile_6 rfl (Nat.le_of_ble_eq_true rfl) rfl rfl ?_
  refine wp_iload_n (pc := 7) X dX8_passesFile_7 rfl rfl ?_
  refine wp_bipush (pc := 8) (v := nI 6) X dX8_passesFile_8 (by decide) ?_
  obtain ⟨hb11, h⟩ := h
  refine wn_icmp_eq (pc := 10) (tgt := 25) X dX8_passesFile_10 (by decide) hb11 (by decide) (fun hc => ?_) (fun hc => ?_)
  · replace h := h.1 hc
    refine wp_iconst (pc := 25) (v := nI 0) X dX8_passesFile_25 (by decide) ?_
    exact wp_zret (pc := 26) X T (by decide) dX8_passesFile_26 h
  · replace h := h.2 hc
    refine wp_aload_n (pc := 13) X dX8_passesFile_13 rfl rfl ?_
    refine wp_iconst (pc := 14) (v := nI 1) X dX8_passesFile_14 (by decide) ?_
    refine wp_bipush (pc := 15) (v := nI 12) X dX8_passesFile_15 (by decide) ?_
    refine wp_bipush (pc := 17) (v := nI 44) X dX8_passesFile_17 (by decide) ?_
    refine wp_invV (pc := 19) X sv_X8_48 A_139 (by decide) rfl ⟨by decide, by decide⟩ (As := [.int (nI 1), .int (nI 12), .int (nI 44)]) (st := []) rfl rfl (Nat.le_of_ble_eq_true rfl) dX8_passesFile_19 ?_
    refine CM.mono h (fun r4 M3 h => ?_)
    refine wp_if_ne (pc := 22) (tgt := 27) X dX8_passesFile_22 (by decide) (fun hc => ?_) (fun hc => ?_)
    · replace h := h.1 hc
      refine wp_aload_n (pc := 27) X dX8_passesFile_27 rfl rfl ?_
      refine wp_get (pc := 28) X fl_X8_41 A_139 (by decide) (fg_8_6 A_139) dX8_passesFile_28 ?_
      refine wp_istore_n (pc := 31) (lo' := [some (.ref 139), some (.int (nI v1)), some (.int (M3 139 6)), none]) X dX8_passesFile_31 rfl (Nat.le_of_ble_eq_true rfl) rfl rfl ?_
      refine wp_aload_n (pc := 32) X dX8_passesFile_32 rfl rfl ?_
      refine wp_iconst (pc := 33) (v := nI 0) X dX8_passesFile_33 (by decide) ?_
      refine wp_bipush (pc := 34) (v := nI 6) X dX8_passesFile_34 (by decide) ?_
      refine wp_bipush (pc := 36) (v := nI 44) X dX8_passesFile_36 (by decide) ?_
      refine wp_invV (pc := 38) X sv_X8_48 A_139 (by decide) rfl ⟨by decide, by decide⟩ (As := [.int (nI 0), .int (nI 6), .int (nI 44)]) (st := []) rfl rfl (Nat.le_of_ble_eq_true rfl) dX8_passesFile_38 ?_
      refine CM.mono h (fun r6 M5 h => ?_)
      refine wp_if_ne (pc := 41) (tgt := 46) X dX8_passesFile_41 (by decide) (fun hc => ?_) (fun hc => ?_)
      · replace h := h.1 hc
        refine wp_aload_n (pc := 46) X dX8_passesFile_46 rfl rfl ?_
        refine wp_get (pc := 47) X fl_X8_41 A_139 (by decide) (fg_8_6 A_139) dX8_passesFile_47 ?_
        refine wp_istore_n (pc := 50) (lo' := [some (.ref 139), some (.int (nI v1)), some (.int (M3 139 6)), some (.int (M5 139 6))]) X dX8_passesFile_50 rfl (Nat.le_of_ble_eq_true rfl) rfl rfl ?_
        refine wp_aload_n (pc := 51) X dX8_passesFile_51 rfl rfl ?_
        refine wp_iconst (pc := 52) (v := nI 1) X dX8_passesFile_52 (by decide) ?_
        refine wp_bipush (pc := 53) (v := nI 9) X dX8_passesFile_53 (by decide) ?_
        refine wp_bipush (pc := 55) (v := nI 59) X dX8_passesFile_55 (by decide) ?_
        refine wp_invV (pc := 57) X sv_X8_48 A_139 (by decide) rfl ⟨by decide, by decide⟩ (As := [.int (nI 1), .int (nI 9), .int (nI 59)]) (st := []) rfl rfl (Nat.le_of_ble_eq_true rfl) dX8_passesFile_57 ?_
        refine CM.mono h (fun r8 M7 h => ?_)
        refine wp_if_ne (pc := 60) (tgt := 65) X dX8_passesFile_60 (by decide) (fun hc => ?_) (fun hc => ?_)
        · replace h := h.1 hc
          refine wp_aload_n (pc := 65) X dX8_passesFile_65 rfl rfl ?_
          refine wp_iload_n (pc := 66) X dX8_passesFile_66 rfl rfl ?_
          refine wp_iload_n (pc := 67) X dX8_passesFile_67 rfl rfl ?_
          refine wp_iload_n (pc := 68) X dX8_passesFile_68 rfl rfl ?_
          refine wp_aload_n (pc := 69) X dX8_passesFile_69 rfl rfl ?_
          refine wp_get (pc := 70) X fl_X8_41 A_139 (by decide) (fg_8_6 A_139) dX8_passesFile_70 ?_
          refine wp_invVv (pc := 73) X sv_X8_19 A_139 (by decide) rfl ⟨by decide, by decide⟩ (As := [.int (nI v1), .int (M3 139 6), .int (M5 139 6), .int (M7 139 6)]) (st := []) rfl rfl (Nat.le_of_ble_eq_true rfl) dX8_passesFile_73 ?_
          refine CM.mono h (fun _ M9 h => ?_)
          refine wp_aload_n (pc := 76) X dX8_passesFile_76 rfl rfl ?_
          refine wp_get (pc := 77) X fl_X8_16 A_139 (by decide) (fg_8_4 A_139) dX8_passesFile_77 ?_
          refine wp_iconst (pc := 80) (v := nI 0) X dX8_passesFile_80 (by decide) ?_
          refine wp_dup2 (pc := 81) X dX8_passesFile_81 rfl rfl ?_
          refine wn_iald (pc := 82) X A_142 (by decide) (by decide) dX8_passesFile_82 ?_
          refine wp_iconst (pc := 83) (v := nI 1) X dX8_passesFile_83 (by decide) ?_
          refine wp_iadd (pc := 84) X dX8_passesFile_84 ?_
          refine wn_iast (pc := 85) X A_142 (by decide) (by decide) dX8_passesFile_85 ?_
          refine wp_iconst (pc := 86) (v := nI 1) X dX8_passesFile_86 (by decide) ?_
          exact wp_zret (pc := 87) X T (by decide) dX8_passesFile_87 h
        · replace h := h.2 hc
          refine wp_iconst (pc := 63) (v := nI 0) X dX8_passesFile_63 (by decide) ?_
          exact wp_zret (pc := 64) X T (by decide) dX8_passesFile_64 h
      · replace h := h.2 hc
        refine wp_iconst (pc := 44) (v := nI 0) X dX8_passesFile_44 (by decide) ?_
        exact wp_zret (pc := 45) X T (by decide) dX8_passesFile_45 h
    · replace h := h.2 hc
      refine wp_iconst (pc := 25) (v := nI 0) X dX8_passesFile_25 (by decide) ?_
      exact wp_zret (pc := 26) X T (by decide) dX8_passesFile_26 h
theorem r_X8_passesTable_0 {x : CT} {L : List Nat} {Q : Int32 → Mem → Prop} {M : Mem}  (X : BS x L cX8_passesTable 2 RX8 (m_X8_passesTable).2.2.2.2) (T : RT x L (some .boolean) Q) (A_139 : AC L 139 8 0)
    (h : CM m_X8_passes L [.ref 139, .int (nI 3), .int (nI 20), .int (nI 44)] M (fun r2 M1 => (¬ r2 = 0 → CM m_X8_passes L [.ref 139, .int (nI 1), .int (nI 99), .int (nI 59)] (MU M1 139 7 (M1 139 6)) (fun r4 M3 => (r4 = 0 ∨ r4 = 1) ∧ Q r4 (MU M3 139 8 (M3 139 6)))) ∧ (r2 = 0 → Q (nI 0) M1))) : WP x L 0 [some (.ref 139), none] [] M := by
  refine wp_aload_n (pc := 0) X dX8_passesTable_0 rfl rfl ?_
  refine wp_iconst (pc := 1) (v := nI 3) X dX8_passesTable_1 (by decide) ?_
  refine wp_bipush (pc := 2) (v := nI 20) X dX8_passesTable_2 (by decide) ?_
  refine wp_bipush (pc := 4) (v := nI 44) X dX8_passesTable_4 (by decide) ?_
  refine wp_invV (pc := 6) X sv_X8_48 A_139 (by decide) rfl ⟨by decide, by decide⟩ (As := [.int (nI 3), .int (nI 20), .int (nI 44)]) (st := []) rfl rfl (Nat.le_of_ble_eq_true rfl) dX8_passesTable_6 ?_
  refine CM.mono h (fun r2 M1 h => ?_)
  refine wp_if_ne (pc := 9) (tgt := 14) X dX8_passesTable_9 (by decide) (fun hc => ?_) (fun hc => ?_)
  · replace h := h.1 hc
    refine wp_aload_n (pc := 14) X dX8_passesTable_14 rfl rfl ?_
    refine wp_aload_n (pc := 15) X dX8_passesTable_15 rfl rfl ?_
    refine wp_get (pc := 16) X fl_X8_41 A_139 (by decide) (fg_8_6 A_139) dX8_passesTable_16 ?_
    refine wp_put (pc := 19) X fl_X8_51 fp_8_7 A_139 (by decide) (fk_8_7 A_139) (fs_8_7 A_139 _) dX8_passesTable_19 ?_
    refine wp_aload_n (pc := 22) X dX8_passesTable_22 rfl rfl ?_
    refine wp_iconst (pc := 23) (v := nI 1) X dX8_passesTable_23 (by decide) ?_
    refine wp_bipush (pc := 24) (v := nI 99) X dX8_passesTable_24 (by decide) ?_
    refine wp_bipush (pc := 26) (v := nI 59) X dX8_passesTable_26 (by decide) ?_
    refine wp_invV (pc := 28) X sv_X8_48 A_139 (by decide) rfl ⟨by decide, by decide⟩ (As := [.int (nI 1), .int (nI 99), .int (nI 59)]) (st := []) rfl rfl (Nat.le_of_ble_eq_true rfl) dX8_passesTable_28 ?_
    refine CM.mono h (fun r4 M3 h => ?_)
    refine wp_istore_n (pc := 31) (lo' := [some (.ref 139), some (.int r4)]) X dX8_passesTable_31 rfl (Nat.le_of_ble_eq_true rfl) rfl rfl ?_
    refine wp_aload_n (pc := 32) X dX8_passesTable_32 rfl rfl ?_
    refine wp_aload_n (pc := 33) X dX8_passesTable_33 rfl rfl ?_
    refine wp_get (pc := 34) X fl_X8_41 A_139 (by decide) (fg_8_6 A_139) dX8_passesTable_34 ?_
    refine wp_put (pc := 37) X fl_X8_54 fp_8_8 A_139 (by decide) (fk_8_8 A_139) (fs_8_8 A_139 _) dX8_passesTable_37 ?_
    refine wp_iload_n (pc := 40) X dX8_passesTable_40 rfl rfl ?_
    exact wp_zret (pc := 41) X T h.1 dX8_passesTable_41 h.2
  · replace h := h.2 hc
    refine wp_iconst (pc := 12) (v := nI 0) X dX8_passesTable_12 (by decide) ?_
    exact wp_zret (pc := 13) X T (by decide) dX8_passesTable_13 h
theorem r_X8_faultIs_0 {x : CT} {L : List Nat} {Q : Int32 → Mem → Prop} {M : Mem}  (X : BS x L cX8_faultIs 3 RX8 (m_X8_faultIs).2.2.2.2) (T : RT x L (some .int) Q) (A_139 : AC L 139 8 0) (A_142 : AC L 142 9 20)
    (h : WP x L 24 [some (.ref 139), none, none] [] (MU (MU (MU (MU M 142 0 (nI 0)) 139 7 (nI 6)) 139 8 (nI 20)) 139 5 (nI 0))) : WP x L 0 [some (.ref 139), none, none] [] M := by
  refine wp_aload_n (pc := 0) X dX8_faultIs_0 rfl rfl ?_
  refine wp_get (pc := 1) X fl_X8_16 A_139 (by decide) (fg_8_4 A_139) dX8_faultIs_1 ?_
  refine wp_iconst (pc := 4) (v := nI 0) X dX8_faultIs_4 (by decide) ?_
  refine wp_iconst (pc := 5) (v := nI 0) X dX8_faultIs_5 (by decide) ?_
  refine wn_iast (pc := 6) X A_142 (by decide) (by decide) dX8_faultIs_6 ?_
  refine wp_aload_n (pc := 7) X dX8_faultIs_7 rfl rfl ?_
  refine wp_bipush (pc := 8) (v := nI 6) X dX8_faultIs_8 (by decide) ?_
  refine wp_put (pc := 10) X fl_X8_51 fp_8_7 A_139 (by decide) (fk_8_7 A_139) (fs_8_7 A_139 _) dX8_faultIs_10 ?_
  refine wp_aload_n (pc := 13) X dX8_faultIs_13 rfl rfl ?_
  refine wp_bipush (pc := 14) (v := nI 20) X dX8_faultIs_14 (by decide) ?_
  refine wp_put (pc := 16) X fl_X8_54 fp_8_8 A_139 (by decide) (fk_8_8 A_139) (fs_8_8 A_139 _) dX8_faultIs_16 ?_
  refine wp_aload_n (pc := 19) X dX8_faultIs_19 rfl rfl ?_
  refine wp_iconst (pc := 20) (v := nI 0) X dX8_faultIs_20 (by decide) ?_
  refine wp_put (pc := 21) X fl_X8_38 fp_8_5 A_139 (by decide) (fk_8_5 A_139) (fs_8_5 A_139 _) dX8_faultIs_21 ?_
  exact h
theorem r_X8_faultIs_24 {x : CT} {L : List Nat} {Q : Int32 → Mem → Prop} {M : Mem}  (X : BS x L cX8_faultIs 3 RX8 (m_X8_faultIs).2.2.2.2) (T : RT x L (some .int) Q) (A_139 : AC L 139 8 0)
    (h : ∃ v1 : Nat, M 139 5 = nI v1 ∧ ∃ v3 : Nat, M 139 3 = nI v3 ∧ v1 < 2 ^ 31 ∧ v3 < 2 ^ 31 ∧ (v3 ≤ v1 → Q (-4) M) ∧ (v1 < v3 → ∃ v5 : Nat, M 139 5 = nI v5 ∧ CM m_X8_here L [.ref 139] M (fun r8 M7 => ∃ v9 : Nat, M7 139 5 = nI v9 ∧ (¬ r8 = (nI 102) → (¬ r8 = (nI 116) → Q (nI v5) (MU M7 139 5 (nI (v9 + 1)))) ∧ (r8 = (nI 116) → CM m_X8_passesTable L [.ref 139] (MU M7 139 5 (nI (v9 + 1))) (fun r12 M11 => (¬ r12 = 0 → WP x L 24 [some (.ref 139), none, none] [] M11) ∧ (r12 = 0 → Q (nI v5) M11)))) ∧ (r8 = (nI 102) → CM m_X8_passesFile L [.ref 139] (MU M7 139 5 (nI (v9 + 1))) (fun r14 M13 => (r14 = 0 → Q (nI v5) M13) ∧ (¬ r14 = 0 → WP x L 24 [some (.ref 139), none, none] [] M13)))))) : WP x L 24 [some (.ref 139), none, none] [] M := by
  refine wp_aload_n (pc := 24) X dX8_faultIs_24 rfl rfl ?_
  obtain ⟨v1, he2, h⟩ := h
  refine we_get (pc := 25) X fl_X8_38 A_139 (by decide) (fg_8_5 A_139) he2 dX8_faultIs_25 ?_
  refine wp_aload_n (pc := 28) X dX8_faultIs_28 rfl rfl ?_
  obtain ⟨v3, he4, h⟩ := h
  refine we_get (pc := 29) X fl_X8_35 A_139 (by decide) (fg_8_3 A_139) he4 dX8_faultIs_29 ?_
  obtain ⟨hb15, hb16, h⟩ := h
  refine wn_icmp_ge (pc := 32) (tgt := 89) X dX8_faultIs_32 (by decide) hb15 hb16 (fun hc => ?_) (fun hc => ?_)
  · replace h := h.1 hc
    refine wp_bipush (pc := 89) (v := (-4)) X dX8_faultIs_89 (by decide) ?_
    exact wp_iret (pc := 91) X T dX8_faultIs_91 h
  · replace h := h.2 hc
    refine wp_aload_n (pc := 35) X dX8_faultIs_35 rfl rfl ?_
    obtain ⟨v5, he6, h⟩ := h
    refine we_get (pc := 36) X fl_X8_38 A_139 (by decide) (fg_8_5 A_139) he6 dX8_faultIs_36 ?_
    refine wp_istore_n (pc := 39) (lo' := [some (.ref 139), some (.int (nI v5)), none]) X dX8_faultIs_39 rfl (Nat.le_of_ble_eq_true rfl) rfl rfl ?_
    refine wp_aload_n (pc := 40) X dX8_faultIs_40 rfl rfl ?_
    refine wp_invV (pc := 41) X sv_X8_44 A_139 (by decide) rfl ⟨by decide, by decide⟩ (As := []) (st := []) rfl rfl (Nat.le_of_ble_eq_true rfl) dX8_faultIs_41 ?_
    refine CM.mono h (fun r8 M7 h => ?_)
    refine wp_istore_n (pc := 44) (lo' := [some (.ref 139), some (.int (nI v5)), some (.int r8)]) X dX8_faultIs_44 rfl (Nat.le_of_ble_eq_true rfl) rfl rfl ?_
    refine wp_aload_n (pc := 45) X dX8_faultIs_45 rfl rfl ?_
    refine wp_dup (pc := 46) X dX8_faultIs_46 rfl ?_
    obtain ⟨v9, he10, h⟩ := h
    refine we_get (pc := 47) X fl_X8_38 A_139 (by decide) (fg_8_5 A_139) he10 dX8_faultIs_47 ?_
    refine wp_iconst (pc := 50) (v := nI 1) X dX8_faultIs_50 (by decide) ?_
    refine wn_iadd (pc := 51) X dX8_faultIs_51 ?_
    refine wp_put (pc := 52) X fl_X8_38 fp_8_5 A_139 (by decide) (fk_8_5 A_139) (fs_8_5 A_139 _) dX8_faultIs_52 ?_
    refine wp_iload_n (pc := 55) X dX8_faultIs_55 rfl rfl ?_
    refine wp_bipush (pc := 56) (v := nI 102) X dX8_faultIs_56 (by decide) ?_
    refine wp_icmp_ne (pc := 58) (tgt := 71) X dX8_faultIs_58 (by decide) (fun hc => ?_) (fun hc => ?_)
    · replace h := h.1 hc
      refine wp_iload_n (pc := 71) X dX8_faultIs_71 rfl rfl ?_
      refine wp_bipush (pc := 72) (v := nI 116) X dX8_faultIs_72 (by decide) ?_
      refine wp_icmp_ne (pc := 74) (tgt := 84) X dX8_faultIs_74 (by decide) (fun hc => ?_) (fun hc => ?_)
      · replace h := h.1 hc
        refine wp_iload_n (pc := 84) X dX8_faultIs_84 rfl rfl ?_
        exact wp_iret (pc := 85) X T dX8_faultIs_85 h
      · replace h := h.2 hc
        refine wp_aload_n (pc := 77) X dX8_faultIs_77 rfl rfl ?_
        refine wp_invV (pc := 78) X sv_X8_61 A_139 (by decide) rfl ⟨by decide, by decide⟩ (As := []) (st := []) rfl rfl (Nat.le_of_ble_eq_true rfl) dX8_faultIs_78 ?_
        refine CM.mono h (fun r12 M11 h => ?_)
        refine wp_if_ne (pc := 81) (tgt := 86) X dX8_faultIs_81 (by decide) (fun hc => ?_) (fun hc => ?_)
        · replace h := h.1 hc
          refine wp_goto (pc := 86) (tgt := 24) X dX8_faultIs_86 (by decide) ?_
          exact wp_drop (show subL _ [some (.ref 139), none, none] from ⟨rfl, trivial⟩) h
        · replace h := h.2 hc
          refine wp_iload_n (pc := 84) X dX8_faultIs_84 rfl rfl ?_
          exact wp_iret (pc := 85) X T dX8_faultIs_85 h
    · replace h := h.2 hc
      refine wp_aload_n (pc := 61) X dX8_faultIs_61 rfl rfl ?_
      refine wp_invV (pc := 62) X sv_X8_57 A_139 (by decide) rfl ⟨by decide, by decide⟩ (As := []) (st := []) rfl rfl (Nat.le_of_ble_eq_true rfl) dX8_faultIs_62 ?_
      refine CM.mono h (fun r14 M13 h => ?_)
      refine wp_if_eq (pc := 65) (tgt := 84) X dX8_faultIs_65 (by decide) (fun hc => ?_) (fun hc => ?_)
      · replace h := h.1 hc
        refine wp_iload_n (pc := 84) X dX8_faultIs_84 rfl rfl ?_
        exact wp_iret (pc := 85) X T dX8_faultIs_85 h
      · replace h := h.2 hc
        refine wp_goto (pc := 68) (tgt := 86) X dX8_faultIs_68 (by decide) ?_
        refine wp_goto (pc := 86) (tgt := 24) X dX8_faultIs_86 (by decide) ?_
        exact wp_drop (show subL _ [some (.ref 139), none, none] from ⟨rfl, trivial⟩) h
theorem r_X8_fault_0 {x : CT} {L : List Nat} {Q : Int32 → Mem → Prop} {M : Mem}  (X : BS x L cX8_fault 1 RX8 (m_X8_fault).2.2.2.2) (T : RT x L (some .int) Q) (A_139 : AC L 139 8 0)
    (h : CM m_X8_faultIs L [.ref 139] M (fun r2 M1 => Q r2 M1)) : WP x L 0 [some (.ref 139)] [] M := by
  refine wp_aload_n (pc := 0) X dX8_fault_0 rfl rfl ?_
  refine wp_invV (pc := 1) X sv_X8_64 A_139 (by decide) rfl ⟨by decide, by decide⟩ (As := []) (st := []) rfl rfl (Nat.le_of_ble_eq_true rfl) dX8_fault_1 ?_
  refine CM.mono h (fun r2 M1 h => ?_)
  exact wp_iret (pc := 4) X T dX8_fault_4 h
theorem r_X8_lay_0 {x : CT} {L : List Nat} {Q : Int32 → Mem → Prop} {M : Mem}  (X : BS x L cX8_lay 1 RX8 (m_X8_lay).2.2.2.2) (T : RT x L (some .int) Q) (A_139 : AC L 139 8 0) (A_142 : AC L 142 9 20) (A_140 : AC L 140 9 918)
    (h : CM m_X8_faultIs L [.ref 139] M (fun r2 M1 => (¬ r2 = (-4) → Q (-2) M1) ∧ (r2 = (-4) → (¬ (M1 142 0) = 0 → CM m_X8_begins L [.ref 139, .int (M1 139 7), .int (M1 139 8)] M1 (fun _ M3 => Q (M3 140 42) M3)) ∧ ((M1 142 0) = 0 → Q (-2) M1)))) : WP x L 0 [some (.ref 139)] [] M := by
  refine wp_aload_n (pc := 0) X dX8_lay_0 rfl rfl ?_
  refine wp_invV (pc := 1) X sv_X8_64 A_139 (by decide) rfl ⟨by decide, by decide⟩ (As := []) (st := []) rfl rfl (Nat.le_of_ble_eq_true rfl) dX8_lay_1 ?_
  refine CM.mono h (fun r2 M1 h => ?_)
  refine wp_bipush (pc := 4) (v := (-4)) X dX8_lay_4 (by decide) ?_
  refine wp_icmp_ne (pc := 6) (tgt := 18) X dX8_lay_6 (by decide) (fun hc => ?_) (fun hc => ?_)
  · replace h := h.1 hc
    refine wp_bipush (pc := 18) (v := (-2)) X dX8_lay_18 (by decide) ?_
    exact wp_iret (pc := 20) X T dX8_lay_20 h
  · replace h := h.2 hc
    refine wp_aload_n (pc := 9) X dX8_lay_9 rfl rfl ?_
    refine wp_get (pc := 10) X fl_X8_16 A_139 (by decide) (fg_8_4 A_139) dX8_lay_10 ?_
    refine wp_iconst (pc := 13) (v := nI 0) X dX8_lay_13 (by decide) ?_
    refine wn_iald (pc := 14) X A_142 (by decide) (by decide) dX8_lay_14 ?_
    refine wp_if_ne (pc := 15) (tgt := 21) X dX8_lay_15 (by decide) (fun hc => ?_) (fun hc => ?_)
    · replace h := h.1 hc
      refine wp_aload_n (pc := 21) X dX8_lay_21 rfl rfl ?_
      refine wp_aload_n (pc := 22) X dX8_lay_22 rfl rfl ?_
      refine wp_get (pc := 23) X fl_X8_51 A_139 (by decide) (fg_8_7 A_139) dX8_lay_23 ?_
      refine wp_aload_n (pc := 26) X dX8_lay_26 rfl rfl ?_
      refine wp_get (pc := 27) X fl_X8_54 A_139 (by decide) (fg_8_8 A_139) dX8_lay_27 ?_
      refine wp_invVv (pc := 30) X sv_X8_23 A_139 (by decide) rfl ⟨by decide, by decide⟩ (As := [.int (M1 139 7), .int (M1 139 8)]) (st := []) rfl rfl (Nat.le_of_ble_eq_true rfl) dX8_lay_30 ?_
      refine CM.mono h (fun _ M3 h => ?_)
      refine wp_aload_n (pc := 33) X dX8_lay_33 rfl rfl ?_
      refine wp_get (pc := 34) X fl_X8_7 A_139 (by decide) (fg_8_0 A_139) dX8_lay_34 ?_
      refine wp_bipush (pc := 37) (v := nI 42) X dX8_lay_37 (by decide) ?_
      refine wn_iald (pc := 39) X A_140 (by decide) (by decide) dX8_lay_39 ?_
      exact wp_iret (pc := 40) X T dX8_lay_40 h
    · replace h := h.2 hc
      refine wp_bipush (pc := 18) (v := (-2)) X dX8_lay_18 (by decide) ?_
      exact wp_iret (pc := 20) X T dX8_lay_20 h
theorem r_X8_sendsNext_0 {x : CT} {L : List Nat} {Q : Int32 → Mem → Prop} {M : Mem}  {r : Nat} (X : BS x L cX8_sendsNext 5 RX8 (m_X8_sendsNext).2.2.2.2) (T : RT x L (some .int) Q) 
    (h : WP x L 7 [some (.ref 139), some (.int (nI r)), some (.int (nI 0)), some (.int (nI 0)), some (.int (nI 0))] [] M) : WP x L 0 [some (.ref 139), some (.int (nI r)), none, none, none] [] M := by
  refine wp_iconst (pc := 0) (v := nI 0) X dX8_sendsNext_0 (by decide) ?_
  refine wp_istore_n (pc := 1) (lo' := [some (.ref 139), some (.int (nI r)), some (.int (nI 0)), none, none]) X dX8_sendsNext_1 rfl (Nat.le_of_ble_eq_true rfl) rfl rfl ?_
  refine wp_iconst (pc := 2) (v := nI 0) X dX8_sendsNext_2 (by decide) ?_
  refine wp_istore_n (pc := 3) (lo' := [some (.ref 139), some (.int (nI r)), some (.int (nI 0)), some (.int (nI 0)), none]) X dX8_sendsNext_3 rfl (Nat.le_of_ble_eq_true rfl) rfl rfl ?_
  refine wp_iconst (pc := 4) (v := nI 0) X dX8_sendsNext_4 (by decide) ?_
  refine wp_istore (pc := 5) (lo' := [some (.ref 139), some (.int (nI r)), some (.int (nI 0)), some (.int (nI 0)), some (.int (nI 0))]) X dX8_sendsNext_5 (Nat.le_of_ble_eq_true rfl) rfl rfl ?_
  exact h
theorem r_X8_sendsNext_7 {x : CT} {L : List Nat} {Q : Int32 → Mem → Prop} {M : Mem}  {r b f : Nat} {a2 : Int32} (X : BS x L cX8_sendsNext 5 RX8 (m_X8_sendsNext).2.2.2.2) (T : RT x L (some .int) Q) (A_139 : AC L 139 8 0) (A_140 : AC L 140 9 918)
    (h : (r + 42) < 918 ∧ ∃ v2 : Nat, M 140 (r + 42) = nI v2 ∧ f < 2 ^ 31 ∧ v2 < 2 ^ 31 ∧ (v2 ≤ f → (r + 30 + b) < 918 ∧ (r + 30 + b) < 918 ∧ Q (nI b) (MU M 140 (r + 30 + b) ((M 140 (r + 30 + b)) - a2))) ∧ (f < v2 → (r + 30 + f) < 918 ∧ (r + 12 + f) < 918 ∧ (r + 30 + f) < 918 ∧ (r + 12 + f) < 918 ∧ (r + 30 + f) < 918 ∧ (r + 30 + b) < 918 ∧ (((MU M 140 (r + 30 + f) ((M 140 (r + 30 + f)) + (M 140 (r + 12 + f)))) 140 (r + 30 + f)) ≤ ((MU M 140 (r + 30 + f) ((M 140 (r + 30 + f)) + (M 140 (r + 12 + f)))) 140 (r + 30 + b)) → WP x L 7 [some (.ref 139), some (.int (nI r)), some (.int (a2 + ((MU M 140 (r + 30 + f) ((M 140 (r + 30 + f)) + (M 140 (r + 12 + f)))) 140 (r + 12 + f)))), some (.int (nI b)), some (.int (nI (f + 1)))] [] (MU M 140 (r + 30 + f) ((M 140 (r + 30 + f)) + (M 140 (r + 12 + f))))) ∧ (¬ ((MU M 140 (r + 30 + f) ((M 140 (r + 30 + f)) + (M 140 (r + 12 + f)))) 140 (r + 30 + f)) ≤ ((MU M 140 (r + 30 + f) ((M 140 (r + 30 + f)) + (M 140 (r + 12 + f)))) 140 (r + 30 + b)) → WP x L 7 [some (.ref 139), some (.int (nI r)), some (.int (a2 + ((MU M 140 (r + 30 + f) ((M 140 (r + 30 + f)) + (M 140 (r + 12 + f)))) 140 (r + 12 + f)))), some (.int (nI f)), some (.int (nI (f + 1)))] [] (MU M 140 (r + 30 + f) ((M 140 (r + 30 + f)) + (M 140 (r + 12 + f))))))) : WP x L 7 [some (.ref 139), some (.int (nI r)), some (.int a2), some (.int (nI b)), some (.int (nI f))] [] M := by
  refine wp_iload (pc := 7) X dX8_sendsNext_7 rfl ?_
  refine wp_aload_n (pc := 9) X dX8_sendsNext_9 rfl rfl ?_
  refine wp_get (pc := 10) X fl_X8_7 A_139 (by decide) (fg_8_0 A_139) dX8_sendsNext_10 ?_
  refine wp_iload_n (pc := 13) X dX8_sendsNext_13 rfl rfl ?_
  refine wp_bipush (pc := 14) (v := nI 42) X dX8_sendsNext_14 (by decide) ?_
  refine wn_iadd (pc := 16) X dX8_sendsNext_16 ?_
  obtain ⟨hj1, v2, he3, h⟩ := h
  refine we_iald (pc := 17) X A_140 hj1 (by decide) he3 dX8_sendsNext_17 ?_
  obtain ⟨hb12, hb13, h⟩ := h
  refine wn_icmp_ge (pc := 18) (tgt := 102) X dX8_sendsNext_18 (by decide) hb12 hb13 (fun hc => ?_) (fun hc => ?_)
  · replace h := h.1 hc
    refine wp_aload_n (pc := 102) X dX8_sendsNext_102 rfl rfl ?_
    refine wp_get (pc := 103) X fl_X8_7 A_139 (by decide) (fg_8_0 A_139) dX8_sendsNext_103 ?_
    refine wp_iload_n (pc := 106) X dX8_sendsNext_106 rfl rfl ?_
    refine wp_bipush (pc := 107) (v := nI 30) X dX8_sendsNext_107 (by decide) ?_
    refine wn_iadd (pc := 109) X dX8_sendsNext_109 ?_
    refine wp_iload_n (pc := 110) X dX8_sendsNext_110 rfl rfl ?_
    refine wn_iadd (pc := 111) X dX8_sendsNext_111 ?_
    refine wp_dup2 (pc := 112) X dX8_sendsNext_112 rfl rfl ?_
    obtain ⟨hj4, h⟩ := h
    refine wn_iald (pc := 113) X A_140 hj4 (by decide) dX8_sendsNext_113 ?_
    refine wp_iload_n (pc := 114) X dX8_sendsNext_114 rfl rfl ?_
    refine wp_isub (pc := 115) X dX8_sendsNext_115 ?_
    obtain ⟨hj5, h⟩ := h
    refine wn_iast (pc := 116) X A_140 hj5 (by decide) dX8_sendsNext_116 ?_
    refine wp_iload_n (pc := 117) X dX8_sendsNext_117 rfl rfl ?_
    exact wp_iret (pc := 118) X T dX8_sendsNext_118 h
  · replace h := h.2 hc
    refine wp_aload_n (pc := 21) X dX8_sendsNext_21 rfl rfl ?_
    refine wp_get (pc := 22) X fl_X8_7 A_139 (by decide) (fg_8_0 A_139) dX8_sendsNext_22 ?_
    refine wp_iload_n (pc := 25) X dX8_sendsNext_25 rfl rfl ?_
    refine wp_bipush (pc := 26) (v := nI 30) X dX8_sendsNext_26 (by decide) ?_
    refine wn_iadd (pc := 28) X dX8_sendsNext_28 ?_
    refine wp_iload (pc := 29) X dX8_sendsNext_29 rfl ?_
    refine wn_iadd (pc := 31) X dX8_sendsNext_31 ?_
    refine wp_dup2 (pc := 32) X dX8_sendsNext_32 rfl rfl ?_
    obtain ⟨hj6, h⟩ := h
    refine wn_iald (pc := 33) X A_140 hj6 (by decide) dX8_sendsNext_33 ?_
    refine wp_aload_n (pc := 34) X dX8_sendsNext_34 rfl rfl ?_
    refine wp_get (pc := 35) X fl_X8_7 A_139 (by decide) (fg_8_0 A_139) dX8_sendsNext_35 ?_
    refine wp_iload_n (pc := 38) X dX8_sendsNext_38 rfl rfl ?_
    refine wp_bipush (pc := 39) (v := nI 12) X dX8_sendsNext_39 (by decide) ?_
    refine wn_iadd (pc := 41) X dX8_sendsNext_41 ?_
    refine wp_iload (pc := 42) X dX8_sendsNext_42 rfl ?_
    refine wn_iadd (pc := 44) X dX8_sendsNext_44 ?_
    obtain ⟨hj7, h⟩ := h
    refine wn_iald (pc := 45) X A_140 hj7 (by decide) dX8_sendsNext_45 ?_
    refine wp_iadd (pc := 46) X dX8_sendsNext_46 ?_
    obtain ⟨hj8, h⟩ := h
    refine wn_iast (pc := 47) X A_140 hj8 (by decide) dX8_sendsNext_47 ?_
    refine wp_iload_n (pc := 48) X dX8_sendsNext_48 rfl rfl ?_
    refine wp_aload_n (pc := 49) X dX8_sendsNext_49 rfl rfl ?_
    refine wp_get (pc := 50) X fl_X8_7 A_139 (by decide) (fg_8_0 A_139) dX8_sendsNext_50 ?_
    refine wp_iload_n (pc := 53) X dX8_sendsNext_53 rfl rfl ?_
    refine wp_bipush (pc := 54) (v := nI 12) X dX8_sendsNext_54 (by decide) ?_
    refine wn_iadd (pc := 56) X dX8_sendsNext_56 ?_
    refine wp_iload (pc := 57) X dX8_sendsNext_57 rfl ?_
    refine wn_iadd (pc := 59) X dX8_sendsNext_59 ?_
    obtain ⟨hj9, h⟩ := h
    refine wn_iald (pc := 60) X A_140 hj9 (by decide) dX8_sendsNext_60 ?_
    refine wp_iadd (pc := 61) X dX8_sendsNext_61 ?_
    refine wp_istore_n (pc := 62) (lo' := [some (.ref 139), some (.int (nI r)), some (.int (a2 + ((MU M 140 (r + 30 + f) ((M 140 (r + 30 + f)) + (M 140 (r + 12 + f)))) 140 (r + 12 + f)))), some (.int (nI b)), some (.int (nI f))]) X dX8_sendsNext_62 rfl (Nat.le_of_ble_eq_true rfl) rfl rfl ?_
    refine wp_aload_n (pc := 63) X dX8_sendsNext_63 rfl rfl ?_
    refine wp_get (pc := 64) X fl_X8_7 A_139 (by decide) (fg_8_0 A_139) dX8_sendsNext_64 ?_
    refine wp_iload_n (pc := 67) X dX8_sendsNext_67 rfl rfl ?_
    refine wp_bipush (pc := 68) (v := nI 30) X dX8_sendsNext_68 (by decide) ?_
    refine wn_iadd (pc := 70) X dX8_sendsNext_70 ?_
    refine wp_iload (pc := 71) X dX8_sendsNext_71 rfl ?_
    refine wn_iadd (pc := 73) X dX8_sendsNext_73 ?_
    obtain ⟨hj10, h⟩ := h
    refine wn_iald (pc := 74) X A_140 hj10 (by decide) dX8_sendsNext_74 ?_
    refine wp_aload_n (pc := 75) X dX8_sendsNext_75 rfl rfl ?_
    refine wp_get (pc := 76) X fl_X8_7 A_139 (by decide) (fg_8_0 A_139) dX8_sendsNext_76 ?_
    refine wp_iload_n (pc := 79) X dX8_sendsNext_79 rfl rfl ?_
    refine wp_bipush (pc := 80) (v := nI 30) X dX8_sendsNext_80 (by decide) ?_
    refine wn_iadd (pc := 82) X dX8_sendsNext_82 ?_
    refine wp_iload_n (pc := 83) X dX8_sendsNext_83 rfl rfl ?_
    refine wn_iadd (pc := 84) X dX8_sendsNext_84 ?_
    obtain ⟨hj11, h⟩ := h
    refine wn_iald (pc := 85) X A_140 hj11 (by decide) dX8_sendsNext_85 ?_
    refine wp_icmp_le (pc := 86) (tgt := 94) X dX8_sendsNext_86 (by decide) (fun hc => ?_) (fun hc => ?_)
    · replace h := h.1 hc
      refine wp_iload_n (pc := 94) X dX8_sendsNext_94 rfl rfl ?_
      refine wp_istore_n (pc := 95) (lo' := [some (.ref 139), some (.int (nI r)), some (.int (a2 + ((MU M 140 (r + 30 + f) ((M 140 (r + 30 + f)) + (M 140 (r + 12 + f)))) 140 (r + 12 + f)))), some (.int (nI b)), some (.int (nI f))]) X dX8_sendsNext_95 rfl (Nat.le_of_ble_eq_true rfl) rfl rfl ?_
      refine wn_iinc (pc := 96) (d := 1) (lo' := [some (.ref 139), some (.int (nI r)), some (.int (a2 + ((MU M 140 (r + 30 + f) ((M 140 (r + 30 + f)) + (M 140 (r + 12 + f)))) 140 (r + 12 + f)))), some (.int (nI b)), some (.int (nI (f + 1)))]) X dX8_sendsNext_96 rfl (by decide) rfl rfl ?_
      refine wp_goto (pc := 99) (tgt := 7) X dX8_sendsNext_99 (by decide) ?_
      exact h
    · replace h := h.2 hc
      refine wp_iload (pc := 89) X dX8_sendsNext_89 rfl ?_
      refine wp_goto (pc := 91) (tgt := 95) X dX8_sendsNext_91 (by decide) ?_
      refine wp_istore_n (pc := 95) (lo' := [some (.ref 139), some (.int (nI r)), some (.int (a2 + ((MU M 140 (r + 30 + f) ((M 140 (r + 30 + f)) + (M 140 (r + 12 + f)))) 140 (r + 12 + f)))), some (.int (nI f)), some (.int (nI f))]) X dX8_sendsNext_95 rfl (Nat.le_of_ble_eq_true rfl) rfl rfl ?_
      refine wn_iinc (pc := 96) (d := 1) (lo' := [some (.ref 139), some (.int (nI r)), some (.int (a2 + ((MU M 140 (r + 30 + f) ((M 140 (r + 30 + f)) + (M 140 (r + 12 + f)))) 140 (r + 12 + f)))), some (.int (nI f)), some (.int (nI (f + 1)))]) X dX8_sendsNext_96 rfl (by decide) rfl rfl ?_
      refine wp_goto (pc := 99) (tgt := 7) X dX8_sendsNext_99 (by decide) ?_
      exact h
theorem r_X8_logs_0 {x : CT} {L : List Nat} {Q : Int32 → Mem → Prop} {M : Mem}  {r : Nat} {a2 a3 a4 : Int32} (X : BS x L cX8_logs 6 RX8 (m_X8_logs).2.2.2.2) (T : RT x L none Q) 
    (h : WP x L 4 [some (.ref 139), some (.int (nI r)), some (.int a2), some (.int a3), some (.int a4), some (.int (nI 39))] [] M) : WP x L 0 [some (.ref 139), some (.int (nI r)), some (.int a2), some (.int a3), some (.int a4), none] [] M := by
  refine wp_bipush (pc := 0) (v := nI 39) X dX8_logs_0 (by decide) ?_
  refine wp_istore (pc := 2) (lo' := [some (.ref 139), some (.int (nI r)), some (.int a2), some (.int a3), some (.int a4), some (.int (nI 39))]) X dX8_logs_2 (Nat.le_of_ble_eq_true rfl) rfl rfl ?_
  exact h
theorem r_X8_logs_4 {x : CT} {L : List Nat} {Q : Int32 → Mem → Prop} {M : Mem}  {r k : Nat} {a2 a3 a4 : Int32} (X : BS x L cX8_logs 6 RX8 (m_X8_logs).2.2.2.2) (T : RT x L none Q) (A_139 : AC L 139 8 0) (A_140 : AC L 140 9 918)
    (h : k < 2 ^ 31 ∧ (k ≤ 3 → (r + 49) < 918 ∧ (r + 49 + 1) < 918 ∧ (r + 49 + 2) < 918 ∧ (r + 45) < 918 ∧ (r + 49 + 3) < 918 ∧ Q 0 (MU (MU (MU (MU M 140 (r + 49) a2) 140 (r + 49 + 1) a3) 140 (r + 49 + 2) a4) 140 (r + 49 + 3) ((MU (MU (MU M 140 (r + 49) a2) 140 (r + 49 + 1) a3) 140 (r + 49 + 2) a4) 140 (r + 45)))) ∧ (3 < k → 4 ≤ (r + 49 + k) ∧ ((r + 49 + k) - 4) < 918 ∧ (r + 49 + k) < 918 ∧ 1 ≤ k ∧ WP x L 4 [some (.ref 139), some (.int (nI r)), some (.int a2), some (.int a3), some (.int a4), some (.int (nI (k - 1)))] [] (MU M 140 (r + 49 + k) (M 140 ((r + 49 + k) - 4))))) : WP x L 4 [some (.ref 139), some (.int (nI r)), some (.int a2), some (.int a3), some (.int a4), some (.int (nI k))] [] M := by
  refine wp_iload (pc := 4) X dX8_logs_4 rfl ?_
  refine wp_iconst (pc := 6) (v := nI 3) X dX8_logs_6 (by decide) ?_
  obtain ⟨hb10, h⟩ := h
  refine wn_icmp_le (pc := 7) (tgt := 42) X dX8_logs_7 (by decide) hb10 (by decide) (fun hc => ?_) (fun hc => ?_)
  · replace h := h.1 hc
    refine wp_aload_n (pc := 42) X dX8_logs_42 rfl rfl ?_
    refine wp_get (pc := 43) X fl_X8_7 A_139 (by decide) (fg_8_0 A_139) dX8_logs_43 ?_
    refine wp_iload_n (pc := 46) X dX8_logs_46 rfl rfl ?_
    refine wp_bipush (pc := 47) (v := nI 49) X dX8_logs_47 (by decide) ?_
    refine wn_iadd (pc := 49) X dX8_logs_49 ?_
    refine wp_iload_n (pc := 50) X dX8_logs_50 rfl rfl ?_
    obtain ⟨hj1, h⟩ := h
    refine wn_iast (pc := 51) X A_140 hj1 (by decide) dX8_logs_51 ?_
    refine wp_aload_n (pc := 52) X dX8_logs_52 rfl rfl ?_
    refine wp_get (pc := 53) X fl_X8_7 A_139 (by decide) (fg_8_0 A_139) dX8_logs_53 ?_
    refine wp_iload_n (pc := 56) X dX8_logs_56 rfl rfl ?_
    refine wp_bipush (pc := 57) (v := nI 49) X dX8_logs_57 (by decide) ?_
    refine wn_iadd (pc := 59) X dX8_logs_59 ?_
    refine wp_iconst (pc := 60) (v := nI 1) X dX8_logs_60 (by decide) ?_
    refine wn_iadd (pc := 61) X dX8_logs_61 ?_
    refine wp_iload_n (pc := 62) X dX8_logs_62 rfl rfl ?_
    obtain ⟨hj2, h⟩ := h
    refine wn_iast (pc := 63) X A_140 hj2 (by decide) dX8_logs_63 ?_
    refine wp_aload_n (pc := 64) X dX8_logs_64 rfl rfl ?_
    refine wp_get (pc := 65) X fl_X8_7 A_139 (by decide) (fg_8_0 A_139) dX8_logs_65 ?_
    refine wp_iload_n (pc := 68) X dX8_logs_68 rfl rfl ?_
    refine wp_bipush (pc := 69) (v := nI 49) X dX8_logs_69 (by decide) ?_
    refine wn_iadd (pc := 71) X dX8_logs_71 ?_
    refine wp_iconst (pc := 72) (v := nI 2) X dX8_logs_72 (by decide) ?_
    refine wn_iadd (pc := 73) X dX8_logs_73 ?_
    refine wp_iload (pc := 74) X dX8_logs_74 rfl ?_
    obtain ⟨hj3, h⟩ := h
    refine wn_iast (pc := 76) X A_140 hj3 (by decide) dX8_logs_76 ?_
    refine wp_aload_n (pc := 77) X dX8_logs_77 rfl rfl ?_
    refine wp_get (pc := 78) X fl_X8_7 A_139 (by decide) (fg_8_0 A_139) dX8_logs_78 ?_
    refine wp_iload_n (pc := 81) X dX8_logs_81 rfl rfl ?_
    refine wp_bipush (pc := 82) (v := nI 49) X dX8_logs_82 (by decide) ?_
    refine wn_iadd (pc := 84) X dX8_logs_84 ?_
    refine wp_iconst (pc := 85) (v := nI 3) X dX8_logs_85 (by decide) ?_
    refine wn_iadd (pc := 86) X dX8_logs_86 ?_
    refine wp_aload_n (pc := 87) X dX8_logs_87 rfl rfl ?_
    refine wp_get (pc := 88) X fl_X8_7 A_139 (by decide) (fg_8_0 A_139) dX8_logs_88 ?_
    refine wp_iload_n (pc := 91) X dX8_logs_91 rfl rfl ?_
    refine wp_bipush (pc := 92) (v := nI 45) X dX8_logs_92 (by decide) ?_
    refine wn_iadd (pc := 94) X dX8_logs_94 ?_
    obtain ⟨hj4, h⟩ := h
    refine wn_iald (pc := 95) X A_140 hj4 (by decide) dX8_logs_95 ?_
    obtain ⟨hj5, h⟩ := h
    refine wn_iast (pc := 96) X A_140 hj5 (by decide) dX8_logs_96 ?_
    exact wp_ret (pc := 97) X T dX8_logs_97 h
  · replace h := h.2 hc
    refine wp_aload_n (pc := 10) X dX8_logs_10 rfl rfl ?_
    refine wp_get (pc := 11) X fl_X8_7 A_139 (by decide) (fg_8_0 A_139) dX8_logs_11 ?_
    refine wp_iload_n (pc := 14) X dX8_logs_14 rfl rfl ?_
    refine wp_bipush (pc := 15) (v := nI 49) X dX8_logs_15 (by decide) ?_
    refine wn_iadd (pc := 17) X dX8_logs_17 ?_
    refine wp_iload (pc := 18) X dX8_logs_18 rfl ?_
    refine wn_iadd (pc := 20) X dX8_logs_20 ?_
    refine wp_aload_n (pc := 21) X dX8_logs_21 rfl rfl ?_
    refine wp_get (pc := 22) X fl_X8_7 A_139 (by decide) (fg_8_0 A_139) dX8_logs_22 ?_
    refine wp_iload_n (pc := 25) X dX8_logs_25 rfl rfl ?_
    refine wp_bipush (pc := 26) (v := nI 49) X dX8_logs_26 (by decide) ?_
    refine wn_iadd (pc := 28) X dX8_logs_28 ?_
    refine wp_iload (pc := 29) X dX8_logs_29 rfl ?_
    refine wn_iadd (pc := 31) X dX8_logs_31 ?_
    refine wp_iconst (pc := 32) (v := nI 4) X dX8_logs_32 (by decide) ?_
    obtain ⟨hb6, h⟩ := h
    refine wn_isub (pc := 33) X dX8_logs_33 hb6 ?_
    obtain ⟨hj7, h⟩ := h
    refine wn_iald (pc := 34) X A_140 hj7 (by decide) dX8_logs_34 ?_
    obtain ⟨hj8, h⟩ := h
    refine wn_iast (pc := 35) X A_140 hj8 (by decide) dX8_logs_35 ?_
    obtain ⟨hb9, h⟩ := h
    refine wn_idec (pc := 36) (lo' := [some (.ref 139), some (.int (nI r)), some (.int a2), some (.int a3), some (.int a4), some (.int (nI (k - 1)))]) X dX8_logs_36 rfl hb9 rfl rfl ?_
    refine wp_goto (pc := 39) (tgt := 4) X dX8_logs_39 (by decide) ?_
    exact h
theorem r_X8_isLost_0 {x : CT} {L : List Nat} {Q : Int32 → Mem → Prop} {M : Mem}  {r l : Nat} (X : BS x L cX8_isLost 5 RX8 (m_X8_isLost).2.2.2.2) (T : RT x L (some .boolean) Q) (A_139 : AC L 139 8 0) (A_140 : AC L 140 9 918)
    (h : (r + 45) < 918 ∧ (r + 89 + (16 * l) + 0) < 918 ∧ (0 ≤ (lg_cmp (((((((7919 : Int64) * (Int32.toInt64 (nI l))) + ((3571 : Int64) * (Int32.toInt64 (M 140 (r + 45))))) + (1 : Int64)) * ((((7919 : Int64) * (Int32.toInt64 (nI l))) + ((3571 : Int64) * (Int32.toInt64 (M 140 (r + 45))))) + (1 : Int64))) - (((((7919 : Int64) * (Int32.toInt64 (nI l))) + ((3571 : Int64) * (Int32.toInt64 (M 140 (r + 45))))) + (1 : Int64)) * ((((7919 : Int64) * (Int32.toInt64 (nI l))) + ((3571 : Int64) * (Int32.toInt64 (M 140 (r + 45))))) + (1 : Int64))) / (65521 : Int64) * (65521 : Int64)) - ((((((7919 : Int64) * (Int32.toInt64 (nI l))) + ((3571 : Int64) * (Int32.toInt64 (M 140 (r + 45))))) + (1 : Int64)) * ((((7919 : Int64) * (Int32.toInt64 (nI l))) + ((3571 : Int64) * (Int32.toInt64 (M 140 (r + 45))))) + (1 : Int64))) - (((((7919 : Int64) * (Int32.toInt64 (nI l))) + ((3571 : Int64) * (Int32.toInt64 (M 140 (r + 45))))) + (1 : Int64)) * ((((7919 : Int64) * (Int32.toInt64 (nI l))) + ((3571 : Int64) * (Int32.toInt64 (M 140 (r + 45))))) + (1 : Int64))) / (65521 : Int64) * (65521 : Int64)) / (100 : Int64) * (100 : Int64)) (Int32.toInt64 (M 140 (r + 89 + (16 * l) + 0)))) → Q (nI 0) M) ∧ (¬ 0 ≤ (lg_cmp (((((((7919 : Int64) * (Int32.toInt64 (nI l))) + ((3571 : Int64) * (Int32.toInt64 (M 140 (r + 45))))) + (1 : Int64)) * ((((7919 : Int64) * (Int32.toInt64 (nI l))) + ((3571 : Int64) * (Int32.toInt64 (M 140 (r + 45))))) + (1 : Int64))) - (((((7919 : Int64) * (Int32.toInt64 (nI l))) + ((3571 : Int64) * (Int32.toInt64 (M 140 (r + 45))))) + (1 : Int64)) * ((((7919 : Int64) * (Int32.toInt64 (nI l))) + ((3571 : Int64) * (Int32.toInt64 (M 140 (r + 45))))) + (1 : Int64))) / (65521 : Int64) * (65521 : Int64)) - ((((((7919 : Int64) * (Int32.toInt64 (nI l))) + ((3571 : Int64) * (Int32.toInt64 (M 140 (r + 45))))) + (1 : Int64)) * ((((7919 : Int64) * (Int32.toInt64 (nI l))) + ((3571 : Int64) * (Int32.toInt64 (M 140 (r + 45))))) + (1 : Int64))) - (((((7919 : Int64) * (Int32.toInt64 (nI l))) + ((3571 : Int64) * (Int32.toInt64 (M 140 (r + 45))))) + (1 : Int64)) * ((((7919 : Int64) * (Int32.toInt64 (nI l))) + ((3571 : Int64) * (Int32.toInt64 (M 140 (r + 45))))) + (1 : Int64))) / (65521 : Int64) * (65521 : Int64)) / (100 : Int64) * (100 : Int64)) (Int32.toInt64 (M 140 (r + 89 + (16 * l) + 0)))) → Q (nI 1) M)) : WP x L 0 [some (.ref 139), some (.int (nI r)), some (.int (nI l)), none, none] [] M := by
  refine wp_ldc2 (pc := 0) (v := 7919) X dX8_isLost_0 k_713 ?_
  refine wp_iload_n (pc := 3) X dX8_isLost_3 rfl rfl ?_
  refine wp_i2l (pc := 4) X dX8_isLost_4 ?_
  refine wp_lmul (pc := 5) X dX8_isLost_5 ?_
  refine wp_ldc2 (pc := 6) (v := 3571) X dX8_isLost_6 k_714 ?_
  refine wp_aload_n (pc := 9) X dX8_isLost_9 rfl rfl ?_
  refine wp_get (pc := 10) X fl_X8_7 A_139 (by decide) (fg_8_0 A_139) dX8_isLost_10 ?_
  refine wp_iload_n (pc := 13) X dX8_isLost_13 rfl rfl ?_
  refine wp_bipush (pc := 14) (v := nI 45) X dX8_isLost_14 (by decide) ?_
  refine wn_iadd (pc := 16) X dX8_isLost_16 ?_
  obtain ⟨hj1, h⟩ := h
  refine wn_iald (pc := 17) X A_140 hj1 (by decide) dX8_isLost_17 ?_
  refine wp_i2l (pc := 18) X dX8_isLost_18 ?_
  refine wp_lmul (pc := 19) X dX8_isLost_19 ?_
  refine wp_ladd (pc := 20) X dX8_isLost_20 ?_
  refine wp_lconst (pc := 21) (v := 1) X dX8_isLost_21 (by decide) ?_
  refine wp_ladd (pc := 22) X dX8_isLost_22 ?_
  refine wp_lstore_n (pc := 23) (lo' := [some (.ref 139), some (.int (nI r)), some (.int (nI l)), some (.long ((((7919 : Int64) * (Int32.toInt64 (nI l))) + ((3571 : Int64) * (Int32.toInt64 (M 140 (r + 45))))) + (1 : Int64))), none]) X dX8_isLost_23 rfl (Nat.le_of_ble_eq_true rfl) rfl rfl ?_
  refine wp_lload_n (pc := 24) X dX8_isLost_24 rfl rfl ?_
  refine wp_lload_n (pc := 25) X dX8_isLost_25 rfl rfl ?_
  refine wp_lmul (pc := 26) X dX8_isLost_26 ?_
  refine wp_ldc2 (pc := 27) (v := 65521) X dX8_isLost_27 k_715 ?_
  refine wp_lrem (pc := 30) X dX8_isLost_30 (by decide) ?_
  refine wp_ldc2 (pc := 31) (v := 100) X dX8_isLost_31 k_716 ?_
  refine wp_lrem (pc := 34) X dX8_isLost_34 (by decide) ?_
  refine wp_aload_n (pc := 35) X dX8_isLost_35 rfl rfl ?_
  refine wp_get (pc := 36) X fl_X8_7 A_139 (by decide) (fg_8_0 A_139) dX8_isLost_36 ?_
  refine wp_iload_n (pc := 39) X dX8_isLost_39 rfl rfl ?_
  refine wp_bipush (pc := 40) (v := nI 89) X dX8_isLost_40 (by decide) ?_
  refine wn_iadd (pc := 42) X dX8_isLost_42 ?_
  refine wp_bipush (pc := 43) (v := nI 16) X dX8_isLost_43 (by decide) ?_
  refine wp_iload_n (pc := 45) X dX8_isLost_45 rfl rfl ?_
  refine wn_imul (pc := 46) X dX8_isLost_46 ?_
  refine wn_iadd (pc := 47) X dX8_isLost_47 ?_
  refine wp_iconst (pc := 48) (v := nI 0) X dX8_isLost_48 (by decide) ?_
  refine wn_iadd (pc := 49) X dX8_isLost_49 ?_
  obtain ⟨hj2, h⟩ := h
  refine wn_iald (pc := 50) X A_140 hj2 (by decide) dX8_isLost_50 ?_
  refine wp_i2l (pc := 51) X dX8_isLost_51 ?_
  refine wp_lcmp (pc := 52) X dX8_isLost_52 ?_
  refine wp_if_ge (pc := 53) (tgt := 60) X dX8_isLost_53 (by decide) (fun hc => ?_) (fun hc => ?_)
  · replace h := h.1 hc
    refine wp_iconst (pc := 60) (v := nI 0) X dX8_isLost_60 (by decide) ?_
    exact wp_zret (pc := 61) X T (by decide) dX8_isLost_61 h
  · replace h := h.2 hc
    refine wp_iconst (pc := 56) (v := nI 1) X dX8_isLost_56 (by decide) ?_
    refine wp_goto (pc := 57) (tgt := 61) X dX8_isLost_57 (by decide) ?_
    exact wp_zret (pc := 61) X T (by decide) dX8_isLost_61 h
theorem r_X8_hearsTable_0 {x : CT} {L : List Nat} {Q : Int32 → Mem → Prop} {M : Mem}  {r p : Nat} (X : BS x L cX8_hearsTable 5 RX8 (m_X8_hearsTable).2.2.2.2) (T : RT x L none Q) (A_139 : AC L 139 8 0) (A_140 : AC L 140 9 918)
    (h : (r + 45) < 918 ∧ (r + 44) < 918 ∧ (p + 2) < 918 ∧ WP x L 31 [some (.ref 139), some (.int (nI r)), some (.int (nI p)), some (.int (nI 0)), none] [] (MU M 140 (p + 2) (((M 140 (r + 45)) + (M 140 (r + 44))) - (nI 1)))) : WP x L 0 [some (.ref 139), some (.int (nI r)), some (.int (nI p)), none, none] [] M := by
  refine wp_aload_n (pc := 0) X dX8_hearsTable_0 rfl rfl ?_
  refine wp_get (pc := 1) X fl_X8_7 A_139 (by decide) (fg_8_0 A_139) dX8_hearsTable_1 ?_
  refine wp_iload_n (pc := 4) X dX8_hearsTable_4 rfl rfl ?_
  refine wp_iconst (pc := 5) (v := nI 2) X dX8_hearsTable_5 (by decide) ?_
  refine wn_iadd (pc := 6) X dX8_hearsTable_6 ?_
  refine wp_aload_n (pc := 7) X dX8_hearsTable_7 rfl rfl ?_
  refine wp_get (pc := 8) X fl_X8_7 A_139 (by decide) (fg_8_0 A_139) dX8_hearsTable_8 ?_
  refine wp_iload_n (pc := 11) X dX8_hearsTable_11 rfl rfl ?_
  refine wp_bipush (pc := 12) (v := nI 45) X dX8_hearsTable_12 (by decide) ?_
  refine wn_iadd (pc := 14) X dX8_hearsTable_14 ?_
  obtain ⟨hj1, h⟩ := h
  refine wn_iald (pc := 15) X A_140 hj1 (by decide) dX8_hearsTable_15 ?_
  refine wp_aload_n (pc := 16) X dX8_hearsTable_16 rfl rfl ?_
  refine wp_get (pc := 17) X fl_X8_7 A_139 (by decide) (fg_8_0 A_139) dX8_hearsTable_17 ?_
  refine wp_iload_n (pc := 20) X dX8_hearsTable_20 rfl rfl ?_
  refine wp_bipush (pc := 21) (v := nI 44) X dX8_hearsTable_21 (by decide) ?_
  refine wn_iadd (pc := 23) X dX8_hearsTable_23 ?_
  obtain ⟨hj2, h⟩ := h
  refine wn_iald (pc := 24) X A_140 hj2 (by decide) dX8_hearsTable_24 ?_
  refine wp_iadd (pc := 25) X dX8_hearsTable_25 ?_
  refine wp_iconst (pc := 26) (v := nI 1) X dX8_hearsTable_26 (by decide) ?_
  refine wp_isub (pc := 27) X dX8_hearsTable_27 ?_
  obtain ⟨hj3, h⟩ := h
  refine wn_iast (pc := 28) X A_140 hj3 (by decide) dX8_hearsTable_28 ?_
  refine wp_iconst (pc := 29) (v := nI 0) X dX8_hearsTable_29 (by decide) ?_
  refine wp_istore_n (pc := 30) (lo' := [some (.ref 139), some (.int (nI r)), some (.int (nI p)), some (.int (nI 0)), none]) X dX8_hearsTable_30 rfl (Nat.le_of_ble_eq_true rfl) rfl rfl ?_
  exact h
theorem r_X8_hearsTable_31 {x : CT} {L : List Nat} {Q : Int32 → Mem → Prop} {M : Mem}  {r p f : Nat} (X : BS x L cX8_hearsTable 5 RX8 (m_X8_hearsTable).2.2.2.2) (T : RT x L none Q) (A_139 : AC L 139 8 0) (A_140 : AC L 140 9 918)
    (h : (r + 42) < 918 ∧ ∃ v2 : Nat, M 140 (r + 42) = nI v2 ∧ f < 2 ^ 31 ∧ v2 < 2 ^ 31 ∧ (v2 ≤ f → Q 0 M) ∧ (f < v2 → (p + 4 + f) < 918 ∧ (r + 18 + f) < 918 ∧ (¬ (M 140 (p + 4 + f)) = (M 140 (r + 18 + f)) → (p + 10 + f) < 918 ∧ (r + 18 + f) < 918 ∧ (p + 4 + f) < 918 ∧ WP x L 31 [some (.ref 139), some (.int (nI r)), some (.int (nI p)), some (.int (nI (f + 1))), none] [] (MU (MU M 140 (p + 10 + f) (nI 0)) 140 (p + 4 + f) ((MU M 140 (p + 10 + f) (nI 0)) 140 (r + 18 + f)))) ∧ ((M 140 (p + 4 + f)) = (M 140 (r + 18 + f)) → (p + 10 + f) < 918 ∧ (p + 10 + f) < 918 ∧ (r + 18 + f) < 918 ∧ (p + 4 + f) < 918 ∧ WP x L 31 [some (.ref 139), some (.int (nI r)), some (.int (nI p)), some (.int (nI (f + 1))), none] [] (MU (MU M 140 (p + 10 + f) (M 140 (p + 10 + f))) 140 (p + 4 + f) ((MU M 140 (p + 10 + f) (M 140 (p + 10 + f))) 140 (r + 18 + f)))))) : WP x L 31 [some (.ref 139), some (.int (nI r)), some (.int (nI p)), some (.int (nI f)), none] [] M := by
  refine wp_iload_n (pc := 31) X dX8_hearsTable_31 rfl rfl ?_
  refine wp_aload_n (pc := 32) X dX8_hearsTable_32 rfl rfl ?_
  refine wp_get (pc := 33) X fl_X8_7 A_139 (by decide) (fg_8_0 A_139) dX8_hearsTable_33 ?_
  refine wp_iload_n (pc := 36) X dX8_hearsTable_36 rfl rfl ?_
  refine wp_bipush (pc := 37) (v := nI 42) X dX8_hearsTable_37 (by decide) ?_
  refine wn_iadd (pc := 39) X dX8_hearsTable_39 ?_
  obtain ⟨hj1, v2, he3, h⟩ := h
  refine we_iald (pc := 40) X A_140 hj1 (by decide) he3 dX8_hearsTable_40 ?_
  obtain ⟨hb13, hb14, h⟩ := h
  refine wn_icmp_ge (pc := 41) (tgt := 133) X dX8_hearsTable_41 (by decide) hb13 hb14 (fun hc => ?_) (fun hc => ?_)
  · replace h := h.1 hc
    exact wp_ret (pc := 133) X T dX8_hearsTable_133 h
  · replace h := h.2 hc
    refine wp_aload_n (pc := 44) X dX8_hearsTable_44 rfl rfl ?_
    refine wp_get (pc := 45) X fl_X8_7 A_139 (by decide) (fg_8_0 A_139) dX8_hearsTable_45 ?_
    refine wp_iload_n (pc := 48) X dX8_hearsTable_48 rfl rfl ?_
    refine wp_iconst (pc := 49) (v := nI 4) X dX8_hearsTable_49 (by decide) ?_
    refine wn_iadd (pc := 50) X dX8_hearsTable_50 ?_
    refine wp_iload_n (pc := 51) X dX8_hearsTable_51 rfl rfl ?_
    refine wn_iadd (pc := 52) X dX8_hearsTable_52 ?_
    obtain ⟨hj4, h⟩ := h
    refine wn_iald (pc := 53) X A_140 hj4 (by decide) dX8_hearsTable_53 ?_
    refine wp_aload_n (pc := 54) X dX8_hearsTable_54 rfl rfl ?_
    refine wp_get (pc := 55) X fl_X8_7 A_139 (by decide) (fg_8_0 A_139) dX8_hearsTable_55 ?_
    refine wp_iload_n (pc := 58) X dX8_hearsTable_58 rfl rfl ?_
    refine wp_bipush (pc := 59) (v := nI 18) X dX8_hearsTable_59 (by decide) ?_
    refine wn_iadd (pc := 61) X dX8_hearsTable_61 ?_
    refine wp_iload_n (pc := 62) X dX8_hearsTable_62 rfl rfl ?_
    refine wn_iadd (pc := 63) X dX8_hearsTable_63 ?_
    obtain ⟨hj5, h⟩ := h
    refine wn_iald (pc := 64) X A_140 hj5 (by decide) dX8_hearsTable_64 ?_
    refine wp_icmp_ne (pc := 65) (tgt := 72) X dX8_hearsTable_65 (by decide) (fun hc => ?_) (fun hc => ?_)
    · replace h := h.1 hc
      refine wp_iconst (pc := 72) (v := nI 0) X dX8_hearsTable_72 (by decide) ?_
      refine wp_istore (pc := 73) (lo' := [some (.ref 139), some (.int (nI r)), some (.int (nI p)), some (.int (nI f)), some (.int (nI 0))]) X dX8_hearsTable_73 (Nat.le_of_ble_eq_true rfl) rfl rfl ?_
      refine wp_aload_n (pc := 75) X dX8_hearsTable_75 rfl rfl ?_
      refine wp_get (pc := 76) X fl_X8_7 A_139 (by decide) (fg_8_0 A_139) dX8_hearsTable_76 ?_
      refine wp_iload_n (pc := 79) X dX8_hearsTable_79 rfl rfl ?_
      refine wp_bipush (pc := 80) (v := nI 10) X dX8_hearsTable_80 (by decide) ?_
      refine wn_iadd (pc := 82) X dX8_hearsTable_82 ?_
      refine wp_iload_n (pc := 83) X dX8_hearsTable_83 rfl rfl ?_
      refine wn_iadd (pc := 84) X dX8_hearsTable_84 ?_
      refine wp_iload (pc := 85) X dX8_hearsTable_85 rfl ?_
      refine wp_if_eq (pc := 87) (tgt := 104) X dX8_hearsTable_87 (by decide) (fun _ => ?_) (fun hc => absurd hc (by decide))
      refine wp_iconst (pc := 104) (v := nI 0) X dX8_hearsTable_104 (by decide) ?_
      obtain ⟨hj6, h⟩ := h
      refine wn_iast (pc := 105) X A_140 hj6 (by decide) dX8_hearsTable_105 ?_
      refine wp_aload_n (pc := 106) X dX8_hearsTable_106 rfl rfl ?_
      refine wp_get (pc := 107) X fl_X8_7 A_139 (by decide) (fg_8_0 A_139) dX8_hearsTable_107 ?_
      refine wp_iload_n (pc := 110) X dX8_hearsTable_110 rfl rfl ?_
      refine wp_iconst (pc := 111) (v := nI 4) X dX8_hearsTable_111 (by decide) ?_
      refine wn_iadd (pc := 112) X dX8_hearsTable_112 ?_
      refine wp_iload_n (pc := 113) X dX8_hearsTable_113 rfl rfl ?_
      refine wn_iadd (pc := 114) X dX8_hearsTable_114 ?_
      refine wp_aload_n (pc := 115) X dX8_hearsTable_115 rfl rfl ?_
      refine wp_get (pc := 116) X fl_X8_7 A_139 (by decide) (fg_8_0 A_139) dX8_hearsTable_116 ?_
      refine wp_iload_n (pc := 119) X dX8_hearsTable_119 rfl rfl ?_
      refine wp_bipush (pc := 120) (v := nI 18) X dX8_hearsTable_120 (by decide) ?_
      refine wn_iadd (pc := 122) X dX8_hearsTable_122 ?_
      refine wp_iload_n (pc := 123) X dX8_hearsTable_123 rfl rfl ?_
      refine wn_iadd (pc := 124) X dX8_hearsTable_124 ?_
      obtain ⟨hj7, h⟩ := h
      refine wn_iald (pc := 125) X A_140 hj7 (by decide) dX8_hearsTable_125 ?_
      obtain ⟨hj8, h⟩ := h
      refine wn_iast (pc := 126) X A_140 hj8 (by decide) dX8_hearsTable_126 ?_
      refine wn_iinc (pc := 127) (d := 1) (lo' := [some (.ref 139), some (.int (nI r)), some (.int (nI p)), some (.int (nI (f + 1))), some (.int (nI 0))]) X dX8_hearsTable_127 rfl (by decide) rfl rfl ?_
      refine wp_goto (pc := 130) (tgt := 31) X dX8_hearsTable_130 (by decide) ?_
      exact wp_drop (show subL _ [some (.ref 139), some (.int (nI r)), some (.int (nI p)), some (.int (nI (f + 1))), none] from ⟨rfl, ⟨rfl, ⟨rfl, ⟨rfl, trivial⟩⟩⟩⟩) h
    · replace h := h.2 hc
      refine wp_iconst (pc := 68) (v := nI 1) X dX8_hearsTable_68 (by decide) ?_
      refine wp_goto (pc := 69) (tgt := 73) X dX8_hearsTable_69 (by decide) ?_
      refine wp_istore (pc := 73) (lo' := [some (.ref 139), some (.int (nI r)), some (.int (nI p)), some (.int (nI f)), some (.int (nI 1))]) X dX8_hearsTable_73 (Nat.le_of_ble_eq_true rfl) rfl rfl ?_
      refine wp_aload_n (pc := 75) X dX8_hearsTable_75 rfl rfl ?_
      refine wp_get (pc := 76) X fl_X8_7 A_139 (by decide) (fg_8_0 A_139) dX8_hearsTable_76 ?_
      refine wp_iload_n (pc := 79) X dX8_hearsTable_79 rfl rfl ?_
      refine wp_bipush (pc := 80) (v := nI 10) X dX8_hearsTable_80 (by decide) ?_
      refine wn_iadd (pc := 82) X dX8_hearsTable_82 ?_
      refine wp_iload_n (pc := 83) X dX8_hearsTable_83 rfl rfl ?_
      refine wn_iadd (pc := 84) X dX8_hearsTable_84 ?_
      refine wp_iload (pc := 85) X dX8_hearsTable_85 rfl ?_
      refine wp_if_eq (pc := 87) (tgt := 104) X dX8_hearsTable_87 (by decide) (fun hc => absurd hc (by decide)) (fun _ => ?_)
      refine wp_aload_n (pc := 90) X dX8_hearsTable_90 rfl rfl ?_
      refine wp_get (pc := 91) X fl_X8_7 A_139 (by decide) (fg_8_0 A_139) dX8_hearsTable_91 ?_
      refine wp_iload_n (pc := 94) X dX8_hearsTable_94 rfl rfl ?_
      refine wp_bipush (pc := 95) (v := nI 10) X dX8_hearsTable_95 (by decide) ?_
      refine wn_iadd (pc := 97) X dX8_hearsTable_97 ?_
      refine wp_iload_n (pc := 98) X dX8_hearsTable_98 rfl rfl ?_
      refine wn_iadd (pc := 99) X dX8_hearsTable_99 ?_
      obtain ⟨hj9, h⟩ := h
      refine wn_iald (pc := 100) X A_140 hj9 (by decide) dX8_hearsTable_100 ?_
      refine wp_goto (pc := 101) (tgt := 105) X dX8_hearsTable_101 (by decide) ?_
      obtain ⟨hj10, h⟩ := h
      refine wn_iast (pc := 105) X A_140 hj10 (by decide) dX8_hearsTable_105 ?_
      refine wp_aload_n (pc := 106) X dX8_hearsTable_106 rfl rfl ?_
      refine wp_get (pc := 107) X fl_X8_7 A_139 (by decide) (fg_8_0 A_139) dX8_hearsTable_107 ?_
      refine wp_iload_n (pc := 110) X dX8_hearsTable_110 rfl rfl ?_
      refine wp_iconst (pc := 111) (v := nI 4) X dX8_hearsTable_111 (by decide) ?_
      refine wn_iadd (pc := 112) X dX8_hearsTable_112 ?_
      refine wp_iload_n (pc := 113) X dX8_hearsTable_113 rfl rfl ?_
      refine wn_iadd (pc := 114) X dX8_hearsTable_114 ?_
      refine wp_aload_n (pc := 115) X dX8_hearsTable_115 rfl rfl ?_
      refine wp_get (pc := 116) X fl_X8_7 A_139 (by decide) (fg_8_0 A_139) dX8_hearsTable_116 ?_
      refine wp_iload_n (pc := 119) X dX8_hearsTable_119 rfl rfl ?_
      refine wp_bipush (pc := 120) (v := nI 18) X dX8_hearsTable_120 (by decide) ?_
      refine wn_iadd (pc := 122) X dX8_hearsTable_122 ?_
      refine wp_iload_n (pc := 123) X dX8_hearsTable_123 rfl rfl ?_
      refine wn_iadd (pc := 124) X dX8_hearsTable_124 ?_
      obtain ⟨hj11, h⟩ := h
      refine wn_iald (pc := 125) X A_140 hj11 (by decide) dX8_hearsTable_125 ?_
      obtain ⟨hj12, h⟩ := h
      refine wn_iast (pc := 126) X A_140 hj12 (by decide) dX8_hearsTable_126 ?_
      refine wn_iinc (pc := 127) (d := 1) (lo' := [some (.ref 139), some (.int (nI r)), some (.int (nI p)), some (.int (nI (f + 1))), some (.int (nI 1))]) X dX8_hearsTable_127 rfl (by decide) rfl rfl ?_
      refine wp_goto (pc := 130) (tgt := 31) X dX8_hearsTable_130 (by decide) ?_
      exact wp_drop (show subL _ [some (.ref 139), some (.int (nI r)), some (.int (nI p)), some (.int (nI (f + 1))), none] from ⟨rfl, ⟨rfl, ⟨rfl, ⟨rfl, trivial⟩⟩⟩⟩) h
theorem r_X8_hearsSymbol_0 {x : CT} {L : List Nat} {Q : Int32 → Mem → Prop} {M : Mem}  {r p f y : Nat} (X : BS x L cX8_hearsSymbol 5 RX8 (m_X8_hearsSymbol).2.2.2.2) (T : RT x L none Q) (A_139 : AC L 139 8 0) (A_140 : AC L 140 9 918)
    (h : (p + 2) < 918 ∧ (r + 45) < 918 ∧ ((M 140 (p + 2)) < (M 140 (r + 45)) → Q 0 M) ∧ (¬ (M 140 (p + 2)) < (M 140 (r + 45)) → (p + 4 + f) < 918 ∧ (r + 18 + f) < 918 ∧ (¬ (M 140 (p + 4 + f)) = (M 140 (r + 18 + f)) → Q 0 M) ∧ ((M 140 (p + 4 + f)) = (M 140 (r + 18 + f)) → (p + 10 + f) < 918 ∧ (p + 10 + f) < 918 ∧ Q 0 (MU M 140 (p + 10 + f) ((M 140 (p + 10 + f)) ||| ((nI 1) <<< ((nI y) &&& 31))))))) : WP x L 0 [some (.ref 139), some (.int (nI r)), some (.int (nI p)), some (.int (nI f)), some (.int (nI y))] [] M := by
  refine wp_aload_n (pc := 0) X dX8_hearsSymbol_0 rfl rfl ?_
  refine wp_get (pc := 1) X fl_X8_7 A_139 (by decide) (fg_8_0 A_139) dX8_hearsSymbol_1 ?_
  refine wp_iload_n (pc := 4) X dX8_hearsSymbol_4 rfl rfl ?_
  refine wp_iconst (pc := 5) (v := nI 2) X dX8_hearsSymbol_5 (by decide) ?_
  refine wn_iadd (pc := 6) X dX8_hearsSymbol_6 ?_
  obtain ⟨hj1, h⟩ := h
  refine wn_iald (pc := 7) X A_140 hj1 (by decide) dX8_hearsSymbol_7 ?_
  refine wp_aload_n (pc := 8) X dX8_hearsSymbol_8 rfl rfl ?_
  refine wp_get (pc := 9) X fl_X8_7 A_139 (by decide) (fg_8_0 A_139) dX8_hearsSymbol_9 ?_
  refine wp_iload_n (pc := 12) X dX8_hearsSymbol_12 rfl rfl ?_
  refine wp_bipush (pc := 13) (v := nI 45) X dX8_hearsSymbol_13 (by decide) ?_
  refine wn_iadd (pc := 15) X dX8_hearsSymbol_15 ?_
  obtain ⟨hj2, h⟩ := h
  refine wn_iald (pc := 16) X A_140 hj2 (by decide) dX8_hearsSymbol_16 ?_
  refine wp_icmp_lt (pc := 17) (tgt := 62) X dX8_hearsSymbol_17 (by decide) (fun hc => ?_) (fun hc => ?_)
  · replace h := h.1 hc
    exact wp_ret (pc := 62) X T dX8_hearsSymbol_62 h
  · replace h := h.2 hc
    refine wp_aload_n (pc := 20) X dX8_hearsSymbol_20 rfl rfl ?_
    refine wp_get (pc := 21) X fl_X8_7 A_139 (by decide) (fg_8_0 A_139) dX8_hearsSymbol_21 ?_
    refine wp_iload_n (pc := 24) X dX8_hearsSymbol_24 rfl rfl ?_
    refine wp_iconst (pc := 25) (v := nI 4) X dX8_hearsSymbol_25 (by decide) ?_
    refine wn_iadd (pc := 26) X dX8_hearsSymbol_26 ?_
    refine wp_iload_n (pc := 27) X dX8_hearsSymbol_27 rfl rfl ?_
    refine wn_iadd (pc := 28) X dX8_hearsSymbol_28 ?_
    obtain ⟨hj3, h⟩ := h
    refine wn_iald (pc := 29) X A_140 hj3 (by decide) dX8_hearsSymbol_29 ?_
    refine wp_aload_n (pc := 30) X dX8_hearsSymbol_30 rfl rfl ?_
    refine wp_get (pc := 31) X fl_X8_7 A_139 (by decide) (fg_8_0 A_139) dX8_hearsSymbol_31 ?_
    refine wp_iload_n (pc := 34) X dX8_hearsSymbol_34 rfl rfl ?_
    refine wp_bipush (pc := 35) (v := nI 18) X dX8_hearsSymbol_35 (by decide) ?_
    refine wn_iadd (pc := 37) X dX8_hearsSymbol_37 ?_
    refine wp_iload_n (pc := 38) X dX8_hearsSymbol_38 rfl rfl ?_
    refine wn_iadd (pc := 39) X dX8_hearsSymbol_39 ?_
    obtain ⟨hj4, h⟩ := h
    refine wn_iald (pc := 40) X A_140 hj4 (by decide) dX8_hearsSymbol_40 ?_
    refine wp_icmp_ne (pc := 41) (tgt := 62) X dX8_hearsSymbol_41 (by decide) (fun hc => ?_) (fun hc => ?_)
    · replace h := h.1 hc
      exact wp_ret (pc := 62) X T dX8_hearsSymbol_62 h
    · replace h := h.2 hc
      refine wp_aload_n (pc := 44) X dX8_hearsSymbol_44 rfl rfl ?_
      refine wp_get (pc := 45) X fl_X8_7 A_139 (by decide) (fg_8_0 A_139) dX8_hearsSymbol_45 ?_
      refine wp_iload_n (pc := 48) X dX8_hearsSymbol_48 rfl rfl ?_
      refine wp_bipush (pc := 49) (v := nI 10) X dX8_hearsSymbol_49 (by decide) ?_
      refine wn_iadd (pc := 51) X dX8_hearsSymbol_51 ?_
      refine wp_iload_n (pc := 52) X dX8_hearsSymbol_52 rfl rfl ?_
      refine wn_iadd (pc := 53) X dX8_hearsSymbol_53 ?_
      refine wp_dup2 (pc := 54) X dX8_hearsSymbol_54 rfl rfl ?_
      obtain ⟨hj5, h⟩ := h
      refine wn_iald (pc := 55) X A_140 hj5 (by decide) dX8_hearsSymbol_55 ?_
      refine wp_iconst (pc := 56) (v := nI 1) X dX8_hearsSymbol_56 (by decide) ?_
      refine wp_iload (pc := 57) X dX8_hearsSymbol_57 rfl ?_
      refine wp_ishl (pc := 59) X dX8_hearsSymbol_59 ?_
      refine wp_ior (pc := 60) X dX8_hearsSymbol_60 ?_
      obtain ⟨hj6, h⟩ := h
      refine wn_iast (pc := 61) X A_140 hj6 (by decide) dX8_hearsSymbol_61 ?_
      exact wp_ret (pc := 62) X T dX8_hearsSymbol_62 h
theorem r_X8_ticks_0 {x : CT} {L : List Nat} {Q : Int32 → Mem → Prop} {M : Mem}  {r : Nat} (X : BS x L cX8_ticks 7 RX8 (m_X8_ticks).2.2.2.2) (T : RT x L (some .int) Q) (A_139 : AC L 139 8 0) (A_140 : AC L 140 9 918)
    (h : (r + 45) < 918 ∧ ∃ v2 : Nat, M 140 (r + 45) = nI v2 ∧ (r + 43) < 918 ∧ ∃ v5 : Nat, M 140 (r + 43) = nI v5 ∧ v2 < 2 ^ 31 ∧ 0 < v5 ∧ v5 < 2 ^ 31 ∧ (v2 % v5) < 2 ^ 31 ∧ (0 < (v2 % v5) → CM m_X8_sendsNext L [.ref 139, .int (nI r)] M (fun r11 M10 => ∃ v12 : Nat, r11 = nI v12 ∧ (r + 24 + v12) < 918 ∧ ∃ v14 : Nat, M10 140 (r + 24 + v12) = nI v14 ∧ (r + 18 + v12) < 918 ∧ CM m_X8_logs L [.ref 139, .int (nI r), .int (nI v12), .int (nI v14), .int (M10 140 (r + 18 + v12))] M10 (fun _ M17 => WP x L 96 [some (.ref 139), some (.int (nI r)), some (.int (nI 0)), some (.int (nI v12)), some (.int (nI v14)), some (.int (nI 0)), none] [] M17))) ∧ ((v2 % v5) = 0 → CM m_X8_logs L [.ref 139, .int (nI r), .int (-4), .int (-4), .int (-4)] M (fun _ M19 => WP x L 96 [some (.ref 139), some (.int (nI r)), some (.int (nI 1)), some (.int (-4)), some (.int (-4)), some (.int (nI 0)), none] [] M19))) : WP x L 0 [some (.ref 139), some (.int (nI r)), none, none, none, none, none] [] M := by
  refine wp_aload_n (pc := 0) X dX8_ticks_0 rfl rfl ?_
  refine wp_get (pc := 1) X fl_X8_7 A_139 (by decide) (fg_8_0 A_139) dX8_ticks_1 ?_
  refine wp_iload_n (pc := 4) X dX8_ticks_4 rfl rfl ?_
  refine wp_bipush (pc := 5) (v := nI 45) X dX8_ticks_5 (by decide) ?_
  refine wn_iadd (pc := 7) X dX8_ticks_7 ?_
  obtain ⟨hj1, v2, he3, h⟩ := h
  refine we_iald (pc := 8) X A_140 hj1 (by decide) he3 dX8_ticks_8 ?_
  refine wp_aload_n (pc := 9) X dX8_ticks_9 rfl rfl ?_
  refine wp_get (pc := 10) X fl_X8_7 A_139 (by decide) (fg_8_0 A_139) dX8_ticks_10 ?_
  refine wp_iload_n (pc := 13) X dX8_ticks_13 rfl rfl ?_
  refine wp_bipush (pc := 14) (v := nI 43) X dX8_ticks_14 (by decide) ?_
  refine wn_iadd (pc := 16) X dX8_ticks_16 ?_
  obtain ⟨hj4, v5, he6, h⟩ := h
  refine we_iald (pc := 17) X A_140 hj4 (by decide) he6 dX8_ticks_17 ?_
  obtain ⟨hb7, hb8, hb9, h⟩ := h
  refine wn_irem (pc := 18) X dX8_ticks_18 hb7 hb8 hb9 ?_
  obtain ⟨hb21, h⟩ := h
  refine wn_if_ne (pc := 19) (tgt := 26) X dX8_ticks_19 (by decide) hb21 (fun hc => ?_) (fun hc => ?_)
  · replace h := h.1 hc
    refine wp_iconst (pc := 26) (v := nI 0) X dX8_ticks_26 (by decide) ?_
    refine wp_istore_n (pc := 27) (lo' := [some (.ref 139), some (.int (nI r)), some (.int (nI 0)), none, none, none, none]) X dX8_ticks_27 rfl (Nat.le_of_ble_eq_true rfl) rfl rfl ?_
    refine wp_iload_n (pc := 28) X dX8_ticks_28 rfl rfl ?_
    refine wp_if_eq (pc := 29) (tgt := 37) X dX8_ticks_29 (by decide) (fun _ => ?_) (fun hc => absurd hc (by decide))
    refine wp_aload_n (pc := 37) X dX8_ticks_37 rfl rfl ?_
    refine wp_iload_n (pc := 38) X dX8_ticks_38 rfl rfl ?_
    refine wp_invV (pc := 39) X sv_X8_75 A_139 (by decide) rfl ⟨by decide, by decide⟩ (As := [.int (nI r)]) (st := []) rfl rfl (Nat.le_of_ble_eq_true rfl) dX8_ticks_39 ?_
    refine CM.mono h (fun r11 M10 h => ?_)
    obtain ⟨v12, rfl, h⟩ := h
    refine wp_istore_n (pc := 42) (lo' := [some (.ref 139), some (.int (nI r)), some (.int (nI 0)), some (.int (nI v12)), none, none, none]) X dX8_ticks_42 rfl (Nat.le_of_ble_eq_true rfl) rfl rfl ?_
    refine wp_iload_n (pc := 43) X dX8_ticks_43 rfl rfl ?_
    refine wp_if_eq (pc := 44) (tgt := 52) X dX8_ticks_44 (by decide) (fun _ => ?_) (fun hc => absurd hc (by decide))
    refine wp_aload_n (pc := 52) X dX8_ticks_52 rfl rfl ?_
    refine wp_get (pc := 53) X fl_X8_7 A_139 (by decide) (fg_8_0 A_139) dX8_ticks_53 ?_
    refine wp_iload_n (pc := 56) X dX8_ticks_56 rfl rfl ?_
    refine wp_bipush (pc := 57) (v := nI 24) X dX8_ticks_57 (by decide) ?_
    refine wn_iadd (pc := 59) X dX8_ticks_59 ?_
    refine wp_iload_n (pc := 60) X dX8_ticks_60 rfl rfl ?_
    refine wn_iadd (pc := 61) X dX8_ticks_61 ?_
    obtain ⟨hj13, v14, he15, h⟩ := h
    refine we_iald (pc := 62) X A_140 hj13 (by decide) he15 dX8_ticks_62 ?_
    refine wp_istore (pc := 63) (lo' := [some (.ref 139), some (.int (nI r)), some (.int (nI 0)), some (.int (nI v12)), some (.int (nI v14)), none, none]) X dX8_ticks_63 (Nat.le_of_ble_eq_true rfl) rfl rfl ?_
    refine wp_aload_n (pc := 65) X dX8_ticks_65 rfl rfl ?_
    refine wp_iload_n (pc := 66) X dX8_ticks_66 rfl rfl ?_
    refine wp_iload_n (pc := 67) X dX8_ticks_67 rfl rfl ?_
    refine wp_iload (pc := 68) X dX8_ticks_68 rfl ?_
    refine wp_iload_n (pc := 70) X dX8_ticks_70 rfl rfl ?_
    refine wp_if_eq (pc := 71) (tgt := 79) X dX8_ticks_71 (by decide) (fun _ => ?_) (fun hc => absurd hc (by decide))
    refine wp_aload_n (pc := 79) X dX8_ticks_79 rfl rfl ?_
    refine wp_get (pc := 80) X fl_X8_7 A_139 (by decide) (fg_8_0 A_139) dX8_ticks_80 ?_
    refine wp_iload_n (pc := 83) X dX8_ticks_83 rfl rfl ?_
    refine wp_bipush (pc := 84) (v := nI 18) X dX8_ticks_84 (by decide) ?_
    refine wn_iadd (pc := 86) X dX8_ticks_86 ?_
    refine wp_iload_n (pc := 87) X dX8_ticks_87 rfl rfl ?_
    refine wn_iadd (pc := 88) X dX8_ticks_88 ?_
    obtain ⟨hj16, h⟩ := h
    refine wn_iald (pc := 89) X A_140 hj16 (by decide) dX8_ticks_89 ?_
    refine wp_invVv (pc := 90) X sv_X8_79 A_139 (by decide) rfl ⟨by decide, by decide⟩ (As := [.int (nI r), .int (nI v12), .int (nI v14), .int (M10 140 (r + 18 + v12))]) (st := []) rfl rfl (Nat.le_of_ble_eq_true rfl) dX8_ticks_90 ?_
    refine CM.mono h (fun _ M17 h => ?_)
    refine wp_iconst (pc := 93) (v := nI 0) X dX8_ticks_93 (by decide) ?_
    refine wp_istore (pc := 94) (lo' := [some (.ref 139), some (.int (nI r)), some (.int (nI 0)), some (.int (nI v12)), some (.int (nI v14)), some (.int (nI 0)), none]) X dX8_ticks_94 (Nat.le_of_ble_eq_true rfl) rfl rfl ?_
    exact h
  · replace h := h.2 hc
    refine wp_iconst (pc := 22) (v := nI 1) X dX8_ticks_22 (by decide) ?_
    refine wp_goto (pc := 23) (tgt := 27) X dX8_ticks_23 (by decide) ?_
    refine wp_istore_n (pc := 27) (lo' := [some (.ref 139), some (.int (nI r)), some (.int (nI 1)), none, none, none, none]) X dX8_ticks_27 rfl (Nat.le_of_ble_eq_true rfl) rfl rfl ?_
    refine wp_iload_n (pc := 28) X dX8_ticks_28 rfl rfl ?_
    refine wp_if_eq (pc := 29) (tgt := 37) X dX8_ticks_29 (by decide) (fun hc => absurd hc (by decide)) (fun _ => ?_)
    refine wp_bipush (pc := 32) (v := (-4)) X dX8_ticks_32 (by decide) ?_
    refine wp_goto (pc := 34) (tgt := 42) X dX8_ticks_34 (by decide) ?_
    refine wp_istore_n (pc := 42) (lo' := [some (.ref 139), some (.int (nI r)), some (.int (nI 1)), some (.int (-4)), none, none, none]) X dX8_ticks_42 rfl (Nat.le_of_ble_eq_true rfl) rfl rfl ?_
    refine wp_iload_n (pc := 43) X dX8_ticks_43 rfl rfl ?_
    refine wp_if_eq (pc := 44) (tgt := 52) X dX8_ticks_44 (by decide) (fun hc => absurd hc (by decide)) (fun _ => ?_)
    refine wp_bipush (pc := 47) (v := (-4)) X dX8_ticks_47 (by decide) ?_
    refine wp_goto (pc := 49) (tgt := 63) X dX8_ticks_49 (by decide) ?_
    refine wp_istore (pc := 63) (lo' := [some (.ref 139), some (.int (nI r)), some (.int (nI 1)), some (.int (-4)), some (.int (-4)), none, none]) X dX8_ticks_63 (Nat.le_of_ble_eq_true rfl) rfl rfl ?_
    refine wp_aload_n (pc := 65) X dX8_ticks_65 rfl rfl ?_
    refine wp_iload_n (pc := 66) X dX8_ticks_66 rfl rfl ?_
    refine wp_iload_n (pc := 67) X dX8_ticks_67 rfl rfl ?_
    refine wp_iload (pc := 68) X dX8_ticks_68 rfl ?_
    refine wp_iload_n (pc := 70) X dX8_ticks_70 rfl rfl ?_
    refine wp_if_eq (pc := 71) (tgt := 79) X dX8_ticks_71 (by decide) (fun hc => absurd hc (by decide)) (fun _ => ?_)
    refine wp_bipush (pc := 74) (v := (-4)) X dX8_ticks_74 (by decide) ?_
    refine wp_goto (pc := 76) (tgt := 90) X dX8_ticks_76 (by decide) ?_
    refine wp_invVv (pc := 90) X sv_X8_79 A_139 (by decide) rfl ⟨by decide, by decide⟩ (As := [.int (nI r), .int (-4), .int (-4), .int (-4)]) (st := []) rfl rfl (Nat.le_of_ble_eq_true rfl) dX8_ticks_90 ?_
    refine CM.mono h (fun _ M19 h => ?_)
    refine wp_iconst (pc := 93) (v := nI 0) X dX8_ticks_93 (by decide) ?_
    refine wp_istore (pc := 94) (lo' := [some (.ref 139), some (.int (nI r)), some (.int (nI 1)), some (.int (-4)), some (.int (-4)), some (.int (nI 0)), none]) X dX8_ticks_94 (Nat.le_of_ble_eq_true rfl) rfl rfl ?_
    exact h
theorem r_X8_ticksT_96 {x : CT} {L : List Nat} {Q : Int32 → Mem → Prop} {M : Mem}  {r l : Nat} (X : BS x L cX8_ticks 7 RX8 (m_X8_ticks).2.2.2.2) (T : RT x L (some .int) Q) (A_139 : AC L 139 8 0) (A_140 : AC L 140 9 918)
    (h : (r + 48) < 918 ∧ ∃ v2 : Nat, M 140 (r + 48) = nI v2 ∧ l < 2 ^ 31 ∧ v2 < 2 ^ 31 ∧ (v2 ≤ l → (r + 46) < 918 ∧ (r + 46) < 918 ∧ (r + 45) < 918 ∧ (r + 45) < 918 ∧ Q (-4) (MU (MU M 140 (r + 46) ((M 140 (r + 46)) + (nI 1))) 140 (r + 45) (((MU M 140 (r + 46) ((M 140 (r + 46)) + (nI 1))) 140 (r + 45)) + (nI 1)))) ∧ (l < v2 → CM m_X8_isLost L [.ref 139, .int (nI r), .int (nI l)] M (fun r9 M8 => (r9 = 0 → CM m_X8_hearsTable L [.ref 139, .int (nI r), .int (nI (r + 89 + (16 * l)))] M8 (fun _ M10 => WP x L 96 [some (.ref 139), some (.int (nI r)), some (.int (nI 1)), some (.int (-4)), some (.int (-4)), some (.int (nI (l + 1))), none] [] M10)) ∧ (¬ r9 = 0 → (r + 89 + (16 * l) + 3) < 918 ∧ (r + 89 + (16 * l) + 3) < 918 ∧ WP x L 96 [some (.ref 139), some (.int (nI r)), some (.int (nI 1)), some (.int (-4)), some (.int (-4)), some (.int (nI (l + 1))), none] [] (MU M8 140 (r + 89 + (16 * l) + 3) ((M8 140 (r + 89 + (16 * l) + 3)) + (nI 1))))))) : WP x L 96 [some (.ref 139), some (.int (nI r)), some (.int (nI 1)), some (.int (-4)), some (.int (-4)), some (.int (nI l)), none] [] M := by
  refine wp_iload (pc := 96) X dX8_ticks_96 rfl ?_
  refine wp_aload_n (pc := 98) X dX8_ticks_98 rfl rfl ?_
  refine wp_get (pc := 99) X fl_X8_7 A_139 (by decide) (fg_8_0 A_139) dX8_ticks_99 ?_
  refine wp_iload_n (pc := 102) X dX8_ticks_102 rfl rfl ?_
  refine wp_bipush (pc := 103) (v := nI 48) X dX8_ticks_103 (by decide) ?_
  refine wn_iadd (pc := 105) X dX8_ticks_105 ?_
  obtain ⟨hj1, v2, he3, h⟩ := h
  refine we_iald (pc := 106) X A_140 hj1 (by decide) he3 dX8_ticks_106 ?_
  obtain ⟨hb14, hb15, h⟩ := h
  refine wn_icmp_ge (pc := 107) (tgt := 178) X dX8_ticks_107 (by decide) hb14 hb15 (fun hc => ?_) (fun hc => ?_)
  · replace h := h.1 hc
    refine wp_iload_n (pc := 178) X dX8_ticks_178 rfl rfl ?_
    refine wp_if_eq (pc := 179) (tgt := 198) X dX8_ticks_179 (by decide) (fun hc => absurd hc (by decide)) (fun _ => ?_)
    refine wp_aload_n (pc := 182) X dX8_ticks_182 rfl rfl ?_
    refine wp_get (pc := 183) X fl_X8_7 A_139 (by decide) (fg_8_0 A_139) dX8_ticks_183 ?_
    refine wp_iload_n (pc := 186) X dX8_ticks_186 rfl rfl ?_
    refine wp_bipush (pc := 187) (v := nI 46) X dX8_ticks_187 (by decide) ?_
    refine wn_iadd (pc := 189) X dX8_ticks_189 ?_
    refine wp_dup2 (pc := 190) X dX8_ticks_190 rfl rfl ?_
    obtain ⟨hj4, h⟩ := h
    refine wn_iald (pc := 191) X A_140 hj4 (by decide) dX8_ticks_191 ?_
    refine wp_iconst (pc := 192) (v := nI 1) X dX8_ticks_192 (by decide) ?_
    refine wp_iadd (pc := 193) X dX8_ticks_193 ?_
    obtain ⟨hj5, h⟩ := h
    refine wn_iast (pc := 194) X A_140 hj5 (by decide) dX8_ticks_194 ?_
    refine wp_goto (pc := 195) (tgt := 264) X dX8_ticks_195 (by decide) ?_
    refine wp_aload_n (pc := 264) X dX8_ticks_264 rfl rfl ?_
    refine wp_get (pc := 265) X fl_X8_7 A_139 (by decide) (fg_8_0 A_139) dX8_ticks_265 ?_
    refine wp_iload_n (pc := 268) X dX8_ticks_268 rfl rfl ?_
    refine wp_bipush (pc := 269) (v := nI 45) X dX8_ticks_269 (by decide) ?_
    refine wn_iadd (pc := 271) X dX8_ticks_271 ?_
    refine wp_dup2 (pc := 272) X dX8_ticks_272 rfl rfl ?_
    obtain ⟨hj6, h⟩ := h
    refine wn_iald (pc := 273) X A_140 hj6 (by decide) dX8_ticks_273 ?_
    refine wp_iconst (pc := 274) (v := nI 1) X dX8_ticks_274 (by decide) ?_
    refine wp_iadd (pc := 275) X dX8_ticks_275 ?_
    obtain ⟨hj7, h⟩ := h
    refine wn_iast (pc := 276) X A_140 hj7 (by decide) dX8_ticks_276 ?_
    refine wp_iload_n (pc := 277) X dX8_ticks_277 rfl rfl ?_
    exact wp_iret (pc := 278) X T dX8_ticks_278 h
  · replace h := h.2 hc
    refine wp_iload_n (pc := 110) X dX8_ticks_110 rfl rfl ?_
    refine wp_bipush (pc := 111) (v := nI 89) X dX8_ticks_111 (by decide) ?_
    refine wn_iadd (pc := 113) X dX8_ticks_113 ?_
    refine wp_bipush (pc := 114) (v := nI 16) X dX8_ticks_114 (by decide) ?_
    refine wp_iload (pc := 116) X dX8_ticks_116 rfl ?_
    refine wn_imul (pc := 118) X dX8_ticks_118 ?_
    refine wn_iadd (pc := 119) X dX8_ticks_119 ?_
    refine wp_istore (pc := 120) (lo' := [some (.ref 139), some (.int (nI r)), some (.int (nI 1)), some (.int (-4)), some (.int (-4)), some (.int (nI l)), some (.int (nI (r + 89 + (16 * l))))]) X dX8_ticks_120 (Nat.le_of_ble_eq_true rfl) rfl rfl ?_
    refine wp_aload_n (pc := 122) X dX8_ticks_122 rfl rfl ?_
    refine wp_iload_n (pc := 123) X dX8_ticks_123 rfl rfl ?_
    refine wp_iload (pc := 124) X dX8_ticks_124 rfl ?_
    refine wp_invV (pc := 126) X sv_X8_82 A_139 (by decide) rfl ⟨by decide, by decide⟩ (As := [.int (nI r), .int (nI l)]) (st := []) rfl rfl (Nat.le_of_ble_eq_true rfl) dX8_ticks_126 ?_
    refine CM.mono h (fun r9 M8 h => ?_)
    refine wp_if_eq (pc := 129) (tgt := 148) X dX8_ticks_129 (by decide) (fun hc => ?_) (fun hc => ?_)
    · replace h := h.1 hc
      refine wp_iload_n (pc := 148) X dX8_ticks_148 rfl rfl ?_
      refine wp_if_eq (pc := 149) (tgt := 162) X dX8_ticks_149 (by decide) (fun hc => absurd hc (by decide)) (fun _ => ?_)
      refine wp_aload_n (pc := 152) X dX8_ticks_152 rfl rfl ?_
      refine wp_iload_n (pc := 153) X dX8_ticks_153 rfl rfl ?_
      refine wp_iload (pc := 154) X dX8_ticks_154 rfl ?_
      refine wp_invVv (pc := 156) X sv_X8_86 A_139 (by decide) rfl ⟨by decide, by decide⟩ (As := [.int (nI r), .int (nI (r + 89 + (16 * l)))]) (st := []) rfl rfl (Nat.le_of_ble_eq_true rfl) dX8_ticks_156 ?_
      refine CM.mono h (fun _ M10 h => ?_)
      refine wp_goto (pc := 159) (tgt := 172) X dX8_ticks_159 (by decide) ?_
      refine wn_iinc (pc := 172) (d := 1) (lo' := [some (.ref 139), some (.int (nI r)), some (.int (nI 1)), some (.int (-4)), some (.int (-4)), some (.int (nI (l + 1))), some (.int (nI (r + 89 + (16 * l))))]) X dX8_ticks_172 rfl (by decide) rfl rfl ?_
      refine wp_goto (pc := 175) (tgt := 96) X dX8_ticks_175 (by decide) ?_
      exact wp_drop (show subL _ [some (.ref 139), some (.int (nI r)), some (.int (nI 1)), some (.int (-4)), some (.int (-4)), some (.int (nI (l + 1))), none] from ⟨rfl, ⟨rfl, ⟨rfl, ⟨rfl, ⟨rfl, ⟨rfl, trivial⟩⟩⟩⟩⟩⟩) h
    · replace h := h.2 hc
      refine wp_aload_n (pc := 132) X dX8_ticks_132 rfl rfl ?_
      refine wp_get (pc := 133) X fl_X8_7 A_139 (by decide) (fg_8_0 A_139) dX8_ticks_133 ?_
      refine wp_iload (pc := 136) X dX8_ticks_136 rfl ?_
      refine wp_iconst (pc := 138) (v := nI 3) X dX8_ticks_138 (by decide) ?_
      refine wn_iadd (pc := 139) X dX8_ticks_139 ?_
      refine wp_dup2 (pc := 140) X dX8_ticks_140 rfl rfl ?_
      obtain ⟨hj12, h⟩ := h
      refine wn_iald (pc := 141) X A_140 hj12 (by decide) dX8_ticks_141 ?_
      refine wp_iconst (pc := 142) (v := nI 1) X dX8_ticks_142 (by decide) ?_
      refine wp_iadd (pc := 143) X dX8_ticks_143 ?_
      obtain ⟨hj13, h⟩ := h
      refine wn_iast (pc := 144) X A_140 hj13 (by decide) dX8_ticks_144 ?_
      refine wp_goto (pc := 145) (tgt := 172) X dX8_ticks_145 (by decide) ?_
      refine wn_iinc (pc := 172) (d := 1) (lo' := [some (.ref 139), some (.int (nI r)), some (.int (nI 1)), some (.int (-4)), some (.int (-4)), some (.int (nI (l + 1))), some (.int (nI (r + 89 + (16 * l))))]) X dX8_ticks_172 rfl (by decide) rfl rfl ?_
      refine wp_goto (pc := 175) (tgt := 96) X dX8_ticks_175 (by decide) ?_
      exact wp_drop (show subL _ [some (.ref 139), some (.int (nI r)), some (.int (nI 1)), some (.int (-4)), some (.int (-4)), some (.int (nI (l + 1))), none] from ⟨rfl, ⟨rfl, ⟨rfl, ⟨rfl, ⟨rfl, ⟨rfl, trivial⟩⟩⟩⟩⟩⟩) h
theorem r_X8_ticksS_96 {x : CT} {L : List Nat} {Q : Int32 → Mem → Prop} {M : Mem}  {r f y l : Nat} (X : BS x L cX8_ticks 7 RX8 (m_X8_ticks).2.2.2.2) (T : RT x L (some .int) Q) (A_139 : AC L 139 8 0) (A_140 : AC L 140 9 918)
    (h : (r + 48) < 918 ∧ ∃ v2 : Nat, M 140 (r + 48) = nI v2 ∧ l < 2 ^ 31 ∧ v2 < 2 ^ 31 ∧ (v2 ≤ l → (r + 0 + f) < 918 ∧ ∃ v5 : Nat, M 140 (r + 0 + f) = nI v5 ∧ (r + 6 + f) < 918 ∧ ∃ v8 : Nat, M 140 (r + 6 + f) = nI v8 ∧ (y + 1) < 2 ^ 31 ∧ 0 < (v5 + v8) ∧ (v5 + v8) < 2 ^ 31 ∧ (r + 24 + f) < 918 ∧ (r + 36 + f) < 918 ∧ (r + 36 + f) < 918 ∧ (r + 47) < 918 ∧ (r + 47) < 918 ∧ (r + 45) < 918 ∧ (r + 45) < 918 ∧ Q (nI f) (MU (MU (MU (MU M 140 (r + 24 + f) (nI ((y + 1) % (v5 + v8)))) 140 (r + 36 + f) (((MU M 140 (r + 24 + f) (nI ((y + 1) % (v5 + v8)))) 140 (r + 36 + f)) + (nI 1))) 140 (r + 47) (((MU (MU M 140 (r + 24 + f) (nI ((y + 1) % (v5 + v8)))) 140 (r + 36 + f) (((MU M 140 (r + 24 + f) (nI ((y + 1) % (v5 + v8)))) 140 (r + 36 + f)) + (nI 1))) 140 (r + 47)) + (nI 1))) 140 (r + 45) (((MU (MU (MU M 140 (r + 24 + f) (nI ((y + 1) % (v5 + v8)))) 140 (r + 36 + f) (((MU M 140 (r + 24 + f) (nI ((y + 1) % (v5 + v8)))) 140 (r + 36 + f)) + (nI 1))) 140 (r + 47) (((MU (MU M 140 (r + 24 + f) (nI ((y + 1) % (v5 + v8)))) 140 (r + 36 + f) (((MU M 140 (r + 24 + f) (nI ((y + 1) % (v5 + v8)))) 140 (r + 36 + f)) + (nI 1))) 140 (r + 47)) + (nI 1))) 140 (r + 45)) + (nI 1)))) ∧ (l < v2 → CM m_X8_isLost L [.ref 139, .int (nI r), .int (nI l)] M (fun r21 M20 => (r21 = 0 → CM m_X8_hearsSymbol L [.ref 139, .int (nI r), .int (nI (r + 89 + (16 * l))), .int (nI f), .int (nI y)] M20 (fun _ M22 => WP x L 96 [some (.ref 139), some (.int (nI r)), some (.int (nI 0)), some (.int (nI f)), some (.int (nI y)), some (.int (nI (l + 1))), none] [] M22)) ∧ (¬ r21 = 0 → (r + 89 + (16 * l) + 3) < 918 ∧ (r + 89 + (16 * l) + 3) < 918 ∧ WP x L 96 [some (.ref 139), some (.int (nI r)), some (.int (nI 0)), some (.int (nI f)), some (.int (nI y)), some (.int (nI (l + 1))), none] [] (MU M20 140 (r + 89 + (16 * l) + 3) ((M20 140 (r + 89 + (16 * l) + 3)) + (nI 1))))))) : WP x L 96 [some (.ref 139), some (.int (nI r)), some (.int (nI 0)), some (.int (nI f)), some (.int (nI y)), some (.int (nI l)), none] [] M := by
  refine wp_iload (pc := 96) X dX8_ticks_96 rfl ?_
  refine wp_aload_n (pc := 98) X dX8_ticks_98 rfl rfl ?_
  refine wp_get (pc := 99) X fl_X8_7 A_139 (by decide) (fg_8_0 A_139) dX8_ticks_99 ?_
  refine wp_iload_n (pc := 102) X dX8_ticks_102 rfl rfl ?_
  refine wp_bipush (pc := 103) (v := nI 48) X dX8_ticks_103 (by decide) ?_
  refine wn_iadd (pc := 105) X dX8_ticks_105 ?_
  obtain ⟨hj1, v2, he3, h⟩ := h
  refine we_iald (pc := 106) X A_140 hj1 (by decide) he3 dX8_ticks_106 ?_
  obtain ⟨hb26, hb27, h⟩ := h
  refine wn_icmp_ge (pc := 107) (tgt := 178) X dX8_ticks_107 (by decide) hb26 hb27 (fun hc => ?_) (fun hc => ?_)
  · replace h := h.1 hc
    refine wp_iload_n (pc := 178) X dX8_ticks_178 rfl rfl ?_
    refine wp_if_eq (pc := 179) (tgt := 198) X dX8_ticks_179 (by decide) (fun _ => ?_) (fun hc => absurd hc (by decide))
    refine wp_aload_n (pc := 198) X dX8_ticks_198 rfl rfl ?_
    refine wp_get (pc := 199) X fl_X8_7 A_139 (by decide) (fg_8_0 A_139) dX8_ticks_199 ?_
    refine wp_iload_n (pc := 202) X dX8_ticks_202 rfl rfl ?_
    refine wp_bipush (pc := 203) (v := nI 24) X dX8_ticks_203 (by decide) ?_
    refine wn_iadd (pc := 205) X dX8_ticks_205 ?_
    refine wp_iload_n (pc := 206) X dX8_ticks_206 rfl rfl ?_
    refine wn_iadd (pc := 207) X dX8_ticks_207 ?_
    refine wp_iload (pc := 208) X dX8_ticks_208 rfl ?_
    refine wp_iconst (pc := 210) (v := nI 1) X dX8_ticks_210 (by decide) ?_
    refine wn_iadd (pc := 211) X dX8_ticks_211 ?_
    refine wp_aload_n (pc := 212) X dX8_ticks_212 rfl rfl ?_
    refine wp_get (pc := 213) X fl_X8_7 A_139 (by decide) (fg_8_0 A_139) dX8_ticks_213 ?_
    refine wp_iload_n (pc := 216) X dX8_ticks_216 rfl rfl ?_
    refine wp_iconst (pc := 217) (v := nI 0) X dX8_ticks_217 (by decide) ?_
    refine wn_iadd (pc := 218) X dX8_ticks_218 ?_
    refine wp_iload_n (pc := 219) X dX8_ticks_219 rfl rfl ?_
    refine wn_iadd (pc := 220) X dX8_ticks_220 ?_
    obtain ⟨hj4, v5, he6, h⟩ := h
    refine we_iald (pc := 221) X A_140 hj4 (by decide) he6 dX8_ticks_221 ?_
    refine wp_aload_n (pc := 222) X dX8_ticks_222 rfl rfl ?_
    refine wp_get (pc := 223) X fl_X8_7 A_139 (by decide) (fg_8_0 A_139) dX8_ticks_223 ?_
    refine wp_iload_n (pc := 226) X dX8_ticks_226 rfl rfl ?_
    refine wp_bipush (pc := 227) (v := nI 6) X dX8_ticks_227 (by decide) ?_
    refine wn_iadd (pc := 229) X dX8_ticks_229 ?_
    refine wp_iload_n (pc := 230) X dX8_ticks_230 rfl rfl ?_
    refine wn_iadd (pc := 231) X dX8_ticks_231 ?_
    obtain ⟨hj7, v8, he9, h⟩ := h
    refine we_iald (pc := 232) X A_140 hj7 (by decide) he9 dX8_ticks_232 ?_
    refine wn_iadd (pc := 233) X dX8_ticks_233 ?_
    obtain ⟨hb10, hb11, hb12, h⟩ := h
    refine wn_irem (pc := 234) X dX8_ticks_234 hb10 hb11 hb12 ?_
    obtain ⟨hj13, h⟩ := h
    refine wn_iast (pc := 235) X A_140 hj13 (by decide) dX8_ticks_235 ?_
    refine wp_aload_n (pc := 236) X dX8_ticks_236 rfl rfl ?_
    refine wp_get (pc := 237) X fl_X8_7 A_139 (by decide) (fg_8_0 A_139) dX8_ticks_237 ?_
    refine wp_iload_n (pc := 240) X dX8_ticks_240 rfl rfl ?_
    refine wp_bipush (pc := 241) (v := nI 36) X dX8_ticks_241 (by decide) ?_
    refine wn_iadd (pc := 243) X dX8_ticks_243 ?_
    refine wp_iload_n (pc := 244) X dX8_ticks_244 rfl rfl ?_
    refine wn_iadd (pc := 245) X dX8_ticks_245 ?_
    refine wp_dup2 (pc := 246) X dX8_ticks_246 rfl rfl ?_
    obtain ⟨hj14, h⟩ := h
    refine wn_iald (pc := 247) X A_140 hj14 (by decide) dX8_ticks_247 ?_
    refine wp_iconst (pc := 248) (v := nI 1) X dX8_ticks_248 (by decide) ?_
    refine wp_iadd (pc := 249) X dX8_ticks_249 ?_
    obtain ⟨hj15, h⟩ := h
    refine wn_iast (pc := 250) X A_140 hj15 (by decide) dX8_ticks_250 ?_
    refine wp_aload_n (pc := 251) X dX8_ticks_251 rfl rfl ?_
    refine wp_get (pc := 252) X fl_X8_7 A_139 (by decide) (fg_8_0 A_139) dX8_ticks_252 ?_
    refine wp_iload_n (pc := 255) X dX8_ticks_255 rfl rfl ?_
    refine wp_bipush (pc := 256) (v := nI 47) X dX8_ticks_256 (by decide) ?_
    refine wn_iadd (pc := 258) X dX8_ticks_258 ?_
    refine wp_dup2 (pc := 259) X dX8_ticks_259 rfl rfl ?_
    obtain ⟨hj16, h⟩ := h
    refine wn_iald (pc := 260) X A_140 hj16 (by decide) dX8_ticks_260 ?_
    refine wp_iconst (pc := 261) (v := nI 1) X dX8_ticks_261 (by decide) ?_
    refine wp_iadd (pc := 262) X dX8_ticks_262 ?_
    obtain ⟨hj17, h⟩ := h
    refine wn_iast (pc := 263) X A_140 hj17 (by decide) dX8_ticks_263 ?_
    refine wp_aload_n (pc := 264) X dX8_ticks_264 rfl rfl ?_
    refine wp_get (pc := 265) X fl_X8_7 A_139 (by decide) (fg_8_0 A_139) dX8_ticks_265 ?_
    refine wp_iload_n (pc := 268) X dX8_ticks_268 rfl rfl ?_
    refine wp_bipush (pc := 269) (v := nI 45) X dX8_ticks_269 (by decide) ?_
    refine wn_iadd (pc := 271) X dX8_ticks_271 ?_
    refine wp_dup2 (pc := 272) X dX8_ticks_272 rfl rfl ?_
    obtain ⟨hj18, h⟩ := h
    refine wn_iald (pc := 273) X A_140 hj18 (by decide) dX8_ticks_273 ?_
    refine wp_iconst (pc := 274) (v := nI 1) X dX8_ticks_274 (by decide) ?_
    refine wp_iadd (pc := 275) X dX8_ticks_275 ?_
    obtain ⟨hj19, h⟩ := h
    refine wn_iast (pc := 276) X A_140 hj19 (by decide) dX8_ticks_276 ?_
    refine wp_iload_n (pc := 277) X dX8_ticks_277 rfl rfl ?_
    exact wp_iret (pc := 278) X T dX8_ticks_278 h
  · replace h := h.2 hc
    refine wp_iload_n (pc := 110) X dX8_ticks_110 rfl rfl ?_
    refine wp_bipush (pc := 111) (v := nI 89) X dX8_ticks_111 (by decide) ?_
    refine wn_iadd (pc := 113) X dX8_ticks_113 ?_
    refine wp_bipush (pc := 114) (v := nI 16) X dX8_ticks_114 (by decide) ?_
    refine wp_iload (pc := 116) X dX8_ticks_116 rfl ?_
    refine wn_imul (pc := 118) X dX8_ticks_118 ?_
    refine wn_iadd (pc := 119) X dX8_ticks_119 ?_
    refine wp_istore (pc := 120) (lo' := [some (.ref 139), some (.int (nI r)), some (.int (nI 0)), some (.int (nI f)), some (.int (nI y)), some (.int (nI l)), some (.int (nI (r + 89 + (16 * l))))]) X dX8_ticks_120 (Nat.le_of_ble_eq_true rfl) rfl rfl ?_
    refine wp_aload_n (pc := 122) X dX8_ticks_122 rfl rfl ?_
    refine wp_iload_n (pc := 123) X dX8_ticks_123 rfl rfl ?_
    refine wp_iload (pc := 124) X dX8_ticks_124 rfl ?_
    refine wp_invV (pc := 126) X sv_X8_82 A_139 (by decide) rfl ⟨by decide, by decide⟩ (As := [.int (nI r), .int (nI l)]) (st := []) rfl rfl (Nat.le_of_ble_eq_true rfl) dX8_ticks_126 ?_
    refine CM.mono h (fun r21 M20 h => ?_)
    refine wp_if_eq (pc := 129) (tgt := 148) X dX8_ticks_129 (by decide) (fun hc => ?_) (fun hc => ?_)
    · replace h := h.1 hc
      refine wp_iload_n (pc := 148) X dX8_ticks_148 rfl rfl ?_
      refine wp_if_eq (pc := 149) (tgt := 162) X dX8_ticks_149 (by decide) (fun _ => ?_) (fun hc => absurd hc (by decide))
      refine wp_aload_n (pc := 162) X dX8_ticks_162 rfl rfl ?_
      refine wp_iload_n (pc := 163) X dX8_ticks_163 rfl rfl ?_
      refine wp_iload (pc := 164) X dX8_ticks_164 rfl ?_
      refine wp_iload_n (pc := 166) X dX8_ticks_166 rfl rfl ?_
      refine wp_iload (pc := 167) X dX8_ticks_167 rfl ?_
      refine wp_invVv (pc := 169) X sv_X8_89 A_139 (by decide) rfl ⟨by decide, by decide⟩ (As := [.int (nI r), .int (nI (r + 89 + (16 * l))), .int (nI f), .int (nI y)]) (st := []) rfl rfl (Nat.le_of_ble_eq_true rfl) dX8_ticks_169 ?_
      refine CM.mono h (fun _ M22 h => ?_)
      refine wn_iinc (pc := 172) (d := 1) (lo' := [some (.ref 139), some (.int (nI r)), some (.int (nI 0)), some (.int (nI f)), some (.int (nI y)), some (.int (nI (l + 1))), some (.int (nI (r + 89 + (16 * l))))]) X dX8_ticks_172 rfl (by decide) rfl rfl ?_
      refine wp_goto (pc := 175) (tgt := 96) X dX8_ticks_175 (by decide) ?_
      exact wp_drop (show subL _ [some (.ref 139), some (.int (nI r)), some (.int (nI 0)), some (.int (nI f)), some (.int (nI y)), some (.int (nI (l + 1))), none] from ⟨rfl, ⟨rfl, ⟨rfl, ⟨rfl, ⟨rfl, ⟨rfl, trivial⟩⟩⟩⟩⟩⟩) h
    · replace h := h.2 hc
      refine wp_aload_n (pc := 132) X dX8_ticks_132 rfl rfl ?_
      refine wp_get (pc := 133) X fl_X8_7 A_139 (by decide) (fg_8_0 A_139) dX8_ticks_133 ?_
      refine wp_iload (pc := 136) X dX8_ticks_136 rfl ?_
      refine wp_iconst (pc := 138) (v := nI 3) X dX8_ticks_138 (by decide) ?_
      refine wn_iadd (pc := 139) X dX8_ticks_139 ?_
      refine wp_dup2 (pc := 140) X dX8_ticks_140 rfl rfl ?_
      obtain ⟨hj24, h⟩ := h
      refine wn_iald (pc := 141) X A_140 hj24 (by decide) dX8_ticks_141 ?_
      refine wp_iconst (pc := 142) (v := nI 1) X dX8_ticks_142 (by decide) ?_
      refine wp_iadd (pc := 143) X dX8_ticks_143 ?_
      obtain ⟨hj25, h⟩ := h
      refine wn_iast (pc := 144) X A_140 hj25 (by decide) dX8_ticks_144 ?_
      refine wp_goto (pc := 145) (tgt := 172) X dX8_ticks_145 (by decide) ?_
      refine wn_iinc (pc := 172) (d := 1) (lo' := [some (.ref 139), some (.int (nI r)), some (.int (nI 0)), some (.int (nI f)), some (.int (nI y)), some (.int (nI (l + 1))), some (.int (nI (r + 89 + (16 * l))))]) X dX8_ticks_172 rfl (by decide) rfl rfl ?_
      refine wp_goto (pc := 175) (tgt := 96) X dX8_ticks_175 (by decide) ?_
      exact wp_drop (show subL _ [some (.ref 139), some (.int (nI r)), some (.int (nI 0)), some (.int (nI f)), some (.int (nI y)), some (.int (nI (l + 1))), none] from ⟨rfl, ⟨rfl, ⟨rfl, ⟨rfl, ⟨rfl, ⟨rfl, trivial⟩⟩⟩⟩⟩⟩) h
theorem r_X8_copies_0 {x : CT} {L : List Nat} {Q : Int32 → Mem → Prop} {M : Mem}  {a1 a2 : Nat} (X : BS x L cX8_copies 4 RX8 (m_X8_copies).2.2.2.2) (T : RT x L none Q) 
    (h : WP x L 2 [some (.ref 139), some (.int (nI a1)), some (.int (nI a2)), some (.int (nI 0))] [] M) : WP x L 0 [some (.ref 139), some (.int (nI a1)), some (.int (nI a2)), none] [] M := by
  refine wp_iconst (pc := 0) (v := nI 0) X dX8_copies_0 (by decide) ?_
  refine wp_istore_n (pc := 1) (lo' := [some (.ref 139), some (.int (nI a1)), some (.int (nI a2)), some (.int (nI 0))]) X dX8_copies_1 rfl (Nat.le_of_ble_eq_true rfl) rfl rfl ?_
  exact h
theorem r_X8_copies_2 {x : CT} {L : List Nat} {Q : Int32 → Mem → Prop} {M : Mem}  {a1 a2 k : Nat} (X : BS x L cX8_copies 4 RX8 (m_X8_copies).2.2.2.2) (T : RT x L none Q) (A_139 : AC L 139 8 0) (A_140 : AC L 140 9 918)
    (h : k < 2 ^ 31 ∧ (153 ≤ k → Q 0 M) ∧ (k < 153 → (a1 + k) < 918 ∧ (a2 + k) < 918 ∧ WP x L 2 [some (.ref 139), some (.int (nI a1)), some (.int (nI a2)), some (.int (nI (k + 1)))] [] (MU M 140 (a2 + k) (M 140 (a1 + k))))) : WP x L 2 [some (.ref 139), some (.int (nI a1)), some (.int (nI a2)), some (.int (nI k))] [] M := by
  refine wp_iload_n (pc := 2) X dX8_copies_2 rfl rfl ?_
  refine wp_sipush (pc := 3) (v := nI 153) X dX8_copies_3 (by decide) ?_
  obtain ⟨hb3, h⟩ := h
  refine wn_icmp_ge (pc := 6) (tgt := 31) X dX8_copies_6 (by decide) hb3 (by decide) (fun hc => ?_) (fun hc => ?_)
  · replace h := h.1 hc
    exact wp_ret (pc := 31) X T dX8_copies_31 h
  · replace h := h.2 hc
    refine wp_aload_n (pc := 9) X dX8_copies_9 rfl rfl ?_
    refine wp_get (pc := 10) X fl_X8_7 A_139 (by decide) (fg_8_0 A_139) dX8_copies_10 ?_
    refine wp_iload_n (pc := 13) X dX8_copies_13 rfl rfl ?_
    refine wp_iload_n (pc := 14) X dX8_copies_14 rfl rfl ?_
    refine wn_iadd (pc := 15) X dX8_copies_15 ?_
    refine wp_aload_n (pc := 16) X dX8_copies_16 rfl rfl ?_
    refine wp_get (pc := 17) X fl_X8_7 A_139 (by decide) (fg_8_0 A_139) dX8_copies_17 ?_
    refine wp_iload_n (pc := 20) X dX8_copies_20 rfl rfl ?_
    refine wp_iload_n (pc := 21) X dX8_copies_21 rfl rfl ?_
    refine wn_iadd (pc := 22) X dX8_copies_22 ?_
    obtain ⟨hj1, h⟩ := h
    refine wn_iald (pc := 23) X A_140 hj1 (by decide) dX8_copies_23 ?_
    obtain ⟨hj2, h⟩ := h
    refine wn_iast (pc := 24) X A_140 hj2 (by decide) dX8_copies_24 ?_
    refine wn_iinc (pc := 25) (d := 1) (lo' := [some (.ref 139), some (.int (nI a1)), some (.int (nI a2)), some (.int (nI (k + 1)))]) X dX8_copies_25 rfl (by decide) rfl rfl ?_
    refine wp_goto (pc := 28) (tgt := 2) X dX8_copies_28 (by decide) ?_
    exact h
theorem r_X8_minds_0 {x : CT} {L : List Nat} {Q : Int32 → Mem → Prop} {M : Mem}  (X : BS x L cX8_minds 2 RX8 (m_X8_minds).2.2.2.2) (T : RT x L none Q) (A_139 : AC L 139 8 0)
    (h : ∃ v1 : Nat, M 139 1 = nI v1 ∧ v1 < 2 ^ 31 ∧ (¬ v1 = 4 → WP x L 47 [some (.ref 139), none] [] M) ∧ (v1 = 4 → WP x L 10 [some (.ref 139), some (.int (nI 2))] [] M)) : WP x L 0 [some (.ref 139), none] [] M := by
  refine wp_aload_n (pc := 0) X dX8_minds_0 rfl rfl ?_
  obtain ⟨v1, he2, h⟩ := h
  refine we_get (pc := 1) X fl_X8_27 A_139 (by decide) (fg_8_1 A_139) he2 dX8_minds_1 ?_
  refine wp_iconst (pc := 4) (v := nI 4) X dX8_minds_4 (by decide) ?_
  obtain ⟨hb3, h⟩ := h
  refine wn_icmp_ne (pc := 5) (tgt := 47) X dX8_minds_5 (by decide) hb3 (by decide) (fun hc => ?_) (fun hc => ?_)
  · replace h := h.1 hc
    exact h
  · replace h := h.2 hc
    refine wp_iconst (pc := 8) (v := nI 2) X dX8_minds_8 (by decide) ?_
    refine wp_istore_n (pc := 9) (lo' := [some (.ref 139), some (.int (nI 2))]) X dX8_minds_9 rfl (Nat.le_of_ble_eq_true rfl) rfl rfl ?_
    exact h
theorem r_X8_minds_10 {x : CT} {L : List Nat} {Q : Int32 → Mem → Prop} {M : Mem}  {k : Nat} (X : BS x L cX8_minds 2 RX8 (m_X8_minds).2.2.2.2) (T : RT x L none Q) (A_139 : AC L 139 8 0)
    (h : k < 2 ^ 31 ∧ (5 ≤ k → ∃ v1 : Nat, M 139 1 = nI v1 ∧ 1 ≤ v1 ∧ WP x L 47 [some (.ref 139), none] [] (MU M 139 1 (nI (v1 - 1)))) ∧ (k < 5 → CM m_X8_copies L [.ref 139, .int (nI (153 * (k + 1))), .int (nI (153 * k))] M (fun _ M4 => WP x L 10 [some (.ref 139), some (.int (nI (k + 1)))] [] M4))) : WP x L 10 [some (.ref 139), some (.int (nI k))] [] M := by
  refine wp_iload_n (pc := 10) X dX8_minds_10 rfl rfl ?_
  refine wp_iconst (pc := 11) (v := nI 5) X dX8_minds_11 (by decide) ?_
  obtain ⟨hb6, h⟩ := h
  refine wn_icmp_ge (pc := 12) (tgt := 37) X dX8_minds_12 (by decide) hb6 (by decide) (fun hc => ?_) (fun hc => ?_)
  · replace h := h.1 hc
    refine wp_aload_n (pc := 37) X dX8_minds_37 rfl rfl ?_
    refine wp_dup (pc := 38) X dX8_minds_38 rfl ?_
    obtain ⟨v1, he2, h⟩ := h
    refine we_get (pc := 39) X fl_X8_27 A_139 (by decide) (fg_8_1 A_139) he2 dX8_minds_39 ?_
    refine wp_iconst (pc := 42) (v := nI 1) X dX8_minds_42 (by decide) ?_
    obtain ⟨hb3, h⟩ := h
    refine wn_isub (pc := 43) X dX8_minds_43 hb3 ?_
    refine wp_put (pc := 44) X fl_X8_27 fp_8_1 A_139 (by decide) (fk_8_1 A_139) (fs_8_1 A_139 _) dX8_minds_44 ?_
    exact wp_drop (show subL _ [some (.ref 139), none] from ⟨rfl, trivial⟩) h
  · replace h := h.2 hc
    refine wp_aload_n (pc := 15) X dX8_minds_15 rfl rfl ?_
    refine wp_sipush (pc := 16) (v := nI 153) X dX8_minds_16 (by decide) ?_
    refine wp_iload_n (pc := 19) X dX8_minds_19 rfl rfl ?_
    refine wp_iconst (pc := 20) (v := nI 1) X dX8_minds_20 (by decide) ?_
    refine wn_iadd (pc := 21) X dX8_minds_21 ?_
    refine wn_imul (pc := 22) X dX8_minds_22 ?_
    refine wp_sipush (pc := 23) (v := nI 153) X dX8_minds_23 (by decide) ?_
    refine wp_iload_n (pc := 26) X dX8_minds_26 rfl rfl ?_
    refine wn_imul (pc := 27) X dX8_minds_27 ?_
    refine wp_invVv (pc := 28) X sv_X8_92 A_139 (by decide) rfl ⟨by decide, by decide⟩ (As := [.int (nI (153 * (k + 1))), .int (nI (153 * k))]) (st := []) rfl rfl (Nat.le_of_ble_eq_true rfl) dX8_minds_28 ?_
    refine CM.mono h (fun _ M4 h => ?_)
    refine wn_iinc (pc := 31) (d := 1) (lo' := [some (.ref 139), some (.int (nI (k + 1)))]) X dX8_minds_31 rfl (by decide) rfl rfl ?_
    refine wp_goto (pc := 34) (tgt := 10) X dX8_minds_34 (by decide) ?_
    exact h
theorem r_X8_minds_47 {x : CT} {L : List Nat} {Q : Int32 → Mem → Prop} {M : Mem}  (X : BS x L cX8_minds 2 RX8 (m_X8_minds).2.2.2.2) (T : RT x L none Q) (A_139 : AC L 139 8 0)
    (h : ∃ v1 : Nat, M 139 1 = nI v1 ∧ CM m_X8_copies L [.ref 139, .int (nI 0), .int (nI (153 * (2 + v1)))] M (fun _ M3 => ∃ v5 : Nat, M3 139 1 = nI v5 ∧ Q 0 (MU M3 139 1 (nI (v5 + 1))))) : WP x L 47 [some (.ref 139), none] [] M := by
  refine wp_aload_n (pc := 47) X dX8_minds_47 rfl rfl ?_
  refine wp_iconst (pc := 48) (v := nI 0) X dX8_minds_48 (by decide) ?_
  refine wp_sipush (pc := 49) (v := nI 153) X dX8_minds_49 (by decide) ?_
  refine wp_iconst (pc := 52) (v := nI 2) X dX8_minds_52 (by decide) ?_
  refine wp_aload_n (pc := 53) X dX8_minds_53 rfl rfl ?_
  obtain ⟨v1, he2, h⟩ := h
  refine we_get (pc := 54) X fl_X8_27 A_139 (by decide) (fg_8_1 A_139) he2 dX8_minds_54 ?_
  refine wn_iadd (pc := 57) X dX8_minds_57 ?_
  refine wn_imul (pc := 58) X dX8_minds_58 ?_
  refine wp_invVv (pc := 59) X sv_X8_92 A_139 (by decide) rfl ⟨by decide, by decide⟩ (As := [.int (nI 0), .int (nI (153 * (2 + v1)))]) (st := []) rfl rfl (Nat.le_of_ble_eq_true rfl) dX8_minds_59 ?_
  refine CM.mono h (fun _ M3 h => ?_)
  refine wp_aload_n (pc := 62) X dX8_minds_62 rfl rfl ?_
  refine wp_dup (pc := 63) X dX8_minds_63 rfl ?_
  obtain ⟨v5, he6, h⟩ := h
  refine we_get (pc := 64) X fl_X8_27 A_139 (by decide) (fg_8_1 A_139) he6 dX8_minds_64 ?_
  refine wp_iconst (pc := 67) (v := nI 1) X dX8_minds_67 (by decide) ?_
  refine wn_iadd (pc := 68) X dX8_minds_68 ?_
  refine wp_put (pc := 69) X fl_X8_27 fp_8_1 A_139 (by decide) (fk_8_1 A_139) (fs_8_1 A_139 _) dX8_minds_69 ?_
  exact wp_ret (pc := 72) X T dX8_minds_72 h
theorem r_X8_undo_0 {x : CT} {L : List Nat} {Q : Int32 → Mem → Prop} {M : Mem}  (X : BS x L cX8_undo 1 RX8 (m_X8_undo).2.2.2.2) (T : RT x L (some .int) Q) (A_139 : AC L 139 8 0)
    (h : ∃ v1 : Nat, M 139 1 = nI v1 ∧ v1 < 2 ^ 31 ∧ (0 < v1 → ∃ v3 : Nat, M 139 1 = nI v3 ∧ ∃ v5 : Nat, (MU M 139 1 ((nI v3) - (nI 1))) 139 1 = nI v5 ∧ CM m_X8_copies L [.ref 139, .int (nI (153 * (2 + v5))), .int (nI 0)] (MU M 139 1 ((nI v3) - (nI 1))) (fun _ M7 => ∃ v9 : Nat, M7 139 1 = nI v9 ∧ Q (nI v9) M7)) ∧ (v1 = 0 → Q (-2) M)) : WP x L 0 [some (.ref 139)] [] M := by
  refine wp_aload_n (pc := 0) X dX8_undo_0 rfl rfl ?_
  obtain ⟨v1, he2, h⟩ := h
  refine we_get (pc := 1) X fl_X8_27 A_139 (by decide) (fg_8_1 A_139) he2 dX8_undo_1 ?_
  obtain ⟨hb11, h⟩ := h
  refine wn_if_ne (pc := 4) (tgt := 10) X dX8_undo_4 (by decide) hb11 (fun hc => ?_) (fun hc => ?_)
  · replace h := h.1 hc
    refine wp_aload_n (pc := 10) X dX8_undo_10 rfl rfl ?_
    refine wp_dup (pc := 11) X dX8_undo_11 rfl ?_
    obtain ⟨v3, he4, h⟩ := h
    refine we_get (pc := 12) X fl_X8_27 A_139 (by decide) (fg_8_1 A_139) he4 dX8_undo_12 ?_
    refine wp_iconst (pc := 15) (v := nI 1) X dX8_undo_15 (by decide) ?_
    refine wp_isub (pc := 16) X dX8_undo_16 ?_
    refine wp_put (pc := 17) X fl_X8_27 fp_8_1 A_139 (by decide) (fk_8_1 A_139) (fs_8_1 A_139 _) dX8_undo_17 ?_
    refine wp_aload_n (pc := 20) X dX8_undo_20 rfl rfl ?_
    refine wp_sipush (pc := 21) (v := nI 153) X dX8_undo_21 (by decide) ?_
    refine wp_iconst (pc := 24) (v := nI 2) X dX8_undo_24 (by decide) ?_
    refine wp_aload_n (pc := 25) X dX8_undo_25 rfl rfl ?_
    obtain ⟨v5, he6, h⟩ := h
    refine we_get (pc := 26) X fl_X8_27 A_139 (by decide) (fg_8_1 A_139) he6 dX8_undo_26 ?_
    refine wn_iadd (pc := 29) X dX8_undo_29 ?_
    refine wn_imul (pc := 30) X dX8_undo_30 ?_
    refine wp_iconst (pc := 31) (v := nI 0) X dX8_undo_31 (by decide) ?_
    refine wp_invVv (pc := 32) X sv_X8_92 A_139 (by decide) rfl ⟨by decide, by decide⟩ (As := [.int (nI (153 * (2 + v5))), .int (nI 0)]) (st := []) rfl rfl (Nat.le_of_ble_eq_true rfl) dX8_undo_32 ?_
    refine CM.mono h (fun _ M7 h => ?_)
    refine wp_aload_n (pc := 35) X dX8_undo_35 rfl rfl ?_
    obtain ⟨v9, he10, h⟩ := h
    refine we_get (pc := 36) X fl_X8_27 A_139 (by decide) (fg_8_1 A_139) he10 dX8_undo_36 ?_
    exact wp_iret (pc := 39) X T dX8_undo_39 h
  · replace h := h.2 hc
    refine wp_bipush (pc := 7) (v := (-2)) X dX8_undo_7 (by decide) ?_
    exact wp_iret (pc := 9) X T dX8_undo_9 h
theorem r_X8_tick_0 {x : CT} {L : List Nat} {Q : Int32 → Mem → Prop} {M : Mem}  {a1 : Int32} (X : BS x L cX8_tick 4 RX8 (m_X8_tick).2.2.2.2) (T : RT x L (some .int) Q) (A_139 : AC L 139 8 0) (A_140 : AC L 140 9 918)
    (h : CM m_X8_within L [.int a1, .int (nI 1), .int (nI 99)] M (fun r2 M1 => (¬ r2 = 0 → (((M1 140 45) + a1) ≤ (nI 9999) → CM m_X8_minds L [.ref 139] M1 (fun _ M3 => WP x L 44 [some (.ref 139), some (.int a1), some (.int (M3 140 47)), some (.int (nI 0))] [] M3)) ∧ (¬ ((M1 140 45) + a1) ≤ (nI 9999) → Q (-2) M1)) ∧ (r2 = 0 → Q (-1) M1))) : WP x L 0 [some (.ref 139), some (.int a1), none, none] [] M := by
  refine wp_iload_n (pc := 0) X dX8_tick_0 rfl rfl ?_
  refine wp_iconst (pc := 1) (v := nI 1) X dX8_tick_1 (by decide) ?_
  refine wp_bipush (pc := 2) (v := nI 99) X dX8_tick_2 (by decide) ?_
  refine wp_invS (pc := 4) X sv_X8_31  rfl ⟨by decide, by decide⟩ (As := [.int a1, .int (nI 1), .int (nI 99)]) (st := []) rfl rfl (Nat.le_of_ble_eq_true rfl) dX8_tick_4 ?_
  refine CM.mono h (fun r2 M1 h => ?_)
  refine wp_if_ne (pc := 7) (tgt := 12) X dX8_tick_7 (by decide) (fun hc => ?_) (fun hc => ?_)
  · replace h := h.1 hc
    refine wp_aload_n (pc := 12) X dX8_tick_12 rfl rfl ?_
    refine wp_get (pc := 13) X fl_X8_7 A_139 (by decide) (fg_8_0 A_139) dX8_tick_13 ?_
    refine wp_bipush (pc := 16) (v := nI 45) X dX8_tick_16 (by decide) ?_
    refine wn_iald (pc := 18) X A_140 (by decide) (by decide) dX8_tick_18 ?_
    refine wp_iload_n (pc := 19) X dX8_tick_19 rfl rfl ?_
    refine wp_iadd (pc := 20) X dX8_tick_20 ?_
    refine wp_sipush (pc := 21) (v := nI 9999) X dX8_tick_21 (by decide) ?_
    refine wp_icmp_le (pc := 24) (tgt := 30) X dX8_tick_24 (by decide) (fun hc => ?_) (fun hc => ?_)
    · replace h := h.1 hc
      refine wp_aload_n (pc := 30) X dX8_tick_30 rfl rfl ?_
      refine wp_invVv (pc := 31) X sv_X8_95 A_139 (by decide) rfl ⟨by decide, by decide⟩ (As := []) (st := []) rfl rfl (Nat.le_of_ble_eq_true rfl) dX8_tick_31 ?_
      refine CM.mono h (fun _ M3 h => ?_)
      refine wp_aload_n (pc := 34) X dX8_tick_34 rfl rfl ?_
      refine wp_get (pc := 35) X fl_X8_7 A_139 (by decide) (fg_8_0 A_139) dX8_tick_35 ?_
      refine wp_bipush (pc := 38) (v := nI 47) X dX8_tick_38 (by decide) ?_
      refine wn_iald (pc := 40) X A_140 (by decide) (by decide) dX8_tick_40 ?_
      refine wp_istore_n (pc := 41) (lo' := [some (.ref 139), some (.int a1), some (.int (M3 140 47)), none]) X dX8_tick_41 rfl (Nat.le_of_ble_eq_true rfl) rfl rfl ?_
      refine wp_iconst (pc := 42) (v := nI 0) X dX8_tick_42 (by decide) ?_
      refine wp_istore_n (pc := 43) (lo' := [some (.ref 139), some (.int a1), some (.int (M3 140 47)), some (.int (nI 0))]) X dX8_tick_43 rfl (Nat.le_of_ble_eq_true rfl) rfl rfl ?_
      exact h
    · replace h := h.2 hc
      refine wp_bipush (pc := 27) (v := (-2)) X dX8_tick_27 (by decide) ?_
      exact wp_iret (pc := 29) X T dX8_tick_29 h
  · replace h := h.2 hc
    refine wp_iconst (pc := 10) (v := (-1)) X dX8_tick_10 (by decide) ?_
    exact wp_iret (pc := 11) X T dX8_tick_11 h
theorem r_X8_tick_44 {x : CT} {L : List Nat} {Q : Int32 → Mem → Prop} {M : Mem}  {n k : Nat} {a2 : Int32} (X : BS x L cX8_tick 4 RX8 (m_X8_tick).2.2.2.2) (T : RT x L (some .int) Q) (A_139 : AC L 139 8 0) (A_140 : AC L 140 9 918)
    (h : k < 2 ^ 31 ∧ n < 2 ^ 31 ∧ (n ≤ k → Q ((M 140 47) - a2) M) ∧ (k < n → CM m_X8_ticks L [.ref 139, .int (nI 0)] M (fun r2 M1 => WP x L 44 [some (.ref 139), some (.int (nI n)), some (.int a2), some (.int (nI (k + 1)))] [] M1))) : WP x L 44 [some (.ref 139), some (.int (nI n)), some (.int a2), some (.int (nI k))] [] M := by
  refine wp_iload_n (pc := 44) X dX8_tick_44 rfl rfl ?_
  refine wp_iload_n (pc := 45) X dX8_tick_45 rfl rfl ?_
  obtain ⟨hb3, hb4, h⟩ := h
  refine wn_icmp_ge (pc := 46) (tgt := 61) X dX8_tick_46 (by decide) hb3 hb4 (fun hc => ?_) (fun hc => ?_)
  · replace h := h.1 hc
    refine wp_aload_n (pc := 61) X dX8_tick_61 rfl rfl ?_
    refine wp_get (pc := 62) X fl_X8_7 A_139 (by decide) (fg_8_0 A_139) dX8_tick_62 ?_
    refine wp_bipush (pc := 65) (v := nI 47) X dX8_tick_65 (by decide) ?_
    refine wn_iald (pc := 67) X A_140 (by decide) (by decide) dX8_tick_67 ?_
    refine wp_iload_n (pc := 68) X dX8_tick_68 rfl rfl ?_
    refine wp_isub (pc := 69) X dX8_tick_69 ?_
    exact wp_iret (pc := 70) X T dX8_tick_70 h
  · replace h := h.2 hc
    refine wp_aload_n (pc := 49) X dX8_tick_49 rfl rfl ?_
    refine wp_iconst (pc := 50) (v := nI 0) X dX8_tick_50 (by decide) ?_
    refine wp_invV (pc := 51) X sv_X8_98 A_139 (by decide) rfl ⟨by decide, by decide⟩ (As := [.int (nI 0)]) (st := []) rfl rfl (Nat.le_of_ble_eq_true rfl) dX8_tick_51 ?_
    refine CM.mono h (fun r2 M1 h => ?_)
    refine wp_pop (pc := 54) X dX8_tick_54 rfl ?_
    refine wn_iinc (pc := 55) (d := 1) (lo' := [some (.ref 139), some (.int (nI n)), some (.int a2), some (.int (nI (k + 1)))]) X dX8_tick_55 rfl (by decide) rfl rfl ?_
    refine wp_goto (pc := 58) (tgt := 44) X dX8_tick_58 (by decide) ?_
    exact h
theorem r_X8_isFile_0 {x : CT} {L : List Nat} {Q : Int32 → Mem → Prop} {M : Mem}  {a1 : Int32} (X : BS x L cX8_isFile 2 RX8 (m_X8_isFile).2.2.2.2) (T : RT x L (some .boolean) Q) (A_139 : AC L 139 8 0) (A_140 : AC L 140 9 918)
    (h : CM m_X8_within L [.int a1, .int (nI 0), .int ((M 140 42) - (nI 1))] M (fun r2 M1 => (r2 = 0 ∨ r2 = 1) ∧ Q r2 M1)) : WP x L 0 [some (.ref 139), some (.int a1)] [] M := by
  refine wp_iload_n (pc := 0) X dX8_isFile_0 rfl rfl ?_
  refine wp_iconst (pc := 1) (v := nI 0) X dX8_isFile_1 (by decide) ?_
  refine wp_aload_n (pc := 2) X dX8_isFile_2 rfl rfl ?_
  refine wp_get (pc := 3) X fl_X8_7 A_139 (by decide) (fg_8_0 A_139) dX8_isFile_3 ?_
  refine wp_bipush (pc := 6) (v := nI 42) X dX8_isFile_6 (by decide) ?_
  refine wn_iald (pc := 8) X A_140 (by decide) (by decide) dX8_isFile_8 ?_
  refine wp_iconst (pc := 9) (v := nI 1) X dX8_isFile_9 (by decide) ?_
  refine wp_isub (pc := 10) X dX8_isFile_10 ?_
  refine wp_invS (pc := 11) X sv_X8_31  rfl ⟨by decide, by decide⟩ (As := [.int a1, .int (nI 0), .int ((M 140 42) - (nI 1))]) (st := []) rfl rfl (Nat.le_of_ble_eq_true rfl) dX8_isFile_11 ?_
  refine CM.mono h (fun r2 M1 h => ?_)
  exact wp_zret (pc := 14) X T h.1 dX8_isFile_14 h.2
theorem r_X8_isListener_0 {x : CT} {L : List Nat} {Q : Int32 → Mem → Prop} {M : Mem}  {a1 : Int32} (X : BS x L cX8_isListener 2 RX8 (m_X8_isListener).2.2.2.2) (T : RT x L (some .boolean) Q) (A_139 : AC L 139 8 0) (A_140 : AC L 140 9 918)
    (h : CM m_X8_within L [.int a1, .int (nI 0), .int ((M 140 48) - (nI 1))] M (fun r2 M1 => (r2 = 0 ∨ r2 = 1) ∧ Q r2 M1)) : WP x L 0 [some (.ref 139), some (.int a1)] [] M := by
  refine wp_iload_n (pc := 0) X dX8_isListener_0 rfl rfl ?_
  refine wp_iconst (pc := 1) (v := nI 0) X dX8_isListener_1 (by decide) ?_
  refine wp_aload_n (pc := 2) X dX8_isListener_2 rfl rfl ?_
  refine wp_get (pc := 3) X fl_X8_7 A_139 (by decide) (fg_8_0 A_139) dX8_isListener_3 ?_
  refine wp_bipush (pc := 6) (v := nI 48) X dX8_isListener_6 (by decide) ?_
  refine wn_iald (pc := 8) X A_140 (by decide) (by decide) dX8_isListener_8 ?_
  refine wp_iconst (pc := 9) (v := nI 1) X dX8_isListener_9 (by decide) ?_
  refine wp_isub (pc := 10) X dX8_isListener_10 ?_
  refine wp_invS (pc := 11) X sv_X8_31  rfl ⟨by decide, by decide⟩ (As := [.int a1, .int (nI 0), .int ((M 140 48) - (nI 1))]) (st := []) rfl rfl (Nat.le_of_ble_eq_true rfl) dX8_isListener_11 ?_
  refine CM.mono h (fun r2 M1 h => ?_)
  exact wp_zret (pc := 14) X T h.1 dX8_isListener_14 h.2
theorem r_X8_renew_0 {x : CT} {L : List Nat} {Q : Int32 → Mem → Prop} {M : Mem}  {a1 : Int32} (X : BS x L cX8_renew 2 RX8 (m_X8_renew).2.2.2.2) (T : RT x L (some .int) Q) (A_139 : AC L 139 8 0) (A_140 : AC L 140 9 918)
    (h : CM m_X8_isFile L [.ref 139, .int a1] M (fun r2 M1 => (¬ r2 = 0 → CM m_X8_minds L [.ref 139] M1 (fun _ M3 => vp_in ((nI 18) + a1) 918 ∧ ¬ (nI 100) = 0 ∧ vp_in ((nI 18) + a1) 918 ∧ vp_in ((nI 24) + a1) 918 ∧ vp_in ((nI 18) + a1) 918 ∧ Q ((MU (MU M3 140 (Int32.toNatClampNeg ((nI 18) + a1)) (((M3 140 (Int32.toNatClampNeg ((nI 18) + a1))) + (nI 1)) - ((M3 140 (Int32.toNatClampNeg ((nI 18) + a1))) + (nI 1)) / (nI 100) * (nI 100))) 140 (Int32.toNatClampNeg ((nI 24) + a1)) (nI 0)) 140 (Int32.toNatClampNeg ((nI 18) + a1))) (MU (MU M3 140 (Int32.toNatClampNeg ((nI 18) + a1)) (((M3 140 (Int32.toNatClampNeg ((nI 18) + a1))) + (nI 1)) - ((M3 140 (Int32.toNatClampNeg ((nI 18) + a1))) + (nI 1)) / (nI 100) * (nI 100))) 140 (Int32.toNatClampNeg ((nI 24) + a1)) (nI 0)))) ∧ (r2 = 0 → Q (-1) M1))) : WP x L 0 [some (.ref 139), some (.int a1)] [] M := by
  refine wp_aload_n (pc := 0) X dX8_renew_0 rfl rfl ?_
  refine wp_iload_n (pc := 1) X dX8_renew_1 rfl rfl ?_
  refine wp_invV (pc := 2) X sv_X8_101 A_139 (by decide) rfl ⟨by decide, by decide⟩ (As := [.int a1]) (st := []) rfl rfl (Nat.le_of_ble_eq_true rfl) dX8_renew_2 ?_
  refine CM.mono h (fun r2 M1 h => ?_)
  refine wp_if_ne (pc := 5) (tgt := 10) X dX8_renew_5 (by decide) (fun hc => ?_) (fun hc => ?_)
  · replace h := h.1 hc
    refine wp_aload_n (pc := 10) X dX8_renew_10 rfl rfl ?_
    refine wp_invVv (pc := 11) X sv_X8_95 A_139 (by decide) rfl ⟨by decide, by decide⟩ (As := []) (st := []) rfl rfl (Nat.le_of_ble_eq_true rfl) dX8_renew_11 ?_
    refine CM.mono h (fun _ M3 h => ?_)
    refine wp_aload_n (pc := 14) X dX8_renew_14 rfl rfl ?_
    refine wp_get (pc := 15) X fl_X8_7 A_139 (by decide) (fg_8_0 A_139) dX8_renew_15 ?_
    refine wp_bipush (pc := 18) (v := nI 18) X dX8_renew_18 (by decide) ?_
    refine wp_iload_n (pc := 20) X dX8_renew_20 rfl rfl ?_
    refine wp_iadd (pc := 21) X dX8_renew_21 ?_
    refine wp_aload_n (pc := 22) X dX8_renew_22 rfl rfl ?_
    refine wp_get (pc := 23) X fl_X8_7 A_139 (by decide) (fg_8_0 A_139) dX8_renew_23 ?_
    refine wp_bipush (pc := 26) (v := nI 18) X dX8_renew_26 (by decide) ?_
    refine wp_iload_n (pc := 28) X dX8_renew_28 rfl rfl ?_
    refine wp_iadd (pc := 29) X dX8_renew_29 ?_
    obtain ⟨hj5, h⟩ := h
    refine wp_iald (pc := 30) X A_140 hj5 dX8_renew_30 ?_
    refine wp_iconst (pc := 31) (v := nI 1) X dX8_renew_31 (by decide) ?_
    refine wp_iadd (pc := 32) X dX8_renew_32 ?_
    refine wp_bipush (pc := 33) (v := nI 100) X dX8_renew_33 (by decide) ?_
    obtain ⟨hb6, h⟩ := h
    refine wp_irem (pc := 35) X dX8_renew_35 hb6 ?_
    obtain ⟨hj7, h⟩ := h
    refine wp_iast (pc := 36) X A_140 hj7 dX8_renew_36 ?_
    refine wp_aload_n (pc := 37) X dX8_renew_37 rfl rfl ?_
    refine wp_get (pc := 38) X fl_X8_7 A_139 (by decide) (fg_8_0 A_139) dX8_renew_38 ?_
    refine wp_bipush (pc := 41) (v := nI 24) X dX8_renew_41 (by decide) ?_
    refine wp_iload_n (pc := 43) X dX8_renew_43 rfl rfl ?_
    refine wp_iadd (pc := 44) X dX8_renew_44 ?_
    refine wp_iconst (pc := 45) (v := nI 0) X dX8_renew_45 (by decide) ?_
    obtain ⟨hj8, h⟩ := h
    refine wp_iast (pc := 46) X A_140 hj8 dX8_renew_46 ?_
    refine wp_aload_n (pc := 47) X dX8_renew_47 rfl rfl ?_
    refine wp_get (pc := 48) X fl_X8_7 A_139 (by decide) (fg_8_0 A_139) dX8_renew_48 ?_
    refine wp_bipush (pc := 51) (v := nI 18) X dX8_renew_51 (by decide) ?_
    refine wp_iload_n (pc := 53) X dX8_renew_53 rfl rfl ?_
    refine wp_iadd (pc := 54) X dX8_renew_54 ?_
    obtain ⟨hj9, h⟩ := h
    refine wp_iald (pc := 55) X A_140 hj9 dX8_renew_55 ?_
    exact wp_iret (pc := 56) X T dX8_renew_56 h
  · replace h := h.2 hc
    refine wp_iconst (pc := 8) (v := (-1)) X dX8_renew_8 (by decide) ?_
    exact wp_iret (pc := 9) X T dX8_renew_9 h
theorem r_X8_renewN_0 {x : CT} {L : List Nat} {Q : Int32 → Mem → Prop} {M : Mem}  {f : Nat} (X : BS x L cX8_renew 2 RX8 (m_X8_renew).2.2.2.2) (T : RT x L (some .int) Q) (A_139 : AC L 139 8 0) (A_140 : AC L 140 9 918)
    (h : CM m_X8_isFile L [.ref 139, .int (nI f)] M (fun r2 M1 => (¬ r2 = 0 → CM m_X8_minds L [.ref 139] M1 (fun _ M3 => (18 + f) < 918 ∧ ¬ (nI 100) = 0 ∧ (18 + f) < 918 ∧ (24 + f) < 918 ∧ (18 + f) < 918 ∧ Q ((MU (MU M3 140 (18 + f) (((M3 140 (18 + f)) + (nI 1)) - ((M3 140 (18 + f)) + (nI 1)) / (nI 100) * (nI 100))) 140 (24 + f) (nI 0)) 140 (18 + f)) (MU (MU M3 140 (18 + f) (((M3 140 (18 + f)) + (nI 1)) - ((M3 140 (18 + f)) + (nI 1)) / (nI 100) * (nI 100))) 140 (24 + f) (nI 0)))) ∧ (r2 = 0 → Q (-1) M1))) : WP x L 0 [some (.ref 139), some (.int (nI f))] [] M := by
  refine wp_aload_n (pc := 0) X dX8_renew_0 rfl rfl ?_
  refine wp_iload_n (pc := 1) X dX8_renew_1 rfl rfl ?_
  refine wp_invV (pc := 2) X sv_X8_101 A_139 (by decide) rfl ⟨by decide, by decide⟩ (As := [.int (nI f)]) (st := []) rfl rfl (Nat.le_of_ble_eq_true rfl) dX8_renew_2 ?_
  refine CM.mono h (fun r2 M1 h => ?_)
  refine wp_if_ne (pc := 5) (tgt := 10) X dX8_renew_5 (by decide) (fun hc => ?_) (fun hc => ?_)
  · replace h := h.1 hc
    refine wp_aload_n (pc := 10) X dX8_renew_10 rfl rfl ?_
    refine wp_invVv (pc := 11) X sv_X8_95 A_139 (by decide) rfl ⟨by decide, by decide⟩ (As := []) (st := []) rfl rfl (Nat.le_of_ble_eq_true rfl) dX8_renew_11 ?_
    refine CM.mono h (fun _ M3 h => ?_)
    refine wp_aload_n (pc := 14) X dX8_renew_14 rfl rfl ?_
    refine wp_get (pc := 15) X fl_X8_7 A_139 (by decide) (fg_8_0 A_139) dX8_renew_15 ?_
    refine wp_bipush (pc := 18) (v := nI 18) X dX8_renew_18 (by decide) ?_
    refine wp_iload_n (pc := 20) X dX8_renew_20 rfl rfl ?_
    refine wn_iadd (pc := 21) X dX8_renew_21 ?_
    refine wp_aload_n (pc := 22) X dX8_renew_22 rfl rfl ?_
    refine wp_get (pc := 23) X fl_X8_7 A_139 (by decide) (fg_8_0 A_139) dX8_renew_23 ?_
    refine wp_bipush (pc := 26) (v := nI 18) X dX8_renew_26 (by decide) ?_
    refine wp_iload_n (pc := 28) X dX8_renew_28 rfl rfl ?_
    refine wn_iadd (pc := 29) X dX8_renew_29 ?_
    obtain ⟨hj5, h⟩ := h
    refine wn_iald (pc := 30) X A_140 hj5 (by decide) dX8_renew_30 ?_
    refine wp_iconst (pc := 31) (v := nI 1) X dX8_renew_31 (by decide) ?_
    refine wp_iadd (pc := 32) X dX8_renew_32 ?_
    refine wp_bipush (pc := 33) (v := nI 100) X dX8_renew_33 (by decide) ?_
    obtain ⟨hb6, h⟩ := h
    refine wp_irem (pc := 35) X dX8_renew_35 hb6 ?_
    obtain ⟨hj7, h⟩ := h
    refine wn_iast (pc := 36) X A_140 hj7 (by decide) dX8_renew_36 ?_
    refine wp_aload_n (pc := 37) X dX8_renew_37 rfl rfl ?_
    refine wp_get (pc := 38) X fl_X8_7 A_139 (by decide) (fg_8_0 A_139) dX8_renew_38 ?_
    refine wp_bipush (pc := 41) (v := nI 24) X dX8_renew_41 (by decide) ?_
    refine wp_iload_n (pc := 43) X dX8_renew_43 rfl rfl ?_
    refine wn_iadd (pc := 44) X dX8_renew_44 ?_
    refine wp_iconst (pc := 45) (v := nI 0) X dX8_renew_45 (by decide) ?_
    obtain ⟨hj8, h⟩ := h
    refine wn_iast (pc := 46) X A_140 hj8 (by decide) dX8_renew_46 ?_
    refine wp_aload_n (pc := 47) X dX8_renew_47 rfl rfl ?_
    refine wp_get (pc := 48) X fl_X8_7 A_139 (by decide) (fg_8_0 A_139) dX8_renew_48 ?_
    refine wp_bipush (pc := 51) (v := nI 18) X dX8_renew_51 (by decide) ?_
    refine wp_iload_n (pc := 53) X dX8_renew_53 rfl rfl ?_
    refine wn_iadd (pc := 54) X dX8_renew_54 ?_
    obtain ⟨hj9, h⟩ := h
    refine wn_iald (pc := 55) X A_140 hj9 (by decide) dX8_renew_55 ?_
    exact wp_iret (pc := 56) X T dX8_renew_56 h
  · replace h := h.2 hc
    refine wp_iconst (pc := 8) (v := (-1)) X dX8_renew_8 (by decide) ?_
    exact wp_iret (pc := 9) X T dX8_renew_9 h
theorem r_X8_weigh_0 {x : CT} {L : List Nat} {Q : Int32 → Mem → Prop} {M : Mem}  {a1 a2 : Int32} (X : BS x L cX8_weigh 4 RX8 (m_X8_weigh).2.2.2.2) (T : RT x L (some .int) Q) (A_139 : AC L 139 8 0) (A_140 : AC L 140 9 918)
    (h : CM m_X8_isFile L [.ref 139, .int a1] M (fun r2 M1 => (r2 = 0 → Q (-1) M1) ∧ (¬ r2 = 0 → CM m_X8_within L [.int a2, .int (nI 1), .int (nI 9)] M1 (fun r4 M3 => (¬ r4 = 0 → vp_in ((nI 12) + a1) 918 ∧ (¬ (M3 140 (Int32.toNatClampNeg ((nI 12) + a1))) = a2 → CM m_X8_minds L [.ref 139] M3 (fun _ M6 => vp_in ((nI 12) + a1) 918 ∧ Q (M3 140 (Int32.toNatClampNeg ((nI 12) + a1))) (MU M6 140 (Int32.toNatClampNeg ((nI 12) + a1)) a2))) ∧ ((M3 140 (Int32.toNatClampNeg ((nI 12) + a1))) = a2 → Q (-2) M3)) ∧ (r4 = 0 → Q (-1) M3))))) : WP x L 0 [some (.ref 139), some (.int a1), some (.int a2), none] [] M := by
  refine wp_aload_n (pc := 0) X dX8_weigh_0 rfl rfl ?_
  refine wp_iload_n (pc := 1) X dX8_weigh_1 rfl rfl ?_
  refine wp_invV (pc := 2) X sv_X8_101 A_139 (by decide) rfl ⟨by decide, by decide⟩ (As := [.int a1]) (st := []) rfl rfl (Nat.le_of_ble_eq_true rfl) dX8_weigh_2 ?_
  refine CM.mono h (fun r2 M1 h => ?_)
  refine wp_if_eq (pc := 5) (tgt := 18) X dX8_weigh_5 (by decide) (fun hc => ?_) (fun hc => ?_)
  · replace h := h.1 hc
    refine wp_iconst (pc := 18) (v := (-1)) X dX8_weigh_18 (by decide) ?_
    exact wp_iret (pc := 19) X T dX8_weigh_19 h
  · replace h := h.2 hc
    refine wp_iload_n (pc := 8) X dX8_weigh_8 rfl rfl ?_
    refine wp_iconst (pc := 9) (v := nI 1) X dX8_weigh_9 (by decide) ?_
    refine wp_bipush (pc := 10) (v := nI 9) X dX8_weigh_10 (by decide) ?_
    refine wp_invS (pc := 12) X sv_X8_31  rfl ⟨by decide, by decide⟩ (As := [.int a2, .int (nI 1), .int (nI 9)]) (st := []) rfl rfl (Nat.le_of_ble_eq_true rfl) dX8_weigh_12 ?_
    refine CM.mono h (fun r4 M3 h => ?_)
    refine wp_if_ne (pc := 15) (tgt := 20) X dX8_weigh_15 (by decide) (fun hc => ?_) (fun hc => ?_)
    · replace h := h.1 hc
      refine wp_aload_n (pc := 20) X dX8_weigh_20 rfl rfl ?_
      refine wp_get (pc := 21) X fl_X8_7 A_139 (by decide) (fg_8_0 A_139) dX8_weigh_21 ?_
      refine wp_bipush (pc := 24) (v := nI 12) X dX8_weigh_24 (by decide) ?_
      refine wp_iload_n (pc := 26) X dX8_weigh_26 rfl rfl ?_
      refine wp_iadd (pc := 27) X dX8_weigh_27 ?_
      obtain ⟨hj5, h⟩ := h
      refine wp_iald (pc := 28) X A_140 hj5 dX8_weigh_28 ?_
      refine wp_istore_n (pc := 29) (lo' := [some (.ref 139), some (.int a1), some (.int a2), some (.int (M3 140 (Int32.toNatClampNeg ((nI 12) + a1))))]) X dX8_weigh_29 rfl (Nat.le_of_ble_eq_true rfl) rfl rfl ?_
      refine wp_iload_n (pc := 30) X dX8_weigh_30 rfl rfl ?_
      refine wp_iload_n (pc := 31) X dX8_weigh_31 rfl rfl ?_
      refine wp_icmp_ne (pc := 32) (tgt := 38) X dX8_weigh_32 (by decide) (fun hc => ?_) (fun hc => ?_)
      · replace h := h.1 hc
        refine wp_aload_n (pc := 38) X dX8_weigh_38 rfl rfl ?_
        refine wp_invVv (pc := 39) X sv_X8_95 A_139 (by decide) rfl ⟨by decide, by decide⟩ (As := []) (st := []) rfl rfl (Nat.le_of_ble_eq_true rfl) dX8_weigh_39 ?_
        refine CM.mono h (fun _ M6 h => ?_)
        refine wp_aload_n (pc := 42) X dX8_weigh_42 rfl rfl ?_
        refine wp_get (pc := 43) X fl_X8_7 A_139 (by decide) (fg_8_0 A_139) dX8_weigh_43 ?_
        refine wp_bipush (pc := 46) (v := nI 12) X dX8_weigh_46 (by decide) ?_
        refine wp_iload_n (pc := 48) X dX8_weigh_48 rfl rfl ?_
        refine wp_iadd (pc := 49) X dX8_weigh_49 ?_
        refine wp_iload_n (pc := 50) X dX8_weigh_50 rfl rfl ?_
        obtain ⟨hj8, h⟩ := h
        refine wp_iast (pc := 51) X A_140 hj8 dX8_weigh_51 ?_
        refine wp_iload_n (pc := 52) X dX8_weigh_52 rfl rfl ?_
        exact wp_iret (pc := 53) X T dX8_weigh_53 h
      · replace h := h.2 hc
        refine wp_bipush (pc := 35) (v := (-2)) X dX8_weigh_35 (by decide) ?_
        exact wp_iret (pc := 37) X T dX8_weigh_37 h
    · replace h := h.2 hc
      refine wp_iconst (pc := 18) (v := (-1)) X dX8_weigh_18 (by decide) ?_
      exact wp_iret (pc := 19) X T dX8_weigh_19 h
theorem r_X8_weighN_0 {x : CT} {L : List Nat} {Q : Int32 → Mem → Prop} {M : Mem}  {f : Nat} {a2 : Int32} (X : BS x L cX8_weigh 4 RX8 (m_X8_weigh).2.2.2.2) (T : RT x L (some .int) Q) (A_139 : AC L 139 8 0) (A_140 : AC L 140 9 918)
    (h : CM m_X8_isFile L [.ref 139, .int (nI f)] M (fun r2 M1 => (r2 = 0 → Q (-1) M1) ∧ (¬ r2 = 0 → CM m_X8_within L [.int a2, .int (nI 1), .int (nI 9)] M1 (fun r4 M3 => (¬ r4 = 0 → (12 + f) < 918 ∧ (¬ (M3 140 (12 + f)) = a2 → CM m_X8_minds L [.ref 139] M3 (fun _ M6 => (12 + f) < 918 ∧ Q (M3 140 (12 + f)) (MU M6 140 (12 + f) a2))) ∧ ((M3 140 (12 + f)) = a2 → Q (-2) M3)) ∧ (r4 = 0 → Q (-1) M3))))) : WP x L 0 [some (.ref 139), some (.int (nI f)), some (.int a2), none] [] M := by
  refine wp_aload_n (pc := 0) X dX8_weigh_0 rfl rfl ?_
  refine wp_iload_n (pc := 1) X dX8_weigh_1 rfl rfl ?_
  refine wp_invV (pc := 2) X sv_X8_101 A_139 (by decide) rfl ⟨by decide, by decide⟩ (As := [.int (nI f)]) (st := []) rfl rfl (Nat.le_of_ble_eq_true rfl) dX8_weigh_2 ?_
  refine CM.mono h (fun r2 M1 h => ?_)
  refine wp_if_eq (pc := 5) (tgt := 18) X dX8_weigh_5 (by decide) (fun hc => ?_) (fun hc => ?_)
  · replace h := h.1 hc
    refine wp_iconst (pc := 18) (v := (-1)) X dX8_weigh_18 (by decide) ?_
    exact wp_iret (pc := 19) X T dX8_weigh_19 h
  · replace h := h.2 hc
    refine wp_iload_n (pc := 8) X dX8_weigh_8 rfl rfl ?_
    refine wp_iconst (pc := 9) (v := nI 1) X dX8_weigh_9 (by decide) ?_
    refine wp_bipush (pc := 10) (v := nI 9) X dX8_weigh_10 (by decide) ?_
    refine wp_invS (pc := 12) X sv_X8_31  rfl ⟨by decide, by decide⟩ (As := [.int a2, .int (nI 1), .int (nI 9)]) (st := []) rfl rfl (Nat.le_of_ble_eq_true rfl) dX8_weigh_12 ?_
    refine CM.mono h (fun r4 M3 h => ?_)
    refine wp_if_ne (pc := 15) (tgt := 20) X dX8_weigh_15 (by decide) (fun hc => ?_) (fun hc => ?_)
    · replace h := h.1 hc
      refine wp_aload_n (pc := 20) X dX8_weigh_20 rfl rfl ?_
      refine wp_get (pc := 21) X fl_X8_7 A_139 (by decide) (fg_8_0 A_139) dX8_weigh_21 ?_
      refine wp_bipush (pc := 24) (v := nI 12) X dX8_weigh_24 (by decide) ?_
      refine wp_iload_n (pc := 26) X dX8_weigh_26 rfl rfl ?_
      refine wn_iadd (pc := 27) X dX8_weigh_27 ?_
      obtain ⟨hj5, h⟩ := h
      refine wn_iald (pc := 28) X A_140 hj5 (by decide) dX8_weigh_28 ?_
      refine wp_istore_n (pc := 29) (lo' := [some (.ref 139), some (.int (nI f)), some (.int a2), some (.int (M3 140 (12 + f)))]) X dX8_weigh_29 rfl (Nat.le_of_ble_eq_true rfl) rfl rfl ?_
      refine wp_iload_n (pc := 30) X dX8_weigh_30 rfl rfl ?_
      refine wp_iload_n (pc := 31) X dX8_weigh_31 rfl rfl ?_
      refine wp_icmp_ne (pc := 32) (tgt := 38) X dX8_weigh_32 (by decide) (fun hc => ?_) (fun hc => ?_)
      · replace h := h.1 hc
        refine wp_aload_n (pc := 38) X dX8_weigh_38 rfl rfl ?_
        refine wp_invVv (pc := 39) X sv_X8_95 A_139 (by decide) rfl ⟨by decide, by decide⟩ (As := []) (st := []) rfl rfl (Nat.le_of_ble_eq_true rfl) dX8_weigh_39 ?_
        refine CM.mono h (fun _ M6 h => ?_)
        refine wp_aload_n (pc := 42) X dX8_weigh_42 rfl rfl ?_
        refine wp_get (pc := 43) X fl_X8_7 A_139 (by decide) (fg_8_0 A_139) dX8_weigh_43 ?_
        refine wp_bipush (pc := 46) (v := nI 12) X dX8_weigh_46 (by decide) ?_
        refine wp_iload_n (pc := 48) X dX8_weigh_48 rfl rfl ?_
        refine wn_iadd (pc := 49) X dX8_weigh_49 ?_
        refine wp_iload_n (pc := 50) X dX8_weigh_50 rfl rfl ?_
        obtain ⟨hj8, h⟩ := h
        refine wn_iast (pc := 51) X A_140 hj8 (by decide) dX8_weigh_51 ?_
        refine wp_iload_n (pc := 52) X dX8_weigh_52 rfl rfl ?_
        exact wp_iret (pc := 53) X T dX8_weigh_53 h
      · replace h := h.2 hc
        refine wp_bipush (pc := 35) (v := (-2)) X dX8_weigh_35 (by decide) ?_
        exact wp_iret (pc := 37) X T dX8_weigh_37 h
    · replace h := h.2 hc
      refine wp_iconst (pc := 18) (v := (-1)) X dX8_weigh_18 (by decide) ?_
      exact wp_iret (pc := 19) X T dX8_weigh_19 h
theorem r_X8_join_0 {x : CT} {L : List Nat} {Q : Int32 → Mem → Prop} {M : Mem}  {a1 : Int32} (X : BS x L cX8_join 4 RX8 (m_X8_join).2.2.2.2) (T : RT x L (some .int) Q) (A_139 : AC L 139 8 0) (A_140 : AC L 140 9 918)
    (h : CM m_X8_within L [.int a1, .int (nI 0), .int (nI 99)] M (fun r2 M1 => (¬ r2 = 0 → ∃ v3 : Nat, M1 140 48 = nI v3 ∧ v3 < 2 ^ 31 ∧ (¬ v3 = 4 → CM m_X8_minds L [.ref 139] M1 (fun _ M5 => ∃ v7 : Nat, M5 140 48 = nI v7 ∧ WP x L 46 [some (.ref 139), some (.int a1), some (.int (nI (89 + (16 * v7)))), some (.int (nI 0))] [] M5)) ∧ (v3 = 4 → Q (-3) M1)) ∧ (r2 = 0 → Q (-1) M1))) : WP x L 0 [some (.ref 139), some (.int a1), none, none] [] M := by
  refine wp_iload_n (pc := 0) X dX8_join_0 rfl rfl ?_
  refine wp_iconst (pc := 1) (v := nI 0) X dX8_join_1 (by decide) ?_
  refine wp_bipush (pc := 2) (v := nI 99) X dX8_join_2 (by decide) ?_
  refine wp_invS (pc := 4) X sv_X8_31  rfl ⟨by decide, by decide⟩ (As := [.int a1, .int (nI 0), .int (nI 99)]) (st := []) rfl rfl (Nat.le_of_ble_eq_true rfl) dX8_join_4 ?_
  refine CM.mono h (fun r2 M1 h => ?_)
  refine wp_if_ne (pc := 7) (tgt := 12) X dX8_join_7 (by decide) (fun hc => ?_) (fun hc => ?_)
  · replace h := h.1 hc
    refine wp_aload_n (pc := 12) X dX8_join_12 rfl rfl ?_
    refine wp_get (pc := 13) X fl_X8_7 A_139 (by decide) (fg_8_0 A_139) dX8_join_13 ?_
    refine wp_bipush (pc := 16) (v := nI 48) X dX8_join_16 (by decide) ?_
    obtain ⟨v3, he4, h⟩ := h
    refine we_iald (pc := 18) X A_140 (by decide) (by decide) he4 dX8_join_18 ?_
    refine wp_iconst (pc := 19) (v := nI 4) X dX8_join_19 (by decide) ?_
    obtain ⟨hb9, h⟩ := h
    refine wn_icmp_ne (pc := 20) (tgt := 26) X dX8_join_20 (by decide) hb9 (by decide) (fun hc => ?_) (fun hc => ?_)
    · replace h := h.1 hc
      refine wp_aload_n (pc := 26) X dX8_join_26 rfl rfl ?_
      refine wp_invVv (pc := 27) X sv_X8_95 A_139 (by decide) rfl ⟨by decide, by decide⟩ (As := []) (st := []) rfl rfl (Nat.le_of_ble_eq_true rfl) dX8_join_27 ?_
      refine CM.mono h (fun _ M5 h => ?_)
      refine wp_bipush (pc := 30) (v := nI 89) X dX8_join_30 (by decide) ?_
      refine wp_bipush (pc := 32) (v := nI 16) X dX8_join_32 (by decide) ?_
      refine wp_aload_n (pc := 34) X dX8_join_34 rfl rfl ?_
      refine wp_get (pc := 35) X fl_X8_7 A_139 (by decide) (fg_8_0 A_139) dX8_join_35 ?_
      refine wp_bipush (pc := 38) (v := nI 48) X dX8_join_38 (by decide) ?_
      obtain ⟨v7, he8, h⟩ := h
      refine we_iald (pc := 40) X A_140 (by decide) (by decide) he8 dX8_join_40 ?_
      refine wn_imul (pc := 41) X dX8_join_41 ?_
      refine wn_iadd (pc := 42) X dX8_join_42 ?_
      refine wp_istore_n (pc := 43) (lo' := [some (.ref 139), some (.int a1), some (.int (nI (89 + (16 * v7)))), none]) X dX8_join_43 rfl (Nat.le_of_ble_eq_true rfl) rfl rfl ?_
      refine wp_iconst (pc := 44) (v := nI 0) X dX8_join_44 (by decide) ?_
      refine wp_istore_n (pc := 45) (lo' := [some (.ref 139), some (.int a1), some (.int (nI (89 + (16 * v7)))), some (.int (nI 0))]) X dX8_join_45 rfl (Nat.le_of_ble_eq_true rfl) rfl rfl ?_
      exact h
    · replace h := h.2 hc
      refine wp_bipush (pc := 23) (v := (-3)) X dX8_join_23 (by decide) ?_
      exact wp_iret (pc := 25) X T dX8_join_25 h
  · replace h := h.2 hc
    refine wp_iconst (pc := 10) (v := (-1)) X dX8_join_10 (by decide) ?_
    exact wp_iret (pc := 11) X T dX8_join_11 h
theorem r_X8_join_46 {x : CT} {L : List Nat} {Q : Int32 → Mem → Prop} {M : Mem}  {a1 : Int32} {p k : Nat} (X : BS x L cX8_join 4 RX8 (m_X8_join).2.2.2.2) (T : RT x L (some .int) Q) (A_139 : AC L 139 8 0) (A_140 : AC L 140 9 918)
    (h : k < 2 ^ 31 ∧ (16 ≤ k → (p + 0) < 918 ∧ (p + 1) < 918 ∧ (p + 2) < 918 ∧ Q (((MU (MU (MU (MU M 140 (p + 0) a1) 140 (p + 1) ((MU M 140 (p + 0) a1) 140 45)) 140 (p + 2) (-4)) 140 48 (((MU (MU (MU M 140 (p + 0) a1) 140 (p + 1) ((MU M 140 (p + 0) a1) 140 45)) 140 (p + 2) (-4)) 140 48) + (nI 1))) 140 48) - (nI 1)) (MU (MU (MU (MU M 140 (p + 0) a1) 140 (p + 1) ((MU M 140 (p + 0) a1) 140 45)) 140 (p + 2) (-4)) 140 48 (((MU (MU (MU M 140 (p + 0) a1) 140 (p + 1) ((MU M 140 (p + 0) a1) 140 45)) 140 (p + 2) (-4)) 140 48) + (nI 1)))) ∧ (k < 16 → (p + k) < 918 ∧ WP x L 46 [some (.ref 139), some (.int a1), some (.int (nI p)), some (.int (nI (k + 1)))] [] (MU M 140 (p + k) (nI 0)))) : WP x L 46 [some (.ref 139), some (.int a1), some (.int (nI p)), some (.int (nI k))] [] M := by
  refine wp_iload_n (pc := 46) X dX8_join_46 rfl rfl ?_
  refine wp_bipush (pc := 47) (v := nI 16) X dX8_join_47 (by decide) ?_
  obtain ⟨hb5, h⟩ := h
  refine wn_icmp_ge (pc := 49) (tgt := 67) X dX8_join_49 (by decide) hb5 (by decide) (fun hc => ?_) (fun hc => ?_)
  · replace h := h.1 hc
    refine wp_aload_n (pc := 67) X dX8_join_67 rfl rfl ?_
    refine wp_get (pc := 68) X fl_X8_7 A_139 (by decide) (fg_8_0 A_139) dX8_join_68 ?_
    refine wp_iload_n (pc := 71) X dX8_join_71 rfl rfl ?_
    refine wp_iconst (pc := 72) (v := nI 0) X dX8_join_72 (by decide) ?_
    refine wn_iadd (pc := 73) X dX8_join_73 ?_
    refine wp_iload_n (pc := 74) X dX8_join_74 rfl rfl ?_
    obtain ⟨hj1, h⟩ := h
    refine wn_iast (pc := 75) X A_140 hj1 (by decide) dX8_join_75 ?_
    refine wp_aload_n (pc := 76) X dX8_join_76 rfl rfl ?_
    refine wp_get (pc := 77) X fl_X8_7 A_139 (by decide) (fg_8_0 A_139) dX8_join_77 ?_
    refine wp_iload_n (pc := 80) X dX8_join_80 rfl rfl ?_
    refine wp_iconst (pc := 81) (v := nI 1) X dX8_join_81 (by decide) ?_
    refine wn_iadd (pc := 82) X dX8_join_82 ?_
    refine wp_aload_n (pc := 83) X dX8_join_83 rfl rfl ?_
    refine wp_get (pc := 84) X fl_X8_7 A_139 (by decide) (fg_8_0 A_139) dX8_join_84 ?_
    refine wp_bipush (pc := 87) (v := nI 45) X dX8_join_87 (by decide) ?_
    refine wn_iald (pc := 89) X A_140 (by decide) (by decide) dX8_join_89 ?_
    obtain ⟨hj2, h⟩ := h
    refine wn_iast (pc := 90) X A_140 hj2 (by decide) dX8_join_90 ?_
    refine wp_aload_n (pc := 91) X dX8_join_91 rfl rfl ?_
    refine wp_get (pc := 92) X fl_X8_7 A_139 (by decide) (fg_8_0 A_139) dX8_join_92 ?_
    refine wp_iload_n (pc := 95) X dX8_join_95 rfl rfl ?_
    refine wp_iconst (pc := 96) (v := nI 2) X dX8_join_96 (by decide) ?_
    refine wn_iadd (pc := 97) X dX8_join_97 ?_
    refine wp_bipush (pc := 98) (v := (-4)) X dX8_join_98 (by decide) ?_
    obtain ⟨hj3, h⟩ := h
    refine wn_iast (pc := 100) X A_140 hj3 (by decide) dX8_join_100 ?_
    refine wp_aload_n (pc := 101) X dX8_join_101 rfl rfl ?_
    refine wp_get (pc := 102) X fl_X8_7 A_139 (by decide) (fg_8_0 A_139) dX8_join_102 ?_
    refine wp_bipush (pc := 105) (v := nI 48) X dX8_join_105 (by decide) ?_
    refine wp_dup2 (pc := 107) X dX8_join_107 rfl rfl ?_
    refine wn_iald (pc := 108) X A_140 (by decide) (by decide) dX8_join_108 ?_
    refine wp_iconst (pc := 109) (v := nI 1) X dX8_join_109 (by decide) ?_
    refine wp_iadd (pc := 110) X dX8_join_110 ?_
    refine wn_iast (pc := 111) X A_140 (by decide) (by decide) dX8_join_111 ?_
    refine wp_aload_n (pc := 112) X dX8_join_112 rfl rfl ?_
    refine wp_get (pc := 113) X fl_X8_7 A_139 (by decide) (fg_8_0 A_139) dX8_join_113 ?_
    refine wp_bipush (pc := 116) (v := nI 48) X dX8_join_116 (by decide) ?_
    refine wn_iald (pc := 118) X A_140 (by decide) (by decide) dX8_join_118 ?_
    refine wp_iconst (pc := 119) (v := nI 1) X dX8_join_119 (by decide) ?_
    refine wp_isub (pc := 120) X dX8_join_120 ?_
    exact wp_iret (pc := 121) X T dX8_join_121 h
  · replace h := h.2 hc
    refine wp_aload_n (pc := 52) X dX8_join_52 rfl rfl ?_
    refine wp_get (pc := 53) X fl_X8_7 A_139 (by decide) (fg_8_0 A_139) dX8_join_53 ?_
    refine wp_iload_n (pc := 56) X dX8_join_56 rfl rfl ?_
    refine wp_iload_n (pc := 57) X dX8_join_57 rfl rfl ?_
    refine wn_iadd (pc := 58) X dX8_join_58 ?_
    refine wp_iconst (pc := 59) (v := nI 0) X dX8_join_59 (by decide) ?_
    obtain ⟨hj4, h⟩ := h
    refine wn_iast (pc := 60) X A_140 hj4 (by decide) dX8_join_60 ?_
    refine wn_iinc (pc := 61) (d := 1) (lo' := [some (.ref 139), some (.int a1), some (.int (nI p)), some (.int (nI (k + 1)))]) X dX8_join_61 rfl (by decide) rfl rfl ?_
    refine wp_goto (pc := 64) (tgt := 46) X dX8_join_64 (by decide) ?_
    exact h
theorem r_X8_knows_0 {x : CT} {L : List Nat} {Q : Int32 → Mem → Prop} {M : Mem}  {l : Nat} (X : BS x L cX8_knows 2 RX8 (m_X8_knows).2.2.2.2) (T : RT x L (some .boolean) Q) (A_139 : AC L 139 8 0) (A_140 : AC L 140 9 918)
    (h : (89 + (16 * l) + 2) < 918 ∧ ((M 140 (89 + (16 * l) + 2)) < (M 140 45) → Q (nI 0) M) ∧ (¬ (M 140 (89 + (16 * l) + 2)) < (M 140 45) → Q (nI 1) M)) : WP x L 0 [some (.ref 139), some (.int (nI l))] [] M := by
  refine wp_aload_n (pc := 0) X dX8_knows_0 rfl rfl ?_
  refine wp_get (pc := 1) X fl_X8_7 A_139 (by decide) (fg_8_0 A_139) dX8_knows_1 ?_
  refine wp_bipush (pc := 4) (v := nI 89) X dX8_knows_4 (by decide) ?_
  refine wp_bipush (pc := 6) (v := nI 16) X dX8_knows_6 (by decide) ?_
  refine wp_iload_n (pc := 8) X dX8_knows_8 rfl rfl ?_
  refine wn_imul (pc := 9) X dX8_knows_9 ?_
  refine wn_iadd (pc := 10) X dX8_knows_10 ?_
  refine wp_iconst (pc := 11) (v := nI 2) X dX8_knows_11 (by decide) ?_
  refine wn_iadd (pc := 12) X dX8_knows_12 ?_
  obtain ⟨hj1, h⟩ := h
  refine wn_iald (pc := 13) X A_140 hj1 (by decide) dX8_knows_13 ?_
  refine wp_aload_n (pc := 14) X dX8_knows_14 rfl rfl ?_
  refine wp_get (pc := 15) X fl_X8_7 A_139 (by decide) (fg_8_0 A_139) dX8_knows_15 ?_
  refine wp_bipush (pc := 18) (v := nI 45) X dX8_knows_18 (by decide) ?_
  refine wn_iald (pc := 20) X A_140 (by decide) (by decide) dX8_knows_20 ?_
  refine wp_icmp_lt (pc := 21) (tgt := 28) X dX8_knows_21 (by decide) (fun hc => ?_) (fun hc => ?_)
  · replace h := h.1 hc
    refine wp_iconst (pc := 28) (v := nI 0) X dX8_knows_28 (by decide) ?_
    exact wp_zret (pc := 29) X T (by decide) dX8_knows_29 h
  · replace h := h.2 hc
    refine wp_iconst (pc := 24) (v := nI 1) X dX8_knows_24 (by decide) ?_
    refine wp_goto (pc := 25) (tgt := 29) X dX8_knows_25 (by decide) ?_
    exact wp_zret (pc := 29) X T (by decide) dX8_knows_29 h
theorem r_X8_lacks_0 {x : CT} {L : List Nat} {Q : Int32 → Mem → Prop} {M : Mem}  {l f : Nat} (X : BS x L cX8_lacks 4 RX8 (m_X8_lacks).2.2.2.2) (T : RT x L (some .int) Q) (A_139 : AC L 139 8 0) (A_140 : AC L 140 9 918)
    (h : (0 + f) < 918 ∧ (89 + (16 * l) + 10 + f) < 918 ∧ CM m_X8_ones L [.int (M 140 (89 + (16 * l) + 10 + f))] M (fun r4 M3 => (0 ≤ ((M 140 (0 + f)) - r4) → Q ((M 140 (0 + f)) - r4) M3) ∧ (¬ 0 ≤ ((M 140 (0 + f)) - r4) → Q (nI 0) M3))) : WP x L 0 [some (.ref 139), some (.int (nI l)), some (.int (nI f)), none] [] M := by
  refine wp_aload_n (pc := 0) X dX8_lacks_0 rfl rfl ?_
  refine wp_get (pc := 1) X fl_X8_7 A_139 (by decide) (fg_8_0 A_139) dX8_lacks_1 ?_
  refine wp_iconst (pc := 4) (v := nI 0) X dX8_lacks_4 (by decide) ?_
  refine wp_iload_n (pc := 5) X dX8_lacks_5 rfl rfl ?_
  refine wn_iadd (pc := 6) X dX8_lacks_6 ?_
  obtain ⟨hj1, h⟩ := h
  refine wn_iald (pc := 7) X A_140 hj1 (by decide) dX8_lacks_7 ?_
  refine wp_aload_n (pc := 8) X dX8_lacks_8 rfl rfl ?_
  refine wp_get (pc := 9) X fl_X8_7 A_139 (by decide) (fg_8_0 A_139) dX8_lacks_9 ?_
  refine wp_bipush (pc := 12) (v := nI 89) X dX8_lacks_12 (by decide) ?_
  refine wp_bipush (pc := 14) (v := nI 16) X dX8_lacks_14 (by decide) ?_
  refine wp_iload_n (pc := 16) X dX8_lacks_16 rfl rfl ?_
  refine wn_imul (pc := 17) X dX8_lacks_17 ?_
  refine wn_iadd (pc := 18) X dX8_lacks_18 ?_
  refine wp_bipush (pc := 19) (v := nI 10) X dX8_lacks_19 (by decide) ?_
  refine wn_iadd (pc := 21) X dX8_lacks_21 ?_
  refine wp_iload_n (pc := 22) X dX8_lacks_22 rfl rfl ?_
  refine wn_iadd (pc := 23) X dX8_lacks_23 ?_
  obtain ⟨hj2, h⟩ := h
  refine wn_iald (pc := 24) X A_140 hj2 (by decide) dX8_lacks_24 ?_
  refine wp_invS (pc := 25) X sv_X8_105  rfl ⟨by decide, by decide⟩ (As := [.int (M 140 (89 + (16 * l) + 10 + f))]) (st := [.int (M 140 (0 + f))]) rfl rfl (Nat.le_of_ble_eq_true rfl) dX8_lacks_25 ?_
  refine CM.mono h (fun r4 M3 h => ?_)
  refine wp_isub (pc := 28) X dX8_lacks_28 ?_
  refine wp_istore_n (pc := 29) (lo' := [some (.ref 139), some (.int (nI l)), some (.int (nI f)), some (.int ((M 140 (0 + f)) - r4))]) X dX8_lacks_29 rfl (Nat.le_of_ble_eq_true rfl) rfl rfl ?_
  refine wp_iload_n (pc := 30) X dX8_lacks_30 rfl rfl ?_
  refine wp_if_ge (pc := 31) (tgt := 38) X dX8_lacks_31 (by decide) (fun hc => ?_) (fun hc => ?_)
  · replace h := h.1 hc
    refine wp_iload_n (pc := 38) X dX8_lacks_38 rfl rfl ?_
    exact wp_iret (pc := 39) X T dX8_lacks_39 h
  · replace h := h.2 hc
    refine wp_iconst (pc := 34) (v := nI 0) X dX8_lacks_34 (by decide) ?_
    refine wp_goto (pc := 35) (tgt := 39) X dX8_lacks_35 (by decide) ?_
    exact wp_iret (pc := 39) X T dX8_lacks_39 h
theorem r_X8_repair_0 {x : CT} {L : List Nat} {Q : Int32 → Mem → Prop} {M : Mem}  {a1 a2 : Int32} (X : BS x L cX8_repair 7 RX8 (m_X8_repair).2.2.2.2) (T : RT x L (some .int) Q) (A_139 : AC L 139 8 0)
    (h : CM m_X8_isListener L [.ref 139, .int a1] M (fun r2 M1 => (r2 = 0 → Q (-1) M1) ∧ (¬ r2 = 0 → CM m_X8_isFile L [.ref 139, .int a2] M1 (fun r4 M3 => (¬ r4 = 0 → CM m_X8_lacks L [.ref 139, .int a1, .int a2] M3 (fun r6 M5 => CM m_X8_knows L [.ref 139, .int a1] M5 (fun r8 M7 => (r8 = 0 → Q (-2) M7) ∧ (¬ r8 = 0 → (¬ r6 = 0 → CM m_X8_minds L [.ref 139] M7 (fun _ M9 => WP x L 64 [some (.ref 139), none, none, some (.int r6), some (.int ((((nI 89) + ((nI 16) * a1)) + (nI 10)) + a2)), some (.int r6), some (.int (nI 0))] [] M9)) ∧ (r6 = 0 → Q (-2) M7))))) ∧ (r4 = 0 → Q (-1) M3))))) : WP x L 0 [some (.ref 139), some (.int a1), some (.int a2), none, none, none, none] [] M := by
  refine wp_aload_n (pc := 0) X dX8_repair_0 rfl rfl ?_
  refine wp_iload_n (pc := 1) X dX8_repair_1 rfl rfl ?_
  refine wp_invV (pc := 2) X sv_X8_108 A_139 (by decide) rfl ⟨by decide, by decide⟩ (As := [.int a1]) (st := []) rfl rfl (Nat.le_of_ble_eq_true rfl) dX8_repair_2 ?_
  refine CM.mono h (fun r2 M1 h => ?_)
  refine wp_if_eq (pc := 5) (tgt := 16) X dX8_repair_5 (by decide) (fun hc => ?_) (fun hc => ?_)
  · replace h := h.1 hc
    refine wp_iconst (pc := 16) (v := (-1)) X dX8_repair_16 (by decide) ?_
    exact wp_iret (pc := 17) X T dX8_repair_17 h
  · replace h := h.2 hc
    refine wp_aload_n (pc := 8) X dX8_repair_8 rfl rfl ?_
    refine wp_iload_n (pc := 9) X dX8_repair_9 rfl rfl ?_
    refine wp_invV (pc := 10) X sv_X8_101 A_139 (by decide) rfl ⟨by decide, by decide⟩ (As := [.int a2]) (st := []) rfl rfl (Nat.le_of_ble_eq_true rfl) dX8_repair_10 ?_
    refine CM.mono h (fun r4 M3 h => ?_)
    refine wp_if_ne (pc := 13) (tgt := 18) X dX8_repair_13 (by decide) (fun hc => ?_) (fun hc => ?_)
    · replace h := h.1 hc
      refine wp_aload_n (pc := 18) X dX8_repair_18 rfl rfl ?_
      refine wp_iload_n (pc := 19) X dX8_repair_19 rfl rfl ?_
      refine wp_iload_n (pc := 20) X dX8_repair_20 rfl rfl ?_
      refine wp_invV (pc := 21) X sv_X8_111 A_139 (by decide) rfl ⟨by decide, by decide⟩ (As := [.int a1, .int a2]) (st := []) rfl rfl (Nat.le_of_ble_eq_true rfl) dX8_repair_21 ?_
      refine CM.mono h (fun r6 M5 h => ?_)
      refine wp_istore_n (pc := 24) (lo' := [some (.ref 139), some (.int a1), some (.int a2), some (.int r6), none, none, none]) X dX8_repair_24 rfl (Nat.le_of_ble_eq_true rfl) rfl rfl ?_
      refine wp_aload_n (pc := 25) X dX8_repair_25 rfl rfl ?_
      refine wp_iload_n (pc := 26) X dX8_repair_26 rfl rfl ?_
      refine wp_invV (pc := 27) X sv_X8_115 A_139 (by decide) rfl ⟨by decide, by decide⟩ (As := [.int a1]) (st := []) rfl rfl (Nat.le_of_ble_eq_true rfl) dX8_repair_27 ?_
      refine CM.mono h (fun r8 M7 h => ?_)
      refine wp_if_eq (pc := 30) (tgt := 37) X dX8_repair_30 (by decide) (fun hc => ?_) (fun hc => ?_)
      · replace h := h.1 hc
        refine wp_bipush (pc := 37) (v := (-2)) X dX8_repair_37 (by decide) ?_
        exact wp_iret (pc := 39) X T dX8_repair_39 h
      · replace h := h.2 hc
        refine wp_iload_n (pc := 33) X dX8_repair_33 rfl rfl ?_
        refine wp_if_ne (pc := 34) (tgt := 40) X dX8_repair_34 (by decide) (fun hc => ?_) (fun hc => ?_)
        · replace h := h.1 hc
          refine wp_aload_n (pc := 40) X dX8_repair_40 rfl rfl ?_
          refine wp_invVv (pc := 41) X sv_X8_95 A_139 (by decide) rfl ⟨by decide, by decide⟩ (As := []) (st := []) rfl rfl (Nat.le_of_ble_eq_true rfl) dX8_repair_41 ?_
          refine CM.mono h (fun _ M9 h => ?_)
          refine wp_bipush (pc := 44) (v := nI 89) X dX8_repair_44 (by decide) ?_
          refine wp_bipush (pc := 46) (v := nI 16) X dX8_repair_46 (by decide) ?_
          refine wp_iload_n (pc := 48) X dX8_repair_48 rfl rfl ?_
          refine wp_imul (pc := 49) X dX8_repair_49 ?_
          refine wp_iadd (pc := 50) X dX8_repair_50 ?_
          refine wp_bipush (pc := 51) (v := nI 10) X dX8_repair_51 (by decide) ?_
          refine wp_iadd (pc := 53) X dX8_repair_53 ?_
          refine wp_iload_n (pc := 54) X dX8_repair_54 rfl rfl ?_
          refine wp_iadd (pc := 55) X dX8_repair_55 ?_
          refine wp_istore (pc := 56) (lo' := [some (.ref 139), some (.int a1), some (.int a2), some (.int r6), some (.int ((((nI 89) + ((nI 16) * a1)) + (nI 10)) + a2)), none, none]) X dX8_repair_56 (Nat.le_of_ble_eq_true rfl) rfl rfl ?_
          refine wp_iload_n (pc := 58) X dX8_repair_58 rfl rfl ?_
          refine wp_istore (pc := 59) (lo' := [some (.ref 139), some (.int a1), some (.int a2), some (.int r6), some (.int ((((nI 89) + ((nI 16) * a1)) + (nI 10)) + a2)), some (.int r6), none]) X dX8_repair_59 (Nat.le_of_ble_eq_true rfl) rfl rfl ?_
          refine wp_iconst (pc := 61) (v := nI 0) X dX8_repair_61 (by decide) ?_
          refine wp_istore (pc := 62) (lo' := [some (.ref 139), some (.int a1), some (.int a2), some (.int r6), some (.int ((((nI 89) + ((nI 16) * a1)) + (nI 10)) + a2)), some (.int r6), some (.int (nI 0))]) X dX8_repair_62 (Nat.le_of_ble_eq_true rfl) rfl rfl ?_
          exact wp_drop (show subL _ [some (.ref 139), none, none, some (.int r6), some (.int ((((nI 89) + ((nI 16) * a1)) + (nI 10)) + a2)), some (.int r6), some (.int (nI 0))] from ⟨rfl, ⟨rfl, ⟨rfl, ⟨rfl, ⟨rfl, trivial⟩⟩⟩⟩⟩) h
        · replace h := h.2 hc
          refine wp_bipush (pc := 37) (v := (-2)) X dX8_repair_37 (by decide) ?_
          exact wp_iret (pc := 39) X T dX8_repair_39 h
    · replace h := h.2 hc
      refine wp_iconst (pc := 16) (v := (-1)) X dX8_repair_16 (by decide) ?_
      exact wp_iret (pc := 17) X T dX8_repair_17 h
theorem r_X8_repair_64 {x : CT} {L : List Nat} {Q : Int32 → Mem → Prop} {M : Mem}  {a3 a5 : Int32} {p k : Nat} (X : BS x L cX8_repair 7 RX8 (m_X8_repair).2.2.2.2) (T : RT x L (some .int) Q) (A_139 : AC L 139 8 0) (A_140 : AC L 140 9 918)
    (h : (a5 ≤ 0 → Q a3 M) ∧ (¬ a5 ≤ 0 → p < 918 ∧ p < 918 ∧ p < 918 ∧ WP x L 64 [some (.ref 139), none, none, some (.int a3), some (.int (nI p)), some (.int (a5 - ((((M 140 p) >>> ((nI k) &&& 31)) &&& (nI 1)) ^^^ (nI 1)))), some (.int (nI (k + 1)))] [] (MU M 140 p ((M 140 p) ||| ((nI 1) <<< ((nI k) &&& 31)))))) : WP x L 64 [some (.ref 139), none, none, some (.int a3), some (.int (nI p)), some (.int a5), some (.int (nI k))] [] M := by
  refine wp_iload (pc := 64) X dX8_repair_64 rfl ?_
  refine wp_if_le (pc := 66) (tgt := 108) X dX8_repair_66 (by decide) (fun hc => ?_) (fun hc => ?_)
  · replace h := h.1 hc
    refine wp_iload_n (pc := 108) X dX8_repair_108 rfl rfl ?_
    exact wp_iret (pc := 109) X T dX8_repair_109 h
  · replace h := h.2 hc
    refine wp_iload (pc := 69) X dX8_repair_69 rfl ?_
    refine wp_aload_n (pc := 71) X dX8_repair_71 rfl rfl ?_
    refine wp_get (pc := 72) X fl_X8_7 A_139 (by decide) (fg_8_0 A_139) dX8_repair_72 ?_
    refine wp_iload (pc := 75) X dX8_repair_75 rfl ?_
    obtain ⟨hj1, h⟩ := h
    refine wn_iald (pc := 77) X A_140 hj1 (by decide) dX8_repair_77 ?_
    refine wp_iload (pc := 78) X dX8_repair_78 rfl ?_
    refine wp_ishr (pc := 80) X dX8_repair_80 ?_
    refine wp_iconst (pc := 81) (v := nI 1) X dX8_repair_81 (by decide) ?_
    refine wp_iand (pc := 82) X dX8_repair_82 ?_
    refine wp_iconst (pc := 83) (v := nI 1) X dX8_repair_83 (by decide) ?_
    refine wp_ixor (pc := 84) X dX8_repair_84 ?_
    refine wp_isub (pc := 85) X dX8_repair_85 ?_
    refine wp_istore (pc := 86) (lo' := [some (.ref 139), none, none, some (.int a3), some (.int (nI p)), some (.int (a5 - ((((M 140 p) >>> ((nI k) &&& 31)) &&& (nI 1)) ^^^ (nI 1)))), some (.int (nI k))]) X dX8_repair_86 (Nat.le_of_ble_eq_true rfl) rfl rfl ?_
    refine wp_aload_n (pc := 88) X dX8_repair_88 rfl rfl ?_
    refine wp_get (pc := 89) X fl_X8_7 A_139 (by decide) (fg_8_0 A_139) dX8_repair_89 ?_
    refine wp_iload (pc := 92) X dX8_repair_92 rfl ?_
    refine wp_dup2 (pc := 94) X dX8_repair_94 rfl rfl ?_
    obtain ⟨hj2, h⟩ := h
    refine wn_iald (pc := 95) X A_140 hj2 (by decide) dX8_repair_95 ?_
    refine wp_iconst (pc := 96) (v := nI 1) X dX8_repair_96 (by decide) ?_
    refine wp_iload (pc := 97) X dX8_repair_97 rfl ?_
    refine wp_ishl (pc := 99) X dX8_repair_99 ?_
    refine wp_ior (pc := 100) X dX8_repair_100 ?_
    obtain ⟨hj3, h⟩ := h
    refine wn_iast (pc := 101) X A_140 hj3 (by decide) dX8_repair_101 ?_
    refine wn_iinc (pc := 102) (d := 1) (lo' := [some (.ref 139), none, none, some (.int a3), some (.int (nI p)), some (.int (a5 - ((((M 140 p) >>> ((nI k) &&& 31)) &&& (nI 1)) ^^^ (nI 1)))), some (.int (nI (k + 1)))]) X dX8_repair_102 rfl (by decide) rfl rfl ?_
    refine wp_goto (pc := 105) (tgt := 64) X dX8_repair_105 (by decide) ?_
    exact h
theorem r_X8_repairN_0 {x : CT} {L : List Nat} {Q : Int32 → Mem → Prop} {M : Mem}  {l f : Nat} (X : BS x L cX8_repair 7 RX8 (m_X8_repair).2.2.2.2) (T : RT x L (some .int) Q) (A_139 : AC L 139 8 0)
    (h : CM m_X8_isListener L [.ref 139, .int (nI l)] M (fun r2 M1 => (r2 = 0 → Q (-1) M1) ∧ (¬ r2 = 0 → CM m_X8_isFile L [.ref 139, .int (nI f)] M1 (fun r4 M3 => (¬ r4 = 0 → CM m_X8_lacks L [.ref 139, .int (nI l), .int (nI f)] M3 (fun r6 M5 => CM m_X8_knows L [.ref 139, .int (nI l)] M5 (fun r8 M7 => (r8 = 0 → Q (-2) M7) ∧ (¬ r8 = 0 → (¬ r6 = 0 → CM m_X8_minds L [.ref 139] M7 (fun _ M9 => WP x L 64 [some (.ref 139), none, none, some (.int r6), some (.int (nI (89 + (16 * l) + 10 + f))), some (.int r6), some (.int (nI 0))] [] M9)) ∧ (r6 = 0 → Q (-2) M7))))) ∧ (r4 = 0 → Q (-1) M3))))) : WP x L 0 [some (.ref 139), some (.int (nI l)), some (.int (nI f)), none, none, none, none] [] M := by
  refine wp_aload_n (pc := 0) X dX8_repair_0 rfl rfl ?_
  refine wp_iload_n (pc := 1) X dX8_repair_1 rfl rfl ?_
  refine wp_invV (pc := 2) X sv_X8_108 A_139 (by decide) rfl ⟨by decide, by decide⟩ (As := [.int (nI l)]) (st := []) rfl rfl (Nat.le_of_ble_eq_true rfl) dX8_repair_2 ?_
  refine CM.mono h (fun r2 M1 h => ?_)
  refine wp_if_eq (pc := 5) (tgt := 16) X dX8_repair_5 (by decide) (fun hc => ?_) (fun hc => ?_)
  · replace h := h.1 hc
    refine wp_iconst (pc := 16) (v := (-1)) X dX8_repair_16 (by decide) ?_
    exact wp_iret (pc := 17) X T dX8_repair_17 h
  · replace h := h.2 hc
    refine wp_aload_n (pc := 8) X dX8_repair_8 rfl rfl ?_
    refine wp_iload_n (pc := 9) X dX8_repair_9 rfl rfl ?_
    refine wp_invV (pc := 10) X sv_X8_101 A_139 (by decide) rfl ⟨by decide, by decide⟩ (As := [.int (nI f)]) (st := []) rfl rfl (Nat.le_of_ble_eq_true rfl) dX8_repair_10 ?_
    refine CM.mono h (fun r4 M3 h => ?_)
    refine wp_if_ne (pc := 13) (tgt := 18) X dX8_repair_13 (by decide) (fun hc => ?_) (fun hc => ?_)
    · replace h := h.1 hc
      refine wp_aload_n (pc := 18) X dX8_repair_18 rfl rfl ?_
      refine wp_iload_n (pc := 19) X dX8_repair_19 rfl rfl ?_
      refine wp_iload_n (pc := 20) X dX8_repair_20 rfl rfl ?_
      refine wp_invV (pc := 21) X sv_X8_111 A_139 (by decide) rfl ⟨by decide, by decide⟩ (As := [.int (nI l), .int (nI f)]) (st := []) rfl rfl (Nat.le_of_ble_eq_true rfl) dX8_repair_21 ?_
      refine CM.mono h (fun r6 M5 h => ?_)
      refine wp_istore_n (pc := 24) (lo' := [some (.ref 139), some (.int (nI l)), some (.int (nI f)), some (.int r6), none, none, none]) X dX8_repair_24 rfl (Nat.le_of_ble_eq_true rfl) rfl rfl ?_
      refine wp_aload_n (pc := 25) X dX8_repair_25 rfl rfl ?_
      refine wp_iload_n (pc := 26) X dX8_repair_26 rfl rfl ?_
      refine wp_invV (pc := 27) X sv_X8_115 A_139 (by decide) rfl ⟨by decide, by decide⟩ (As := [.int (nI l)]) (st := []) rfl rfl (Nat.le_of_ble_eq_true rfl) dX8_repair_27 ?_
      refine CM.mono h (fun r8 M7 h => ?_)
      refine wp_if_eq (pc := 30) (tgt := 37) X dX8_repair_30 (by decide) (fun hc => ?_) (fun hc => ?_)
      · replace h := h.1 hc
        refine wp_bipush (pc := 37) (v := (-2)) X dX8_repair_37 (by decide) ?_
        exact wp_iret (pc := 39) X T dX8_repair_39 h
      · replace h := h.2 hc
        refine wp_iload_n (pc := 33) X dX8_repair_33 rfl rfl ?_
        refine wp_if_ne (pc := 34) (tgt := 40) X dX8_repair_34 (by decide) (fun hc => ?_) (fun hc => ?_)
        · replace h := h.1 hc
          refine wp_aload_n (pc := 40) X dX8_repair_40 rfl rfl ?_
          refine wp_invVv (pc := 41) X sv_X8_95 A_139 (by decide) rfl ⟨by decide, by decide⟩ (As := []) (st := []) rfl rfl (Nat.le_of_ble_eq_true rfl) dX8_repair_41 ?_
          refine CM.mono h (fun _ M9 h => ?_)
          refine wp_bipush (pc := 44) (v := nI 89) X dX8_repair_44 (by decide) ?_
          refine wp_bipush (pc := 46) (v := nI 16) X dX8_repair_46 (by decide) ?_
          refine wp_iload_n (pc := 48) X dX8_repair_48 rfl rfl ?_
          refine wn_imul (pc := 49) X dX8_repair_49 ?_
          refine wn_iadd (pc := 50) X dX8_repair_50 ?_
          refine wp_bipush (pc := 51) (v := nI 10) X dX8_repair_51 (by decide) ?_
          refine wn_iadd (pc := 53) X dX8_repair_53 ?_
          refine wp_iload_n (pc := 54) X dX8_repair_54 rfl rfl ?_
          refine wn_iadd (pc := 55) X dX8_repair_55 ?_
          refine wp_istore (pc := 56) (lo' := [some (.ref 139), some (.int (nI l)), some (.int (nI f)), some (.int r6), some (.int (nI (89 + (16 * l) + 10 + f))), none, none]) X dX8_repair_56 (Nat.le_of_ble_eq_true rfl) rfl rfl ?_
          refine wp_iload_n (pc := 58) X dX8_repair_58 rfl rfl ?_
          refine wp_istore (pc := 59) (lo' := [some (.ref 139), some (.int (nI l)), some (.int (nI f)), some (.int r6), some (.int (nI (89 + (16 * l) + 10 + f))), some (.int r6), none]) X dX8_repair_59 (Nat.le_of_ble_eq_true rfl) rfl rfl ?_
          refine wp_iconst (pc := 61) (v := nI 0) X dX8_repair_61 (by decide) ?_
          refine wp_istore (pc := 62) (lo' := [some (.ref 139), some (.int (nI l)), some (.int (nI f)), some (.int r6), some (.int (nI (89 + (16 * l) + 10 + f))), some (.int r6), some (.int (nI 0))]) X dX8_repair_62 (Nat.le_of_ble_eq_true rfl) rfl rfl ?_
          exact wp_drop (show subL _ [some (.ref 139), none, none, some (.int r6), some (.int (nI (89 + (16 * l) + 10 + f))), some (.int r6), some (.int (nI 0))] from ⟨rfl, ⟨rfl, ⟨rfl, ⟨rfl, ⟨rfl, trivial⟩⟩⟩⟩⟩) h
        · replace h := h.2 hc
          refine wp_bipush (pc := 37) (v := (-2)) X dX8_repair_37 (by decide) ?_
          exact wp_iret (pc := 39) X T dX8_repair_39 h
    · replace h := h.2 hc
      refine wp_iconst (pc := 16) (v := (-1)) X dX8_repair_16 (by decide) ?_
      exact wp_iret (pc := 17) X T dX8_repair_17 h
theorem r_X8_partBits_0 {x : CT} {L : List Nat} {Q : Int32 → Mem → Prop} {M : Mem}  {f : Nat} (X : BS x L cX8_partBits 2 RX8 (m_X8_partBits).2.2.2.2) (T : RT x L (some .int) Q) (A_139 : AC L 139 8 0) (A_140 : AC L 140 9 918)
    (h : (¬ (M 140 47) = 0 → (36 + f) < 918 ∧ vf_n32 (FP.fdiv (FP.i2f (M 140 (36 + f))) (FP.i2f (M 140 47))) ∧ CM m_Jxf58ca_floatToIntBits_5c35a L [.float (FP.fdiv (FP.i2f (M 140 (36 + f))) (FP.i2f (M 140 47)))] M (fun r4 M3 => Q r4 M3)) ∧ ((M 140 47) = 0 → Q (-4) M)) : WP x L 0 [some (.ref 139), some (.int (nI f))] [] M := by
  refine wp_aload_n (pc := 0) X dX8_partBits_0 rfl rfl ?_
  refine wp_get (pc := 1) X fl_X8_7 A_139 (by decide) (fg_8_0 A_139) dX8_partBits_1 ?_
  refine wp_bipush (pc := 4) (v := nI 47) X dX8_partBits_4 (by decide) ?_
  refine wn_iald (pc := 6) X A_140 (by decide) (by decide) dX8_partBits_6 ?_
  refine wp_if_ne (pc := 7) (tgt := 15) X dX8_partBits_7 (by decide) (fun hc => ?_) (fun hc => ?_)
  · replace h := h.1 hc
    refine wp_aload_n (pc := 15) X dX8_partBits_15 rfl rfl ?_
    refine wp_get (pc := 16) X fl_X8_7 A_139 (by decide) (fg_8_0 A_139) dX8_partBits_16 ?_
    refine wp_bipush (pc := 19) (v := nI 36) X dX8_partBits_19 (by decide) ?_
    refine wp_iload_n (pc := 21) X dX8_partBits_21 rfl rfl ?_
    refine wn_iadd (pc := 22) X dX8_partBits_22 ?_
    obtain ⟨hj1, h⟩ := h
    refine wn_iald (pc := 23) X A_140 hj1 (by decide) dX8_partBits_23 ?_
    refine wp_i2f (pc := 24) X dX8_partBits_24 ?_
    refine wp_aload_n (pc := 25) X dX8_partBits_25 rfl rfl ?_
    refine wp_get (pc := 26) X fl_X8_7 A_139 (by decide) (fg_8_0 A_139) dX8_partBits_26 ?_
    refine wp_bipush (pc := 29) (v := nI 47) X dX8_partBits_29 (by decide) ?_
    refine wn_iald (pc := 31) X A_140 (by decide) (by decide) dX8_partBits_31 ?_
    refine wp_i2f (pc := 32) X dX8_partBits_32 ?_
    obtain ⟨hf2, h⟩ := h
    refine wp_fdiv (pc := 33) X dX8_partBits_33 hf2 ?_
    refine wp_invS (pc := 34) X sv_X8_118  rfl ⟨by decide, by decide⟩ (As := [.float (FP.fdiv (FP.i2f (M 140 (36 + f))) (FP.i2f (M 140 47)))]) (st := []) rfl rfl (Nat.le_of_ble_eq_true rfl) dX8_partBits_34 ?_
    refine CM.mono h (fun r4 M3 h => ?_)
    exact wp_iret (pc := 37) X T dX8_partBits_37 h
  · replace h := h.2 hc
    refine wp_bipush (pc := 10) (v := (-4)) X dX8_partBits_10 (by decide) ?_
    refine wp_goto (pc := 12) (tgt := 37) X dX8_partBits_12 (by decide) ?_
    exact wp_iret (pc := 37) X T dX8_partBits_37 h
theorem r_X8_file_0 {x : CT} {L : List Nat} {Q : Int32 → Mem → Prop} {M : Mem}  {a1 a2 : Int32} (X : BS x L cX8_file 3 RX8 (m_X8_file).2.2.2.2) (T : RT x L (some .int) Q) (A_139 : AC L 139 8 0) (A_140 : AC L 140 9 918)
    (h : CM m_X8_isFile L [.ref 139, .int a1] M (fun r2 M1 => (r2 = 0 → Q (-1) M1) ∧ (¬ r2 = 0 → CM m_X8_within L [.int a2, .int (nI 0), .int (nI 7)] M1 (fun r4 M3 => (¬ r4 = 0 → (¬ a2 = (nI 7) → (¬ a2 = (nI 5) → vp_in (((nI 6) * a2) + a1) 918 ∧ Q (M3 140 (Int32.toNatClampNeg (((nI 6) * a2) + a1))) M3) ∧ (a2 = (nI 5) → vp_in ((nI 30) + a1) 918 ∧ Q ((M3 140 (Int32.toNatClampNeg ((nI 30) + a1))) + (nI 1000)) M3)) ∧ (a2 = (nI 7) → CM m_X8_partBits L [.ref 139, .int a1] M3 (fun r8 M7 => Q r8 M7))) ∧ (r4 = 0 → Q (-1) M3))))) : WP x L 0 [some (.ref 139), some (.int a1), some (.int a2)] [] M := by
  refine wp_aload_n (pc := 0) X dX8_file_0 rfl rfl ?_
  refine wp_iload_n (pc := 1) X dX8_file_1 rfl rfl ?_
  refine wp_invV (pc := 2) X sv_X8_101 A_139 (by decide) rfl ⟨by decide, by decide⟩ (As := [.int a1]) (st := []) rfl rfl (Nat.le_of_ble_eq_true rfl) dX8_file_2 ?_
  refine CM.mono h (fun r2 M1 h => ?_)
  refine wp_if_eq (pc := 5) (tgt := 18) X dX8_file_5 (by decide) (fun hc => ?_) (fun hc => ?_)
  · replace h := h.1 hc
    refine wp_iconst (pc := 18) (v := (-1)) X dX8_file_18 (by decide) ?_
    exact wp_iret (pc := 19) X T dX8_file_19 h
  · replace h := h.2 hc
    refine wp_iload_n (pc := 8) X dX8_file_8 rfl rfl ?_
    refine wp_iconst (pc := 9) (v := nI 0) X dX8_file_9 (by decide) ?_
    refine wp_bipush (pc := 10) (v := nI 7) X dX8_file_10 (by decide) ?_
    refine wp_invS (pc := 12) X sv_X8_31  rfl ⟨by decide, by decide⟩ (As := [.int a2, .int (nI 0), .int (nI 7)]) (st := []) rfl rfl (Nat.le_of_ble_eq_true rfl) dX8_file_12 ?_
    refine CM.mono h (fun r4 M3 h => ?_)
    refine wp_if_ne (pc := 15) (tgt := 20) X dX8_file_15 (by decide) (fun hc => ?_) (fun hc => ?_)
    · replace h := h.1 hc
      refine wp_iload_n (pc := 20) X dX8_file_20 rfl rfl ?_
      refine wp_bipush (pc := 21) (v := nI 7) X dX8_file_21 (by decide) ?_
      refine wp_icmp_ne (pc := 23) (tgt := 34) X dX8_file_23 (by decide) (fun hc => ?_) (fun hc => ?_)
      · replace h := h.1 hc
        refine wp_iload_n (pc := 34) X dX8_file_34 rfl rfl ?_
        refine wp_iconst (pc := 35) (v := nI 5) X dX8_file_35 (by decide) ?_
        refine wp_icmp_ne (pc := 36) (tgt := 55) X dX8_file_36 (by decide) (fun hc => ?_) (fun hc => ?_)
        · replace h := h.1 hc
          refine wp_aload_n (pc := 55) X dX8_file_55 rfl rfl ?_
          refine wp_get (pc := 56) X fl_X8_7 A_139 (by decide) (fg_8_0 A_139) dX8_file_56 ?_
          refine wp_bipush (pc := 59) (v := nI 6) X dX8_file_59 (by decide) ?_
          refine wp_iload_n (pc := 61) X dX8_file_61 rfl rfl ?_
          refine wp_imul (pc := 62) X dX8_file_62 ?_
          refine wp_iload_n (pc := 63) X dX8_file_63 rfl rfl ?_
          refine wp_iadd (pc := 64) X dX8_file_64 ?_
          obtain ⟨hj5, h⟩ := h
          refine wp_iald (pc := 65) X A_140 hj5 dX8_file_65 ?_
          exact wp_iret (pc := 66) X T dX8_file_66 h
        · replace h := h.2 hc
          refine wp_aload_n (pc := 39) X dX8_file_39 rfl rfl ?_
          refine wp_get (pc := 40) X fl_X8_7 A_139 (by decide) (fg_8_0 A_139) dX8_file_40 ?_
          refine wp_bipush (pc := 43) (v := nI 30) X dX8_file_43 (by decide) ?_
          refine wp_iload_n (pc := 45) X dX8_file_45 rfl rfl ?_
          refine wp_iadd (pc := 46) X dX8_file_46 ?_
          obtain ⟨hj6, h⟩ := h
          refine wp_iald (pc := 47) X A_140 hj6 dX8_file_47 ?_
          refine wp_sipush (pc := 48) (v := nI 1000) X dX8_file_48 (by decide) ?_
          refine wp_iadd (pc := 51) X dX8_file_51 ?_
          refine wp_goto (pc := 52) (tgt := 66) X dX8_file_52 (by decide) ?_
          exact wp_iret (pc := 66) X T dX8_file_66 h
      · replace h := h.2 hc
        refine wp_aload_n (pc := 26) X dX8_file_26 rfl rfl ?_
        refine wp_iload_n (pc := 27) X dX8_file_27 rfl rfl ?_
        refine wp_invV (pc := 28) X sv_X8_124 A_139 (by decide) rfl ⟨by decide, by decide⟩ (As := [.int a1]) (st := []) rfl rfl (Nat.le_of_ble_eq_true rfl) dX8_file_28 ?_
        refine CM.mono h (fun r8 M7 h => ?_)
        refine wp_goto (pc := 31) (tgt := 66) X dX8_file_31 (by decide) ?_
        exact wp_iret (pc := 66) X T dX8_file_66 h
    · replace h := h.2 hc
      refine wp_iconst (pc := 18) (v := (-1)) X dX8_file_18 (by decide) ?_
      exact wp_iret (pc := 19) X T dX8_file_19 h
theorem r_X8_fileN_0 {x : CT} {L : List Nat} {Q : Int32 → Mem → Prop} {M : Mem}  {f e : Nat} (X : BS x L cX8_file 3 RX8 (m_X8_file).2.2.2.2) (T : RT x L (some .int) Q) (A_139 : AC L 139 8 0) (A_140 : AC L 140 9 918)
    (h : CM m_X8_isFile L [.ref 139, .int (nI f)] M (fun r2 M1 => (r2 = 0 → Q (-1) M1) ∧ (¬ r2 = 0 → CM m_X8_within L [.int (nI e), .int (nI 0), .int (nI 7)] M1 (fun r4 M3 => (¬ r4 = 0 → e < 2 ^ 31 ∧ (¬ e = 7 → e < 2 ^ 31 ∧ (¬ e = 5 → (6 * e + f) < 918 ∧ Q (M3 140 (6 * e + f)) M3) ∧ (e = 5 → (30 + f) < 918 ∧ Q ((M3 140 (30 + f)) + (nI 1000)) M3)) ∧ (e = 7 → CM m_X8_partBits L [.ref 139, .int (nI f)] M3 (fun r9 M8 => Q r9 M8))) ∧ (r4 = 0 → Q (-1) M3))))) : WP x L 0 [some (.ref 139), some (.int (nI f)), some (.int (nI e))] [] M := by
  refine wp_aload_n (pc := 0) X dX8_file_0 rfl rfl ?_
  refine wp_iload_n (pc := 1) X dX8_file_1 rfl rfl ?_
  refine wp_invV (pc := 2) X sv_X8_101 A_139 (by decide) rfl ⟨by decide, by decide⟩ (As := [.int (nI f)]) (st := []) rfl rfl (Nat.le_of_ble_eq_true rfl) dX8_file_2 ?_
  refine CM.mono h (fun r2 M1 h => ?_)
  refine wp_if_eq (pc := 5) (tgt := 18) X dX8_file_5 (by decide) (fun hc => ?_) (fun hc => ?_)
  · replace h := h.1 hc
    refine wp_iconst (pc := 18) (v := (-1)) X dX8_file_18 (by decide) ?_
    exact wp_iret (pc := 19) X T dX8_file_19 h
  · replace h := h.2 hc
    refine wp_iload_n (pc := 8) X dX8_file_8 rfl rfl ?_
    refine wp_iconst (pc := 9) (v := nI 0) X dX8_file_9 (by decide) ?_
    refine wp_bipush (pc := 10) (v := nI 7) X dX8_file_10 (by decide) ?_
    refine wp_invS (pc := 12) X sv_X8_31  rfl ⟨by decide, by decide⟩ (As := [.int (nI e), .int (nI 0), .int (nI 7)]) (st := []) rfl rfl (Nat.le_of_ble_eq_true rfl) dX8_file_12 ?_
    refine CM.mono h (fun r4 M3 h => ?_)
    refine wp_if_ne (pc := 15) (tgt := 20) X dX8_file_15 (by decide) (fun hc => ?_) (fun hc => ?_)
    · replace h := h.1 hc
      refine wp_iload_n (pc := 20) X dX8_file_20 rfl rfl ?_
      refine wp_bipush (pc := 21) (v := nI 7) X dX8_file_21 (by decide) ?_
      obtain ⟨hb10, h⟩ := h
      refine wn_icmp_ne (pc := 23) (tgt := 34) X dX8_file_23 (by decide) hb10 (by decide) (fun hc => ?_) (fun hc => ?_)
      · replace h := h.1 hc
        refine wp_iload_n (pc := 34) X dX8_file_34 rfl rfl ?_
        refine wp_iconst (pc := 35) (v := nI 5) X dX8_file_35 (by decide) ?_
        obtain ⟨hb7, h⟩ := h
        refine wn_icmp_ne (pc := 36) (tgt := 55) X dX8_file_36 (by decide) hb7 (by decide) (fun hc => ?_) (fun hc => ?_)
        · replace h := h.1 hc
          refine wp_aload_n (pc := 55) X dX8_file_55 rfl rfl ?_
          refine wp_get (pc := 56) X fl_X8_7 A_139 (by decide) (fg_8_0 A_139) dX8_file_56 ?_
          refine wp_bipush (pc := 59) (v := nI 6) X dX8_file_59 (by decide) ?_
          refine wp_iload_n (pc := 61) X dX8_file_61 rfl rfl ?_
          refine wn_imul (pc := 62) X dX8_file_62 ?_
          refine wp_iload_n (pc := 63) X dX8_file_63 rfl rfl ?_
          refine wn_iadd (pc := 64) X dX8_file_64 ?_
          obtain ⟨hj5, h⟩ := h
          refine wn_iald (pc := 65) X A_140 hj5 (by decide) dX8_file_65 ?_
          exact wp_iret (pc := 66) X T dX8_file_66 h
        · replace h := h.2 hc
          refine wp_aload_n (pc := 39) X dX8_file_39 rfl rfl ?_
          refine wp_get (pc := 40) X fl_X8_7 A_139 (by decide) (fg_8_0 A_139) dX8_file_40 ?_
          refine wp_bipush (pc := 43) (v := nI 30) X dX8_file_43 (by decide) ?_
          refine wp_iload_n (pc := 45) X dX8_file_45 rfl rfl ?_
          refine wn_iadd (pc := 46) X dX8_file_46 ?_
          obtain ⟨hj6, h⟩ := h
          refine wn_iald (pc := 47) X A_140 hj6 (by decide) dX8_file_47 ?_
          refine wp_sipush (pc := 48) (v := nI 1000) X dX8_file_48 (by decide) ?_
          refine wp_iadd (pc := 51) X dX8_file_51 ?_
          refine wp_goto (pc := 52) (tgt := 66) X dX8_file_52 (by decide) ?_
          exact wp_iret (pc := 66) X T dX8_file_66 h
      · replace h := h.2 hc
        refine wp_aload_n (pc := 26) X dX8_file_26 rfl rfl ?_
        refine wp_iload_n (pc := 27) X dX8_file_27 rfl rfl ?_
        refine wp_invV (pc := 28) X sv_X8_124 A_139 (by decide) rfl ⟨by decide, by decide⟩ (As := [.int (nI f)]) (st := []) rfl rfl (Nat.le_of_ble_eq_true rfl) dX8_file_28 ?_
        refine CM.mono h (fun r9 M8 h => ?_)
        refine wp_goto (pc := 31) (tgt := 66) X dX8_file_31 (by decide) ?_
        exact wp_iret (pc := 66) X T dX8_file_66 h
    · replace h := h.2 hc
      refine wp_iconst (pc := 18) (v := (-1)) X dX8_file_18 (by decide) ?_
      exact wp_iret (pc := 19) X T dX8_file_19 h
theorem r_X8_sent_0 {x : CT} {L : List Nat} {Q : Int32 → Mem → Prop} {M : Mem}  {a1 a2 : Int32} (X : BS x L cX8_sent 3 RX8 (m_X8_sent).2.2.2.2) (T : RT x L (some .int) Q) (A_139 : AC L 139 8 0) (A_140 : AC L 140 9 918)
    (h : CM m_X8_within L [.int a1, .int (nI 0), .int (nI 9)] M (fun r2 M1 => (r2 = 0 → Q (-1) M1) ∧ (¬ r2 = 0 → CM m_X8_within L [.int a2, .int (nI 0), .int (nI 3)] M1 (fun r4 M3 => (¬ r4 = 0 → (a1 < (M3 140 45) → vp_in (((nI 49) + ((nI 4) * a1)) + a2) 918 ∧ Q (M3 140 (Int32.toNatClampNeg (((nI 49) + ((nI 4) * a1)) + a2))) M3) ∧ (¬ a1 < (M3 140 45) → Q (-4) M3)) ∧ (r4 = 0 → Q (-1) M3))))) : WP x L 0 [some (.ref 139), some (.int a1), some (.int a2)] [] M := by
  refine wp_iload_n (pc := 0) X dX8_sent_0 rfl rfl ?_
  refine wp_iconst (pc := 1) (v := nI 0) X dX8_sent_1 (by decide) ?_
  refine wp_bipush (pc := 2) (v := nI 9) X dX8_sent_2 (by decide) ?_
  refine wp_invS (pc := 4) X sv_X8_31  rfl ⟨by decide, by decide⟩ (As := [.int a1, .int (nI 0), .int (nI 9)]) (st := []) rfl rfl (Nat.le_of_ble_eq_true rfl) dX8_sent_4 ?_
  refine CM.mono h (fun r2 M1 h => ?_)
  refine wp_if_eq (pc := 7) (tgt := 19) X dX8_sent_7 (by decide) (fun hc => ?_) (fun hc => ?_)
  · replace h := h.1 hc
    refine wp_iconst (pc := 19) (v := (-1)) X dX8_sent_19 (by decide) ?_
    exact wp_iret (pc := 20) X T dX8_sent_20 h
  · replace h := h.2 hc
    refine wp_iload_n (pc := 10) X dX8_sent_10 rfl rfl ?_
    refine wp_iconst (pc := 11) (v := nI 0) X dX8_sent_11 (by decide) ?_
    refine wp_iconst (pc := 12) (v := nI 3) X dX8_sent_12 (by decide) ?_
    refine wp_invS (pc := 13) X sv_X8_31  rfl ⟨by decide, by decide⟩ (As := [.int a2, .int (nI 0), .int (nI 3)]) (st := []) rfl rfl (Nat.le_of_ble_eq_true rfl) dX8_sent_13 ?_
    refine CM.mono h (fun r4 M3 h => ?_)
    refine wp_if_ne (pc := 16) (tgt := 21) X dX8_sent_16 (by decide) (fun hc => ?_) (fun hc => ?_)
    · replace h := h.1 hc
      refine wp_iload_n (pc := 21) X dX8_sent_21 rfl rfl ?_
      refine wp_aload_n (pc := 22) X dX8_sent_22 rfl rfl ?_
      refine wp_get (pc := 23) X fl_X8_7 A_139 (by decide) (fg_8_0 A_139) dX8_sent_23 ?_
      refine wp_bipush (pc := 26) (v := nI 45) X dX8_sent_26 (by decide) ?_
      refine wn_iald (pc := 28) X A_140 (by decide) (by decide) dX8_sent_28 ?_
      refine wp_icmp_lt (pc := 29) (tgt := 37) X dX8_sent_29 (by decide) (fun hc => ?_) (fun hc => ?_)
      · replace h := h.1 hc
        refine wp_aload_n (pc := 37) X dX8_sent_37 rfl rfl ?_
        refine wp_get (pc := 38) X fl_X8_7 A_139 (by decide) (fg_8_0 A_139) dX8_sent_38 ?_
        refine wp_bipush (pc := 41) (v := nI 49) X dX8_sent_41 (by decide) ?_
        refine wp_iconst (pc := 43) (v := nI 4) X dX8_sent_43 (by decide) ?_
        refine wp_iload_n (pc := 44) X dX8_sent_44 rfl rfl ?_
        refine wp_imul (pc := 45) X dX8_sent_45 ?_
        refine wp_iadd (pc := 46) X dX8_sent_46 ?_
        refine wp_iload_n (pc := 47) X dX8_sent_47 rfl rfl ?_
        refine wp_iadd (pc := 48) X dX8_sent_48 ?_
        obtain ⟨hj5, h⟩ := h
        refine wp_iald (pc := 49) X A_140 hj5 dX8_sent_49 ?_
        exact wp_iret (pc := 50) X T dX8_sent_50 h
      · replace h := h.2 hc
        refine wp_bipush (pc := 32) (v := (-4)) X dX8_sent_32 (by decide) ?_
        refine wp_goto (pc := 34) (tgt := 50) X dX8_sent_34 (by decide) ?_
        exact wp_iret (pc := 50) X T dX8_sent_50 h
    · replace h := h.2 hc
      refine wp_iconst (pc := 19) (v := (-1)) X dX8_sent_19 (by decide) ?_
      exact wp_iret (pc := 20) X T dX8_sent_20 h
theorem r_X8_sentN_0 {x : CT} {L : List Nat} {Q : Int32 → Mem → Prop} {M : Mem}  {k e : Nat} (X : BS x L cX8_sent 3 RX8 (m_X8_sent).2.2.2.2) (T : RT x L (some .int) Q) (A_139 : AC L 139 8 0) (A_140 : AC L 140 9 918)
    (h : CM m_X8_within L [.int (nI k), .int (nI 0), .int (nI 9)] M (fun r2 M1 => (r2 = 0 → Q (-1) M1) ∧ (¬ r2 = 0 → CM m_X8_within L [.int (nI e), .int (nI 0), .int (nI 3)] M1 (fun r4 M3 => (¬ r4 = 0 → ((nI k) < (M3 140 45) → (49 + (4 * k) + e) < 918 ∧ Q (M3 140 (49 + (4 * k) + e)) M3) ∧ (¬ (nI k) < (M3 140 45) → Q (-4) M3)) ∧ (r4 = 0 → Q (-1) M3))))) : WP x L 0 [some (.ref 139), some (.int (nI k)), some (.int (nI e))] [] M := by
  refine wp_iload_n (pc := 0) X dX8_sent_0 rfl rfl ?_
  refine wp_iconst (pc := 1) (v := nI 0) X dX8_sent_1 (by decide) ?_
  refine wp_bipush (pc := 2) (v := nI 9) X dX8_sent_2 (by decide) ?_
  refine wp_invS (pc := 4) X sv_X8_31  rfl ⟨by decide, by decide⟩ (As := [.int (nI k), .int (nI 0), .int (nI 9)]) (st := []) rfl rfl (Nat.le_of_ble_eq_true rfl) dX8_sent_4 ?_
  refine CM.mono h (fun r2 M1 h => ?_)
  refine wp_if_eq (pc := 7) (tgt := 19) X dX8_sent_7 (by decide) (fun hc => ?_) (fun hc => ?_)
  · replace h := h.1 hc
    refine wp_iconst (pc := 19) (v := (-1)) X dX8_sent_19 (by decide) ?_
    exact wp_iret (pc := 20) X T dX8_sent_20 h
  · replace h := h.2 hc
    refine wp_iload_n (pc := 10) X dX8_sent_10 rfl rfl ?_
    refine wp_iconst (pc := 11) (v := nI 0) X dX8_sent_11 (by decide) ?_
    refine wp_iconst (pc := 12) (v := nI 3) X dX8_sent_12 (by decide) ?_
    refine wp_invS (pc := 13) X sv_X8_31  rfl ⟨by decide, by decide⟩ (As := [.int (nI e), .int (nI 0), .int (nI 3)]) (st := []) rfl rfl (Nat.le_of_ble_eq_true rfl) dX8_sent_13 ?_
    refine CM.mono h (fun r4 M3 h => ?_)
    refine wp_if_ne (pc := 16) (tgt := 21) X dX8_sent_16 (by decide) (fun hc => ?_) (fun hc => ?_)
    · replace h := h.1 hc
      refine wp_iload_n (pc := 21) X dX8_sent_21 rfl rfl ?_
      refine wp_aload_n (pc := 22) X dX8_sent_22 rfl rfl ?_
      refine wp_get (pc := 23) X fl_X8_7 A_139 (by decide) (fg_8_0 A_139) dX8_sent_23 ?_
      refine wp_bipush (pc := 26) (v := nI 45) X dX8_sent_26 (by decide) ?_
      refine wn_iald (pc := 28) X A_140 (by decide) (by decide) dX8_sent_28 ?_
      refine wp_icmp_lt (pc := 29) (tgt := 37) X dX8_sent_29 (by decide) (fun hc => ?_) (fun hc => ?_)
      · replace h := h.1 hc
        refine wp_aload_n (pc := 37) X dX8_sent_37 rfl rfl ?_
        refine wp_get (pc := 38) X fl_X8_7 A_139 (by decide) (fg_8_0 A_139) dX8_sent_38 ?_
        refine wp_bipush (pc := 41) (v := nI 49) X dX8_sent_41 (by decide) ?_
        refine wp_iconst (pc := 43) (v := nI 4) X dX8_sent_43 (by decide) ?_
        refine wp_iload_n (pc := 44) X dX8_sent_44 rfl rfl ?_
        refine wn_imul (pc := 45) X dX8_sent_45 ?_
        refine wn_iadd (pc := 46) X dX8_sent_46 ?_
        refine wp_iload_n (pc := 47) X dX8_sent_47 rfl rfl ?_
        refine wn_iadd (pc := 48) X dX8_sent_48 ?_
        obtain ⟨hj5, h⟩ := h
        refine wn_iald (pc := 49) X A_140 hj5 (by decide) dX8_sent_49 ?_
        exact wp_iret (pc := 50) X T dX8_sent_50 h
      · replace h := h.2 hc
        refine wp_bipush (pc := 32) (v := (-4)) X dX8_sent_32 (by decide) ?_
        refine wp_goto (pc := 34) (tgt := 50) X dX8_sent_34 (by decide) ?_
        exact wp_iret (pc := 50) X T dX8_sent_50 h
    · replace h := h.2 hc
      refine wp_iconst (pc := 19) (v := (-1)) X dX8_sent_19 (by decide) ?_
      exact wp_iret (pc := 20) X T dX8_sent_20 h
theorem r_X8_wholes_0 {x : CT} {L : List Nat} {Q : Int32 → Mem → Prop} {M : Mem}  {l : Nat} (X : BS x L cX8_wholes 4 RX8 (m_X8_wholes).2.2.2.2) (T : RT x L (some .int) Q) 
    (h : WP x L 4 [some (.ref 139), some (.int (nI l)), some (.int (nI 0)), some (.int (nI 0))] [] M) : WP x L 0 [some (.ref 139), some (.int (nI l)), none, none] [] M := by
  refine wp_iconst (pc := 0) (v := nI 0) X dX8_wholes_0 (by decide) ?_
  refine wp_istore_n (pc := 1) (lo' := [some (.ref 139), some (.int (nI l)), some (.int (nI 0)), none]) X dX8_wholes_1 rfl (Nat.le_of_ble_eq_true rfl) rfl rfl ?_
  refine wp_iconst (pc := 2) (v := nI 0) X dX8_wholes_2 (by decide) ?_
  refine wp_istore_n (pc := 3) (lo' := [some (.ref 139), some (.int (nI l)), some (.int (nI 0)), some (.int (nI 0))]) X dX8_wholes_3 rfl (Nat.le_of_ble_eq_true rfl) rfl rfl ?_
  exact h
theorem r_X8_wholes_4 {x : CT} {L : List Nat} {Q : Int32 → Mem → Prop} {M : Mem}  {l f : Nat} {a2 : Int32} (X : BS x L cX8_wholes 4 RX8 (m_X8_wholes).2.2.2.2) (T : RT x L (some .int) Q) (A_139 : AC L 139 8 0) (A_140 : AC L 140 9 918)
    (h : ∃ v1 : Nat, M 140 42 = nI v1 ∧ f < 2 ^ 31 ∧ v1 < 2 ^ 31 ∧ (v1 ≤ f → Q a2 M) ∧ (f < v1 → CM m_X8_lacks L [.ref 139, .int (nI l), .int (nI f)] M (fun r4 M3 => (¬ r4 = 0 → WP x L 4 [some (.ref 139), some (.int (nI l)), some (.int (a2 ||| (nI 0))), some (.int (nI (f + 1)))] [] M3) ∧ (r4 = 0 → WP x L 4 [some (.ref 139), some (.int (nI l)), some (.int (a2 ||| ((nI 1) <<< ((nI f) &&& 31)))), some (.int (nI (f + 1)))] [] M3)))) : WP x L 4 [some (.ref 139), some (.int (nI l)), some (.int a2), some (.int (nI f))] [] M := by
  refine wp_iload_n (pc := 4) X dX8_wholes_4 rfl rfl ?_
  refine wp_aload_n (pc := 5) X dX8_wholes_5 rfl rfl ?_
  refine wp_get (pc := 6) X fl_X8_7 A_139 (by decide) (fg_8_0 A_139) dX8_wholes_6 ?_
  refine wp_bipush (pc := 9) (v := nI 42) X dX8_wholes_9 (by decide) ?_
  obtain ⟨v1, he2, h⟩ := h
  refine we_iald (pc := 11) X A_140 (by decide) (by decide) he2 dX8_wholes_11 ?_
  obtain ⟨hb5, hb6, h⟩ := h
  refine wn_icmp_ge (pc := 12) (tgt := 40) X dX8_wholes_12 (by decide) hb5 hb6 (fun hc => ?_) (fun hc => ?_)
  · replace h := h.1 hc
    refine wp_iload_n (pc := 40) X dX8_wholes_40 rfl rfl ?_
    exact wp_iret (pc := 41) X T dX8_wholes_41 h
  · replace h := h.2 hc
    refine wp_iload_n (pc := 15) X dX8_wholes_15 rfl rfl ?_
    refine wp_aload_n (pc := 16) X dX8_wholes_16 rfl rfl ?_
    refine wp_iload_n (pc := 17) X dX8_wholes_17 rfl rfl ?_
    refine wp_iload_n (pc := 18) X dX8_wholes_18 rfl rfl ?_
    refine wp_invV (pc := 19) X sv_X8_111 A_139 (by decide) rfl ⟨by decide, by decide⟩ (As := [.int (nI l), .int (nI f)]) (st := [.int a2]) rfl rfl (Nat.le_of_ble_eq_true rfl) dX8_wholes_19 ?_
    refine CM.mono h (fun r4 M3 h => ?_)
    refine wp_if_ne (pc := 22) (tgt := 31) X dX8_wholes_22 (by decide) (fun hc => ?_) (fun hc => ?_)
    · replace h := h.1 hc
      refine wp_iconst (pc := 31) (v := nI 0) X dX8_wholes_31 (by decide) ?_
      refine wp_ior (pc := 32) X dX8_wholes_32 ?_
      refine wp_istore_n (pc := 33) (lo' := [some (.ref 139), some (.int (nI l)), some (.int (a2 ||| (nI 0))), some (.int (nI f))]) X dX8_wholes_33 rfl (Nat.le_of_ble_eq_true rfl) rfl rfl ?_
      refine wn_iinc (pc := 34) (d := 1) (lo' := [some (.ref 139), some (.int (nI l)), some (.int (a2 ||| (nI 0))), some (.int (nI (f + 1)))]) X dX8_wholes_34 rfl (by decide) rfl rfl ?_
      refine wp_goto (pc := 37) (tgt := 4) X dX8_wholes_37 (by decide) ?_
      exact h
    · replace h := h.2 hc
      refine wp_iconst (pc := 25) (v := nI 1) X dX8_wholes_25 (by decide) ?_
      refine wp_iload_n (pc := 26) X dX8_wholes_26 rfl rfl ?_
      refine wp_ishl (pc := 27) X dX8_wholes_27 ?_
      refine wp_goto (pc := 28) (tgt := 32) X dX8_wholes_28 (by decide) ?_
      refine wp_ior (pc := 32) X dX8_wholes_32 ?_
      refine wp_istore_n (pc := 33) (lo' := [some (.ref 139), some (.int (nI l)), some (.int (a2 ||| ((nI 1) <<< ((nI f) &&& 31)))), some (.int (nI f))]) X dX8_wholes_33 rfl (Nat.le_of_ble_eq_true rfl) rfl rfl ?_
      refine wn_iinc (pc := 34) (d := 1) (lo' := [some (.ref 139), some (.int (nI l)), some (.int (a2 ||| ((nI 1) <<< ((nI f) &&& 31)))), some (.int (nI (f + 1)))]) X dX8_wholes_34 rfl (by decide) rfl rfl ?_
      refine wp_goto (pc := 37) (tgt := 4) X dX8_wholes_37 (by decide) ?_
      exact h
theorem r_X8_listener_0 {x : CT} {L : List Nat} {Q : Int32 → Mem → Prop} {M : Mem}  {a1 a2 : Int32} (X : BS x L cX8_listener 4 RX8 (m_X8_listener).2.2.2.2) (T : RT x L (some .int) Q) (A_139 : AC L 139 8 0) (A_140 : AC L 140 9 918)
    (h : CM m_X8_isListener L [.ref 139, .int a1] M (fun r2 M1 => (r2 = 0 → Q (-1) M1) ∧ (¬ r2 = 0 → CM m_X8_within L [.int a2, .int (nI 0), .int (nI 5)] M1 (fun r4 M3 => (¬ r4 = 0 → (a2 = nI 0 → vp_in (((nI 89) + ((nI 16) * a1)) + (nI 0)) 918 ∧ Q (M3 140 (Int32.toNatClampNeg (((nI 89) + ((nI 16) * a1)) + (nI 0)))) M3) ∧ (a2 = nI 1 → vp_in (((nI 89) + ((nI 16) * a1)) + (nI 1)) 918 ∧ Q (M3 140 (Int32.toNatClampNeg (((nI 89) + ((nI 16) * a1)) + (nI 1)))) M3) ∧ (a2 = nI 2 → CM m_X8_knows L [.ref 139, .int a1] M3 (fun r12 M11 => (r12 = 0 → Q (nI 0) M11) ∧ (¬ r12 = 0 → Q (nI 1) M11))) ∧ (a2 = nI 3 → vp_in (((nI 89) + ((nI 16) * a1)) + (nI 2)) 918 ∧ Q (M3 140 (Int32.toNatClampNeg (((nI 89) + ((nI 16) * a1)) + (nI 2)))) M3) ∧ (a2 = nI 4 → CM m_X8_wholes L [.ref 139, .int a1] M3 (fun r18 M17 => Q r18 M17)) ∧ ((∀ j, j < 5 → ¬ a2 = nI j) → vp_in (((nI 89) + ((nI 16) * a1)) + (nI 3)) 918 ∧ Q (M3 140 (Int32.toNatClampNeg (((nI 89) + ((nI 16) * a1)) + (nI 3)))) M3)) ∧ (r4 = 0 → Q (-1) M3))))) : WP x L 0 [some (.ref 139), some (.int a1), some (.int a2), none] [] M := by
  refine wp_aload_n (pc := 0) X dX8_listener_0 rfl rfl ?_
  refine wp_iload_n (pc := 1) X dX8_listener_1 rfl rfl ?_
  refine wp_invV (pc := 2) X sv_X8_108 A_139 (by decide) rfl ⟨by decide, by decide⟩ (As := [.int a1]) (st := []) rfl rfl (Nat.le_of_ble_eq_true rfl) dX8_listener_2 ?_
  refine CM.mono h (fun r2 M1 h => ?_)
  refine wp_if_eq (pc := 5) (tgt := 17) X dX8_listener_5 (by decide) (fun hc => ?_) (fun hc => ?_)
  · replace h := h.1 hc
    refine wp_iconst (pc := 17) (v := (-1)) X dX8_listener_17 (by decide) ?_
    exact wp_iret (pc := 18) X T dX8_listener_18 h
  · replace h := h.2 hc
    refine wp_iload_n (pc := 8) X dX8_listener_8 rfl rfl ?_
    refine wp_iconst (pc := 9) (v := nI 0) X dX8_listener_9 (by decide) ?_
    refine wp_iconst (pc := 10) (v := nI 5) X dX8_listener_10 (by decide) ?_
    refine wp_invS (pc := 11) X sv_X8_31  rfl ⟨by decide, by decide⟩ (As := [.int a2, .int (nI 0), .int (nI 5)]) (st := []) rfl rfl (Nat.le_of_ble_eq_true rfl) dX8_listener_11 ?_
    refine CM.mono h (fun r4 M3 h => ?_)
    refine wp_if_ne (pc := 14) (tgt := 19) X dX8_listener_14 (by decide) (fun hc => ?_) (fun hc => ?_)
    · replace h := h.1 hc
      refine wp_bipush (pc := 19) (v := nI 89) X dX8_listener_19 (by decide) ?_
      refine wp_bipush (pc := 21) (v := nI 16) X dX8_listener_21 (by decide) ?_
      refine wp_iload_n (pc := 23) X dX8_listener_23 rfl rfl ?_
      refine wp_imul (pc := 24) X dX8_listener_24 ?_
      refine wp_iadd (pc := 25) X dX8_listener_25 ?_
      refine wp_istore_n (pc := 26) (lo' := [some (.ref 139), some (.int a1), some (.int a2), some (.int ((nI 89) + ((nI 16) * a1)))]) X dX8_listener_26 rfl (Nat.le_of_ble_eq_true rfl) rfl rfl ?_
      refine wp_iload_n (pc := 27) X dX8_listener_27 rfl rfl ?_
      by_cases e28_0 : a2 = nI 0
      · replace h := h.1 e28_0
        refine wp_tabIn (pc := 28) (off := 36) (tgt := 64) X dX8_listener_28 (by rw [e28_0]; decide) (by rw [e28_0]; decide) (by rw [e28_0]; rfl) (by decide) ?_
        refine wp_aload_n (pc := 64) X dX8_listener_64 rfl rfl ?_
        refine wp_get (pc := 65) X fl_X8_7 A_139 (by decide) (fg_8_0 A_139) dX8_listener_65 ?_
        refine wp_iload_n (pc := 68) X dX8_listener_68 rfl rfl ?_
        refine wp_iconst (pc := 69) (v := nI 0) X dX8_listener_69 (by decide) ?_
        refine wp_iadd (pc := 70) X dX8_listener_70 ?_
        obtain ⟨hj6, h⟩ := h
        refine wp_iald (pc := 71) X A_140 hj6 dX8_listener_71 ?_
        exact wp_iret (pc := 72) X T dX8_listener_72 h
      by_cases e28_1 : a2 = nI 1
      · replace h := h.2.1 e28_1
        refine wp_tabIn (pc := 28) (off := 45) (tgt := 73) X dX8_listener_28 (by rw [e28_1]; decide) (by rw [e28_1]; decide) (by rw [e28_1]; rfl) (by decide) ?_
        refine wp_aload_n (pc := 73) X dX8_listener_73 rfl rfl ?_
        refine wp_get (pc := 74) X fl_X8_7 A_139 (by decide) (fg_8_0 A_139) dX8_listener_74 ?_
        refine wp_iload_n (pc := 77) X dX8_listener_77 rfl rfl ?_
        refine wp_iconst (pc := 78) (v := nI 1) X dX8_listener_78 (by decide) ?_
        refine wp_iadd (pc := 79) X dX8_listener_79 ?_
        obtain ⟨hj8, h⟩ := h
        refine wp_iald (pc := 80) X A_140 hj8 dX8_listener_80 ?_
        exact wp_iret (pc := 81) X T dX8_listener_81 h
      by_cases e28_2 : a2 = nI 2
      · replace h := h.2.2.1 e28_2
        refine wp_tabIn (pc := 28) (off := 54) (tgt := 82) X dX8_listener_28 (by rw [e28_2]; decide) (by rw [e28_2]; decide) (by rw [e28_2]; rfl) (by decide) ?_
        refine wp_aload_n (pc := 82) X dX8_listener_82 rfl rfl ?_
        refine wp_iload_n (pc := 83) X dX8_listener_83 rfl rfl ?_
        refine wp_invV (pc := 84) X sv_X8_115 A_139 (by decide) rfl ⟨by decide, by decide⟩ (As := [.int a1]) (st := []) rfl rfl (Nat.le_of_ble_eq_true rfl) dX8_listener_84 ?_
        refine CM.mono h (fun r12 M11 h => ?_)
        refine wp_if_eq (pc := 87) (tgt := 94) X dX8_listener_87 (by decide) (fun hc => ?_) (fun hc => ?_)
        · replace h := h.1 hc
          refine wp_iconst (pc := 94) (v := nI 0) X dX8_listener_94 (by decide) ?_
          exact wp_iret (pc := 95) X T dX8_listener_95 h
        · replace h := h.2 hc
          refine wp_iconst (pc := 90) (v := nI 1) X dX8_listener_90 (by decide) ?_
          refine wp_goto (pc := 91) (tgt := 95) X dX8_listener_91 (by decide) ?_
          exact wp_iret (pc := 95) X T dX8_listener_95 h
      by_cases e28_3 : a2 = nI 3
      · replace h := h.2.2.2.1 e28_3
        refine wp_tabIn (pc := 28) (off := 68) (tgt := 96) X dX8_listener_28 (by rw [e28_3]; decide) (by rw [e28_3]; decide) (by rw [e28_3]; rfl) (by decide) ?_
        refine wp_aload_n (pc := 96) X dX8_listener_96 rfl rfl ?_
        refine wp_get (pc := 97) X fl_X8_7 A_139 (by decide) (fg_8_0 A_139) dX8_listener_97 ?_
        refine wp_iload_n (pc := 100) X dX8_listener_100 rfl rfl ?_
        refine wp_iconst (pc := 101) (v := nI 2) X dX8_listener_101 (by decide) ?_
        refine wp_iadd (pc := 102) X dX8_listener_102 ?_
        obtain ⟨hj14, h⟩ := h
        refine wp_iald (pc := 103) X A_140 hj14 dX8_listener_103 ?_
        exact wp_iret (pc := 104) X T dX8_listener_104 h
      by_cases e28_4 : a2 = nI 4
      · replace h := h.2.2.2.2.1 e28_4
        refine wp_tabIn (pc := 28) (off := 77) (tgt := 105) X dX8_listener_28 (by rw [e28_4]; decide) (by rw [e28_4]; decide) (by rw [e28_4]; rfl) (by decide) ?_
        refine wp_aload_n (pc := 105) X dX8_listener_105 rfl rfl ?_
        refine wp_iload_n (pc := 106) X dX8_listener_106 rfl rfl ?_
        refine wp_invV (pc := 107) X sv_X8_127 A_139 (by decide) rfl ⟨by decide, by decide⟩ (As := [.int a1]) (st := []) rfl rfl (Nat.le_of_ble_eq_true rfl) dX8_listener_107 ?_
        refine CM.mono h (fun r18 M17 h => ?_)
        exact wp_iret (pc := 110) X T dX8_listener_110 h
      have hall : ∀ j, j < 5 → ¬ a2 = nI j := by
        intro j hj
        rcases (show j = 0 ∨ j = 1 ∨ j = 2 ∨ j = 3 ∨ j = 4 by omega) with rfl | rfl | rfl | rfl | rfl
        all_goals assumption
      replace h := h.2.2.2.2.2 hall
      refine wp_tabOut (pc := 28) (tgt := 111) X dX8_listener_28 (sw_out hall (by decide) rfl) (by decide) ?_
      refine wp_aload_n (pc := 111) X dX8_listener_111 rfl rfl ?_
      refine wp_get (pc := 112) X fl_X8_7 A_139 (by decide) (fg_8_0 A_139) dX8_listener_112 ?_
      refine wp_iload_n (pc := 115) X dX8_listener_115 rfl rfl ?_
      refine wp_iconst (pc := 116) (v := nI 3) X dX8_listener_116 (by decide) ?_
      refine wp_iadd (pc := 117) X dX8_listener_117 ?_
      obtain ⟨hj19, h⟩ := h
      refine wp_iald (pc := 118) X A_140 hj19 dX8_listener_118 ?_
      exact wp_iret (pc := 119) X T dX8_listener_119 h
    · replace h := h.2 hc
      refine wp_iconst (pc := 17) (v := (-1)) X dX8_listener_17 (by decide) ?_
      exact wp_iret (pc := 18) X T dX8_listener_18 h
theorem r_X8_listenerN_0 {x : CT} {L : List Nat} {Q : Int32 → Mem → Prop} {M : Mem}  {l : Nat} {a2 : Int32} (X : BS x L cX8_listener 4 RX8 (m_X8_listener).2.2.2.2) (T : RT x L (some .int) Q) (A_139 : AC L 139 8 0) (A_140 : AC L 140 9 918)
    (h : CM m_X8_isListener L [.ref 139, .int (nI l)] M (fun r2 M1 => (r2 = 0 → Q (-1) M1) ∧ (¬ r2 = 0 → CM m_X8_within L [.int a2, .int (nI 0), .int (nI 5)] M1 (fun r4 M3 => (¬ r4 = 0 → (a2 = nI 0 → (89 + (16 * l) + 0) < 918 ∧ Q (M3 140 (89 + (16 * l) + 0)) M3) ∧ (a2 = nI 1 → (89 + (16 * l) + 1) < 918 ∧ Q (M3 140 (89 + (16 * l) + 1)) M3) ∧ (a2 = nI 2 → CM m_X8_knows L [.ref 139, .int (nI l)] M3 (fun r12 M11 => (r12 = 0 → Q (nI 0) M11) ∧ (¬ r12 = 0 → Q (nI 1) M11))) ∧ (a2 = nI 3 → (89 + (16 * l) + 2) < 918 ∧ Q (M3 140 (89 + (16 * l) + 2)) M3) ∧ (a2 = nI 4 → CM m_X8_wholes L [.ref 139, .int (nI l)] M3 (fun r18 M17 => Q r18 M17)) ∧ ((∀ j, j < 5 → ¬ a2 = nI j) → (89 + (16 * l) + 3) < 918 ∧ Q (M3 140 (89 + (16 * l) + 3)) M3)) ∧ (r4 = 0 → Q (-1) M3))))) : WP x L 0 [some (.ref 139), some (.int (nI l)), some (.int a2), none] [] M := by
  refine wp_aload_n (pc := 0) X dX8_listener_0 rfl rfl ?_
  refine wp_iload_n (pc := 1) X dX8_listener_1 rfl rfl ?_
  refine wp_invV (pc := 2) X sv_X8_108 A_139 (by decide) rfl ⟨by decide, by decide⟩ (As := [.int (nI l)]) (st := []) rfl rfl (Nat.le_of_ble_eq_true rfl) dX8_listener_2 ?_
  refine CM.mono h (fun r2 M1 h => ?_)
  refine wp_if_eq (pc := 5) (tgt := 17) X dX8_listener_5 (by decide) (fun hc => ?_) (fun hc => ?_)
  · replace h := h.1 hc
    refine wp_iconst (pc := 17) (v := (-1)) X dX8_listener_17 (by decide) ?_
    exact wp_iret (pc := 18) X T dX8_listener_18 h
  · replace h := h.2 hc
    refine wp_iload_n (pc := 8) X dX8_listener_8 rfl rfl ?_
    refine wp_iconst (pc := 9) (v := nI 0) X dX8_listener_9 (by decide) ?_
    refine wp_iconst (pc := 10) (v := nI 5) X dX8_listener_10 (by decide) ?_
    refine wp_invS (pc := 11) X sv_X8_31  rfl ⟨by decide, by decide⟩ (As := [.int a2, .int (nI 0), .int (nI 5)]) (st := []) rfl rfl (Nat.le_of_ble_eq_true rfl) dX8_listener_11 ?_
    refine CM.mono h (fun r4 M3 h => ?_)
    refine wp_if_ne (pc := 14) (tgt := 19) X dX8_listener_14 (by decide) (fun hc => ?_) (fun hc => ?_)
    · replace h := h.1 hc
      refine wp_bipush (pc := 19) (v := nI 89) X dX8_listener_19 (by decide) ?_
      refine wp_bipush (pc := 21) (v := nI 16) X dX8_listener_21 (by decide) ?_
      refine wp_iload_n (pc := 23) X dX8_listener_23 rfl rfl ?_
      refine wn_imul (pc := 24) X dX8_listener_24 ?_
      refine wn_iadd (pc := 25) X dX8_listener_25 ?_
      refine wp_istore_n (pc := 26) (lo' := [some (.ref 139), some (.int (nI l)), some (.int a2), some (.int (nI (89 + (16 * l))))]) X dX8_listener_26 rfl (Nat.le_of_ble_eq_true rfl) rfl rfl ?_
      refine wp_iload_n (pc := 27) X dX8_listener_27 rfl rfl ?_
      by_cases e28_0 : a2 = nI 0
      · replace h := h.1 e28_0
        refine wp_tabIn (pc := 28) (off := 36) (tgt := 64) X dX8_listener_28 (by rw [e28_0]; decide) (by rw [e28_0]; decide) (by rw [e28_0]; rfl) (by decide) ?_
        refine wp_aload_n (pc := 64) X dX8_listener_64 rfl rfl ?_
        refine wp_get (pc := 65) X fl_X8_7 A_139 (by decide) (fg_8_0 A_139) dX8_listener_65 ?_
        refine wp_iload_n (pc := 68) X dX8_listener_68 rfl rfl ?_
        refine wp_iconst (pc := 69) (v := nI 0) X dX8_listener_69 (by decide) ?_
        refine wn_iadd (pc := 70) X dX8_listener_70 ?_
        obtain ⟨hj6, h⟩ := h
        refine wn_iald (pc := 71) X A_140 hj6 (by decide) dX8_listener_71 ?_
        exact wp_iret (pc := 72) X T dX8_listener_72 h
      by_cases e28_1 : a2 = nI 1
      · replace h := h.2.1 e28_1
        refine wp_tabIn (pc := 28) (off := 45) (tgt := 73) X dX8_listener_28 (by rw [e28_1]; decide) (by rw [e28_1]; decide) (by rw [e28_1]; rfl) (by decide) ?_
        refine wp_aload_n (pc := 73) X dX8_listener_73 rfl rfl ?_
        refine wp_get (pc := 74) X fl_X8_7 A_139 (by decide) (fg_8_0 A_139) dX8_listener_74 ?_
        refine wp_iload_n (pc := 77) X dX8_listener_77 rfl rfl ?_
        refine wp_iconst (pc := 78) (v := nI 1) X dX8_listener_78 (by decide) ?_
        refine wn_iadd (pc := 79) X dX8_listener_79 ?_
        obtain ⟨hj8, h⟩ := h
        refine wn_iald (pc := 80) X A_140 hj8 (by decide) dX8_listener_80 ?_
        exact wp_iret (pc := 81) X T dX8_listener_81 h
      by_cases e28_2 : a2 = nI 2
      · replace h := h.2.2.1 e28_2
        refine wp_tabIn (pc := 28) (off := 54) (tgt := 82) X dX8_listener_28 (by rw [e28_2]; decide) (by rw [e28_2]; decide) (by rw [e28_2]; rfl) (by decide) ?_
        refine wp_aload_n (pc := 82) X dX8_listener_82 rfl rfl ?_
        refine wp_iload_n (pc := 83) X dX8_listener_83 rfl rfl ?_
        refine wp_invV (pc := 84) X sv_X8_115 A_139 (by decide) rfl ⟨by decide, by decide⟩ (As := [.int (nI l)]) (st := []) rfl rfl (Nat.le_of_ble_eq_true rfl) dX8_listener_84 ?_
        refine CM.mono h (fun r12 M11 h => ?_)
        refine wp_if_eq (pc := 87) (tgt := 94) X dX8_listener_87 (by decide) (fun hc => ?_) (fun hc => ?_)
        · replace h := h.1 hc
          refine wp_iconst (pc := 94) (v := nI 0) X dX8_listener_94 (by decide) ?_
          exact wp_iret (pc := 95) X T dX8_listener_95 h
        · replace h := h.2 hc
          refine wp_iconst (pc := 90) (v := nI 1) X dX8_listener_90 (by decide) ?_
          refine wp_goto (pc := 91) (tgt := 95) X dX8_listener_91 (by decide) ?_
          exact wp_iret (pc := 95) X T dX8_listener_95 h
      by_cases e28_3 : a2 = nI 3
      · replace h := h.2.2.2.1 e28_3
        refine wp_tabIn (pc := 28) (off := 68) (tgt := 96) X dX8_listener_28 (by rw [e28_3]; decide) (by rw [e28_3]; decide) (by rw [e28_3]; rfl) (by decide) ?_
        refine wp_aload_n (pc := 96) X dX8_listener_96 rfl rfl ?_
        refine wp_get (pc := 97) X fl_X8_7 A_139 (by decide) (fg_8_0 A_139) dX8_listener_97 ?_
        refine wp_iload_n (pc := 100) X dX8_listener_100 rfl rfl ?_
        refine wp_iconst (pc := 101) (v := nI 2) X dX8_listener_101 (by decide) ?_
        refine wn_iadd (pc := 102) X dX8_listener_102 ?_
        obtain ⟨hj14, h⟩ := h
        refine wn_iald (pc := 103) X A_140 hj14 (by decide) dX8_listener_103 ?_
        exact wp_iret (pc := 104) X T dX8_listener_104 h
      by_cases e28_4 : a2 = nI 4
      · replace h := h.2.2.2.2.1 e28_4
        refine wp_tabIn (pc := 28) (off := 77) (tgt := 105) X dX8_listener_28 (by rw [e28_4]; decide) (by rw [e28_4]; decide) (by rw [e28_4]; rfl) (by decide) ?_
        refine wp_aload_n (pc := 105) X dX8_listener_105 rfl rfl ?_
        refine wp_iload_n (pc := 106) X dX8_listener_106 rfl rfl ?_
        refine wp_invV (pc := 107) X sv_X8_127 A_139 (by decide) rfl ⟨by decide, by decide⟩ (As := [.int (nI l)]) (st := []) rfl rfl (Nat.le_of_ble_eq_true rfl) dX8_listener_107 ?_
        refine CM.mono h (fun r18 M17 h => ?_)
        exact wp_iret (pc := 110) X T dX8_listener_110 h
      have hall : ∀ j, j < 5 → ¬ a2 = nI j := by
        intro j hj
        rcases (show j = 0 ∨ j = 1 ∨ j = 2 ∨ j = 3 ∨ j = 4 by omega) with rfl | rfl | rfl | rfl | rfl
        all_goals assumption
      replace h := h.2.2.2.2.2 hall
      refine wp_tabOut (pc := 28) (tgt := 111) X dX8_listener_28 (sw_out hall (by decide) rfl) (by decide) ?_
      refine wp_aload_n (pc := 111) X dX8_listener_111 rfl rfl ?_
      refine wp_get (pc := 112) X fl_X8_7 A_139 (by decide) (fg_8_0 A_139) dX8_listener_112 ?_
      refine wp_iload_n (pc := 115) X dX8_listener_115 rfl rfl ?_
      refine wp_iconst (pc := 116) (v := nI 3) X dX8_listener_116 (by decide) ?_
      refine wn_iadd (pc := 117) X dX8_listener_117 ?_
      obtain ⟨hj19, h⟩ := h
      refine wn_iald (pc := 118) X A_140 hj19 (by decide) dX8_listener_118 ?_
      exact wp_iret (pc := 119) X T dX8_listener_119 h
    · replace h := h.2 hc
      refine wp_iconst (pc := 17) (v := (-1)) X dX8_listener_17 (by decide) ?_
      exact wp_iret (pc := 18) X T dX8_listener_18 h
theorem r_X8_holds_0 {x : CT} {L : List Nat} {Q : Int32 → Mem → Prop} {M : Mem}  {a1 a2 a3 : Int32} (X : BS x L cX8_holds 5 RX8 (m_X8_holds).2.2.2.2) (T : RT x L (some .int) Q) (A_139 : AC L 139 8 0) (A_140 : AC L 140 9 918)
    (h : CM m_X8_isListener L [.ref 139, .int a1] M (fun r2 M1 => (r2 = 0 → Q (-1) M1) ∧ (¬ r2 = 0 → CM m_X8_isFile L [.ref 139, .int a2] M1 (fun r4 M3 => (r4 = 0 → Q (-1) M3) ∧ (¬ r4 = 0 → CM m_X8_within L [.int a3, .int (nI 0), .int (nI 2)] M3 (fun r6 M5 => (¬ r6 = 0 → (¬ a3 = 0 → (¬ a3 = (nI 2) → vp_in (((nI 89) + ((nI 16) * a1)) + (nI 2)) 918 ∧ (¬ (M5 140 (Int32.toNatClampNeg (((nI 89) + ((nI 16) * a1)) + (nI 2)))) = (-4) → vp_in ((((nI 89) + ((nI 16) * a1)) + (nI 4)) + a2) 918 ∧ Q (M5 140 (Int32.toNatClampNeg ((((nI 89) + ((nI 16) * a1)) + (nI 4)) + a2))) M5) ∧ ((M5 140 (Int32.toNatClampNeg (((nI 89) + ((nI 16) * a1)) + (nI 2)))) = (-4) → Q (-4) M5)) ∧ (a3 = (nI 2) → CM m_X8_lacks L [.ref 139, .int a1, .int a2] M5 (fun r10 M9 => Q r10 M9))) ∧ (a3 = 0 → vp_in ((((nI 89) + ((nI 16) * a1)) + (nI 10)) + a2) 918 ∧ Q (M5 140 (Int32.toNatClampNeg ((((nI 89) + ((nI 16) * a1)) + (nI 10)) + a2))) M5)) ∧ (r6 = 0 → Q (-1) M5))))))) : WP x L 0 [some (.ref 139), some (.int a1), some (.int a2), some (.int a3), none] [] M := by
  refine wp_aload_n (pc := 0) X dX8_holds_0 rfl rfl ?_
  refine wp_iload_n (pc := 1) X dX8_holds_1 rfl rfl ?_
  refine wp_invV (pc := 2) X sv_X8_108 A_139 (by decide) rfl ⟨by decide, by decide⟩ (As := [.int a1]) (st := []) rfl rfl (Nat.le_of_ble_eq_true rfl) dX8_holds_2 ?_
  refine CM.mono h (fun r2 M1 h => ?_)
  refine wp_if_eq (pc := 5) (tgt := 25) X dX8_holds_5 (by decide) (fun hc => ?_) (fun hc => ?_)
  · replace h := h.1 hc
    refine wp_iconst (pc := 25) (v := (-1)) X dX8_holds_25 (by decide) ?_
    exact wp_iret (pc := 26) X T dX8_holds_26 h
  · replace h := h.2 hc
    refine wp_aload_n (pc := 8) X dX8_holds_8 rfl rfl ?_
    refine wp_iload_n (pc := 9) X dX8_holds_9 rfl rfl ?_
    refine wp_invV (pc := 10) X sv_X8_101 A_139 (by decide) rfl ⟨by decide, by decide⟩ (As := [.int a2]) (st := []) rfl rfl (Nat.le_of_ble_eq_true rfl) dX8_holds_10 ?_
    refine CM.mono h (fun r4 M3 h => ?_)
    refine wp_if_eq (pc := 13) (tgt := 25) X dX8_holds_13 (by decide) (fun hc => ?_) (fun hc => ?_)
    · replace h := h.1 hc
      refine wp_iconst (pc := 25) (v := (-1)) X dX8_holds_25 (by decide) ?_
      exact wp_iret (pc := 26) X T dX8_holds_26 h
    · replace h := h.2 hc
      refine wp_iload_n (pc := 16) X dX8_holds_16 rfl rfl ?_
      refine wp_iconst (pc := 17) (v := nI 0) X dX8_holds_17 (by decide) ?_
      refine wp_iconst (pc := 18) (v := nI 2) X dX8_holds_18 (by decide) ?_
      refine wp_invS (pc := 19) X sv_X8_31  rfl ⟨by decide, by decide⟩ (As := [.int a3, .int (nI 0), .int (nI 2)]) (st := []) rfl rfl (Nat.le_of_ble_eq_true rfl) dX8_holds_19 ?_
      refine CM.mono h (fun r6 M5 h => ?_)
      refine wp_if_ne (pc := 22) (tgt := 27) X dX8_holds_22 (by decide) (fun hc => ?_) (fun hc => ?_)
      · replace h := h.1 hc
        refine wp_bipush (pc := 27) (v := nI 89) X dX8_holds_27 (by decide) ?_
        refine wp_bipush (pc := 29) (v := nI 16) X dX8_holds_29 (by decide) ?_
        refine wp_iload_n (pc := 31) X dX8_holds_31 rfl rfl ?_
        refine wp_imul (pc := 32) X dX8_holds_32 ?_
        refine wp_iadd (pc := 33) X dX8_holds_33 ?_
        refine wp_istore (pc := 34) (lo' := [some (.ref 139), some (.int a1), some (.int a2), some (.int a3), some (.int ((nI 89) + ((nI 16) * a1)))]) X dX8_holds_34 (Nat.le_of_ble_eq_true rfl) rfl rfl ?_
        refine wp_iload_n (pc := 36) X dX8_holds_36 rfl rfl ?_
        refine wp_if_ne (pc := 37) (tgt := 55) X dX8_holds_37 (by decide) (fun hc => ?_) (fun hc => ?_)
        · replace h := h.1 hc
          refine wp_iload_n (pc := 55) X dX8_holds_55 rfl rfl ?_
          refine wp_iconst (pc := 56) (v := nI 2) X dX8_holds_56 (by decide) ?_
          refine wp_icmp_ne (pc := 57) (tgt := 69) X dX8_holds_57 (by decide) (fun hc => ?_) (fun hc => ?_)
          · replace h := h.1 hc
            refine wp_aload_n (pc := 69) X dX8_holds_69 rfl rfl ?_
            refine wp_get (pc := 70) X fl_X8_7 A_139 (by decide) (fg_8_0 A_139) dX8_holds_70 ?_
            refine wp_iload (pc := 73) X dX8_holds_73 rfl ?_
            refine wp_iconst (pc := 75) (v := nI 2) X dX8_holds_75 (by decide) ?_
            refine wp_iadd (pc := 76) X dX8_holds_76 ?_
            obtain ⟨hj7, h⟩ := h
            refine wp_iald (pc := 77) X A_140 hj7 dX8_holds_77 ?_
            refine wp_bipush (pc := 78) (v := (-4)) X dX8_holds_78 (by decide) ?_
            refine wp_icmp_ne (pc := 80) (tgt := 88) X dX8_holds_80 (by decide) (fun hc => ?_) (fun hc => ?_)
            · replace h := h.1 hc
              refine wp_aload_n (pc := 88) X dX8_holds_88 rfl rfl ?_
              refine wp_get (pc := 89) X fl_X8_7 A_139 (by decide) (fg_8_0 A_139) dX8_holds_89 ?_
              refine wp_iload (pc := 92) X dX8_holds_92 rfl ?_
              refine wp_iconst (pc := 94) (v := nI 4) X dX8_holds_94 (by decide) ?_
              refine wp_iadd (pc := 95) X dX8_holds_95 ?_
              refine wp_iload_n (pc := 96) X dX8_holds_96 rfl rfl ?_
              refine wp_iadd (pc := 97) X dX8_holds_97 ?_
              obtain ⟨hj8, h⟩ := h
              refine wp_iald (pc := 98) X A_140 hj8 dX8_holds_98 ?_
              exact wp_iret (pc := 99) X T dX8_holds_99 h
            · replace h := h.2 hc
              refine wp_bipush (pc := 83) (v := (-4)) X dX8_holds_83 (by decide) ?_
              refine wp_goto (pc := 85) (tgt := 99) X dX8_holds_85 (by decide) ?_
              exact wp_iret (pc := 99) X T dX8_holds_99 h
          · replace h := h.2 hc
            refine wp_aload_n (pc := 60) X dX8_holds_60 rfl rfl ?_
            refine wp_iload_n (pc := 61) X dX8_holds_61 rfl rfl ?_
            refine wp_iload_n (pc := 62) X dX8_holds_62 rfl rfl ?_
            refine wp_invV (pc := 63) X sv_X8_111 A_139 (by decide) rfl ⟨by decide, by decide⟩ (As := [.int a1, .int a2]) (st := []) rfl rfl (Nat.le_of_ble_eq_true rfl) dX8_holds_63 ?_
            refine CM.mono h (fun r10 M9 h => ?_)
            refine wp_goto (pc := 66) (tgt := 99) X dX8_holds_66 (by decide) ?_
            exact wp_iret (pc := 99) X T dX8_holds_99 h
        · replace h := h.2 hc
          refine wp_aload_n (pc := 40) X dX8_holds_40 rfl rfl ?_
          refine wp_get (pc := 41) X fl_X8_7 A_139 (by decide) (fg_8_0 A_139) dX8_holds_41 ?_
          refine wp_iload (pc := 44) X dX8_holds_44 rfl ?_
          refine wp_bipush (pc := 46) (v := nI 10) X dX8_holds_46 (by decide) ?_
          refine wp_iadd (pc := 48) X dX8_holds_48 ?_
          refine wp_iload_n (pc := 49) X dX8_holds_49 rfl rfl ?_
          refine wp_iadd (pc := 50) X dX8_holds_50 ?_
          obtain ⟨hj11, h⟩ := h
          refine wp_iald (pc := 51) X A_140 hj11 dX8_holds_51 ?_
          refine wp_goto (pc := 52) (tgt := 99) X dX8_holds_52 (by decide) ?_
          exact wp_iret (pc := 99) X T dX8_holds_99 h
      · replace h := h.2 hc
        refine wp_iconst (pc := 25) (v := (-1)) X dX8_holds_25 (by decide) ?_
        exact wp_iret (pc := 26) X T dX8_holds_26 h
theorem r_X8_holdsN_0 {x : CT} {L : List Nat} {Q : Int32 → Mem → Prop} {M : Mem}  {l f : Nat} {a3 : Int32} (X : BS x L cX8_holds 5 RX8 (m_X8_holds).2.2.2.2) (T : RT x L (some .int) Q) (A_139 : AC L 139 8 0) (A_140 : AC L 140 9 918)
    (h : CM m_X8_isListener L [.ref 139, .int (nI l)] M (fun r2 M1 => (r2 = 0 → Q (-1) M1) ∧ (¬ r2 = 0 → CM m_X8_isFile L [.ref 139, .int (nI f)] M1 (fun r4 M3 => (r4 = 0 → Q (-1) M3) ∧ (¬ r4 = 0 → CM m_X8_within L [.int a3, .int (nI 0), .int (nI 2)] M3 (fun r6 M5 => (¬ r6 = 0 → (¬ a3 = 0 → (¬ a3 = (nI 2) → (89 + (16 * l) + 2) < 918 ∧ (¬ (M5 140 (89 + (16 * l) + 2)) = (-4) → (89 + (16 * l) + 4 + f) < 918 ∧ Q (M5 140 (89 + (16 * l) + 4 + f)) M5) ∧ ((M5 140 (89 + (16 * l) + 2)) = (-4) → Q (-4) M5)) ∧ (a3 = (nI 2) → CM m_X8_lacks L [.ref 139, .int (nI l), .int (nI f)] M5 (fun r10 M9 => Q r10 M9))) ∧ (a3 = 0 → (89 + (16 * l) + 10 + f) < 918 ∧ Q (M5 140 (89 + (16 * l) + 10 + f)) M5)) ∧ (r6 = 0 → Q (-1) M5))))))) : WP x L 0 [some (.ref 139), some (.int (nI l)), some (.int (nI f)), some (.int a3), none] [] M := by
  refine wp_aload_n (pc := 0) X dX8_holds_0 rfl rfl ?_
  refine wp_iload_n (pc := 1) X dX8_holds_1 rfl rfl ?_
  refine wp_invV (pc := 2) X sv_X8_108 A_139 (by decide) rfl ⟨by decide, by decide⟩ (As := [.int (nI l)]) (st := []) rfl rfl (Nat.le_of_ble_eq_true rfl) dX8_holds_2 ?_
  refine CM.mono h (fun r2 M1 h => ?_)
  refine wp_if_eq (pc := 5) (tgt := 25) X dX8_holds_5 (by decide) (fun hc => ?_) (fun hc => ?_)
  · replace h := h.1 hc
    refine wp_iconst (pc := 25) (v := (-1)) X dX8_holds_25 (by decide) ?_
    exact wp_iret (pc := 26) X T dX8_holds_26 h
  · replace h := h.2 hc
    refine wp_aload_n (pc := 8) X dX8_holds_8 rfl rfl ?_
    refine wp_iload_n (pc := 9) X dX8_holds_9 rfl rfl ?_
    refine wp_invV (pc := 10) X sv_X8_101 A_139 (by decide) rfl ⟨by decide, by decide⟩ (As := [.int (nI f)]) (st := []) rfl rfl (Nat.le_of_ble_eq_true rfl) dX8_holds_10 ?_
    refine CM.mono h (fun r4 M3 h => ?_)
    refine wp_if_eq (pc := 13) (tgt := 25) X dX8_holds_13 (by decide) (fun hc => ?_) (fun hc => ?_)
    · replace h := h.1 hc
      refine wp_iconst (pc := 25) (v := (-1)) X dX8_holds_25 (by decide) ?_
      exact wp_iret (pc := 26) X T dX8_holds_26 h
    · replace h := h.2 hc
      refine wp_iload_n (pc := 16) X dX8_holds_16 rfl rfl ?_
      refine wp_iconst (pc := 17) (v := nI 0) X dX8_holds_17 (by decide) ?_
      refine wp_iconst (pc := 18) (v := nI 2) X dX8_holds_18 (by decide) ?_
      refine wp_invS (pc := 19) X sv_X8_31  rfl ⟨by decide, by decide⟩ (As := [.int a3, .int (nI 0), .int (nI 2)]) (st := []) rfl rfl (Nat.le_of_ble_eq_true rfl) dX8_holds_19 ?_
      refine CM.mono h (fun r6 M5 h => ?_)
      refine wp_if_ne (pc := 22) (tgt := 27) X dX8_holds_22 (by decide) (fun hc => ?_) (fun hc => ?_)
      · replace h := h.1 hc
        refine wp_bipush (pc := 27) (v := nI 89) X dX8_holds_27 (by decide) ?_
        refine wp_bipush (pc := 29) (v := nI 16) X dX8_holds_29 (by decide) ?_
        refine wp_iload_n (pc := 31) X dX8_holds_31 rfl rfl ?_
        refine wn_imul (pc := 32) X dX8_holds_32 ?_
        refine wn_iadd (pc := 33) X dX8_holds_33 ?_
        refine wp_istore (pc := 34) (lo' := [some (.ref 139), some (.int (nI l)), some (.int (nI f)), some (.int a3), some (.int (nI (89 + (16 * l))))]) X dX8_holds_34 (Nat.le_of_ble_eq_true rfl) rfl rfl ?_
        refine wp_iload_n (pc := 36) X dX8_holds_36 rfl rfl ?_
        refine wp_if_ne (pc := 37) (tgt := 55) X dX8_holds_37 (by decide) (fun hc => ?_) (fun hc => ?_)
        · replace h := h.1 hc
          refine wp_iload_n (pc := 55) X dX8_holds_55 rfl rfl ?_
          refine wp_iconst (pc := 56) (v := nI 2) X dX8_holds_56 (by decide) ?_
          refine wp_icmp_ne (pc := 57) (tgt := 69) X dX8_holds_57 (by decide) (fun hc => ?_) (fun hc => ?_)
          · replace h := h.1 hc
            refine wp_aload_n (pc := 69) X dX8_holds_69 rfl rfl ?_
            refine wp_get (pc := 70) X fl_X8_7 A_139 (by decide) (fg_8_0 A_139) dX8_holds_70 ?_
            refine wp_iload (pc := 73) X dX8_holds_73 rfl ?_
            refine wp_iconst (pc := 75) (v := nI 2) X dX8_holds_75 (by decide) ?_
            refine wn_iadd (pc := 76) X dX8_holds_76 ?_
            obtain ⟨hj7, h⟩ := h
            refine wn_iald (pc := 77) X A_140 hj7 (by decide) dX8_holds_77 ?_
            refine wp_bipush (pc := 78) (v := (-4)) X dX8_holds_78 (by decide) ?_
            refine wp_icmp_ne (pc := 80) (tgt := 88) X dX8_holds_80 (by decide) (fun hc => ?_) (fun hc => ?_)
            · replace h := h.1 hc
              refine wp_aload_n (pc := 88) X dX8_holds_88 rfl rfl ?_
              refine wp_get (pc := 89) X fl_X8_7 A_139 (by decide) (fg_8_0 A_139) dX8_holds_89 ?_
              refine wp_iload (pc := 92) X dX8_holds_92 rfl ?_
              refine wp_iconst (pc := 94) (v := nI 4) X dX8_holds_94 (by decide) ?_
              refine wn_iadd (pc := 95) X dX8_holds_95 ?_
              refine wp_iload_n (pc := 96) X dX8_holds_96 rfl rfl ?_
              refine wn_iadd (pc := 97) X dX8_holds_97 ?_
              obtain ⟨hj8, h⟩ := h
              refine wn_iald (pc := 98) X A_140 hj8 (by decide) dX8_holds_98 ?_
              exact wp_iret (pc := 99) X T dX8_holds_99 h
            · replace h := h.2 hc
              refine wp_bipush (pc := 83) (v := (-4)) X dX8_holds_83 (by decide) ?_
              refine wp_goto (pc := 85) (tgt := 99) X dX8_holds_85 (by decide) ?_
              exact wp_iret (pc := 99) X T dX8_holds_99 h
          · replace h := h.2 hc
            refine wp_aload_n (pc := 60) X dX8_holds_60 rfl rfl ?_
            refine wp_iload_n (pc := 61) X dX8_holds_61 rfl rfl ?_
            refine wp_iload_n (pc := 62) X dX8_holds_62 rfl rfl ?_
            refine wp_invV (pc := 63) X sv_X8_111 A_139 (by decide) rfl ⟨by decide, by decide⟩ (As := [.int (nI l), .int (nI f)]) (st := []) rfl rfl (Nat.le_of_ble_eq_true rfl) dX8_holds_63 ?_
            refine CM.mono h (fun r10 M9 h => ?_)
            refine wp_goto (pc := 66) (tgt := 99) X dX8_holds_66 (by decide) ?_
            exact wp_iret (pc := 99) X T dX8_holds_99 h
        · replace h := h.2 hc
          refine wp_aload_n (pc := 40) X dX8_holds_40 rfl rfl ?_
          refine wp_get (pc := 41) X fl_X8_7 A_139 (by decide) (fg_8_0 A_139) dX8_holds_41 ?_
          refine wp_iload (pc := 44) X dX8_holds_44 rfl ?_
          refine wp_bipush (pc := 46) (v := nI 10) X dX8_holds_46 (by decide) ?_
          refine wn_iadd (pc := 48) X dX8_holds_48 ?_
          refine wp_iload_n (pc := 49) X dX8_holds_49 rfl rfl ?_
          refine wn_iadd (pc := 50) X dX8_holds_50 ?_
          obtain ⟨hj11, h⟩ := h
          refine wn_iald (pc := 51) X A_140 hj11 (by decide) dX8_holds_51 ?_
          refine wp_goto (pc := 52) (tgt := 99) X dX8_holds_52 (by decide) ?_
          exact wp_iret (pc := 99) X T dX8_holds_99 h
      · replace h := h.2 hc
        refine wp_iconst (pc := 25) (v := (-1)) X dX8_holds_25 (by decide) ?_
        exact wp_iret (pc := 26) X T dX8_holds_26 h
theorem r_X8_waitsFrom_0 {x : CT} {L : List Nat} {Q : Int32 → Mem → Prop} {M : Mem}  {f : Nat} (X : BS x L cX8_waitsFrom 8 RX8 (m_X8_waitsFrom).2.2.2.2) (T : RT x L (some .int) Q) 
    (h : WP x L 8 [some (.ref 139), some (.int (nI f)), some (.int (-4)), some (.int (nI 0)), some (.int (nI 1)), none, none, none] [] M) : WP x L 0 [some (.ref 139), some (.int (nI f)), none, none, none, none, none, none] [] M := by
  refine wp_bipush (pc := 0) (v := (-4)) X dX8_waitsFrom_0 (by decide) ?_
  refine wp_istore_n (pc := 2) (lo' := [some (.ref 139), some (.int (nI f)), some (.int (-4)), none, none, none, none, none]) X dX8_waitsFrom_2 rfl (Nat.le_of_ble_eq_true rfl) rfl rfl ?_
  refine wp_iconst (pc := 3) (v := nI 0) X dX8_waitsFrom_3 (by decide) ?_
  refine wp_istore_n (pc := 4) (lo' := [some (.ref 139), some (.int (nI f)), some (.int (-4)), some (.int (nI 0)), none, none, none, none]) X dX8_waitsFrom_4 rfl (Nat.le_of_ble_eq_true rfl) rfl rfl ?_
  refine wp_iconst (pc := 5) (v := nI 1) X dX8_waitsFrom_5 (by decide) ?_
  refine wp_istore (pc := 6) (lo' := [some (.ref 139), some (.int (nI f)), some (.int (-4)), some (.int (nI 0)), some (.int (nI 1)), none, none, none]) X dX8_waitsFrom_6 (Nat.le_of_ble_eq_true rfl) rfl rfl ?_
  exact h
theorem r_X8_waitsFrom_8 {x : CT} {L : List Nat} {Q : Int32 → Mem → Prop} {M : Mem}  {f k : Nat} {a2 a3 : Int32} (X : BS x L cX8_waitsFrom 8 RX8 (m_X8_waitsFrom).2.2.2.2) (T : RT x L (some .int) Q) (A_139 : AC L 139 8 0) (A_140 : AC L 140 9 918)
    (h : k < 2 ^ 31 ∧ (400 < k → Q (-4) M) ∧ (k ≤ 400 → (177 + f) < 918 ∧ CM m_X8_ticks L [.ref 139, .int (nI 153)] M (fun r3 M2 => (¬ r3 = (-4) → (¬ r3 = (nI f) → CM m_X8_ones L [.int (a3 ||| (nI 0))] M2 (fun r5 M4 => (0 + f) < 918 ∧ (r5 < (M4 140 (0 + f)) → WP x L 8 [some (.ref 139), some (.int (nI f)), some (.int a2), some (.int (a3 ||| (nI 0))), some (.int (nI (k + 1))), none, none, none] [] M4) ∧ (¬ r5 < (M4 140 (0 + f)) → Q (nI k) M4))) ∧ (r3 = (nI f) → (a2 < (M 140 198) → CM m_X8_ones L [.int (a3 ||| (nI 0))] M2 (fun r8 M7 => (0 + f) < 918 ∧ (r8 < (M7 140 (0 + f)) → WP x L 8 [some (.ref 139), some (.int (nI f)), some (.int a2), some (.int (a3 ||| (nI 0))), some (.int (nI (k + 1))), none, none, none] [] M7) ∧ (¬ r8 < (M7 140 (0 + f)) → Q (nI k) M7))) ∧ (¬ a2 < (M 140 198) → CM m_X8_ones L [.int (a3 ||| ((nI 1) <<< ((M 140 (177 + f)) &&& 31)))] M2 (fun r11 M10 => (0 + f) < 918 ∧ (r11 < (M10 140 (0 + f)) → WP x L 8 [some (.ref 139), some (.int (nI f)), some (.int a2), some (.int (a3 ||| ((nI 1) <<< ((M 140 (177 + f)) &&& 31)))), some (.int (nI (k + 1))), none, none, none] [] M10) ∧ (¬ r11 < (M10 140 (0 + f)) → Q (nI k) M10))))) ∧ (r3 = (-4) → (¬ r3 = (nI f) → CM m_X8_ones L [.int (a3 ||| (nI 0))] M2 (fun r14 M13 => (0 + f) < 918 ∧ (r14 < (M13 140 (0 + f)) → WP x L 8 [some (.ref 139), some (.int (nI f)), some (.int (((M 140 198) + (M2 140 197)) - (nI 1))), some (.int (a3 ||| (nI 0))), some (.int (nI (k + 1))), none, none, none] [] M13) ∧ (¬ r14 < (M13 140 (0 + f)) → Q (nI k) M13))) ∧ (r3 = (nI f) → ((((M 140 198) + (M2 140 197)) - (nI 1)) < (M 140 198) → CM m_X8_ones L [.int (a3 ||| (nI 0))] M2 (fun r17 M16 => (0 + f) < 918 ∧ (r17 < (M16 140 (0 + f)) → WP x L 8 [some (.ref 139), some (.int (nI f)), some (.int (((M 140 198) + (M2 140 197)) - (nI 1))), some (.int (a3 ||| (nI 0))), some (.int (nI (k + 1))), none, none, none] [] M16) ∧ (¬ r17 < (M16 140 (0 + f)) → Q (nI k) M16))) ∧ (¬ (((M 140 198) + (M2 140 197)) - (nI 1)) < (M 140 198) → CM m_X8_ones L [.int (a3 ||| ((nI 1) <<< ((M 140 (177 + f)) &&& 31)))] M2 (fun r20 M19 => (0 + f) < 918 ∧ (r20 < (M19 140 (0 + f)) → WP x L 8 [some (.ref 139), some (.int (nI f)), some (.int (((M 140 198) + (M2 140 197)) - (nI 1))), some (.int (a3 ||| ((nI 1) <<< ((M 140 (177 + f)) &&& 31)))), some (.int (nI (k + 1))), none, none, none] [] M19) ∧ (¬ r20 < (M19 140 (0 + f)) → Q (nI k) M19)))))))) : WP x L 8 [some (.ref 139), some (.int (nI f)), some (.int a2), some (.int a3), some (.int (nI k)), none, none, none] [] M := by
  refine wp_iload (pc := 8) X dX8_waitsFrom_8 rfl ?_
  refine wp_sipush (pc := 10) (v := nI 400) X dX8_waitsFrom_10 (by decide) ?_
  obtain ⟨hb22, h⟩ := h
  refine wn_icmp_gt (pc := 13) (tgt := 119) X dX8_waitsFrom_13 (by decide) hb22 (by decide) (fun hc => ?_) (fun hc => ?_)
  · replace h := h.1 hc
    refine wp_bipush (pc := 119) (v := (-4)) X dX8_waitsFrom_119 (by decide) ?_
    exact wp_iret (pc := 121) X T dX8_waitsFrom_121 h
  · replace h := h.2 hc
    refine wp_aload_n (pc := 16) X dX8_waitsFrom_16 rfl rfl ?_
    refine wp_get (pc := 17) X fl_X8_7 A_139 (by decide) (fg_8_0 A_139) dX8_waitsFrom_17 ?_
    refine wp_sipush (pc := 20) (v := nI 198) X dX8_waitsFrom_20 (by decide) ?_
    refine wn_iald (pc := 23) X A_140 (by decide) (by decide) dX8_waitsFrom_23 ?_
    refine wp_istore (pc := 24) (lo' := [some (.ref 139), some (.int (nI f)), some (.int a2), some (.int a3), some (.int (nI k)), some (.int (M 140 198)), none, none]) X dX8_waitsFrom_24 (Nat.le_of_ble_eq_true rfl) rfl rfl ?_
    refine wp_aload_n (pc := 26) X dX8_waitsFrom_26 rfl rfl ?_
    refine wp_get (pc := 27) X fl_X8_7 A_139 (by decide) (fg_8_0 A_139) dX8_waitsFrom_27 ?_
    refine wp_sipush (pc := 30) (v := nI 177) X dX8_waitsFrom_30 (by decide) ?_
    refine wp_iload_n (pc := 33) X dX8_waitsFrom_33 rfl rfl ?_
    refine wn_iadd (pc := 34) X dX8_waitsFrom_34 ?_
    obtain ⟨hj1, h⟩ := h
    refine wn_iald (pc := 35) X A_140 hj1 (by decide) dX8_waitsFrom_35 ?_
    refine wp_istore (pc := 36) (lo' := [some (.ref 139), some (.int (nI f)), some (.int a2), some (.int a3), some (.int (nI k)), some (.int (M 140 198)), some (.int (M 140 (177 + f))), none]) X dX8_waitsFrom_36 (Nat.le_of_ble_eq_true rfl) rfl rfl ?_
    refine wp_aload_n (pc := 38) X dX8_waitsFrom_38 rfl rfl ?_
    refine wp_sipush (pc := 39) (v := nI 153) X dX8_waitsFrom_39 (by decide) ?_
    refine wp_invV (pc := 42) X sv_X8_98 A_139 (by decide) rfl ⟨by decide, by decide⟩ (As := [.int (nI 153)]) (st := []) rfl rfl (Nat.le_of_ble_eq_true rfl) dX8_waitsFrom_42 ?_
    refine CM.mono h (fun r3 M2 h => ?_)
    refine wp_istore (pc := 45) (lo' := [some (.ref 139), some (.int (nI f)), some (.int a2), some (.int a3), some (.int (nI k)), some (.int (M 140 198)), some (.int (M 140 (177 + f))), some (.int r3)]) X dX8_waitsFrom_45 (Nat.le_of_ble_eq_true rfl) rfl rfl ?_
    refine wp_iload (pc := 47) X dX8_waitsFrom_47 rfl ?_
    refine wp_bipush (pc := 49) (v := (-4)) X dX8_waitsFrom_49 (by decide) ?_
    refine wp_icmp_ne (pc := 51) (tgt := 70) X dX8_waitsFrom_51 (by decide) (fun hc => ?_) (fun hc => ?_)
    · replace h := h.1 hc
      refine wp_iload_n (pc := 70) X dX8_waitsFrom_70 rfl rfl ?_
      refine wp_istore_n (pc := 71) (lo' := [some (.ref 139), some (.int (nI f)), some (.int a2), some (.int a3), some (.int (nI k)), some (.int (M 140 198)), some (.int (M 140 (177 + f))), some (.int r3)]) X dX8_waitsFrom_71 rfl (Nat.le_of_ble_eq_true rfl) rfl rfl ?_
      refine wp_iload_n (pc := 72) X dX8_waitsFrom_72 rfl rfl ?_
      refine wp_iload (pc := 73) X dX8_waitsFrom_73 rfl ?_
      refine wp_iload_n (pc := 75) X dX8_waitsFrom_75 rfl rfl ?_
      refine wp_icmp_ne (pc := 76) (tgt := 92) X dX8_waitsFrom_76 (by decide) (fun hc => ?_) (fun hc => ?_)
      · replace h := h.1 hc
        refine wp_iconst (pc := 92) (v := nI 0) X dX8_waitsFrom_92 (by decide) ?_
        refine wp_ior (pc := 93) X dX8_waitsFrom_93 ?_
        refine wp_istore_n (pc := 94) (lo' := [some (.ref 139), some (.int (nI f)), some (.int a2), some (.int (a3 ||| (nI 0))), some (.int (nI k)), some (.int (M 140 198)), some (.int (M 140 (177 + f))), some (.int r3)]) X dX8_waitsFrom_94 rfl (Nat.le_of_ble_eq_true rfl) rfl rfl ?_
        refine wp_iload_n (pc := 95) X dX8_waitsFrom_95 rfl rfl ?_
        refine wp_invS (pc := 96) X sv_X8_105  rfl ⟨by decide, by decide⟩ (As := [.int (a3 ||| (nI 0))]) (st := []) rfl rfl (Nat.le_of_ble_eq_true rfl) dX8_waitsFrom_96 ?_
        refine CM.mono h (fun r5 M4 h => ?_)
        refine wp_aload_n (pc := 99) X dX8_waitsFrom_99 rfl rfl ?_
        refine wp_get (pc := 100) X fl_X8_7 A_139 (by decide) (fg_8_0 A_139) dX8_waitsFrom_100 ?_
        refine wp_iconst (pc := 103) (v := nI 0) X dX8_waitsFrom_103 (by decide) ?_
        refine wp_iload_n (pc := 104) X dX8_waitsFrom_104 rfl rfl ?_
        refine wn_iadd (pc := 105) X dX8_waitsFrom_105 ?_
        obtain ⟨hj6, h⟩ := h
        refine wn_iald (pc := 106) X A_140 hj6 (by decide) dX8_waitsFrom_106 ?_
        refine wp_icmp_lt (pc := 107) (tgt := 113) X dX8_waitsFrom_107 (by decide) (fun hc => ?_) (fun hc => ?_)
        · replace h := h.1 hc
          refine wn_iinc (pc := 113) (d := 1) (lo' := [some (.ref 139), some (.int (nI f)), some (.int a2), some (.int (a3 ||| (nI 0))), some (.int (nI (k + 1))), some (.int (M 140 198)), some (.int (M 140 (177 + f))), some (.int r3)]) X dX8_waitsFrom_113 rfl (by decide) rfl rfl ?_
          refine wp_goto (pc := 116) (tgt := 8) X dX8_waitsFrom_116 (by decide) ?_
          exact wp_drop (show subL _ [some (.ref 139), some (.int (nI f)), some (.int a2), some (.int (a3 ||| (nI 0))), some (.int (nI (k + 1))), none, none, none] from ⟨rfl, ⟨rfl, ⟨rfl, ⟨rfl, ⟨rfl, trivial⟩⟩⟩⟩⟩) h
        · replace h := h.2 hc
          refine wp_iload (pc := 110) X dX8_waitsFrom_110 rfl ?_
          exact wp_iret (pc := 112) X T dX8_waitsFrom_112 h
      · replace h := h.2 hc
        refine wp_iload_n (pc := 79) X dX8_waitsFrom_79 rfl rfl ?_
        refine wp_iload (pc := 80) X dX8_waitsFrom_80 rfl ?_
        refine wp_icmp_lt (pc := 82) (tgt := 92) X dX8_waitsFrom_82 (by decide) (fun hc => ?_) (fun hc => ?_)
        · replace h := h.1 hc
          refine wp_iconst (pc := 92) (v := nI 0) X dX8_waitsFrom_92 (by decide) ?_
          refine wp_ior (pc := 93) X dX8_waitsFrom_93 ?_
          refine wp_istore_n (pc := 94) (lo' := [some (.ref 139), some (.int (nI f)), some (.int a2), some (.int (a3 ||| (nI 0))), some (.int (nI k)), some (.int (M 140 198)), some (.int (M 140 (177 + f))), some (.int r3)]) X dX8_waitsFrom_94 rfl (Nat.le_of_ble_eq_true rfl) rfl rfl ?_
          refine wp_iload_n (pc := 95) X dX8_waitsFrom_95 rfl rfl ?_
          refine wp_invS (pc := 96) X sv_X8_105  rfl ⟨by decide, by decide⟩ (As := [.int (a3 ||| (nI 0))]) (st := []) rfl rfl (Nat.le_of_ble_eq_true rfl) dX8_waitsFrom_96 ?_
          refine CM.mono h (fun r8 M7 h => ?_)
          refine wp_aload_n (pc := 99) X dX8_waitsFrom_99 rfl rfl ?_
          refine wp_get (pc := 100) X fl_X8_7 A_139 (by decide) (fg_8_0 A_139) dX8_waitsFrom_100 ?_
          refine wp_iconst (pc := 103) (v := nI 0) X dX8_waitsFrom_103 (by decide) ?_
          refine wp_iload_n (pc := 104) X dX8_waitsFrom_104 rfl rfl ?_
          refine wn_iadd (pc := 105) X dX8_waitsFrom_105 ?_
          obtain ⟨hj9, h⟩ := h
          refine wn_iald (pc := 106) X A_140 hj9 (by decide) dX8_waitsFrom_106 ?_
          refine wp_icmp_lt (pc := 107) (tgt := 113) X dX8_waitsFrom_107 (by decide) (fun hc => ?_) (fun hc => ?_)
          · replace h := h.1 hc
            refine wn_iinc (pc := 113) (d := 1) (lo' := [some (.ref 139), some (.int (nI f)), some (.int a2), some (.int (a3 ||| (nI 0))), some (.int (nI (k + 1))), some (.int (M 140 198)), some (.int (M 140 (177 + f))), some (.int r3)]) X dX8_waitsFrom_113 rfl (by decide) rfl rfl ?_
            refine wp_goto (pc := 116) (tgt := 8) X dX8_waitsFrom_116 (by decide) ?_
            exact wp_drop (show subL _ [some (.ref 139), some (.int (nI f)), some (.int a2), some (.int (a3 ||| (nI 0))), some (.int (nI (k + 1))), none, none, none] from ⟨rfl, ⟨rfl, ⟨rfl, ⟨rfl, ⟨rfl, trivial⟩⟩⟩⟩⟩) h
          · replace h := h.2 hc
            refine wp_iload (pc := 110) X dX8_waitsFrom_110 rfl ?_
            exact wp_iret (pc := 112) X T dX8_waitsFrom_112 h
        · replace h := h.2 hc
          refine wp_iconst (pc := 85) (v := nI 1) X dX8_waitsFrom_85 (by decide) ?_
          refine wp_iload (pc := 86) X dX8_waitsFrom_86 rfl ?_
          refine wp_ishl (pc := 88) X dX8_waitsFrom_88 ?_
          refine wp_goto (pc := 89) (tgt := 93) X dX8_waitsFrom_89 (by decide) ?_
          refine wp_ior (pc := 93) X dX8_waitsFrom_93 ?_
          refine wp_istore_n (pc := 94) (lo' := [some (.ref 139), some (.int (nI f)), some (.int a2), some (.int (a3 ||| ((nI 1) <<< ((M 140 (177 + f)) &&& 31)))), some (.int (nI k)), some (.int (M 140 198)), some (.int (M 140 (177 + f))), some (.int r3)]) X dX8_waitsFrom_94 rfl (Nat.le_of_ble_eq_true rfl) rfl rfl ?_
          refine wp_iload_n (pc := 95) X dX8_waitsFrom_95 rfl rfl ?_
          refine wp_invS (pc := 96) X sv_X8_105  rfl ⟨by decide, by decide⟩ (As := [.int (a3 ||| ((nI 1) <<< ((M 140 (177 + f)) &&& 31)))]) (st := []) rfl rfl (Nat.le_of_ble_eq_true rfl) dX8_waitsFrom_96 ?_
          refine CM.mono h (fun r11 M10 h => ?_)
          refine wp_aload_n (pc := 99) X dX8_waitsFrom_99 rfl rfl ?_
          refine wp_get (pc := 100) X fl_X8_7 A_139 (by decide) (fg_8_0 A_139) dX8_waitsFrom_100 ?_
          refine wp_iconst (pc := 103) (v := nI 0) X dX8_waitsFrom_103 (by decide) ?_
          refine wp_iload_n (pc := 104) X dX8_waitsFrom_104 rfl rfl ?_
          refine wn_iadd (pc := 105) X dX8_waitsFrom_105 ?_
          obtain ⟨hj12, h⟩ := h
          refine wn_iald (pc := 106) X A_140 hj12 (by decide) dX8_waitsFrom_106 ?_
          refine wp_icmp_lt (pc := 107) (tgt := 113) X dX8_waitsFrom_107 (by decide) (fun hc => ?_) (fun hc => ?_)
          · replace h := h.1 hc
            refine wn_iinc (pc := 113) (d := 1) (lo' := [some (.ref 139), some (.int (nI f)), some (.int a2), some (.int (a3 ||| ((nI 1) <<< ((M 140 (177 + f)) &&& 31)))), some (.int (nI (k + 1))), some (.int (M 140 198)), some (.int (M 140 (177 + f))), some (.int r3)]) X dX8_waitsFrom_113 rfl (by decide) rfl rfl ?_
            refine wp_goto (pc := 116) (tgt := 8) X dX8_waitsFrom_116 (by decide) ?_
            exact wp_drop (show subL _ [some (.ref 139), some (.int (nI f)), some (.int a2), some (.int (a3 ||| ((nI 1) <<< ((M 140 (177 + f)) &&& 31)))), some (.int (nI (k + 1))), none, none, none] from ⟨rfl, ⟨rfl, ⟨rfl, ⟨rfl, ⟨rfl, trivial⟩⟩⟩⟩⟩) h
          · replace h := h.2 hc
            refine wp_iload (pc := 110) X dX8_waitsFrom_110 rfl ?_
            exact wp_iret (pc := 112) X T dX8_waitsFrom_112 h
    · replace h := h.2 hc
      refine wp_iload (pc := 54) X dX8_waitsFrom_54 rfl ?_
      refine wp_aload_n (pc := 56) X dX8_waitsFrom_56 rfl rfl ?_
      refine wp_get (pc := 57) X fl_X8_7 A_139 (by decide) (fg_8_0 A_139) dX8_waitsFrom_57 ?_
      refine wp_sipush (pc := 60) (v := nI 197) X dX8_waitsFrom_60 (by decide) ?_
      refine wn_iald (pc := 63) X A_140 (by decide) (by decide) dX8_waitsFrom_63 ?_
      refine wp_iadd (pc := 64) X dX8_waitsFrom_64 ?_
      refine wp_iconst (pc := 65) (v := nI 1) X dX8_waitsFrom_65 (by decide) ?_
      refine wp_isub (pc := 66) X dX8_waitsFrom_66 ?_
      refine wp_goto (pc := 67) (tgt := 71) X dX8_waitsFrom_67 (by decide) ?_
      refine wp_istore_n (pc := 71) (lo' := [some (.ref 139), some (.int (nI f)), some (.int (((M 140 198) + (M2 140 197)) - (nI 1))), some (.int a3), some (.int (nI k)), some (.int (M 140 198)), some (.int (M 140 (177 + f))), some (.int r3)]) X dX8_waitsFrom_71 rfl (Nat.le_of_ble_eq_true rfl) rfl rfl ?_
      refine wp_iload_n (pc := 72) X dX8_waitsFrom_72 rfl rfl ?_
      refine wp_iload (pc := 73) X dX8_waitsFrom_73 rfl ?_
      refine wp_iload_n (pc := 75) X dX8_waitsFrom_75 rfl rfl ?_
      refine wp_icmp_ne (pc := 76) (tgt := 92) X dX8_waitsFrom_76 (by decide) (fun hc => ?_) (fun hc => ?_)
      · replace h := h.1 hc
        refine wp_iconst (pc := 92) (v := nI 0) X dX8_waitsFrom_92 (by decide) ?_
        refine wp_ior (pc := 93) X dX8_waitsFrom_93 ?_
        refine wp_istore_n (pc := 94) (lo' := [some (.ref 139), some (.int (nI f)), some (.int (((M 140 198) + (M2 140 197)) - (nI 1))), some (.int (a3 ||| (nI 0))), some (.int (nI k)), some (.int (M 140 198)), some (.int (M 140 (177 + f))), some (.int r3)]) X dX8_waitsFrom_94 rfl (Nat.le_of_ble_eq_true rfl) rfl rfl ?_
        refine wp_iload_n (pc := 95) X dX8_waitsFrom_95 rfl rfl ?_
        refine wp_invS (pc := 96) X sv_X8_105  rfl ⟨by decide, by decide⟩ (As := [.int (a3 ||| (nI 0))]) (st := []) rfl rfl (Nat.le_of_ble_eq_true rfl) dX8_waitsFrom_96 ?_
        refine CM.mono h (fun r14 M13 h => ?_)
        refine wp_aload_n (pc := 99) X dX8_waitsFrom_99 rfl rfl ?_
        refine wp_get (pc := 100) X fl_X8_7 A_139 (by decide) (fg_8_0 A_139) dX8_waitsFrom_100 ?_
        refine wp_iconst (pc := 103) (v := nI 0) X dX8_waitsFrom_103 (by decide) ?_
        refine wp_iload_n (pc := 104) X dX8_waitsFrom_104 rfl rfl ?_
        refine wn_iadd (pc := 105) X dX8_waitsFrom_105 ?_
        obtain ⟨hj15, h⟩ := h
        refine wn_iald (pc := 106) X A_140 hj15 (by decide) dX8_waitsFrom_106 ?_
        refine wp_icmp_lt (pc := 107) (tgt := 113) X dX8_waitsFrom_107 (by decide) (fun hc => ?_) (fun hc => ?_)
        · replace h := h.1 hc
          refine wn_iinc (pc := 113) (d := 1) (lo' := [some (.ref 139), some (.int (nI f)), some (.int (((M 140 198) + (M2 140 197)) - (nI 1))), some (.int (a3 ||| (nI 0))), some (.int (nI (k + 1))), some (.int (M 140 198)), some (.int (M 140 (177 + f))), some (.int r3)]) X dX8_waitsFrom_113 rfl (by decide) rfl rfl ?_
          refine wp_goto (pc := 116) (tgt := 8) X dX8_waitsFrom_116 (by decide) ?_
          exact wp_drop (show subL _ [some (.ref 139), some (.int (nI f)), some (.int (((M 140 198) + (M2 140 197)) - (nI 1))), some (.int (a3 ||| (nI 0))), some (.int (nI (k + 1))), none, none, none] from ⟨rfl, ⟨rfl, ⟨rfl, ⟨rfl, ⟨rfl, trivial⟩⟩⟩⟩⟩) h
        · replace h := h.2 hc
          refine wp_iload (pc := 110) X dX8_waitsFrom_110 rfl ?_
          exact wp_iret (pc := 112) X T dX8_waitsFrom_112 h
      · replace h := h.2 hc
        refine wp_iload_n (pc := 79) X dX8_waitsFrom_79 rfl rfl ?_
        refine wp_iload (pc := 80) X dX8_waitsFrom_80 rfl ?_
        refine wp_icmp_lt (pc := 82) (tgt := 92) X dX8_waitsFrom_82 (by decide) (fun hc => ?_) (fun hc => ?_)
        · replace h := h.1 hc
          refine wp_iconst (pc := 92) (v := nI 0) X dX8_waitsFrom_92 (by decide) ?_
          refine wp_ior (pc := 93) X dX8_waitsFrom_93 ?_
          refine wp_istore_n (pc := 94) (lo' := [some (.ref 139), some (.int (nI f)), some (.int (((M 140 198) + (M2 140 197)) - (nI 1))), some (.int (a3 ||| (nI 0))), some (.int (nI k)), some (.int (M 140 198)), some (.int (M 140 (177 + f))), some (.int r3)]) X dX8_waitsFrom_94 rfl (Nat.le_of_ble_eq_true rfl) rfl rfl ?_
          refine wp_iload_n (pc := 95) X dX8_waitsFrom_95 rfl rfl ?_
          refine wp_invS (pc := 96) X sv_X8_105  rfl ⟨by decide, by decide⟩ (As := [.int (a3 ||| (nI 0))]) (st := []) rfl rfl (Nat.le_of_ble_eq_true rfl) dX8_waitsFrom_96 ?_
          refine CM.mono h (fun r17 M16 h => ?_)
          refine wp_aload_n (pc := 99) X dX8_waitsFrom_99 rfl rfl ?_
          refine wp_get (pc := 100) X fl_X8_7 A_139 (by decide) (fg_8_0 A_139) dX8_waitsFrom_100 ?_
          refine wp_iconst (pc := 103) (v := nI 0) X dX8_waitsFrom_103 (by decide) ?_
          refine wp_iload_n (pc := 104) X dX8_waitsFrom_104 rfl rfl ?_
          refine wn_iadd (pc := 105) X dX8_waitsFrom_105 ?_
          obtain ⟨hj18, h⟩ := h
          refine wn_iald (pc := 106) X A_140 hj18 (by decide) dX8_waitsFrom_106 ?_
          refine wp_icmp_lt (pc := 107) (tgt := 113) X dX8_waitsFrom_107 (by decide) (fun hc => ?_) (fun hc => ?_)
          · replace h := h.1 hc
            refine wn_iinc (pc := 113) (d := 1) (lo' := [some (.ref 139), some (.int (nI f)), some (.int (((M 140 198) + (M2 140 197)) - (nI 1))), some (.int (a3 ||| (nI 0))), some (.int (nI (k + 1))), some (.int (M 140 198)), some (.int (M 140 (177 + f))), some (.int r3)]) X dX8_waitsFrom_113 rfl (by decide) rfl rfl ?_
            refine wp_goto (pc := 116) (tgt := 8) X dX8_waitsFrom_116 (by decide) ?_
            exact wp_drop (show subL _ [some (.ref 139), some (.int (nI f)), some (.int (((M 140 198) + (M2 140 197)) - (nI 1))), some (.int (a3 ||| (nI 0))), some (.int (nI (k + 1))), none, none, none] from ⟨rfl, ⟨rfl, ⟨rfl, ⟨rfl, ⟨rfl, trivial⟩⟩⟩⟩⟩) h
          · replace h := h.2 hc
            refine wp_iload (pc := 110) X dX8_waitsFrom_110 rfl ?_
            exact wp_iret (pc := 112) X T dX8_waitsFrom_112 h
        · replace h := h.2 hc
          refine wp_iconst (pc := 85) (v := nI 1) X dX8_waitsFrom_85 (by decide) ?_
          refine wp_iload (pc := 86) X dX8_waitsFrom_86 rfl ?_
          refine wp_ishl (pc := 88) X dX8_waitsFrom_88 ?_
          refine wp_goto (pc := 89) (tgt := 93) X dX8_waitsFrom_89 (by decide) ?_
          refine wp_ior (pc := 93) X dX8_waitsFrom_93 ?_
          refine wp_istore_n (pc := 94) (lo' := [some (.ref 139), some (.int (nI f)), some (.int (((M 140 198) + (M2 140 197)) - (nI 1))), some (.int (a3 ||| ((nI 1) <<< ((M 140 (177 + f)) &&& 31)))), some (.int (nI k)), some (.int (M 140 198)), some (.int (M 140 (177 + f))), some (.int r3)]) X dX8_waitsFrom_94 rfl (Nat.le_of_ble_eq_true rfl) rfl rfl ?_
          refine wp_iload_n (pc := 95) X dX8_waitsFrom_95 rfl rfl ?_
          refine wp_invS (pc := 96) X sv_X8_105  rfl ⟨by decide, by decide⟩ (As := [.int (a3 ||| ((nI 1) <<< ((M 140 (177 + f)) &&& 31)))]) (st := []) rfl rfl (Nat.le_of_ble_eq_true rfl) dX8_waitsFrom_96 ?_
          refine CM.mono h (fun r20 M19 h => ?_)
          refine wp_aload_n (pc := 99) X dX8_waitsFrom_99 rfl rfl ?_
          refine wp_get (pc := 100) X fl_X8_7 A_139 (by decide) (fg_8_0 A_139) dX8_waitsFrom_100 ?_
          refine wp_iconst (pc := 103) (v := nI 0) X dX8_waitsFrom_103 (by decide) ?_
          refine wp_iload_n (pc := 104) X dX8_waitsFrom_104 rfl rfl ?_
          refine wn_iadd (pc := 105) X dX8_waitsFrom_105 ?_
          obtain ⟨hj21, h⟩ := h
          refine wn_iald (pc := 106) X A_140 hj21 (by decide) dX8_waitsFrom_106 ?_
          refine wp_icmp_lt (pc := 107) (tgt := 113) X dX8_waitsFrom_107 (by decide) (fun hc => ?_) (fun hc => ?_)
          · replace h := h.1 hc
            refine wn_iinc (pc := 113) (d := 1) (lo' := [some (.ref 139), some (.int (nI f)), some (.int (((M 140 198) + (M2 140 197)) - (nI 1))), some (.int (a3 ||| ((nI 1) <<< ((M 140 (177 + f)) &&& 31)))), some (.int (nI (k + 1))), some (.int (M 140 198)), some (.int (M 140 (177 + f))), some (.int r3)]) X dX8_waitsFrom_113 rfl (by decide) rfl rfl ?_
            refine wp_goto (pc := 116) (tgt := 8) X dX8_waitsFrom_116 (by decide) ?_
            exact wp_drop (show subL _ [some (.ref 139), some (.int (nI f)), some (.int (((M 140 198) + (M2 140 197)) - (nI 1))), some (.int (a3 ||| ((nI 1) <<< ((M 140 (177 + f)) &&& 31)))), some (.int (nI (k + 1))), none, none, none] from ⟨rfl, ⟨rfl, ⟨rfl, ⟨rfl, ⟨rfl, trivial⟩⟩⟩⟩⟩) h
          · replace h := h.2 hc
            refine wp_iload (pc := 110) X dX8_waitsFrom_110 rfl ?_
            exact wp_iret (pc := 112) X T dX8_waitsFrom_112 h
theorem r_X8_waitIs_0 {x : CT} {L : List Nat} {Q : Int32 → Mem → Prop} {M : Mem}  {f b : Nat} (X : BS x L cX8_waitIs 4 RX8 (m_X8_waitIs).2.2.2.2) (T : RT x L (some .int) Q) (A_139 : AC L 139 8 0) (A_140 : AC L 140 9 918)
    (h : CM m_X8_copies L [.ref 139, .int (nI 0), .int (nI 153)] M (fun _ M1 => WP x L 19 [some (.ref 139), some (.int (nI f)), some (.int (nI b)), some (.int (nI 0))] [] (MU M1 140 201 (nI 0)))) : WP x L 0 [some (.ref 139), some (.int (nI f)), some (.int (nI b)), none] [] M := by
  refine wp_aload_n (pc := 0) X dX8_waitIs_0 rfl rfl ?_
  refine wp_iconst (pc := 1) (v := nI 0) X dX8_waitIs_1 (by decide) ?_
  refine wp_sipush (pc := 2) (v := nI 153) X dX8_waitIs_2 (by decide) ?_
  refine wp_invVv (pc := 5) X sv_X8_92 A_139 (by decide) rfl ⟨by decide, by decide⟩ (As := [.int (nI 0), .int (nI 153)]) (st := []) rfl rfl (Nat.le_of_ble_eq_true rfl) dX8_waitIs_5 ?_
  refine CM.mono h (fun _ M1 h => ?_)
  refine wp_aload_n (pc := 8) X dX8_waitIs_8 rfl rfl ?_
  refine wp_get (pc := 9) X fl_X8_7 A_139 (by decide) (fg_8_0 A_139) dX8_waitIs_9 ?_
  refine wp_sipush (pc := 12) (v := nI 201) X dX8_waitIs_12 (by decide) ?_
  refine wp_iconst (pc := 15) (v := nI 0) X dX8_waitIs_15 (by decide) ?_
  refine wn_iast (pc := 16) X A_140 (by decide) (by decide) dX8_waitIs_16 ?_
  refine wp_iconst (pc := 17) (v := nI 0) X dX8_waitIs_17 (by decide) ?_
  refine wp_istore_n (pc := 18) (lo' := [some (.ref 139), some (.int (nI f)), some (.int (nI b)), some (.int (nI 0))]) X dX8_waitIs_18 rfl (Nat.le_of_ble_eq_true rfl) rfl rfl ?_
  exact h
theorem r_X8_waitIs_19 {x : CT} {L : List Nat} {Q : Int32 → Mem → Prop} {M : Mem}  {f b k : Nat} (X : BS x L cX8_waitIs 4 RX8 (m_X8_waitIs).2.2.2.2) (T : RT x L (some .int) Q) (A_139 : AC L 139 8 0)
    (h : k < 2 ^ 31 ∧ b < 2 ^ 31 ∧ (b ≤ k → CM m_X8_waitsFrom L [.ref 139, .int (nI f)] M (fun r2 M1 => Q r2 M1)) ∧ (k < b → CM m_X8_ticks L [.ref 139, .int (nI 153)] M (fun r4 M3 => WP x L 19 [some (.ref 139), some (.int (nI f)), some (.int (nI b)), some (.int (nI (k + 1)))] [] M3))) : WP x L 19 [some (.ref 139), some (.int (nI f)), some (.int (nI b)), some (.int (nI k))] [] M := by
  refine wp_iload_n (pc := 19) X dX8_waitIs_19 rfl rfl ?_
  refine wp_iload_n (pc := 20) X dX8_waitIs_20 rfl rfl ?_
  obtain ⟨hb5, hb6, h⟩ := h
  refine wn_icmp_ge (pc := 21) (tgt := 38) X dX8_waitIs_21 (by decide) hb5 hb6 (fun hc => ?_) (fun hc => ?_)
  · replace h := h.1 hc
    refine wp_aload_n (pc := 38) X dX8_waitIs_38 rfl rfl ?_
    refine wp_iload_n (pc := 39) X dX8_waitIs_39 rfl rfl ?_
    refine wp_invV (pc := 40) X sv_X8_130 A_139 (by decide) rfl ⟨by decide, by decide⟩ (As := [.int (nI f)]) (st := []) rfl rfl (Nat.le_of_ble_eq_true rfl) dX8_waitIs_40 ?_
    refine CM.mono h (fun r2 M1 h => ?_)
    exact wp_iret (pc := 43) X T dX8_waitIs_43 h
  · replace h := h.2 hc
    refine wp_aload_n (pc := 24) X dX8_waitIs_24 rfl rfl ?_
    refine wp_sipush (pc := 25) (v := nI 153) X dX8_waitIs_25 (by decide) ?_
    refine wp_invV (pc := 28) X sv_X8_98 A_139 (by decide) rfl ⟨by decide, by decide⟩ (As := [.int (nI 153)]) (st := []) rfl rfl (Nat.le_of_ble_eq_true rfl) dX8_waitIs_28 ?_
    refine CM.mono h (fun r4 M3 h => ?_)
    refine wp_pop (pc := 31) X dX8_waitIs_31 rfl ?_
    refine wn_iinc (pc := 32) (d := 1) (lo' := [some (.ref 139), some (.int (nI f)), some (.int (nI b)), some (.int (nI (k + 1)))]) X dX8_waitIs_32 rfl (by decide) rfl rfl ?_
    refine wp_goto (pc := 35) (tgt := 19) X dX8_waitIs_35 (by decide) ?_
    exact h
theorem r_X8_waits_0 {x : CT} {L : List Nat} {Q : Int32 → Mem → Prop} {M : Mem}  {a1 a2 : Int32} (X : BS x L cX8_waits 3 RX8 (m_X8_waits).2.2.2.2) (T : RT x L (some .int) Q) (A_139 : AC L 139 8 0)
    (h : CM m_X8_isFile L [.ref 139, .int a1] M (fun r2 M1 => (r2 = 0 → Q (-1) M1) ∧ (¬ r2 = 0 → CM m_X8_within L [.int a2, .int (nI 0), .int (nI 99)] M1 (fun r4 M3 => (r4 = 0 → Q (-1) M3) ∧ (¬ r4 = 0 → CM m_X8_waitIs L [.ref 139, .int a1, .int a2] M3 (fun r6 M5 => Q r6 M5)))))) : WP x L 0 [some (.ref 139), some (.int a1), some (.int a2)] [] M := by
  refine wp_aload_n (pc := 0) X dX8_waits_0 rfl rfl ?_
  refine wp_iload_n (pc := 1) X dX8_waits_1 rfl rfl ?_
  refine wp_invV (pc := 2) X sv_X8_101 A_139 (by decide) rfl ⟨by decide, by decide⟩ (As := [.int a1]) (st := []) rfl rfl (Nat.le_of_ble_eq_true rfl) dX8_waits_2 ?_
  refine CM.mono h (fun r2 M1 h => ?_)
  refine wp_if_eq (pc := 5) (tgt := 27) X dX8_waits_5 (by decide) (fun hc => ?_) (fun hc => ?_)
  · replace h := h.1 hc
    refine wp_iconst (pc := 27) (v := (-1)) X dX8_waits_27 (by decide) ?_
    exact wp_iret (pc := 28) X T dX8_waits_28 h
  · replace h := h.2 hc
    refine wp_iload_n (pc := 8) X dX8_waits_8 rfl rfl ?_
    refine wp_iconst (pc := 9) (v := nI 0) X dX8_waits_9 (by decide) ?_
    refine wp_bipush (pc := 10) (v := nI 99) X dX8_waits_10 (by decide) ?_
    refine wp_invS (pc := 12) X sv_X8_31  rfl ⟨by decide, by decide⟩ (As := [.int a2, .int (nI 0), .int (nI 99)]) (st := []) rfl rfl (Nat.le_of_ble_eq_true rfl) dX8_waits_12 ?_
    refine CM.mono h (fun r4 M3 h => ?_)
    refine wp_if_eq (pc := 15) (tgt := 27) X dX8_waits_15 (by decide) (fun hc => ?_) (fun hc => ?_)
    · replace h := h.1 hc
      refine wp_iconst (pc := 27) (v := (-1)) X dX8_waits_27 (by decide) ?_
      exact wp_iret (pc := 28) X T dX8_waits_28 h
    · replace h := h.2 hc
      refine wp_aload_n (pc := 18) X dX8_waits_18 rfl rfl ?_
      refine wp_iload_n (pc := 19) X dX8_waits_19 rfl rfl ?_
      refine wp_iload_n (pc := 20) X dX8_waits_20 rfl rfl ?_
      refine wp_invV (pc := 21) X sv_X8_133 A_139 (by decide) rfl ⟨by decide, by decide⟩ (As := [.int a1, .int a2]) (st := []) rfl rfl (Nat.le_of_ble_eq_true rfl) dX8_waits_21 ?_
      refine CM.mono h (fun r6 M5 h => ?_)
      refine wp_goto (pc := 24) (tgt := 28) X dX8_waits_24 (by decide) ?_
      exact wp_iret (pc := 28) X T dX8_waits_28 h
theorem r_X8_mean_0 {x : CT} {L : List Nat} {Q : Int32 → Mem → Prop} {M : Mem}  {a1 a2 a3 : Int32} (X : BS x L cX8_mean 8 RX8 (m_X8_mean).2.2.2.2) (T : RT x L (some .int) Q) (A_139 : AC L 139 8 0)
    (h : CM m_X8_isFile L [.ref 139, .int a1] M (fun r2 M1 => (r2 = 0 → Q (-1) M1) ∧ (¬ r2 = 0 → CM m_X8_within L [.int a2, .int (nI 1), .int (nI 40)] M1 (fun r4 M3 => (r4 = 0 → Q (-1) M3) ∧ (¬ r4 = 0 → CM m_X8_within L [.int a3, .int (nI 0), .int (nI 2)] M3 (fun r6 M5 => (¬ r6 = 0 → WP x L 38 [some (.ref 139), some (.int a1), some (.int a2), some (.int a3), some (.int (nI 0)), some (.int (nI 0)), some (.int (nI 0)), none] [] M5) ∧ (r6 = 0 → Q (-1) M5))))))) : WP x L 0 [some (.ref 139), some (.int a1), some (.int a2), some (.int a3), none, none, none, none] [] M := by
  refine wp_aload_n (pc := 0) X dX8_mean_0 rfl rfl ?_
  refine wp_iload_n (pc := 1) X dX8_mean_1 rfl rfl ?_
  refine wp_invV (pc := 2) X sv_X8_101 A_139 (by decide) rfl ⟨by decide, by decide⟩ (As := [.int a1]) (st := []) rfl rfl (Nat.le_of_ble_eq_true rfl) dX8_mean_2 ?_
  refine CM.mono h (fun r2 M1 h => ?_)
  refine wp_if_eq (pc := 5) (tgt := 27) X dX8_mean_5 (by decide) (fun hc => ?_) (fun hc => ?_)
  · replace h := h.1 hc
    refine wp_iconst (pc := 27) (v := (-1)) X dX8_mean_27 (by decide) ?_
    exact wp_iret (pc := 28) X T dX8_mean_28 h
  · replace h := h.2 hc
    refine wp_iload_n (pc := 8) X dX8_mean_8 rfl rfl ?_
    refine wp_iconst (pc := 9) (v := nI 1) X dX8_mean_9 (by decide) ?_
    refine wp_bipush (pc := 10) (v := nI 40) X dX8_mean_10 (by decide) ?_
    refine wp_invS (pc := 12) X sv_X8_31  rfl ⟨by decide, by decide⟩ (As := [.int a2, .int (nI 1), .int (nI 40)]) (st := []) rfl rfl (Nat.le_of_ble_eq_true rfl) dX8_mean_12 ?_
    refine CM.mono h (fun r4 M3 h => ?_)
    refine wp_if_eq (pc := 15) (tgt := 27) X dX8_mean_15 (by decide) (fun hc => ?_) (fun hc => ?_)
    · replace h := h.1 hc
      refine wp_iconst (pc := 27) (v := (-1)) X dX8_mean_27 (by decide) ?_
      exact wp_iret (pc := 28) X T dX8_mean_28 h
    · replace h := h.2 hc
      refine wp_iload_n (pc := 18) X dX8_mean_18 rfl rfl ?_
      refine wp_iconst (pc := 19) (v := nI 0) X dX8_mean_19 (by decide) ?_
      refine wp_iconst (pc := 20) (v := nI 2) X dX8_mean_20 (by decide) ?_
      refine wp_invS (pc := 21) X sv_X8_31  rfl ⟨by decide, by decide⟩ (As := [.int a3, .int (nI 0), .int (nI 2)]) (st := []) rfl rfl (Nat.le_of_ble_eq_true rfl) dX8_mean_21 ?_
      refine CM.mono h (fun r6 M5 h => ?_)
      refine wp_if_ne (pc := 24) (tgt := 29) X dX8_mean_24 (by decide) (fun hc => ?_) (fun hc => ?_)
      · replace h := h.1 hc
        refine wp_iconst (pc := 29) (v := nI 0) X dX8_mean_29 (by decide) ?_
        refine wp_istore (pc := 30) (lo' := [some (.ref 139), some (.int a1), some (.int a2), some (.int a3), some (.int (nI 0)), none, none, none]) X dX8_mean_30 (Nat.le_of_ble_eq_true rfl) rfl rfl ?_
        refine wp_iconst (pc := 32) (v := nI 0) X dX8_mean_32 (by decide) ?_
        refine wp_istore (pc := 33) (lo' := [some (.ref 139), some (.int a1), some (.int a2), some (.int a3), some (.int (nI 0)), some (.int (nI 0)), none, none]) X dX8_mean_33 (Nat.le_of_ble_eq_true rfl) rfl rfl ?_
        refine wp_iconst (pc := 35) (v := nI 0) X dX8_mean_35 (by decide) ?_
        refine wp_istore (pc := 36) (lo' := [some (.ref 139), some (.int a1), some (.int a2), some (.int a3), some (.int (nI 0)), some (.int (nI 0)), some (.int (nI 0)), none]) X dX8_mean_36 (Nat.le_of_ble_eq_true rfl) rfl rfl ?_
        exact h
      · replace h := h.2 hc
        refine wp_iconst (pc := 27) (v := (-1)) X dX8_mean_27 (by decide) ?_
        exact wp_iret (pc := 28) X T dX8_mean_28 h
theorem r_X8_mean_38 {x : CT} {L : List Nat} {Q : Int32 → Mem → Prop} {M : Mem}  {f n k : Nat} {a3 a4 a5 : Int32} (X : BS x L cX8_mean 8 RX8 (m_X8_mean).2.2.2.2) (T : RT x L (some .int) Q) (A_139 : AC L 139 8 0)
    (h : k < 2 ^ 31 ∧ n < 2 ^ 31 ∧ (n ≤ k → vf_n32 (FP.fdiv (FP.i2f a4) (FP.i2f (nI n))) ∧ (¬ a3 = 0 → (¬ a3 = (nI 1) → Q a5 M) ∧ (a3 = (nI 1) → Q (FP.f2i (FP.fdiv (FP.i2f a4) (FP.i2f (nI n)))) M)) ∧ (a3 = 0 → CM m_Jxf58ca_floatToIntBits_5c35a L [.float (FP.fdiv (FP.i2f a4) (FP.i2f (nI n)))] M (fun r3 M2 => Q r3 M2))) ∧ (k < n → CM m_X8_waitIs L [.ref 139, .int (nI f), .int (nI k)] M (fun r5 M4 => (¬ r5 = (-4) → (r5 ≤ a5 → WP x L 38 [some (.ref 139), some (.int (nI f)), some (.int (nI n)), some (.int a3), some (.int (a4 + r5)), some (.int a5), some (.int (nI (k + 1))), none] [] M4) ∧ (¬ r5 ≤ a5 → WP x L 38 [some (.ref 139), some (.int (nI f)), some (.int (nI n)), some (.int a3), some (.int (a4 + r5)), some (.int r5), some (.int (nI (k + 1))), none] [] M4)) ∧ (r5 = (-4) → Q (-4) M4)))) : WP x L 38 [some (.ref 139), some (.int (nI f)), some (.int (nI n)), some (.int a3), some (.int a4), some (.int a5), some (.int (nI k)), none] [] M := by
  refine wp_iload (pc := 38) X dX8_mean_38 rfl ?_
  refine wp_iload_n (pc := 40) X dX8_mean_40 rfl rfl ?_
  obtain ⟨hb6, hb7, h⟩ := h
  refine wn_icmp_ge (pc := 41) (tgt := 92) X dX8_mean_41 (by decide) hb6 hb7 (fun hc => ?_) (fun hc => ?_)
  · replace h := h.1 hc
    refine wp_iload (pc := 92) X dX8_mean_92 rfl ?_
    refine wp_i2f (pc := 94) X dX8_mean_94 ?_
    refine wp_iload_n (pc := 95) X dX8_mean_95 rfl rfl ?_
    refine wp_i2f (pc := 96) X dX8_mean_96 ?_
    obtain ⟨hf1, h⟩ := h
    refine wp_fdiv (pc := 97) X dX8_mean_97 hf1 ?_
    refine wp_fstore (pc := 98) (lo' := [some (.ref 139), some (.int (nI f)), some (.int (nI n)), some (.int a3), some (.int a4), some (.int a5), some (.float (FP.fdiv (FP.i2f a4) (FP.i2f (nI n)))), none]) X dX8_mean_98 (Nat.le_of_ble_eq_true rfl) rfl rfl ?_
    refine wp_iload_n (pc := 100) X dX8_mean_100 rfl rfl ?_
    refine wp_if_ne (pc := 101) (tgt := 112) X dX8_mean_101 (by decide) (fun hc => ?_) (fun hc => ?_)
    · replace h := h.1 hc
      refine wp_iload_n (pc := 112) X dX8_mean_112 rfl rfl ?_
      refine wp_iconst (pc := 113) (v := nI 1) X dX8_mean_113 (by decide) ?_
      refine wp_icmp_ne (pc := 114) (tgt := 123) X dX8_mean_114 (by decide) (fun hc => ?_) (fun hc => ?_)
      · replace h := h.1 hc
        refine wp_iload (pc := 123) X dX8_mean_123 rfl ?_
        exact wp_iret (pc := 125) X T dX8_mean_125 h
      · replace h := h.2 hc
        refine wp_fload (pc := 117) X dX8_mean_117 rfl ?_
        refine wp_f2i (pc := 119) X dX8_mean_119 ?_
        refine wp_goto (pc := 120) (tgt := 125) X dX8_mean_120 (by decide) ?_
        exact wp_iret (pc := 125) X T dX8_mean_125 h
    · replace h := h.2 hc
      refine wp_fload (pc := 104) X dX8_mean_104 rfl ?_
      refine wp_invS (pc := 106) X sv_X8_118  rfl ⟨by decide, by decide⟩ (As := [.float (FP.fdiv (FP.i2f a4) (FP.i2f (nI n)))]) (st := []) rfl rfl (Nat.le_of_ble_eq_true rfl) dX8_mean_106 ?_
      refine CM.mono h (fun r3 M2 h => ?_)
      refine wp_goto (pc := 109) (tgt := 125) X dX8_mean_109 (by decide) ?_
      exact wp_iret (pc := 125) X T dX8_mean_125 h
  · replace h := h.2 hc
    refine wp_aload_n (pc := 44) X dX8_mean_44 rfl rfl ?_
    refine wp_iload_n (pc := 45) X dX8_mean_45 rfl rfl ?_
    refine wp_iload (pc := 46) X dX8_mean_46 rfl ?_
    refine wp_invV (pc := 48) X sv_X8_133 A_139 (by decide) rfl ⟨by decide, by decide⟩ (As := [.int (nI f), .int (nI k)]) (st := []) rfl rfl (Nat.le_of_ble_eq_true rfl) dX8_mean_48 ?_
    refine CM.mono h (fun r5 M4 h => ?_)
    refine wp_istore (pc := 51) (lo' := [some (.ref 139), some (.int (nI f)), some (.int (nI n)), some (.int a3), some (.int a4), some (.int a5), some (.int (nI k)), some (.int r5)]) X dX8_mean_51 (Nat.le_of_ble_eq_true rfl) rfl rfl ?_
    refine wp_iload (pc := 53) X dX8_mean_53 rfl ?_
    refine wp_bipush (pc := 55) (v := (-4)) X dX8_mean_55 (by decide) ?_
    refine wp_icmp_ne (pc := 57) (tgt := 63) X dX8_mean_57 (by decide) (fun hc => ?_) (fun hc => ?_)
    · replace h := h.1 hc
      refine wp_iload (pc := 63) X dX8_mean_63 rfl ?_
      refine wp_iload (pc := 65) X dX8_mean_65 rfl ?_
      refine wp_iadd (pc := 67) X dX8_mean_67 ?_
      refine wp_istore (pc := 68) (lo' := [some (.ref 139), some (.int (nI f)), some (.int (nI n)), some (.int a3), some (.int (a4 + r5)), some (.int a5), some (.int (nI k)), some (.int r5)]) X dX8_mean_68 (Nat.le_of_ble_eq_true rfl) rfl rfl ?_
      refine wp_iload (pc := 70) X dX8_mean_70 rfl ?_
      refine wp_iload (pc := 72) X dX8_mean_72 rfl ?_
      refine wp_icmp_le (pc := 74) (tgt := 82) X dX8_mean_74 (by decide) (fun hc => ?_) (fun hc => ?_)
      · replace h := h.1 hc
        refine wp_iload (pc := 82) X dX8_mean_82 rfl ?_
        refine wp_istore (pc := 84) (lo' := [some (.ref 139), some (.int (nI f)), some (.int (nI n)), some (.int a3), some (.int (a4 + r5)), some (.int a5), some (.int (nI k)), some (.int r5)]) X dX8_mean_84 (Nat.le_of_ble_eq_true rfl) rfl rfl ?_
        refine wn_iinc (pc := 86) (d := 1) (lo' := [some (.ref 139), some (.int (nI f)), some (.int (nI n)), some (.int a3), some (.int (a4 + r5)), some (.int a5), some (.int (nI (k + 1))), some (.int r5)]) X dX8_mean_86 rfl (by decide) rfl rfl ?_
        refine wp_goto (pc := 89) (tgt := 38) X dX8_mean_89 (by decide) ?_
        exact wp_drop (show subL _ [some (.ref 139), some (.int (nI f)), some (.int (nI n)), some (.int a3), some (.int (a4 + r5)), some (.int a5), some (.int (nI (k + 1))), none] from ⟨rfl, ⟨rfl, ⟨rfl, ⟨rfl, ⟨rfl, ⟨rfl, ⟨rfl, trivial⟩⟩⟩⟩⟩⟩⟩) h
      · replace h := h.2 hc
        refine wp_iload (pc := 77) X dX8_mean_77 rfl ?_
        refine wp_goto (pc := 79) (tgt := 84) X dX8_mean_79 (by decide) ?_
        refine wp_istore (pc := 84) (lo' := [some (.ref 139), some (.int (nI f)), some (.int (nI n)), some (.int a3), some (.int (a4 + r5)), some (.int r5), some (.int (nI k)), some (.int r5)]) X dX8_mean_84 (Nat.le_of_ble_eq_true rfl) rfl rfl ?_
        refine wn_iinc (pc := 86) (d := 1) (lo' := [some (.ref 139), some (.int (nI f)), some (.int (nI n)), some (.int a3), some (.int (a4 + r5)), some (.int r5), some (.int (nI (k + 1))), some (.int r5)]) X dX8_mean_86 rfl (by decide) rfl rfl ?_
        refine wp_goto (pc := 89) (tgt := 38) X dX8_mean_89 (by decide) ?_
        exact wp_drop (show subL _ [some (.ref 139), some (.int (nI f)), some (.int (nI n)), some (.int a3), some (.int (a4 + r5)), some (.int r5), some (.int (nI (k + 1))), none] from ⟨rfl, ⟨rfl, ⟨rfl, ⟨rfl, ⟨rfl, ⟨rfl, ⟨rfl, trivial⟩⟩⟩⟩⟩⟩⟩) h
    · replace h := h.2 hc
      refine wp_bipush (pc := 60) (v := (-4)) X dX8_mean_60 (by decide) ?_
      exact wp_iret (pc := 62) X T dX8_mean_62 h
theorem r_X8_count_0 {x : CT} {L : List Nat} {Q : Int32 → Mem → Prop} {M : Mem}  {a1 : Int32} (X : BS x L cX8_count 2 RX8 (m_X8_count).2.2.2.2) (T : RT x L (some .int) Q) (A_139 : AC L 139 8 0) (A_140 : AC L 140 9 918)
    (h : (a1 = nI 0 → Q (M 140 42) M) ∧ (a1 = nI 1 → Q (M 140 45) M) ∧ (a1 = nI 2 → Q (M 140 43) M) ∧ (a1 = nI 3 → Q (M 140 44) M) ∧ (a1 = nI 4 → Q (M 140 48) M) ∧ (a1 = nI 5 → Q (M 140 46) M) ∧ (a1 = nI 6 → Q (M 140 47) M) ∧ (a1 = nI 7 → Q ((((((M 140 12) + (M 140 13)) + (M 140 14)) + (M 140 15)) + (M 140 16)) + (M 140 17)) M) ∧ (a1 = nI 8 → ∃ v3 : Nat, M 139 1 = nI v3 ∧ Q (nI v3) M) ∧ (a1 = nI 9 → ∃ v7 : Nat, M 139 3 = nI v7 ∧ Q (nI v7) M) ∧ ((∀ j, j < 10 → ¬ a1 = nI j) → Q (-1) M)) : WP x L 0 [some (.ref 139), some (.int a1)] [] M := by
  refine wp_iload_n (pc := 0) X dX8_count_0 rfl rfl ?_
  by_cases e1_0 : a1 = nI 0
  · replace h := h.1 e1_0
    refine wp_tabIn (pc := 1) (off := 55) (tgt := 56) X dX8_count_1 (by rw [e1_0]; decide) (by rw [e1_0]; decide) (by rw [e1_0]; rfl) (by decide) ?_
    refine wp_aload_n (pc := 56) X dX8_count_56 rfl rfl ?_
    refine wp_get (pc := 57) X fl_X8_7 A_139 (by decide) (fg_8_0 A_139) dX8_count_57 ?_
    refine wp_bipush (pc := 60) (v := nI 42) X dX8_count_60 (by decide) ?_
    refine wn_iald (pc := 62) X A_140 (by decide) (by decide) dX8_count_62 ?_
    exact wp_iret (pc := 63) X T dX8_count_63 h
  by_cases e1_1 : a1 = nI 1
  · replace h := h.2.1 e1_1
    refine wp_tabIn (pc := 1) (off := 63) (tgt := 64) X dX8_count_1 (by rw [e1_1]; decide) (by rw [e1_1]; decide) (by rw [e1_1]; rfl) (by decide) ?_
    refine wp_aload_n (pc := 64) X dX8_count_64 rfl rfl ?_
    refine wp_get (pc := 65) X fl_X8_7 A_139 (by decide) (fg_8_0 A_139) dX8_count_65 ?_
    refine wp_bipush (pc := 68) (v := nI 45) X dX8_count_68 (by decide) ?_
    refine wn_iald (pc := 70) X A_140 (by decide) (by decide) dX8_count_70 ?_
    exact wp_iret (pc := 71) X T dX8_count_71 h
  by_cases e1_2 : a1 = nI 2
  · replace h := h.2.2.1 e1_2
    refine wp_tabIn (pc := 1) (off := 71) (tgt := 72) X dX8_count_1 (by rw [e1_2]; decide) (by rw [e1_2]; decide) (by rw [e1_2]; rfl) (by decide) ?_
    refine wp_aload_n (pc := 72) X dX8_count_72 rfl rfl ?_
    refine wp_get (pc := 73) X fl_X8_7 A_139 (by decide) (fg_8_0 A_139) dX8_count_73 ?_
    refine wp_bipush (pc := 76) (v := nI 43) X dX8_count_76 (by decide) ?_
    refine wn_iald (pc := 78) X A_140 (by decide) (by decide) dX8_count_78 ?_
    exact wp_iret (pc := 79) X T dX8_count_79 h
  by_cases e1_3 : a1 = nI 3
  · replace h := h.2.2.2.1 e1_3
    refine wp_tabIn (pc := 1) (off := 79) (tgt := 80) X dX8_count_1 (by rw [e1_3]; decide) (by rw [e1_3]; decide) (by rw [e1_3]; rfl) (by decide) ?_
    refine wp_aload_n (pc := 80) X dX8_count_80 rfl rfl ?_
    refine wp_get (pc := 81) X fl_X8_7 A_139 (by decide) (fg_8_0 A_139) dX8_count_81 ?_
    refine wp_bipush (pc := 84) (v := nI 44) X dX8_count_84 (by decide) ?_
    refine wn_iald (pc := 86) X A_140 (by decide) (by decide) dX8_count_86 ?_
    exact wp_iret (pc := 87) X T dX8_count_87 h
  by_cases e1_4 : a1 = nI 4
  · replace h := h.2.2.2.2.1 e1_4
    refine wp_tabIn (pc := 1) (off := 87) (tgt := 88) X dX8_count_1 (by rw [e1_4]; decide) (by rw [e1_4]; decide) (by rw [e1_4]; rfl) (by decide) ?_
    refine wp_aload_n (pc := 88) X dX8_count_88 rfl rfl ?_
    refine wp_get (pc := 89) X fl_X8_7 A_139 (by decide) (fg_8_0 A_139) dX8_count_89 ?_
    refine wp_bipush (pc := 92) (v := nI 48) X dX8_count_92 (by decide) ?_
    refine wn_iald (pc := 94) X A_140 (by decide) (by decide) dX8_count_94 ?_
    exact wp_iret (pc := 95) X T dX8_count_95 h
  by_cases e1_5 : a1 = nI 5
  · replace h := h.2.2.2.2.2.1 e1_5
    refine wp_tabIn (pc := 1) (off := 95) (tgt := 96) X dX8_count_1 (by rw [e1_5]; decide) (by rw [e1_5]; decide) (by rw [e1_5]; rfl) (by decide) ?_
    refine wp_aload_n (pc := 96) X dX8_count_96 rfl rfl ?_
    refine wp_get (pc := 97) X fl_X8_7 A_139 (by decide) (fg_8_0 A_139) dX8_count_97 ?_
    refine wp_bipush (pc := 100) (v := nI 46) X dX8_count_100 (by decide) ?_
    refine wn_iald (pc := 102) X A_140 (by decide) (by decide) dX8_count_102 ?_
    exact wp_iret (pc := 103) X T dX8_count_103 h
  by_cases e1_6 : a1 = nI 6
  · replace h := h.2.2.2.2.2.2.1 e1_6
    refine wp_tabIn (pc := 1) (off := 103) (tgt := 104) X dX8_count_1 (by rw [e1_6]; decide) (by rw [e1_6]; decide) (by rw [e1_6]; rfl) (by decide) ?_
    refine wp_aload_n (pc := 104) X dX8_count_104 rfl rfl ?_
    refine wp_get (pc := 105) X fl_X8_7 A_139 (by decide) (fg_8_0 A_139) dX8_count_105 ?_
    refine wp_bipush (pc := 108) (v := nI 47) X dX8_count_108 (by decide) ?_
    refine wn_iald (pc := 110) X A_140 (by decide) (by decide) dX8_count_110 ?_
    exact wp_iret (pc := 111) X T dX8_count_111 h
  by_cases e1_7 : a1 = nI 7
  · replace h := h.2.2.2.2.2.2.2.1 e1_7
    refine wp_tabIn (pc := 1) (off := 111) (tgt := 112) X dX8_count_1 (by rw [e1_7]; decide) (by rw [e1_7]; decide) (by rw [e1_7]; rfl) (by decide) ?_
    refine wp_aload_n (pc := 112) X dX8_count_112 rfl rfl ?_
    refine wp_get (pc := 113) X fl_X8_7 A_139 (by decide) (fg_8_0 A_139) dX8_count_113 ?_
    refine wp_bipush (pc := 116) (v := nI 12) X dX8_count_116 (by decide) ?_
    refine wn_iald (pc := 118) X A_140 (by decide) (by decide) dX8_count_118 ?_
    refine wp_aload_n (pc := 119) X dX8_count_119 rfl rfl ?_
    refine wp_get (pc := 120) X fl_X8_7 A_139 (by decide) (fg_8_0 A_139) dX8_count_120 ?_
    refine wp_bipush (pc := 123) (v := nI 13) X dX8_count_123 (by decide) ?_
    refine wn_iald (pc := 125) X A_140 (by decide) (by decide) dX8_count_125 ?_
    refine wp_iadd (pc := 126) X dX8_count_126 ?_
    refine wp_aload_n (pc := 127) X dX8_count_127 rfl rfl ?_
    refine wp_get (pc := 128) X fl_X8_7 A_139 (by decide) (fg_8_0 A_139) dX8_count_128 ?_
    refine wp_bipush (pc := 131) (v := nI 14) X dX8_count_131 (by decide) ?_
    refine wn_iald (pc := 133) X A_140 (by decide) (by decide) dX8_count_133 ?_
    refine wp_iadd (pc := 134) X dX8_count_134 ?_
    refine wp_aload_n (pc := 135) X dX8_count_135 rfl rfl ?_
    refine wp_get (pc := 136) X fl_X8_7 A_139 (by decide) (fg_8_0 A_139) dX8_count_136 ?_
    refine wp_bipush (pc := 139) (v := nI 15) X dX8_count_139 (by decide) ?_
    refine wn_iald (pc := 141) X A_140 (by decide) (by decide) dX8_count_141 ?_
    refine wp_iadd (pc := 142) X dX8_count_142 ?_
    refine wp_aload_n (pc := 143) X dX8_count_143 rfl rfl ?_
    refine wp_get (pc := 144) X fl_X8_7 A_139 (by decide) (fg_8_0 A_139) dX8_count_144 ?_
    refine wp_bipush (pc := 147) (v := nI 16) X dX8_count_147 (by decide) ?_
    refine wn_iald (pc := 149) X A_140 (by decide) (by decide) dX8_count_149 ?_
    refine wp_iadd (pc := 150) X dX8_count_150 ?_
    refine wp_aload_n (pc := 151) X dX8_count_151 rfl rfl ?_
    refine wp_get (pc := 152) X fl_X8_7 A_139 (by decide) (fg_8_0 A_139) dX8_count_152 ?_
    refine wp_bipush (pc := 155) (v := nI 17) X dX8_count_155 (by decide) ?_
    refine wn_iald (pc := 157) X A_140 (by decide) (by decide) dX8_count_157 ?_
    refine wp_iadd (pc := 158) X dX8_count_158 ?_
    exact wp_iret (pc := 159) X T dX8_count_159 h
  by_cases e1_8 : a1 = nI 8
  · replace h := h.2.2.2.2.2.2.2.2.1 e1_8
    refine wp_tabIn (pc := 1) (off := 159) (tgt := 160) X dX8_count_1 (by rw [e1_8]; decide) (by rw [e1_8]; decide) (by rw [e1_8]; rfl) (by decide) ?_
    refine wp_aload_n (pc := 160) X dX8_count_160 rfl rfl ?_
    obtain ⟨v3, he4, h⟩ := h
    refine we_get (pc := 161) X fl_X8_27 A_139 (by decide) (fg_8_1 A_139) he4 dX8_count_161 ?_
    exact wp_iret (pc := 164) X T dX8_count_164 h
  by_cases e1_9 : a1 = nI 9
  · replace h := h.2.2.2.2.2.2.2.2.2.1 e1_9
    refine wp_tabIn (pc := 1) (off := 164) (tgt := 165) X dX8_count_1 (by rw [e1_9]; decide) (by rw [e1_9]; decide) (by rw [e1_9]; rfl) (by decide) ?_
    refine wp_aload_n (pc := 165) X dX8_count_165 rfl rfl ?_
    obtain ⟨v7, he8, h⟩ := h
    refine we_get (pc := 166) X fl_X8_35 A_139 (by decide) (fg_8_3 A_139) he8 dX8_count_166 ?_
    exact wp_iret (pc := 169) X T dX8_count_169 h
  have hall : ∀ j, j < 10 → ¬ a1 = nI j := by
    intro j hj
    rcases (show j = 0 ∨ j = 1 ∨ j = 2 ∨ j = 3 ∨ j = 4 ∨ j = 5 ∨ j = 6 ∨ j = 7 ∨ j = 8 ∨ j = 9 by omega) with rfl | rfl | rfl | rfl | rfl | rfl | rfl | rfl | rfl | rfl
    all_goals assumption
  replace h := h.2.2.2.2.2.2.2.2.2.2 hall
  refine wp_tabOut (pc := 1) (tgt := 170) X dX8_count_1 (sw_out hall (by decide) rfl) (by decide) ?_
  refine wp_iconst (pc := 170) (v := (-1)) X dX8_count_170 (by decide) ?_
  exact wp_iret (pc := 171) X T dX8_count_171 h
