theorem r_X8_within_0 {x : CT} {L : List Nat} {Q : Int32 → Mem → Prop} {M : Mem}  {a0 a1 a2 : Int32} (X : BS x L cX8_within 3 RX8 (m_X8_within).2.2.2.2) (T : RT x L (some .boolean) Q) 
    (h : (a0 < a1 → Q (nI 0) M) ∧ (¬ a0 < a1 → (a2 < a0 → Q (nI 0) M) ∧ (¬ a2 < a0 → Q (nI 1) M))) : WP x L 0 [some (.int a0), some (.int a1), some (.int a2)] [] M := by
  refine wp_iload_n (pc := 0) X dX8_within_0 rfl rfl ?_
  refine wp_iload_n (pc := 1) X dX8_within_1 rfl rfl ?_
  refine wp_icmp_lt (pc := 2) (tgt := 14) X dX8_within_2 (by decide) (fun hc => ?_) (fun hc => ?_)
  · replace h := h.1 hc
    refine wp_iconst (pc := 14) (v := nI 0) X dX8_within_14 (by decide) ?_
    exact wp_zret (pc := 15) X T (by decide) dX8_within_15 h
  · replace h := h.2 hc
    refine wp_iload_n (pc := 5) X dX8_within_5 rfl rfl ?_
    refine wp_iload_n (pc := 6) X dX8_within_6 rfl rfl ?_
    refine wp_icmp_gt (pc := 7) (tgt := 14) X dX8_within_7 (by decide) (fun hc => ?_) (fun hc => ?_)
    · replace h := h.1 hc
      refine wp_iconst (pc := 14) (v := nI 0) X dX8_within_14 (by decide) ?_
      exact wp_zret (pc := 15) X T (by decide) dX8_within_15 h
    · replace h := h.2 hc
      refine wp_iconst (pc := 10) (v := nI 1) X dX8_within_10 (by decide) ?_
      refine wp_goto (pc := 11) (tgt := 15) X dX8_within_11 (by decide) ?_
      exact wp_zret (pc := 15) X T (by decide) dX8_within_15 h
theorem r_X8_ones_0 {x : CT} {L : List Nat} {Q : Int32 → Mem → Prop} {M : Mem}  {a0 : Int32} (X : BS x L cX8_ones 3 RX8 (m_X8_ones).2.2.2.2) (T : RT x L (some .int) Q) 
    (h : WP x L 4 [some (.int a0), some (.int (nI 0)), some (.int (nI 0))] [] M) : WP x L 0 [some (.int a0), none, none] [] M := by
  refine wp_iconst (pc := 0) (v := nI 0) X dX8_ones_0 (by decide) ?_
  refine wp_istore_n (pc := 1) (lo' := [some (.int a0), some (.int (nI 0)), none]) X dX8_ones_1 rfl (Nat.le_of_ble_eq_true rfl) rfl rfl ?_
  refine wp_iconst (pc := 2) (v := nI 0) X dX8_ones_2 (by decide) ?_
  refine wp_istore_n (pc := 3) (lo' := [some (.int a0), some (.int (nI 0)), some (.int (nI 0))]) X dX8_ones_3 rfl (Nat.le_of_ble_eq_true rfl) rfl rfl ?_
  exact h
theorem r_X8_ones_4 {x : CT} {L : List Nat} {Q : Int32 → Mem → Prop} {M : Mem}  {a0 a1 : Int32} {k : Nat} (X : BS x L cX8_ones 3 RX8 (m_X8_ones).2.2.2.2) (T : RT x L (some .int) Q) 
    (h : k < 2 ^ 31 ∧ (18 ≤ k → Q a1 M) ∧ (k < 18 → WP x L 4 [some (.int a0), some (.int (a1 + ((a0 >>> ((nI k) &&& 31)) &&& (nI 1)))), some (.int (nI (k + 1)))] [] M)) : WP x L 4 [some (.int a0), some (.int a1), some (.int (nI k))] [] M := by
  refine wp_iload_n (pc := 4) X dX8_ones_4 rfl rfl ?_
  refine wp_bipush (pc := 5) (v := nI 18) X dX8_ones_5 (by decide) ?_
  obtain ⟨hb1, h⟩ := h
  refine wn_icmp_ge (pc := 7) (tgt := 24) X dX8_ones_7 (by decide) hb1 (by decide) (fun hc => ?_) (fun hc => ?_)
  · replace h := h.1 hc
    refine wp_iload_n (pc := 24) X dX8_ones_24 rfl rfl ?_
    exact wp_iret (pc := 25) X T dX8_ones_25 h
  · replace h := h.2 hc
    refine wp_iload_n (pc := 10) X dX8_ones_10 rfl rfl ?_
    refine wp_iload_n (pc := 11) X dX8_ones_11 rfl rfl ?_
    refine wp_iload_n (pc := 12) X dX8_ones_12 rfl rfl ?_
    refine wp_ishr (pc := 13) X dX8_ones_13 ?_
    refine wp_iconst (pc := 14) (v := nI 1) X dX8_ones_14 (by decide) ?_
    refine wp_iand (pc := 15) X dX8_ones_15 ?_
    refine wp_iadd (pc := 16) X dX8_ones_16 ?_
    refine wp_istore_n (pc := 17) (lo' := [some (.int a0), some (.int (a1 + ((a0 >>> ((nI k) &&& 31)) &&& (nI 1)))), some (.int (nI k))]) X dX8_ones_17 rfl (Nat.le_of_ble_eq_true rfl) rfl rfl ?_
    refine wn_iinc (pc := 18) (d := 1) (lo' := [some (.int a0), some (.int (a1 + ((a0 >>> ((nI k) &&& 31)) &&& (nI 1)))), some (.int (nI (k + 1)))]) X dX8_ones_18 rfl (by decide) rfl rfl ?_
    refine wp_goto (pc := 21) (tgt := 4) X dX8_ones_21 (by decide) ?_
    exact h
theorem r_X8_copies_0 {x : CT} {L : List Nat} {Q : Int32 → Mem → Prop} {M : Mem}  {a1 a2 : Nat} (X : BS x L cX8_copies 4 RX8 (m_X8_copies).2.2.2.2) (T : RT x L none Q) 
    (h : WP x L 2 [some (.ref 139), some (.int (nI a1)), some (.int (nI a2)), some (.int (nI 0))] [] M) : WP x L 0 [some (.ref 139), some (.int (nI a1)), some (.int (nI a2)), none] [] M := by
  refine wp_iconst (pc := 0) (v := nI 0) X dX8_copies_0 (by decide) ?_
  refine wp_istore_n (pc := 1) (lo' := [some (.ref 139), some (.int (nI a1)), some (.int (nI a2)), some (.int (nI 0))]) X dX8_copies_1 rfl (Nat.le_of_ble_eq_true rfl) rfl rfl ?_
  exact h
theorem r_X8_copies_2 {x : CT} {L : List Nat} {Q : Int32 → Mem → Prop} {M : Mem}  {a1 a2 k : Nat} (X : BS x L cX8_copies 4 RX8 (m_X8_copies).2.2.2.2) (T : RT x L none Q) (A_139 : AC L 139 8 0) (A_140 : AC L 140 9 918)
    (h : k < 2 ^ 31 ∧ (153 ≤ k → Q 0 M) ∧ (k < 153 → (a1 + k) < 918 ∧ (a2 + k) < 918 ∧ WP x L 2 [some (.ref 139), some (.int (nI a1)), some (.int (nI a2)), some (.int (nI (k + 1)))] [] (MU M 140 (a2 + k) (M 140 (a1 + k))))) : WP x L 2 [some (.ref 139), some (.int (nI a1)), some (.int (nI a2)), some (.int (nI k))] [] M := by
  refine wp_iload_n (pc := 2) X dX8_copies_2 rfl rfl ?_
  refine wp_sipush (pc := 3) (v := nI 153) X dX8_copies_3 (by decide) ?_
  obtain ⟨hb3, h⟩ := h
  refine wn_icmp_ge (pc := 6) (tgt := 31) X dX8_copies_6 (by decide) hb3 (by decide) (fun hc => ?_) (fun hc => ?_)
  · replace h := h.1 hc
    exact wp_ret (pc := 31) X T dX8_copies_31 h
  · replace h := h.2 hc
    refine wp_aload_n (pc := 9) X dX8_copies_9 rfl rfl ?_
    refine wp_get (pc := 10) X fl_X8_7 A_139 (by decide) (fg_8_0 A_139) dX8_copies_10 ?_
    refine wp_iload_n (pc := 13) X dX8_copies_13 rfl rfl ?_
    refine wp_iload_n (pc := 14) X dX8_copies_14 rfl rfl ?_
    refine wn_iadd (pc := 15) X dX8_copies_15 ?_
    refine wp_aload_n (pc := 16) X dX8_copies_16 rfl rfl ?_
    refine wp_get (pc := 17) X fl_X8_7 A_139 (by decide) (fg_8_0 A_139) dX8_copies_17 ?_
    refine wp_iload_n (pc := 20) X dX8_copies_20 rfl rfl ?_
    refine wp_iload_n (pc := 21) X dX8_copies_21 rfl rfl ?_
    refine wn_iadd (pc := 22) X dX8_copies_22 ?_
    obtain ⟨hj1, h⟩ := h
    refine wn_iald (pc := 23) X A_140 hj1 (by decide) dX8_copies_23 ?_
    obtain ⟨hj2, h⟩ := h
    refine wn_iast (pc := 24) X A_140 hj2 (by decide) dX8_copies_24 ?_
    refine wn_iinc (pc := 25) (d := 1) (lo' := [some (.ref 139), some (.int (nI a1)), some (.int (nI a2)), some (.int (nI (k + 1)))]) X dX8_copies_25 rfl (by decide) rfl rfl ?_
    refine wp_goto (pc := 28) (tgt := 2) X dX8_copies_28 (by decide) ?_
    exact h
theorem r_X8_laysFile_0 {x : CT} {L : List Nat} {Q : Int32 → Mem → Prop} {M : Mem}  {a1 : Nat} {a2 a3 a4 : Int32} (X : BS x L cX8_laysFile 5 RX8 (m_X8_laysFile).2.2.2.2) (T : RT x L none Q) (A_139 : AC L 139 8 0) (A_142 : AC L 142 9 20)
    (h : (1 + (3 * a1)) < 20 ∧ (2 + (3 * a1)) < 20 ∧ (3 + (3 * a1)) < 20 ∧ Q 0 (MU (MU (MU M 142 (1 + (3 * a1)) a2) 142 (2 + (3 * a1)) a3) 142 (3 + (3 * a1)) a4)) : WP x L 0 [some (.ref 139), some (.int (nI a1)), some (.int a2), some (.int a3), some (.int a4)] [] M := by
  refine wp_aload_n (pc := 0) X dX8_laysFile_0 rfl rfl ?_
  refine wp_get (pc := 1) X fl_X8_16 A_139 (by decide) (fg_8_4 A_139) dX8_laysFile_1 ?_
  refine wp_iconst (pc := 4) (v := nI 1) X dX8_laysFile_4 (by decide) ?_
  refine wp_iconst (pc := 5) (v := nI 3) X dX8_laysFile_5 (by decide) ?_
  refine wp_iload_n (pc := 6) X dX8_laysFile_6 rfl rfl ?_
  refine wn_imul (pc := 7) X dX8_laysFile_7 ?_
  refine wn_iadd (pc := 8) X dX8_laysFile_8 ?_
  refine wp_iload_n (pc := 9) X dX8_laysFile_9 rfl rfl ?_
  obtain ⟨hj1, h⟩ := h
  refine wn_iast (pc := 10) X A_142 hj1 (by decide) dX8_laysFile_10 ?_
  refine wp_aload_n (pc := 11) X dX8_laysFile_11 rfl rfl ?_
  refine wp_get (pc := 12) X fl_X8_16 A_139 (by decide) (fg_8_4 A_139) dX8_laysFile_12 ?_
  refine wp_iconst (pc := 15) (v := nI 2) X dX8_laysFile_15 (by decide) ?_
  refine wp_iconst (pc := 16) (v := nI 3) X dX8_laysFile_16 (by decide) ?_
  refine wp_iload_n (pc := 17) X dX8_laysFile_17 rfl rfl ?_
  refine wn_imul (pc := 18) X dX8_laysFile_18 ?_
  refine wn_iadd (pc := 19) X dX8_laysFile_19 ?_
  refine wp_iload_n (pc := 20) X dX8_laysFile_20 rfl rfl ?_
  obtain ⟨hj2, h⟩ := h
  refine wn_iast (pc := 21) X A_142 hj2 (by decide) dX8_laysFile_21 ?_
  refine wp_aload_n (pc := 22) X dX8_laysFile_22 rfl rfl ?_
  refine wp_get (pc := 23) X fl_X8_16 A_139 (by decide) (fg_8_4 A_139) dX8_laysFile_23 ?_
  refine wp_iconst (pc := 26) (v := nI 3) X dX8_laysFile_26 (by decide) ?_
  refine wp_iconst (pc := 27) (v := nI 3) X dX8_laysFile_27 (by decide) ?_
  refine wp_iload_n (pc := 28) X dX8_laysFile_28 rfl rfl ?_
  refine wn_imul (pc := 29) X dX8_laysFile_29 ?_
  refine wn_iadd (pc := 30) X dX8_laysFile_30 ?_
  refine wp_iload (pc := 31) X dX8_laysFile_31 rfl ?_
  obtain ⟨hj3, h⟩ := h
  refine wn_iast (pc := 33) X A_142 hj3 (by decide) dX8_laysFile_33 ?_
  exact wp_ret (pc := 34) X T dX8_laysFile_34 h
