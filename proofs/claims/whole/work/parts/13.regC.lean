theorem r_J9_floorMod_7cf53_0 {x : CT} {L : List Nat} {Q : Int32 → Mem → Prop} {M : Mem}  {a b : Nat} (X : BS x L cJ9_floorMod_7cf53 3 RJ9 (m_J9_floorMod_7cf53).2.2.2.2) (T : RT x L (some .int) Q) 
    (h : a < 2 ^ 31 ∧ 0 < b ∧ b < 2 ^ 31 ∧ (0 ≤ ((nI a) ^^^ (nI b)) → Q (nI (a % b)) M) ∧ (¬ 0 ≤ ((nI a) ^^^ (nI b)) → (a % b) < 2 ^ 31 ∧ ((a % b) = 0 → Q (nI (a % b)) M) ∧ (0 < (a % b) → Q (nI (a % b + b)) M))) : WP x L 0 [some (.int (nI a)), some (.int (nI b)), none] [] M := by
  refine wp_iload_n (pc := 0) X dJ9_floorMod_7cf53_0 rfl rfl ?_
  refine wp_iload_n (pc := 1) X dJ9_floorMod_7cf53_1 rfl rfl ?_
  obtain ⟨hb1, hb2, hb3, h⟩ := h
  refine wn_irem (pc := 2) X dJ9_floorMod_7cf53_2 hb1 hb2 hb3 ?_
  refine wp_istore_n (pc := 3) (lo' := [some (.int (nI a)), some (.int (nI b)), some (.int (nI (a % b)))]) X dJ9_floorMod_7cf53_3 rfl (Nat.le_of_ble_eq_true rfl) rfl rfl ?_
  refine wp_iload_n (pc := 4) X dJ9_floorMod_7cf53_4 rfl rfl ?_
  refine wp_iload_n (pc := 5) X dJ9_floorMod_7cf53_5 rfl rfl ?_
  refine wp_ixor (pc := 6) X dJ9_floorMod_7cf53_6 ?_
  refine wp_if_ge (pc := 7) (tgt := 18) X dJ9_floorMod_7cf53_7 (by decide) (fun hc => ?_) (fun hc => ?_)
  · replace h := h.1 hc
    refine wp_iload_n (pc := 18) X dJ9_floorMod_7cf53_18 rfl rfl ?_
    exact wp_iret (pc := 19) X T dJ9_floorMod_7cf53_19 h
  · replace h := h.2 hc
    refine wp_iload_n (pc := 10) X dJ9_floorMod_7cf53_10 rfl rfl ?_
    obtain ⟨hb4, h⟩ := h
    refine wn_if_eq (pc := 11) (tgt := 18) X dJ9_floorMod_7cf53_11 (by decide) hb4 (fun hc => ?_) (fun hc => ?_)
    · replace h := h.1 hc
      refine wp_iload_n (pc := 18) X dJ9_floorMod_7cf53_18 rfl rfl ?_
      exact wp_iret (pc := 19) X T dJ9_floorMod_7cf53_19 h
    · replace h := h.2 hc
      refine wp_iload_n (pc := 14) X dJ9_floorMod_7cf53_14 rfl rfl ?_
      refine wp_iload_n (pc := 15) X dJ9_floorMod_7cf53_15 rfl rfl ?_
      refine wn_iadd (pc := 16) X dJ9_floorMod_7cf53_16 ?_
      exact wp_iret (pc := 17) X T dJ9_floorMod_7cf53_17 h
theorem r_J6_bitCount_0f7a4_0 {x : CT} {L : List Nat} {Q : Int32 → Mem → Prop} {M : Mem}  {a : Int32} (X : BS x L cJ6_bitCount_0f7a4 1 RJ6 (m_J6_bitCount_0f7a4).2.2.2.2) (T : RT x L (some .int) Q) 
    (h : Q ((((((((a - (((Int32.toUInt32 a >>> (Int32.toUInt32 (nI 1) &&& Int32.toUInt32 31)).toInt32) &&& (1431655765 : Int32))) &&& (858993459 : Int32)) + (((Int32.toUInt32 (a - (((Int32.toUInt32 a >>> (Int32.toUInt32 (nI 1) &&& Int32.toUInt32 31)).toInt32) &&& (1431655765 : Int32))) >>> (Int32.toUInt32 (nI 2) &&& Int32.toUInt32 31)).toInt32) &&& (858993459 : Int32))) + ((Int32.toUInt32 (((a - (((Int32.toUInt32 a >>> (Int32.toUInt32 (nI 1) &&& Int32.toUInt32 31)).toInt32) &&& (1431655765 : Int32))) &&& (858993459 : Int32)) + (((Int32.toUInt32 (a - (((Int32.toUInt32 a >>> (Int32.toUInt32 (nI 1) &&& Int32.toUInt32 31)).toInt32) &&& (1431655765 : Int32))) >>> (Int32.toUInt32 (nI 2) &&& Int32.toUInt32 31)).toInt32) &&& (858993459 : Int32))) >>> (Int32.toUInt32 (nI 4) &&& Int32.toUInt32 31)).toInt32)) &&& (252645135 : Int32)) + ((Int32.toUInt32 (((((a - (((Int32.toUInt32 a >>> (Int32.toUInt32 (nI 1) &&& Int32.toUInt32 31)).toInt32) &&& (1431655765 : Int32))) &&& (858993459 : Int32)) + (((Int32.toUInt32 (a - (((Int32.toUInt32 a >>> (Int32.toUInt32 (nI 1) &&& Int32.toUInt32 31)).toInt32) &&& (1431655765 : Int32))) >>> (Int32.toUInt32 (nI 2) &&& Int32.toUInt32 31)).toInt32) &&& (858993459 : Int32))) + ((Int32.toUInt32 (((a - (((Int32.toUInt32 a >>> (Int32.toUInt32 (nI 1) &&& Int32.toUInt32 31)).toInt32) &&& (1431655765 : Int32))) &&& (858993459 : Int32)) + (((Int32.toUInt32 (a - (((Int32.toUInt32 a >>> (Int32.toUInt32 (nI 1) &&& Int32.toUInt32 31)).toInt32) &&& (1431655765 : Int32))) >>> (Int32.toUInt32 (nI 2) &&& Int32.toUInt32 31)).toInt32) &&& (858993459 : Int32))) >>> (Int32.toUInt32 (nI 4) &&& Int32.toUInt32 31)).toInt32)) &&& (252645135 : Int32)) >>> (Int32.toUInt32 (nI 8) &&& Int32.toUInt32 31)).toInt32)) + ((Int32.toUInt32 ((((((a - (((Int32.toUInt32 a >>> (Int32.toUInt32 (nI 1) &&& Int32.toUInt32 31)).toInt32) &&& (1431655765 : Int32))) &&& (858993459 : Int32)) + (((Int32.toUInt32 (a - (((Int32.toUInt32 a >>> (Int32.toUInt32 (nI 1) &&& Int32.toUInt32 31)).toInt32) &&& (1431655765 : Int32))) >>> (Int32.toUInt32 (nI 2) &&& Int32.toUInt32 31)).toInt32) &&& (858993459 : Int32))) + ((Int32.toUInt32 (((a - (((Int32.toUInt32 a >>> (Int32.toUInt32 (nI 1) &&& Int32.toUInt32 31)).toInt32) &&& (1431655765 : Int32))) &&& (858993459 : Int32)) + (((Int32.toUInt32 (a - (((Int32.toUInt32 a >>> (Int32.toUInt32 (nI 1) &&& Int32.toUInt32 31)).toInt32) &&& (1431655765 : Int32))) >>> (Int32.toUInt32 (nI 2) &&& Int32.toUInt32 31)).toInt32) &&& (858993459 : Int32))) >>> (Int32.toUInt32 (nI 4) &&& Int32.toUInt32 31)).toInt32)) &&& (252645135 : Int32)) + ((Int32.toUInt32 (((((a - (((Int32.toUInt32 a >>> (Int32.toUInt32 (nI 1) &&& Int32.toUInt32 31)).toInt32) &&& (1431655765 : Int32))) &&& (858993459 : Int32)) + (((Int32.toUInt32 (a - (((Int32.toUInt32 a >>> (Int32.toUInt32 (nI 1) &&& Int32.toUInt32 31)).toInt32) &&& (1431655765 : Int32))) >>> (Int32.toUInt32 (nI 2) &&& Int32.toUInt32 31)).toInt32) &&& (858993459 : Int32))) + ((Int32.toUInt32 (((a - (((Int32.toUInt32 a >>> (Int32.toUInt32 (nI 1) &&& Int32.toUInt32 31)).toInt32) &&& (1431655765 : Int32))) &&& (858993459 : Int32)) + (((Int32.toUInt32 (a - (((Int32.toUInt32 a >>> (Int32.toUInt32 (nI 1) &&& Int32.toUInt32 31)).toInt32) &&& (1431655765 : Int32))) >>> (Int32.toUInt32 (nI 2) &&& Int32.toUInt32 31)).toInt32) &&& (858993459 : Int32))) >>> (Int32.toUInt32 (nI 4) &&& Int32.toUInt32 31)).toInt32)) &&& (252645135 : Int32)) >>> (Int32.toUInt32 (nI 8) &&& Int32.toUInt32 31)).toInt32)) >>> (Int32.toUInt32 (nI 16) &&& Int32.toUInt32 31)).toInt32)) &&& (nI 63)) M) : WP x L 0 [some (.int a)] [] M := by
  refine wp_iload_n (pc := 0) X dJ6_bitCount_0f7a4_0 rfl rfl ?_
  refine wp_iload_n (pc := 1) X dJ6_bitCount_0f7a4_1 rfl rfl ?_
  refine wp_iconst (pc := 2) (v := nI 1) X dJ6_bitCount_0f7a4_2 (by decide) ?_
  refine wp_iushr (pc := 3) X dJ6_bitCount_0f7a4_3 ?_
  refine wp_ldcw (pc := 4) (v := 1431655765) X dJ6_bitCount_0f7a4_4 k_517 ?_
  refine wp_iand (pc := 7) X dJ6_bitCount_0f7a4_7 ?_
  refine wp_isub (pc := 8) X dJ6_bitCount_0f7a4_8 ?_
  refine wp_istore_n (pc := 9) (lo' := [some (.int (a - (((Int32.toUInt32 a >>> (Int32.toUInt32 (nI 1) &&& Int32.toUInt32 31)).toInt32) &&& (1431655765 : Int32))))]) X dJ6_bitCount_0f7a4_9 rfl (Nat.le_of_ble_eq_true rfl) rfl rfl ?_
  refine wp_iload_n (pc := 10) X dJ6_bitCount_0f7a4_10 rfl rfl ?_
  refine wp_ldcw (pc := 11) (v := 858993459) X dJ6_bitCount_0f7a4_11 k_518 ?_
  refine wp_iand (pc := 14) X dJ6_bitCount_0f7a4_14 ?_
  refine wp_iload_n (pc := 15) X dJ6_bitCount_0f7a4_15 rfl rfl ?_
  refine wp_iconst (pc := 16) (v := nI 2) X dJ6_bitCount_0f7a4_16 (by decide) ?_
  refine wp_iushr (pc := 17) X dJ6_bitCount_0f7a4_17 ?_
  refine wp_ldcw (pc := 18) (v := 858993459) X dJ6_bitCount_0f7a4_18 k_518 ?_
  refine wp_iand (pc := 21) X dJ6_bitCount_0f7a4_21 ?_
  refine wp_iadd (pc := 22) X dJ6_bitCount_0f7a4_22 ?_
  refine wp_istore_n (pc := 23) (lo' := [some (.int (((a - (((Int32.toUInt32 a >>> (Int32.toUInt32 (nI 1) &&& Int32.toUInt32 31)).toInt32) &&& (1431655765 : Int32))) &&& (858993459 : Int32)) + (((Int32.toUInt32 (a - (((Int32.toUInt32 a >>> (Int32.toUInt32 (nI 1) &&& Int32.toUInt32 31)).toInt32) &&& (1431655765 : Int32))) >>> (Int32.toUInt32 (nI 2) &&& Int32.toUInt32 31)).toInt32) &&& (858993459 : Int32))))]) X dJ6_bitCount_0f7a4_23 rfl (Nat.le_of_ble_eq_true rfl) rfl rfl ?_
  refine wp_iload_n (pc := 24) X dJ6_bitCount_0f7a4_24 rfl rfl ?_
  refine wp_iload_n (pc := 25) X dJ6_bitCount_0f7a4_25 rfl rfl ?_
  refine wp_iconst (pc := 26) (v := nI 4) X dJ6_bitCount_0f7a4_26 (by decide) ?_
  refine wp_iushr (pc := 27) X dJ6_bitCount_0f7a4_27 ?_
  refine wp_iadd (pc := 28) X dJ6_bitCount_0f7a4_28 ?_
  refine wp_ldcw (pc := 29) (v := 252645135) X dJ6_bitCount_0f7a4_29 k_519 ?_
  refine wp_iand (pc := 32) X dJ6_bitCount_0f7a4_32 ?_
  refine wp_istore_n (pc := 33) (lo' := [some (.int (((((a - (((Int32.toUInt32 a >>> (Int32.toUInt32 (nI 1) &&& Int32.toUInt32 31)).toInt32) &&& (1431655765 : Int32))) &&& (858993459 : Int32)) + (((Int32.toUInt32 (a - (((Int32.toUInt32 a >>> (Int32.toUInt32 (nI 1) &&& Int32.toUInt32 31)).toInt32) &&& (1431655765 : Int32))) >>> (Int32.toUInt32 (nI 2) &&& Int32.toUInt32 31)).toInt32) &&& (858993459 : Int32))) + ((Int32.toUInt32 (((a - (((Int32.toUInt32 a >>> (Int32.toUInt32 (nI 1) &&& Int32.toUInt32 31)).toInt32) &&& (1431655765 : Int32))) &&& (858993459 : Int32)) + (((Int32.toUInt32 (a - (((Int32.toUInt32 a >>> (Int32.toUInt32 (nI 1) &&& Int32.toUInt32 31)).toInt32) &&& (1431655765 : Int32))) >>> (Int32.toUInt32 (nI 2) &&& Int32.toUInt32 31)).toInt32) &&& (858993459 : Int32))) >>> (Int32.toUInt32 (nI 4) &&& Int32.toUInt32 31)).toInt32)) &&& (252645135 : Int32)))]) X dJ6_bitCount_0f7a4_33 rfl (Nat.le_of_ble_eq_true rfl) rfl rfl ?_
  refine wp_iload_n (pc := 34) X dJ6_bitCount_0f7a4_34 rfl rfl ?_
  refine wp_iload_n (pc := 35) X dJ6_bitCount_0f7a4_35 rfl rfl ?_
  refine wp_bipush (pc := 36) (v := nI 8) X dJ6_bitCount_0f7a4_36 (by decide) ?_
  refine wp_iushr (pc := 38) X dJ6_bitCount_0f7a4_38 ?_
  refine wp_iadd (pc := 39) X dJ6_bitCount_0f7a4_39 ?_
  refine wp_istore_n (pc := 40) (lo' := [some (.int ((((((a - (((Int32.toUInt32 a >>> (Int32.toUInt32 (nI 1) &&& Int32.toUInt32 31)).toInt32) &&& (1431655765 : Int32))) &&& (858993459 : Int32)) + (((Int32.toUInt32 (a - (((Int32.toUInt32 a >>> (Int32.toUInt32 (nI 1) &&& Int32.toUInt32 31)).toInt32) &&& (1431655765 : Int32))) >>> (Int32.toUInt32 (nI 2) &&& Int32.toUInt32 31)).toInt32) &&& (858993459 : Int32))) + ((Int32.toUInt32 (((a - (((Int32.toUInt32 a >>> (Int32.toUInt32 (nI 1) &&& Int32.toUInt32 31)).toInt32) &&& (1431655765 : Int32))) &&& (858993459 : Int32)) + (((Int32.toUInt32 (a - (((Int32.toUInt32 a >>> (Int32.toUInt32 (nI 1) &&& Int32.toUInt32 31)).toInt32) &&& (1431655765 : Int32))) >>> (Int32.toUInt32 (nI 2) &&& Int32.toUInt32 31)).toInt32) &&& (858993459 : Int32))) >>> (Int32.toUInt32 (nI 4) &&& Int32.toUInt32 31)).toInt32)) &&& (252645135 : Int32)) + ((Int32.toUInt32 (((((a - (((Int32.toUInt32 a >>> (Int32.toUInt32 (nI 1) &&& Int32.toUInt32 31)).toInt32) &&& (1431655765 : Int32))) &&& (858993459 : Int32)) + (((Int32.toUInt32 (a - (((Int32.toUInt32 a >>> (Int32.toUInt32 (nI 1) &&& Int32.toUInt32 31)).toInt32) &&& (1431655765 : Int32))) >>> (Int32.toUInt32 (nI 2) &&& Int32.toUInt32 31)).toInt32) &&& (858993459 : Int32))) + ((Int32.toUInt32 (((a - (((Int32.toUInt32 a >>> (Int32.toUInt32 (nI 1) &&& Int32.toUInt32 31)).toInt32) &&& (1431655765 : Int32))) &&& (858993459 : Int32)) + (((Int32.toUInt32 (a - (((Int32.toUInt32 a >>> (Int32.toUInt32 (nI 1) &&& Int32.toUInt32 31)).toInt32) &&& (1431655765 : Int32))) >>> (Int32.toUInt32 (nI 2) &&& Int32.toUInt32 31)).toInt32) &&& (858993459 : Int32))) >>> (Int32.toUInt32 (nI 4) &&& Int32.toUInt32 31)).toInt32)) &&& (252645135 : Int32)) >>> (Int32.toUInt32 (nI 8) &&& Int32.toUInt32 31)).toInt32)))]) X dJ6_bitCount_0f7a4_40 rfl (Nat.le_of_ble_eq_true rfl) rfl rfl ?_
  refine wp_iload_n (pc := 41) X dJ6_bitCount_0f7a4_41 rfl rfl ?_
  refine wp_iload_n (pc := 42) X dJ6_bitCount_0f7a4_42 rfl rfl ?_
  refine wp_bipush (pc := 43) (v := nI 16) X dJ6_bitCount_0f7a4_43 (by decide) ?_
  refine wp_iushr (pc := 45) X dJ6_bitCount_0f7a4_45 ?_
  refine wp_iadd (pc := 46) X dJ6_bitCount_0f7a4_46 ?_
  refine wp_istore_n (pc := 47) (lo' := [some (.int (((((((a - (((Int32.toUInt32 a >>> (Int32.toUInt32 (nI 1) &&& Int32.toUInt32 31)).toInt32) &&& (1431655765 : Int32))) &&& (858993459 : Int32)) + (((Int32.toUInt32 (a - (((Int32.toUInt32 a >>> (Int32.toUInt32 (nI 1) &&& Int32.toUInt32 31)).toInt32) &&& (1431655765 : Int32))) >>> (Int32.toUInt32 (nI 2) &&& Int32.toUInt32 31)).toInt32) &&& (858993459 : Int32))) + ((Int32.toUInt32 (((a - (((Int32.toUInt32 a >>> (Int32.toUInt32 (nI 1) &&& Int32.toUInt32 31)).toInt32) &&& (1431655765 : Int32))) &&& (858993459 : Int32)) + (((Int32.toUInt32 (a - (((Int32.toUInt32 a >>> (Int32.toUInt32 (nI 1) &&& Int32.toUInt32 31)).toInt32) &&& (1431655765 : Int32))) >>> (Int32.toUInt32 (nI 2) &&& Int32.toUInt32 31)).toInt32) &&& (858993459 : Int32))) >>> (Int32.toUInt32 (nI 4) &&& Int32.toUInt32 31)).toInt32)) &&& (252645135 : Int32)) + ((Int32.toUInt32 (((((a - (((Int32.toUInt32 a >>> (Int32.toUInt32 (nI 1) &&& Int32.toUInt32 31)).toInt32) &&& (1431655765 : Int32))) &&& (858993459 : Int32)) + (((Int32.toUInt32 (a - (((Int32.toUInt32 a >>> (Int32.toUInt32 (nI 1) &&& Int32.toUInt32 31)).toInt32) &&& (1431655765 : Int32))) >>> (Int32.toUInt32 (nI 2) &&& Int32.toUInt32 31)).toInt32) &&& (858993459 : Int32))) + ((Int32.toUInt32 (((a - (((Int32.toUInt32 a >>> (Int32.toUInt32 (nI 1) &&& Int32.toUInt32 31)).toInt32) &&& (1431655765 : Int32))) &&& (858993459 : Int32)) + (((Int32.toUInt32 (a - (((Int32.toUInt32 a >>> (Int32.toUInt32 (nI 1) &&& Int32.toUInt32 31)).toInt32) &&& (1431655765 : Int32))) >>> (Int32.toUInt32 (nI 2) &&& Int32.toUInt32 31)).toInt32) &&& (858993459 : Int32))) >>> (Int32.toUInt32 (nI 4) &&& Int32.toUInt32 31)).toInt32)) &&& (252645135 : Int32)) >>> (Int32.toUInt32 (nI 8) &&& Int32.toUInt32 31)).toInt32)) + ((Int32.toUInt32 ((((((a - (((Int32.toUInt32 a >>> (Int32.toUInt32 (nI 1) &&& Int32.toUInt32 31)).toInt32) &&& (1431655765 : Int32))) &&& (858993459 : Int32)) + (((Int32.toUInt32 (a - (((Int32.toUInt32 a >>> (Int32.toUInt32 (nI 1) &&& Int32.toUInt32 31)).toInt32) &&& (1431655765 : Int32))) >>> (Int32.toUInt32 (nI 2) &&& Int32.toUInt32 31)).toInt32) &&& (858993459 : Int32))) + ((Int32.toUInt32 (((a - (((Int32.toUInt32 a >>> (Int32.toUInt32 (nI 1) &&& Int32.toUInt32 31)).toInt32) &&& (1431655765 : Int32))) &&& (858993459 : Int32)) + (((Int32.toUInt32 (a - (((Int32.toUInt32 a >>> (Int32.toUInt32 (nI 1) &&& Int32.toUInt32 31)).toInt32) &&& (1431655765 : Int32))) >>> (Int32.toUInt32 (nI 2) &&& Int32.toUInt32 31)).toInt32) &&& (858993459 : Int32))) >>> (Int32.toUInt32 (nI 4) &&& Int32.toUInt32 31)).toInt32)) &&& (252645135 : Int32)) + ((Int32.toUInt32 (((((a - (((Int32.toUInt32 a >>> (Int32.toUInt32 (nI 1) &&& Int32.toUInt32 31)).toInt32) &&& (1431655765 : Int32))) &&& (858993459 : Int32)) + (((Int32.toUInt32 (a - (((Int32.toUInt32 a >>> (Int32.toUInt32 (nI 1) &&& Int32.toUInt32 31)).toInt32) &&& (1431655765 : Int32))) >>> (Int32.toUInt32 (nI 2) &&& Int32.toUInt32 31)).toInt32) &&& (858993459 : Int32))) + ((Int32.toUInt32 (((a - (((Int32.toUInt32 a >>> (Int32.toUInt32 (nI 1) &&& Int32.toUInt32 31)).toInt32) &&& (1431655765 : Int32))) &&& (858993459 : Int32)) + (((Int32.toUInt32 (a - (((Int32.toUInt32 a >>> (Int32.toUInt32 (nI 1) &&& Int32.toUInt32 31)).toInt32) &&& (1431655765 : Int32))) >>> (Int32.toUInt32 (nI 2) &&& Int32.toUInt32 31)).toInt32) &&& (858993459 : Int32))) >>> (Int32.toUInt32 (nI 4) &&& Int32.toUInt32 31)).toInt32)) &&& (252645135 : Int32)) >>> (Int32.toUInt32 (nI 8) &&& Int32.toUInt32 31)).toInt32)) >>> (Int32.toUInt32 (nI 16) &&& Int32.toUInt32 31)).toInt32)))]) X dJ6_bitCount_0f7a4_47 rfl (Nat.le_of_ble_eq_true rfl) rfl rfl ?_
  refine wp_iload_n (pc := 48) X dJ6_bitCount_0f7a4_48 rfl rfl ?_
  refine wp_bipush (pc := 49) (v := nI 63) X dJ6_bitCount_0f7a4_49 (by decide) ?_
  refine wp_iand (pc := 51) X dJ6_bitCount_0f7a4_51 ?_
  exact wp_iret (pc := 52) X T dJ6_bitCount_0f7a4_52 h
theorem r_Jxf58ca_isNaN_12338_0 {x : CT} {L : List Nat} {Q : Int32 → Mem → Prop} {M : Mem}  {a : UInt32} (X : BS x L cJxf58ca_isNaN_12338 1 RJxf58ca (m_Jxf58ca_isNaN_12338).2.2.2.2) (T : RT x L (some .boolean) Q) 
    (h : ((Op.cmpValue (FP.fcmp a a) CmpOp.l) = 0 → Q (nI 0) M) ∧ (¬ (Op.cmpValue (FP.fcmp a a) CmpOp.l) = 0 → Q (nI 1) M)) : WP x L 0 [some (.float a)] [] M := by
  refine wp_fload_n (pc := 0) X dJxf58ca_isNaN_12338_0 rfl rfl ?_
  refine wp_fload_n (pc := 1) X dJxf58ca_isNaN_12338_1 rfl rfl ?_
  refine wp_fcmp (pc := 2) X dJxf58ca_isNaN_12338_2 ?_
  refine wp_if_eq (pc := 3) (tgt := 10) X dJxf58ca_isNaN_12338_3 (by decide) (fun hc => ?_) (fun hc => ?_)
  · replace h := h.1 hc
    refine wp_iconst (pc := 10) (v := nI 0) X dJxf58ca_isNaN_12338_10 (by decide) ?_
    exact wp_zret (pc := 11) X T (by decide) dJxf58ca_isNaN_12338_11 h
  · replace h := h.2 hc
    refine wp_iconst (pc := 6) (v := nI 1) X dJxf58ca_isNaN_12338_6 (by decide) ?_
    refine wp_goto (pc := 7) (tgt := 11) X dJxf58ca_isNaN_12338_7 (by decide) ?_
    exact wp_zret (pc := 11) X T (by decide) dJxf58ca_isNaN_12338_11 h
theorem r_Jxf58ca_floatToIntBits_5c35a_0 {x : CT} {L : List Nat} {Q : Int32 → Mem → Prop} {M : Mem}  {a : UInt32} (X : BS x L cJxf58ca_floatToIntBits_5c35a 1 RJxf58ca (m_Jxf58ca_floatToIntBits_5c35a).2.2.2.2) (T : RT x L (some .int) Q) 
    (h : CM m_Jxf58ca_isNaN_12338 L [.float a] M (fun r2 M1 => (¬ r2 = 0 → Q (2143289344 : Int32) M1) ∧ (r2 = 0 → Q (UInt32.toInt32 a) M1))) : WP x L 0 [some (.float a)] [] M := by
  refine wp_fload_n (pc := 0) X dJxf58ca_floatToIntBits_5c35a_0 rfl rfl ?_
  refine wp_invS (pc := 1) X sv_Jxf58ca_59  rfl ⟨by decide, by decide⟩ (As := [.float a]) (st := []) rfl rfl (Nat.le_of_ble_eq_true rfl) dJxf58ca_floatToIntBits_5c35a_1 ?_
  refine CM.mono h (fun r2 M1 h => ?_)
  refine wp_if_ne (pc := 4) (tgt := 12) X dJxf58ca_floatToIntBits_5c35a_4 (by decide) (fun hc => ?_) (fun hc => ?_)
  · replace h := h.1 hc
    refine wp_ldc (pc := 12) (v := 2143289344) X dJxf58ca_floatToIntBits_5c35a_12 k_777 ?_
    exact wp_iret (pc := 14) X T dJxf58ca_floatToIntBits_5c35a_14 h
  · replace h := h.2 hc
    refine wp_fload_n (pc := 7) X dJxf58ca_floatToIntBits_5c35a_7 rfl rfl ?_
    refine wp_f2raw (pc := 8) X k_774 k_776 k_775 k_49 (by decide) (Nat.le_of_ble_eq_true rfl) dJxf58ca_floatToIntBits_5c35a_8 ?_
    exact wp_iret (pc := 11) X T dJxf58ca_floatToIntBits_5c35a_11 h
theorem r_X3_clear_0 {x : CT} {L : List Nat} {Q : Int32 → Mem → Prop} {M : Mem}  {p : Nat} (X : BS x L cX3_clear 1 RX3 (m_X3_clear).2.2.2.2) (T : RT x L none Q) (A_p : AC L p 3 0)
    (h : CM m_X3_setTable L [.ref p, .int (nI 6), .int (nI 20)] (MU M p 3 (nI 0)) (fun _ M1 => Q 0 M1)) : WP x L 0 [some (.ref p)] [] M := by
  refine wp_aload_n (pc := 0) X dX3_clear_0 rfl rfl ?_
  refine wp_iconst (pc := 1) (v := nI 0) X dX3_clear_1 (by decide) ?_
  refine wp_put (pc := 2) X fl_X3_21 fp_3_3 A_p (by decide) (fk_3_3 A_p) (fs_3_3 A_p _) dX3_clear_2 ?_
  refine wp_aload_n (pc := 5) X dX3_clear_5 rfl rfl ?_
  refine wp_bipush (pc := 6) (v := nI 6) X dX3_clear_6 (by decide) ?_
  refine wp_bipush (pc := 8) (v := nI 20) X dX3_clear_8 (by decide) ?_
  refine wp_invVv (pc := 10) X sv_X3_25 A_p (by decide) rfl ⟨by decide, by decide⟩ (As := [.int (nI 6), .int (nI 20)]) (st := []) rfl rfl (Nat.le_of_ble_eq_true rfl) dX3_clear_10 ?_
  refine CM.mono h (fun _ M1 h => ?_)
  exact wp_ret (pc := 13) X T dX3_clear_13 h
theorem r_X3_addFile_0 {x : CT} {L : List Nat} {Q : Int32 → Mem → Prop} {M : Mem}  {p : Nat} {a1 a2 a3 : Int32} (X : BS x L cX3_addFile 4 RX3 (m_X3_addFile).2.2.2.2) (T : RT x L (some .boolean) Q) (A_p : AC L p 3 0) (A_p_1 : AC L (p + 1) 9 6) (A_p_2 : AC L (p + 2) 9 6) (A_p_3 : AC L (p + 3) 9 6)
    (h : ∃ v1 : Nat, M p 3 = nI v1 ∧ ((nI v1) < 0 → Q (nI 0) M) ∧ (¬ (nI v1) < 0 → ∃ v3 : Nat, M p 3 = nI v3 ∧ v3 < 2 ^ 31 ∧ (v3 < 6 → ∃ v5 : Nat, M p 3 = nI v5 ∧ v5 < 6 ∧ ∃ v8 : Nat, (MU M (p + 1) v5 a1) p 3 = nI v8 ∧ v8 < 6 ∧ ∃ v11 : Nat, (MU (MU M (p + 1) v5 a1) (p + 2) v8 a2) p 3 = nI v11 ∧ v11 < 6 ∧ ∃ v14 : Nat, (MU (MU (MU M (p + 1) v5 a1) (p + 2) v8 a2) (p + 3) v11 a3) p 3 = nI v14 ∧ Q (nI 1) (MU (MU (MU (MU M (p + 1) v5 a1) (p + 2) v8 a2) (p + 3) v11 a3) p 3 (nI (v14 + 1)))) ∧ (6 ≤ v3 → Q (nI 0) M))) : WP x L 0 [some (.ref p), some (.int a1), some (.int a2), some (.int a3)] [] M := by
  refine wp_aload_n (pc := 0) X dX3_addFile_0 rfl rfl ?_
  obtain ⟨v1, he2, h⟩ := h
  refine we_get (pc := 1) X fl_X3_21 A_p (by decide) (fg_3_3 A_p) he2 dX3_addFile_1 ?_
  refine wp_if_lt (pc := 4) (tgt := 16) X dX3_addFile_4 (by decide) (fun hc => ?_) (fun hc => ?_)
  · replace h := h.1 hc
    refine wp_iconst (pc := 16) (v := nI 0) X dX3_addFile_16 (by decide) ?_
    exact wp_zret (pc := 17) X T (by decide) dX3_addFile_17 h
  · replace h := h.2 hc
    refine wp_aload_n (pc := 7) X dX3_addFile_7 rfl rfl ?_
    obtain ⟨v3, he4, h⟩ := h
    refine we_get (pc := 8) X fl_X3_21 A_p (by decide) (fg_3_3 A_p) he4 dX3_addFile_8 ?_
    refine wp_bipush (pc := 11) (v := nI 6) X dX3_addFile_11 (by decide) ?_
    obtain ⟨hb16, h⟩ := h
    refine wn_icmp_lt (pc := 13) (tgt := 18) X dX3_addFile_13 (by decide) hb16 (by decide) (fun hc => ?_) (fun hc => ?_)
    · replace h := h.1 hc
      refine wp_aload_n (pc := 18) X dX3_addFile_18 rfl rfl ?_
      refine wp_get (pc := 19) X fl_X3_9 A_p (by decide) (fg_3_0 A_p) dX3_addFile_19 ?_
      refine wp_aload_n (pc := 22) X dX3_addFile_22 rfl rfl ?_
      obtain ⟨v5, he6, h⟩ := h
      refine we_get (pc := 23) X fl_X3_21 A_p (by decide) (fg_3_3 A_p) he6 dX3_addFile_23 ?_
      refine wp_iload_n (pc := 26) X dX3_addFile_26 rfl rfl ?_
      obtain ⟨hj7, h⟩ := h
      refine wn_iast (pc := 27) X A_p_1 hj7 (by decide) dX3_addFile_27 ?_
      refine wp_aload_n (pc := 28) X dX3_addFile_28 rfl rfl ?_
      refine wp_get (pc := 29) X fl_X3_15 A_p (by decide) (fg_3_1 A_p) dX3_addFile_29 ?_
      refine wp_aload_n (pc := 32) X dX3_addFile_32 rfl rfl ?_
      obtain ⟨v8, he9, h⟩ := h
      refine we_get (pc := 33) X fl_X3_21 A_p (by decide) (fg_3_3 A_p) he9 dX3_addFile_33 ?_
      refine wp_iload_n (pc := 36) X dX3_addFile_36 rfl rfl ?_
      obtain ⟨hj10, h⟩ := h
      refine wn_iast (pc := 37) X A_p_2 hj10 (by decide) dX3_addFile_37 ?_
      refine wp_aload_n (pc := 38) X dX3_addFile_38 rfl rfl ?_
      refine wp_get (pc := 39) X fl_X3_18 A_p (by decide) (fg_3_2 A_p) dX3_addFile_39 ?_
      refine wp_aload_n (pc := 42) X dX3_addFile_42 rfl rfl ?_
      obtain ⟨v11, he12, h⟩ := h
      refine we_get (pc := 43) X fl_X3_21 A_p (by decide) (fg_3_3 A_p) he12 dX3_addFile_43 ?_
      refine wp_iload_n (pc := 46) X dX3_addFile_46 rfl rfl ?_
      obtain ⟨hj13, h⟩ := h
      refine wn_iast (pc := 47) X A_p_3 hj13 (by decide) dX3_addFile_47 ?_
      refine wp_aload_n (pc := 48) X dX3_addFile_48 rfl rfl ?_
      refine wp_dup (pc := 49) X dX3_addFile_49 rfl ?_
      obtain ⟨v14, he15, h⟩ := h
      refine we_get (pc := 50) X fl_X3_21 A_p (by decide) (fg_3_3 A_p) he15 dX3_addFile_50 ?_
      refine wp_iconst (pc := 53) (v := nI 1) X dX3_addFile_53 (by decide) ?_
      refine wn_iadd (pc := 54) X dX3_addFile_54 ?_
      refine wp_put (pc := 55) X fl_X3_21 fp_3_3 A_p (by decide) (fk_3_3 A_p) (fs_3_3 A_p _) dX3_addFile_55 ?_
      refine wp_iconst (pc := 58) (v := nI 1) X dX3_addFile_58 (by decide) ?_
      exact wp_zret (pc := 59) X T (by decide) dX3_addFile_59 h
    · replace h := h.2 hc
      refine wp_iconst (pc := 16) (v := nI 0) X dX3_addFile_16 (by decide) ?_
      exact wp_zret (pc := 17) X T (by decide) dX3_addFile_17 h
theorem r_X3_setTable_0 {x : CT} {L : List Nat} {Q : Int32 → Mem → Prop} {M : Mem}  {p : Nat} {a1 a2 : Int32} (X : BS x L cX3_setTable 3 RX3 (m_X3_setTable).2.2.2.2) (T : RT x L none Q) (A_p : AC L p 3 0)
    (h : Q 0 (MU (MU M p 4 a1) p 5 a2)) : WP x L 0 [some (.ref p), some (.int a1), some (.int a2)] [] M := by
  refine wp_aload_n (pc := 0) X dX3_setTable_0 rfl rfl ?_
  refine wp_iload_n (pc := 1) X dX3_setTable_1 rfl rfl ?_
  refine wp_put (pc := 2) X fl_X3_29 fp_3_4 A_p (by decide) (fk_3_4 A_p) (fs_3_4 A_p _) dX3_setTable_2 ?_
  refine wp_aload_n (pc := 5) X dX3_setTable_5 rfl rfl ?_
  refine wp_iload_n (pc := 6) X dX3_setTable_6 rfl rfl ?_
  refine wp_put (pc := 7) X fl_X3_32 fp_3_5 A_p (by decide) (fk_3_5 A_p) (fs_3_5 A_p _) dX3_setTable_7 ?_
  exact wp_ret (pc := 10) X T dX3_setTable_10 h
theorem r_X3_hasFile_0 {x : CT} {L : List Nat} {Q : Int32 → Mem → Prop} {M : Mem}  {p : Nat} {a1 : Int32} (X : BS x L cX3_hasFile 2 RX3 (m_X3_hasFile).2.2.2.2) (T : RT x L (some .boolean) Q) (A_p : AC L p 3 0)
    (h : (a1 < 0 → Q (nI 0) M) ∧ (¬ a1 < 0 → ∃ v1 : Nat, M p 3 = nI v1 ∧ ((nI v1) ≤ a1 → Q (nI 0) M) ∧ (¬ (nI v1) ≤ a1 → Q (nI 1) M))) : WP x L 0 [some (.ref p), some (.int a1)] [] M := by
  refine wp_iload_n (pc := 0) X dX3_hasFile_0 rfl rfl ?_
  refine wp_if_lt (pc := 1) (tgt := 16) X dX3_hasFile_1 (by decide) (fun hc => ?_) (fun hc => ?_)
  · replace h := h.1 hc
    refine wp_iconst (pc := 16) (v := nI 0) X dX3_hasFile_16 (by decide) ?_
    exact wp_zret (pc := 17) X T (by decide) dX3_hasFile_17 h
  · replace h := h.2 hc
    refine wp_iload_n (pc := 4) X dX3_hasFile_4 rfl rfl ?_
    refine wp_aload_n (pc := 5) X dX3_hasFile_5 rfl rfl ?_
    obtain ⟨v1, he2, h⟩ := h
    refine we_get (pc := 6) X fl_X3_21 A_p (by decide) (fg_3_3 A_p) he2 dX3_hasFile_6 ?_
    refine wp_icmp_ge (pc := 9) (tgt := 16) X dX3_hasFile_9 (by decide) (fun hc => ?_) (fun hc => ?_)
    · replace h := h.1 hc
      refine wp_iconst (pc := 16) (v := nI 0) X dX3_hasFile_16 (by decide) ?_
      exact wp_zret (pc := 17) X T (by decide) dX3_hasFile_17 h
    · replace h := h.2 hc
      refine wp_iconst (pc := 12) (v := nI 1) X dX3_hasFile_12 (by decide) ?_
      refine wp_goto (pc := 13) (tgt := 17) X dX3_hasFile_13 (by decide) ?_
      exact wp_zret (pc := 17) X T (by decide) dX3_hasFile_17 h
theorem r_X3_symbolsOf_0 {x : CT} {L : List Nat} {Q : Int32 → Mem → Prop} {M : Mem}  {p f : Nat} (X : BS x L cX3_symbolsOf 2 RX3 (m_X3_symbolsOf).2.2.2.2) (T : RT x L (some .int) Q) (A_p : AC L p 3 0) (A_p_1 : AC L (p + 1) 9 6) (A_p_2 : AC L (p + 2) 9 6)
    (h : f < 6 ∧ f < 6 ∧ Q ((M (p + 1) f) + (M (p + 2) f)) M) : WP x L 0 [some (.ref p), some (.int (nI f))] [] M := by
  refine wp_aload_n (pc := 0) X dX3_symbolsOf_0 rfl rfl ?_
  refine wp_get (pc := 1) X fl_X3_9 A_p (by decide) (fg_3_0 A_p) dX3_symbolsOf_1 ?_
  refine wp_iload_n (pc := 4) X dX3_symbolsOf_4 rfl rfl ?_
  obtain ⟨hj1, h⟩ := h
  refine wn_iald (pc := 5) X A_p_1 hj1 (by decide) dX3_symbolsOf_5 ?_
  refine wp_aload_n (pc := 6) X dX3_symbolsOf_6 rfl rfl ?_
  refine wp_get (pc := 7) X fl_X3_15 A_p (by decide) (fg_3_1 A_p) dX3_symbolsOf_7 ?_
  refine wp_iload_n (pc := 10) X dX3_symbolsOf_10 rfl rfl ?_
  obtain ⟨hj2, h⟩ := h
  refine wn_iald (pc := 11) X A_p_2 hj2 (by decide) dX3_symbolsOf_11 ?_
  refine wp_iadd (pc := 12) X dX3_symbolsOf_12 ?_
  exact wp_iret (pc := 13) X T dX3_symbolsOf_13 h
theorem r_X3_isTableTurn_0 {x : CT} {L : List Nat} {Q : Int32 → Mem → Prop} {M : Mem}  {p n : Nat} (X : BS x L cX3_isTableTurn 2 RX3 (m_X3_isTableTurn).2.2.2.2) (T : RT x L (some .boolean) Q) (A_p : AC L p 3 0)
    (h : ∃ v1 : Nat, M p 4 = nI v1 ∧ v1 < 2 ^ 31 ∧ (v1 = 0 → Q (nI 0) M) ∧ (0 < v1 → ∃ v3 : Nat, M p 4 = nI v3 ∧ n < 2 ^ 31 ∧ 0 < v3 ∧ v3 < 2 ^ 31 ∧ (n % v3) < 2 ^ 31 ∧ (0 < (n % v3) → Q (nI 0) M) ∧ ((n % v3) = 0 → Q (nI 1) M))) : WP x L 0 [some (.ref p), some (.int (nI n))] [] M := by
  refine wp_aload_n (pc := 0) X dX3_isTableTurn_0 rfl rfl ?_
  obtain ⟨v1, he2, h⟩ := h
  refine we_get (pc := 1) X fl_X3_29 A_p (by decide) (fg_3_4 A_p) he2 dX3_isTableTurn_1 ?_
  obtain ⟨hb9, h⟩ := h
  refine wn_if_le (pc := 4) (tgt := 20) X dX3_isTableTurn_4 (by decide) hb9 (fun hc => ?_) (fun hc => ?_)
  · replace h := h.1 hc
    refine wp_iconst (pc := 20) (v := nI 0) X dX3_isTableTurn_20 (by decide) ?_
    exact wp_zret (pc := 21) X T (by decide) dX3_isTableTurn_21 h
  · replace h := h.2 hc
    refine wp_iload_n (pc := 7) X dX3_isTableTurn_7 rfl rfl ?_
    refine wp_aload_n (pc := 8) X dX3_isTableTurn_8 rfl rfl ?_
    obtain ⟨v3, he4, h⟩ := h
    refine we_get (pc := 9) X fl_X3_29 A_p (by decide) (fg_3_4 A_p) he4 dX3_isTableTurn_9 ?_
    obtain ⟨hb5, hb6, hb7, h⟩ := h
    refine wn_irem (pc := 12) X dX3_isTableTurn_12 hb5 hb6 hb7 ?_
    obtain ⟨hb8, h⟩ := h
    refine wn_if_ne (pc := 13) (tgt := 20) X dX3_isTableTurn_13 (by decide) hb8 (fun hc => ?_) (fun hc => ?_)
    · replace h := h.1 hc
      refine wp_iconst (pc := 20) (v := nI 0) X dX3_isTableTurn_20 (by decide) ?_
      exact wp_zret (pc := 21) X T (by decide) dX3_isTableTurn_21 h
    · replace h := h.2 hc
      refine wp_iconst (pc := 16) (v := nI 1) X dX3_isTableTurn_16 (by decide) ?_
      refine wp_goto (pc := 17) (tgt := 21) X dX3_isTableTurn_17 (by decide) ?_
      exact wp_zret (pc := 21) X T (by decide) dX3_isTableTurn_21 h
theorem r_X3_become_0 {x : CT} {L : List Nat} {Q : Int32 → Mem → Prop} {M : Mem}  {p q : Nat} (X : BS x L cX3_become 2 RX3 (m_X3_become).2.2.2.2) (T : RT x L none Q) (A_q : AC L q 3 0) (A_p : AC L p 3 0) (A_q_1 : AC L (q + 1) 9 6) (A_p_1 : AC L (p + 1) 9 6) (A_q_2 : AC L (q + 2) 9 6) (A_p_2 : AC L (p + 2) 9 6) (A_q_3 : AC L (q + 3) 9 6) (A_p_3 : AC L (p + 3) 9 6)
    (h : ∃ v1 : Nat, (MC (MC (MC M (q + 1) (p + 1) 6) (q + 2) (p + 2) 6) (q + 3) (p + 3) 6) q 3 = nI v1 ∧ ∃ v3 : Nat, (MU (MC (MC (MC M (q + 1) (p + 1) 6) (q + 2) (p + 2) 6) (q + 3) (p + 3) 6) p 3 (nI v1)) q 4 = nI v3 ∧ Q 0 (MU (MU (MU (MC (MC (MC M (q + 1) (p + 1) 6) (q + 2) (p + 2) 6) (q + 3) (p + 3) 6) p 3 (nI v1)) p 4 (nI v3)) p 5 ((MU (MU (MC (MC (MC M (q + 1) (p + 1) 6) (q + 2) (p + 2) 6) (q + 3) (p + 3) 6) p 3 (nI v1)) p 4 (nI v3)) q 5))) : WP x L 0 [some (.ref p), some (.ref q)] [] M := by
  refine wp_aload_n (pc := 0) X dX3_become_0 rfl rfl ?_
  refine wp_get (pc := 1) X fl_X3_9 A_q (by decide) (fg_3_0 A_q) dX3_become_1 ?_
  refine wp_iconst (pc := 4) (v := nI 0) X dX3_become_4 (by decide) ?_
  refine wp_aload_n (pc := 5) X dX3_become_5 rfl rfl ?_
  refine wp_get (pc := 6) X fl_X3_9 A_p (by decide) (fg_3_0 A_p) dX3_become_6 ?_
  refine wp_iconst (pc := 9) (v := nI 0) X dX3_become_9 (by decide) ?_
  refine wp_bipush (pc := 10) (v := nI 6) X dX3_become_10 (by decide) ?_
  refine wp_copy (pc := 12) X k_365 k_242 k_241 k_43 A_q_1 A_p_1 (by decide) (by decide) (by decide) (by decide) (Nat.le_of_ble_eq_true rfl) dX3_become_12 ?_
  refine wp_aload_n (pc := 15) X dX3_become_15 rfl rfl ?_
  refine wp_get (pc := 16) X fl_X3_15 A_q (by decide) (fg_3_1 A_q) dX3_become_16 ?_
  refine wp_iconst (pc := 19) (v := nI 0) X dX3_become_19 (by decide) ?_
  refine wp_aload_n (pc := 20) X dX3_become_20 rfl rfl ?_
  refine wp_get (pc := 21) X fl_X3_15 A_p (by decide) (fg_3_1 A_p) dX3_become_21 ?_
  refine wp_iconst (pc := 24) (v := nI 0) X dX3_become_24 (by decide) ?_
  refine wp_bipush (pc := 25) (v := nI 6) X dX3_become_25 (by decide) ?_
  refine wp_copy (pc := 27) X k_365 k_242 k_241 k_43 A_q_2 A_p_2 (by decide) (by decide) (by decide) (by decide) (Nat.le_of_ble_eq_true rfl) dX3_become_27 ?_
  refine wp_aload_n (pc := 30) X dX3_become_30 rfl rfl ?_
  refine wp_get (pc := 31) X fl_X3_18 A_q (by decide) (fg_3_2 A_q) dX3_become_31 ?_
  refine wp_iconst (pc := 34) (v := nI 0) X dX3_become_34 (by decide) ?_
  refine wp_aload_n (pc := 35) X dX3_become_35 rfl rfl ?_
  refine wp_get (pc := 36) X fl_X3_18 A_p (by decide) (fg_3_2 A_p) dX3_become_36 ?_
  refine wp_iconst (pc := 39) (v := nI 0) X dX3_become_39 (by decide) ?_
  refine wp_bipush (pc := 40) (v := nI 6) X dX3_become_40 (by decide) ?_
  refine wp_copy (pc := 42) X k_365 k_242 k_241 k_43 A_q_3 A_p_3 (by decide) (by decide) (by decide) (by decide) (Nat.le_of_ble_eq_true rfl) dX3_become_42 ?_
  refine wp_aload_n (pc := 45) X dX3_become_45 rfl rfl ?_
  refine wp_aload_n (pc := 46) X dX3_become_46 rfl rfl ?_
  obtain ⟨v1, he2, h⟩ := h
  refine we_get (pc := 47) X fl_X3_21 A_q (by decide) (fg_3_3 A_q) he2 dX3_become_47 ?_
  refine wp_put (pc := 50) X fl_X3_21 fp_3_3 A_p (by decide) (fk_3_3 A_p) (fs_3_3 A_p _) dX3_become_50 ?_
  refine wp_aload_n (pc := 53) X dX3_become_53 rfl rfl ?_
  refine wp_aload_n (pc := 54) X dX3_become_54 rfl rfl ?_
  obtain ⟨v3, he4, h⟩ := h
  refine we_get (pc := 55) X fl_X3_29 A_q (by decide) (fg_3_4 A_q) he4 dX3_become_55 ?_
  refine wp_put (pc := 58) X fl_X3_29 fp_3_4 A_p (by decide) (fk_3_4 A_p) (fs_3_4 A_p _) dX3_become_58 ?_
  refine wp_aload_n (pc := 61) X dX3_become_61 rfl rfl ?_
  refine wp_aload_n (pc := 62) X dX3_become_62 rfl rfl ?_
  refine wp_get (pc := 63) X fl_X3_32 A_q (by decide) (fg_3_5 A_q) dX3_become_63 ?_
  refine wp_put (pc := 66) X fl_X3_32 fp_3_5 A_p (by decide) (fk_3_5 A_p) (fs_3_5 A_p _) dX3_become_66 ?_
  exact wp_ret (pc := 69) X T dX3_become_69 h
theorem r_X6_placeOf_0 {x : CT} {L : List Nat} {Q : Int32 → Mem → Prop} {M : Mem}  {n : Nat} (X : BS x L cX6_placeOf 1 RX6 (m_X6_placeOf).2.2.2.2) (T : RT x L (some .int) Q) 
    (h : CM m_J9_floorMod_7cf53 L [.int (nI n), .int (nI 10)] M (fun r2 M1 => Q r2 M1)) : WP x L 0 [some (.int (nI n))] [] M := by
  refine wp_iload_n (pc := 0) X dX6_placeOf_0 rfl rfl ?_
  refine wp_bipush (pc := 1) (v := nI 10) X dX6_placeOf_1 (by decide) ?_
  refine wp_invS (pc := 3) X sv_X6_90  rfl ⟨by decide, by decide⟩ (As := [.int (nI n), .int (nI 10)]) (st := []) rfl rfl (Nat.le_of_ble_eq_true rfl) dX6_placeOf_3 ?_
  refine CM.mono h (fun r2 M1 h => ?_)
  exact wp_iret (pc := 6) X T dX6_placeOf_6 h
theorem r_X6_fileIn_0 {x : CT} {L : List Nat} {Q : Int32 → Mem → Prop} {M : Mem}  {s n : Nat} (X : BS x L cX6_fileIn 2 RX6 (m_X6_fileIn).2.2.2.2) (T : RT x L (some .int) Q) (A_s : AC L s 6 0) (A_s_6 : AC L (s + 6) 9 10)
    (h : CM m_X6_placeOf L [.int (nI n)] M (fun r2 M1 => ∃ v3 : Nat, r2 = nI v3 ∧ v3 < 10 ∧ Q (M1 (s + 6) v3) M1)) : WP x L 0 [some (.ref s), some (.int (nI n))] [] M := by
  refine wp_aload_n (pc := 0) X dX6_fileIn_0 rfl rfl ?_
  refine wp_get (pc := 1) X fl_X6_27 A_s (by decide) (fg_6_6 A_s) dX6_fileIn_1 ?_
  refine wp_iload_n (pc := 4) X dX6_fileIn_4 rfl rfl ?_
  refine wp_invS (pc := 5) X sv_X6_87  rfl ⟨by decide, by decide⟩ (As := [.int (nI n)]) (st := [.ref (s + 6)]) rfl rfl (Nat.le_of_ble_eq_true rfl) dX6_fileIn_5 ?_
  refine CM.mono h (fun r2 M1 h => ?_)
  obtain ⟨v3, rfl, h⟩ := h
  obtain ⟨hj4, h⟩ := h
  refine wn_iald (pc := 8) X A_s_6 hj4 (by decide) dX6_fileIn_8 ?_
  exact wp_iret (pc := 9) X T dX6_fileIn_9 h
theorem r_X6_symbolIn_0 {x : CT} {L : List Nat} {Q : Int32 → Mem → Prop} {M : Mem}  {s n : Nat} (X : BS x L cX6_symbolIn 2 RX6 (m_X6_symbolIn).2.2.2.2) (T : RT x L (some .int) Q) (A_s : AC L s 6 0) (A_s_7 : AC L (s + 7) 9 10)
    (h : CM m_X6_placeOf L [.int (nI n)] M (fun r2 M1 => ∃ v3 : Nat, r2 = nI v3 ∧ v3 < 10 ∧ Q (M1 (s + 7) v3) M1)) : WP x L 0 [some (.ref s), some (.int (nI n))] [] M := by
  refine wp_aload_n (pc := 0) X dX6_symbolIn_0 rfl rfl ?_
  refine wp_get (pc := 1) X fl_X6_30 A_s (by decide) (fg_6_7 A_s) dX6_symbolIn_1 ?_
  refine wp_iload_n (pc := 4) X dX6_symbolIn_4 rfl rfl ?_
  refine wp_invS (pc := 5) X sv_X6_87  rfl ⟨by decide, by decide⟩ (As := [.int (nI n)]) (st := [.ref (s + 7)]) rfl rfl (Nat.le_of_ble_eq_true rfl) dX6_symbolIn_5 ?_
  refine CM.mono h (fun r2 M1 h => ?_)
  obtain ⟨v3, rfl, h⟩ := h
  obtain ⟨hj4, h⟩ := h
  refine wn_iald (pc := 8) X A_s_7 hj4 (by decide) dX6_symbolIn_8 ?_
  exact wp_iret (pc := 9) X T dX6_symbolIn_9 h
theorem r_X6_versionIn_0 {x : CT} {L : List Nat} {Q : Int32 → Mem → Prop} {M : Mem}  {s n : Nat} (X : BS x L cX6_versionIn 2 RX6 (m_X6_versionIn).2.2.2.2) (T : RT x L (some .int) Q) (A_s : AC L s 6 0) (A_s_8 : AC L (s + 8) 9 10)
    (h : CM m_X6_placeOf L [.int (nI n)] M (fun r2 M1 => ∃ v3 : Nat, r2 = nI v3 ∧ v3 < 10 ∧ Q (M1 (s + 8) v3) M1)) : WP x L 0 [some (.ref s), some (.int (nI n))] [] M := by
  refine wp_aload_n (pc := 0) X dX6_versionIn_0 rfl rfl ?_
  refine wp_get (pc := 1) X fl_X6_33 A_s (by decide) (fg_6_8 A_s) dX6_versionIn_1 ?_
  refine wp_iload_n (pc := 4) X dX6_versionIn_4 rfl rfl ?_
  refine wp_invS (pc := 5) X sv_X6_87  rfl ⟨by decide, by decide⟩ (As := [.int (nI n)]) (st := [.ref (s + 8)]) rfl rfl (Nat.le_of_ble_eq_true rfl) dX6_versionIn_5 ?_
  refine CM.mono h (fun r2 M1 h => ?_)
  obtain ⟨v3, rfl, h⟩ := h
  obtain ⟨hj4, h⟩ := h
  refine wn_iald (pc := 8) X A_s_8 hj4 (by decide) dX6_versionIn_8 ?_
  exact wp_iret (pc := 9) X T dX6_versionIn_9 h
theorem r_X6_note_0 {x : CT} {L : List Nat} {Q : Int32 → Mem → Prop} {M : Mem}  {s : Nat} {a1 a2 a3 : Int32} (X : BS x L cX6_note 5 RX6 (m_X6_note).2.2.2.2) (T : RT x L none Q) (A_s : AC L s 6 0) (A_s_6 : AC L (s + 6) 9 10) (A_s_7 : AC L (s + 7) 9 10) (A_s_8 : AC L (s + 8) 9 10)
    (h : ∃ v1 : Nat, M s 9 = nI v1 ∧ CM m_X6_placeOf L [.int (nI v1)] M (fun r4 M3 => ∃ v5 : Nat, r4 = nI v5 ∧ v5 < 10 ∧ v5 < 10 ∧ v5 < 10 ∧ Q 0 (MU (MU (MU M3 (s + 6) v5 a1) (s + 7) v5 a2) (s + 8) v5 a3))) : WP x L 0 [some (.ref s), some (.int a1), some (.int a2), some (.int a3), none] [] M := by
  refine wp_aload_n (pc := 0) X dX6_note_0 rfl rfl ?_
  obtain ⟨v1, he2, h⟩ := h
  refine we_get (pc := 1) X fl_X6_51 A_s (by decide) (fg_6_9 A_s) he2 dX6_note_1 ?_
  refine wp_invS (pc := 4) X sv_X6_87  rfl ⟨by decide, by decide⟩ (As := [.int (nI v1)]) (st := []) rfl rfl (Nat.le_of_ble_eq_true rfl) dX6_note_4 ?_
  refine CM.mono h (fun r4 M3 h => ?_)
  obtain ⟨v5, rfl, h⟩ := h
  refine wp_istore (pc := 7) (lo' := [some (.ref s), some (.int a1), some (.int a2), some (.int a3), some (.int (nI v5))]) X dX6_note_7 (Nat.le_of_ble_eq_true rfl) rfl rfl ?_
  refine wp_aload_n (pc := 9) X dX6_note_9 rfl rfl ?_
  refine wp_get (pc := 10) X fl_X6_27 A_s (by decide) (fg_6_6 A_s) dX6_note_10 ?_
  refine wp_iload (pc := 13) X dX6_note_13 rfl ?_
  refine wp_iload_n (pc := 15) X dX6_note_15 rfl rfl ?_
  obtain ⟨hj6, h⟩ := h
  refine wn_iast (pc := 16) X A_s_6 hj6 (by decide) dX6_note_16 ?_
  refine wp_aload_n (pc := 17) X dX6_note_17 rfl rfl ?_
  refine wp_get (pc := 18) X fl_X6_30 A_s (by decide) (fg_6_7 A_s) dX6_note_18 ?_
  refine wp_iload (pc := 21) X dX6_note_21 rfl ?_
  refine wp_iload_n (pc := 23) X dX6_note_23 rfl rfl ?_
  obtain ⟨hj7, h⟩ := h
  refine wn_iast (pc := 24) X A_s_7 hj7 (by decide) dX6_note_24 ?_
  refine wp_aload_n (pc := 25) X dX6_note_25 rfl rfl ?_
  refine wp_get (pc := 26) X fl_X6_33 A_s (by decide) (fg_6_8 A_s) dX6_note_26 ?_
  refine wp_iload (pc := 29) X dX6_note_29 rfl ?_
  refine wp_iload_n (pc := 31) X dX6_note_31 rfl rfl ?_
  obtain ⟨hj8, h⟩ := h
  refine wn_iast (pc := 32) X A_s_8 hj8 (by decide) dX6_note_32 ?_
  exact wp_ret (pc := 33) X T dX6_note_33 h
theorem r_X6_allWeights_0 {x : CT} {L : List Nat} {Q : Int32 → Mem → Prop} {M : Mem}  {s : Nat} (X : BS x L cX6_allWeights 3 RX6 (m_X6_allWeights).2.2.2.2) (T : RT x L (some .int) Q) 
    (h : WP x L 4 [some (.ref s), some (.int (nI 0)), some (.int (nI 0))] [] M) : WP x L 0 [some (.ref s), none, none] [] M := by
  refine wp_iconst (pc := 0) (v := nI 0) X dX6_allWeights_0 (by decide) ?_
  refine wp_istore_n (pc := 1) (lo' := [some (.ref s), some (.int (nI 0)), none]) X dX6_allWeights_1 rfl (Nat.le_of_ble_eq_true rfl) rfl rfl ?_
  refine wp_iconst (pc := 2) (v := nI 0) X dX6_allWeights_2 (by decide) ?_
  refine wp_istore_n (pc := 3) (lo' := [some (.ref s), some (.int (nI 0)), some (.int (nI 0))]) X dX6_allWeights_3 rfl (Nat.le_of_ble_eq_true rfl) rfl rfl ?_
  exact h
theorem r_X6_allWeights_4 {x : CT} {L : List Nat} {Q : Int32 → Mem → Prop} {M : Mem}  {s f : Nat} {a1 : Int32} (X : BS x L cX6_allWeights 3 RX6 (m_X6_allWeights).2.2.2.2) (T : RT x L (some .int) Q) (A_s : AC L s 6 0) (A_7 : AC L 7 3 0) (A_s_1 : AC L (s + 1) 9 6)
    (h : ∃ v1 : Nat, M 7 3 = nI v1 ∧ f < 2 ^ 31 ∧ v1 < 2 ^ 31 ∧ (v1 ≤ f → Q a1 M) ∧ (f < v1 → f < 6 ∧ WP x L 4 [some (.ref s), some (.int (a1 + (M (s + 1) f))), some (.int (nI (f + 1)))] [] M)) : WP x L 4 [some (.ref s), some (.int a1), some (.int (nI f))] [] M := by
  refine wp_iload_n (pc := 4) X dX6_allWeights_4 rfl rfl ?_
  refine wp_aload_n (pc := 5) X dX6_allWeights_5 rfl rfl ?_
  refine wp_get (pc := 6) X fl_X6_36 A_s (by decide) (fg_6_0 A_s) dX6_allWeights_6 ?_
  obtain ⟨v1, he2, h⟩ := h
  refine we_get (pc := 9) X fl_X6_80 A_7 (by decide) (fg_3_3 A_7) he2 dX6_allWeights_9 ?_
  obtain ⟨hb4, hb5, h⟩ := h
  refine wn_icmp_ge (pc := 12) (tgt := 30) X dX6_allWeights_12 (by decide) hb4 hb5 (fun hc => ?_) (fun hc => ?_)
  · replace h := h.1 hc
    refine wp_iload_n (pc := 30) X dX6_allWeights_30 rfl rfl ?_
    exact wp_iret (pc := 31) X T dX6_allWeights_31 h
  · replace h := h.2 hc
    refine wp_iload_n (pc := 15) X dX6_allWeights_15 rfl rfl ?_
    refine wp_aload_n (pc := 16) X dX6_allWeights_16 rfl rfl ?_
    refine wp_get (pc := 17) X fl_X6_9 A_s (by decide) (fg_6_1 A_s) dX6_allWeights_17 ?_
    refine wp_iload_n (pc := 20) X dX6_allWeights_20 rfl rfl ?_
    obtain ⟨hj3, h⟩ := h
    refine wn_iald (pc := 21) X A_s_1 hj3 (by decide) dX6_allWeights_21 ?_
    refine wp_iadd (pc := 22) X dX6_allWeights_22 ?_
    refine wp_istore_n (pc := 23) (lo' := [some (.ref s), some (.int (a1 + (M (s + 1) f))), some (.int (nI f))]) X dX6_allWeights_23 rfl (Nat.le_of_ble_eq_true rfl) rfl rfl ?_
    refine wn_iinc (pc := 24) (d := 1) (lo' := [some (.ref s), some (.int (a1 + (M (s + 1) f))), some (.int (nI (f + 1)))]) X dX6_allWeights_24 rfl (by decide) rfl rfl ?_
    refine wp_goto (pc := 27) (tgt := 4) X dX6_allWeights_27 (by decide) ?_
    exact h
theorem r_X6_chooseFile_0 {x : CT} {L : List Nat} {Q : Int32 → Mem → Prop} {M : Mem}  {s : Nat} (X : BS x L cX6_chooseFile 4 RX6 (m_X6_chooseFile).2.2.2.2) (T : RT x L (some .int) Q) (A_s : AC L s 6 0)
    (h : CM m_X6_allWeights L [.ref s] M (fun r2 M1 => WP x L 9 [some (.ref s), some (.int r2), some (.int (nI 0)), some (.int (nI 0))] [] M1)) : WP x L 0 [some (.ref s), none, none, none] [] M := by
  refine wp_aload_n (pc := 0) X dX6_chooseFile_0 rfl rfl ?_
  refine wp_invV (pc := 1) X sv_X6_77 A_s (by decide) rfl ⟨by decide, by decide⟩ (As := []) (st := []) rfl rfl (Nat.le_of_ble_eq_true rfl) dX6_chooseFile_1 ?_
  refine CM.mono h (fun r2 M1 h => ?_)
  refine wp_istore_n (pc := 4) (lo' := [some (.ref s), some (.int r2), none, none]) X dX6_chooseFile_4 rfl (Nat.le_of_ble_eq_true rfl) rfl rfl ?_
  refine wp_iconst (pc := 5) (v := nI 0) X dX6_chooseFile_5 (by decide) ?_
  refine wp_istore_n (pc := 6) (lo' := [some (.ref s), some (.int r2), some (.int (nI 0)), none]) X dX6_chooseFile_6 rfl (Nat.le_of_ble_eq_true rfl) rfl rfl ?_
  refine wp_iconst (pc := 7) (v := nI 0) X dX6_chooseFile_7 (by decide) ?_
  refine wp_istore_n (pc := 8) (lo' := [some (.ref s), some (.int r2), some (.int (nI 0)), some (.int (nI 0))]) X dX6_chooseFile_8 rfl (Nat.le_of_ble_eq_true rfl) rfl rfl ?_
  exact h
theorem r_X6_chooseFile_9 {x : CT} {L : List Nat} {Q : Int32 → Mem → Prop} {M : Mem}  {s b f : Nat} {a1 : Int32} (X : BS x L cX6_chooseFile 4 RX6 (m_X6_chooseFile).2.2.2.2) (T : RT x L (some .int) Q) (A_s : AC L s 6 0) (A_7 : AC L 7 3 0) (A_s_4 : AC L (s + 4) 9 6) (A_s_1 : AC L (s + 1) 9 6)
    (h : ∃ v1 : Nat, M 7 3 = nI v1 ∧ f < 2 ^ 31 ∧ v1 < 2 ^ 31 ∧ (v1 ≤ f → b < 6 ∧ b < 6 ∧ Q (nI b) (MU M (s + 4) b ((M (s + 4) b) - a1))) ∧ (f < v1 → f < 6 ∧ f < 6 ∧ f < 6 ∧ f < 6 ∧ b < 6 ∧ (((MU M (s + 4) f ((M (s + 4) f) + (M (s + 1) f))) (s + 4) f) ≤ ((MU M (s + 4) f ((M (s + 4) f) + (M (s + 1) f))) (s + 4) b) → WP x L 9 [some (.ref s), some (.int a1), some (.int (nI b)), some (.int (nI (f + 1)))] [] (MU M (s + 4) f ((M (s + 4) f) + (M (s + 1) f)))) ∧ (¬ ((MU M (s + 4) f ((M (s + 4) f) + (M (s + 1) f))) (s + 4) f) ≤ ((MU M (s + 4) f ((M (s + 4) f) + (M (s + 1) f))) (s + 4) b) → WP x L 9 [some (.ref s), some (.int a1), some (.int (nI f)), some (.int (nI (f + 1)))] [] (MU M (s + 4) f ((M (s + 4) f) + (M (s + 1) f)))))) : WP x L 9 [some (.ref s), some (.int a1), some (.int (nI b)), some (.int (nI f))] [] M := by
  refine wp_iload_n (pc := 9) X dX6_chooseFile_9 rfl rfl ?_
  refine wp_aload_n (pc := 10) X dX6_chooseFile_10 rfl rfl ?_
  refine wp_get (pc := 11) X fl_X6_36 A_s (by decide) (fg_6_0 A_s) dX6_chooseFile_11 ?_
  obtain ⟨v1, he2, h⟩ := h
  refine we_get (pc := 14) X fl_X6_80 A_7 (by decide) (fg_3_3 A_7) he2 dX6_chooseFile_14 ?_
  obtain ⟨hb10, hb11, h⟩ := h
  refine wn_icmp_ge (pc := 17) (tgt := 58) X dX6_chooseFile_17 (by decide) hb10 hb11 (fun hc => ?_) (fun hc => ?_)
  · replace h := h.1 hc
    refine wp_aload_n (pc := 58) X dX6_chooseFile_58 rfl rfl ?_
    refine wp_get (pc := 59) X fl_X6_21 A_s (by decide) (fg_6_4 A_s) dX6_chooseFile_59 ?_
    refine wp_iload_n (pc := 62) X dX6_chooseFile_62 rfl rfl ?_
    refine wp_dup2 (pc := 63) X dX6_chooseFile_63 rfl rfl ?_
    obtain ⟨hj3, h⟩ := h
    refine wn_iald (pc := 64) X A_s_4 hj3 (by decide) dX6_chooseFile_64 ?_
    refine wp_iload_n (pc := 65) X dX6_chooseFile_65 rfl rfl ?_
    refine wp_isub (pc := 66) X dX6_chooseFile_66 ?_
    obtain ⟨hj4, h⟩ := h
    refine wn_iast (pc := 67) X A_s_4 hj4 (by decide) dX6_chooseFile_67 ?_
    refine wp_iload_n (pc := 68) X dX6_chooseFile_68 rfl rfl ?_
    exact wp_iret (pc := 69) X T dX6_chooseFile_69 h
  · replace h := h.2 hc
    refine wp_aload_n (pc := 20) X dX6_chooseFile_20 rfl rfl ?_
    refine wp_get (pc := 21) X fl_X6_21 A_s (by decide) (fg_6_4 A_s) dX6_chooseFile_21 ?_
    refine wp_iload_n (pc := 24) X dX6_chooseFile_24 rfl rfl ?_
    refine wp_dup2 (pc := 25) X dX6_chooseFile_25 rfl rfl ?_
    obtain ⟨hj5, h⟩ := h
    refine wn_iald (pc := 26) X A_s_4 hj5 (by decide) dX6_chooseFile_26 ?_
    refine wp_aload_n (pc := 27) X dX6_chooseFile_27 rfl rfl ?_
    refine wp_get (pc := 28) X fl_X6_9 A_s (by decide) (fg_6_1 A_s) dX6_chooseFile_28 ?_
    refine wp_iload_n (pc := 31) X dX6_chooseFile_31 rfl rfl ?_
    obtain ⟨hj6, h⟩ := h
    refine wn_iald (pc := 32) X A_s_1 hj6 (by decide) dX6_chooseFile_32 ?_
    refine wp_iadd (pc := 33) X dX6_chooseFile_33 ?_
    obtain ⟨hj7, h⟩ := h
    refine wn_iast (pc := 34) X A_s_4 hj7 (by decide) dX6_chooseFile_34 ?_
    refine wp_aload_n (pc := 35) X dX6_chooseFile_35 rfl rfl ?_
    refine wp_get (pc := 36) X fl_X6_21 A_s (by decide) (fg_6_4 A_s) dX6_chooseFile_36 ?_
    refine wp_iload_n (pc := 39) X dX6_chooseFile_39 rfl rfl ?_
    obtain ⟨hj8, h⟩ := h
    refine wn_iald (pc := 40) X A_s_4 hj8 (by decide) dX6_chooseFile_40 ?_
    refine wp_aload_n (pc := 41) X dX6_chooseFile_41 rfl rfl ?_
    refine wp_get (pc := 42) X fl_X6_21 A_s (by decide) (fg_6_4 A_s) dX6_chooseFile_42 ?_
    refine wp_iload_n (pc := 45) X dX6_chooseFile_45 rfl rfl ?_
    obtain ⟨hj9, h⟩ := h
    refine wn_iald (pc := 46) X A_s_4 hj9 (by decide) dX6_chooseFile_46 ?_
    refine wp_icmp_le (pc := 47) (tgt := 52) X dX6_chooseFile_47 (by decide) (fun hc => ?_) (fun hc => ?_)
    · replace h := h.1 hc
      refine wn_iinc (pc := 52) (d := 1) (lo' := [some (.ref s), some (.int a1), some (.int (nI b)), some (.int (nI (f + 1)))]) X dX6_chooseFile_52 rfl (by decide) rfl rfl ?_
      refine wp_goto (pc := 55) (tgt := 9) X dX6_chooseFile_55 (by decide) ?_
      exact h
    · replace h := h.2 hc
      refine wp_iload_n (pc := 50) X dX6_chooseFile_50 rfl rfl ?_
      refine wp_istore_n (pc := 51) (lo' := [some (.ref s), some (.int a1), some (.int (nI f)), some (.int (nI f))]) X dX6_chooseFile_51 rfl (Nat.le_of_ble_eq_true rfl) rfl rfl ?_
      refine wn_iinc (pc := 52) (d := 1) (lo' := [some (.ref s), some (.int a1), some (.int (nI f)), some (.int (nI (f + 1)))]) X dX6_chooseFile_52 rfl (by decide) rfl rfl ?_
      refine wp_goto (pc := 55) (tgt := 9) X dX6_chooseFile_55 (by decide) ?_
      exact h
theorem r_X6_sendSymbol_0 {x : CT} {L : List Nat} {Q : Int32 → Mem → Prop} {M : Mem}  {s f : Nat} (X : BS x L cX6_sendSymbol 3 RX6 (m_X6_sendSymbol).2.2.2.2) (T : RT x L none Q) (A_s : AC L s 6 0) (A_s_3 : AC L (s + 3) 9 6) (A_s_2 : AC L (s + 2) 9 6) (A_7 : AC L 7 3 0) (A_s_5 : AC L (s + 5) 9 6)
    (h : f < 6 ∧ f < 6 ∧ CM m_X6_note L [.ref s, .int (nI f), .int (M (s + 3) f), .int (M (s + 2) f)] M (fun _ M3 => CM m_X3_symbolsOf L [.ref 7, .int (nI f)] M3 (fun r6 M5 => (r6 ≤ ((M (s + 3) f) + (nI 1)) → f < 6 ∧ f < 6 ∧ f < 6 ∧ Q 0 (MU (MU (MU M5 (s + 3) f (nI 0)) (s + 5) f (((MU M5 (s + 3) f (nI 0)) (s + 5) f) + (nI 1))) s 11 (((MU (MU M5 (s + 3) f (nI 0)) (s + 5) f (((MU M5 (s + 3) f (nI 0)) (s + 5) f) + (nI 1))) s 11) + (nI 1)))) ∧ (¬ r6 ≤ ((M (s + 3) f) + (nI 1)) → f < 6 ∧ f < 6 ∧ f < 6 ∧ Q 0 (MU (MU (MU M5 (s + 3) f ((M (s + 3) f) + (nI 1))) (s + 5) f (((MU M5 (s + 3) f ((M (s + 3) f) + (nI 1))) (s + 5) f) + (nI 1))) s 11 (((MU (MU M5 (s + 3) f ((M (s + 3) f) + (nI 1))) (s + 5) f (((MU M5 (s + 3) f ((M (s + 3) f) + (nI 1))) (s + 5) f) + (nI 1))) s 11) + (nI 1))))))) : WP x L 0 [some (.ref s), some (.int (nI f)), none] [] M := by
  refine wp_aload_n (pc := 0) X dX6_sendSymbol_0 rfl rfl ?_
  refine wp_get (pc := 1) X fl_X6_18 A_s (by decide) (fg_6_3 A_s) dX6_sendSymbol_1 ?_
  refine wp_iload_n (pc := 4) X dX6_sendSymbol_4 rfl rfl ?_
  obtain ⟨hj1, h⟩ := h
  refine wn_iald (pc := 5) X A_s_3 hj1 (by decide) dX6_sendSymbol_5 ?_
  refine wp_istore_n (pc := 6) (lo' := [some (.ref s), some (.int (nI f)), some (.int (M (s + 3) f))]) X dX6_sendSymbol_6 rfl (Nat.le_of_ble_eq_true rfl) rfl rfl ?_
  refine wp_aload_n (pc := 7) X dX6_sendSymbol_7 rfl rfl ?_
  refine wp_iload_n (pc := 8) X dX6_sendSymbol_8 rfl rfl ?_
  refine wp_iload_n (pc := 9) X dX6_sendSymbol_9 rfl rfl ?_
  refine wp_aload_n (pc := 10) X dX6_sendSymbol_10 rfl rfl ?_
  refine wp_get (pc := 11) X fl_X6_15 A_s (by decide) (fg_6_2 A_s) dX6_sendSymbol_11 ?_
  refine wp_iload_n (pc := 14) X dX6_sendSymbol_14 rfl rfl ?_
  obtain ⟨hj2, h⟩ := h
  refine wn_iald (pc := 15) X A_s_2 hj2 (by decide) dX6_sendSymbol_15 ?_
  refine wp_invVv (pc := 16) X sv_X6_65 A_s (by decide) rfl ⟨by decide, by decide⟩ (As := [.int (nI f), .int (M (s + 3) f), .int (M (s + 2) f)]) (st := []) rfl rfl (Nat.le_of_ble_eq_true rfl) dX6_sendSymbol_16 ?_
  refine CM.mono h (fun _ M3 h => ?_)
  refine wp_aload_n (pc := 19) X dX6_sendSymbol_19 rfl rfl ?_
  refine wp_get (pc := 20) X fl_X6_18 A_s (by decide) (fg_6_3 A_s) dX6_sendSymbol_20 ?_
  refine wp_iload_n (pc := 23) X dX6_sendSymbol_23 rfl rfl ?_
  refine wp_iload_n (pc := 24) X dX6_sendSymbol_24 rfl rfl ?_
  refine wp_iconst (pc := 25) (v := nI 1) X dX6_sendSymbol_25 (by decide) ?_
  refine wp_iadd (pc := 26) X dX6_sendSymbol_26 ?_
  refine wp_aload_n (pc := 27) X dX6_sendSymbol_27 rfl rfl ?_
  refine wp_get (pc := 28) X fl_X6_36 A_s (by decide) (fg_6_0 A_s) dX6_sendSymbol_28 ?_
  refine wp_iload_n (pc := 31) X dX6_sendSymbol_31 rfl rfl ?_
  refine wp_invV (pc := 32) X sv_X6_83 A_7 (by decide) rfl ⟨by decide, by decide⟩ (As := [.int (nI f)]) (st := [.int ((M (s + 3) f) + (nI 1)), .int (nI f), .ref (s + 3)]) rfl rfl (Nat.le_of_ble_eq_true rfl) dX6_sendSymbol_32 ?_
  refine CM.mono h (fun r6 M5 h => ?_)
  refine wp_icmp_ge (pc := 35) (tgt := 44) X dX6_sendSymbol_35 (by decide) (fun hc => ?_) (fun hc => ?_)
  · replace h := h.1 hc
    refine wp_iconst (pc := 44) (v := nI 0) X dX6_sendSymbol_44 (by decide) ?_
    obtain ⟨hj7, h⟩ := h
    refine wn_iast (pc := 45) X A_s_3 hj7 (by decide) dX6_sendSymbol_45 ?_
    refine wp_aload_n (pc := 46) X dX6_sendSymbol_46 rfl rfl ?_
    refine wp_get (pc := 47) X fl_X6_24 A_s (by decide) (fg_6_5 A_s) dX6_sendSymbol_47 ?_
    refine wp_iload_n (pc := 50) X dX6_sendSymbol_50 rfl rfl ?_
    refine wp_dup2 (pc := 51) X dX6_sendSymbol_51 rfl rfl ?_
    obtain ⟨hj8, h⟩ := h
    refine wn_iald (pc := 52) X A_s_5 hj8 (by decide) dX6_sendSymbol_52 ?_
    refine wp_iconst (pc := 53) (v := nI 1) X dX6_sendSymbol_53 (by decide) ?_
    refine wp_iadd (pc := 54) X dX6_sendSymbol_54 ?_
    obtain ⟨hj9, h⟩ := h
    refine wn_iast (pc := 55) X A_s_5 hj9 (by decide) dX6_sendSymbol_55 ?_
    refine wp_aload_n (pc := 56) X dX6_sendSymbol_56 rfl rfl ?_
    refine wp_dup (pc := 57) X dX6_sendSymbol_57 rfl ?_
    refine wp_get (pc := 58) X fl_X6_58 A_s (by decide) (fg_6_11 A_s) dX6_sendSymbol_58 ?_
    refine wp_iconst (pc := 61) (v := nI 1) X dX6_sendSymbol_61 (by decide) ?_
    refine wp_iadd (pc := 62) X dX6_sendSymbol_62 ?_
    refine wp_put (pc := 63) X fl_X6_58 fp_6_11 A_s (by decide) (fk_6_11 A_s) (fs_6_11 A_s _) dX6_sendSymbol_63 ?_
    exact wp_ret (pc := 66) X T dX6_sendSymbol_66 h
  · replace h := h.2 hc
    refine wp_iload_n (pc := 38) X dX6_sendSymbol_38 rfl rfl ?_
    refine wp_iconst (pc := 39) (v := nI 1) X dX6_sendSymbol_39 (by decide) ?_
    refine wp_iadd (pc := 40) X dX6_sendSymbol_40 ?_
    refine wp_goto (pc := 41) (tgt := 45) X dX6_sendSymbol_41 (by decide) ?_
    obtain ⟨hj10, h⟩ := h
    refine wn_iast (pc := 45) X A_s_3 hj10 (by decide) dX6_sendSymbol_45 ?_
    refine wp_aload_n (pc := 46) X dX6_sendSymbol_46 rfl rfl ?_
    refine wp_get (pc := 47) X fl_X6_24 A_s (by decide) (fg_6_5 A_s) dX6_sendSymbol_47 ?_
    refine wp_iload_n (pc := 50) X dX6_sendSymbol_50 rfl rfl ?_
    refine wp_dup2 (pc := 51) X dX6_sendSymbol_51 rfl rfl ?_
    obtain ⟨hj11, h⟩ := h
    refine wn_iald (pc := 52) X A_s_5 hj11 (by decide) dX6_sendSymbol_52 ?_
    refine wp_iconst (pc := 53) (v := nI 1) X dX6_sendSymbol_53 (by decide) ?_
    refine wp_iadd (pc := 54) X dX6_sendSymbol_54 ?_
    obtain ⟨hj12, h⟩ := h
    refine wn_iast (pc := 55) X A_s_5 hj12 (by decide) dX6_sendSymbol_55 ?_
    refine wp_aload_n (pc := 56) X dX6_sendSymbol_56 rfl rfl ?_
    refine wp_dup (pc := 57) X dX6_sendSymbol_57 rfl ?_
    refine wp_get (pc := 58) X fl_X6_58 A_s (by decide) (fg_6_11 A_s) dX6_sendSymbol_58 ?_
    refine wp_iconst (pc := 61) (v := nI 1) X dX6_sendSymbol_61 (by decide) ?_
    refine wp_iadd (pc := 62) X dX6_sendSymbol_62 ?_
    refine wp_put (pc := 63) X fl_X6_58 fp_6_11 A_s (by decide) (fk_6_11 A_s) (fs_6_11 A_s _) dX6_sendSymbol_63 ?_
    exact wp_ret (pc := 66) X T dX6_sendSymbol_66 h
theorem r_X6_step_0 {x : CT} {L : List Nat} {Q : Int32 → Mem → Prop} {M : Mem}  {s : Nat} (X : BS x L cX6_step 1 RX6 (m_X6_step).2.2.2.2) (T : RT x L none Q) (A_s : AC L s 6 0) (A_7 : AC L 7 3 0)
    (h : ∃ v1 : Nat, M s 9 = nI v1 ∧ CM m_X3_isTableTurn L [.ref 7, .int (nI v1)] M (fun r4 M3 => (r4 = 0 → CM m_X6_chooseFile L [.ref s] M3 (fun r6 M5 => CM m_X6_sendSymbol L [.ref s, .int r6] M5 (fun _ M7 => ∃ v9 : Nat, M7 s 9 = nI v9 ∧ Q 0 (MU M7 s 9 (nI (v9 + 1)))))) ∧ (¬ r4 = 0 → CM m_X6_note L [.ref s, .int (-4), .int (-4), .int (-4)] M3 (fun _ M11 => ∃ v13 : Nat, (MU M11 s 10 ((M11 s 10) + (nI 1))) s 9 = nI v13 ∧ Q 0 (MU (MU M11 s 10 ((M11 s 10) + (nI 1))) s 9 (nI (v13 + 1))))))) : WP x L 0 [some (.ref s)] [] M := by
  refine wp_aload_n (pc := 0) X dX6_step_0 rfl rfl ?_
  refine wp_get (pc := 1) X fl_X6_36 A_s (by decide) (fg_6_0 A_s) dX6_step_1 ?_
  refine wp_aload_n (pc := 4) X dX6_step_4 rfl rfl ?_
  obtain ⟨v1, he2, h⟩ := h
  refine we_get (pc := 5) X fl_X6_51 A_s (by decide) (fg_6_9 A_s) he2 dX6_step_5 ?_
  refine wp_invV (pc := 8) X sv_X6_61 A_7 (by decide) rfl ⟨by decide, by decide⟩ (As := [.int (nI v1)]) (st := []) rfl rfl (Nat.le_of_ble_eq_true rfl) dX6_step_8 ?_
  refine CM.mono h (fun r4 M3 h => ?_)
  refine wp_if_eq (pc := 11) (tgt := 37) X dX6_step_11 (by decide) (fun hc => ?_) (fun hc => ?_)
  · replace h := h.1 hc
    refine wp_aload_n (pc := 37) X dX6_step_37 rfl rfl ?_
    refine wp_aload_n (pc := 38) X dX6_step_38 rfl rfl ?_
    refine wp_invV (pc := 39) X sv_X6_69 A_s (by decide) rfl ⟨by decide, by decide⟩ (As := []) (st := [.ref s]) rfl rfl (Nat.le_of_ble_eq_true rfl) dX6_step_39 ?_
    refine CM.mono h (fun r6 M5 h => ?_)
    refine wp_invVv (pc := 42) X sv_X6_73 A_s (by decide) rfl ⟨by decide, by decide⟩ (As := [.int r6]) (st := []) rfl rfl (Nat.le_of_ble_eq_true rfl) dX6_step_42 ?_
    refine CM.mono h (fun _ M7 h => ?_)
    refine wp_aload_n (pc := 45) X dX6_step_45 rfl rfl ?_
    refine wp_dup (pc := 46) X dX6_step_46 rfl ?_
    obtain ⟨v9, he10, h⟩ := h
    refine we_get (pc := 47) X fl_X6_51 A_s (by decide) (fg_6_9 A_s) he10 dX6_step_47 ?_
    refine wp_iconst (pc := 50) (v := nI 1) X dX6_step_50 (by decide) ?_
    refine wn_iadd (pc := 51) X dX6_step_51 ?_
    refine wp_put (pc := 52) X fl_X6_51 fp_6_9 A_s (by decide) (fk_6_9 A_s) (fs_6_9 A_s _) dX6_step_52 ?_
    exact wp_ret (pc := 55) X T dX6_step_55 h
  · replace h := h.2 hc
    refine wp_aload_n (pc := 14) X dX6_step_14 rfl rfl ?_
    refine wp_bipush (pc := 15) (v := (-4)) X dX6_step_15 (by decide) ?_
    refine wp_bipush (pc := 17) (v := (-4)) X dX6_step_17 (by decide) ?_
    refine wp_bipush (pc := 19) (v := (-4)) X dX6_step_19 (by decide) ?_
    refine wp_invVv (pc := 21) X sv_X6_65 A_s (by decide) rfl ⟨by decide, by decide⟩ (As := [.int (-4), .int (-4), .int (-4)]) (st := []) rfl rfl (Nat.le_of_ble_eq_true rfl) dX6_step_21 ?_
    refine CM.mono h (fun _ M11 h => ?_)
    refine wp_aload_n (pc := 24) X dX6_step_24 rfl rfl ?_
    refine wp_dup (pc := 25) X dX6_step_25 rfl ?_
    refine wp_get (pc := 26) X fl_X6_55 A_s (by decide) (fg_6_10 A_s) dX6_step_26 ?_
    refine wp_iconst (pc := 29) (v := nI 1) X dX6_step_29 (by decide) ?_
    refine wp_iadd (pc := 30) X dX6_step_30 ?_
    refine wp_put (pc := 31) X fl_X6_55 fp_6_10 A_s (by decide) (fk_6_10 A_s) (fs_6_10 A_s _) dX6_step_31 ?_
    refine wp_goto (pc := 34) (tgt := 45) X dX6_step_34 (by decide) ?_
    refine wp_aload_n (pc := 45) X dX6_step_45 rfl rfl ?_
    refine wp_dup (pc := 46) X dX6_step_46 rfl ?_
    obtain ⟨v13, he14, h⟩ := h
    refine we_get (pc := 47) X fl_X6_51 A_s (by decide) (fg_6_9 A_s) he14 dX6_step_47 ?_
    refine wp_iconst (pc := 50) (v := nI 1) X dX6_step_50 (by decide) ?_
    refine wn_iadd (pc := 51) X dX6_step_51 ?_
    refine wp_put (pc := 52) X fl_X6_51 fp_6_9 A_s (by decide) (fk_6_9 A_s) (fs_6_9 A_s _) dX6_step_52 ?_
    exact wp_ret (pc := 55) X T dX6_step_55 h
theorem r_X6_startNewVersion_0 {x : CT} {L : List Nat} {Q : Int32 → Mem → Prop} {M : Mem}  {s f : Nat} (X : BS x L cX6_startNewVersion 2 RX6 (m_X6_startNewVersion).2.2.2.2) (T : RT x L (some .int) Q) (A_s : AC L s 6 0) (A_s_2 : AC L (s + 2) 9 6) (A_s_3 : AC L (s + 3) 9 6)
    (h : f < 6 ∧ ((nI 99) ≤ (M (s + 2) f) → f < 6 ∧ f < 6 ∧ f < 6 ∧ Q ((MU (MU M (s + 2) f (nI 0)) (s + 3) f (nI 0)) (s + 2) f) (MU (MU M (s + 2) f (nI 0)) (s + 3) f (nI 0))) ∧ (¬ (nI 99) ≤ (M (s + 2) f) → f < 6 ∧ f < 6 ∧ f < 6 ∧ f < 6 ∧ Q ((MU (MU M (s + 2) f ((M (s + 2) f) + (nI 1))) (s + 3) f (nI 0)) (s + 2) f) (MU (MU M (s + 2) f ((M (s + 2) f) + (nI 1))) (s + 3) f (nI 0)))) : WP x L 0 [some (.ref s), some (.int (nI f))] [] M := by
  refine wp_aload_n (pc := 0) X dX6_startNewVersion_0 rfl rfl ?_
  refine wp_get (pc := 1) X fl_X6_15 A_s (by decide) (fg_6_2 A_s) dX6_startNewVersion_1 ?_
  refine wp_iload_n (pc := 4) X dX6_startNewVersion_4 rfl rfl ?_
  refine wp_aload_n (pc := 5) X dX6_startNewVersion_5 rfl rfl ?_
  refine wp_get (pc := 6) X fl_X6_15 A_s (by decide) (fg_6_2 A_s) dX6_startNewVersion_6 ?_
  refine wp_iload_n (pc := 9) X dX6_startNewVersion_9 rfl rfl ?_
  obtain ⟨hj1, h⟩ := h
  refine wn_iald (pc := 10) X A_s_2 hj1 (by decide) dX6_startNewVersion_10 ?_
  refine wp_bipush (pc := 11) (v := nI 99) X dX6_startNewVersion_11 (by decide) ?_
  refine wp_icmp_ge (pc := 13) (tgt := 27) X dX6_startNewVersion_13 (by decide) (fun hc => ?_) (fun hc => ?_)
  · replace h := h.1 hc
    refine wp_iconst (pc := 27) (v := nI 0) X dX6_startNewVersion_27 (by decide) ?_
    obtain ⟨hj2, h⟩ := h
    refine wn_iast (pc := 28) X A_s_2 hj2 (by decide) dX6_startNewVersion_28 ?_
    refine wp_aload_n (pc := 29) X dX6_startNewVersion_29 rfl rfl ?_
    refine wp_get (pc := 30) X fl_X6_18 A_s (by decide) (fg_6_3 A_s) dX6_startNewVersion_30 ?_
    refine wp_iload_n (pc := 33) X dX6_startNewVersion_33 rfl rfl ?_
    refine wp_iconst (pc := 34) (v := nI 0) X dX6_startNewVersion_34 (by decide) ?_
    obtain ⟨hj3, h⟩ := h
    refine wn_iast (pc := 35) X A_s_3 hj3 (by decide) dX6_startNewVersion_35 ?_
    refine wp_aload_n (pc := 36) X dX6_startNewVersion_36 rfl rfl ?_
    refine wp_get (pc := 37) X fl_X6_15 A_s (by decide) (fg_6_2 A_s) dX6_startNewVersion_37 ?_
    refine wp_iload_n (pc := 40) X dX6_startNewVersion_40 rfl rfl ?_
    obtain ⟨hj4, h⟩ := h
    refine wn_iald (pc := 41) X A_s_2 hj4 (by decide) dX6_startNewVersion_41 ?_
    exact wp_iret (pc := 42) X T dX6_startNewVersion_42 h
  · replace h := h.2 hc
    refine wp_aload_n (pc := 16) X dX6_startNewVersion_16 rfl rfl ?_
    refine wp_get (pc := 17) X fl_X6_15 A_s (by decide) (fg_6_2 A_s) dX6_startNewVersion_17 ?_
    refine wp_iload_n (pc := 20) X dX6_startNewVersion_20 rfl rfl ?_
    obtain ⟨hj5, h⟩ := h
    refine wn_iald (pc := 21) X A_s_2 hj5 (by decide) dX6_startNewVersion_21 ?_
    refine wp_iconst (pc := 22) (v := nI 1) X dX6_startNewVersion_22 (by decide) ?_
    refine wp_iadd (pc := 23) X dX6_startNewVersion_23 ?_
    refine wp_goto (pc := 24) (tgt := 28) X dX6_startNewVersion_24 (by decide) ?_
    obtain ⟨hj6, h⟩ := h
    refine wn_iast (pc := 28) X A_s_2 hj6 (by decide) dX6_startNewVersion_28 ?_
    refine wp_aload_n (pc := 29) X dX6_startNewVersion_29 rfl rfl ?_
    refine wp_get (pc := 30) X fl_X6_18 A_s (by decide) (fg_6_3 A_s) dX6_startNewVersion_30 ?_
    refine wp_iload_n (pc := 33) X dX6_startNewVersion_33 rfl rfl ?_
    refine wp_iconst (pc := 34) (v := nI 0) X dX6_startNewVersion_34 (by decide) ?_
    obtain ⟨hj7, h⟩ := h
    refine wn_iast (pc := 35) X A_s_3 hj7 (by decide) dX6_startNewVersion_35 ?_
    refine wp_aload_n (pc := 36) X dX6_startNewVersion_36 rfl rfl ?_
    refine wp_get (pc := 37) X fl_X6_15 A_s (by decide) (fg_6_2 A_s) dX6_startNewVersion_37 ?_
    refine wp_iload_n (pc := 40) X dX6_startNewVersion_40 rfl rfl ?_
    obtain ⟨hj8, h⟩ := h
    refine wn_iald (pc := 41) X A_s_2 hj8 (by decide) dX6_startNewVersion_41 ?_
    exact wp_iret (pc := 42) X T dX6_startNewVersion_42 h
theorem r_X6_begin_0 {x : CT} {L : List Nat} {Q : Int32 → Mem → Prop} {M : Mem}  {s : Nat} (X : BS x L cX6_begin 2 RX6 (m_X6_begin).2.2.2.2) (T : RT x L none Q) (A_s : AC L s 6 0) (A_7 : AC L 7 3 0) (A_10 : AC L 10 9 6) (A_s_1 : AC L (s + 1) 9 6)
    (h : WP x L 20 [some (.ref s), some (.int (nI 0))] [] (MC M 10 (s + 1) 6)) : WP x L 0 [some (.ref s), none] [] M := by
  refine wp_aload_n (pc := 0) X dX6_begin_0 rfl rfl ?_
  refine wp_get (pc := 1) X fl_X6_36 A_s (by decide) (fg_6_0 A_s) dX6_begin_1 ?_
  refine wp_get (pc := 4) X fl_X6_40 A_7 (by decide) (fg_3_2 A_7) dX6_begin_4 ?_
  refine wp_iconst (pc := 7) (v := nI 0) X dX6_begin_7 (by decide) ?_
  refine wp_aload_n (pc := 8) X dX6_begin_8 rfl rfl ?_
  refine wp_get (pc := 9) X fl_X6_9 A_s (by decide) (fg_6_1 A_s) dX6_begin_9 ?_
  refine wp_iconst (pc := 12) (v := nI 0) X dX6_begin_12 (by decide) ?_
  refine wp_bipush (pc := 13) (v := nI 6) X dX6_begin_13 (by decide) ?_
  refine wp_copy (pc := 15) X k_240 k_242 k_241 k_43 A_10 A_s_1 (by decide) (by decide) (by decide) (by decide) (Nat.le_of_ble_eq_true rfl) dX6_begin_15 ?_
  refine wp_iconst (pc := 18) (v := nI 0) X dX6_begin_18 (by decide) ?_
  refine wp_istore_n (pc := 19) (lo' := [some (.ref s), some (.int (nI 0))]) X dX6_begin_19 rfl (Nat.le_of_ble_eq_true rfl) rfl rfl ?_
  exact h
theorem r_X6_begin_20 {x : CT} {L : List Nat} {Q : Int32 → Mem → Prop} {M : Mem}  {s f : Nat} (X : BS x L cX6_begin 2 RX6 (m_X6_begin).2.2.2.2) (T : RT x L none Q) (A_s : AC L s 6 0) (A_s_2 : AC L (s + 2) 9 6) (A_s_3 : AC L (s + 3) 9 6) (A_s_4 : AC L (s + 4) 9 6) (A_s_5 : AC L (s + 5) 9 6)
    (h : f < 2 ^ 31 ∧ (6 ≤ f → Q 0 (MU (MU (MU M s 9 (nI 0)) s 10 (nI 0)) s 11 (nI 0))) ∧ (f < 6 → f < 6 ∧ f < 6 ∧ f < 6 ∧ f < 6 ∧ WP x L 20 [some (.ref s), some (.int (nI (f + 1)))] [] (MU (MU (MU (MU M (s + 2) f (nI 0)) (s + 3) f (nI 0)) (s + 4) f (nI 0)) (s + 5) f (nI 0)))) : WP x L 20 [some (.ref s), some (.int (nI f))] [] M := by
  refine wp_iload_n (pc := 20) X dX6_begin_20 rfl rfl ?_
  refine wp_bipush (pc := 21) (v := nI 6) X dX6_begin_21 (by decide) ?_
  obtain ⟨hb5, h⟩ := h
  refine wn_icmp_ge (pc := 23) (tgt := 60) X dX6_begin_23 (by decide) hb5 (by decide) (fun hc => ?_) (fun hc => ?_)
  · replace h := h.1 hc
    refine wp_aload_n (pc := 60) X dX6_begin_60 rfl rfl ?_
    refine wp_iconst (pc := 61) (v := nI 0) X dX6_begin_61 (by decide) ?_
    refine wp_put (pc := 62) X fl_X6_51 fp_6_9 A_s (by decide) (fk_6_9 A_s) (fs_6_9 A_s _) dX6_begin_62 ?_
    refine wp_aload_n (pc := 65) X dX6_begin_65 rfl rfl ?_
    refine wp_iconst (pc := 66) (v := nI 0) X dX6_begin_66 (by decide) ?_
    refine wp_put (pc := 67) X fl_X6_55 fp_6_10 A_s (by decide) (fk_6_10 A_s) (fs_6_10 A_s _) dX6_begin_67 ?_
    refine wp_aload_n (pc := 70) X dX6_begin_70 rfl rfl ?_
    refine wp_iconst (pc := 71) (v := nI 0) X dX6_begin_71 (by decide) ?_
    refine wp_put (pc := 72) X fl_X6_58 fp_6_11 A_s (by decide) (fk_6_11 A_s) (fs_6_11 A_s _) dX6_begin_72 ?_
    exact wp_ret (pc := 75) X T dX6_begin_75 h
  · replace h := h.2 hc
    refine wp_aload_n (pc := 26) X dX6_begin_26 rfl rfl ?_
    refine wp_get (pc := 27) X fl_X6_15 A_s (by decide) (fg_6_2 A_s) dX6_begin_27 ?_
    refine wp_iload_n (pc := 30) X dX6_begin_30 rfl rfl ?_
    refine wp_iconst (pc := 31) (v := nI 0) X dX6_begin_31 (by decide) ?_
    obtain ⟨hj1, h⟩ := h
    refine wn_iast (pc := 32) X A_s_2 hj1 (by decide) dX6_begin_32 ?_
    refine wp_aload_n (pc := 33) X dX6_begin_33 rfl rfl ?_
    refine wp_get (pc := 34) X fl_X6_18 A_s (by decide) (fg_6_3 A_s) dX6_begin_34 ?_
    refine wp_iload_n (pc := 37) X dX6_begin_37 rfl rfl ?_
    refine wp_iconst (pc := 38) (v := nI 0) X dX6_begin_38 (by decide) ?_
    obtain ⟨hj2, h⟩ := h
    refine wn_iast (pc := 39) X A_s_3 hj2 (by decide) dX6_begin_39 ?_
    refine wp_aload_n (pc := 40) X dX6_begin_40 rfl rfl ?_
    refine wp_get (pc := 41) X fl_X6_21 A_s (by decide) (fg_6_4 A_s) dX6_begin_41 ?_
    refine wp_iload_n (pc := 44) X dX6_begin_44 rfl rfl ?_
    refine wp_iconst (pc := 45) (v := nI 0) X dX6_begin_45 (by decide) ?_
    obtain ⟨hj3, h⟩ := h
    refine wn_iast (pc := 46) X A_s_4 hj3 (by decide) dX6_begin_46 ?_
    refine wp_aload_n (pc := 47) X dX6_begin_47 rfl rfl ?_
    refine wp_get (pc := 48) X fl_X6_24 A_s (by decide) (fg_6_5 A_s) dX6_begin_48 ?_
    refine wp_iload_n (pc := 51) X dX6_begin_51 rfl rfl ?_
    refine wp_iconst (pc := 52) (v := nI 0) X dX6_begin_52 (by decide) ?_
    obtain ⟨hj4, h⟩ := h
    refine wn_iast (pc := 53) X A_s_5 hj4 (by decide) dX6_begin_53 ?_
    refine wn_iinc (pc := 54) (d := 1) (lo' := [some (.ref s), some (.int (nI (f + 1)))]) X dX6_begin_54 rfl (by decide) rfl rfl ?_
    refine wp_goto (pc := 57) (tgt := 20) X dX6_begin_57 (by decide) ?_
    exact h
theorem r_X6_become_0 {x : CT} {L : List Nat} {Q : Int32 → Mem → Prop} {M : Mem}  {s s2 : Nat} (X : BS x L cX6_become 2 RX6 (m_X6_become).2.2.2.2) (T : RT x L none Q) (A_s2 : AC L s2 6 0) (A_s : AC L s 6 0) (A_s2_1 : AC L (s2 + 1) 9 6) (A_s_1 : AC L (s + 1) 9 6) (A_s2_2 : AC L (s2 + 2) 9 6) (A_s_2 : AC L (s + 2) 9 6) (A_s2_3 : AC L (s2 + 3) 9 6) (A_s_3 : AC L (s + 3) 9 6) (A_s2_4 : AC L (s2 + 4) 9 6) (A_s_4 : AC L (s + 4) 9 6) (A_s2_5 : AC L (s2 + 5) 9 6) (A_s_5 : AC L (s + 5) 9 6) (A_s2_6 : AC L (s2 + 6) 9 10) (A_s_6 : AC L (s + 6) 9 10) (A_s2_7 : AC L (s2 + 7) 9 10) (A_s_7 : AC L (s + 7) 9 10) (A_s2_8 : AC L (s2 + 8) 9 10) (A_s_8 : AC L (s + 8) 9 10)
    (h : Q 0 (MU (MU (MU (MC (MC (MC (MC (MC (MC (MC (MC M (s2 + 1) (s + 1) 6) (s2 + 2) (s + 2) 6) (s2 + 3) (s + 3) 6) (s2 + 4) (s + 4) 6) (s2 + 5) (s + 5) 6) (s2 + 6) (s + 6) 10) (s2 + 7) (s + 7) 10) (s2 + 8) (s + 8) 10) s 9 ((MC (MC (MC (MC (MC (MC (MC (MC M (s2 + 1) (s + 1) 6) (s2 + 2) (s + 2) 6) (s2 + 3) (s + 3) 6) (s2 + 4) (s + 4) 6) (s2 + 5) (s + 5) 6) (s2 + 6) (s + 6) 10) (s2 + 7) (s + 7) 10) (s2 + 8) (s + 8) 10) s2 9)) s 10 ((MU (MC (MC (MC (MC (MC (MC (MC (MC M (s2 + 1) (s + 1) 6) (s2 + 2) (s + 2) 6) (s2 + 3) (s + 3) 6) (s2 + 4) (s + 4) 6) (s2 + 5) (s + 5) 6) (s2 + 6) (s + 6) 10) (s2 + 7) (s + 7) 10) (s2 + 8) (s + 8) 10) s 9 ((MC (MC (MC (MC (MC (MC (MC (MC M (s2 + 1) (s + 1) 6) (s2 + 2) (s + 2) 6) (s2 + 3) (s + 3) 6) (s2 + 4) (s + 4) 6) (s2 + 5) (s + 5) 6) (s2 + 6) (s + 6) 10) (s2 + 7) (s + 7) 10) (s2 + 8) (s + 8) 10) s2 9)) s2 10)) s 11 ((MU (MU (MC (MC (MC (MC (MC (MC (MC (MC M (s2 + 1) (s + 1) 6) (s2 + 2) (s + 2) 6) (s2 + 3) (s + 3) 6) (s2 + 4) (s + 4) 6) (s2 + 5) (s + 5) 6) (s2 + 6) (s + 6) 10) (s2 + 7) (s + 7) 10) (s2 + 8) (s + 8) 10) s 9 ((MC (MC (MC (MC (MC (MC (MC (MC M (s2 + 1) (s + 1) 6) (s2 + 2) (s + 2) 6) (s2 + 3) (s + 3) 6) (s2 + 4) (s + 4) 6) (s2 + 5) (s + 5) 6) (s2 + 6) (s + 6) 10) (s2 + 7) (s + 7) 10) (s2 + 8) (s + 8) 10) s2 9)) s 10 ((MU (MC (MC (MC (MC (MC (MC (MC (MC M (s2 + 1) (s + 1) 6) (s2 + 2) (s + 2) 6) (s2 + 3) (s + 3) 6) (s2 + 4) (s + 4) 6) (s2 + 5) (s + 5) 6) (s2 + 6) (s + 6) 10) (s2 + 7) (s + 7) 10) (s2 + 8) (s + 8) 10) s 9 ((MC (MC (MC (MC (MC (MC (MC (MC M (s2 + 1) (s + 1) 6) (s2 + 2) (s + 2) 6) (s2 + 3) (s + 3) 6) (s2 + 4) (s + 4) 6) (s2 + 5) (s + 5) 6) (s2 + 6) (s + 6) 10) (s2 + 7) (s + 7) 10) (s2 + 8) (s + 8) 10) s2 9)) s2 10)) s2 11))) : WP x L 0 [some (.ref s), some (.ref s2)] [] M := by
  refine wp_aload_n (pc := 0) X dX6_become_0 rfl rfl ?_
  refine wp_get (pc := 1) X fl_X6_9 A_s2 (by decide) (fg_6_1 A_s2) dX6_become_1 ?_
  refine wp_iconst (pc := 4) (v := nI 0) X dX6_become_4 (by decide) ?_
  refine wp_aload_n (pc := 5) X dX6_become_5 rfl rfl ?_
  refine wp_get (pc := 6) X fl_X6_9 A_s (by decide) (fg_6_1 A_s) dX6_become_6 ?_
  refine wp_iconst (pc := 9) (v := nI 0) X dX6_become_9 (by decide) ?_
  refine wp_bipush (pc := 10) (v := nI 6) X dX6_become_10 (by decide) ?_
  refine wp_copy (pc := 12) X k_240 k_242 k_241 k_43 A_s2_1 A_s_1 (by decide) (by decide) (by decide) (by decide) (Nat.le_of_ble_eq_true rfl) dX6_become_12 ?_
  refine wp_aload_n (pc := 15) X dX6_become_15 rfl rfl ?_
  refine wp_get (pc := 16) X fl_X6_15 A_s2 (by decide) (fg_6_2 A_s2) dX6_become_16 ?_
  refine wp_iconst (pc := 19) (v := nI 0) X dX6_become_19 (by decide) ?_
  refine wp_aload_n (pc := 20) X dX6_become_20 rfl rfl ?_
  refine wp_get (pc := 21) X fl_X6_15 A_s (by decide) (fg_6_2 A_s) dX6_become_21 ?_
  refine wp_iconst (pc := 24) (v := nI 0) X dX6_become_24 (by decide) ?_
  refine wp_bipush (pc := 25) (v := nI 6) X dX6_become_25 (by decide) ?_
  refine wp_copy (pc := 27) X k_240 k_242 k_241 k_43 A_s2_2 A_s_2 (by decide) (by decide) (by decide) (by decide) (Nat.le_of_ble_eq_true rfl) dX6_become_27 ?_
  refine wp_aload_n (pc := 30) X dX6_become_30 rfl rfl ?_
  refine wp_get (pc := 31) X fl_X6_18 A_s2 (by decide) (fg_6_3 A_s2) dX6_become_31 ?_
  refine wp_iconst (pc := 34) (v := nI 0) X dX6_become_34 (by decide) ?_
  refine wp_aload_n (pc := 35) X dX6_become_35 rfl rfl ?_
  refine wp_get (pc := 36) X fl_X6_18 A_s (by decide) (fg_6_3 A_s) dX6_become_36 ?_
  refine wp_iconst (pc := 39) (v := nI 0) X dX6_become_39 (by decide) ?_
  refine wp_bipush (pc := 40) (v := nI 6) X dX6_become_40 (by decide) ?_
  refine wp_copy (pc := 42) X k_240 k_242 k_241 k_43 A_s2_3 A_s_3 (by decide) (by decide) (by decide) (by decide) (Nat.le_of_ble_eq_true rfl) dX6_become_42 ?_
  refine wp_aload_n (pc := 45) X dX6_become_45 rfl rfl ?_
  refine wp_get (pc := 46) X fl_X6_21 A_s2 (by decide) (fg_6_4 A_s2) dX6_become_46 ?_
  refine wp_iconst (pc := 49) (v := nI 0) X dX6_become_49 (by decide) ?_
  refine wp_aload_n (pc := 50) X dX6_become_50 rfl rfl ?_
  refine wp_get (pc := 51) X fl_X6_21 A_s (by decide) (fg_6_4 A_s) dX6_become_51 ?_
  refine wp_iconst (pc := 54) (v := nI 0) X dX6_become_54 (by decide) ?_
  refine wp_bipush (pc := 55) (v := nI 6) X dX6_become_55 (by decide) ?_
  refine wp_copy (pc := 57) X k_240 k_242 k_241 k_43 A_s2_4 A_s_4 (by decide) (by decide) (by decide) (by decide) (Nat.le_of_ble_eq_true rfl) dX6_become_57 ?_
  refine wp_aload_n (pc := 60) X dX6_become_60 rfl rfl ?_
  refine wp_get (pc := 61) X fl_X6_24 A_s2 (by decide) (fg_6_5 A_s2) dX6_become_61 ?_
  refine wp_iconst (pc := 64) (v := nI 0) X dX6_become_64 (by decide) ?_
  refine wp_aload_n (pc := 65) X dX6_become_65 rfl rfl ?_
  refine wp_get (pc := 66) X fl_X6_24 A_s (by decide) (fg_6_5 A_s) dX6_become_66 ?_
  refine wp_iconst (pc := 69) (v := nI 0) X dX6_become_69 (by decide) ?_
  refine wp_bipush (pc := 70) (v := nI 6) X dX6_become_70 (by decide) ?_
  refine wp_copy (pc := 72) X k_240 k_242 k_241 k_43 A_s2_5 A_s_5 (by decide) (by decide) (by decide) (by decide) (Nat.le_of_ble_eq_true rfl) dX6_become_72 ?_
  refine wp_aload_n (pc := 75) X dX6_become_75 rfl rfl ?_
  refine wp_get (pc := 76) X fl_X6_27 A_s2 (by decide) (fg_6_6 A_s2) dX6_become_76 ?_
  refine wp_iconst (pc := 79) (v := nI 0) X dX6_become_79 (by decide) ?_
  refine wp_aload_n (pc := 80) X dX6_become_80 rfl rfl ?_
  refine wp_get (pc := 81) X fl_X6_27 A_s (by decide) (fg_6_6 A_s) dX6_become_81 ?_
  refine wp_iconst (pc := 84) (v := nI 0) X dX6_become_84 (by decide) ?_
  refine wp_bipush (pc := 85) (v := nI 10) X dX6_become_85 (by decide) ?_
  refine wp_copy (pc := 87) X k_240 k_242 k_241 k_43 A_s2_6 A_s_6 (by decide) (by decide) (by decide) (by decide) (Nat.le_of_ble_eq_true rfl) dX6_become_87 ?_
  refine wp_aload_n (pc := 90) X dX6_become_90 rfl rfl ?_
  refine wp_get (pc := 91) X fl_X6_30 A_s2 (by decide) (fg_6_7 A_s2) dX6_become_91 ?_
  refine wp_iconst (pc := 94) (v := nI 0) X dX6_become_94 (by decide) ?_
  refine wp_aload_n (pc := 95) X dX6_become_95 rfl rfl ?_
  refine wp_get (pc := 96) X fl_X6_30 A_s (by decide) (fg_6_7 A_s) dX6_become_96 ?_
  refine wp_iconst (pc := 99) (v := nI 0) X dX6_become_99 (by decide) ?_
  refine wp_bipush (pc := 100) (v := nI 10) X dX6_become_100 (by decide) ?_
  refine wp_copy (pc := 102) X k_240 k_242 k_241 k_43 A_s2_7 A_s_7 (by decide) (by decide) (by decide) (by decide) (Nat.le_of_ble_eq_true rfl) dX6_become_102 ?_
  refine wp_aload_n (pc := 105) X dX6_become_105 rfl rfl ?_
  refine wp_get (pc := 106) X fl_X6_33 A_s2 (by decide) (fg_6_8 A_s2) dX6_become_106 ?_
  refine wp_iconst (pc := 109) (v := nI 0) X dX6_become_109 (by decide) ?_
  refine wp_aload_n (pc := 110) X dX6_become_110 rfl rfl ?_
  refine wp_get (pc := 111) X fl_X6_33 A_s (by decide) (fg_6_8 A_s) dX6_become_111 ?_
  refine wp_iconst (pc := 114) (v := nI 0) X dX6_become_114 (by decide) ?_
  refine wp_bipush (pc := 115) (v := nI 10) X dX6_become_115 (by decide) ?_
  refine wp_copy (pc := 117) X k_240 k_242 k_241 k_43 A_s2_8 A_s_8 (by decide) (by decide) (by decide) (by decide) (Nat.le_of_ble_eq_true rfl) dX6_become_117 ?_
  refine wp_aload_n (pc := 120) X dX6_become_120 rfl rfl ?_
  refine wp_aload_n (pc := 121) X dX6_become_121 rfl rfl ?_
  refine wp_get (pc := 122) X fl_X6_51 A_s2 (by decide) (fg_6_9 A_s2) dX6_become_122 ?_
  refine wp_put (pc := 125) X fl_X6_51 fp_6_9 A_s (by decide) (fk_6_9 A_s) (fs_6_9 A_s _) dX6_become_125 ?_
  refine wp_aload_n (pc := 128) X dX6_become_128 rfl rfl ?_
  refine wp_aload_n (pc := 129) X dX6_become_129 rfl rfl ?_
  refine wp_get (pc := 130) X fl_X6_55 A_s2 (by decide) (fg_6_10 A_s2) dX6_become_130 ?_
  refine wp_put (pc := 133) X fl_X6_55 fp_6_10 A_s (by decide) (fk_6_10 A_s) (fs_6_10 A_s _) dX6_become_133 ?_
  refine wp_aload_n (pc := 136) X dX6_become_136 rfl rfl ?_
  refine wp_aload_n (pc := 137) X dX6_become_137 rfl rfl ?_
  refine wp_get (pc := 138) X fl_X6_58 A_s2 (by decide) (fg_6_11 A_s2) dX6_become_138 ?_
  refine wp_put (pc := 141) X fl_X6_58 fp_6_11 A_s (by decide) (fk_6_11 A_s) (fs_6_11 A_s _) dX6_become_141 ?_
  exact wp_ret (pc := 144) X T dX6_become_144 h
theorem r_X1_enter_0 {x : CT} {L : List Nat} {Q : Int32 → Mem → Prop} {M : Mem}  {k : Nat} {a1 a2 : Int32} (X : BS x L cX1_enter 4 RX1 (m_X1_enter).2.2.2.2) (T : RT x L none Q) (A_k : AC L k 1 0)
    (h : WP x L 23 [some (.ref k), none, none, some (.int (nI 0))] [] (MU (MU (MU (MU M k 4 a1) k 5 a2) k 6 (-4)) k 7 (nI 0))) : WP x L 0 [some (.ref k), some (.int a1), some (.int a2), none] [] M := by
  refine wp_aload_n (pc := 0) X dX1_enter_0 rfl rfl ?_
  refine wp_iload_n (pc := 1) X dX1_enter_1 rfl rfl ?_
  refine wp_put (pc := 2) X fl_X1_26 fp_1_4 A_k (by decide) (fk_1_4 A_k) (fs_1_4 A_k _) dX1_enter_2 ?_
  refine wp_aload_n (pc := 5) X dX1_enter_5 rfl rfl ?_
  refine wp_iload_n (pc := 6) X dX1_enter_6 rfl rfl ?_
  refine wp_put (pc := 7) X fl_X1_29 fp_1_5 A_k (by decide) (fk_1_5 A_k) (fs_1_5 A_k _) dX1_enter_7 ?_
  refine wp_aload_n (pc := 10) X dX1_enter_10 rfl rfl ?_
  refine wp_bipush (pc := 11) (v := (-4)) X dX1_enter_11 (by decide) ?_
  refine wp_put (pc := 13) X fl_X1_32 fp_1_6 A_k (by decide) (fk_1_6 A_k) (fs_1_6 A_k _) dX1_enter_13 ?_
  refine wp_aload_n (pc := 16) X dX1_enter_16 rfl rfl ?_
  refine wp_iconst (pc := 17) (v := nI 0) X dX1_enter_17 (by decide) ?_
  refine wp_put (pc := 18) X fl_X1_35 fp_1_7 A_k (by decide) (fk_1_7 A_k) (fs_1_7 A_k _) dX1_enter_18 ?_
  refine wp_iconst (pc := 21) (v := nI 0) X dX1_enter_21 (by decide) ?_
  refine wp_istore_n (pc := 22) (lo' := [some (.ref k), some (.int a1), some (.int a2), some (.int (nI 0))]) X dX1_enter_22 rfl (Nat.le_of_ble_eq_true rfl) rfl rfl ?_
  exact wp_drop (show subL _ [some (.ref k), none, none, some (.int (nI 0))] from ⟨rfl, ⟨rfl, trivial⟩⟩) h
theorem r_X1_enter_23 {x : CT} {L : List Nat} {Q : Int32 → Mem → Prop} {M : Mem}  {k f : Nat} (X : BS x L cX1_enter 4 RX1 (m_X1_enter).2.2.2.2) (T : RT x L none Q) (A_k : AC L k 1 0) (A_k_1 : AC L (k + 1) 9 6) (A_k_2 : AC L (k + 2) 9 6)
    (h : f < 2 ^ 31 ∧ (6 ≤ f → Q 0 M) ∧ (f < 6 → f < 6 ∧ f < 6 ∧ WP x L 23 [some (.ref k), none, none, some (.int (nI (f + 1)))] [] (MU (MU M (k + 1) f (nI 0)) (k + 2) f (-4)))) : WP x L 23 [some (.ref k), none, none, some (.int (nI f))] [] M := by
  refine wp_iload_n (pc := 23) X dX1_enter_23 rfl rfl ?_
  refine wp_bipush (pc := 24) (v := nI 6) X dX1_enter_24 (by decide) ?_
  obtain ⟨hb3, h⟩ := h
  refine wn_icmp_ge (pc := 26) (tgt := 50) X dX1_enter_26 (by decide) hb3 (by decide) (fun hc => ?_) (fun hc => ?_)
  · replace h := h.1 hc
    exact wp_ret (pc := 50) X T dX1_enter_50 h
  · replace h := h.2 hc
    refine wp_aload_n (pc := 29) X dX1_enter_29 rfl rfl ?_
    refine wp_get (pc := 30) X fl_X1_9 A_k (by decide) (fg_1_2 A_k) dX1_enter_30 ?_
    refine wp_iload_n (pc := 33) X dX1_enter_33 rfl rfl ?_
    refine wp_iconst (pc := 34) (v := nI 0) X dX1_enter_34 (by decide) ?_
    obtain ⟨hj1, h⟩ := h
    refine wn_iast (pc := 35) X A_k_1 hj1 (by decide) dX1_enter_35 ?_
    refine wp_aload_n (pc := 36) X dX1_enter_36 rfl rfl ?_
    refine wp_get (pc := 37) X fl_X1_15 A_k (by decide) (fg_1_3 A_k) dX1_enter_37 ?_
    refine wp_iload_n (pc := 40) X dX1_enter_40 rfl rfl ?_
    refine wp_bipush (pc := 41) (v := (-4)) X dX1_enter_41 (by decide) ?_
    obtain ⟨hj2, h⟩ := h
    refine wn_iast (pc := 43) X A_k_2 hj2 (by decide) dX1_enter_43 ?_
    refine wn_iinc (pc := 44) (d := 1) (lo' := [some (.ref k), none, none, some (.int (nI (f + 1)))]) X dX1_enter_44 rfl (by decide) rfl rfl ?_
    refine wp_goto (pc := 47) (tgt := 23) X dX1_enter_47 (by decide) ?_
    exact h
theorem r_X1_become_0 {x : CT} {L : List Nat} {Q : Int32 → Mem → Prop} {M : Mem}  {k k2 : Nat} (X : BS x L cX1_become 2 RX1 (m_X1_become).2.2.2.2) (T : RT x L none Q) (A_k2 : AC L k2 1 0) (A_k : AC L k 1 0) (A_k2_1 : AC L (k2 + 1) 9 6) (A_k_1 : AC L (k + 1) 9 6) (A_k2_2 : AC L (k2 + 2) 9 6) (A_k_2 : AC L (k + 2) 9 6)
    (h : Q 0 (MU (MU (MU (MU (MC (MC M (k2 + 1) (k + 1) 6) (k2 + 2) (k + 2) 6) k 4 ((MC (MC M (k2 + 1) (k + 1) 6) (k2 + 2) (k + 2) 6) k2 4)) k 5 ((MU (MC (MC M (k2 + 1) (k + 1) 6) (k2 + 2) (k + 2) 6) k 4 ((MC (MC M (k2 + 1) (k + 1) 6) (k2 + 2) (k + 2) 6) k2 4)) k2 5)) k 6 ((MU (MU (MC (MC M (k2 + 1) (k + 1) 6) (k2 + 2) (k + 2) 6) k 4 ((MC (MC M (k2 + 1) (k + 1) 6) (k2 + 2) (k + 2) 6) k2 4)) k 5 ((MU (MC (MC M (k2 + 1) (k + 1) 6) (k2 + 2) (k + 2) 6) k 4 ((MC (MC M (k2 + 1) (k + 1) 6) (k2 + 2) (k + 2) 6) k2 4)) k2 5)) k2 6)) k 7 ((MU (MU (MU (MC (MC M (k2 + 1) (k + 1) 6) (k2 + 2) (k + 2) 6) k 4 ((MC (MC M (k2 + 1) (k + 1) 6) (k2 + 2) (k + 2) 6) k2 4)) k 5 ((MU (MC (MC M (k2 + 1) (k + 1) 6) (k2 + 2) (k + 2) 6) k 4 ((MC (MC M (k2 + 1) (k + 1) 6) (k2 + 2) (k + 2) 6) k2 4)) k2 5)) k 6 ((MU (MU (MC (MC M (k2 + 1) (k + 1) 6) (k2 + 2) (k + 2) 6) k 4 ((MC (MC M (k2 + 1) (k + 1) 6) (k2 + 2) (k + 2) 6) k2 4)) k 5 ((MU (MC (MC M (k2 + 1) (k + 1) 6) (k2 + 2) (k + 2) 6) k 4 ((MC (MC M (k2 + 1) (k + 1) 6) (k2 + 2) (k + 2) 6) k2 4)) k2 5)) k2 6)) k2 7))) : WP x L 0 [some (.ref k), some (.ref k2)] [] M := by
  refine wp_aload_n (pc := 0) X dX1_become_0 rfl rfl ?_
  refine wp_get (pc := 1) X fl_X1_9 A_k2 (by decide) (fg_1_2 A_k2) dX1_become_1 ?_
  refine wp_iconst (pc := 4) (v := nI 0) X dX1_become_4 (by decide) ?_
  refine wp_aload_n (pc := 5) X dX1_become_5 rfl rfl ?_
  refine wp_get (pc := 6) X fl_X1_9 A_k (by decide) (fg_1_2 A_k) dX1_become_6 ?_
  refine wp_iconst (pc := 9) (v := nI 0) X dX1_become_9 (by decide) ?_
  refine wp_bipush (pc := 10) (v := nI 6) X dX1_become_10 (by decide) ?_
  refine wp_copy (pc := 12) X k_390 k_242 k_241 k_43 A_k2_1 A_k_1 (by decide) (by decide) (by decide) (by decide) (Nat.le_of_ble_eq_true rfl) dX1_become_12 ?_
  refine wp_aload_n (pc := 15) X dX1_become_15 rfl rfl ?_
  refine wp_get (pc := 16) X fl_X1_15 A_k2 (by decide) (fg_1_3 A_k2) dX1_become_16 ?_
  refine wp_iconst (pc := 19) (v := nI 0) X dX1_become_19 (by decide) ?_
  refine wp_aload_n (pc := 20) X dX1_become_20 rfl rfl ?_
  refine wp_get (pc := 21) X fl_X1_15 A_k (by decide) (fg_1_3 A_k) dX1_become_21 ?_
  refine wp_iconst (pc := 24) (v := nI 0) X dX1_become_24 (by decide) ?_
  refine wp_bipush (pc := 25) (v := nI 6) X dX1_become_25 (by decide) ?_
  refine wp_copy (pc := 27) X k_390 k_242 k_241 k_43 A_k2_2 A_k_2 (by decide) (by decide) (by decide) (by decide) (Nat.le_of_ble_eq_true rfl) dX1_become_27 ?_
  refine wp_aload_n (pc := 30) X dX1_become_30 rfl rfl ?_
  refine wp_aload_n (pc := 31) X dX1_become_31 rfl rfl ?_
  refine wp_get (pc := 32) X fl_X1_26 A_k2 (by decide) (fg_1_4 A_k2) dX1_become_32 ?_
  refine wp_put (pc := 35) X fl_X1_26 fp_1_4 A_k (by decide) (fk_1_4 A_k) (fs_1_4 A_k _) dX1_become_35 ?_
  refine wp_aload_n (pc := 38) X dX1_become_38 rfl rfl ?_
  refine wp_aload_n (pc := 39) X dX1_become_39 rfl rfl ?_
  refine wp_get (pc := 40) X fl_X1_29 A_k2 (by decide) (fg_1_5 A_k2) dX1_become_40 ?_
  refine wp_put (pc := 43) X fl_X1_29 fp_1_5 A_k (by decide) (fk_1_5 A_k) (fs_1_5 A_k _) dX1_become_43 ?_
  refine wp_aload_n (pc := 46) X dX1_become_46 rfl rfl ?_
  refine wp_aload_n (pc := 47) X dX1_become_47 rfl rfl ?_
  refine wp_get (pc := 48) X fl_X1_32 A_k2 (by decide) (fg_1_6 A_k2) dX1_become_48 ?_
  refine wp_put (pc := 51) X fl_X1_32 fp_1_6 A_k (by decide) (fk_1_6 A_k) (fs_1_6 A_k _) dX1_become_51 ?_
  refine wp_aload_n (pc := 54) X dX1_become_54 rfl rfl ?_
  refine wp_aload_n (pc := 55) X dX1_become_55 rfl rfl ?_
  refine wp_get (pc := 56) X fl_X1_35 A_k2 (by decide) (fg_1_7 A_k2) dX1_become_56 ?_
  refine wp_put (pc := 59) X fl_X1_35 fp_1_7 A_k (by decide) (fk_1_7 A_k) (fs_1_7 A_k _) dX1_become_59 ?_
  exact wp_ret (pc := 62) X T dX1_become_62 h
theorem r_X1_loses_0 {x : CT} {L : List Nat} {Q : Int32 → Mem → Prop} {M : Mem}  {k n : Nat} (X : BS x L cX1_loses 4 RX1 (m_X1_loses).2.2.2.2) (T : RT x L (some .boolean) Q) (A_k : AC L k 1 0)
    (h : (0 ≤ (lg_cmp (((((((7919 : Int64) * (Int32.toInt64 (M k 1))) + ((3571 : Int64) * (Int32.toInt64 (nI n)))) + (1 : Int64)) * ((((7919 : Int64) * (Int32.toInt64 (M k 1))) + ((3571 : Int64) * (Int32.toInt64 (nI n)))) + (1 : Int64))) - (((((7919 : Int64) * (Int32.toInt64 (M k 1))) + ((3571 : Int64) * (Int32.toInt64 (nI n)))) + (1 : Int64)) * ((((7919 : Int64) * (Int32.toInt64 (M k 1))) + ((3571 : Int64) * (Int32.toInt64 (nI n)))) + (1 : Int64))) / (65521 : Int64) * (65521 : Int64)) - ((((((7919 : Int64) * (Int32.toInt64 (M k 1))) + ((3571 : Int64) * (Int32.toInt64 (nI n)))) + (1 : Int64)) * ((((7919 : Int64) * (Int32.toInt64 (M k 1))) + ((3571 : Int64) * (Int32.toInt64 (nI n)))) + (1 : Int64))) - (((((7919 : Int64) * (Int32.toInt64 (M k 1))) + ((3571 : Int64) * (Int32.toInt64 (nI n)))) + (1 : Int64)) * ((((7919 : Int64) * (Int32.toInt64 (M k 1))) + ((3571 : Int64) * (Int32.toInt64 (nI n)))) + (1 : Int64))) / (65521 : Int64) * (65521 : Int64)) / (100 : Int64) * (100 : Int64)) (Int32.toInt64 (M k 4))) → Q (nI 0) M) ∧ (¬ 0 ≤ (lg_cmp (((((((7919 : Int64) * (Int32.toInt64 (M k 1))) + ((3571 : Int64) * (Int32.toInt64 (nI n)))) + (1 : Int64)) * ((((7919 : Int64) * (Int32.toInt64 (M k 1))) + ((3571 : Int64) * (Int32.toInt64 (nI n)))) + (1 : Int64))) - (((((7919 : Int64) * (Int32.toInt64 (M k 1))) + ((3571 : Int64) * (Int32.toInt64 (nI n)))) + (1 : Int64)) * ((((7919 : Int64) * (Int32.toInt64 (M k 1))) + ((3571 : Int64) * (Int32.toInt64 (nI n)))) + (1 : Int64))) / (65521 : Int64) * (65521 : Int64)) - ((((((7919 : Int64) * (Int32.toInt64 (M k 1))) + ((3571 : Int64) * (Int32.toInt64 (nI n)))) + (1 : Int64)) * ((((7919 : Int64) * (Int32.toInt64 (M k 1))) + ((3571 : Int64) * (Int32.toInt64 (nI n)))) + (1 : Int64))) - (((((7919 : Int64) * (Int32.toInt64 (M k 1))) + ((3571 : Int64) * (Int32.toInt64 (nI n)))) + (1 : Int64)) * ((((7919 : Int64) * (Int32.toInt64 (M k 1))) + ((3571 : Int64) * (Int32.toInt64 (nI n)))) + (1 : Int64))) / (65521 : Int64) * (65521 : Int64)) / (100 : Int64) * (100 : Int64)) (Int32.toInt64 (M k 4))) → Q (nI 1) M)) : WP x L 0 [some (.ref k), some (.int (nI n)), none, none] [] M := by
  refine wp_ldc2 (pc := 0) (v := 7919) X dX1_loses_0 k_440 ?_
  refine wp_aload_n (pc := 3) X dX1_loses_3 rfl rfl ?_
  refine wp_get (pc := 4) X fl_X1_22 A_k (by decide) (fg_1_1 A_k) dX1_loses_4 ?_
  refine wp_i2l (pc := 7) X dX1_loses_7 ?_
  refine wp_lmul (pc := 8) X dX1_loses_8 ?_
  refine wp_ldc2 (pc := 9) (v := 3571) X dX1_loses_9 k_441 ?_
  refine wp_iload_n (pc := 12) X dX1_loses_12 rfl rfl ?_
  refine wp_i2l (pc := 13) X dX1_loses_13 ?_
  refine wp_lmul (pc := 14) X dX1_loses_14 ?_
  refine wp_ladd (pc := 15) X dX1_loses_15 ?_
  refine wp_lconst (pc := 16) (v := 1) X dX1_loses_16 (by decide) ?_
  refine wp_ladd (pc := 17) X dX1_loses_17 ?_
  refine wp_lstore_n (pc := 18) (lo' := [some (.ref k), some (.int (nI n)), some (.long ((((7919 : Int64) * (Int32.toInt64 (M k 1))) + ((3571 : Int64) * (Int32.toInt64 (nI n)))) + (1 : Int64))), none]) X dX1_loses_18 rfl (Nat.le_of_ble_eq_true rfl) rfl rfl ?_
  refine wp_lload_n (pc := 19) X dX1_loses_19 rfl rfl ?_
  refine wp_lload_n (pc := 20) X dX1_loses_20 rfl rfl ?_
  refine wp_lmul (pc := 21) X dX1_loses_21 ?_
  refine wp_ldc2 (pc := 22) (v := 65521) X dX1_loses_22 k_442 ?_
  refine wp_lrem (pc := 25) X dX1_loses_25 (by decide) ?_
  refine wp_ldc2 (pc := 26) (v := 100) X dX1_loses_26 k_443 ?_
  refine wp_lrem (pc := 29) X dX1_loses_29 (by decide) ?_
  refine wp_aload_n (pc := 30) X dX1_loses_30 rfl rfl ?_
  refine wp_get (pc := 31) X fl_X1_26 A_k (by decide) (fg_1_4 A_k) dX1_loses_31 ?_
  refine wp_i2l (pc := 34) X dX1_loses_34 ?_
  refine wp_lcmp (pc := 35) X dX1_loses_35 ?_
  refine wp_if_ge (pc := 36) (tgt := 43) X dX1_loses_36 (by decide) (fun hc => ?_) (fun hc => ?_)
  · replace h := h.1 hc
    refine wp_iconst (pc := 43) (v := nI 0) X dX1_loses_43 (by decide) ?_
    exact wp_zret (pc := 44) X T (by decide) dX1_loses_44 h
  · replace h := h.2 hc
    refine wp_iconst (pc := 39) (v := nI 1) X dX1_loses_39 (by decide) ?_
    refine wp_goto (pc := 40) (tgt := 44) X dX1_loses_40 (by decide) ?_
    exact wp_zret (pc := 44) X T (by decide) dX1_loses_44 h
theorem r_X1_takeTable_0 {x : CT} {L : List Nat} {Q : Int32 → Mem → Prop} {M : Mem}  {k v n : Nat} (X : BS x L cX1_takeTable 4 RX1 (m_X1_takeTable).2.2.2.2) (T : RT x L none Q) 
    (h : WP x L 2 [some (.ref k), some (.ref v), some (.int (nI n)), some (.int (nI 0))] [] M) : WP x L 0 [some (.ref k), some (.ref v), some (.int (nI n)), none] [] M := by
  refine wp_iconst (pc := 0) (v := nI 0) X dX1_takeTable_0 (by decide) ?_
  refine wp_istore_n (pc := 1) (lo' := [some (.ref k), some (.ref v), some (.int (nI n)), some (.int (nI 0))]) X dX1_takeTable_1 rfl (Nat.le_of_ble_eq_true rfl) rfl rfl ?_
  exact h
theorem r_X1_takeTable_2 {x : CT} {L : List Nat} {Q : Int32 → Mem → Prop} {M : Mem}  {k v n f : Nat} (X : BS x L cX1_takeTable 4 RX1 (m_X1_takeTable).2.2.2.2) (T : RT x L none Q) (A_k : AC L k 1 0) (A_7 : AC L 7 3 0) (A_k_2 : AC L (k + 2) 9 6) (A_v : AC L v 9 6) (A_k_1 : AC L (k + 1) 9 6)
    (h : ∃ v1 : Nat, M 7 3 = nI v1 ∧ f < 2 ^ 31 ∧ v1 < 2 ^ 31 ∧ (v1 ≤ f → Q 0 (MU M k 6 (((nI n) + (M 7 5)) - (nI 1)))) ∧ (f < v1 → f < 6 ∧ f < 6 ∧ ((M (k + 2) f) = (M v f) → WP x L 2 [some (.ref k), some (.ref v), some (.int (nI n)), some (.int (nI (f + 1)))] [] M) ∧ (¬ (M (k + 2) f) = (M v f) → f < 6 ∧ f < 6 ∧ f < 6 ∧ WP x L 2 [some (.ref k), some (.ref v), some (.int (nI n)), some (.int (nI (f + 1)))] [] (MU (MU M (k + 1) f (nI 0)) (k + 2) f ((MU M (k + 1) f (nI 0)) v f))))) : WP x L 2 [some (.ref k), some (.ref v), some (.int (nI n)), some (.int (nI f))] [] M := by
  refine wp_iload_n (pc := 2) X dX1_takeTable_2 rfl rfl ?_
  refine wp_aload_n (pc := 3) X dX1_takeTable_3 rfl rfl ?_
  refine wp_get (pc := 4) X fl_X1_18 A_k (by decide) (fg_1_0 A_k) dX1_takeTable_4 ?_
  obtain ⟨v1, he2, h⟩ := h
  refine we_get (pc := 7) X fl_X1_84 A_7 (by decide) (fg_3_3 A_7) he2 dX1_takeTable_7 ?_
  obtain ⟨hb8, hb9, h⟩ := h
  refine wn_icmp_ge (pc := 10) (tgt := 47) X dX1_takeTable_10 (by decide) hb8 hb9 (fun hc => ?_) (fun hc => ?_)
  · replace h := h.1 hc
    refine wp_aload_n (pc := 47) X dX1_takeTable_47 rfl rfl ?_
    refine wp_iload_n (pc := 48) X dX1_takeTable_48 rfl rfl ?_
    refine wp_aload_n (pc := 49) X dX1_takeTable_49 rfl rfl ?_
    refine wp_get (pc := 50) X fl_X1_18 A_k (by decide) (fg_1_0 A_k) dX1_takeTable_50 ?_
    refine wp_get (pc := 53) X fl_X1_87 A_7 (by decide) (fg_3_5 A_7) dX1_takeTable_53 ?_
    refine wp_iadd (pc := 56) X dX1_takeTable_56 ?_
    refine wp_iconst (pc := 57) (v := nI 1) X dX1_takeTable_57 (by decide) ?_
    refine wp_isub (pc := 58) X dX1_takeTable_58 ?_
    refine wp_put (pc := 59) X fl_X1_32 fp_1_6 A_k (by decide) (fk_1_6 A_k) (fs_1_6 A_k _) dX1_takeTable_59 ?_
    exact wp_ret (pc := 62) X T dX1_takeTable_62 h
  · replace h := h.2 hc
    refine wp_aload_n (pc := 13) X dX1_takeTable_13 rfl rfl ?_
    refine wp_get (pc := 14) X fl_X1_15 A_k (by decide) (fg_1_3 A_k) dX1_takeTable_14 ?_
    refine wp_iload_n (pc := 17) X dX1_takeTable_17 rfl rfl ?_
    obtain ⟨hj3, h⟩ := h
    refine wn_iald (pc := 18) X A_k_2 hj3 (by decide) dX1_takeTable_18 ?_
    refine wp_aload_n (pc := 19) X dX1_takeTable_19 rfl rfl ?_
    refine wp_iload_n (pc := 20) X dX1_takeTable_20 rfl rfl ?_
    obtain ⟨hj4, h⟩ := h
    refine wn_iald (pc := 21) X A_v hj4 (by decide) dX1_takeTable_21 ?_
    refine wp_icmp_eq (pc := 22) (tgt := 41) X dX1_takeTable_22 (by decide) (fun hc => ?_) (fun hc => ?_)
    · replace h := h.1 hc
      refine wn_iinc (pc := 41) (d := 1) (lo' := [some (.ref k), some (.ref v), some (.int (nI n)), some (.int (nI (f + 1)))]) X dX1_takeTable_41 rfl (by decide) rfl rfl ?_
      refine wp_goto (pc := 44) (tgt := 2) X dX1_takeTable_44 (by decide) ?_
      exact h
    · replace h := h.2 hc
      refine wp_aload_n (pc := 25) X dX1_takeTable_25 rfl rfl ?_
      refine wp_get (pc := 26) X fl_X1_9 A_k (by decide) (fg_1_2 A_k) dX1_takeTable_26 ?_
      refine wp_iload_n (pc := 29) X dX1_takeTable_29 rfl rfl ?_
      refine wp_iconst (pc := 30) (v := nI 0) X dX1_takeTable_30 (by decide) ?_
      obtain ⟨hj5, h⟩ := h
      refine wn_iast (pc := 31) X A_k_1 hj5 (by decide) dX1_takeTable_31 ?_
      refine wp_aload_n (pc := 32) X dX1_takeTable_32 rfl rfl ?_
      refine wp_get (pc := 33) X fl_X1_15 A_k (by decide) (fg_1_3 A_k) dX1_takeTable_33 ?_
      refine wp_iload_n (pc := 36) X dX1_takeTable_36 rfl rfl ?_
      refine wp_aload_n (pc := 37) X dX1_takeTable_37 rfl rfl ?_
      refine wp_iload_n (pc := 38) X dX1_takeTable_38 rfl rfl ?_
      obtain ⟨hj6, h⟩ := h
      refine wn_iald (pc := 39) X A_v hj6 (by decide) dX1_takeTable_39 ?_
      obtain ⟨hj7, h⟩ := h
      refine wn_iast (pc := 40) X A_k_2 hj7 (by decide) dX1_takeTable_40 ?_
      refine wn_iinc (pc := 41) (d := 1) (lo' := [some (.ref k), some (.ref v), some (.int (nI n)), some (.int (nI (f + 1)))]) X dX1_takeTable_41 rfl (by decide) rfl rfl ?_
      refine wp_goto (pc := 44) (tgt := 2) X dX1_takeTable_44 (by decide) ?_
      exact h
theorem r_X1_takeSymbol_0 {x : CT} {L : List Nat} {Q : Int32 → Mem → Prop} {M : Mem}  {k f y n : Nat} {a3 : Int32} (X : BS x L cX1_takeSymbol 5 RX1 (m_X1_takeSymbol).2.2.2.2) (T : RT x L none Q) (A_k : AC L k 1 0) (A_k_2 : AC L (k + 2) 9 6) (A_k_1 : AC L (k + 1) 9 6)
    (h : CM m_X1_knowsIn L [.ref k, .int (nI n)] M (fun r2 M1 => (r2 = 0 → Q 0 M1) ∧ (¬ r2 = 0 → f < 6 ∧ (¬ (M1 (k + 2) f) = a3 → Q 0 M1) ∧ ((M1 (k + 2) f) = a3 → f < 6 ∧ f < 6 ∧ Q 0 (MU M1 (k + 1) f ((M1 (k + 1) f) ||| ((nI 1) <<< ((nI y) &&& 31)))))))) : WP x L 0 [some (.ref k), some (.int (nI f)), some (.int (nI y)), some (.int a3), some (.int (nI n))] [] M := by
  refine wp_aload_n (pc := 0) X dX1_takeSymbol_0 rfl rfl ?_
  refine wp_iload (pc := 1) X dX1_takeSymbol_1 rfl ?_
  refine wp_invV (pc := 3) X sv_X1_90 A_k (by decide) rfl ⟨by decide, by decide⟩ (As := [.int (nI n)]) (st := []) rfl rfl (Nat.le_of_ble_eq_true rfl) dX1_takeSymbol_3 ?_
  refine CM.mono h (fun r2 M1 h => ?_)
  refine wp_if_eq (pc := 6) (tgt := 31) X dX1_takeSymbol_6 (by decide) (fun hc => ?_) (fun hc => ?_)
  · replace h := h.1 hc
    exact wp_ret (pc := 31) X T dX1_takeSymbol_31 h
  · replace h := h.2 hc
    refine wp_aload_n (pc := 9) X dX1_takeSymbol_9 rfl rfl ?_
    refine wp_get (pc := 10) X fl_X1_15 A_k (by decide) (fg_1_3 A_k) dX1_takeSymbol_10 ?_
    refine wp_iload_n (pc := 13) X dX1_takeSymbol_13 rfl rfl ?_
    obtain ⟨hj3, h⟩ := h
    refine wn_iald (pc := 14) X A_k_2 hj3 (by decide) dX1_takeSymbol_14 ?_
    refine wp_iload_n (pc := 15) X dX1_takeSymbol_15 rfl rfl ?_
    refine wp_icmp_ne (pc := 16) (tgt := 31) X dX1_takeSymbol_16 (by decide) (fun hc => ?_) (fun hc => ?_)
    · replace h := h.1 hc
      exact wp_ret (pc := 31) X T dX1_takeSymbol_31 h
    · replace h := h.2 hc
      refine wp_aload_n (pc := 19) X dX1_takeSymbol_19 rfl rfl ?_
      refine wp_get (pc := 20) X fl_X1_9 A_k (by decide) (fg_1_2 A_k) dX1_takeSymbol_20 ?_
      refine wp_iload_n (pc := 23) X dX1_takeSymbol_23 rfl rfl ?_
      refine wp_dup2 (pc := 24) X dX1_takeSymbol_24 rfl rfl ?_
      obtain ⟨hj4, h⟩ := h
      refine wn_iald (pc := 25) X A_k_1 hj4 (by decide) dX1_takeSymbol_25 ?_
      refine wp_iconst (pc := 26) (v := nI 1) X dX1_takeSymbol_26 (by decide) ?_
      refine wp_iload_n (pc := 27) X dX1_takeSymbol_27 rfl rfl ?_
      refine wp_ishl (pc := 28) X dX1_takeSymbol_28 ?_
      refine wp_ior (pc := 29) X dX1_takeSymbol_29 ?_
      obtain ⟨hj5, h⟩ := h
      refine wn_iast (pc := 30) X A_k_1 hj5 (by decide) dX1_takeSymbol_30 ?_
      exact wp_ret (pc := 31) X T dX1_takeSymbol_31 h
theorem r_X1_knowsIn_0 {x : CT} {L : List Nat} {Q : Int32 → Mem → Prop} {M : Mem}  {k n : Nat} (X : BS x L cX1_knowsIn 2 RX1 (m_X1_knowsIn).2.2.2.2) (T : RT x L (some .boolean) Q) (A_k : AC L k 1 0)
    (h : ((M k 6) < (nI n) → Q (nI 0) M) ∧ (¬ (M k 6) < (nI n) → Q (nI 1) M)) : WP x L 0 [some (.ref k), some (.int (nI n))] [] M := by
  refine wp_iload_n (pc := 0) X dX1_knowsIn_0 rfl rfl ?_
  refine wp_aload_n (pc := 1) X dX1_knowsIn_1 rfl rfl ?_
  refine wp_get (pc := 2) X fl_X1_32 A_k (by decide) (fg_1_6 A_k) dX1_knowsIn_2 ?_
  refine wp_icmp_gt (pc := 5) (tgt := 12) X dX1_knowsIn_5 (by decide) (fun hc => ?_) (fun hc => ?_)
  · replace h := h.1 hc
    refine wp_iconst (pc := 12) (v := nI 0) X dX1_knowsIn_12 (by decide) ?_
    exact wp_zret (pc := 13) X T (by decide) dX1_knowsIn_13 h
  · replace h := h.2 hc
    refine wp_iconst (pc := 8) (v := nI 1) X dX1_knowsIn_8 (by decide) ?_
    refine wp_goto (pc := 9) (tgt := 13) X dX1_knowsIn_9 (by decide) ?_
    exact wp_zret (pc := 13) X T (by decide) dX1_knowsIn_13 h
theorem r_X1_lacks_0 {x : CT} {L : List Nat} {Q : Int32 → Mem → Prop} {M : Mem}  {k f : Nat} (X : BS x L cX1_lacks 2 RX1 (m_X1_lacks).2.2.2.2) (T : RT x L (some .int) Q) (A_k : AC L k 1 0) (A_7 : AC L 7 3 0) (A_8 : AC L 8 9 6) (A_k_1 : AC L (k + 1) 9 6)
    (h : f < 6 ∧ f < 6 ∧ CM m_J6_bitCount_0f7a4 L [.int (M (k + 1) f)] M (fun r4 M3 => Q (if (nI 0) < ((M 8 f) - r4) then ((M 8 f) - r4) else (nI 0)) M3)) : WP x L 0 [some (.ref k), some (.int (nI f))] [] M := by
  refine wp_iconst (pc := 0) (v := nI 0) X dX1_lacks_0 (by decide) ?_
  refine wp_aload_n (pc := 1) X dX1_lacks_1 rfl rfl ?_
  refine wp_get (pc := 2) X fl_X1_18 A_k (by decide) (fg_1_0 A_k) dX1_lacks_2 ?_
  refine wp_get (pc := 5) X fl_X1_93 A_7 (by decide) (fg_3_0 A_7) dX1_lacks_5 ?_
  refine wp_iload_n (pc := 8) X dX1_lacks_8 rfl rfl ?_
  obtain ⟨hj1, h⟩ := h
  refine wn_iald (pc := 9) X A_8 hj1 (by decide) dX1_lacks_9 ?_
  refine wp_aload_n (pc := 10) X dX1_lacks_10 rfl rfl ?_
  refine wp_get (pc := 11) X fl_X1_9 A_k (by decide) (fg_1_2 A_k) dX1_lacks_11 ?_
  refine wp_iload_n (pc := 14) X dX1_lacks_14 rfl rfl ?_
  obtain ⟨hj2, h⟩ := h
  refine wn_iald (pc := 15) X A_k_1 hj2 (by decide) dX1_lacks_15 ?_
  refine wp_invS (pc := 16) X sv_X1_96  rfl ⟨by decide, by decide⟩ (As := [.int (M (k + 1) f)]) (st := [.int (M 8 f), .int (nI 0)]) rfl rfl (Nat.le_of_ble_eq_true rfl) dX1_lacks_16 ?_
  refine CM.mono h (fun r4 M3 h => ?_)
  refine wp_isub (pc := 19) X dX1_lacks_19 ?_
  refine wp_max (pc := 20) X k_520 k_521 k_47 k_522 (by decide) (Nat.le_of_ble_eq_true rfl) dX1_lacks_20 ?_
  exact wp_iret (pc := 23) X T dX1_lacks_23 h
theorem r_X1_wholeBits_0 {x : CT} {L : List Nat} {Q : Int32 → Mem → Prop} {M : Mem}  {k : Nat} (X : BS x L cX1_wholeBits 3 RX1 (m_X1_wholeBits).2.2.2.2) (T : RT x L (some .int) Q) 
    (h : WP x L 4 [some (.ref k), some (.int (nI 0)), some (.int (nI 0))] [] M) : WP x L 0 [some (.ref k), none, none] [] M := by
  refine wp_iconst (pc := 0) (v := nI 0) X dX1_wholeBits_0 (by decide) ?_
  refine wp_istore_n (pc := 1) (lo' := [some (.ref k), some (.int (nI 0)), none]) X dX1_wholeBits_1 rfl (Nat.le_of_ble_eq_true rfl) rfl rfl ?_
  refine wp_iconst (pc := 2) (v := nI 0) X dX1_wholeBits_2 (by decide) ?_
  refine wp_istore_n (pc := 3) (lo' := [some (.ref k), some (.int (nI 0)), some (.int (nI 0))]) X dX1_wholeBits_3 rfl (Nat.le_of_ble_eq_true rfl) rfl rfl ?_
  exact h
theorem r_X1_wholeBits_4 {x : CT} {L : List Nat} {Q : Int32 → Mem → Prop} {M : Mem}  {k f : Nat} {a1 : Int32} (X : BS x L cX1_wholeBits 3 RX1 (m_X1_wholeBits).2.2.2.2) (T : RT x L (some .int) Q) (A_k : AC L k 1 0) (A_7 : AC L 7 3 0)
    (h : ∃ v1 : Nat, M 7 3 = nI v1 ∧ f < 2 ^ 31 ∧ v1 < 2 ^ 31 ∧ (v1 ≤ f → Q a1 M) ∧ (f < v1 → CM m_X1_lacks L [.ref k, .int (nI f)] M (fun r4 M3 => (¬ r4 = 0 → WP x L 4 [some (.ref k), some (.int a1), some (.int (nI (f + 1)))] [] M3) ∧ (r4 = 0 → WP x L 4 [some (.ref k), some (.int (a1 ||| ((nI 1) <<< ((nI f) &&& 31)))), some (.int (nI (f + 1)))] [] M3)))) : WP x L 4 [some (.ref k), some (.int a1), some (.int (nI f))] [] M := by
  refine wp_iload_n (pc := 4) X dX1_wholeBits_4 rfl rfl ?_
  refine wp_aload_n (pc := 5) X dX1_wholeBits_5 rfl rfl ?_
  refine wp_get (pc := 6) X fl_X1_18 A_k (by decide) (fg_1_0 A_k) dX1_wholeBits_6 ?_
  obtain ⟨v1, he2, h⟩ := h
  refine we_get (pc := 9) X fl_X1_84 A_7 (by decide) (fg_3_3 A_7) he2 dX1_wholeBits_9 ?_
  obtain ⟨hb5, hb6, h⟩ := h
  refine wn_icmp_ge (pc := 12) (tgt := 35) X dX1_wholeBits_12 (by decide) hb5 hb6 (fun hc => ?_) (fun hc => ?_)
  · replace h := h.1 hc
    refine wp_iload_n (pc := 35) X dX1_wholeBits_35 rfl rfl ?_
    exact wp_iret (pc := 36) X T dX1_wholeBits_36 h
  · replace h := h.2 hc
    refine wp_aload_n (pc := 15) X dX1_wholeBits_15 rfl rfl ?_
    refine wp_iload_n (pc := 16) X dX1_wholeBits_16 rfl rfl ?_
    refine wp_invV (pc := 17) X sv_X1_107 A_k (by decide) rfl ⟨by decide, by decide⟩ (As := [.int (nI f)]) (st := []) rfl rfl (Nat.le_of_ble_eq_true rfl) dX1_wholeBits_17 ?_
    refine CM.mono h (fun r4 M3 h => ?_)
    refine wp_if_ne (pc := 20) (tgt := 29) X dX1_wholeBits_20 (by decide) (fun hc => ?_) (fun hc => ?_)
    · replace h := h.1 hc
      refine wn_iinc (pc := 29) (d := 1) (lo' := [some (.ref k), some (.int a1), some (.int (nI (f + 1)))]) X dX1_wholeBits_29 rfl (by decide) rfl rfl ?_
      refine wp_goto (pc := 32) (tgt := 4) X dX1_wholeBits_32 (by decide) ?_
      exact h
    · replace h := h.2 hc
      refine wp_iload_n (pc := 23) X dX1_wholeBits_23 rfl rfl ?_
      refine wp_iconst (pc := 24) (v := nI 1) X dX1_wholeBits_24 (by decide) ?_
      refine wp_iload_n (pc := 25) X dX1_wholeBits_25 rfl rfl ?_
      refine wp_ishl (pc := 26) X dX1_wholeBits_26 ?_
      refine wp_ior (pc := 27) X dX1_wholeBits_27 ?_
      refine wp_istore_n (pc := 28) (lo' := [some (.ref k), some (.int (a1 ||| ((nI 1) <<< ((nI f) &&& 31)))), some (.int (nI f))]) X dX1_wholeBits_28 rfl (Nat.le_of_ble_eq_true rfl) rfl rfl ?_
      refine wn_iinc (pc := 29) (d := 1) (lo' := [some (.ref k), some (.int (a1 ||| ((nI 1) <<< ((nI f) &&& 31)))), some (.int (nI (f + 1)))]) X dX1_wholeBits_29 rfl (by decide) rfl rfl ?_
      refine wp_goto (pc := 32) (tgt := 4) X dX1_wholeBits_32 (by decide) ?_
      exact h
theorem r_X1_fillUp_0 {x : CT} {L : List Nat} {Q : Int32 → Mem → Prop} {M : Mem}  {k f : Nat} (X : BS x L cX1_fillUp 6 RX1 (m_X1_fillUp).2.2.2.2) (T : RT x L (some .int) Q) (A_k : AC L k 1 0)
    (h : CM m_X1_lacks L [.ref k, .int (nI f)] M (fun r2 M1 => ∃ v3 : Nat, r2 = nI v3 ∧ WP x L 11 [some (.ref k), some (.int (nI f)), some (.int (nI v3)), some (.int (nI v3)), some (.int (nI 0)), none] [] M1)) : WP x L 0 [some (.ref k), some (.int (nI f)), none, none, none, none] [] M := by
  refine wp_aload_n (pc := 0) X dX1_fillUp_0 rfl rfl ?_
  refine wp_iload_n (pc := 1) X dX1_fillUp_1 rfl rfl ?_
  refine wp_invV (pc := 2) X sv_X1_107 A_k (by decide) rfl ⟨by decide, by decide⟩ (As := [.int (nI f)]) (st := []) rfl rfl (Nat.le_of_ble_eq_true rfl) dX1_fillUp_2 ?_
  refine CM.mono h (fun r2 M1 h => ?_)
  obtain ⟨v3, rfl, h⟩ := h
  refine wp_istore_n (pc := 5) (lo' := [some (.ref k), some (.int (nI f)), some (.int (nI v3)), none, none, none]) X dX1_fillUp_5 rfl (Nat.le_of_ble_eq_true rfl) rfl rfl ?_
  refine wp_iload_n (pc := 6) X dX1_fillUp_6 rfl rfl ?_
  refine wp_istore_n (pc := 7) (lo' := [some (.ref k), some (.int (nI f)), some (.int (nI v3)), some (.int (nI v3)), none, none]) X dX1_fillUp_7 rfl (Nat.le_of_ble_eq_true rfl) rfl rfl ?_
  refine wp_iconst (pc := 8) (v := nI 0) X dX1_fillUp_8 (by decide) ?_
  refine wp_istore (pc := 9) (lo' := [some (.ref k), some (.int (nI f)), some (.int (nI v3)), some (.int (nI v3)), some (.int (nI 0)), none]) X dX1_fillUp_9 (Nat.le_of_ble_eq_true rfl) rfl rfl ?_
  exact h
theorem r_X1_fillUp_11 {x : CT} {L : List Nat} {Q : Int32 → Mem → Prop} {M : Mem}  {k f m y : Nat} {a2 : Int32} (X : BS x L cX1_fillUp 6 RX1 (m_X1_fillUp).2.2.2.2) (T : RT x L (some .int) Q) (A_k : AC L k 1 0) (A_7 : AC L 7 3 0) (A_k_1 : AC L (k + 1) 9 6)
    (h : CM m_X3_symbolsOf L [.ref 7, .int (nI f)] M (fun r2 M1 => ∃ v3 : Nat, r2 = nI v3 ∧ y < 2 ^ 31 ∧ v3 < 2 ^ 31 ∧ (v3 ≤ y → Q a2 M1) ∧ (y < v3 → m < 2 ^ 31 ∧ (m = 0 → Q a2 M1) ∧ (0 < m → f < 6 ∧ (¬ ((M1 (k + 1) f) &&& ((nI 1) <<< ((nI y) &&& 31))) = 0 → WP x L 11 [some (.ref k), some (.int (nI f)), some (.int a2), some (.int (nI m)), some (.int (nI (y + 1))), none] [] M1) ∧ (((M1 (k + 1) f) &&& ((nI 1) <<< ((nI y) &&& 31))) = 0 → f < 6 ∧ f < 6 ∧ 1 ≤ m ∧ WP x L 11 [some (.ref k), some (.int (nI f)), some (.int a2), some (.int (nI (m - 1))), some (.int (nI (y + 1))), none] [] (MU M1 (k + 1) f ((M1 (k + 1) f) ||| ((nI 1) <<< ((nI y) &&& 31))))))))) : WP x L 11 [some (.ref k), some (.int (nI f)), some (.int a2), some (.int (nI m)), some (.int (nI y)), none] [] M := by
  refine wp_iload (pc := 11) X dX1_fillUp_11 rfl ?_
  refine wp_aload_n (pc := 13) X dX1_fillUp_13 rfl rfl ?_
  refine wp_get (pc := 14) X fl_X1_18 A_k (by decide) (fg_1_0 A_k) dX1_fillUp_14 ?_
  refine wp_iload_n (pc := 17) X dX1_fillUp_17 rfl rfl ?_
  refine wp_invV (pc := 18) X sv_X1_110 A_7 (by decide) rfl ⟨by decide, by decide⟩ (As := [.int (nI f)]) (st := [.int (nI y)]) rfl rfl (Nat.le_of_ble_eq_true rfl) dX1_fillUp_18 ?_
  refine CM.mono h (fun r2 M1 h => ?_)
  obtain ⟨v3, rfl, h⟩ := h
  obtain ⟨hb9, hb10, h⟩ := h
  refine wn_icmp_ge (pc := 21) (tgt := 66) X dX1_fillUp_21 (by decide) hb9 hb10 (fun hc => ?_) (fun hc => ?_)
  · replace h := h.1 hc
    refine wp_iload_n (pc := 66) X dX1_fillUp_66 rfl rfl ?_
    exact wp_iret (pc := 67) X T dX1_fillUp_67 h
  · replace h := h.2 hc
    refine wp_iload_n (pc := 24) X dX1_fillUp_24 rfl rfl ?_
    obtain ⟨hb8, h⟩ := h
    refine wn_if_le (pc := 25) (tgt := 66) X dX1_fillUp_25 (by decide) hb8 (fun hc => ?_) (fun hc => ?_)
    · replace h := h.1 hc
      refine wp_iload_n (pc := 66) X dX1_fillUp_66 rfl rfl ?_
      exact wp_iret (pc := 67) X T dX1_fillUp_67 h
    · replace h := h.2 hc
      refine wp_iconst (pc := 28) (v := nI 1) X dX1_fillUp_28 (by decide) ?_
      refine wp_iload (pc := 29) X dX1_fillUp_29 rfl ?_
      refine wp_ishl (pc := 31) X dX1_fillUp_31 ?_
      refine wp_istore (pc := 32) (lo' := [some (.ref k), some (.int (nI f)), some (.int a2), some (.int (nI m)), some (.int (nI y)), some (.int ((nI 1) <<< ((nI y) &&& 31)))]) X dX1_fillUp_32 (Nat.le_of_ble_eq_true rfl) rfl rfl ?_
      refine wp_aload_n (pc := 34) X dX1_fillUp_34 rfl rfl ?_
      refine wp_get (pc := 35) X fl_X1_9 A_k (by decide) (fg_1_2 A_k) dX1_fillUp_35 ?_
      refine wp_iload_n (pc := 38) X dX1_fillUp_38 rfl rfl ?_
      obtain ⟨hj4, h⟩ := h
      refine wn_iald (pc := 39) X A_k_1 hj4 (by decide) dX1_fillUp_39 ?_
      refine wp_iload (pc := 40) X dX1_fillUp_40 rfl ?_
      refine wp_iand (pc := 42) X dX1_fillUp_42 ?_
      refine wp_if_ne (pc := 43) (tgt := 60) X dX1_fillUp_43 (by decide) (fun hc => ?_) (fun hc => ?_)
      · replace h := h.1 hc
        refine wn_iinc (pc := 60) (d := 1) (lo' := [some (.ref k), some (.int (nI f)), some (.int a2), some (.int (nI m)), some (.int (nI (y + 1))), some (.int ((nI 1) <<< ((nI y) &&& 31)))]) X dX1_fillUp_60 rfl (by decide) rfl rfl ?_
        refine wp_goto (pc := 63) (tgt := 11) X dX1_fillUp_63 (by decide) ?_
        exact wp_drop (show subL _ [some (.ref k), some (.int (nI f)), some (.int a2), some (.int (nI m)), some (.int (nI (y + 1))), none] from ⟨rfl, ⟨rfl, ⟨rfl, ⟨rfl, ⟨rfl, trivial⟩⟩⟩⟩⟩) h
      · replace h := h.2 hc
        refine wp_aload_n (pc := 46) X dX1_fillUp_46 rfl rfl ?_
        refine wp_get (pc := 47) X fl_X1_9 A_k (by decide) (fg_1_2 A_k) dX1_fillUp_47 ?_
        refine wp_iload_n (pc := 50) X dX1_fillUp_50 rfl rfl ?_
        refine wp_dup2 (pc := 51) X dX1_fillUp_51 rfl rfl ?_
        obtain ⟨hj5, h⟩ := h
        refine wn_iald (pc := 52) X A_k_1 hj5 (by decide) dX1_fillUp_52 ?_
        refine wp_iload (pc := 53) X dX1_fillUp_53 rfl ?_
        refine wp_ior (pc := 55) X dX1_fillUp_55 ?_
        obtain ⟨hj6, h⟩ := h
        refine wn_iast (pc := 56) X A_k_1 hj6 (by decide) dX1_fillUp_56 ?_
        obtain ⟨hb7, h⟩ := h
        refine wn_idec (pc := 57) (lo' := [some (.ref k), some (.int (nI f)), some (.int a2), some (.int (nI (m - 1))), some (.int (nI y)), some (.int ((nI 1) <<< ((nI y) &&& 31)))]) X dX1_fillUp_57 rfl hb7 rfl rfl ?_
        refine wn_iinc (pc := 60) (d := 1) (lo' := [some (.ref k), some (.int (nI f)), some (.int a2), some (.int (nI (m - 1))), some (.int (nI (y + 1))), some (.int ((nI 1) <<< ((nI y) &&& 31)))]) X dX1_fillUp_60 rfl (by decide) rfl rfl ?_
        refine wp_goto (pc := 63) (tgt := 11) X dX1_fillUp_63 (by decide) ?_
        exact wp_drop (show subL _ [some (.ref k), some (.int (nI f)), some (.int a2), some (.int (nI (m - 1))), some (.int (nI (y + 1))), none] from ⟨rfl, ⟨rfl, ⟨rfl, ⟨rfl, ⟨rfl, trivial⟩⟩⟩⟩⟩) h
theorem r_X1_hear_0 {x : CT} {L : List Nat} {Q : Int32 → Mem → Prop} {M : Mem}  {k s n : Nat} (X : BS x L cX1_hear 4 RX1 (m_X1_hear).2.2.2.2) (T : RT x L none Q) (A_k : AC L k 1 0) (A_s : AC L s 6 0) (A_7 : AC L 7 3 0)
    (h : CM m_X1_loses L [.ref k, .int (nI n)] M (fun r2 M1 => (r2 = 0 → CM m_X6_fileIn L [.ref s, .int (nI n)] M1 (fun r4 M3 => (¬ r4 = (-4) → CM m_X3_hasFile L [.ref 7, .int r4] M3 (fun r6 M5 => (r6 = 0 → Q 0 M5) ∧ (¬ r6 = 0 → CM m_X6_symbolIn L [.ref s, .int (nI n)] M5 (fun r8 M7 => CM m_X6_versionIn L [.ref s, .int (nI n)] M7 (fun r10 M9 => CM m_X1_takeSymbol L [.ref k, .int r4, .int r8, .int r10, .int (nI n)] M9 (fun _ M11 => Q 0 M11)))))) ∧ (r4 = (-4) → CM m_X1_takeTable L [.ref k, .ref (s + 2), .int (nI n)] M3 (fun _ M13 => Q 0 M13)))) ∧ (¬ r2 = 0 → Q 0 (MU M1 k 7 ((M1 k 7) + (nI 1)))))) : WP x L 0 [some (.ref k), some (.ref s), some (.int (nI n)), none] [] M := by
  refine wp_aload_n (pc := 0) X dX1_hear_0 rfl rfl ?_
  refine wp_iload_n (pc := 1) X dX1_hear_1 rfl rfl ?_
  refine wp_invV (pc := 2) X sv_X1_44 A_k (by decide) rfl ⟨by decide, by decide⟩ (As := [.int (nI n)]) (st := []) rfl rfl (Nat.le_of_ble_eq_true rfl) dX1_hear_2 ?_
  refine CM.mono h (fun r2 M1 h => ?_)
  refine wp_if_eq (pc := 5) (tgt := 19) X dX1_hear_5 (by decide) (fun hc => ?_) (fun hc => ?_)
  · replace h := h.1 hc
    refine wp_aload_n (pc := 19) X dX1_hear_19 rfl rfl ?_
    refine wp_iload_n (pc := 20) X dX1_hear_20 rfl rfl ?_
    refine wp_invV (pc := 21) X sv_X1_48 A_s (by decide) rfl ⟨by decide, by decide⟩ (As := [.int (nI n)]) (st := []) rfl rfl (Nat.le_of_ble_eq_true rfl) dX1_hear_21 ?_
    refine CM.mono h (fun r4 M3 h => ?_)
    refine wp_istore_n (pc := 24) (lo' := [some (.ref k), some (.ref s), some (.int (nI n)), some (.int r4)]) X dX1_hear_24 rfl (Nat.le_of_ble_eq_true rfl) rfl rfl ?_
    refine wp_iload_n (pc := 25) X dX1_hear_25 rfl rfl ?_
    refine wp_bipush (pc := 26) (v := (-4)) X dX1_hear_26 (by decide) ?_
    refine wp_icmp_ne (pc := 28) (tgt := 43) X dX1_hear_28 (by decide) (fun hc => ?_) (fun hc => ?_)
    · replace h := h.1 hc
      refine wp_aload_n (pc := 43) X dX1_hear_43 rfl rfl ?_
      refine wp_get (pc := 44) X fl_X1_18 A_k (by decide) (fg_1_0 A_k) dX1_hear_44 ?_
      refine wp_iload_n (pc := 47) X dX1_hear_47 rfl rfl ?_
      refine wp_invV (pc := 48) X sv_X1_61 A_7 (by decide) rfl ⟨by decide, by decide⟩ (As := [.int r4]) (st := []) rfl rfl (Nat.le_of_ble_eq_true rfl) dX1_hear_48 ?_
      refine CM.mono h (fun r6 M5 h => ?_)
      refine wp_if_eq (pc := 51) (tgt := 70) X dX1_hear_51 (by decide) (fun hc => ?_) (fun hc => ?_)
      · replace h := h.1 hc
        exact wp_ret (pc := 70) X T dX1_hear_70 h
      · replace h := h.2 hc
        refine wp_aload_n (pc := 54) X dX1_hear_54 rfl rfl ?_
        refine wp_iload_n (pc := 55) X dX1_hear_55 rfl rfl ?_
        refine wp_aload_n (pc := 56) X dX1_hear_56 rfl rfl ?_
        refine wp_iload_n (pc := 57) X dX1_hear_57 rfl rfl ?_
        refine wp_invV (pc := 58) X sv_X1_66 A_s (by decide) rfl ⟨by decide, by decide⟩ (As := [.int (nI n)]) (st := [.int r4, .ref k]) rfl rfl (Nat.le_of_ble_eq_true rfl) dX1_hear_58 ?_
        refine CM.mono h (fun r8 M7 h => ?_)
        refine wp_aload_n (pc := 61) X dX1_hear_61 rfl rfl ?_
        refine wp_iload_n (pc := 62) X dX1_hear_62 rfl rfl ?_
        refine wp_invV (pc := 63) X sv_X1_69 A_s (by decide) rfl ⟨by decide, by decide⟩ (As := [.int (nI n)]) (st := [.int r8, .int r4, .ref k]) rfl rfl (Nat.le_of_ble_eq_true rfl) dX1_hear_63 ?_
        refine CM.mono h (fun r10 M9 h => ?_)
        refine wp_iload_n (pc := 66) X dX1_hear_66 rfl rfl ?_
        refine wp_invVv (pc := 67) X sv_X1_72 A_k (by decide) rfl ⟨by decide, by decide⟩ (As := [.int r4, .int r8, .int r10, .int (nI n)]) (st := []) rfl rfl (Nat.le_of_ble_eq_true rfl) dX1_hear_67 ?_
        refine CM.mono h (fun _ M11 h => ?_)
        exact wp_ret (pc := 70) X T dX1_hear_70 h
    · replace h := h.2 hc
      refine wp_aload_n (pc := 31) X dX1_hear_31 rfl rfl ?_
      refine wp_aload_n (pc := 32) X dX1_hear_32 rfl rfl ?_
      refine wp_get (pc := 33) X fl_X1_54 A_s (by decide) (fg_6_2 A_s) dX1_hear_33 ?_
      refine wp_iload_n (pc := 36) X dX1_hear_36 rfl rfl ?_
      refine wp_invVv (pc := 37) X sv_X1_57 A_k (by decide) rfl ⟨by decide, by decide⟩ (As := [.ref (s + 2), .int (nI n)]) (st := []) rfl rfl (Nat.le_of_ble_eq_true rfl) dX1_hear_37 ?_
      refine CM.mono h (fun _ M13 h => ?_)
      refine wp_goto (pc := 40) (tgt := 70) X dX1_hear_40 (by decide) ?_
      exact wp_ret (pc := 70) X T dX1_hear_70 h
  · replace h := h.2 hc
    refine wp_aload_n (pc := 8) X dX1_hear_8 rfl rfl ?_
    refine wp_dup (pc := 9) X dX1_hear_9 rfl ?_
    refine wp_get (pc := 10) X fl_X1_35 A_k (by decide) (fg_1_7 A_k) dX1_hear_10 ?_
    refine wp_iconst (pc := 13) (v := nI 1) X dX1_hear_13 (by decide) ?_
    refine wp_iadd (pc := 14) X dX1_hear_14 ?_
    refine wp_put (pc := 15) X fl_X1_35 fp_1_7 A_k (by decide) (fk_1_7 A_k) (fs_1_7 A_k _) dX1_hear_15 ?_
    exact wp_ret (pc := 18) X T dX1_hear_18 h
theorem r_X1_hearS_0 {x : CT} {L : List Nat} {Q : Int32 → Mem → Prop} {M : Mem}  {k s n : Nat} (X : BS x L cX1_hear 4 RX1 (m_X1_hear).2.2.2.2) (T : RT x L none Q) (A_k : AC L k 1 0) (A_s : AC L s 6 0) (A_7 : AC L 7 3 0)
    (h : CM m_X1_loses L [.ref k, .int (nI n)] M (fun r2 M1 => (r2 = 0 → CM m_X6_fileIn L [.ref s, .int (nI n)] M1 (fun r4 M3 => (¬ r4 = (-4) → CM m_X3_hasFile L [.ref 7, .int r4] M3 (fun r6 M5 => (r6 = 0 → Q 0 M5) ∧ (¬ r6 = 0 → CM m_X6_symbolIn L [.ref s, .int (nI n)] M5 (fun r8 M7 => CM m_X6_versionIn L [.ref s, .int (nI n)] M7 (fun r10 M9 => CM m_X1_takeSymbol L [.ref k, .int r4, .int r8, .int r10, .int (nI n)] M9 (fun _ M11 => Q 0 M11)))))) ∧ (r4 = (-4) → CM m_X1_takeTable L [.ref k, .ref (s + 2), .int (nI n)] M3 (fun _ M13 => Q 0 M13)))) ∧ (¬ r2 = 0 → Q 0 (MU M1 k 7 ((M1 k 7) + (nI 1)))))) : WP x L 0 [some (.ref k), some (.ref s), some (.int (nI n)), none] [] M := by
  refine wp_aload_n (pc := 0) X dX1_hear_0 rfl rfl ?_
  refine wp_iload_n (pc := 1) X dX1_hear_1 rfl rfl ?_
  refine wp_invV (pc := 2) X sv_X1_44 A_k (by decide) rfl ⟨by decide, by decide⟩ (As := [.int (nI n)]) (st := []) rfl rfl (Nat.le_of_ble_eq_true rfl) dX1_hear_2 ?_
  refine CM.mono h (fun r2 M1 h => ?_)
  refine wp_if_eq (pc := 5) (tgt := 19) X dX1_hear_5 (by decide) (fun hc => ?_) (fun hc => ?_)
  · replace h := h.1 hc
    refine wp_aload_n (pc := 19) X dX1_hear_19 rfl rfl ?_
    refine wp_iload_n (pc := 20) X dX1_hear_20 rfl rfl ?_
    refine wp_invV (pc := 21) X sv_X1_48 A_s (by decide) rfl ⟨by decide, by decide⟩ (As := [.int (nI n)]) (st := []) rfl rfl (Nat.le_of_ble_eq_true rfl) dX1_hear_21 ?_
    refine CM.mono h (fun r4 M3 h => ?_)
    refine wp_istore_n (pc := 24) (lo' := [some (.ref k), some (.ref s), some (.int (nI n)), some (.int r4)]) X dX1_hear_24 rfl (Nat.le_of_ble_eq_true rfl) rfl rfl ?_
    refine wp_iload_n (pc := 25) X dX1_hear_25 rfl rfl ?_
    refine wp_bipush (pc := 26) (v := (-4)) X dX1_hear_26 (by decide) ?_
    refine wp_icmp_ne (pc := 28) (tgt := 43) X dX1_hear_28 (by decide) (fun hc => ?_) (fun hc => ?_)
    · replace h := h.1 hc
      refine wp_aload_n (pc := 43) X dX1_hear_43 rfl rfl ?_
      refine wp_get (pc := 44) X fl_X1_18 A_k (by decide) (fg_1_0 A_k) dX1_hear_44 ?_
      refine wp_iload_n (pc := 47) X dX1_hear_47 rfl rfl ?_
      refine wp_invV (pc := 48) X sv_X1_61 A_7 (by decide) rfl ⟨by decide, by decide⟩ (As := [.int r4]) (st := []) rfl rfl (Nat.le_of_ble_eq_true rfl) dX1_hear_48 ?_
      refine CM.mono h (fun r6 M5 h => ?_)
      refine wp_if_eq (pc := 51) (tgt := 70) X dX1_hear_51 (by decide) (fun hc => ?_) (fun hc => ?_)
      · replace h := h.1 hc
        exact wp_ret (pc := 70) X T dX1_hear_70 h
      · replace h := h.2 hc
        refine wp_aload_n (pc := 54) X dX1_hear_54 rfl rfl ?_
        refine wp_iload_n (pc := 55) X dX1_hear_55 rfl rfl ?_
        refine wp_aload_n (pc := 56) X dX1_hear_56 rfl rfl ?_
        refine wp_iload_n (pc := 57) X dX1_hear_57 rfl rfl ?_
        refine wp_invV (pc := 58) X sv_X1_66 A_s (by decide) rfl ⟨by decide, by decide⟩ (As := [.int (nI n)]) (st := [.int r4, .ref k]) rfl rfl (Nat.le_of_ble_eq_true rfl) dX1_hear_58 ?_
        refine CM.mono h (fun r8 M7 h => ?_)
        refine wp_aload_n (pc := 61) X dX1_hear_61 rfl rfl ?_
        refine wp_iload_n (pc := 62) X dX1_hear_62 rfl rfl ?_
        refine wp_invV (pc := 63) X sv_X1_69 A_s (by decide) rfl ⟨by decide, by decide⟩ (As := [.int (nI n)]) (st := [.int r8, .int r4, .ref k]) rfl rfl (Nat.le_of_ble_eq_true rfl) dX1_hear_63 ?_
        refine CM.mono h (fun r10 M9 h => ?_)
        refine wp_iload_n (pc := 66) X dX1_hear_66 rfl rfl ?_
        refine wp_invVv (pc := 67) X sv_X1_72 A_k (by decide) rfl ⟨by decide, by decide⟩ (As := [.int r4, .int r8, .int r10, .int (nI n)]) (st := []) rfl rfl (Nat.le_of_ble_eq_true rfl) dX1_hear_67 ?_
        refine CM.mono h (fun _ M11 h => ?_)
        exact wp_ret (pc := 70) X T dX1_hear_70 h
    · replace h := h.2 hc
      refine wp_aload_n (pc := 31) X dX1_hear_31 rfl rfl ?_
      refine wp_aload_n (pc := 32) X dX1_hear_32 rfl rfl ?_
      refine wp_get (pc := 33) X fl_X1_54 A_s (by decide) (fg_6_2 A_s) dX1_hear_33 ?_
      refine wp_iload_n (pc := 36) X dX1_hear_36 rfl rfl ?_
      refine wp_invVv (pc := 37) X sv_X1_57 A_k (by decide) rfl ⟨by decide, by decide⟩ (As := [.ref (s + 2), .int (nI n)]) (st := []) rfl rfl (Nat.le_of_ble_eq_true rfl) dX1_hear_37 ?_
      refine CM.mono h (fun _ M13 h => ?_)
      refine wp_goto (pc := 40) (tgt := 70) X dX1_hear_40 (by decide) ?_
      exact wp_ret (pc := 70) X T dX1_hear_70 h
  · replace h := h.2 hc
    refine wp_aload_n (pc := 8) X dX1_hear_8 rfl rfl ?_
    refine wp_dup (pc := 9) X dX1_hear_9 rfl ?_
    refine wp_get (pc := 10) X fl_X1_35 A_k (by decide) (fg_1_7 A_k) dX1_hear_10 ?_
    refine wp_iconst (pc := 13) (v := nI 1) X dX1_hear_13 (by decide) ?_
    refine wp_iadd (pc := 14) X dX1_hear_14 ?_
    refine wp_put (pc := 15) X fl_X1_35 fp_1_7 A_k (by decide) (fk_1_7 A_k) (fs_1_7 A_k _) dX1_hear_15 ?_
    exact wp_ret (pc := 18) X T dX1_hear_18 h
theorem r_X4_begin_0 {x : CT} {L : List Nat} {Q : Int32 → Mem → Prop} {M : Mem}  {b : Nat} (X : BS x L cX4_begin 1 RX4 (m_X4_begin).2.2.2.2) (T : RT x L none Q) (A_b : AC L b 4 0) (A_b_2 : AC L (b + 2) 6 0)
    (h : CM m_X6_begin L [.ref (b + 2)] M (fun _ M1 => Q 0 (MU M1 b 2 (nI 0)))) : WP x L 0 [some (.ref b)] [] M := by
  refine wp_aload_n (pc := 0) X dX4_begin_0 rfl rfl ?_
  refine wp_get (pc := 1) X fl_X4_22 A_b (by decide) (fg_4_0 A_b) dX4_begin_1 ?_
  refine wp_invVv (pc := 4) X sv_X4_29 A_b_2 (by decide) rfl ⟨by decide, by decide⟩ (As := []) (st := []) rfl rfl (Nat.le_of_ble_eq_true rfl) dX4_begin_4 ?_
  refine CM.mono h (fun _ M1 h => ?_)
  refine wp_aload_n (pc := 7) X dX4_begin_7 rfl rfl ?_
  refine wp_iconst (pc := 8) (v := nI 0) X dX4_begin_8 (by decide) ?_
  refine wp_put (pc := 9) X fl_X4_32 fp_4_2 A_b (by decide) (fk_4_2 A_b) (fs_4_2 A_b _) dX4_begin_9 ?_
  exact wp_ret (pc := 12) X T dX4_begin_12 h
theorem r_X4_become_0 {x : CT} {L : List Nat} {Q : Int32 → Mem → Prop} {M : Mem}  {b b2 : Nat} (X : BS x L cX4_become 3 RX4 (m_X4_become).2.2.2.2) (T : RT x L none Q) (A_b : AC L b 4 0) (A_b2 : AC L b2 4 0) (A_b_2 : AC L (b + 2) 6 0)
    (h : CM m_X6_become L [.ref (b + 2), .ref (b2 + 2)] M (fun _ M1 => WP x L 21 [some (.ref b), some (.ref b2), some (.int (nI 0))] [] (MU M1 b 2 (M1 b2 2)))) : WP x L 0 [some (.ref b), some (.ref b2), none] [] M := by
  refine wp_aload_n (pc := 0) X dX4_become_0 rfl rfl ?_
  refine wp_get (pc := 1) X fl_X4_22 A_b (by decide) (fg_4_0 A_b) dX4_become_1 ?_
  refine wp_aload_n (pc := 4) X dX4_become_4 rfl rfl ?_
  refine wp_get (pc := 5) X fl_X4_22 A_b2 (by decide) (fg_4_0 A_b2) dX4_become_5 ?_
  refine wp_invVv (pc := 8) X sv_X4_36 A_b_2 (by decide) rfl ⟨by decide, by decide⟩ (As := [.ref (b2 + 2)]) (st := []) rfl rfl (Nat.le_of_ble_eq_true rfl) dX4_become_8 ?_
  refine CM.mono h (fun _ M1 h => ?_)
  refine wp_aload_n (pc := 11) X dX4_become_11 rfl rfl ?_
  refine wp_aload_n (pc := 12) X dX4_become_12 rfl rfl ?_
  refine wp_get (pc := 13) X fl_X4_32 A_b2 (by decide) (fg_4_2 A_b2) dX4_become_13 ?_
  refine wp_put (pc := 16) X fl_X4_32 fp_4_2 A_b (by decide) (fk_4_2 A_b) (fs_4_2 A_b _) dX4_become_16 ?_
  refine wp_iconst (pc := 19) (v := nI 0) X dX4_become_19 (by decide) ?_
  refine wp_istore_n (pc := 20) (lo' := [some (.ref b), some (.ref b2), some (.int (nI 0))]) X dX4_become_20 rfl (Nat.le_of_ble_eq_true rfl) rfl rfl ?_
  exact h
theorem r_X4_become_21 {x : CT} {L : List Nat} {Q : Int32 → Mem → Prop} {M : Mem}  {b b2 l : Nat} (X : BS x L cX4_become 3 RX4 (m_X4_become).2.2.2.2) (T : RT x L none Q) (A_b : AC L b 4 0) (A_b_1 : AC L (b + 1) 10 4) (A_b2 : AC L b2 4 0) (A_b2_1 : AC L (b2 + 1) 10 4) (U_b_1 : ∀ j, j < 4 → AC L (b + 1 + 10 + 3 * j) 1 0)
    (h : ∃ v1 : Nat, M b 2 = nI v1 ∧ l < 2 ^ 31 ∧ v1 < 2 ^ 31 ∧ (v1 ≤ l → Q 0 M) ∧ (l < v1 → l < 4 ∧ l < 4 ∧ CM m_X1_become L [.ref (b + 1 + 10 + 3 * l), .ref (b2 + 1 + 10 + 3 * l)] M (fun _ M5 => WP x L 21 [some (.ref b), some (.ref b2), some (.int (nI (l + 1)))] [] M5))) : WP x L 21 [some (.ref b), some (.ref b2), some (.int (nI l))] [] M := by
  refine wp_iload_n (pc := 21) X dX4_become_21 rfl rfl ?_
  refine wp_aload_n (pc := 22) X dX4_become_22 rfl rfl ?_
  obtain ⟨v1, he2, h⟩ := h
  refine we_get (pc := 23) X fl_X4_32 A_b (by decide) (fg_4_2 A_b) he2 dX4_become_23 ?_
  obtain ⟨hb7, hb8, h⟩ := h
  refine wn_icmp_ge (pc := 26) (tgt := 50) X dX4_become_26 (by decide) hb7 hb8 (fun hc => ?_) (fun hc => ?_)
  · replace h := h.1 hc
    exact wp_ret (pc := 50) X T dX4_become_50 h
  · replace h := h.2 hc
    refine wp_aload_n (pc := 29) X dX4_become_29 rfl rfl ?_
    refine wp_get (pc := 30) X fl_X4_11 A_b (by decide) (fg_4_1 A_b) dX4_become_30 ?_
    refine wp_iload_n (pc := 33) X dX4_become_33 rfl rfl ?_
    obtain ⟨hj3, h⟩ := h
    refine wn_aaldl (pc := 34) X A_b_1 hj3 dX4_become_34 ?_
    refine wp_aload_n (pc := 35) X dX4_become_35 rfl rfl ?_
    refine wp_get (pc := 36) X fl_X4_11 A_b2 (by decide) (fg_4_1 A_b2) dX4_become_36 ?_
    refine wp_iload_n (pc := 39) X dX4_become_39 rfl rfl ?_
    obtain ⟨hj4, h⟩ := h
    refine wn_aaldl (pc := 40) X A_b2_1 hj4 dX4_become_40 ?_
    refine wp_invVv (pc := 41) X sv_X4_40 (U_b_1 _ hj3) (by decide) rfl ⟨by decide, by decide⟩ (As := [.ref (b2 + 1 + 10 + 3 * l)]) (st := []) rfl rfl (Nat.le_of_ble_eq_true rfl) dX4_become_41 ?_
    refine CM.mono h (fun _ M5 h => ?_)
    refine wn_iinc (pc := 44) (d := 1) (lo' := [some (.ref b), some (.ref b2), some (.int (nI (l + 1)))]) X dX4_become_44 rfl (by decide) rfl rfl ?_
    refine wp_goto (pc := 47) (tgt := 21) X dX4_become_47 (by decide) ?_
    exact h
theorem r_X4_hasListener_0 {x : CT} {L : List Nat} {Q : Int32 → Mem → Prop} {M : Mem}  {b : Nat} {a1 : Int32} (X : BS x L cX4_hasListener 2 RX4 (m_X4_hasListener).2.2.2.2) (T : RT x L (some .boolean) Q) (A_b : AC L b 4 0)
    (h : (a1 < 0 → Q (nI 0) M) ∧ (¬ a1 < 0 → ∃ v1 : Nat, M b 2 = nI v1 ∧ ((nI v1) ≤ a1 → Q (nI 0) M) ∧ (¬ (nI v1) ≤ a1 → Q (nI 1) M))) : WP x L 0 [some (.ref b), some (.int a1)] [] M := by
  refine wp_iload_n (pc := 0) X dX4_hasListener_0 rfl rfl ?_
  refine wp_if_lt (pc := 1) (tgt := 16) X dX4_hasListener_1 (by decide) (fun hc => ?_) (fun hc => ?_)
  · replace h := h.1 hc
    refine wp_iconst (pc := 16) (v := nI 0) X dX4_hasListener_16 (by decide) ?_
    exact wp_zret (pc := 17) X T (by decide) dX4_hasListener_17 h
  · replace h := h.2 hc
    refine wp_iload_n (pc := 4) X dX4_hasListener_4 rfl rfl ?_
    refine wp_aload_n (pc := 5) X dX4_hasListener_5 rfl rfl ?_
    obtain ⟨v1, he2, h⟩ := h
    refine we_get (pc := 6) X fl_X4_32 A_b (by decide) (fg_4_2 A_b) he2 dX4_hasListener_6 ?_
    refine wp_icmp_ge (pc := 9) (tgt := 16) X dX4_hasListener_9 (by decide) (fun hc => ?_) (fun hc => ?_)
    · replace h := h.1 hc
      refine wp_iconst (pc := 16) (v := nI 0) X dX4_hasListener_16 (by decide) ?_
      exact wp_zret (pc := 17) X T (by decide) dX4_hasListener_17 h
    · replace h := h.2 hc
      refine wp_iconst (pc := 12) (v := nI 1) X dX4_hasListener_12 (by decide) ?_
      refine wp_goto (pc := 13) (tgt := 17) X dX4_hasListener_13 (by decide) ?_
      exact wp_zret (pc := 17) X T (by decide) dX4_hasListener_17 h
theorem r_X4_hasRoom_0 {x : CT} {L : List Nat} {Q : Int32 → Mem → Prop} {M : Mem}  {b : Nat} (X : BS x L cX4_hasRoom 1 RX4 (m_X4_hasRoom).2.2.2.2) (T : RT x L (some .boolean) Q) (A_b : AC L b 4 0)
    (h : ∃ v1 : Nat, M b 2 = nI v1 ∧ ((nI v1) < 0 → Q (nI 0) M) ∧ (¬ (nI v1) < 0 → ∃ v3 : Nat, M b 2 = nI v3 ∧ v3 < 2 ^ 31 ∧ (4 ≤ v3 → Q (nI 0) M) ∧ (v3 < 4 → Q (nI 1) M))) : WP x L 0 [some (.ref b)] [] M := by
  refine wp_aload_n (pc := 0) X dX4_hasRoom_0 rfl rfl ?_
  obtain ⟨v1, he2, h⟩ := h
  refine we_get (pc := 1) X fl_X4_32 A_b (by decide) (fg_4_2 A_b) he2 dX4_hasRoom_1 ?_
  refine wp_if_lt (pc := 4) (tgt := 19) X dX4_hasRoom_4 (by decide) (fun hc => ?_) (fun hc => ?_)
  · replace h := h.1 hc
    refine wp_iconst (pc := 19) (v := nI 0) X dX4_hasRoom_19 (by decide) ?_
    exact wp_zret (pc := 20) X T (by decide) dX4_hasRoom_20 h
  · replace h := h.2 hc
    refine wp_aload_n (pc := 7) X dX4_hasRoom_7 rfl rfl ?_
    obtain ⟨v3, he4, h⟩ := h
    refine we_get (pc := 8) X fl_X4_32 A_b (by decide) (fg_4_2 A_b) he4 dX4_hasRoom_8 ?_
    refine wp_iconst (pc := 11) (v := nI 4) X dX4_hasRoom_11 (by decide) ?_
    obtain ⟨hb5, h⟩ := h
    refine wn_icmp_ge (pc := 12) (tgt := 19) X dX4_hasRoom_12 (by decide) hb5 (by decide) (fun hc => ?_) (fun hc => ?_)
    · replace h := h.1 hc
      refine wp_iconst (pc := 19) (v := nI 0) X dX4_hasRoom_19 (by decide) ?_
      exact wp_zret (pc := 20) X T (by decide) dX4_hasRoom_20 h
    · replace h := h.2 hc
      refine wp_iconst (pc := 15) (v := nI 1) X dX4_hasRoom_15 (by decide) ?_
      refine wp_goto (pc := 16) (tgt := 20) X dX4_hasRoom_16 (by decide) ?_
      exact wp_zret (pc := 20) X T (by decide) dX4_hasRoom_20 h
theorem r_X4_addListener_0 {x : CT} {L : List Nat} {Q : Int32 → Mem → Prop} {M : Mem}  {b : Nat} {a1 : Int32} (X : BS x L cX4_addListener 3 RX4 (m_X4_addListener).2.2.2.2) (T : RT x L (some .int) Q) (A_b : AC L b 4 0) (A_b_1 : AC L (b + 1) 10 4) (A_b_2 : AC L (b + 2) 6 0) (U_b_1 : ∀ j, j < 4 → AC L (b + 1 + 10 + 3 * j) 1 0)
    (h : ∃ v1 : Nat, M b 2 = nI v1 ∧ v1 < 4 ∧ ∃ v4 : Nat, M (b + 2) 9 = nI v4 ∧ CM m_X1_enter L [.ref (b + 1 + 10 + 3 * v1), .int a1, .int (nI v4)] M (fun _ M6 => Q (nI v1) (MU M6 b 2 (nI (v1 + 1))))) : WP x L 0 [some (.ref b), some (.int a1), none] [] M := by
  refine wp_aload_n (pc := 0) X dX4_addListener_0 rfl rfl ?_
  obtain ⟨v1, he2, h⟩ := h
  refine we_get (pc := 1) X fl_X4_32 A_b (by decide) (fg_4_2 A_b) he2 dX4_addListener_1 ?_
  refine wp_istore_n (pc := 4) (lo' := [some (.ref b), some (.int a1), some (.int (nI v1))]) X dX4_addListener_4 rfl (Nat.le_of_ble_eq_true rfl) rfl rfl ?_
  refine wp_aload_n (pc := 5) X dX4_addListener_5 rfl rfl ?_
  refine wp_get (pc := 6) X fl_X4_11 A_b (by decide) (fg_4_1 A_b) dX4_addListener_6 ?_
  refine wp_iload_n (pc := 9) X dX4_addListener_9 rfl rfl ?_
  obtain ⟨hj3, h⟩ := h
  refine wn_aaldl (pc := 10) X A_b_1 hj3 dX4_addListener_10 ?_
  refine wp_iload_n (pc := 11) X dX4_addListener_11 rfl rfl ?_
  refine wp_aload_n (pc := 12) X dX4_addListener_12 rfl rfl ?_
  refine wp_get (pc := 13) X fl_X4_22 A_b (by decide) (fg_4_0 A_b) dX4_addListener_13 ?_
  obtain ⟨v4, he5, h⟩ := h
  refine we_get (pc := 16) X fl_X4_43 A_b_2 (by decide) (fg_6_9 A_b_2) he5 dX4_addListener_16 ?_
  refine wp_invVv (pc := 19) X sv_X4_46 (U_b_1 _ hj3) (by decide) rfl ⟨by decide, by decide⟩ (As := [.int a1, .int (nI v4)]) (st := []) rfl rfl (Nat.le_of_ble_eq_true rfl) dX4_addListener_19 ?_
  refine CM.mono h (fun _ M6 h => ?_)
  refine wp_aload_n (pc := 22) X dX4_addListener_22 rfl rfl ?_
  refine wp_iload_n (pc := 23) X dX4_addListener_23 rfl rfl ?_
  refine wp_iconst (pc := 24) (v := nI 1) X dX4_addListener_24 (by decide) ?_
  refine wn_iadd (pc := 25) X dX4_addListener_25 ?_
  refine wp_put (pc := 26) X fl_X4_32 fp_4_2 A_b (by decide) (fk_4_2 A_b) (fs_4_2 A_b _) dX4_addListener_26 ?_
  refine wp_iload_n (pc := 29) X dX4_addListener_29 rfl rfl ?_
  exact wp_iret (pc := 30) X T dX4_addListener_30 h
theorem r_X4_advance_0 {x : CT} {L : List Nat} {Q : Int32 → Mem → Prop} {M : Mem}  {b : Nat} (X : BS x L cX4_advance 3 RX4 (m_X4_advance).2.2.2.2) (T : RT x L none Q) (A_b : AC L b 4 0) (A_b_2 : AC L (b + 2) 6 0)
    (h : ∃ v1 : Nat, M (b + 2) 9 = nI v1 ∧ CM m_X6_step L [.ref (b + 2)] M (fun _ M3 => WP x L 17 [some (.ref b), some (.int (nI v1)), some (.int (nI 0))] [] M3)) : WP x L 0 [some (.ref b), none, none] [] M := by
  refine wp_aload_n (pc := 0) X dX4_advance_0 rfl rfl ?_
  refine wp_get (pc := 1) X fl_X4_22 A_b (by decide) (fg_4_0 A_b) dX4_advance_1 ?_
  obtain ⟨v1, he2, h⟩ := h
  refine we_get (pc := 4) X fl_X4_43 A_b_2 (by decide) (fg_6_9 A_b_2) he2 dX4_advance_4 ?_
  refine wp_istore_n (pc := 7) (lo' := [some (.ref b), some (.int (nI v1)), none]) X dX4_advance_7 rfl (Nat.le_of_ble_eq_true rfl) rfl rfl ?_
  refine wp_aload_n (pc := 8) X dX4_advance_8 rfl rfl ?_
  refine wp_get (pc := 9) X fl_X4_22 A_b (by decide) (fg_4_0 A_b) dX4_advance_9 ?_
  refine wp_invVv (pc := 12) X sv_X4_50 A_b_2 (by decide) rfl ⟨by decide, by decide⟩ (As := []) (st := []) rfl rfl (Nat.le_of_ble_eq_true rfl) dX4_advance_12 ?_
  refine CM.mono h (fun _ M3 h => ?_)
  refine wp_iconst (pc := 15) (v := nI 0) X dX4_advance_15 (by decide) ?_
  refine wp_istore_n (pc := 16) (lo' := [some (.ref b), some (.int (nI v1)), some (.int (nI 0))]) X dX4_advance_16 rfl (Nat.le_of_ble_eq_true rfl) rfl rfl ?_
  exact h
theorem r_X4_advance_17 {x : CT} {L : List Nat} {Q : Int32 → Mem → Prop} {M : Mem}  {b n l : Nat} (X : BS x L cX4_advance 3 RX4 (m_X4_advance).2.2.2.2) (T : RT x L none Q) (A_b : AC L b 4 0) (A_b_1 : AC L (b + 1) 10 4) (U_b_1 : ∀ j, j < 4 → AC L (b + 1 + 10 + 3 * j) 1 0)
    (h : ∃ v1 : Nat, M b 2 = nI v1 ∧ l < 2 ^ 31 ∧ v1 < 2 ^ 31 ∧ (v1 ≤ l → Q 0 M) ∧ (l < v1 → l < 4 ∧ CM m_X1_hear L [.ref (b + 1 + 10 + 3 * l), .ref (b + 2), .int (nI n)] M (fun _ M4 => WP x L 17 [some (.ref b), some (.int (nI n)), some (.int (nI (l + 1)))] [] M4))) : WP x L 17 [some (.ref b), some (.int (nI n)), some (.int (nI l))] [] M := by
  refine wp_iload_n (pc := 17) X dX4_advance_17 rfl rfl ?_
  refine wp_aload_n (pc := 18) X dX4_advance_18 rfl rfl ?_
  obtain ⟨v1, he2, h⟩ := h
  refine we_get (pc := 19) X fl_X4_32 A_b (by decide) (fg_4_2 A_b) he2 dX4_advance_19 ?_
  obtain ⟨hb6, hb7, h⟩ := h
  refine wn_icmp_ge (pc := 22) (tgt := 45) X dX4_advance_22 (by decide) hb6 hb7 (fun hc => ?_) (fun hc => ?_)
  · replace h := h.1 hc
    exact wp_ret (pc := 45) X T dX4_advance_45 h
  · replace h := h.2 hc
    refine wp_aload_n (pc := 25) X dX4_advance_25 rfl rfl ?_
    refine wp_get (pc := 26) X fl_X4_11 A_b (by decide) (fg_4_1 A_b) dX4_advance_26 ?_
    refine wp_iload_n (pc := 29) X dX4_advance_29 rfl rfl ?_
    obtain ⟨hj3, h⟩ := h
    refine wn_aaldl (pc := 30) X A_b_1 hj3 dX4_advance_30 ?_
    refine wp_aload_n (pc := 31) X dX4_advance_31 rfl rfl ?_
    refine wp_get (pc := 32) X fl_X4_22 A_b (by decide) (fg_4_0 A_b) dX4_advance_32 ?_
    refine wp_iload_n (pc := 35) X dX4_advance_35 rfl rfl ?_
    refine wp_invVv (pc := 36) X sv_X4_53 (U_b_1 _ hj3) (by decide) rfl ⟨by decide, by decide⟩ (As := [.ref (b + 2), .int (nI n)]) (st := []) rfl rfl (Nat.le_of_ble_eq_true rfl) dX4_advance_36 ?_
    refine CM.mono h (fun _ M4 h => ?_)
    refine wn_iinc (pc := 39) (d := 1) (lo' := [some (.ref b), some (.int (nI n)), some (.int (nI (l + 1)))]) X dX4_advance_39 rfl (by decide) rfl rfl ?_
    refine wp_goto (pc := 42) (tgt := 17) X dX4_advance_42 (by decide) ?_
    exact h
theorem r_X2_keep_0 {x : CT} {L : List Nat} {Q : Int32 → Mem → Prop} {M : Mem}  (X : BS x L cX2_keep 2 RX2 (m_X2_keep).2.2.2.2) (T : RT x L none Q) (A_34 : AC L 34 2 0) (A_35 : AC L 35 11 4) (U_35 : ∀ j, j < 4 → AC L (35 + 1 + 23 * j) 4 0)
    (h : ∃ v1 : Nat, M 34 1 = nI v1 ∧ v1 < 2 ^ 31 ∧ (v1 % 4) < 4 ∧ CM m_X4_become L [.ref (35 + 1 + 23 * (v1 % 4)), .ref 11] M (fun _ M5 => ∃ v7 : Nat, M5 34 1 = nI v7 ∧ ∃ v9 : Nat, (MU M5 34 1 (nI (v7 + 1))) 34 2 = nI v9 ∧ Q 0 (MU (MU M5 34 1 (nI (v7 + 1))) 34 2 (if (nI 4) < (nI (v9 + 1)) then (nI 4) else (nI (v9 + 1)))))) : WP x L 0 [some (.ref 34), some (.ref 11)] [] M := by
  refine wp_aload_n (pc := 0) X dX2_keep_0 rfl rfl ?_
  refine wp_get (pc := 1) X fl_X2_11 A_34 (by decide) (fg_2_0 A_34) dX2_keep_1 ?_
  refine wp_aload_n (pc := 4) X dX2_keep_4 rfl rfl ?_
  obtain ⟨v1, he2, h⟩ := h
  refine we_get (pc := 5) X fl_X2_20 A_34 (by decide) (fg_2_1 A_34) he2 dX2_keep_5 ?_
  refine wp_iconst (pc := 8) (v := nI 3) X dX2_keep_8 (by decide) ?_
  obtain ⟨hb3, h⟩ := h
  refine wn_and3 (pc := 9) X dX2_keep_9 hb3 ?_
  obtain ⟨hj4, h⟩ := h
  refine wn_aaldr (pc := 10) X A_35 hj4 dX2_keep_10 ?_
  refine wp_aload_n (pc := 11) X dX2_keep_11 rfl rfl ?_
  refine wp_invVv (pc := 12) X sv_X2_24 (U_35 _ hj4) (by decide) rfl ⟨by decide, by decide⟩ (As := [.ref 11]) (st := []) rfl rfl (Nat.le_of_ble_eq_true rfl) dX2_keep_12 ?_
  refine CM.mono h (fun _ M5 h => ?_)
  refine wp_aload_n (pc := 15) X dX2_keep_15 rfl rfl ?_
  refine wp_dup (pc := 16) X dX2_keep_16 rfl ?_
  obtain ⟨v7, he8, h⟩ := h
  refine we_get (pc := 17) X fl_X2_20 A_34 (by decide) (fg_2_1 A_34) he8 dX2_keep_17 ?_
  refine wp_iconst (pc := 20) (v := nI 1) X dX2_keep_20 (by decide) ?_
  refine wn_iadd (pc := 21) X dX2_keep_21 ?_
  refine wp_put (pc := 22) X fl_X2_20 fp_2_1 A_34 (by decide) (fk_2_1 A_34) (fs_2_1 A_34 _) dX2_keep_22 ?_
  refine wp_aload_n (pc := 25) X dX2_keep_25 rfl rfl ?_
  refine wp_aload_n (pc := 26) X dX2_keep_26 rfl rfl ?_
  obtain ⟨v9, he10, h⟩ := h
  refine we_get (pc := 27) X fl_X2_28 A_34 (by decide) (fg_2_2 A_34) he10 dX2_keep_27 ?_
  refine wp_iconst (pc := 30) (v := nI 1) X dX2_keep_30 (by decide) ?_
  refine wn_iadd (pc := 31) X dX2_keep_31 ?_
  refine wp_iconst (pc := 32) (v := nI 4) X dX2_keep_32 (by decide) ?_
  refine wp_min (pc := 33) X k_391 k_392 k_47 k_393 (by decide) (Nat.le_of_ble_eq_true rfl) dX2_keep_33 ?_
  refine wp_put (pc := 36) X fl_X2_28 fp_2_2 A_34 (by decide) (fk_2_2 A_34) (fs_2_2 A_34 _) dX2_keep_36 ?_
  exact wp_ret (pc := 39) X T dX2_keep_39 h
theorem r_X2_giveBack_0 {x : CT} {L : List Nat} {Q : Int32 → Mem → Prop} {M : Mem}  (X : BS x L cX2_giveBack 2 RX2 (m_X2_giveBack).2.2.2.2) (T : RT x L (some .boolean) Q) (A_34 : AC L 34 2 0) (A_35 : AC L 35 11 4) (A_11 : AC L 11 4 0)
    (h : ∃ v1 : Nat, M 34 2 = nI v1 ∧ v1 < 2 ^ 31 ∧ (1 ≤ v1 → ∃ v3 : Nat, M 34 2 = nI v3 ∧ ∃ v5 : Nat, (MU M 34 2 ((nI v3) - (nI 1))) 34 1 = nI v5 ∧ ∃ v7 : Nat, (MU (MU M 34 2 ((nI v3) - (nI 1))) 34 1 ((nI v5) - (nI 1))) 34 1 = nI v7 ∧ v7 < 2 ^ 31 ∧ (v7 % 4) < 4 ∧ CM m_X4_become L [.ref 11, .ref (35 + 1 + 23 * (v7 % 4))] (MU (MU M 34 2 ((nI v3) - (nI 1))) 34 1 ((nI v5) - (nI 1))) (fun _ M11 => Q (nI 1) M11)) ∧ (v1 < 1 → Q (nI 0) M)) : WP x L 0 [some (.ref 34), some (.ref 11)] [] M := by
  refine wp_aload_n (pc := 0) X dX2_giveBack_0 rfl rfl ?_
  obtain ⟨v1, he2, h⟩ := h
  refine we_get (pc := 1) X fl_X2_28 A_34 (by decide) (fg_2_2 A_34) he2 dX2_giveBack_1 ?_
  refine wp_iconst (pc := 4) (v := nI 1) X dX2_giveBack_4 (by decide) ?_
  obtain ⟨hb13, h⟩ := h
  refine wn_icmp_ge (pc := 5) (tgt := 10) X dX2_giveBack_5 (by decide) hb13 (by decide) (fun hc => ?_) (fun hc => ?_)
  · replace h := h.1 hc
    refine wp_aload_n (pc := 10) X dX2_giveBack_10 rfl rfl ?_
    refine wp_dup (pc := 11) X dX2_giveBack_11 rfl ?_
    obtain ⟨v3, he4, h⟩ := h
    refine we_get (pc := 12) X fl_X2_28 A_34 (by decide) (fg_2_2 A_34) he4 dX2_giveBack_12 ?_
    refine wp_iconst (pc := 15) (v := nI 1) X dX2_giveBack_15 (by decide) ?_
    refine wp_isub (pc := 16) X dX2_giveBack_16 ?_
    refine wp_put (pc := 17) X fl_X2_28 fp_2_2 A_34 (by decide) (fk_2_2 A_34) (fs_2_2 A_34 _) dX2_giveBack_17 ?_
    refine wp_aload_n (pc := 20) X dX2_giveBack_20 rfl rfl ?_
    refine wp_dup (pc := 21) X dX2_giveBack_21 rfl ?_
    obtain ⟨v5, he6, h⟩ := h
    refine we_get (pc := 22) X fl_X2_20 A_34 (by decide) (fg_2_1 A_34) he6 dX2_giveBack_22 ?_
    refine wp_iconst (pc := 25) (v := nI 1) X dX2_giveBack_25 (by decide) ?_
    refine wp_isub (pc := 26) X dX2_giveBack_26 ?_
    refine wp_put (pc := 27) X fl_X2_20 fp_2_1 A_34 (by decide) (fk_2_1 A_34) (fs_2_1 A_34 _) dX2_giveBack_27 ?_
    refine wp_aload_n (pc := 30) X dX2_giveBack_30 rfl rfl ?_
    refine wp_aload_n (pc := 31) X dX2_giveBack_31 rfl rfl ?_
    refine wp_get (pc := 32) X fl_X2_11 A_34 (by decide) (fg_2_0 A_34) dX2_giveBack_32 ?_
    refine wp_aload_n (pc := 35) X dX2_giveBack_35 rfl rfl ?_
    obtain ⟨v7, he8, h⟩ := h
    refine we_get (pc := 36) X fl_X2_20 A_34 (by decide) (fg_2_1 A_34) he8 dX2_giveBack_36 ?_
    refine wp_iconst (pc := 39) (v := nI 3) X dX2_giveBack_39 (by decide) ?_
    obtain ⟨hb9, h⟩ := h
    refine wn_and3 (pc := 40) X dX2_giveBack_40 hb9 ?_
    obtain ⟨hj10, h⟩ := h
    refine wn_aaldr (pc := 41) X A_35 hj10 dX2_giveBack_41 ?_
    refine wp_invVv (pc := 42) X sv_X2_24 A_11 (by decide) rfl ⟨by decide, by decide⟩ (As := [.ref (35 + 1 + 23 * (v7 % 4))]) (st := []) rfl rfl (Nat.le_of_ble_eq_true rfl) dX2_giveBack_42 ?_
    refine CM.mono h (fun _ M11 h => ?_)
    refine wp_iconst (pc := 45) (v := nI 1) X dX2_giveBack_45 (by decide) ?_
    exact wp_zret (pc := 46) X T (by decide) dX2_giveBack_46 h
  · replace h := h.2 hc
    refine wp_iconst (pc := 8) (v := nI 0) X dX2_giveBack_8 (by decide) ?_
    exact wp_zret (pc := 9) X T (by decide) dX2_giveBack_9 h
theorem r_X2_forget_0 {x : CT} {L : List Nat} {Q : Int32 → Mem → Prop} {M : Mem}  (X : BS x L cX2_forget 1 RX2 (m_X2_forget).2.2.2.2) (T : RT x L none Q) (A_34 : AC L 34 2 0)
    (h : Q 0 (MU M 34 2 (nI 0))) : WP x L 0 [some (.ref 34)] [] M := by
  refine wp_aload_n (pc := 0) X dX2_forget_0 rfl rfl ?_
  refine wp_iconst (pc := 1) (v := nI 0) X dX2_forget_1 (by decide) ?_
  refine wp_put (pc := 2) X fl_X2_28 fp_2_2 A_34 (by decide) (fk_2_2 A_34) (fs_2_2 A_34 _) dX2_forget_2 ?_
  exact wp_ret (pc := 5) X T dX2_forget_5 h
theorem r_X5_append_0 {x : CT} {L : List Nat} {Q : Int32 → Mem → Prop} {M : Mem}  {a1 : Int32} (X : BS x L cX5_append 2 RX5 (m_X5_append).2.2.2.2) (T : RT x L (some .boolean) Q) (A_1 : AC L 1 5 0) (A_2 : AC L 2 9 200)
    (h : ∃ v1 : Nat, M 1 1 = nI v1 ∧ ((nI v1) < 0 → Q (nI 0) M) ∧ (¬ (nI v1) < 0 → ∃ v3 : Nat, M 1 1 = nI v3 ∧ v3 < 2 ^ 31 ∧ (v3 < 200 → ∃ v5 : Nat, M 1 1 = nI v5 ∧ v5 < 200 ∧ ∃ v8 : Nat, (MU M 2 v5 a1) 1 1 = nI v8 ∧ Q (nI 1) (MU (MU M 2 v5 a1) 1 1 (nI (v8 + 1)))) ∧ (200 ≤ v3 → Q (nI 0) M))) : WP x L 0 [some (.ref 1), some (.int a1)] [] M := by
  refine wp_aload_n (pc := 0) X dX5_append_0 rfl rfl ?_
  obtain ⟨v1, he2, h⟩ := h
  refine we_get (pc := 1) X fl_X5_15 A_1 (by decide) (fg_5_1 A_1) he2 dX5_append_1 ?_
  refine wp_if_lt (pc := 4) (tgt := 17) X dX5_append_4 (by decide) (fun hc => ?_) (fun hc => ?_)
  · replace h := h.1 hc
    refine wp_iconst (pc := 17) (v := nI 0) X dX5_append_17 (by decide) ?_
    exact wp_zret (pc := 18) X T (by decide) dX5_append_18 h
  · replace h := h.2 hc
    refine wp_aload_n (pc := 7) X dX5_append_7 rfl rfl ?_
    obtain ⟨v3, he4, h⟩ := h
    refine we_get (pc := 8) X fl_X5_15 A_1 (by decide) (fg_5_1 A_1) he4 dX5_append_8 ?_
    refine wp_sipush (pc := 11) (v := nI 200) X dX5_append_11 (by decide) ?_
    obtain ⟨hb10, h⟩ := h
    refine wn_icmp_lt (pc := 14) (tgt := 19) X dX5_append_14 (by decide) hb10 (by decide) (fun hc => ?_) (fun hc => ?_)
    · replace h := h.1 hc
      refine wp_aload_n (pc := 19) X dX5_append_19 rfl rfl ?_
      refine wp_get (pc := 20) X fl_X5_9 A_1 (by decide) (fg_5_0 A_1) dX5_append_20 ?_
      refine wp_aload_n (pc := 23) X dX5_append_23 rfl rfl ?_
      obtain ⟨v5, he6, h⟩ := h
      refine we_get (pc := 24) X fl_X5_15 A_1 (by decide) (fg_5_1 A_1) he6 dX5_append_24 ?_
      refine wp_iload_n (pc := 27) X dX5_append_27 rfl rfl ?_
      obtain ⟨hj7, h⟩ := h
      refine wn_iast (pc := 28) X A_2 hj7 (by decide) dX5_append_28 ?_
      refine wp_aload_n (pc := 29) X dX5_append_29 rfl rfl ?_
      refine wp_dup (pc := 30) X dX5_append_30 rfl ?_
      obtain ⟨v8, he9, h⟩ := h
      refine we_get (pc := 31) X fl_X5_15 A_1 (by decide) (fg_5_1 A_1) he9 dX5_append_31 ?_
      refine wp_iconst (pc := 34) (v := nI 1) X dX5_append_34 (by decide) ?_
      refine wn_iadd (pc := 35) X dX5_append_35 ?_
      refine wp_put (pc := 36) X fl_X5_15 fp_5_1 A_1 (by decide) (fk_5_1 A_1) (fs_5_1 A_1 _) dX5_append_36 ?_
      refine wp_iconst (pc := 39) (v := nI 1) X dX5_append_39 (by decide) ?_
      exact wp_zret (pc := 40) X T (by decide) dX5_append_40 h
    · replace h := h.2 hc
      refine wp_iconst (pc := 17) (v := nI 0) X dX5_append_17 (by decide) ?_
      exact wp_zret (pc := 18) X T (by decide) dX5_append_18 h
theorem r_X5_takes_0 {x : CT} {L : List Nat} {Q : Int32 → Mem → Prop} {M : Mem}  {a1 : Int32} (X : BS x L cX5_takes 2 RX5 (m_X5_takes).2.2.2.2) (T : RT x L (some .boolean) Q) (A_1 : AC L 1 5 0) (A_2 : AC L 2 9 200)
    (h : ∃ v1 : Nat, M 1 2 = nI v1 ∧ ((nI v1) < 0 → Q (nI 0) M) ∧ (¬ (nI v1) < 0 → ∃ v3 : Nat, M 1 2 = nI v3 ∧ ∃ v5 : Nat, M 1 1 = nI v5 ∧ v3 < 2 ^ 31 ∧ v5 < 2 ^ 31 ∧ (v5 ≤ v3 → Q (nI 0) M) ∧ (v3 < v5 → ∃ v7 : Nat, M 1 2 = nI v7 ∧ v7 < 200 ∧ ((M 2 v7) = a1 → ∃ v10 : Nat, M 1 2 = nI v10 ∧ Q (nI 1) (MU M 1 2 (nI (v10 + 1)))) ∧ (¬ (M 2 v7) = a1 → Q (nI 0) M)))) : WP x L 0 [some (.ref 1), some (.int a1)] [] M := by
  refine wp_aload_n (pc := 0) X dX5_takes_0 rfl rfl ?_
  obtain ⟨v1, he2, h⟩ := h
  refine we_get (pc := 1) X fl_X5_24 A_1 (by decide) (fg_5_2 A_1) he2 dX5_takes_1 ?_
  refine wp_if_lt (pc := 4) (tgt := 31) X dX5_takes_4 (by decide) (fun hc => ?_) (fun hc => ?_)
  · replace h := h.1 hc
    refine wp_iconst (pc := 31) (v := nI 0) X dX5_takes_31 (by decide) ?_
    exact wp_zret (pc := 32) X T (by decide) dX5_takes_32 h
  · replace h := h.2 hc
    refine wp_aload_n (pc := 7) X dX5_takes_7 rfl rfl ?_
    obtain ⟨v3, he4, h⟩ := h
    refine we_get (pc := 8) X fl_X5_24 A_1 (by decide) (fg_5_2 A_1) he4 dX5_takes_8 ?_
    refine wp_aload_n (pc := 11) X dX5_takes_11 rfl rfl ?_
    obtain ⟨v5, he6, h⟩ := h
    refine we_get (pc := 12) X fl_X5_15 A_1 (by decide) (fg_5_1 A_1) he6 dX5_takes_12 ?_
    obtain ⟨hb12, hb13, h⟩ := h
    refine wn_icmp_ge (pc := 15) (tgt := 31) X dX5_takes_15 (by decide) hb12 hb13 (fun hc => ?_) (fun hc => ?_)
    · replace h := h.1 hc
      refine wp_iconst (pc := 31) (v := nI 0) X dX5_takes_31 (by decide) ?_
      exact wp_zret (pc := 32) X T (by decide) dX5_takes_32 h
    · replace h := h.2 hc
      refine wp_aload_n (pc := 18) X dX5_takes_18 rfl rfl ?_
      refine wp_get (pc := 19) X fl_X5_9 A_1 (by decide) (fg_5_0 A_1) dX5_takes_19 ?_
      refine wp_aload_n (pc := 22) X dX5_takes_22 rfl rfl ?_
      obtain ⟨v7, he8, h⟩ := h
      refine we_get (pc := 23) X fl_X5_24 A_1 (by decide) (fg_5_2 A_1) he8 dX5_takes_23 ?_
      obtain ⟨hj9, h⟩ := h
      refine wn_iald (pc := 26) X A_2 hj9 (by decide) dX5_takes_26 ?_
      refine wp_iload_n (pc := 27) X dX5_takes_27 rfl rfl ?_
      refine wp_icmp_eq (pc := 28) (tgt := 33) X dX5_takes_28 (by decide) (fun hc => ?_) (fun hc => ?_)
      · replace h := h.1 hc
        refine wp_aload_n (pc := 33) X dX5_takes_33 rfl rfl ?_
        refine wp_dup (pc := 34) X dX5_takes_34 rfl ?_
        obtain ⟨v10, he11, h⟩ := h
        refine we_get (pc := 35) X fl_X5_24 A_1 (by decide) (fg_5_2 A_1) he11 dX5_takes_35 ?_
        refine wp_iconst (pc := 38) (v := nI 1) X dX5_takes_38 (by decide) ?_
        refine wn_iadd (pc := 39) X dX5_takes_39 ?_
        refine wp_put (pc := 40) X fl_X5_24 fp_5_2 A_1 (by decide) (fk_5_2 A_1) (fs_5_2 A_1 _) dX5_takes_40 ?_
        refine wp_iconst (pc := 43) (v := nI 1) X dX5_takes_43 (by decide) ?_
        exact wp_zret (pc := 44) X T (by decide) dX5_takes_44 h
      · replace h := h.2 hc
        refine wp_iconst (pc := 31) (v := nI 0) X dX5_takes_31 (by decide) ?_
        exact wp_zret (pc := 32) X T (by decide) dX5_takes_32 h
theorem r_X5_readFigure_0 {x : CT} {L : List Nat} {Q : Int32 → Mem → Prop} {M : Mem}  (X : BS x L cX5_readFigure 2 RX5 (m_X5_readFigure).2.2.2.2) (T : RT x L (some .int) Q) (A_1 : AC L 1 5 0) (A_2 : AC L 2 9 200)
    (h : ∃ v1 : Nat, M 1 2 = nI v1 ∧ ((nI v1) < 0 → Q (-1) M) ∧ (¬ (nI v1) < 0 → ∃ v3 : Nat, M 1 2 = nI v3 ∧ ∃ v5 : Nat, M 1 1 = nI v5 ∧ v3 < 2 ^ 31 ∧ v5 < 2 ^ 31 ∧ (v5 ≤ v3 → Q (-1) M) ∧ (v3 < v5 → ∃ v7 : Nat, M 1 2 = nI v7 ∧ v7 < 200 ∧ ((M 2 v7) < (nI 48) → Q (-1) M) ∧ (¬ (M 2 v7) < (nI 48) → ∃ v10 : Nat, M 1 2 = nI v10 ∧ v10 < 200 ∧ ((M 2 v10) ≤ (nI 57) → ∃ v13 : Nat, M 1 2 = nI v13 ∧ v13 < 200 ∧ ∃ v16 : Nat, M 1 2 = nI v16 ∧ Q ((M 2 v13) - (nI 48)) (MU M 1 2 (nI (v16 + 1)))) ∧ (¬ (M 2 v10) ≤ (nI 57) → Q (-1) M))))) : WP x L 0 [some (.ref 1), none] [] M := by
  refine wp_aload_n (pc := 0) X dX5_readFigure_0 rfl rfl ?_
  obtain ⟨v1, he2, h⟩ := h
  refine we_get (pc := 1) X fl_X5_24 A_1 (by decide) (fg_5_2 A_1) he2 dX5_readFigure_1 ?_
  refine wp_if_lt (pc := 4) (tgt := 46) X dX5_readFigure_4 (by decide) (fun hc => ?_) (fun hc => ?_)
  · replace h := h.1 hc
    refine wp_iconst (pc := 46) (v := (-1)) X dX5_readFigure_46 (by decide) ?_
    exact wp_iret (pc := 47) X T dX5_readFigure_47 h
  · replace h := h.2 hc
    refine wp_aload_n (pc := 7) X dX5_readFigure_7 rfl rfl ?_
    obtain ⟨v3, he4, h⟩ := h
    refine we_get (pc := 8) X fl_X5_24 A_1 (by decide) (fg_5_2 A_1) he4 dX5_readFigure_8 ?_
    refine wp_aload_n (pc := 11) X dX5_readFigure_11 rfl rfl ?_
    obtain ⟨v5, he6, h⟩ := h
    refine we_get (pc := 12) X fl_X5_15 A_1 (by decide) (fg_5_1 A_1) he6 dX5_readFigure_12 ?_
    obtain ⟨hb18, hb19, h⟩ := h
    refine wn_icmp_ge (pc := 15) (tgt := 46) X dX5_readFigure_15 (by decide) hb18 hb19 (fun hc => ?_) (fun hc => ?_)
    · replace h := h.1 hc
      refine wp_iconst (pc := 46) (v := (-1)) X dX5_readFigure_46 (by decide) ?_
      exact wp_iret (pc := 47) X T dX5_readFigure_47 h
    · replace h := h.2 hc
      refine wp_aload_n (pc := 18) X dX5_readFigure_18 rfl rfl ?_
      refine wp_get (pc := 19) X fl_X5_9 A_1 (by decide) (fg_5_0 A_1) dX5_readFigure_19 ?_
      refine wp_aload_n (pc := 22) X dX5_readFigure_22 rfl rfl ?_
      obtain ⟨v7, he8, h⟩ := h
      refine we_get (pc := 23) X fl_X5_24 A_1 (by decide) (fg_5_2 A_1) he8 dX5_readFigure_23 ?_
      obtain ⟨hj9, h⟩ := h
      refine wn_iald (pc := 26) X A_2 hj9 (by decide) dX5_readFigure_26 ?_
      refine wp_bipush (pc := 27) (v := nI 48) X dX5_readFigure_27 (by decide) ?_
      refine wp_icmp_lt (pc := 29) (tgt := 46) X dX5_readFigure_29 (by decide) (fun hc => ?_) (fun hc => ?_)
      · replace h := h.1 hc
        refine wp_iconst (pc := 46) (v := (-1)) X dX5_readFigure_46 (by decide) ?_
        exact wp_iret (pc := 47) X T dX5_readFigure_47 h
      · replace h := h.2 hc
        refine wp_aload_n (pc := 32) X dX5_readFigure_32 rfl rfl ?_
        refine wp_get (pc := 33) X fl_X5_9 A_1 (by decide) (fg_5_0 A_1) dX5_readFigure_33 ?_
        refine wp_aload_n (pc := 36) X dX5_readFigure_36 rfl rfl ?_
        obtain ⟨v10, he11, h⟩ := h
        refine we_get (pc := 37) X fl_X5_24 A_1 (by decide) (fg_5_2 A_1) he11 dX5_readFigure_37 ?_
        obtain ⟨hj12, h⟩ := h
        refine wn_iald (pc := 40) X A_2 hj12 (by decide) dX5_readFigure_40 ?_
        refine wp_bipush (pc := 41) (v := nI 57) X dX5_readFigure_41 (by decide) ?_
        refine wp_icmp_le (pc := 43) (tgt := 48) X dX5_readFigure_43 (by decide) (fun hc => ?_) (fun hc => ?_)
        · replace h := h.1 hc
          refine wp_aload_n (pc := 48) X dX5_readFigure_48 rfl rfl ?_
          refine wp_get (pc := 49) X fl_X5_9 A_1 (by decide) (fg_5_0 A_1) dX5_readFigure_49 ?_
          refine wp_aload_n (pc := 52) X dX5_readFigure_52 rfl rfl ?_
          obtain ⟨v13, he14, h⟩ := h
          refine we_get (pc := 53) X fl_X5_24 A_1 (by decide) (fg_5_2 A_1) he14 dX5_readFigure_53 ?_
          obtain ⟨hj15, h⟩ := h
          refine wn_iald (pc := 56) X A_2 hj15 (by decide) dX5_readFigure_56 ?_
          refine wp_bipush (pc := 57) (v := nI 48) X dX5_readFigure_57 (by decide) ?_
          refine wp_isub (pc := 59) X dX5_readFigure_59 ?_
          refine wp_istore_n (pc := 60) (lo' := [some (.ref 1), some (.int ((M 2 v13) - (nI 48)))]) X dX5_readFigure_60 rfl (Nat.le_of_ble_eq_true rfl) rfl rfl ?_
          refine wp_aload_n (pc := 61) X dX5_readFigure_61 rfl rfl ?_
          refine wp_dup (pc := 62) X dX5_readFigure_62 rfl ?_
          obtain ⟨v16, he17, h⟩ := h
          refine we_get (pc := 63) X fl_X5_24 A_1 (by decide) (fg_5_2 A_1) he17 dX5_readFigure_63 ?_
          refine wp_iconst (pc := 66) (v := nI 1) X dX5_readFigure_66 (by decide) ?_
          refine wn_iadd (pc := 67) X dX5_readFigure_67 ?_
          refine wp_put (pc := 68) X fl_X5_24 fp_5_2 A_1 (by decide) (fk_5_2 A_1) (fs_5_2 A_1 _) dX5_readFigure_68 ?_
          refine wp_iload_n (pc := 71) X dX5_readFigure_71 rfl rfl ?_
          exact wp_iret (pc := 72) X T dX5_readFigure_72 h
        · replace h := h.2 hc
          refine wp_iconst (pc := 46) (v := (-1)) X dX5_readFigure_46 (by decide) ?_
          exact wp_iret (pc := 47) X T dX5_readFigure_47 h
theorem r_X5_readNumber_0 {x : CT} {L : List Nat} {Q : Int32 → Mem → Prop} {M : Mem}  {a1 : Int32} (X : BS x L cX5_readNumber 4 RX5 (m_X5_readNumber).2.2.2.2) (T : RT x L (some .int) Q) (A_1 : AC L 1 5 0)
    (h : CM m_X5_readFigure L [.ref 1] M (fun r2 M1 => (¬ r2 = (-1) → CM m_X5_readFigure L [.ref 1] M1 (fun r4 M3 => (r4 = (-1) → CM m_X5_takes L [.ref 1, .int a1] M3 (fun r6 M5 => (r6 = 0 → Q (-1) M5) ∧ (¬ r6 = 0 → Q r2 M5))) ∧ (¬ r4 = (-1) → CM m_X5_takes L [.ref 1, .int a1] M3 (fun r8 M7 => (r8 = 0 → Q (-1) M7) ∧ (¬ r8 = 0 → Q ((r2 * (nI 10)) + r4) M7))))) ∧ (r2 = (-1) → Q (-1) M1))) : WP x L 0 [some (.ref 1), some (.int a1), none, none] [] M := by
  refine wp_aload_n (pc := 0) X dX5_readNumber_0 rfl rfl ?_
  refine wp_invV (pc := 1) X sv_X5_53 A_1 (by decide) rfl ⟨by decide, by decide⟩ (As := []) (st := []) rfl rfl (Nat.le_of_ble_eq_true rfl) dX5_readNumber_1 ?_
  refine CM.mono h (fun r2 M1 h => ?_)
  refine wp_istore_n (pc := 4) (lo' := [some (.ref 1), some (.int a1), some (.int r2), none]) X dX5_readNumber_4 rfl (Nat.le_of_ble_eq_true rfl) rfl rfl ?_
  refine wp_iload_n (pc := 5) X dX5_readNumber_5 rfl rfl ?_
  refine wp_iconst (pc := 6) (v := (-1)) X dX5_readNumber_6 (by decide) ?_
  refine wp_icmp_ne (pc := 7) (tgt := 12) X dX5_readNumber_7 (by decide) (fun hc => ?_) (fun hc => ?_)
  · replace h := h.1 hc
    refine wp_aload_n (pc := 12) X dX5_readNumber_12 rfl rfl ?_
    refine wp_invV (pc := 13) X sv_X5_53 A_1 (by decide) rfl ⟨by decide, by decide⟩ (As := []) (st := []) rfl rfl (Nat.le_of_ble_eq_true rfl) dX5_readNumber_13 ?_
    refine CM.mono h (fun r4 M3 h => ?_)
    refine wp_istore_n (pc := 16) (lo' := [some (.ref 1), some (.int a1), some (.int r2), some (.int r4)]) X dX5_readNumber_16 rfl (Nat.le_of_ble_eq_true rfl) rfl rfl ?_
    refine wp_iload_n (pc := 17) X dX5_readNumber_17 rfl rfl ?_
    refine wp_iconst (pc := 18) (v := (-1)) X dX5_readNumber_18 (by decide) ?_
    refine wp_icmp_eq (pc := 19) (tgt := 29) X dX5_readNumber_19 (by decide) (fun hc => ?_) (fun hc => ?_)
    · replace h := h.1 hc
      refine wp_aload_n (pc := 29) X dX5_readNumber_29 rfl rfl ?_
      refine wp_iload_n (pc := 30) X dX5_readNumber_30 rfl rfl ?_
      refine wp_invV (pc := 31) X sv_X5_31 A_1 (by decide) rfl ⟨by decide, by decide⟩ (As := [.int a1]) (st := []) rfl rfl (Nat.le_of_ble_eq_true rfl) dX5_readNumber_31 ?_
      refine CM.mono h (fun r6 M5 h => ?_)
      refine wp_if_eq (pc := 34) (tgt := 41) X dX5_readNumber_34 (by decide) (fun hc => ?_) (fun hc => ?_)
      · replace h := h.1 hc
        refine wp_iconst (pc := 41) (v := (-1)) X dX5_readNumber_41 (by decide) ?_
        exact wp_iret (pc := 42) X T dX5_readNumber_42 h
      · replace h := h.2 hc
        refine wp_iload_n (pc := 37) X dX5_readNumber_37 rfl rfl ?_
        refine wp_goto (pc := 38) (tgt := 42) X dX5_readNumber_38 (by decide) ?_
        exact wp_iret (pc := 42) X T dX5_readNumber_42 h
    · replace h := h.2 hc
      refine wp_iload_n (pc := 22) X dX5_readNumber_22 rfl rfl ?_
      refine wp_bipush (pc := 23) (v := nI 10) X dX5_readNumber_23 (by decide) ?_
      refine wp_imul (pc := 25) X dX5_readNumber_25 ?_
      refine wp_iload_n (pc := 26) X dX5_readNumber_26 rfl rfl ?_
      refine wp_iadd (pc := 27) X dX5_readNumber_27 ?_
      refine wp_istore_n (pc := 28) (lo' := [some (.ref 1), some (.int a1), some (.int ((r2 * (nI 10)) + r4)), some (.int r4)]) X dX5_readNumber_28 rfl (Nat.le_of_ble_eq_true rfl) rfl rfl ?_
      refine wp_aload_n (pc := 29) X dX5_readNumber_29 rfl rfl ?_
      refine wp_iload_n (pc := 30) X dX5_readNumber_30 rfl rfl ?_
      refine wp_invV (pc := 31) X sv_X5_31 A_1 (by decide) rfl ⟨by decide, by decide⟩ (As := [.int a1]) (st := []) rfl rfl (Nat.le_of_ble_eq_true rfl) dX5_readNumber_31 ?_
      refine CM.mono h (fun r8 M7 h => ?_)
      refine wp_if_eq (pc := 34) (tgt := 41) X dX5_readNumber_34 (by decide) (fun hc => ?_) (fun hc => ?_)
      · replace h := h.1 hc
        refine wp_iconst (pc := 41) (v := (-1)) X dX5_readNumber_41 (by decide) ?_
        exact wp_iret (pc := 42) X T dX5_readNumber_42 h
      · replace h := h.2 hc
        refine wp_iload_n (pc := 37) X dX5_readNumber_37 rfl rfl ?_
        refine wp_goto (pc := 38) (tgt := 42) X dX5_readNumber_38 (by decide) ?_
        exact wp_iret (pc := 42) X T dX5_readNumber_42 h
  · replace h := h.2 hc
    refine wp_iconst (pc := 10) (v := (-1)) X dX5_readNumber_10 (by decide) ?_
    exact wp_iret (pc := 11) X T dX5_readNumber_11 h
theorem r_X5_readFile_0 {x : CT} {L : List Nat} {Q : Int32 → Mem → Prop} {M : Mem}  (X : BS x L cX5_readFile 5 RX5 (m_X5_readFile).2.2.2.2) (T : RT x L (some .boolean) Q) (A_1 : AC L 1 5 0) (A_3 : AC L 3 3 0)
    (h : CM m_X5_readNumber L [.ref 1, .int (nI 44)] M (fun r2 M1 => CM m_X5_readNumber L [.ref 1, .int (nI 44)] M1 (fun r4 M3 => CM m_X5_readNumber L [.ref 1, .int (nI 59)] M3 (fun r6 M5 => (r2 < (nI 1) → Q (nI 0) M5) ∧ (¬ r2 < (nI 1) → ((nI 12) < r2 → Q (nI 0) M5) ∧ (¬ (nI 12) < r2 → (r4 < 0 → Q (nI 0) M5) ∧ (¬ r4 < 0 → (r4 ≤ (nI 6) → (r6 < (nI 1) → Q (nI 0) M5) ∧ (¬ r6 < (nI 1) → ((nI 9) < r6 → Q (nI 0) M5) ∧ (¬ (nI 9) < r6 → CM m_X3_addFile L [.ref 3, .int r2, .int r4, .int r6] M5 (fun r8 M7 => (r8 = 0 → Q (nI 0) M7) ∧ (¬ r8 = 0 → Q (nI 1) M7))))) ∧ (¬ r4 ≤ (nI 6) → Q (nI 0) M5)))))))) : WP x L 0 [some (.ref 1), some (.ref 3), none, none, none] [] M := by
  refine wp_aload_n (pc := 0) X dX5_readFile_0 rfl rfl ?_
  refine wp_bipush (pc := 1) (v := nI 44) X dX5_readFile_1 (by decide) ?_
  refine wp_invV (pc := 3) X sv_X5_41 A_1 (by decide) rfl ⟨by decide, by decide⟩ (As := [.int (nI 44)]) (st := []) rfl rfl (Nat.le_of_ble_eq_true rfl) dX5_readFile_3 ?_
  refine CM.mono h (fun r2 M1 h => ?_)
  refine wp_istore_n (pc := 6) (lo' := [some (.ref 1), some (.ref 3), some (.int r2), none, none]) X dX5_readFile_6 rfl (Nat.le_of_ble_eq_true rfl) rfl rfl ?_
  refine wp_aload_n (pc := 7) X dX5_readFile_7 rfl rfl ?_
  refine wp_bipush (pc := 8) (v := nI 44) X dX5_readFile_8 (by decide) ?_
  refine wp_invV (pc := 10) X sv_X5_41 A_1 (by decide) rfl ⟨by decide, by decide⟩ (As := [.int (nI 44)]) (st := []) rfl rfl (Nat.le_of_ble_eq_true rfl) dX5_readFile_10 ?_
  refine CM.mono h (fun r4 M3 h => ?_)
  refine wp_istore_n (pc := 13) (lo' := [some (.ref 1), some (.ref 3), some (.int r2), some (.int r4), none]) X dX5_readFile_13 rfl (Nat.le_of_ble_eq_true rfl) rfl rfl ?_
  refine wp_aload_n (pc := 14) X dX5_readFile_14 rfl rfl ?_
  refine wp_bipush (pc := 15) (v := nI 59) X dX5_readFile_15 (by decide) ?_
  refine wp_invV (pc := 17) X sv_X5_41 A_1 (by decide) rfl ⟨by decide, by decide⟩ (As := [.int (nI 59)]) (st := []) rfl rfl (Nat.le_of_ble_eq_true rfl) dX5_readFile_17 ?_
  refine CM.mono h (fun r6 M5 h => ?_)
  refine wp_istore (pc := 20) (lo' := [some (.ref 1), some (.ref 3), some (.int r2), some (.int r4), some (.int r6)]) X dX5_readFile_20 (Nat.le_of_ble_eq_true rfl) rfl rfl ?_
  refine wp_iload_n (pc := 22) X dX5_readFile_22 rfl rfl ?_
  refine wp_iconst (pc := 23) (v := nI 1) X dX5_readFile_23 (by decide) ?_
  refine wp_icmp_lt (pc := 24) (tgt := 43) X dX5_readFile_24 (by decide) (fun hc => ?_) (fun hc => ?_)
  · replace h := h.1 hc
    refine wp_iconst (pc := 43) (v := nI 0) X dX5_readFile_43 (by decide) ?_
    exact wp_zret (pc := 44) X T (by decide) dX5_readFile_44 h
  · replace h := h.2 hc
    refine wp_iload_n (pc := 27) X dX5_readFile_27 rfl rfl ?_
    refine wp_bipush (pc := 28) (v := nI 12) X dX5_readFile_28 (by decide) ?_
    refine wp_icmp_gt (pc := 30) (tgt := 43) X dX5_readFile_30 (by decide) (fun hc => ?_) (fun hc => ?_)
    · replace h := h.1 hc
      refine wp_iconst (pc := 43) (v := nI 0) X dX5_readFile_43 (by decide) ?_
      exact wp_zret (pc := 44) X T (by decide) dX5_readFile_44 h
    · replace h := h.2 hc
      refine wp_iload_n (pc := 33) X dX5_readFile_33 rfl rfl ?_
      refine wp_if_lt (pc := 34) (tgt := 43) X dX5_readFile_34 (by decide) (fun hc => ?_) (fun hc => ?_)
      · replace h := h.1 hc
        refine wp_iconst (pc := 43) (v := nI 0) X dX5_readFile_43 (by decide) ?_
        exact wp_zret (pc := 44) X T (by decide) dX5_readFile_44 h
      · replace h := h.2 hc
        refine wp_iload_n (pc := 37) X dX5_readFile_37 rfl rfl ?_
        refine wp_bipush (pc := 38) (v := nI 6) X dX5_readFile_38 (by decide) ?_
        refine wp_icmp_le (pc := 40) (tgt := 45) X dX5_readFile_40 (by decide) (fun hc => ?_) (fun hc => ?_)
        · replace h := h.1 hc
          refine wp_iload (pc := 45) X dX5_readFile_45 rfl ?_
          refine wp_iconst (pc := 47) (v := nI 1) X dX5_readFile_47 (by decide) ?_
          refine wp_icmp_lt (pc := 48) (tgt := 73) X dX5_readFile_48 (by decide) (fun hc => ?_) (fun hc => ?_)
          · replace h := h.1 hc
            refine wp_iconst (pc := 73) (v := nI 0) X dX5_readFile_73 (by decide) ?_
            exact wp_zret (pc := 74) X T (by decide) dX5_readFile_74 h
          · replace h := h.2 hc
            refine wp_iload (pc := 51) X dX5_readFile_51 rfl ?_
            refine wp_bipush (pc := 53) (v := nI 9) X dX5_readFile_53 (by decide) ?_
            refine wp_icmp_gt (pc := 55) (tgt := 73) X dX5_readFile_55 (by decide) (fun hc => ?_) (fun hc => ?_)
            · replace h := h.1 hc
              refine wp_iconst (pc := 73) (v := nI 0) X dX5_readFile_73 (by decide) ?_
              exact wp_zret (pc := 74) X T (by decide) dX5_readFile_74 h
            · replace h := h.2 hc
              refine wp_aload_n (pc := 58) X dX5_readFile_58 rfl rfl ?_
              refine wp_iload_n (pc := 59) X dX5_readFile_59 rfl rfl ?_
              refine wp_iload_n (pc := 60) X dX5_readFile_60 rfl rfl ?_
              refine wp_iload (pc := 61) X dX5_readFile_61 rfl ?_
              refine wp_invV (pc := 63) X sv_X5_45 A_3 (by decide) rfl ⟨by decide, by decide⟩ (As := [.int r2, .int r4, .int r6]) (st := []) rfl rfl (Nat.le_of_ble_eq_true rfl) dX5_readFile_63 ?_
              refine CM.mono h (fun r8 M7 h => ?_)
              refine wp_if_eq (pc := 66) (tgt := 73) X dX5_readFile_66 (by decide) (fun hc => ?_) (fun hc => ?_)
              · replace h := h.1 hc
                refine wp_iconst (pc := 73) (v := nI 0) X dX5_readFile_73 (by decide) ?_
                exact wp_zret (pc := 74) X T (by decide) dX5_readFile_74 h
              · replace h := h.2 hc
                refine wp_iconst (pc := 69) (v := nI 1) X dX5_readFile_69 (by decide) ?_
                refine wp_goto (pc := 70) (tgt := 74) X dX5_readFile_70 (by decide) ?_
                exact wp_zret (pc := 74) X T (by decide) dX5_readFile_74 h
        · replace h := h.2 hc
          refine wp_iconst (pc := 43) (v := nI 0) X dX5_readFile_43 (by decide) ?_
          exact wp_zret (pc := 44) X T (by decide) dX5_readFile_44 h
theorem r_X5_readTable_0 {x : CT} {L : List Nat} {Q : Int32 → Mem → Prop} {M : Mem}  (X : BS x L cX5_readTable 4 RX5 (m_X5_readTable).2.2.2.2) (T : RT x L (some .boolean) Q) (A_1 : AC L 1 5 0) (A_3 : AC L 3 3 0)
    (h : CM m_X5_readNumber L [.ref 1, .int (nI 44)] M (fun r2 M1 => CM m_X5_readNumber L [.ref 1, .int (nI 59)] M1 (fun r4 M3 => (r2 < (nI 3) → Q (nI 0) M3) ∧ (¬ r2 < (nI 3) → ((nI 20) < r2 → Q (nI 0) M3) ∧ (¬ (nI 20) < r2 → ((nI 1) ≤ r4 → CM m_X3_setTable L [.ref 3, .int r2, .int r4] M3 (fun _ M5 => Q (nI 1) M5)) ∧ (¬ (nI 1) ≤ r4 → Q (nI 0) M3)))))) : WP x L 0 [some (.ref 1), some (.ref 3), none, none] [] M := by
  refine wp_aload_n (pc := 0) X dX5_readTable_0 rfl rfl ?_
  refine wp_bipush (pc := 1) (v := nI 44) X dX5_readTable_1 (by decide) ?_
  refine wp_invV (pc := 3) X sv_X5_41 A_1 (by decide) rfl ⟨by decide, by decide⟩ (As := [.int (nI 44)]) (st := []) rfl rfl (Nat.le_of_ble_eq_true rfl) dX5_readTable_3 ?_
  refine CM.mono h (fun r2 M1 h => ?_)
  refine wp_istore_n (pc := 6) (lo' := [some (.ref 1), some (.ref 3), some (.int r2), none]) X dX5_readTable_6 rfl (Nat.le_of_ble_eq_true rfl) rfl rfl ?_
  refine wp_aload_n (pc := 7) X dX5_readTable_7 rfl rfl ?_
  refine wp_bipush (pc := 8) (v := nI 59) X dX5_readTable_8 (by decide) ?_
  refine wp_invV (pc := 10) X sv_X5_41 A_1 (by decide) rfl ⟨by decide, by decide⟩ (As := [.int (nI 59)]) (st := []) rfl rfl (Nat.le_of_ble_eq_true rfl) dX5_readTable_10 ?_
  refine CM.mono h (fun r4 M3 h => ?_)
  refine wp_istore_n (pc := 13) (lo' := [some (.ref 1), some (.ref 3), some (.int r2), some (.int r4)]) X dX5_readTable_13 rfl (Nat.le_of_ble_eq_true rfl) rfl rfl ?_
  refine wp_iload_n (pc := 14) X dX5_readTable_14 rfl rfl ?_
  refine wp_iconst (pc := 15) (v := nI 3) X dX5_readTable_15 (by decide) ?_
  refine wp_icmp_lt (pc := 16) (tgt := 30) X dX5_readTable_16 (by decide) (fun hc => ?_) (fun hc => ?_)
  · replace h := h.1 hc
    refine wp_iconst (pc := 30) (v := nI 0) X dX5_readTable_30 (by decide) ?_
    exact wp_zret (pc := 31) X T (by decide) dX5_readTable_31 h
  · replace h := h.2 hc
    refine wp_iload_n (pc := 19) X dX5_readTable_19 rfl rfl ?_
    refine wp_bipush (pc := 20) (v := nI 20) X dX5_readTable_20 (by decide) ?_
    refine wp_icmp_gt (pc := 22) (tgt := 30) X dX5_readTable_22 (by decide) (fun hc => ?_) (fun hc => ?_)
    · replace h := h.1 hc
      refine wp_iconst (pc := 30) (v := nI 0) X dX5_readTable_30 (by decide) ?_
      exact wp_zret (pc := 31) X T (by decide) dX5_readTable_31 h
    · replace h := h.2 hc
      refine wp_iload_n (pc := 25) X dX5_readTable_25 rfl rfl ?_
      refine wp_iconst (pc := 26) (v := nI 1) X dX5_readTable_26 (by decide) ?_
      refine wp_icmp_ge (pc := 27) (tgt := 32) X dX5_readTable_27 (by decide) (fun hc => ?_) (fun hc => ?_)
      · replace h := h.1 hc
        refine wp_aload_n (pc := 32) X dX5_readTable_32 rfl rfl ?_
        refine wp_iload_n (pc := 33) X dX5_readTable_33 rfl rfl ?_
        refine wp_iload_n (pc := 34) X dX5_readTable_34 rfl rfl ?_
        refine wp_invVv (pc := 35) X sv_X5_49 A_3 (by decide) rfl ⟨by decide, by decide⟩ (As := [.int r2, .int r4]) (st := []) rfl rfl (Nat.le_of_ble_eq_true rfl) dX5_readTable_35 ?_
        refine CM.mono h (fun _ M5 h => ?_)
        refine wp_iconst (pc := 38) (v := nI 1) X dX5_readTable_38 (by decide) ?_
        exact wp_zret (pc := 39) X T (by decide) dX5_readTable_39 h
      · replace h := h.2 hc
        refine wp_iconst (pc := 30) (v := nI 0) X dX5_readTable_30 (by decide) ?_
        exact wp_zret (pc := 31) X T (by decide) dX5_readTable_31 h
theorem r_X5_readItem_0 {x : CT} {L : List Nat} {Q : Int32 → Mem → Prop} {M : Mem}  (X : BS x L cX5_readItem 2 RX5 (m_X5_readItem).2.2.2.2) (T : RT x L (some .boolean) Q) (A_1 : AC L 1 5 0)
    (h : CM m_X5_takes L [.ref 1, .int (nI 102)] M (fun r2 M1 => (r2 = 0 → CM m_X5_takes L [.ref 1, .int (nI 116)] M1 (fun r4 M3 => (r4 = 0 → Q (nI 0) M3) ∧ (¬ r4 = 0 → CM m_X5_readTable L [.ref 1, .ref 3] M3 (fun r6 M5 => (r6 = 0 → Q (nI 0) M5) ∧ (¬ r6 = 0 → Q (nI 1) M5))))) ∧ (¬ r2 = 0 → CM m_X5_readFile L [.ref 1, .ref 3] M1 (fun r8 M7 => (r8 = 0 ∨ r8 = 1) ∧ Q r8 M7)))) : WP x L 0 [some (.ref 1), some (.ref 3)] [] M := by
  refine wp_aload_n (pc := 0) X dX5_readItem_0 rfl rfl ?_
  refine wp_bipush (pc := 1) (v := nI 102) X dX5_readItem_1 (by decide) ?_
  refine wp_invV (pc := 3) X sv_X5_31 A_1 (by decide) rfl ⟨by decide, by decide⟩ (As := [.int (nI 102)]) (st := []) rfl rfl (Nat.le_of_ble_eq_true rfl) dX5_readItem_3 ?_
  refine CM.mono h (fun r2 M1 h => ?_)
  refine wp_if_eq (pc := 6) (tgt := 15) X dX5_readItem_6 (by decide) (fun hc => ?_) (fun hc => ?_)
  · replace h := h.1 hc
    refine wp_aload_n (pc := 15) X dX5_readItem_15 rfl rfl ?_
    refine wp_bipush (pc := 16) (v := nI 116) X dX5_readItem_16 (by decide) ?_
    refine wp_invV (pc := 18) X sv_X5_31 A_1 (by decide) rfl ⟨by decide, by decide⟩ (As := [.int (nI 116)]) (st := []) rfl rfl (Nat.le_of_ble_eq_true rfl) dX5_readItem_18 ?_
    refine CM.mono h (fun r4 M3 h => ?_)
    refine wp_if_eq (pc := 21) (tgt := 36) X dX5_readItem_21 (by decide) (fun hc => ?_) (fun hc => ?_)
    · replace h := h.1 hc
      refine wp_iconst (pc := 36) (v := nI 0) X dX5_readItem_36 (by decide) ?_
      exact wp_zret (pc := 37) X T (by decide) dX5_readItem_37 h
    · replace h := h.2 hc
      refine wp_aload_n (pc := 24) X dX5_readItem_24 rfl rfl ?_
      refine wp_aload_n (pc := 25) X dX5_readItem_25 rfl rfl ?_
      refine wp_invV (pc := 26) X sv_X5_38 A_1 (by decide) rfl ⟨by decide, by decide⟩ (As := [.ref 3]) (st := []) rfl rfl (Nat.le_of_ble_eq_true rfl) dX5_readItem_26 ?_
      refine CM.mono h (fun r6 M5 h => ?_)
      refine wp_if_eq (pc := 29) (tgt := 36) X dX5_readItem_29 (by decide) (fun hc => ?_) (fun hc => ?_)
      · replace h := h.1 hc
        refine wp_iconst (pc := 36) (v := nI 0) X dX5_readItem_36 (by decide) ?_
        exact wp_zret (pc := 37) X T (by decide) dX5_readItem_37 h
      · replace h := h.2 hc
        refine wp_iconst (pc := 32) (v := nI 1) X dX5_readItem_32 (by decide) ?_
        refine wp_goto (pc := 33) (tgt := 37) X dX5_readItem_33 (by decide) ?_
        exact wp_zret (pc := 37) X T (by decide) dX5_readItem_37 h
  · replace h := h.2 hc
    refine wp_aload_n (pc := 9) X dX5_readItem_9 rfl rfl ?_
    refine wp_aload_n (pc := 10) X dX5_readItem_10 rfl rfl ?_
    refine wp_invV (pc := 11) X sv_X5_35 A_1 (by decide) rfl ⟨by decide, by decide⟩ (As := [.ref 3]) (st := []) rfl rfl (Nat.le_of_ble_eq_true rfl) dX5_readItem_11 ?_
    refine CM.mono h (fun r8 M7 h => ?_)
    exact wp_zret (pc := 14) X T h.1 dX5_readItem_14 h.2
theorem r_X5_firstFault_0 {x : CT} {L : List Nat} {Q : Int32 → Mem → Prop} {M : Mem}  (X : BS x L cX5_firstFault 4 RX5 (m_X5_firstFault).2.2.2.2) (T : RT x L (some .int) Q) (A_3 : AC L 3 3 0) (A_1 : AC L 1 5 0)
    (h : CM m_X3_clear L [.ref 3] M (fun _ M1 => WP x L 11 [some (.ref 1), some (.ref 3), some (.int (nI 0)), none] [] (MU M1 1 2 (nI 0)))) : WP x L 0 [some (.ref 1), some (.ref 3), none, none] [] M := by
  refine wp_aload_n (pc := 0) X dX5_firstFault_0 rfl rfl ?_
  refine wp_invVv (pc := 1) X sv_X5_19 A_3 (by decide) rfl ⟨by decide, by decide⟩ (As := []) (st := []) rfl rfl (Nat.le_of_ble_eq_true rfl) dX5_firstFault_1 ?_
  refine CM.mono h (fun _ M1 h => ?_)
  refine wp_aload_n (pc := 4) X dX5_firstFault_4 rfl rfl ?_
  refine wp_iconst (pc := 5) (v := nI 0) X dX5_firstFault_5 (by decide) ?_
  refine wp_put (pc := 6) X fl_X5_24 fp_5_2 A_1 (by decide) (fk_5_2 A_1) (fs_5_2 A_1 _) dX5_firstFault_6 ?_
  refine wp_iconst (pc := 9) (v := nI 0) X dX5_firstFault_9 (by decide) ?_
  refine wp_istore_n (pc := 10) (lo' := [some (.ref 1), some (.ref 3), some (.int (nI 0)), none]) X dX5_firstFault_10 rfl (Nat.le_of_ble_eq_true rfl) rfl rfl ?_
  exact h
theorem r_X5_firstFault_11 {x : CT} {L : List Nat} {Q : Int32 → Mem → Prop} {M : Mem}  {k : Nat} (X : BS x L cX5_firstFault 4 RX5 (m_X5_firstFault).2.2.2.2) (T : RT x L (some .int) Q) (A_1 : AC L 1 5 0)
    (h : k < 2 ^ 31 ∧ (200 ≤ k → Q (-4) M) ∧ (k < 200 → ∃ v1 : Nat, M 1 2 = nI v1 ∧ ∃ v3 : Nat, M 1 1 = nI v3 ∧ v1 < 2 ^ 31 ∧ v3 < 2 ^ 31 ∧ (v3 ≤ v1 → Q (-4) M) ∧ (v1 < v3 → ∃ v5 : Nat, M 1 2 = nI v5 ∧ CM m_X5_readItem L [.ref 1, .ref 3] M (fun r8 M7 => (¬ r8 = 0 → WP x L 11 [some (.ref 1), some (.ref 3), some (.int (nI (k + 1))), none] [] M7) ∧ (r8 = 0 → Q (nI v5) M7))))) : WP x L 11 [some (.ref 1), some (.ref 3), some (.int (nI k)), none] [] M := by
  refine wp_iload_n (pc := 11) X dX5_firstFault_11 rfl rfl ?_
  refine wp_sipush (pc := 12) (v := nI 200) X dX5_firstFault_12 (by decide) ?_
  obtain ⟨hb11, h⟩ := h
  refine wn_icmp_ge (pc := 15) (tgt := 50) X dX5_firstFault_15 (by decide) hb11 (by decide) (fun hc => ?_) (fun hc => ?_)
  · replace h := h.1 hc
    refine wp_bipush (pc := 50) (v := (-4)) X dX5_firstFault_50 (by decide) ?_
    exact wp_iret (pc := 52) X T dX5_firstFault_52 h
  · replace h := h.2 hc
    refine wp_aload_n (pc := 18) X dX5_firstFault_18 rfl rfl ?_
    obtain ⟨v1, he2, h⟩ := h
    refine we_get (pc := 19) X fl_X5_24 A_1 (by decide) (fg_5_2 A_1) he2 dX5_firstFault_19 ?_
    refine wp_aload_n (pc := 22) X dX5_firstFault_22 rfl rfl ?_
    obtain ⟨v3, he4, h⟩ := h
    refine we_get (pc := 23) X fl_X5_15 A_1 (by decide) (fg_5_1 A_1) he4 dX5_firstFault_23 ?_
    obtain ⟨hb9, hb10, h⟩ := h
    refine wn_icmp_ge (pc := 26) (tgt := 50) X dX5_firstFault_26 (by decide) hb9 hb10 (fun hc => ?_) (fun hc => ?_)
    · replace h := h.1 hc
      refine wp_bipush (pc := 50) (v := (-4)) X dX5_firstFault_50 (by decide) ?_
      exact wp_iret (pc := 52) X T dX5_firstFault_52 h
    · replace h := h.2 hc
      refine wp_aload_n (pc := 29) X dX5_firstFault_29 rfl rfl ?_
      obtain ⟨v5, he6, h⟩ := h
      refine we_get (pc := 30) X fl_X5_24 A_1 (by decide) (fg_5_2 A_1) he6 dX5_firstFault_30 ?_
      refine wp_istore_n (pc := 33) (lo' := [some (.ref 1), some (.ref 3), some (.int (nI k)), some (.int (nI v5))]) X dX5_firstFault_33 rfl (Nat.le_of_ble_eq_true rfl) rfl rfl ?_
      refine wp_aload_n (pc := 34) X dX5_firstFault_34 rfl rfl ?_
      refine wp_aload_n (pc := 35) X dX5_firstFault_35 rfl rfl ?_
      refine wp_invV (pc := 36) X sv_X5_27 A_1 (by decide) rfl ⟨by decide, by decide⟩ (As := [.ref 3]) (st := []) rfl rfl (Nat.le_of_ble_eq_true rfl) dX5_firstFault_36 ?_
      refine CM.mono h (fun r8 M7 h => ?_)
      refine wp_if_ne (pc := 39) (tgt := 44) X dX5_firstFault_39 (by decide) (fun hc => ?_) (fun hc => ?_)
      · replace h := h.1 hc
        refine wn_iinc (pc := 44) (d := 1) (lo' := [some (.ref 1), some (.ref 3), some (.int (nI (k + 1))), some (.int (nI v5))]) X dX5_firstFault_44 rfl (by decide) rfl rfl ?_
        refine wp_goto (pc := 47) (tgt := 11) X dX5_firstFault_47 (by decide) ?_
        exact wp_drop (show subL _ [some (.ref 1), some (.ref 3), some (.int (nI (k + 1))), none] from ⟨rfl, ⟨rfl, ⟨rfl, trivial⟩⟩⟩) h
      · replace h := h.2 hc
        refine wp_iload_n (pc := 42) X dX5_firstFault_42 rfl rfl ?_
        exact wp_iret (pc := 43) X T dX5_firstFault_43 h
theorem r_X0_seenAs_0 {x : CT} {L : List Nat} {Q : Int32 → Mem → Prop} {M : Mem}  {f n : Nat} (X : BS x L cX0_seenAs 4 RX0 (m_X0_seenAs).2.2.2.2) (T : RT x L (some .int) Q) (A_128 : AC L 128 0 0) (A_130 : AC L 130 6 0)
    (h : CM m_X6_fileIn L [.ref 130, .int (nI n)] M (fun r2 M1 => (¬ r2 = (-4) → (¬ r2 = (nI f) → Q (-1) M1) ∧ (r2 = (nI f) → CM m_X6_symbolIn L [.ref 130, .int (nI n)] M1 (fun r4 M3 => Q r4 M3))) ∧ (r2 = (-4) → Q (-4) M1))) : WP x L 0 [some (.ref 128), some (.int (nI f)), some (.int (nI n)), none] [] M := by
  refine wp_aload_n (pc := 0) X dX0_seenAs_0 rfl rfl ?_
  refine wp_get (pc := 1) X fl_X0_24 A_128 (by decide) (fg_0_1 A_128) dX0_seenAs_1 ?_
  refine wp_iload_n (pc := 4) X dX0_seenAs_4 rfl rfl ?_
  refine wp_invV (pc := 5) X sv_X0_61 A_130 (by decide) rfl ⟨by decide, by decide⟩ (As := [.int (nI n)]) (st := []) rfl rfl (Nat.le_of_ble_eq_true rfl) dX0_seenAs_5 ?_
  refine CM.mono h (fun r2 M1 h => ?_)
  refine wp_istore_n (pc := 8) (lo' := [some (.ref 128), some (.int (nI f)), some (.int (nI n)), some (.int r2)]) X dX0_seenAs_8 rfl (Nat.le_of_ble_eq_true rfl) rfl rfl ?_
  refine wp_iload_n (pc := 9) X dX0_seenAs_9 rfl rfl ?_
  refine wp_bipush (pc := 10) (v := (-4)) X dX0_seenAs_10 (by decide) ?_
  refine wp_icmp_ne (pc := 12) (tgt := 18) X dX0_seenAs_12 (by decide) (fun hc => ?_) (fun hc => ?_)
  · replace h := h.1 hc
    refine wp_iload_n (pc := 18) X dX0_seenAs_18 rfl rfl ?_
    refine wp_iload_n (pc := 19) X dX0_seenAs_19 rfl rfl ?_
    refine wp_icmp_ne (pc := 20) (tgt := 34) X dX0_seenAs_20 (by decide) (fun hc => ?_) (fun hc => ?_)
    · replace h := h.1 hc
      refine wp_iconst (pc := 34) (v := (-1)) X dX0_seenAs_34 (by decide) ?_
      exact wp_iret (pc := 35) X T dX0_seenAs_35 h
    · replace h := h.2 hc
      refine wp_aload_n (pc := 23) X dX0_seenAs_23 rfl rfl ?_
      refine wp_get (pc := 24) X fl_X0_24 A_128 (by decide) (fg_0_1 A_128) dX0_seenAs_24 ?_
      refine wp_iload_n (pc := 27) X dX0_seenAs_27 rfl rfl ?_
      refine wp_invV (pc := 28) X sv_X0_65 A_130 (by decide) rfl ⟨by decide, by decide⟩ (As := [.int (nI n)]) (st := []) rfl rfl (Nat.le_of_ble_eq_true rfl) dX0_seenAs_28 ?_
      refine CM.mono h (fun r4 M3 h => ?_)
      refine wp_goto (pc := 31) (tgt := 35) X dX0_seenAs_31 (by decide) ?_
      exact wp_iret (pc := 35) X T dX0_seenAs_35 h
  · replace h := h.2 hc
    refine wp_bipush (pc := 15) (v := (-4)) X dX0_seenAs_15 (by decide) ?_
    exact wp_iret (pc := 17) X T dX0_seenAs_17 h
theorem r_X0_look_0 {x : CT} {L : List Nat} {Q : Int32 → Mem → Prop} {M : Mem}  {f n : Nat} (X : BS x L cX0_look 6 RX0 (m_X0_look).2.2.2.2) (T : RT x L none Q) (A_128 : AC L 128 0 0) (A_130 : AC L 130 6 0) (A_7 : AC L 7 3 0) (A_8 : AC L 8 9 6) (A_129 : AC L 129 9 499)
    (h : CM m_X6_become L [.ref 130, .ref 13] M (fun _ M1 => f < 6 ∧ WP x L 41 [some (.ref 128), none, some (.int (nI f)), none, some (.int (nI 0)), none] [] (MU (MU M1 128 4 (M1 8 f)) 128 3 (if (nI 0) < (if (nI 499) < (nI n) then (nI 499) else (nI n)) then (if (nI 499) < (nI n) then (nI 499) else (nI n)) else (nI 0))))) : WP x L 0 [some (.ref 128), some (.ref 13), some (.int (nI f)), some (.int (nI n)), none, none] [] M := by
  refine wp_aload_n (pc := 0) X dX0_look_0 rfl rfl ?_
  refine wp_get (pc := 1) X fl_X0_24 A_128 (by decide) (fg_0_1 A_128) dX0_look_1 ?_
  refine wp_aload_n (pc := 4) X dX0_look_4 rfl rfl ?_
  refine wp_invVv (pc := 5) X sv_X0_28 A_130 (by decide) rfl ⟨by decide, by decide⟩ (As := [.ref 13]) (st := []) rfl rfl (Nat.le_of_ble_eq_true rfl) dX0_look_5 ?_
  refine CM.mono h (fun _ M1 h => ?_)
  refine wp_aload_n (pc := 8) X dX0_look_8 rfl rfl ?_
  refine wp_aload_n (pc := 9) X dX0_look_9 rfl rfl ?_
  refine wp_get (pc := 10) X fl_X0_15 A_128 (by decide) (fg_0_0 A_128) dX0_look_10 ?_
  refine wp_get (pc := 13) X fl_X0_32 A_7 (by decide) (fg_3_0 A_7) dX0_look_13 ?_
  refine wp_iload_n (pc := 16) X dX0_look_16 rfl rfl ?_
  obtain ⟨hj3, h⟩ := h
  refine wn_iald (pc := 17) X A_8 hj3 (by decide) dX0_look_17 ?_
  refine wp_put (pc := 18) X fl_X0_37 fp_0_4 A_128 (by decide) (fk_0_4 A_128) (fs_0_4 A_128 _) dX0_look_18 ?_
  refine wp_aload_n (pc := 21) X dX0_look_21 rfl rfl ?_
  refine wp_iconst (pc := 22) (v := nI 0) X dX0_look_22 (by decide) ?_
  refine wp_iload_n (pc := 23) X dX0_look_23 rfl rfl ?_
  refine wp_aload_n (pc := 24) X dX0_look_24 rfl rfl ?_
  refine wp_get (pc := 25) X fl_X0_9 A_128 (by decide) (fg_0_2 A_128) dX0_look_25 ?_
  refine wp_alen (pc := 28) X A_129 dX0_look_28 ?_
  refine wp_min (pc := 29) X k_576 k_392 k_47 k_393 (by decide) (Nat.le_of_ble_eq_true rfl) dX0_look_29 ?_
  refine wp_max (pc := 32) X k_577 k_521 k_47 k_522 (by decide) (Nat.le_of_ble_eq_true rfl) dX0_look_32 ?_
  refine wp_put (pc := 35) X fl_X0_49 fp_0_3 A_128 (by decide) (fk_0_3 A_128) (fs_0_3 A_128 _) dX0_look_35 ?_
  refine wp_iconst (pc := 38) (v := nI 0) X dX0_look_38 (by decide) ?_
  refine wp_istore (pc := 39) (lo' := [some (.ref 128), some (.ref 13), some (.int (nI f)), some (.int (nI n)), some (.int (nI 0)), none]) X dX0_look_39 (Nat.le_of_ble_eq_true rfl) rfl rfl ?_
  exact wp_drop (show subL _ [some (.ref 128), none, some (.int (nI f)), none, some (.int (nI 0)), none] from ⟨rfl, ⟨rfl, ⟨rfl, trivial⟩⟩⟩) h
theorem r_X0_look_41 {x : CT} {L : List Nat} {Q : Int32 → Mem → Prop} {M : Mem}  {f k : Nat} (X : BS x L cX0_look 6 RX0 (m_X0_look).2.2.2.2) (T : RT x L none Q) (A_128 : AC L 128 0 0) (A_130 : AC L 130 6 0) (A_129 : AC L 129 9 499)
    (h : ∃ v1 : Nat, M 128 3 = nI v1 ∧ k < 2 ^ 31 ∧ v1 < 2 ^ 31 ∧ (v1 ≤ k → Q 0 M) ∧ (k < v1 → ∃ v3 : Nat, M 130 9 = nI v3 ∧ CM m_X6_step L [.ref 130] M (fun _ M5 => CM m_X0_seenAs L [.ref 128, .int (nI f), .int (nI v3)] M5 (fun r8 M7 => k < 499 ∧ WP x L 41 [some (.ref 128), none, some (.int (nI f)), none, some (.int (nI (k + 1))), none] [] (MU M7 129 k r8))))) : WP x L 41 [some (.ref 128), none, some (.int (nI f)), none, some (.int (nI k)), none] [] M := by
  refine wp_iload (pc := 41) X dX0_look_41 rfl ?_
  refine wp_aload_n (pc := 43) X dX0_look_43 rfl rfl ?_
  obtain ⟨v1, he2, h⟩ := h
  refine we_get (pc := 44) X fl_X0_49 A_128 (by decide) (fg_0_3 A_128) he2 dX0_look_44 ?_
  obtain ⟨hb10, hb11, h⟩ := h
  refine wn_icmp_ge (pc := 47) (tgt := 86) X dX0_look_47 (by decide) hb10 hb11 (fun hc => ?_) (fun hc => ?_)
  · replace h := h.1 hc
    exact wp_ret (pc := 86) X T dX0_look_86 h
  · replace h := h.2 hc
    refine wp_aload_n (pc := 50) X dX0_look_50 rfl rfl ?_
    refine wp_get (pc := 51) X fl_X0_24 A_128 (by decide) (fg_0_1 A_128) dX0_look_51 ?_
    obtain ⟨v3, he4, h⟩ := h
    refine we_get (pc := 54) X fl_X0_52 A_130 (by decide) (fg_6_9 A_130) he4 dX0_look_54 ?_
    refine wp_istore (pc := 57) (lo' := [some (.ref 128), none, some (.int (nI f)), none, some (.int (nI k)), some (.int (nI v3))]) X dX0_look_57 (Nat.le_of_ble_eq_true rfl) rfl rfl ?_
    refine wp_aload_n (pc := 59) X dX0_look_59 rfl rfl ?_
    refine wp_get (pc := 60) X fl_X0_24 A_128 (by decide) (fg_0_1 A_128) dX0_look_60 ?_
    refine wp_invVv (pc := 63) X sv_X0_55 A_130 (by decide) rfl ⟨by decide, by decide⟩ (As := []) (st := []) rfl rfl (Nat.le_of_ble_eq_true rfl) dX0_look_63 ?_
    refine CM.mono h (fun _ M5 h => ?_)
    refine wp_aload_n (pc := 66) X dX0_look_66 rfl rfl ?_
    refine wp_get (pc := 67) X fl_X0_9 A_128 (by decide) (fg_0_2 A_128) dX0_look_67 ?_
    refine wp_iload (pc := 70) X dX0_look_70 rfl ?_
    refine wp_aload_n (pc := 72) X dX0_look_72 rfl rfl ?_
    refine wp_iload_n (pc := 73) X dX0_look_73 rfl rfl ?_
    refine wp_iload (pc := 74) X dX0_look_74 rfl ?_
    refine wp_invV (pc := 76) X sv_X0_58 A_128 (by decide) rfl ⟨by decide, by decide⟩ (As := [.int (nI f), .int (nI v3)]) (st := [.int (nI k), .ref 129]) rfl rfl (Nat.le_of_ble_eq_true rfl) dX0_look_76 ?_
    refine CM.mono h (fun r8 M7 h => ?_)
    obtain ⟨hj9, h⟩ := h
    refine wn_iast (pc := 79) X A_129 hj9 (by decide) dX0_look_79 ?_
    refine wn_iinc (pc := 80) (d := 1) (lo' := [some (.ref 128), none, some (.int (nI f)), none, some (.int (nI (k + 1))), some (.int (nI v3))]) X dX0_look_80 rfl (by decide) rfl rfl ?_
    refine wp_goto (pc := 83) (tgt := 41) X dX0_look_83 (by decide) ?_
    exact wp_drop (show subL _ [some (.ref 128), none, some (.int (nI f)), none, some (.int (nI (k + 1))), none] from ⟨rfl, ⟨rfl, ⟨rfl, trivial⟩⟩⟩) h
theorem r_X0_waitBehind_0 {x : CT} {L : List Nat} {Q : Int32 → Mem → Prop} {M : Mem}  {n : Nat} (X : BS x L cX0_waitBehind 6 RX0 (m_X0_waitBehind).2.2.2.2) (T : RT x L (some .int) Q) 
    (h : WP x L 12 [some (.ref 128), some (.int (nI n)), some (.int (nI 0)), some (.int (-4)), some (.int (if (nI 0) < (nI n) then (nI n) else (nI 0))), none] [] M) : WP x L 0 [some (.ref 128), some (.int (nI n)), none, none, none, none] [] M := by
  refine wp_iconst (pc := 0) (v := nI 0) X dX0_waitBehind_0 (by decide) ?_
  refine wp_istore_n (pc := 1) (lo' := [some (.ref 128), some (.int (nI n)), some (.int (nI 0)), none, none, none]) X dX0_waitBehind_1 rfl (Nat.le_of_ble_eq_true rfl) rfl rfl ?_
  refine wp_bipush (pc := 2) (v := (-4)) X dX0_waitBehind_2 (by decide) ?_
  refine wp_istore_n (pc := 4) (lo' := [some (.ref 128), some (.int (nI n)), some (.int (nI 0)), some (.int (-4)), none, none]) X dX0_waitBehind_4 rfl (Nat.le_of_ble_eq_true rfl) rfl rfl ?_
  refine wp_iconst (pc := 5) (v := nI 0) X dX0_waitBehind_5 (by decide) ?_
  refine wp_iload_n (pc := 6) X dX0_waitBehind_6 rfl rfl ?_
  refine wp_max (pc := 7) X k_577 k_521 k_47 k_522 (by decide) (Nat.le_of_ble_eq_true rfl) dX0_waitBehind_7 ?_
  refine wp_istore (pc := 10) (lo' := [some (.ref 128), some (.int (nI n)), some (.int (nI 0)), some (.int (-4)), some (.int (if (nI 0) < (nI n) then (nI n) else (nI 0))), none]) X dX0_waitBehind_10 (Nat.le_of_ble_eq_true rfl) rfl rfl ?_
  exact h
theorem r_X0_waitBehind_12 {x : CT} {L : List Nat} {Q : Int32 → Mem → Prop} {M : Mem}  {n k : Nat} {a2 a3 : Int32} (X : BS x L cX0_waitBehind 6 RX0 (m_X0_waitBehind).2.2.2.2) (T : RT x L (some .int) Q) (A_128 : AC L 128 0 0) (A_129 : AC L 129 9 499) (A_7 : AC L 7 3 0)
    (h : ∃ v1 : Nat, M 128 3 = nI v1 ∧ k < 2 ^ 31 ∧ v1 < 2 ^ 31 ∧ (v1 ≤ k → Q (-4) M) ∧ (k < v1 → n ≤ k ∧ (k - n) < 2 ^ 31 ∧ (400 ≤ (k - n) → Q (-4) M) ∧ ((k - n) < 400 → k < 499 ∧ (¬ (M 129 k) = (-4) → ((M 129 k) < 0 → CM m_J6_bitCount_0f7a4 L [.int a2] M (fun r6 M5 => (r6 < (M5 128 4) → WP x L 12 [some (.ref 128), some (.int (nI n)), some (.int a2), some (.int a3), some (.int (nI (k + 1))), none] [] M5) ∧ (¬ r6 < (M5 128 4) → n ≤ k ∧ Q (nI ((k - n) + 1)) M5))) ∧ (¬ (M 129 k) < 0 → (a3 < (nI k) → CM m_J6_bitCount_0f7a4 L [.int a2] M (fun r9 M8 => (r9 < (M8 128 4) → WP x L 12 [some (.ref 128), some (.int (nI n)), some (.int a2), some (.int a3), some (.int (nI (k + 1))), none] [] M8) ∧ (¬ r9 < (M8 128 4) → n ≤ k ∧ Q (nI ((k - n) + 1)) M8))) ∧ (¬ a3 < (nI k) → CM m_J6_bitCount_0f7a4 L [.int (a2 ||| ((nI 1) <<< ((M 129 k) &&& 31)))] M (fun r12 M11 => (r12 < (M11 128 4) → WP x L 12 [some (.ref 128), some (.int (nI n)), some (.int (a2 ||| ((nI 1) <<< ((M 129 k) &&& 31)))), some (.int a3), some (.int (nI (k + 1))), none] [] M11) ∧ (¬ r12 < (M11 128 4) → n ≤ k ∧ Q (nI ((k - n) + 1)) M11))))) ∧ ((M 129 k) = (-4) → CM m_J6_bitCount_0f7a4 L [.int a2] M (fun r15 M14 => (r15 < (M14 128 4) → WP x L 12 [some (.ref 128), some (.int (nI n)), some (.int a2), some (.int (((nI k) + (M 7 5)) - (nI 1))), some (.int (nI (k + 1))), none] [] M14) ∧ (¬ r15 < (M14 128 4) → n ≤ k ∧ Q (nI ((k - n) + 1)) M14)))))) : WP x L 12 [some (.ref 128), some (.int (nI n)), some (.int a2), some (.int a3), some (.int (nI k)), none] [] M := by
  refine wp_iload (pc := 12) X dX0_waitBehind_12 rfl ?_
  refine wp_aload_n (pc := 14) X dX0_waitBehind_14 rfl rfl ?_
  obtain ⟨v1, he2, h⟩ := h
  refine we_get (pc := 15) X fl_X0_49 A_128 (by decide) (fg_0_3 A_128) he2 dX0_waitBehind_15 ?_
  obtain ⟨hb18, hb19, h⟩ := h
  refine wn_icmp_ge (pc := 18) (tgt := 105) X dX0_waitBehind_18 (by decide) hb18 hb19 (fun hc => ?_) (fun hc => ?_)
  · replace h := h.1 hc
    refine wp_bipush (pc := 105) (v := (-4)) X dX0_waitBehind_105 (by decide) ?_
    exact wp_iret (pc := 107) X T dX0_waitBehind_107 h
  · replace h := h.2 hc
    refine wp_iload (pc := 21) X dX0_waitBehind_21 rfl ?_
    refine wp_iload_n (pc := 23) X dX0_waitBehind_23 rfl rfl ?_
    obtain ⟨hb3, h⟩ := h
    refine wn_isub (pc := 24) X dX0_waitBehind_24 hb3 ?_
    refine wp_sipush (pc := 25) (v := nI 400) X dX0_waitBehind_25 (by decide) ?_
    obtain ⟨hb17, h⟩ := h
    refine wn_icmp_ge (pc := 28) (tgt := 105) X dX0_waitBehind_28 (by decide) hb17 (by decide) (fun hc => ?_) (fun hc => ?_)
    · replace h := h.1 hc
      refine wp_bipush (pc := 105) (v := (-4)) X dX0_waitBehind_105 (by decide) ?_
      exact wp_iret (pc := 107) X T dX0_waitBehind_107 h
    · replace h := h.2 hc
      refine wp_aload_n (pc := 31) X dX0_waitBehind_31 rfl rfl ?_
      refine wp_get (pc := 32) X fl_X0_9 A_128 (by decide) (fg_0_2 A_128) dX0_waitBehind_32 ?_
      refine wp_iload (pc := 35) X dX0_waitBehind_35 rfl ?_
      obtain ⟨hj4, h⟩ := h
      refine wn_iald (pc := 37) X A_129 hj4 (by decide) dX0_waitBehind_37 ?_
      refine wp_istore (pc := 38) (lo' := [some (.ref 128), some (.int (nI n)), some (.int a2), some (.int a3), some (.int (nI k)), some (.int (M 129 k))]) X dX0_waitBehind_38 (Nat.le_of_ble_eq_true rfl) rfl rfl ?_
      refine wp_iload (pc := 40) X dX0_waitBehind_40 rfl ?_
      refine wp_bipush (pc := 42) (v := (-4)) X dX0_waitBehind_42 (by decide) ?_
      refine wp_icmp_ne (pc := 44) (tgt := 63) X dX0_waitBehind_44 (by decide) (fun hc => ?_) (fun hc => ?_)
      · replace h := h.1 hc
        refine wp_iload (pc := 63) X dX0_waitBehind_63 rfl ?_
        refine wp_if_lt (pc := 65) (tgt := 81) X dX0_waitBehind_65 (by decide) (fun hc => ?_) (fun hc => ?_)
        · replace h := h.1 hc
          refine wp_iload_n (pc := 81) X dX0_waitBehind_81 rfl rfl ?_
          refine wp_invS (pc := 82) X sv_X0_71  rfl ⟨by decide, by decide⟩ (As := [.int a2]) (st := []) rfl rfl (Nat.le_of_ble_eq_true rfl) dX0_waitBehind_82 ?_
          refine CM.mono h (fun r6 M5 h => ?_)
          refine wp_aload_n (pc := 85) X dX0_waitBehind_85 rfl rfl ?_
          refine wp_get (pc := 86) X fl_X0_37 A_128 (by decide) (fg_0_4 A_128) dX0_waitBehind_86 ?_
          refine wp_icmp_lt (pc := 89) (tgt := 99) X dX0_waitBehind_89 (by decide) (fun hc => ?_) (fun hc => ?_)
          · replace h := h.1 hc
            refine wn_iinc (pc := 99) (d := 1) (lo' := [some (.ref 128), some (.int (nI n)), some (.int a2), some (.int a3), some (.int (nI (k + 1))), some (.int (M 129 k))]) X dX0_waitBehind_99 rfl (by decide) rfl rfl ?_
            refine wp_goto (pc := 102) (tgt := 12) X dX0_waitBehind_102 (by decide) ?_
            exact wp_drop (show subL _ [some (.ref 128), some (.int (nI n)), some (.int a2), some (.int a3), some (.int (nI (k + 1))), none] from ⟨rfl, ⟨rfl, ⟨rfl, ⟨rfl, ⟨rfl, trivial⟩⟩⟩⟩⟩) h
          · replace h := h.2 hc
            refine wp_iload (pc := 92) X dX0_waitBehind_92 rfl ?_
            refine wp_iload_n (pc := 94) X dX0_waitBehind_94 rfl rfl ?_
            obtain ⟨hb7, h⟩ := h
            refine wn_isub (pc := 95) X dX0_waitBehind_95 hb7 ?_
            refine wp_iconst (pc := 96) (v := nI 1) X dX0_waitBehind_96 (by decide) ?_
            refine wn_iadd (pc := 97) X dX0_waitBehind_97 ?_
            exact wp_iret (pc := 98) X T dX0_waitBehind_98 h
        · replace h := h.2 hc
          refine wp_iload (pc := 68) X dX0_waitBehind_68 rfl ?_
          refine wp_iload_n (pc := 70) X dX0_waitBehind_70 rfl rfl ?_
          refine wp_icmp_gt (pc := 71) (tgt := 81) X dX0_waitBehind_71 (by decide) (fun hc => ?_) (fun hc => ?_)
          · replace h := h.1 hc
            refine wp_iload_n (pc := 81) X dX0_waitBehind_81 rfl rfl ?_
            refine wp_invS (pc := 82) X sv_X0_71  rfl ⟨by decide, by decide⟩ (As := [.int a2]) (st := []) rfl rfl (Nat.le_of_ble_eq_true rfl) dX0_waitBehind_82 ?_
            refine CM.mono h (fun r9 M8 h => ?_)
            refine wp_aload_n (pc := 85) X dX0_waitBehind_85 rfl rfl ?_
            refine wp_get (pc := 86) X fl_X0_37 A_128 (by decide) (fg_0_4 A_128) dX0_waitBehind_86 ?_
            refine wp_icmp_lt (pc := 89) (tgt := 99) X dX0_waitBehind_89 (by decide) (fun hc => ?_) (fun hc => ?_)
            · replace h := h.1 hc
              refine wn_iinc (pc := 99) (d := 1) (lo' := [some (.ref 128), some (.int (nI n)), some (.int a2), some (.int a3), some (.int (nI (k + 1))), some (.int (M 129 k))]) X dX0_waitBehind_99 rfl (by decide) rfl rfl ?_
              refine wp_goto (pc := 102) (tgt := 12) X dX0_waitBehind_102 (by decide) ?_
              exact wp_drop (show subL _ [some (.ref 128), some (.int (nI n)), some (.int a2), some (.int a3), some (.int (nI (k + 1))), none] from ⟨rfl, ⟨rfl, ⟨rfl, ⟨rfl, ⟨rfl, trivial⟩⟩⟩⟩⟩) h
            · replace h := h.2 hc
              refine wp_iload (pc := 92) X dX0_waitBehind_92 rfl ?_
              refine wp_iload_n (pc := 94) X dX0_waitBehind_94 rfl rfl ?_
              obtain ⟨hb10, h⟩ := h
              refine wn_isub (pc := 95) X dX0_waitBehind_95 hb10 ?_
              refine wp_iconst (pc := 96) (v := nI 1) X dX0_waitBehind_96 (by decide) ?_
              refine wn_iadd (pc := 97) X dX0_waitBehind_97 ?_
              exact wp_iret (pc := 98) X T dX0_waitBehind_98 h
          · replace h := h.2 hc
            refine wp_iload_n (pc := 74) X dX0_waitBehind_74 rfl rfl ?_
            refine wp_iconst (pc := 75) (v := nI 1) X dX0_waitBehind_75 (by decide) ?_
            refine wp_iload (pc := 76) X dX0_waitBehind_76 rfl ?_
            refine wp_ishl (pc := 78) X dX0_waitBehind_78 ?_
            refine wp_ior (pc := 79) X dX0_waitBehind_79 ?_
            refine wp_istore_n (pc := 80) (lo' := [some (.ref 128), some (.int (nI n)), some (.int (a2 ||| ((nI 1) <<< ((M 129 k) &&& 31)))), some (.int a3), some (.int (nI k)), some (.int (M 129 k))]) X dX0_waitBehind_80 rfl (Nat.le_of_ble_eq_true rfl) rfl rfl ?_
            refine wp_iload_n (pc := 81) X dX0_waitBehind_81 rfl rfl ?_
            refine wp_invS (pc := 82) X sv_X0_71  rfl ⟨by decide, by decide⟩ (As := [.int (a2 ||| ((nI 1) <<< ((M 129 k) &&& 31)))]) (st := []) rfl rfl (Nat.le_of_ble_eq_true rfl) dX0_waitBehind_82 ?_
            refine CM.mono h (fun r12 M11 h => ?_)
            refine wp_aload_n (pc := 85) X dX0_waitBehind_85 rfl rfl ?_
            refine wp_get (pc := 86) X fl_X0_37 A_128 (by decide) (fg_0_4 A_128) dX0_waitBehind_86 ?_
            refine wp_icmp_lt (pc := 89) (tgt := 99) X dX0_waitBehind_89 (by decide) (fun hc => ?_) (fun hc => ?_)
            · replace h := h.1 hc
              refine wn_iinc (pc := 99) (d := 1) (lo' := [some (.ref 128), some (.int (nI n)), some (.int (a2 ||| ((nI 1) <<< ((M 129 k) &&& 31)))), some (.int a3), some (.int (nI (k + 1))), some (.int (M 129 k))]) X dX0_waitBehind_99 rfl (by decide) rfl rfl ?_
              refine wp_goto (pc := 102) (tgt := 12) X dX0_waitBehind_102 (by decide) ?_
              exact wp_drop (show subL _ [some (.ref 128), some (.int (nI n)), some (.int (a2 ||| ((nI 1) <<< ((M 129 k) &&& 31)))), some (.int a3), some (.int (nI (k + 1))), none] from ⟨rfl, ⟨rfl, ⟨rfl, ⟨rfl, ⟨rfl, trivial⟩⟩⟩⟩⟩) h
            · replace h := h.2 hc
              refine wp_iload (pc := 92) X dX0_waitBehind_92 rfl ?_
              refine wp_iload_n (pc := 94) X dX0_waitBehind_94 rfl rfl ?_
              obtain ⟨hb13, h⟩ := h
              refine wn_isub (pc := 95) X dX0_waitBehind_95 hb13 ?_
              refine wp_iconst (pc := 96) (v := nI 1) X dX0_waitBehind_96 (by decide) ?_
              refine wn_iadd (pc := 97) X dX0_waitBehind_97 ?_
              exact wp_iret (pc := 98) X T dX0_waitBehind_98 h
      · replace h := h.2 hc
        refine wp_iload (pc := 47) X dX0_waitBehind_47 rfl ?_
        refine wp_aload_n (pc := 49) X dX0_waitBehind_49 rfl rfl ?_
        refine wp_get (pc := 50) X fl_X0_15 A_128 (by decide) (fg_0_0 A_128) dX0_waitBehind_50 ?_
        refine wp_get (pc := 53) X fl_X0_68 A_7 (by decide) (fg_3_5 A_7) dX0_waitBehind_53 ?_
        refine wp_iadd (pc := 56) X dX0_waitBehind_56 ?_
        refine wp_iconst (pc := 57) (v := nI 1) X dX0_waitBehind_57 (by decide) ?_
        refine wp_isub (pc := 58) X dX0_waitBehind_58 ?_
        refine wp_istore_n (pc := 59) (lo' := [some (.ref 128), some (.int (nI n)), some (.int a2), some (.int (((nI k) + (M 7 5)) - (nI 1))), some (.int (nI k)), some (.int (M 129 k))]) X dX0_waitBehind_59 rfl (Nat.le_of_ble_eq_true rfl) rfl rfl ?_
        refine wp_goto (pc := 60) (tgt := 81) X dX0_waitBehind_60 (by decide) ?_
        refine wp_iload_n (pc := 81) X dX0_waitBehind_81 rfl rfl ?_
        refine wp_invS (pc := 82) X sv_X0_71  rfl ⟨by decide, by decide⟩ (As := [.int a2]) (st := []) rfl rfl (Nat.le_of_ble_eq_true rfl) dX0_waitBehind_82 ?_
        refine CM.mono h (fun r15 M14 h => ?_)
        refine wp_aload_n (pc := 85) X dX0_waitBehind_85 rfl rfl ?_
        refine wp_get (pc := 86) X fl_X0_37 A_128 (by decide) (fg_0_4 A_128) dX0_waitBehind_86 ?_
        refine wp_icmp_lt (pc := 89) (tgt := 99) X dX0_waitBehind_89 (by decide) (fun hc => ?_) (fun hc => ?_)
        · replace h := h.1 hc
          refine wn_iinc (pc := 99) (d := 1) (lo' := [some (.ref 128), some (.int (nI n)), some (.int a2), some (.int (((nI k) + (M 7 5)) - (nI 1))), some (.int (nI (k + 1))), some (.int (M 129 k))]) X dX0_waitBehind_99 rfl (by decide) rfl rfl ?_
          refine wp_goto (pc := 102) (tgt := 12) X dX0_waitBehind_102 (by decide) ?_
          exact wp_drop (show subL _ [some (.ref 128), some (.int (nI n)), some (.int a2), some (.int (((nI k) + (M 7 5)) - (nI 1))), some (.int (nI (k + 1))), none] from ⟨rfl, ⟨rfl, ⟨rfl, ⟨rfl, ⟨rfl, trivial⟩⟩⟩⟩⟩) h
        · replace h := h.2 hc
          refine wp_iload (pc := 92) X dX0_waitBehind_92 rfl ?_
          refine wp_iload_n (pc := 94) X dX0_waitBehind_94 rfl rfl ?_
          obtain ⟨hb16, h⟩ := h
          refine wn_isub (pc := 95) X dX0_waitBehind_95 hb16 ?_
          refine wp_iconst (pc := 96) (v := nI 1) X dX0_waitBehind_96 (by decide) ?_
          refine wn_iadd (pc := 97) X dX0_waitBehind_97 ?_
          exact wp_iret (pc := 98) X T dX0_waitBehind_98 h
theorem r_X7_write_0 {x : CT} {L : List Nat} {Q : Int32 → Mem → Prop} {M : Mem}  {a1 : Int32} (X : BS x L cX7_write 2 RX7 (m_X7_write).2.2.2.2) (T : RT x L (some .int) Q) (A_0 : AC L 0 7 0) (A_1 : AC L 1 5 0)
    (h : (a1 < (nI 32) → Q (-1) M) ∧ (¬ a1 < (nI 32) → (a1 ≤ (nI 126) → CM m_X5_append L [.ref 1, .int a1] M (fun r2 M1 => (r2 = 0 → Q (-3) M1) ∧ (¬ r2 = 0 → Q (M1 1 1) M1))) ∧ (¬ a1 ≤ (nI 126) → Q (-1) M))) : WP x L 0 [some (.ref 0), some (.int a1)] [] M := by
  refine wp_iload_n (pc := 0) X dX7_write_0 rfl rfl ?_
  refine wp_bipush (pc := 1) (v := nI 32) X dX7_write_1 (by decide) ?_
  refine wp_icmp_lt (pc := 3) (tgt := 12) X dX7_write_3 (by decide) (fun hc => ?_) (fun hc => ?_)
  · replace h := h.1 hc
    refine wp_iconst (pc := 12) (v := (-1)) X dX7_write_12 (by decide) ?_
    exact wp_iret (pc := 13) X T dX7_write_13 h
  · replace h := h.2 hc
    refine wp_iload_n (pc := 6) X dX7_write_6 rfl rfl ?_
    refine wp_bipush (pc := 7) (v := nI 126) X dX7_write_7 (by decide) ?_
    refine wp_icmp_le (pc := 9) (tgt := 14) X dX7_write_9 (by decide) (fun hc => ?_) (fun hc => ?_)
    · replace h := h.1 hc
      refine wp_aload_n (pc := 14) X dX7_write_14 rfl rfl ?_
      refine wp_get (pc := 15) X fl_X7_12 A_0 (by decide) (fg_7_0 A_0) dX7_write_15 ?_
      refine wp_iload_n (pc := 18) X dX7_write_18 rfl rfl ?_
      refine wp_invV (pc := 19) X sv_X7_60 A_1 (by decide) rfl ⟨by decide, by decide⟩ (As := [.int a1]) (st := []) rfl rfl (Nat.le_of_ble_eq_true rfl) dX7_write_19 ?_
      refine CM.mono h (fun r2 M1 h => ?_)
      refine wp_if_eq (pc := 22) (tgt := 35) X dX7_write_22 (by decide) (fun hc => ?_) (fun hc => ?_)
      · replace h := h.1 hc
        refine wp_bipush (pc := 35) (v := (-3)) X dX7_write_35 (by decide) ?_
        exact wp_iret (pc := 37) X T dX7_write_37 h
      · replace h := h.2 hc
        refine wp_aload_n (pc := 25) X dX7_write_25 rfl rfl ?_
        refine wp_get (pc := 26) X fl_X7_12 A_0 (by decide) (fg_7_0 A_0) dX7_write_26 ?_
        refine wp_get (pc := 29) X fl_X7_64 A_1 (by decide) (fg_5_1 A_1) dX7_write_29 ?_
        refine wp_goto (pc := 32) (tgt := 37) X dX7_write_32 (by decide) ?_
        exact wp_iret (pc := 37) X T dX7_write_37 h
    · replace h := h.2 hc
      refine wp_iconst (pc := 12) (v := (-1)) X dX7_write_12 (by decide) ?_
      exact wp_iret (pc := 13) X T dX7_write_13 h
theorem r_X7_wipe_0 {x : CT} {L : List Nat} {Q : Int32 → Mem → Prop} {M : Mem}  (X : BS x L cX7_wipe 2 RX7 (m_X7_wipe).2.2.2.2) (T : RT x L (some .int) Q) (A_0 : AC L 0 7 0) (A_1 : AC L 1 5 0)
    (h : Q (M 1 1) (MU M 1 1 (nI 0))) : WP x L 0 [some (.ref 0), none] [] M := by
  refine wp_aload_n (pc := 0) X dX7_wipe_0 rfl rfl ?_
  refine wp_get (pc := 1) X fl_X7_12 A_0 (by decide) (fg_7_0 A_0) dX7_wipe_1 ?_
  refine wp_get (pc := 4) X fl_X7_64 A_1 (by decide) (fg_5_1 A_1) dX7_wipe_4 ?_
  refine wp_istore_n (pc := 7) (lo' := [some (.ref 0), some (.int (M 1 1))]) X dX7_wipe_7 rfl (Nat.le_of_ble_eq_true rfl) rfl rfl ?_
  refine wp_aload_n (pc := 8) X dX7_wipe_8 rfl rfl ?_
  refine wp_get (pc := 9) X fl_X7_12 A_0 (by decide) (fg_7_0 A_0) dX7_wipe_9 ?_
  refine wp_iconst (pc := 12) (v := nI 0) X dX7_wipe_12 (by decide) ?_
  refine wp_put (pc := 13) X fl_X7_64 fp_5_1 A_1 (by decide) (fk_5_1 A_1) (fs_5_1 A_1 _) dX7_wipe_13 ?_
  refine wp_iload_n (pc := 16) X dX7_wipe_16 rfl rfl ?_
  exact wp_iret (pc := 17) X T dX7_wipe_17 h
theorem r_X7_fault_0 {x : CT} {L : List Nat} {Q : Int32 → Mem → Prop} {M : Mem}  (X : BS x L cX7_fault 1 RX7 (m_X7_fault).2.2.2.2) (T : RT x L (some .int) Q) (A_0 : AC L 0 7 0) (A_1 : AC L 1 5 0)
    (h : CM m_X5_firstFault L [.ref 1, .ref 3] M (fun r2 M1 => Q r2 M1)) : WP x L 0 [some (.ref 0)] [] M := by
  refine wp_aload_n (pc := 0) X dX7_fault_0 rfl rfl ?_
  refine wp_get (pc := 1) X fl_X7_12 A_0 (by decide) (fg_7_0 A_0) dX7_fault_1 ?_
  refine wp_aload_n (pc := 4) X dX7_fault_4 rfl rfl ?_
  refine wp_get (pc := 5) X fl_X7_19 A_0 (by decide) (fg_7_1 A_0) dX7_fault_5 ?_
  refine wp_invV (pc := 8) X sv_X7_68 A_1 (by decide) rfl ⟨by decide, by decide⟩ (As := [.ref 3]) (st := []) rfl rfl (Nat.le_of_ble_eq_true rfl) dX7_fault_8 ?_
  refine CM.mono h (fun r2 M1 h => ?_)
  exact wp_iret (pc := 11) X T dX7_fault_11 h
theorem r_X7_lay_0 {x : CT} {L : List Nat} {Q : Int32 → Mem → Prop} {M : Mem}  (X : BS x L cX7_lay 1 RX7 (m_X7_lay).2.2.2.2) (T : RT x L (some .int) Q) (A_0 : AC L 0 7 0) (A_1 : AC L 1 5 0) (A_3 : AC L 3 3 0) (A_7 : AC L 7 3 0) (A_11 : AC L 11 4 0) (A_34 : AC L 34 2 0)
    (h : CM m_X5_firstFault L [.ref 1, .ref 3] M (fun r2 M1 => (¬ r2 = (-4) → Q (-2) M1) ∧ (r2 = (-4) → ∃ v3 : Nat, M1 3 3 = nI v3 ∧ v3 < 2 ^ 31 ∧ (0 < v3 → CM m_X3_become L [.ref 7, .ref 3] M1 (fun _ M5 => CM m_X4_begin L [.ref 11] M5 (fun _ M7 => CM m_X2_forget L [.ref 34] M7 (fun _ M9 => ∃ v11 : Nat, M9 7 3 = nI v11 ∧ Q (nI v11) M9)))) ∧ (v3 = 0 → Q (-2) M1)))) : WP x L 0 [some (.ref 0)] [] M := by
  refine wp_aload_n (pc := 0) X dX7_lay_0 rfl rfl ?_
  refine wp_get (pc := 1) X fl_X7_12 A_0 (by decide) (fg_7_0 A_0) dX7_lay_1 ?_
  refine wp_aload_n (pc := 4) X dX7_lay_4 rfl rfl ?_
  refine wp_get (pc := 5) X fl_X7_19 A_0 (by decide) (fg_7_1 A_0) dX7_lay_5 ?_
  refine wp_invV (pc := 8) X sv_X7_68 A_1 (by decide) rfl ⟨by decide, by decide⟩ (As := [.ref 3]) (st := []) rfl rfl (Nat.le_of_ble_eq_true rfl) dX7_lay_8 ?_
  refine CM.mono h (fun r2 M1 h => ?_)
  refine wp_bipush (pc := 11) (v := (-4)) X dX7_lay_11 (by decide) ?_
  refine wp_icmp_ne (pc := 13) (tgt := 26) X dX7_lay_13 (by decide) (fun hc => ?_) (fun hc => ?_)
  · replace h := h.1 hc
    refine wp_bipush (pc := 26) (v := (-2)) X dX7_lay_26 (by decide) ?_
    exact wp_iret (pc := 28) X T dX7_lay_28 h
  · replace h := h.2 hc
    refine wp_aload_n (pc := 16) X dX7_lay_16 rfl rfl ?_
    refine wp_get (pc := 17) X fl_X7_19 A_0 (by decide) (fg_7_1 A_0) dX7_lay_17 ?_
    obtain ⟨v3, he4, h⟩ := h
    refine we_get (pc := 20) X fl_X7_72 A_3 (by decide) (fg_3_3 A_3) he4 dX7_lay_20 ?_
    obtain ⟨hb13, h⟩ := h
    refine wn_if_ne (pc := 23) (tgt := 29) X dX7_lay_23 (by decide) hb13 (fun hc => ?_) (fun hc => ?_)
    · replace h := h.1 hc
      refine wp_aload_n (pc := 29) X dX7_lay_29 rfl rfl ?_
      refine wp_get (pc := 30) X fl_X7_23 A_0 (by decide) (fg_7_2 A_0) dX7_lay_30 ?_
      refine wp_aload_n (pc := 33) X dX7_lay_33 rfl rfl ?_
      refine wp_get (pc := 34) X fl_X7_19 A_0 (by decide) (fg_7_1 A_0) dX7_lay_34 ?_
      refine wp_invVv (pc := 37) X sv_X7_75 A_7 (by decide) rfl ⟨by decide, by decide⟩ (As := [.ref 3]) (st := []) rfl rfl (Nat.le_of_ble_eq_true rfl) dX7_lay_37 ?_
      refine CM.mono h (fun _ M5 h => ?_)
      refine wp_aload_n (pc := 40) X dX7_lay_40 rfl rfl ?_
      refine wp_get (pc := 41) X fl_X7_39 A_0 (by decide) (fg_7_3 A_0) dX7_lay_41 ?_
      refine wp_invVv (pc := 44) X sv_X7_43 A_11 (by decide) rfl ⟨by decide, by decide⟩ (As := []) (st := []) rfl rfl (Nat.le_of_ble_eq_true rfl) dX7_lay_44 ?_
      refine CM.mono h (fun _ M7 h => ?_)
      refine wp_aload_n (pc := 47) X dX7_lay_47 rfl rfl ?_
      refine wp_get (pc := 48) X fl_X7_49 A_0 (by decide) (fg_7_4 A_0) dX7_lay_48 ?_
      refine wp_invVv (pc := 51) X sv_X7_78 A_34 (by decide) rfl ⟨by decide, by decide⟩ (As := []) (st := []) rfl rfl (Nat.le_of_ble_eq_true rfl) dX7_lay_51 ?_
      refine CM.mono h (fun _ M9 h => ?_)
      refine wp_aload_n (pc := 54) X dX7_lay_54 rfl rfl ?_
      refine wp_get (pc := 55) X fl_X7_23 A_0 (by decide) (fg_7_2 A_0) dX7_lay_55 ?_
      obtain ⟨v11, he12, h⟩ := h
      refine we_get (pc := 58) X fl_X7_72 A_7 (by decide) (fg_3_3 A_7) he12 dX7_lay_58 ?_
      exact wp_iret (pc := 61) X T dX7_lay_61 h
    · replace h := h.2 hc
      refine wp_bipush (pc := 26) (v := (-2)) X dX7_lay_26 (by decide) ?_
      exact wp_iret (pc := 28) X T dX7_lay_28 h
theorem r_X7_tick_0 {x : CT} {L : List Nat} {Q : Int32 → Mem → Prop} {M : Mem}  {a1 : Int32} (X : BS x L cX7_tick 4 RX7 (m_X7_tick).2.2.2.2) (T : RT x L (some .int) Q) (A_0 : AC L 0 7 0) (A_11 : AC L 11 4 0) (A_13 : AC L 13 6 0) (A_34 : AC L 34 2 0)
    (h : (a1 < (nI 1) → Q (-1) M) ∧ (¬ a1 < (nI 1) → (a1 ≤ (nI 99) → ∃ v1 : Nat, M 13 9 = nI v1 ∧ (((nI v1) + a1) ≤ (nI 9999) → CM m_X2_keep L [.ref 34, .ref 11] M (fun _ M3 => WP x L 58 [some (.ref 0), some (.int a1), some (.int (M3 13 11)), some (.int (nI 0))] [] M3)) ∧ (¬ ((nI v1) + a1) ≤ (nI 9999) → Q (-2) M)) ∧ (¬ a1 ≤ (nI 99) → Q (-1) M))) : WP x L 0 [some (.ref 0), some (.int a1), none, none] [] M := by
  refine wp_iload_n (pc := 0) X dX7_tick_0 rfl rfl ?_
  refine wp_iconst (pc := 1) (v := nI 1) X dX7_tick_1 (by decide) ?_
  refine wp_icmp_lt (pc := 2) (tgt := 11) X dX7_tick_2 (by decide) (fun hc => ?_) (fun hc => ?_)
  · replace h := h.1 hc
    refine wp_iconst (pc := 11) (v := (-1)) X dX7_tick_11 (by decide) ?_
    exact wp_iret (pc := 12) X T dX7_tick_12 h
  · replace h := h.2 hc
    refine wp_iload_n (pc := 5) X dX7_tick_5 rfl rfl ?_
    refine wp_bipush (pc := 6) (v := nI 99) X dX7_tick_6 (by decide) ?_
    refine wp_icmp_le (pc := 8) (tgt := 13) X dX7_tick_8 (by decide) (fun hc => ?_) (fun hc => ?_)
    · replace h := h.1 hc
      refine wp_aload_n (pc := 13) X dX7_tick_13 rfl rfl ?_
      refine wp_get (pc := 14) X fl_X7_39 A_0 (by decide) (fg_7_3 A_0) dX7_tick_14 ?_
      refine wp_get (pc := 17) X fl_X7_81 A_11 (by decide) (fg_4_0 A_11) dX7_tick_17 ?_
      obtain ⟨v1, he2, h⟩ := h
      refine we_get (pc := 20) X fl_X7_85 A_13 (by decide) (fg_6_9 A_13) he2 dX7_tick_20 ?_
      refine wp_iload_n (pc := 23) X dX7_tick_23 rfl rfl ?_
      refine wp_iadd (pc := 24) X dX7_tick_24 ?_
      refine wp_sipush (pc := 25) (v := nI 9999) X dX7_tick_25 (by decide) ?_
      refine wp_icmp_le (pc := 28) (tgt := 34) X dX7_tick_28 (by decide) (fun hc => ?_) (fun hc => ?_)
      · replace h := h.1 hc
        refine wp_aload_n (pc := 34) X dX7_tick_34 rfl rfl ?_
        refine wp_get (pc := 35) X fl_X7_49 A_0 (by decide) (fg_7_4 A_0) dX7_tick_35 ?_
        refine wp_aload_n (pc := 38) X dX7_tick_38 rfl rfl ?_
        refine wp_get (pc := 39) X fl_X7_39 A_0 (by decide) (fg_7_3 A_0) dX7_tick_39 ?_
        refine wp_invVv (pc := 42) X sv_X7_90 A_34 (by decide) rfl ⟨by decide, by decide⟩ (As := [.ref 11]) (st := []) rfl rfl (Nat.le_of_ble_eq_true rfl) dX7_tick_42 ?_
        refine CM.mono h (fun _ M3 h => ?_)
        refine wp_aload_n (pc := 45) X dX7_tick_45 rfl rfl ?_
        refine wp_get (pc := 46) X fl_X7_39 A_0 (by decide) (fg_7_3 A_0) dX7_tick_46 ?_
        refine wp_get (pc := 49) X fl_X7_81 A_11 (by decide) (fg_4_0 A_11) dX7_tick_49 ?_
        refine wp_get (pc := 52) X fl_X7_94 A_13 (by decide) (fg_6_11 A_13) dX7_tick_52 ?_
        refine wp_istore_n (pc := 55) (lo' := [some (.ref 0), some (.int a1), some (.int (M3 13 11)), none]) X dX7_tick_55 rfl (Nat.le_of_ble_eq_true rfl) rfl rfl ?_
        refine wp_iconst (pc := 56) (v := nI 0) X dX7_tick_56 (by decide) ?_
        refine wp_istore_n (pc := 57) (lo' := [some (.ref 0), some (.int a1), some (.int (M3 13 11)), some (.int (nI 0))]) X dX7_tick_57 rfl (Nat.le_of_ble_eq_true rfl) rfl rfl ?_
        exact h
      · replace h := h.2 hc
        refine wp_bipush (pc := 31) (v := (-2)) X dX7_tick_31 (by decide) ?_
        exact wp_iret (pc := 33) X T dX7_tick_33 h
    · replace h := h.2 hc
      refine wp_iconst (pc := 11) (v := (-1)) X dX7_tick_11 (by decide) ?_
      exact wp_iret (pc := 12) X T dX7_tick_12 h
theorem r_X7_tick_58 {x : CT} {L : List Nat} {Q : Int32 → Mem → Prop} {M : Mem}  {n k : Nat} {a2 : Int32} (X : BS x L cX7_tick 4 RX7 (m_X7_tick).2.2.2.2) (T : RT x L (some .int) Q) (A_0 : AC L 0 7 0) (A_11 : AC L 11 4 0) (A_13 : AC L 13 6 0)
    (h : k < 2 ^ 31 ∧ n < 2 ^ 31 ∧ (n ≤ k → Q ((M 13 11) - a2) M) ∧ (k < n → CM m_X4_advance L [.ref 11] M (fun _ M1 => WP x L 58 [some (.ref 0), some (.int (nI n)), some (.int a2), some (.int (nI (k + 1)))] [] M1))) : WP x L 58 [some (.ref 0), some (.int (nI n)), some (.int a2), some (.int (nI k))] [] M := by
  refine wp_iload_n (pc := 58) X dX7_tick_58 rfl rfl ?_
  refine wp_iload_n (pc := 59) X dX7_tick_59 rfl rfl ?_
  obtain ⟨hb3, hb4, h⟩ := h
  refine wn_icmp_ge (pc := 60) (tgt := 76) X dX7_tick_60 (by decide) hb3 hb4 (fun hc => ?_) (fun hc => ?_)
  · replace h := h.1 hc
    refine wp_aload_n (pc := 76) X dX7_tick_76 rfl rfl ?_
    refine wp_get (pc := 77) X fl_X7_39 A_0 (by decide) (fg_7_3 A_0) dX7_tick_77 ?_
    refine wp_get (pc := 80) X fl_X7_81 A_11 (by decide) (fg_4_0 A_11) dX7_tick_80 ?_
    refine wp_get (pc := 83) X fl_X7_94 A_13 (by decide) (fg_6_11 A_13) dX7_tick_83 ?_
    refine wp_iload_n (pc := 86) X dX7_tick_86 rfl rfl ?_
    refine wp_isub (pc := 87) X dX7_tick_87 ?_
    exact wp_iret (pc := 88) X T dX7_tick_88 h
  · replace h := h.2 hc
    refine wp_aload_n (pc := 63) X dX7_tick_63 rfl rfl ?_
    refine wp_get (pc := 64) X fl_X7_39 A_0 (by decide) (fg_7_3 A_0) dX7_tick_64 ?_
    refine wp_invVv (pc := 67) X sv_X7_97 A_11 (by decide) rfl ⟨by decide, by decide⟩ (As := []) (st := []) rfl rfl (Nat.le_of_ble_eq_true rfl) dX7_tick_67 ?_
    refine CM.mono h (fun _ M1 h => ?_)
    refine wn_iinc (pc := 70) (d := 1) (lo' := [some (.ref 0), some (.int (nI n)), some (.int a2), some (.int (nI (k + 1)))]) X dX7_tick_70 rfl (by decide) rfl rfl ?_
    refine wp_goto (pc := 73) (tgt := 58) X dX7_tick_73 (by decide) ?_
    exact h
theorem r_X7_renew_0 {x : CT} {L : List Nat} {Q : Int32 → Mem → Prop} {M : Mem}  {a1 : Int32} (X : BS x L cX7_renew 2 RX7 (m_X7_renew).2.2.2.2) (T : RT x L (some .int) Q) (A_0 : AC L 0 7 0) (A_7 : AC L 7 3 0) (A_34 : AC L 34 2 0) (A_11 : AC L 11 4 0) (A_13 : AC L 13 6 0)
    (h : CM m_X3_hasFile L [.ref 7, .int a1] M (fun r2 M1 => (¬ r2 = 0 → CM m_X2_keep L [.ref 34, .ref 11] M1 (fun _ M3 => CM m_X6_startNewVersion L [.ref 13, .int a1] M3 (fun r6 M5 => Q r6 M5))) ∧ (r2 = 0 → Q (-1) M1))) : WP x L 0 [some (.ref 0), some (.int a1)] [] M := by
  refine wp_aload_n (pc := 0) X dX7_renew_0 rfl rfl ?_
  refine wp_get (pc := 1) X fl_X7_23 A_0 (by decide) (fg_7_2 A_0) dX7_renew_1 ?_
  refine wp_iload_n (pc := 4) X dX7_renew_4 rfl rfl ?_
  refine wp_invV (pc := 5) X sv_X7_100 A_7 (by decide) rfl ⟨by decide, by decide⟩ (As := [.int a1]) (st := []) rfl rfl (Nat.le_of_ble_eq_true rfl) dX7_renew_5 ?_
  refine CM.mono h (fun r2 M1 h => ?_)
  refine wp_if_ne (pc := 8) (tgt := 13) X dX7_renew_8 (by decide) (fun hc => ?_) (fun hc => ?_)
  · replace h := h.1 hc
    refine wp_aload_n (pc := 13) X dX7_renew_13 rfl rfl ?_
    refine wp_get (pc := 14) X fl_X7_49 A_0 (by decide) (fg_7_4 A_0) dX7_renew_14 ?_
    refine wp_aload_n (pc := 17) X dX7_renew_17 rfl rfl ?_
    refine wp_get (pc := 18) X fl_X7_39 A_0 (by decide) (fg_7_3 A_0) dX7_renew_18 ?_
    refine wp_invVv (pc := 21) X sv_X7_90 A_34 (by decide) rfl ⟨by decide, by decide⟩ (As := [.ref 11]) (st := []) rfl rfl (Nat.le_of_ble_eq_true rfl) dX7_renew_21 ?_
    refine CM.mono h (fun _ M3 h => ?_)
    refine wp_aload_n (pc := 24) X dX7_renew_24 rfl rfl ?_
    refine wp_get (pc := 25) X fl_X7_39 A_0 (by decide) (fg_7_3 A_0) dX7_renew_25 ?_
    refine wp_get (pc := 28) X fl_X7_81 A_11 (by decide) (fg_4_0 A_11) dX7_renew_28 ?_
    refine wp_iload_n (pc := 31) X dX7_renew_31 rfl rfl ?_
    refine wp_invV (pc := 32) X sv_X7_103 A_13 (by decide) rfl ⟨by decide, by decide⟩ (As := [.int a1]) (st := []) rfl rfl (Nat.le_of_ble_eq_true rfl) dX7_renew_32 ?_
    refine CM.mono h (fun r6 M5 h => ?_)
    exact wp_iret (pc := 35) X T dX7_renew_35 h
  · replace h := h.2 hc
    refine wp_iconst (pc := 11) (v := (-1)) X dX7_renew_11 (by decide) ?_
    exact wp_iret (pc := 12) X T dX7_renew_12 h
theorem r_X7_weigh_0 {x : CT} {L : List Nat} {Q : Int32 → Mem → Prop} {M : Mem}  {a1 a2 : Int32} (X : BS x L cX7_weigh 4 RX7 (m_X7_weigh).2.2.2.2) (T : RT x L (some .int) Q) (A_0 : AC L 0 7 0) (A_7 : AC L 7 3 0) (A_11 : AC L 11 4 0) (A_13 : AC L 13 6 0) (A_14 : AC L 14 9 6) (A_34 : AC L 34 2 0)
    (h : CM m_X3_hasFile L [.ref 7, .int a1] M (fun r2 M1 => (r2 = 0 → Q (-1) M1) ∧ (¬ r2 = 0 → (a2 < (nI 1) → Q (-1) M1) ∧ (¬ a2 < (nI 1) → (a2 ≤ (nI 9) → vp_in a1 6 ∧ (¬ (M1 14 (Int32.toNatClampNeg a1)) = a2 → CM m_X2_keep L [.ref 34, .ref 11] M1 (fun _ M4 => vp_in a1 6 ∧ Q (M1 14 (Int32.toNatClampNeg a1)) (MU M4 14 (Int32.toNatClampNeg a1) a2))) ∧ ((M1 14 (Int32.toNatClampNeg a1)) = a2 → Q (-2) M1)) ∧ (¬ a2 ≤ (nI 9) → Q (-1) M1))))) : WP x L 0 [some (.ref 0), some (.int a1), some (.int a2), none] [] M := by
  refine wp_aload_n (pc := 0) X dX7_weigh_0 rfl rfl ?_
  refine wp_get (pc := 1) X fl_X7_23 A_0 (by decide) (fg_7_2 A_0) dX7_weigh_1 ?_
  refine wp_iload_n (pc := 4) X dX7_weigh_4 rfl rfl ?_
  refine wp_invV (pc := 5) X sv_X7_100 A_7 (by decide) rfl ⟨by decide, by decide⟩ (As := [.int a1]) (st := []) rfl rfl (Nat.le_of_ble_eq_true rfl) dX7_weigh_5 ?_
  refine CM.mono h (fun r2 M1 h => ?_)
  refine wp_if_eq (pc := 8) (tgt := 22) X dX7_weigh_8 (by decide) (fun hc => ?_) (fun hc => ?_)
  · replace h := h.1 hc
    refine wp_iconst (pc := 22) (v := (-1)) X dX7_weigh_22 (by decide) ?_
    exact wp_iret (pc := 23) X T dX7_weigh_23 h
  · replace h := h.2 hc
    refine wp_iload_n (pc := 11) X dX7_weigh_11 rfl rfl ?_
    refine wp_iconst (pc := 12) (v := nI 1) X dX7_weigh_12 (by decide) ?_
    refine wp_icmp_lt (pc := 13) (tgt := 22) X dX7_weigh_13 (by decide) (fun hc => ?_) (fun hc => ?_)
    · replace h := h.1 hc
      refine wp_iconst (pc := 22) (v := (-1)) X dX7_weigh_22 (by decide) ?_
      exact wp_iret (pc := 23) X T dX7_weigh_23 h
    · replace h := h.2 hc
      refine wp_iload_n (pc := 16) X dX7_weigh_16 rfl rfl ?_
      refine wp_bipush (pc := 17) (v := nI 9) X dX7_weigh_17 (by decide) ?_
      refine wp_icmp_le (pc := 19) (tgt := 24) X dX7_weigh_19 (by decide) (fun hc => ?_) (fun hc => ?_)
      · replace h := h.1 hc
        refine wp_aload_n (pc := 24) X dX7_weigh_24 rfl rfl ?_
        refine wp_get (pc := 25) X fl_X7_39 A_0 (by decide) (fg_7_3 A_0) dX7_weigh_25 ?_
        refine wp_get (pc := 28) X fl_X7_81 A_11 (by decide) (fg_4_0 A_11) dX7_weigh_28 ?_
        refine wp_get (pc := 31) X fl_X7_107 A_13 (by decide) (fg_6_1 A_13) dX7_weigh_31 ?_
        refine wp_iload_n (pc := 34) X dX7_weigh_34 rfl rfl ?_
        obtain ⟨hj3, h⟩ := h
        refine wp_iald (pc := 35) X A_14 hj3 dX7_weigh_35 ?_
        refine wp_istore_n (pc := 36) (lo' := [some (.ref 0), some (.int a1), some (.int a2), some (.int (M1 14 (Int32.toNatClampNeg a1)))]) X dX7_weigh_36 rfl (Nat.le_of_ble_eq_true rfl) rfl rfl ?_
        refine wp_iload_n (pc := 37) X dX7_weigh_37 rfl rfl ?_
        refine wp_iload_n (pc := 38) X dX7_weigh_38 rfl rfl ?_
        refine wp_icmp_ne (pc := 39) (tgt := 45) X dX7_weigh_39 (by decide) (fun hc => ?_) (fun hc => ?_)
        · replace h := h.1 hc
          refine wp_aload_n (pc := 45) X dX7_weigh_45 rfl rfl ?_
          refine wp_get (pc := 46) X fl_X7_49 A_0 (by decide) (fg_7_4 A_0) dX7_weigh_46 ?_
          refine wp_aload_n (pc := 49) X dX7_weigh_49 rfl rfl ?_
          refine wp_get (pc := 50) X fl_X7_39 A_0 (by decide) (fg_7_3 A_0) dX7_weigh_50 ?_
          refine wp_invVv (pc := 53) X sv_X7_90 A_34 (by decide) rfl ⟨by decide, by decide⟩ (As := [.ref 11]) (st := []) rfl rfl (Nat.le_of_ble_eq_true rfl) dX7_weigh_53 ?_
          refine CM.mono h (fun _ M4 h => ?_)
          refine wp_aload_n (pc := 56) X dX7_weigh_56 rfl rfl ?_
          refine wp_get (pc := 57) X fl_X7_39 A_0 (by decide) (fg_7_3 A_0) dX7_weigh_57 ?_
          refine wp_get (pc := 60) X fl_X7_81 A_11 (by decide) (fg_4_0 A_11) dX7_weigh_60 ?_
          refine wp_get (pc := 63) X fl_X7_107 A_13 (by decide) (fg_6_1 A_13) dX7_weigh_63 ?_
          refine wp_iload_n (pc := 66) X dX7_weigh_66 rfl rfl ?_
          refine wp_iload_n (pc := 67) X dX7_weigh_67 rfl rfl ?_
          obtain ⟨hj6, h⟩ := h
          refine wp_iast (pc := 68) X A_14 hj6 dX7_weigh_68 ?_
          refine wp_iload_n (pc := 69) X dX7_weigh_69 rfl rfl ?_
          exact wp_iret (pc := 70) X T dX7_weigh_70 h
        · replace h := h.2 hc
          refine wp_bipush (pc := 42) (v := (-2)) X dX7_weigh_42 (by decide) ?_
          exact wp_iret (pc := 44) X T dX7_weigh_44 h
      · replace h := h.2 hc
        refine wp_iconst (pc := 22) (v := (-1)) X dX7_weigh_22 (by decide) ?_
        exact wp_iret (pc := 23) X T dX7_weigh_23 h
theorem r_X7_weighN_0 {x : CT} {L : List Nat} {Q : Int32 → Mem → Prop} {M : Mem}  {f : Nat} {a2 : Int32} (X : BS x L cX7_weigh 4 RX7 (m_X7_weigh).2.2.2.2) (T : RT x L (some .int) Q) (A_0 : AC L 0 7 0) (A_7 : AC L 7 3 0) (A_11 : AC L 11 4 0) (A_13 : AC L 13 6 0) (A_14 : AC L 14 9 6) (A_34 : AC L 34 2 0)
    (h : CM m_X3_hasFile L [.ref 7, .int (nI f)] M (fun r2 M1 => (r2 = 0 → Q (-1) M1) ∧ (¬ r2 = 0 → (a2 < (nI 1) → Q (-1) M1) ∧ (¬ a2 < (nI 1) → (a2 ≤ (nI 9) → f < 6 ∧ (¬ (M1 14 f) = a2 → CM m_X2_keep L [.ref 34, .ref 11] M1 (fun _ M4 => f < 6 ∧ Q (M1 14 f) (MU M4 14 f a2))) ∧ ((M1 14 f) = a2 → Q (-2) M1)) ∧ (¬ a2 ≤ (nI 9) → Q (-1) M1))))) : WP x L 0 [some (.ref 0), some (.int (nI f)), some (.int a2), none] [] M := by
  refine wp_aload_n (pc := 0) X dX7_weigh_0 rfl rfl ?_
  refine wp_get (pc := 1) X fl_X7_23 A_0 (by decide) (fg_7_2 A_0) dX7_weigh_1 ?_
  refine wp_iload_n (pc := 4) X dX7_weigh_4 rfl rfl ?_
  refine wp_invV (pc := 5) X sv_X7_100 A_7 (by decide) rfl ⟨by decide, by decide⟩ (As := [.int (nI f)]) (st := []) rfl rfl (Nat.le_of_ble_eq_true rfl) dX7_weigh_5 ?_
  refine CM.mono h (fun r2 M1 h => ?_)
  refine wp_if_eq (pc := 8) (tgt := 22) X dX7_weigh_8 (by decide) (fun hc => ?_) (fun hc => ?_)
  · replace h := h.1 hc
    refine wp_iconst (pc := 22) (v := (-1)) X dX7_weigh_22 (by decide) ?_
    exact wp_iret (pc := 23) X T dX7_weigh_23 h
  · replace h := h.2 hc
    refine wp_iload_n (pc := 11) X dX7_weigh_11 rfl rfl ?_
    refine wp_iconst (pc := 12) (v := nI 1) X dX7_weigh_12 (by decide) ?_
    refine wp_icmp_lt (pc := 13) (tgt := 22) X dX7_weigh_13 (by decide) (fun hc => ?_) (fun hc => ?_)
    · replace h := h.1 hc
      refine wp_iconst (pc := 22) (v := (-1)) X dX7_weigh_22 (by decide) ?_
      exact wp_iret (pc := 23) X T dX7_weigh_23 h
    · replace h := h.2 hc
      refine wp_iload_n (pc := 16) X dX7_weigh_16 rfl rfl ?_
      refine wp_bipush (pc := 17) (v := nI 9) X dX7_weigh_17 (by decide) ?_
      refine wp_icmp_le (pc := 19) (tgt := 24) X dX7_weigh_19 (by decide) (fun hc => ?_) (fun hc => ?_)
      · replace h := h.1 hc
        refine wp_aload_n (pc := 24) X dX7_weigh_24 rfl rfl ?_
        refine wp_get (pc := 25) X fl_X7_39 A_0 (by decide) (fg_7_3 A_0) dX7_weigh_25 ?_
        refine wp_get (pc := 28) X fl_X7_81 A_11 (by decide) (fg_4_0 A_11) dX7_weigh_28 ?_
        refine wp_get (pc := 31) X fl_X7_107 A_13 (by decide) (fg_6_1 A_13) dX7_weigh_31 ?_
        refine wp_iload_n (pc := 34) X dX7_weigh_34 rfl rfl ?_
        obtain ⟨hj3, h⟩ := h
        refine wn_iald (pc := 35) X A_14 hj3 (by decide) dX7_weigh_35 ?_
        refine wp_istore_n (pc := 36) (lo' := [some (.ref 0), some (.int (nI f)), some (.int a2), some (.int (M1 14 f))]) X dX7_weigh_36 rfl (Nat.le_of_ble_eq_true rfl) rfl rfl ?_
        refine wp_iload_n (pc := 37) X dX7_weigh_37 rfl rfl ?_
        refine wp_iload_n (pc := 38) X dX7_weigh_38 rfl rfl ?_
        refine wp_icmp_ne (pc := 39) (tgt := 45) X dX7_weigh_39 (by decide) (fun hc => ?_) (fun hc => ?_)
        · replace h := h.1 hc
          refine wp_aload_n (pc := 45) X dX7_weigh_45 rfl rfl ?_
          refine wp_get (pc := 46) X fl_X7_49 A_0 (by decide) (fg_7_4 A_0) dX7_weigh_46 ?_
          refine wp_aload_n (pc := 49) X dX7_weigh_49 rfl rfl ?_
          refine wp_get (pc := 50) X fl_X7_39 A_0 (by decide) (fg_7_3 A_0) dX7_weigh_50 ?_
          refine wp_invVv (pc := 53) X sv_X7_90 A_34 (by decide) rfl ⟨by decide, by decide⟩ (As := [.ref 11]) (st := []) rfl rfl (Nat.le_of_ble_eq_true rfl) dX7_weigh_53 ?_
          refine CM.mono h (fun _ M4 h => ?_)
          refine wp_aload_n (pc := 56) X dX7_weigh_56 rfl rfl ?_
          refine wp_get (pc := 57) X fl_X7_39 A_0 (by decide) (fg_7_3 A_0) dX7_weigh_57 ?_
          refine wp_get (pc := 60) X fl_X7_81 A_11 (by decide) (fg_4_0 A_11) dX7_weigh_60 ?_
          refine wp_get (pc := 63) X fl_X7_107 A_13 (by decide) (fg_6_1 A_13) dX7_weigh_63 ?_
          refine wp_iload_n (pc := 66) X dX7_weigh_66 rfl rfl ?_
          refine wp_iload_n (pc := 67) X dX7_weigh_67 rfl rfl ?_
          obtain ⟨hj6, h⟩ := h
          refine wn_iast (pc := 68) X A_14 hj6 (by decide) dX7_weigh_68 ?_
          refine wp_iload_n (pc := 69) X dX7_weigh_69 rfl rfl ?_
          exact wp_iret (pc := 70) X T dX7_weigh_70 h
        · replace h := h.2 hc
          refine wp_bipush (pc := 42) (v := (-2)) X dX7_weigh_42 (by decide) ?_
          exact wp_iret (pc := 44) X T dX7_weigh_44 h
      · replace h := h.2 hc
        refine wp_iconst (pc := 22) (v := (-1)) X dX7_weigh_22 (by decide) ?_
        exact wp_iret (pc := 23) X T dX7_weigh_23 h
theorem r_X7_join_0 {x : CT} {L : List Nat} {Q : Int32 → Mem → Prop} {M : Mem}  {a1 : Int32} (X : BS x L cX7_join 2 RX7 (m_X7_join).2.2.2.2) (T : RT x L (some .int) Q) (A_0 : AC L 0 7 0) (A_11 : AC L 11 4 0) (A_34 : AC L 34 2 0)
    (h : (a1 < 0 → Q (-1) M) ∧ (¬ a1 < 0 → (a1 ≤ (nI 99) → CM m_X4_hasRoom L [.ref 11] M (fun r2 M1 => (¬ r2 = 0 → CM m_X2_keep L [.ref 34, .ref 11] M1 (fun _ M3 => CM m_X4_addListener L [.ref 11, .int a1] M3 (fun r6 M5 => Q r6 M5))) ∧ (r2 = 0 → Q (-3) M1))) ∧ (¬ a1 ≤ (nI 99) → Q (-1) M))) : WP x L 0 [some (.ref 0), some (.int a1)] [] M := by
  refine wp_iload_n (pc := 0) X dX7_join_0 rfl rfl ?_
  refine wp_if_lt (pc := 1) (tgt := 10) X dX7_join_1 (by decide) (fun hc => ?_) (fun hc => ?_)
  · replace h := h.1 hc
    refine wp_iconst (pc := 10) (v := (-1)) X dX7_join_10 (by decide) ?_
    exact wp_iret (pc := 11) X T dX7_join_11 h
  · replace h := h.2 hc
    refine wp_iload_n (pc := 4) X dX7_join_4 rfl rfl ?_
    refine wp_bipush (pc := 5) (v := nI 99) X dX7_join_5 (by decide) ?_
    refine wp_icmp_le (pc := 7) (tgt := 12) X dX7_join_7 (by decide) (fun hc => ?_) (fun hc => ?_)
    · replace h := h.1 hc
      refine wp_aload_n (pc := 12) X dX7_join_12 rfl rfl ?_
      refine wp_get (pc := 13) X fl_X7_39 A_0 (by decide) (fg_7_3 A_0) dX7_join_13 ?_
      refine wp_invV (pc := 16) X sv_X7_111 A_11 (by decide) rfl ⟨by decide, by decide⟩ (As := []) (st := []) rfl rfl (Nat.le_of_ble_eq_true rfl) dX7_join_16 ?_
      refine CM.mono h (fun r2 M1 h => ?_)
      refine wp_if_ne (pc := 19) (tgt := 25) X dX7_join_19 (by decide) (fun hc => ?_) (fun hc => ?_)
      · replace h := h.1 hc
        refine wp_aload_n (pc := 25) X dX7_join_25 rfl rfl ?_
        refine wp_get (pc := 26) X fl_X7_49 A_0 (by decide) (fg_7_4 A_0) dX7_join_26 ?_
        refine wp_aload_n (pc := 29) X dX7_join_29 rfl rfl ?_
        refine wp_get (pc := 30) X fl_X7_39 A_0 (by decide) (fg_7_3 A_0) dX7_join_30 ?_
        refine wp_invVv (pc := 33) X sv_X7_90 A_34 (by decide) rfl ⟨by decide, by decide⟩ (As := [.ref 11]) (st := []) rfl rfl (Nat.le_of_ble_eq_true rfl) dX7_join_33 ?_
        refine CM.mono h (fun _ M3 h => ?_)
        refine wp_aload_n (pc := 36) X dX7_join_36 rfl rfl ?_
        refine wp_get (pc := 37) X fl_X7_39 A_0 (by decide) (fg_7_3 A_0) dX7_join_37 ?_
        refine wp_iload_n (pc := 40) X dX7_join_40 rfl rfl ?_
        refine wp_invV (pc := 41) X sv_X7_115 A_11 (by decide) rfl ⟨by decide, by decide⟩ (As := [.int a1]) (st := []) rfl rfl (Nat.le_of_ble_eq_true rfl) dX7_join_41 ?_
        refine CM.mono h (fun r6 M5 h => ?_)
        exact wp_iret (pc := 44) X T dX7_join_44 h
      · replace h := h.2 hc
        refine wp_bipush (pc := 22) (v := (-3)) X dX7_join_22 (by decide) ?_
        exact wp_iret (pc := 24) X T dX7_join_24 h
    · replace h := h.2 hc
      refine wp_iconst (pc := 10) (v := (-1)) X dX7_join_10 (by decide) ?_
      exact wp_iret (pc := 11) X T dX7_join_11 h
theorem r_X7_repairN_0 {x : CT} {L : List Nat} {Q : Int32 → Mem → Prop} {M : Mem}  {l f : Nat} (X : BS x L cX7_repair 4 RX7 (m_X7_repair).2.2.2.2) (T : RT x L (some .int) Q) (A_0 : AC L 0 7 0) (A_11 : AC L 11 4 0) (A_7 : AC L 7 3 0) (A_12 : AC L 12 10 4) (A_13 : AC L 13 6 0) (U_12 : ∀ j, j < 4 → AC L (12 + 10 + 3 * j) 1 0) (A_34 : AC L 34 2 0)
    (h : CM m_X4_hasListener L [.ref 11, .int (nI l)] M (fun r2 M1 => (r2 = 0 → Q (-1) M1) ∧ (¬ r2 = 0 → CM m_X3_hasFile L [.ref 7, .int (nI f)] M1 (fun r4 M3 => (¬ r4 = 0 → l < 4 ∧ ∃ v6 : Nat, M3 13 9 = nI v6 ∧ CM m_X1_knowsIn L [.ref (12 + 10 + 3 * l), .int (nI v6)] M3 (fun r9 M8 => (r9 = 0 → Q (-2) M8) ∧ (¬ r9 = 0 → CM m_X1_lacks L [.ref (12 + 10 + 3 * l), .int (nI f)] M8 (fun r11 M10 => (¬ r11 = 0 → CM m_X2_keep L [.ref 34, .ref 11] M10 (fun _ M12 => CM m_X1_fillUp L [.ref (12 + 10 + 3 * l), .int (nI f)] M12 (fun r15 M14 => Q r15 M14))) ∧ (r11 = 0 → Q (-2) M10))))) ∧ (r4 = 0 → Q (-1) M3))))) : WP x L 0 [some (.ref 0), some (.int (nI l)), some (.int (nI f)), none] [] M := by
  refine wp_aload_n (pc := 0) X dX7_repair_0 rfl rfl ?_
  refine wp_get (pc := 1) X fl_X7_39 A_0 (by decide) (fg_7_3 A_0) dX7_repair_1 ?_
  refine wp_iload_n (pc := 4) X dX7_repair_4 rfl rfl ?_
  refine wp_invV (pc := 5) X sv_X7_118 A_11 (by decide) rfl ⟨by decide, by decide⟩ (As := [.int (nI l)]) (st := []) rfl rfl (Nat.le_of_ble_eq_true rfl) dX7_repair_5 ?_
  refine CM.mono h (fun r2 M1 h => ?_)
  refine wp_if_eq (pc := 8) (tgt := 22) X dX7_repair_8 (by decide) (fun hc => ?_) (fun hc => ?_)
  · replace h := h.1 hc
    refine wp_iconst (pc := 22) (v := (-1)) X dX7_repair_22 (by decide) ?_
    exact wp_iret (pc := 23) X T dX7_repair_23 h
  · replace h := h.2 hc
    refine wp_aload_n (pc := 11) X dX7_repair_11 rfl rfl ?_
    refine wp_get (pc := 12) X fl_X7_23 A_0 (by decide) (fg_7_2 A_0) dX7_repair_12 ?_
    refine wp_iload_n (pc := 15) X dX7_repair_15 rfl rfl ?_
    refine wp_invV (pc := 16) X sv_X7_100 A_7 (by decide) rfl ⟨by decide, by decide⟩ (As := [.int (nI f)]) (st := []) rfl rfl (Nat.le_of_ble_eq_true rfl) dX7_repair_16 ?_
    refine CM.mono h (fun r4 M3 h => ?_)
    refine wp_if_ne (pc := 19) (tgt := 24) X dX7_repair_19 (by decide) (fun hc => ?_) (fun hc => ?_)
    · replace h := h.1 hc
      refine wp_aload_n (pc := 24) X dX7_repair_24 rfl rfl ?_
      refine wp_get (pc := 25) X fl_X7_39 A_0 (by decide) (fg_7_3 A_0) dX7_repair_25 ?_
      refine wp_get (pc := 28) X fl_X7_121 A_11 (by decide) (fg_4_1 A_11) dX7_repair_28 ?_
      refine wp_iload_n (pc := 31) X dX7_repair_31 rfl rfl ?_
      obtain ⟨hj5, h⟩ := h
      refine wn_aaldl (pc := 32) X A_12 hj5 dX7_repair_32 ?_
      refine wp_astore_n (pc := 33) (lo' := [some (.ref 0), some (.int (nI l)), some (.int (nI f)), some (.ref (12 + 10 + 3 * l))]) X dX7_repair_33 rfl (Nat.le_of_ble_eq_true rfl) rfl rfl ?_
      refine wp_aload_n (pc := 34) X dX7_repair_34 rfl rfl ?_
      refine wp_aload_n (pc := 35) X dX7_repair_35 rfl rfl ?_
      refine wp_get (pc := 36) X fl_X7_39 A_0 (by decide) (fg_7_3 A_0) dX7_repair_36 ?_
      refine wp_get (pc := 39) X fl_X7_81 A_11 (by decide) (fg_4_0 A_11) dX7_repair_39 ?_
      obtain ⟨v6, he7, h⟩ := h
      refine we_get (pc := 42) X fl_X7_85 A_13 (by decide) (fg_6_9 A_13) he7 dX7_repair_42 ?_
      refine wp_invV (pc := 45) X sv_X7_125 (U_12 _ hj5) (by decide) rfl ⟨by decide, by decide⟩ (As := [.int (nI v6)]) (st := []) rfl rfl (Nat.le_of_ble_eq_true rfl) dX7_repair_45 ?_
      refine CM.mono h (fun r9 M8 h => ?_)
      refine wp_if_eq (pc := 48) (tgt := 59) X dX7_repair_48 (by decide) (fun hc => ?_) (fun hc => ?_)
      · replace h := h.1 hc
        refine wp_bipush (pc := 59) (v := (-2)) X dX7_repair_59 (by decide) ?_
        exact wp_iret (pc := 61) X T dX7_repair_61 h
      · replace h := h.2 hc
        refine wp_aload_n (pc := 51) X dX7_repair_51 rfl rfl ?_
        refine wp_iload_n (pc := 52) X dX7_repair_52 rfl rfl ?_
        refine wp_invV (pc := 53) X sv_X7_130 (U_12 _ hj5) (by decide) rfl ⟨by decide, by decide⟩ (As := [.int (nI f)]) (st := []) rfl rfl (Nat.le_of_ble_eq_true rfl) dX7_repair_53 ?_
        refine CM.mono h (fun r11 M10 h => ?_)
        refine wp_if_ne (pc := 56) (tgt := 62) X dX7_repair_56 (by decide) (fun hc => ?_) (fun hc => ?_)
        · replace h := h.1 hc
          refine wp_aload_n (pc := 62) X dX7_repair_62 rfl rfl ?_
          refine wp_get (pc := 63) X fl_X7_49 A_0 (by decide) (fg_7_4 A_0) dX7_repair_63 ?_
          refine wp_aload_n (pc := 66) X dX7_repair_66 rfl rfl ?_
          refine wp_get (pc := 67) X fl_X7_39 A_0 (by decide) (fg_7_3 A_0) dX7_repair_67 ?_
          refine wp_invVv (pc := 70) X sv_X7_90 A_34 (by decide) rfl ⟨by decide, by decide⟩ (As := [.ref 11]) (st := []) rfl rfl (Nat.le_of_ble_eq_true rfl) dX7_repair_70 ?_
          refine CM.mono h (fun _ M12 h => ?_)
          refine wp_aload_n (pc := 73) X dX7_repair_73 rfl rfl ?_
          refine wp_iload_n (pc := 74) X dX7_repair_74 rfl rfl ?_
          refine wp_invV (pc := 75) X sv_X7_133 (U_12 _ hj5) (by decide) rfl ⟨by decide, by decide⟩ (As := [.int (nI f)]) (st := []) rfl rfl (Nat.le_of_ble_eq_true rfl) dX7_repair_75 ?_
          refine CM.mono h (fun r15 M14 h => ?_)
          exact wp_iret (pc := 78) X T dX7_repair_78 h
        · replace h := h.2 hc
          refine wp_bipush (pc := 59) (v := (-2)) X dX7_repair_59 (by decide) ?_
          exact wp_iret (pc := 61) X T dX7_repair_61 h
    · replace h := h.2 hc
      refine wp_iconst (pc := 22) (v := (-1)) X dX7_repair_22 (by decide) ?_
      exact wp_iret (pc := 23) X T dX7_repair_23 h
theorem r_X7_undo_0 {x : CT} {L : List Nat} {Q : Int32 → Mem → Prop} {M : Mem}  (X : BS x L cX7_undo 1 RX7 (m_X7_undo).2.2.2.2) (T : RT x L (some .int) Q) (A_0 : AC L 0 7 0) (A_34 : AC L 34 2 0)
    (h : CM m_X2_giveBack L [.ref 34, .ref 11] M (fun r2 M1 => (r2 = 0 → Q (-2) M1) ∧ (¬ r2 = 0 → ∃ v3 : Nat, M1 34 2 = nI v3 ∧ Q (nI v3) M1))) : WP x L 0 [some (.ref 0)] [] M := by
  refine wp_aload_n (pc := 0) X dX7_undo_0 rfl rfl ?_
  refine wp_get (pc := 1) X fl_X7_49 A_0 (by decide) (fg_7_4 A_0) dX7_undo_1 ?_
  refine wp_aload_n (pc := 4) X dX7_undo_4 rfl rfl ?_
  refine wp_get (pc := 5) X fl_X7_39 A_0 (by decide) (fg_7_3 A_0) dX7_undo_5 ?_
  refine wp_invV (pc := 8) X sv_X7_136 A_34 (by decide) rfl ⟨by decide, by decide⟩ (As := [.ref 11]) (st := []) rfl rfl (Nat.le_of_ble_eq_true rfl) dX7_undo_8 ?_
  refine CM.mono h (fun r2 M1 h => ?_)
  refine wp_if_eq (pc := 11) (tgt := 24) X dX7_undo_11 (by decide) (fun hc => ?_) (fun hc => ?_)
  · replace h := h.1 hc
    refine wp_bipush (pc := 24) (v := (-2)) X dX7_undo_24 (by decide) ?_
    exact wp_iret (pc := 26) X T dX7_undo_26 h
  · replace h := h.2 hc
    refine wp_aload_n (pc := 14) X dX7_undo_14 rfl rfl ?_
    refine wp_get (pc := 15) X fl_X7_49 A_0 (by decide) (fg_7_4 A_0) dX7_undo_15 ?_
    obtain ⟨v3, he4, h⟩ := h
    refine we_get (pc := 18) X fl_X7_140 A_34 (by decide) (fg_2_2 A_34) he4 dX7_undo_18 ?_
    refine wp_goto (pc := 21) (tgt := 26) X dX7_undo_21 (by decide) ?_
    exact wp_iret (pc := 26) X T dX7_undo_26 h
theorem r_X7_fileN_0 {x : CT} {L : List Nat} {Q : Int32 → Mem → Prop} {M : Mem}  {f : Nat} {a2 : Int32} (X : BS x L cX7_file 4 RX7 (m_X7_file).2.2.2.2) (T : RT x L (some .int) Q) (A_0 : AC L 0 7 0) (A_7 : AC L 7 3 0) (A_11 : AC L 11 4 0) (A_8 : AC L 8 9 6) (A_9 : AC L 9 9 6) (A_13 : AC L 13 6 0) (A_14 : AC L 14 9 6) (A_15 : AC L 15 9 6) (A_16 : AC L 16 9 6) (A_17 : AC L 17 9 6) (A_18 : AC L 18 9 6)
    (h : CM m_X3_hasFile L [.ref 7, .int (nI f)] M (fun r2 M1 => (¬ r2 = 0 → (a2 = nI 0 → f < 6 ∧ Q (M1 8 f) M1) ∧ (a2 = nI 1 → f < 6 ∧ Q (M1 9 f) M1) ∧ (a2 = nI 2 → f < 6 ∧ Q (M1 14 f) M1) ∧ (a2 = nI 3 → f < 6 ∧ Q (M1 15 f) M1) ∧ (a2 = nI 4 → f < 6 ∧ Q (M1 16 f) M1) ∧ (a2 = nI 5 → f < 6 ∧ Q ((M1 17 f) + (nI 1000)) M1) ∧ (a2 = nI 6 → f < 6 ∧ Q (M1 18 f) M1) ∧ (a2 = nI 7 → f < 6 ∧ CM m_X7_partBits L [.int (M1 18 f), .int (M1 13 11)] M1 (fun r22 M21 => Q r22 M21)) ∧ ((∀ j, j < 8 → ¬ a2 = nI j) → Q (-1) M1)) ∧ (r2 = 0 → Q (-1) M1))) : WP x L 0 [some (.ref 0), some (.int (nI f)), some (.int a2), none] [] M := by
  refine wp_aload_n (pc := 0) X dX7_file_0 rfl rfl ?_
  refine wp_get (pc := 1) X fl_X7_23 A_0 (by decide) (fg_7_2 A_0) dX7_file_1 ?_
  refine wp_iload_n (pc := 4) X dX7_file_4 rfl rfl ?_
  refine wp_invV (pc := 5) X sv_X7_100 A_7 (by decide) rfl ⟨by decide, by decide⟩ (As := [.int (nI f)]) (st := []) rfl rfl (Nat.le_of_ble_eq_true rfl) dX7_file_5 ?_
  refine CM.mono h (fun r2 M1 h => ?_)
  refine wp_if_ne (pc := 8) (tgt := 13) X dX7_file_8 (by decide) (fun hc => ?_) (fun hc => ?_)
  · replace h := h.1 hc
    refine wp_aload_n (pc := 13) X dX7_file_13 rfl rfl ?_
    refine wp_get (pc := 14) X fl_X7_39 A_0 (by decide) (fg_7_3 A_0) dX7_file_14 ?_
    refine wp_get (pc := 17) X fl_X7_81 A_11 (by decide) (fg_4_0 A_11) dX7_file_17 ?_
    refine wp_astore_n (pc := 20) (lo' := [some (.ref 0), some (.int (nI f)), some (.int a2), some (.ref 13)]) X dX7_file_20 rfl (Nat.le_of_ble_eq_true rfl) rfl rfl ?_
    refine wp_iload_n (pc := 21) X dX7_file_21 rfl rfl ?_
    by_cases e22_0 : a2 = nI 0
    · replace h := h.1 e22_0
      refine wp_tabIn (pc := 22) (off := 46) (tgt := 68) X dX7_file_22 (by rw [e22_0]; decide) (by rw [e22_0]; decide) (by rw [e22_0]; rfl) (by decide) ?_
      refine wp_aload_n (pc := 68) X dX7_file_68 rfl rfl ?_
      refine wp_get (pc := 69) X fl_X7_23 A_0 (by decide) (fg_7_2 A_0) dX7_file_69 ?_
      refine wp_get (pc := 72) X fl_X7_143 A_7 (by decide) (fg_3_0 A_7) dX7_file_72 ?_
      refine wp_iload_n (pc := 75) X dX7_file_75 rfl rfl ?_
      obtain ⟨hj4, h⟩ := h
      refine wn_iald (pc := 76) X A_8 hj4 (by decide) dX7_file_76 ?_
      exact wp_iret (pc := 77) X T dX7_file_77 h
    by_cases e22_1 : a2 = nI 1
    · replace h := h.2.1 e22_1
      refine wp_tabIn (pc := 22) (off := 56) (tgt := 78) X dX7_file_22 (by rw [e22_1]; decide) (by rw [e22_1]; decide) (by rw [e22_1]; rfl) (by decide) ?_
      refine wp_aload_n (pc := 78) X dX7_file_78 rfl rfl ?_
      refine wp_get (pc := 79) X fl_X7_23 A_0 (by decide) (fg_7_2 A_0) dX7_file_79 ?_
      refine wp_get (pc := 82) X fl_X7_146 A_7 (by decide) (fg_3_1 A_7) dX7_file_82 ?_
      refine wp_iload_n (pc := 85) X dX7_file_85 rfl rfl ?_
      obtain ⟨hj6, h⟩ := h
      refine wn_iald (pc := 86) X A_9 hj6 (by decide) dX7_file_86 ?_
      exact wp_iret (pc := 87) X T dX7_file_87 h
    by_cases e22_2 : a2 = nI 2
    · replace h := h.2.2.1 e22_2
      refine wp_tabIn (pc := 22) (off := 66) (tgt := 88) X dX7_file_22 (by rw [e22_2]; decide) (by rw [e22_2]; decide) (by rw [e22_2]; rfl) (by decide) ?_
      refine wp_aload_n (pc := 88) X dX7_file_88 rfl rfl ?_
      refine wp_get (pc := 89) X fl_X7_107 A_13 (by decide) (fg_6_1 A_13) dX7_file_89 ?_
      refine wp_iload_n (pc := 92) X dX7_file_92 rfl rfl ?_
      obtain ⟨hj8, h⟩ := h
      refine wn_iald (pc := 93) X A_14 hj8 (by decide) dX7_file_93 ?_
      exact wp_iret (pc := 94) X T dX7_file_94 h
    by_cases e22_3 : a2 = nI 3
    · replace h := h.2.2.2.1 e22_3
      refine wp_tabIn (pc := 22) (off := 73) (tgt := 95) X dX7_file_22 (by rw [e22_3]; decide) (by rw [e22_3]; decide) (by rw [e22_3]; rfl) (by decide) ?_
      refine wp_aload_n (pc := 95) X dX7_file_95 rfl rfl ?_
      refine wp_get (pc := 96) X fl_X7_149 A_13 (by decide) (fg_6_2 A_13) dX7_file_96 ?_
      refine wp_iload_n (pc := 99) X dX7_file_99 rfl rfl ?_
      obtain ⟨hj10, h⟩ := h
      refine wn_iald (pc := 100) X A_15 hj10 (by decide) dX7_file_100 ?_
      exact wp_iret (pc := 101) X T dX7_file_101 h
    by_cases e22_4 : a2 = nI 4
    · replace h := h.2.2.2.2.1 e22_4
      refine wp_tabIn (pc := 22) (off := 80) (tgt := 102) X dX7_file_22 (by rw [e22_4]; decide) (by rw [e22_4]; decide) (by rw [e22_4]; rfl) (by decide) ?_
      refine wp_aload_n (pc := 102) X dX7_file_102 rfl rfl ?_
      refine wp_get (pc := 103) X fl_X7_152 A_13 (by decide) (fg_6_3 A_13) dX7_file_103 ?_
      refine wp_iload_n (pc := 106) X dX7_file_106 rfl rfl ?_
      obtain ⟨hj12, h⟩ := h
      refine wn_iald (pc := 107) X A_16 hj12 (by decide) dX7_file_107 ?_
      exact wp_iret (pc := 108) X T dX7_file_108 h
    by_cases e22_5 : a2 = nI 5
    · replace h := h.2.2.2.2.2.1 e22_5
      refine wp_tabIn (pc := 22) (off := 87) (tgt := 109) X dX7_file_22 (by rw [e22_5]; decide) (by rw [e22_5]; decide) (by rw [e22_5]; rfl) (by decide) ?_
      refine wp_aload_n (pc := 109) X dX7_file_109 rfl rfl ?_
      refine wp_get (pc := 110) X fl_X7_155 A_13 (by decide) (fg_6_4 A_13) dX7_file_110 ?_
      refine wp_iload_n (pc := 113) X dX7_file_113 rfl rfl ?_
      obtain ⟨hj14, h⟩ := h
      refine wn_iald (pc := 114) X A_17 hj14 (by decide) dX7_file_114 ?_
      refine wp_sipush (pc := 115) (v := nI 1000) X dX7_file_115 (by decide) ?_
      refine wp_iadd (pc := 118) X dX7_file_118 ?_
      exact wp_iret (pc := 119) X T dX7_file_119 h
    by_cases e22_6 : a2 = nI 6
    · replace h := h.2.2.2.2.2.2.1 e22_6
      refine wp_tabIn (pc := 22) (off := 98) (tgt := 120) X dX7_file_22 (by rw [e22_6]; decide) (by rw [e22_6]; decide) (by rw [e22_6]; rfl) (by decide) ?_
      refine wp_aload_n (pc := 120) X dX7_file_120 rfl rfl ?_
      refine wp_get (pc := 121) X fl_X7_158 A_13 (by decide) (fg_6_5 A_13) dX7_file_121 ?_
      refine wp_iload_n (pc := 124) X dX7_file_124 rfl rfl ?_
      obtain ⟨hj16, h⟩ := h
      refine wn_iald (pc := 125) X A_18 hj16 (by decide) dX7_file_125 ?_
      exact wp_iret (pc := 126) X T dX7_file_126 h
    by_cases e22_7 : a2 = nI 7
    · replace h := h.2.2.2.2.2.2.2.1 e22_7
      refine wp_tabIn (pc := 22) (off := 105) (tgt := 127) X dX7_file_22 (by rw [e22_7]; decide) (by rw [e22_7]; decide) (by rw [e22_7]; rfl) (by decide) ?_
      refine wp_aload_n (pc := 127) X dX7_file_127 rfl rfl ?_
      refine wp_get (pc := 128) X fl_X7_158 A_13 (by decide) (fg_6_5 A_13) dX7_file_128 ?_
      refine wp_iload_n (pc := 131) X dX7_file_131 rfl rfl ?_
      obtain ⟨hj20, h⟩ := h
      refine wn_iald (pc := 132) X A_18 hj20 (by decide) dX7_file_132 ?_
      refine wp_aload_n (pc := 133) X dX7_file_133 rfl rfl ?_
      refine wp_get (pc := 134) X fl_X7_94 A_13 (by decide) (fg_6_11 A_13) dX7_file_134 ?_
      refine wp_invS (pc := 137) X sv_X7_161  rfl ⟨by decide, by decide⟩ (As := [.int (M1 18 f), .int (M1 13 11)]) (st := []) rfl rfl (Nat.le_of_ble_eq_true rfl) dX7_file_137 ?_
      refine CM.mono h (fun r22 M21 h => ?_)
      exact wp_iret (pc := 140) X T dX7_file_140 h
    have hall : ∀ j, j < 8 → ¬ a2 = nI j := by
      intro j hj
      rcases (show j = 0 ∨ j = 1 ∨ j = 2 ∨ j = 3 ∨ j = 4 ∨ j = 5 ∨ j = 6 ∨ j = 7 by omega) with rfl | rfl | rfl | rfl | rfl | rfl | rfl | rfl
      all_goals assumption
    replace h := h.2.2.2.2.2.2.2.2 hall
    refine wp_tabOut (pc := 22) (tgt := 141) X dX7_file_22 (sw_out hall (by decide) rfl) (by decide) ?_
    refine wp_iconst (pc := 141) (v := (-1)) X dX7_file_141 (by decide) ?_
    exact wp_iret (pc := 142) X T dX7_file_142 h
  · replace h := h.2 hc
    refine wp_iconst (pc := 11) (v := (-1)) X dX7_file_11 (by decide) ?_
    exact wp_iret (pc := 12) X T dX7_file_12 h
theorem r_X7_sent_0 {x : CT} {L : List Nat} {Q : Int32 → Mem → Prop} {M : Mem}  {a1 a2 : Int32} (X : BS x L cX7_sent 4 RX7 (m_X7_sent).2.2.2.2) (T : RT x L (some .int) Q) (A_0 : AC L 0 7 0) (A_11 : AC L 11 4 0) (A_13 : AC L 13 6 0)
    (h : (a1 < 0 → Q (-1) M) ∧ (¬ a1 < 0 → ((nI 10) ≤ a1 → Q (-1) M) ∧ (¬ (nI 10) ≤ a1 → (a2 < 0 → Q (-1) M) ∧ (¬ a2 < 0 → (a2 ≤ (nI 3) → ∃ v1 : Nat, M 13 9 = nI v1 ∧ (0 ≤ (((nI v1) - (nI 1)) - a1) → (a2 = nI 0 → CM m_X6_fileIn L [.ref 13, .int (((nI v1) - (nI 1)) - a1)] M (fun r6 M5 => Q r6 M5)) ∧ (a2 = nI 1 → CM m_X6_symbolIn L [.ref 13, .int (((nI v1) - (nI 1)) - a1)] M (fun r10 M9 => Q r10 M9)) ∧ (a2 = nI 2 → CM m_X6_versionIn L [.ref 13, .int (((nI v1) - (nI 1)) - a1)] M (fun r14 M13 => Q r14 M13)) ∧ ((∀ j, j < 3 → ¬ a2 = nI j) → Q (((nI v1) - (nI 1)) - a1) M)) ∧ (¬ 0 ≤ (((nI v1) - (nI 1)) - a1) → Q (-4) M)) ∧ (¬ a2 ≤ (nI 3) → Q (-1) M))))) : WP x L 0 [some (.ref 0), some (.int a1), some (.int a2), none] [] M := by
  refine wp_iload_n (pc := 0) X dX7_sent_0 rfl rfl ?_
  refine wp_if_lt (pc := 1) (tgt := 19) X dX7_sent_1 (by decide) (fun hc => ?_) (fun hc => ?_)
  · replace h := h.1 hc
    refine wp_iconst (pc := 19) (v := (-1)) X dX7_sent_19 (by decide) ?_
    exact wp_iret (pc := 20) X T dX7_sent_20 h
  · replace h := h.2 hc
    refine wp_iload_n (pc := 4) X dX7_sent_4 rfl rfl ?_
    refine wp_bipush (pc := 5) (v := nI 10) X dX7_sent_5 (by decide) ?_
    refine wp_icmp_ge (pc := 7) (tgt := 19) X dX7_sent_7 (by decide) (fun hc => ?_) (fun hc => ?_)
    · replace h := h.1 hc
      refine wp_iconst (pc := 19) (v := (-1)) X dX7_sent_19 (by decide) ?_
      exact wp_iret (pc := 20) X T dX7_sent_20 h
    · replace h := h.2 hc
      refine wp_iload_n (pc := 10) X dX7_sent_10 rfl rfl ?_
      refine wp_if_lt (pc := 11) (tgt := 19) X dX7_sent_11 (by decide) (fun hc => ?_) (fun hc => ?_)
      · replace h := h.1 hc
        refine wp_iconst (pc := 19) (v := (-1)) X dX7_sent_19 (by decide) ?_
        exact wp_iret (pc := 20) X T dX7_sent_20 h
      · replace h := h.2 hc
        refine wp_iload_n (pc := 14) X dX7_sent_14 rfl rfl ?_
        refine wp_iconst (pc := 15) (v := nI 3) X dX7_sent_15 (by decide) ?_
        refine wp_icmp_le (pc := 16) (tgt := 21) X dX7_sent_16 (by decide) (fun hc => ?_) (fun hc => ?_)
        · replace h := h.1 hc
          refine wp_aload_n (pc := 21) X dX7_sent_21 rfl rfl ?_
          refine wp_get (pc := 22) X fl_X7_39 A_0 (by decide) (fg_7_3 A_0) dX7_sent_22 ?_
          refine wp_get (pc := 25) X fl_X7_81 A_11 (by decide) (fg_4_0 A_11) dX7_sent_25 ?_
          obtain ⟨v1, he2, h⟩ := h
          refine we_get (pc := 28) X fl_X7_85 A_13 (by decide) (fg_6_9 A_13) he2 dX7_sent_28 ?_
          refine wp_iconst (pc := 31) (v := nI 1) X dX7_sent_31 (by decide) ?_
          refine wp_isub (pc := 32) X dX7_sent_32 ?_
          refine wp_iload_n (pc := 33) X dX7_sent_33 rfl rfl ?_
          refine wp_isub (pc := 34) X dX7_sent_34 ?_
          refine wp_istore_n (pc := 35) (lo' := [some (.ref 0), some (.int a1), some (.int a2), some (.int (((nI v1) - (nI 1)) - a1))]) X dX7_sent_35 rfl (Nat.le_of_ble_eq_true rfl) rfl rfl ?_
          refine wp_iload_n (pc := 36) X dX7_sent_36 rfl rfl ?_
          refine wp_if_ge (pc := 37) (tgt := 43) X dX7_sent_37 (by decide) (fun hc => ?_) (fun hc => ?_)
          · replace h := h.1 hc
            refine wp_iload_n (pc := 43) X dX7_sent_43 rfl rfl ?_
            by_cases e44_0 : a2 = nI 0
            · replace h := h.1 e44_0
              refine wp_tabIn (pc := 44) (off := 28) (tgt := 72) X dX7_sent_44 (by rw [e44_0]; decide) (by rw [e44_0]; decide) (by rw [e44_0]; rfl) (by decide) ?_
              refine wp_aload_n (pc := 72) X dX7_sent_72 rfl rfl ?_
              refine wp_get (pc := 73) X fl_X7_39 A_0 (by decide) (fg_7_3 A_0) dX7_sent_73 ?_
              refine wp_get (pc := 76) X fl_X7_81 A_11 (by decide) (fg_4_0 A_11) dX7_sent_76 ?_
              refine wp_iload_n (pc := 79) X dX7_sent_79 rfl rfl ?_
              refine wp_invV (pc := 80) X sv_X7_165 A_13 (by decide) rfl ⟨by decide, by decide⟩ (As := [.int (((nI v1) - (nI 1)) - a1)]) (st := []) rfl rfl (Nat.le_of_ble_eq_true rfl) dX7_sent_80 ?_
              refine CM.mono h (fun r6 M5 h => ?_)
              exact wp_iret (pc := 83) X T dX7_sent_83 h
            by_cases e44_1 : a2 = nI 1
            · replace h := h.2.1 e44_1
              refine wp_tabIn (pc := 44) (off := 40) (tgt := 84) X dX7_sent_44 (by rw [e44_1]; decide) (by rw [e44_1]; decide) (by rw [e44_1]; rfl) (by decide) ?_
              refine wp_aload_n (pc := 84) X dX7_sent_84 rfl rfl ?_
              refine wp_get (pc := 85) X fl_X7_39 A_0 (by decide) (fg_7_3 A_0) dX7_sent_85 ?_
              refine wp_get (pc := 88) X fl_X7_81 A_11 (by decide) (fg_4_0 A_11) dX7_sent_88 ?_
              refine wp_iload_n (pc := 91) X dX7_sent_91 rfl rfl ?_
              refine wp_invV (pc := 92) X sv_X7_168 A_13 (by decide) rfl ⟨by decide, by decide⟩ (As := [.int (((nI v1) - (nI 1)) - a1)]) (st := []) rfl rfl (Nat.le_of_ble_eq_true rfl) dX7_sent_92 ?_
              refine CM.mono h (fun r10 M9 h => ?_)
              exact wp_iret (pc := 95) X T dX7_sent_95 h
            by_cases e44_2 : a2 = nI 2
            · replace h := h.2.2.1 e44_2
              refine wp_tabIn (pc := 44) (off := 52) (tgt := 96) X dX7_sent_44 (by rw [e44_2]; decide) (by rw [e44_2]; decide) (by rw [e44_2]; rfl) (by decide) ?_
              refine wp_aload_n (pc := 96) X dX7_sent_96 rfl rfl ?_
              refine wp_get (pc := 97) X fl_X7_39 A_0 (by decide) (fg_7_3 A_0) dX7_sent_97 ?_
              refine wp_get (pc := 100) X fl_X7_81 A_11 (by decide) (fg_4_0 A_11) dX7_sent_100 ?_
              refine wp_iload_n (pc := 103) X dX7_sent_103 rfl rfl ?_
              refine wp_invV (pc := 104) X sv_X7_171 A_13 (by decide) rfl ⟨by decide, by decide⟩ (As := [.int (((nI v1) - (nI 1)) - a1)]) (st := []) rfl rfl (Nat.le_of_ble_eq_true rfl) dX7_sent_104 ?_
              refine CM.mono h (fun r14 M13 h => ?_)
              exact wp_iret (pc := 107) X T dX7_sent_107 h
            have hall : ∀ j, j < 3 → ¬ a2 = nI j := by
              intro j hj
              rcases (show j = 0 ∨ j = 1 ∨ j = 2 by omega) with rfl | rfl | rfl
              all_goals assumption
            replace h := h.2.2.2 hall
            refine wp_tabOut (pc := 44) (tgt := 108) X dX7_sent_44 (sw_out hall (by decide) rfl) (by decide) ?_
            refine wp_iload_n (pc := 108) X dX7_sent_108 rfl rfl ?_
            exact wp_iret (pc := 109) X T dX7_sent_109 h
          · replace h := h.2 hc
            refine wp_bipush (pc := 40) (v := (-4)) X dX7_sent_40 (by decide) ?_
            exact wp_iret (pc := 42) X T dX7_sent_42 h
        · replace h := h.2 hc
          refine wp_iconst (pc := 19) (v := (-1)) X dX7_sent_19 (by decide) ?_
          exact wp_iret (pc := 20) X T dX7_sent_20 h
theorem r_X7_listenerN_0 {x : CT} {L : List Nat} {Q : Int32 → Mem → Prop} {M : Mem}  {l : Nat} {a2 : Int32} (X : BS x L cX7_listener 4 RX7 (m_X7_listener).2.2.2.2) (T : RT x L (some .int) Q) (A_0 : AC L 0 7 0) (A_11 : AC L 11 4 0) (A_12 : AC L 12 10 4) (U_12 : ∀ j, j < 4 → AC L (12 + 10 + 3 * j) 1 0) (A_13 : AC L 13 6 0)
    (h : CM m_X4_hasListener L [.ref 11, .int (nI l)] M (fun r2 M1 => (¬ r2 = 0 → l < 4 ∧ (a2 = nI 0 → Q (M1 (12 + 10 + 3 * l) 4) M1) ∧ (a2 = nI 1 → Q (M1 (12 + 10 + 3 * l) 5) M1) ∧ (a2 = nI 2 → ∃ v8 : Nat, M1 13 9 = nI v8 ∧ CM m_X1_knowsIn L [.ref (12 + 10 + 3 * l), .int (nI v8)] M1 (fun r11 M10 => (r11 = 0 → Q (nI 0) M10) ∧ (¬ r11 = 0 → Q (nI 1) M10))) ∧ (a2 = nI 3 → Q (M1 (12 + 10 + 3 * l) 6) M1) ∧ (a2 = nI 4 → CM m_X1_wholeBits L [.ref (12 + 10 + 3 * l)] M1 (fun r15 M14 => Q r15 M14)) ∧ (a2 = nI 5 → Q (M1 (12 + 10 + 3 * l) 7) M1) ∧ ((∀ j, j < 6 → ¬ a2 = nI j) → Q (-1) M1)) ∧ (r2 = 0 → Q (-1) M1))) : WP x L 0 [some (.ref 0), some (.int (nI l)), some (.int a2), none] [] M := by
  refine wp_aload_n (pc := 0) X dX7_listener_0 rfl rfl ?_
  refine wp_get (pc := 1) X fl_X7_39 A_0 (by decide) (fg_7_3 A_0) dX7_listener_1 ?_
  refine wp_iload_n (pc := 4) X dX7_listener_4 rfl rfl ?_
  refine wp_invV (pc := 5) X sv_X7_118 A_11 (by decide) rfl ⟨by decide, by decide⟩ (As := [.int (nI l)]) (st := []) rfl rfl (Nat.le_of_ble_eq_true rfl) dX7_listener_5 ?_
  refine CM.mono h (fun r2 M1 h => ?_)
  refine wp_if_ne (pc := 8) (tgt := 13) X dX7_listener_8 (by decide) (fun hc => ?_) (fun hc => ?_)
  · replace h := h.1 hc
    refine wp_aload_n (pc := 13) X dX7_listener_13 rfl rfl ?_
    refine wp_get (pc := 14) X fl_X7_39 A_0 (by decide) (fg_7_3 A_0) dX7_listener_14 ?_
    refine wp_get (pc := 17) X fl_X7_121 A_11 (by decide) (fg_4_1 A_11) dX7_listener_17 ?_
    refine wp_iload_n (pc := 20) X dX7_listener_20 rfl rfl ?_
    obtain ⟨hj3, h⟩ := h
    refine wn_aaldl (pc := 21) X A_12 hj3 dX7_listener_21 ?_
    refine wp_astore_n (pc := 22) (lo' := [some (.ref 0), some (.int (nI l)), some (.int a2), some (.ref (12 + 10 + 3 * l))]) X dX7_listener_22 rfl (Nat.le_of_ble_eq_true rfl) rfl rfl ?_
    refine wp_iload_n (pc := 23) X dX7_listener_23 rfl rfl ?_
    by_cases e24_0 : a2 = nI 0
    · replace h := h.1 e24_0
      refine wp_tabIn (pc := 24) (off := 40) (tgt := 64) X dX7_listener_24 (by rw [e24_0]; decide) (by rw [e24_0]; decide) (by rw [e24_0]; rfl) (by decide) ?_
      refine wp_aload_n (pc := 64) X dX7_listener_64 rfl rfl ?_
      refine wp_get (pc := 65) X fl_X7_174 (U_12 _ hj3) (by decide) (fg_1_4 (U_12 _ hj3)) dX7_listener_65 ?_
      exact wp_iret (pc := 68) X T dX7_listener_68 h
    by_cases e24_1 : a2 = nI 1
    · replace h := h.2.1 e24_1
      refine wp_tabIn (pc := 24) (off := 45) (tgt := 69) X dX7_listener_24 (by rw [e24_1]; decide) (by rw [e24_1]; decide) (by rw [e24_1]; rfl) (by decide) ?_
      refine wp_aload_n (pc := 69) X dX7_listener_69 rfl rfl ?_
      refine wp_get (pc := 70) X fl_X7_177 (U_12 _ hj3) (by decide) (fg_1_5 (U_12 _ hj3)) dX7_listener_70 ?_
      exact wp_iret (pc := 73) X T dX7_listener_73 h
    by_cases e24_2 : a2 = nI 2
    · replace h := h.2.2.1 e24_2
      refine wp_tabIn (pc := 24) (off := 50) (tgt := 74) X dX7_listener_24 (by rw [e24_2]; decide) (by rw [e24_2]; decide) (by rw [e24_2]; rfl) (by decide) ?_
      refine wp_aload_n (pc := 74) X dX7_listener_74 rfl rfl ?_
      refine wp_aload_n (pc := 75) X dX7_listener_75 rfl rfl ?_
      refine wp_get (pc := 76) X fl_X7_39 A_0 (by decide) (fg_7_3 A_0) dX7_listener_76 ?_
      refine wp_get (pc := 79) X fl_X7_81 A_11 (by decide) (fg_4_0 A_11) dX7_listener_79 ?_
      obtain ⟨v8, he9, h⟩ := h
      refine we_get (pc := 82) X fl_X7_85 A_13 (by decide) (fg_6_9 A_13) he9 dX7_listener_82 ?_
      refine wp_invV (pc := 85) X sv_X7_125 (U_12 _ hj3) (by decide) rfl ⟨by decide, by decide⟩ (As := [.int (nI v8)]) (st := []) rfl rfl (Nat.le_of_ble_eq_true rfl) dX7_listener_85 ?_
      refine CM.mono h (fun r11 M10 h => ?_)
      refine wp_if_eq (pc := 88) (tgt := 95) X dX7_listener_88 (by decide) (fun hc => ?_) (fun hc => ?_)
      · replace h := h.1 hc
        refine wp_iconst (pc := 95) (v := nI 0) X dX7_listener_95 (by decide) ?_
        exact wp_iret (pc := 96) X T dX7_listener_96 h
      · replace h := h.2 hc
        refine wp_iconst (pc := 91) (v := nI 1) X dX7_listener_91 (by decide) ?_
        refine wp_goto (pc := 92) (tgt := 96) X dX7_listener_92 (by decide) ?_
        exact wp_iret (pc := 96) X T dX7_listener_96 h
    by_cases e24_3 : a2 = nI 3
    · replace h := h.2.2.2.1 e24_3
      refine wp_tabIn (pc := 24) (off := 73) (tgt := 97) X dX7_listener_24 (by rw [e24_3]; decide) (by rw [e24_3]; decide) (by rw [e24_3]; rfl) (by decide) ?_
      refine wp_aload_n (pc := 97) X dX7_listener_97 rfl rfl ?_
      refine wp_get (pc := 98) X fl_X7_180 (U_12 _ hj3) (by decide) (fg_1_6 (U_12 _ hj3)) dX7_listener_98 ?_
      exact wp_iret (pc := 101) X T dX7_listener_101 h
    by_cases e24_4 : a2 = nI 4
    · replace h := h.2.2.2.2.1 e24_4
      refine wp_tabIn (pc := 24) (off := 78) (tgt := 102) X dX7_listener_24 (by rw [e24_4]; decide) (by rw [e24_4]; decide) (by rw [e24_4]; rfl) (by decide) ?_
      refine wp_aload_n (pc := 102) X dX7_listener_102 rfl rfl ?_
      refine wp_invV (pc := 103) X sv_X7_183 (U_12 _ hj3) (by decide) rfl ⟨by decide, by decide⟩ (As := []) (st := []) rfl rfl (Nat.le_of_ble_eq_true rfl) dX7_listener_103 ?_
      refine CM.mono h (fun r15 M14 h => ?_)
      exact wp_iret (pc := 106) X T dX7_listener_106 h
    by_cases e24_5 : a2 = nI 5
    · replace h := h.2.2.2.2.2.1 e24_5
      refine wp_tabIn (pc := 24) (off := 83) (tgt := 107) X dX7_listener_24 (by rw [e24_5]; decide) (by rw [e24_5]; decide) (by rw [e24_5]; rfl) (by decide) ?_
      refine wp_aload_n (pc := 107) X dX7_listener_107 rfl rfl ?_
      refine wp_get (pc := 108) X fl_X7_187 (U_12 _ hj3) (by decide) (fg_1_7 (U_12 _ hj3)) dX7_listener_108 ?_
      exact wp_iret (pc := 111) X T dX7_listener_111 h
    have hall : ∀ j, j < 6 → ¬ a2 = nI j := by
      intro j hj
      rcases (show j = 0 ∨ j = 1 ∨ j = 2 ∨ j = 3 ∨ j = 4 ∨ j = 5 by omega) with rfl | rfl | rfl | rfl | rfl | rfl
      all_goals assumption
    replace h := h.2.2.2.2.2.2 hall
    refine wp_tabOut (pc := 24) (tgt := 112) X dX7_listener_24 (sw_out hall (by decide) rfl) (by decide) ?_
    refine wp_iconst (pc := 112) (v := (-1)) X dX7_listener_112 (by decide) ?_
    exact wp_iret (pc := 113) X T dX7_listener_113 h
  · replace h := h.2 hc
    refine wp_iconst (pc := 11) (v := (-1)) X dX7_listener_11 (by decide) ?_
    exact wp_iret (pc := 12) X T dX7_listener_12 h
theorem r_X7_holdsN_0 {x : CT} {L : List Nat} {Q : Int32 → Mem → Prop} {M : Mem}  {l f : Nat} {a3 : Int32} (X : BS x L cX7_holds 5 RX7 (m_X7_holds).2.2.2.2) (T : RT x L (some .int) Q) (A_0 : AC L 0 7 0) (A_11 : AC L 11 4 0) (A_7 : AC L 7 3 0) (A_12 : AC L 12 10 4) (U_12 : ∀ j, j < 4 → AC L (12 + 10 + 3 * j) 1 0) (A_12_10_3_l_1 : AC L (12 + 10 + 3 * l + 1) 9 6) (A_12_10_3_l_2 : AC L (12 + 10 + 3 * l + 2) 9 6)
    (h : CM m_X4_hasListener L [.ref 11, .int (nI l)] M (fun r2 M1 => (r2 = 0 → Q (-1) M1) ∧ (¬ r2 = 0 → CM m_X3_hasFile L [.ref 7, .int (nI f)] M1 (fun r4 M3 => (¬ r4 = 0 → l < 4 ∧ (a3 = nI 0 → f < 6 ∧ Q (M3 (12 + 10 + 3 * l + 1) f) M3) ∧ (a3 = nI 1 → f < 6 ∧ Q (M3 (12 + 10 + 3 * l + 2) f) M3) ∧ (a3 = nI 2 → CM m_X1_lacks L [.ref (12 + 10 + 3 * l), .int (nI f)] M3 (fun r13 M12 => Q r13 M12)) ∧ ((∀ j, j < 3 → ¬ a3 = nI j) → Q (-1) M3)) ∧ (r4 = 0 → Q (-1) M3))))) : WP x L 0 [some (.ref 0), some (.int (nI l)), some (.int (nI f)), some (.int a3), none] [] M := by
  refine wp_aload_n (pc := 0) X dX7_holds_0 rfl rfl ?_
  refine wp_get (pc := 1) X fl_X7_39 A_0 (by decide) (fg_7_3 A_0) dX7_holds_1 ?_
  refine wp_iload_n (pc := 4) X dX7_holds_4 rfl rfl ?_
  refine wp_invV (pc := 5) X sv_X7_118 A_11 (by decide) rfl ⟨by decide, by decide⟩ (As := [.int (nI l)]) (st := []) rfl rfl (Nat.le_of_ble_eq_true rfl) dX7_holds_5 ?_
  refine CM.mono h (fun r2 M1 h => ?_)
  refine wp_if_eq (pc := 8) (tgt := 22) X dX7_holds_8 (by decide) (fun hc => ?_) (fun hc => ?_)
  · replace h := h.1 hc
    refine wp_iconst (pc := 22) (v := (-1)) X dX7_holds_22 (by decide) ?_
    exact wp_iret (pc := 23) X T dX7_holds_23 h
  · replace h := h.2 hc
    refine wp_aload_n (pc := 11) X dX7_holds_11 rfl rfl ?_
    refine wp_get (pc := 12) X fl_X7_23 A_0 (by decide) (fg_7_2 A_0) dX7_holds_12 ?_
    refine wp_iload_n (pc := 15) X dX7_holds_15 rfl rfl ?_
    refine wp_invV (pc := 16) X sv_X7_100 A_7 (by decide) rfl ⟨by decide, by decide⟩ (As := [.int (nI f)]) (st := []) rfl rfl (Nat.le_of_ble_eq_true rfl) dX7_holds_16 ?_
    refine CM.mono h (fun r4 M3 h => ?_)
    refine wp_if_ne (pc := 19) (tgt := 24) X dX7_holds_19 (by decide) (fun hc => ?_) (fun hc => ?_)
    · replace h := h.1 hc
      refine wp_aload_n (pc := 24) X dX7_holds_24 rfl rfl ?_
      refine wp_get (pc := 25) X fl_X7_39 A_0 (by decide) (fg_7_3 A_0) dX7_holds_25 ?_
      refine wp_get (pc := 28) X fl_X7_121 A_11 (by decide) (fg_4_1 A_11) dX7_holds_28 ?_
      refine wp_iload_n (pc := 31) X dX7_holds_31 rfl rfl ?_
      obtain ⟨hj5, h⟩ := h
      refine wn_aaldl (pc := 32) X A_12 hj5 dX7_holds_32 ?_
      refine wp_astore (pc := 33) (lo' := [some (.ref 0), some (.int (nI l)), some (.int (nI f)), some (.int a3), some (.ref (12 + 10 + 3 * l))]) X dX7_holds_33 (Nat.le_of_ble_eq_true rfl) rfl rfl ?_
      refine wp_iload_n (pc := 35) X dX7_holds_35 rfl rfl ?_
      by_cases e36_0 : a3 = nI 0
      · replace h := h.1 e36_0
        refine wp_tabIn (pc := 36) (off := 28) (tgt := 64) X dX7_holds_36 (by rw [e36_0]; decide) (by rw [e36_0]; decide) (by rw [e36_0]; rfl) (by decide) ?_
        refine wp_aload (pc := 64) X dX7_holds_64 rfl ?_
        refine wp_get (pc := 66) X fl_X7_190 (U_12 _ hj5) (by decide) (fg_1_2 (U_12 _ hj5)) dX7_holds_66 ?_
        refine wp_iload_n (pc := 69) X dX7_holds_69 rfl rfl ?_
        obtain ⟨hj7, h⟩ := h
        refine wn_iald (pc := 70) X A_12_10_3_l_1 hj7 (by decide) dX7_holds_70 ?_
        exact wp_iret (pc := 71) X T dX7_holds_71 h
      by_cases e36_1 : a3 = nI 1
      · replace h := h.2.1 e36_1
        refine wp_tabIn (pc := 36) (off := 36) (tgt := 72) X dX7_holds_36 (by rw [e36_1]; decide) (by rw [e36_1]; decide) (by rw [e36_1]; rfl) (by decide) ?_
        refine wp_aload (pc := 72) X dX7_holds_72 rfl ?_
        refine wp_get (pc := 74) X fl_X7_193 (U_12 _ hj5) (by decide) (fg_1_3 (U_12 _ hj5)) dX7_holds_74 ?_
        refine wp_iload_n (pc := 77) X dX7_holds_77 rfl rfl ?_
        obtain ⟨hj9, h⟩ := h
        refine wn_iald (pc := 78) X A_12_10_3_l_2 hj9 (by decide) dX7_holds_78 ?_
        exact wp_iret (pc := 79) X T dX7_holds_79 h
      by_cases e36_2 : a3 = nI 2
      · replace h := h.2.2.1 e36_2
        refine wp_tabIn (pc := 36) (off := 44) (tgt := 80) X dX7_holds_36 (by rw [e36_2]; decide) (by rw [e36_2]; decide) (by rw [e36_2]; rfl) (by decide) ?_
        refine wp_aload (pc := 80) X dX7_holds_80 rfl ?_
        refine wp_iload_n (pc := 82) X dX7_holds_82 rfl rfl ?_
        refine wp_invV (pc := 83) X sv_X7_130 (U_12 _ hj5) (by decide) rfl ⟨by decide, by decide⟩ (As := [.int (nI f)]) (st := []) rfl rfl (Nat.le_of_ble_eq_true rfl) dX7_holds_83 ?_
        refine CM.mono h (fun r13 M12 h => ?_)
        exact wp_iret (pc := 86) X T dX7_holds_86 h
      have hall : ∀ j, j < 3 → ¬ a3 = nI j := by
        intro j hj
        rcases (show j = 0 ∨ j = 1 ∨ j = 2 by omega) with rfl | rfl | rfl
        all_goals assumption
      replace h := h.2.2.2 hall
      refine wp_tabOut (pc := 36) (tgt := 87) X dX7_holds_36 (sw_out hall (by decide) rfl) (by decide) ?_
      refine wp_iconst (pc := 87) (v := (-1)) X dX7_holds_87 (by decide) ?_
      exact wp_iret (pc := 88) X T dX7_holds_88 h
    · replace h := h.2 hc
      refine wp_iconst (pc := 22) (v := (-1)) X dX7_holds_22 (by decide) ?_
      exact wp_iret (pc := 23) X T dX7_holds_23 h
theorem r_X7_waits_0 {x : CT} {L : List Nat} {Q : Int32 → Mem → Prop} {M : Mem}  {a1 a2 : Int32} (X : BS x L cX7_waits 3 RX7 (m_X7_waits).2.2.2.2) (T : RT x L (some .int) Q) (A_0 : AC L 0 7 0) (A_7 : AC L 7 3 0) (A_11 : AC L 11 4 0) (A_128 : AC L 128 0 0)
    (h : CM m_X3_hasFile L [.ref 7, .int a1] M (fun r2 M1 => (r2 = 0 → Q (-1) M1) ∧ (¬ r2 = 0 → (a2 < 0 → Q (-1) M1) ∧ (¬ a2 < 0 → (a2 ≤ (nI 99) → CM m_X0_look L [.ref 128, .ref 13, .int a1, .int (a2 + (nI 400))] M1 (fun _ M3 => CM m_X0_waitBehind L [.ref 128, .int a2] M3 (fun r6 M5 => Q r6 M5))) ∧ (¬ a2 ≤ (nI 99) → Q (-1) M1))))) : WP x L 0 [some (.ref 0), some (.int a1), some (.int a2)] [] M := by
  refine wp_aload_n (pc := 0) X dX7_waits_0 rfl rfl ?_
  refine wp_get (pc := 1) X fl_X7_23 A_0 (by decide) (fg_7_2 A_0) dX7_waits_1 ?_
  refine wp_iload_n (pc := 4) X dX7_waits_4 rfl rfl ?_
  refine wp_invV (pc := 5) X sv_X7_100 A_7 (by decide) rfl ⟨by decide, by decide⟩ (As := [.int a1]) (st := []) rfl rfl (Nat.le_of_ble_eq_true rfl) dX7_waits_5 ?_
  refine CM.mono h (fun r2 M1 h => ?_)
  refine wp_if_eq (pc := 8) (tgt := 21) X dX7_waits_8 (by decide) (fun hc => ?_) (fun hc => ?_)
  · replace h := h.1 hc
    refine wp_iconst (pc := 21) (v := (-1)) X dX7_waits_21 (by decide) ?_
    exact wp_iret (pc := 22) X T dX7_waits_22 h
  · replace h := h.2 hc
    refine wp_iload_n (pc := 11) X dX7_waits_11 rfl rfl ?_
    refine wp_if_lt (pc := 12) (tgt := 21) X dX7_waits_12 (by decide) (fun hc => ?_) (fun hc => ?_)
    · replace h := h.1 hc
      refine wp_iconst (pc := 21) (v := (-1)) X dX7_waits_21 (by decide) ?_
      exact wp_iret (pc := 22) X T dX7_waits_22 h
    · replace h := h.2 hc
      refine wp_iload_n (pc := 15) X dX7_waits_15 rfl rfl ?_
      refine wp_bipush (pc := 16) (v := nI 99) X dX7_waits_16 (by decide) ?_
      refine wp_icmp_le (pc := 18) (tgt := 23) X dX7_waits_18 (by decide) (fun hc => ?_) (fun hc => ?_)
      · replace h := h.1 hc
        refine wp_aload_n (pc := 23) X dX7_waits_23 rfl rfl ?_
        refine wp_get (pc := 24) X fl_X7_56 A_0 (by decide) (fg_7_5 A_0) dX7_waits_24 ?_
        refine wp_aload_n (pc := 27) X dX7_waits_27 rfl rfl ?_
        refine wp_get (pc := 28) X fl_X7_39 A_0 (by decide) (fg_7_3 A_0) dX7_waits_28 ?_
        refine wp_get (pc := 31) X fl_X7_81 A_11 (by decide) (fg_4_0 A_11) dX7_waits_31 ?_
        refine wp_iload_n (pc := 34) X dX7_waits_34 rfl rfl ?_
        refine wp_iload_n (pc := 35) X dX7_waits_35 rfl rfl ?_
        refine wp_sipush (pc := 36) (v := nI 400) X dX7_waits_36 (by decide) ?_
        refine wp_iadd (pc := 39) X dX7_waits_39 ?_
        refine wp_invVv (pc := 40) X sv_X7_196 A_128 (by decide) rfl ⟨by decide, by decide⟩ (As := [.ref 13, .int a1, .int (a2 + (nI 400))]) (st := []) rfl rfl (Nat.le_of_ble_eq_true rfl) dX7_waits_40 ?_
        refine CM.mono h (fun _ M3 h => ?_)
        refine wp_aload_n (pc := 43) X dX7_waits_43 rfl rfl ?_
        refine wp_get (pc := 44) X fl_X7_56 A_0 (by decide) (fg_7_5 A_0) dX7_waits_44 ?_
        refine wp_iload_n (pc := 47) X dX7_waits_47 rfl rfl ?_
        refine wp_invV (pc := 48) X sv_X7_200 A_128 (by decide) rfl ⟨by decide, by decide⟩ (As := [.int a2]) (st := []) rfl rfl (Nat.le_of_ble_eq_true rfl) dX7_waits_48 ?_
        refine CM.mono h (fun r6 M5 h => ?_)
        exact wp_iret (pc := 51) X T dX7_waits_51 h
      · replace h := h.2 hc
        refine wp_iconst (pc := 21) (v := (-1)) X dX7_waits_21 (by decide) ?_
        exact wp_iret (pc := 22) X T dX7_waits_22 h
theorem r_X7_mean_0 {x : CT} {L : List Nat} {Q : Int32 → Mem → Prop} {M : Mem}  {a1 a2 a3 : Int32} (X : BS x L cX7_mean 8 RX7 (m_X7_mean).2.2.2.2) (T : RT x L (some .int) Q) (A_0 : AC L 0 7 0) (A_7 : AC L 7 3 0) (A_11 : AC L 11 4 0) (A_128 : AC L 128 0 0)
    (h : CM m_X3_hasFile L [.ref 7, .int a1] M (fun r2 M1 => (r2 = 0 → Q (-1) M1) ∧ (¬ r2 = 0 → (a2 < (nI 1) → Q (-1) M1) ∧ (¬ a2 < (nI 1) → ((nI 40) < a2 → Q (-1) M1) ∧ (¬ (nI 40) < a2 → (a3 < 0 → Q (-1) M1) ∧ (¬ a3 < 0 → (a3 ≤ (nI 2) → CM m_X0_look L [.ref 128, .ref 13, .int a1, .int ((a2 - (nI 1)) + (nI 400))] M1 (fun _ M3 => WP x L 64 [some (.ref 0), some (.int a1), some (.int a2), some (.int a3), some (.int (nI 0)), some (.int (nI 0)), some (.int (nI 0)), none] [] M3)) ∧ (¬ a3 ≤ (nI 2) → Q (-1) M1))))))) : WP x L 0 [some (.ref 0), some (.int a1), some (.int a2), some (.int a3), none, none, none, none] [] M := by
  refine wp_aload_n (pc := 0) X dX7_mean_0 rfl rfl ?_
  refine wp_get (pc := 1) X fl_X7_23 A_0 (by decide) (fg_7_2 A_0) dX7_mean_1 ?_
  refine wp_iload_n (pc := 4) X dX7_mean_4 rfl rfl ?_
  refine wp_invV (pc := 5) X sv_X7_100 A_7 (by decide) rfl ⟨by decide, by decide⟩ (As := [.int a1]) (st := []) rfl rfl (Nat.le_of_ble_eq_true rfl) dX7_mean_5 ?_
  refine CM.mono h (fun r2 M1 h => ?_)
  refine wp_if_eq (pc := 8) (tgt := 31) X dX7_mean_8 (by decide) (fun hc => ?_) (fun hc => ?_)
  · replace h := h.1 hc
    refine wp_iconst (pc := 31) (v := (-1)) X dX7_mean_31 (by decide) ?_
    exact wp_iret (pc := 32) X T dX7_mean_32 h
  · replace h := h.2 hc
    refine wp_iload_n (pc := 11) X dX7_mean_11 rfl rfl ?_
    refine wp_iconst (pc := 12) (v := nI 1) X dX7_mean_12 (by decide) ?_
    refine wp_icmp_lt (pc := 13) (tgt := 31) X dX7_mean_13 (by decide) (fun hc => ?_) (fun hc => ?_)
    · replace h := h.1 hc
      refine wp_iconst (pc := 31) (v := (-1)) X dX7_mean_31 (by decide) ?_
      exact wp_iret (pc := 32) X T dX7_mean_32 h
    · replace h := h.2 hc
      refine wp_iload_n (pc := 16) X dX7_mean_16 rfl rfl ?_
      refine wp_bipush (pc := 17) (v := nI 40) X dX7_mean_17 (by decide) ?_
      refine wp_icmp_gt (pc := 19) (tgt := 31) X dX7_mean_19 (by decide) (fun hc => ?_) (fun hc => ?_)
      · replace h := h.1 hc
        refine wp_iconst (pc := 31) (v := (-1)) X dX7_mean_31 (by decide) ?_
        exact wp_iret (pc := 32) X T dX7_mean_32 h
      · replace h := h.2 hc
        refine wp_iload_n (pc := 22) X dX7_mean_22 rfl rfl ?_
        refine wp_if_lt (pc := 23) (tgt := 31) X dX7_mean_23 (by decide) (fun hc => ?_) (fun hc => ?_)
        · replace h := h.1 hc
          refine wp_iconst (pc := 31) (v := (-1)) X dX7_mean_31 (by decide) ?_
          exact wp_iret (pc := 32) X T dX7_mean_32 h
        · replace h := h.2 hc
          refine wp_iload_n (pc := 26) X dX7_mean_26 rfl rfl ?_
          refine wp_iconst (pc := 27) (v := nI 2) X dX7_mean_27 (by decide) ?_
          refine wp_icmp_le (pc := 28) (tgt := 33) X dX7_mean_28 (by decide) (fun hc => ?_) (fun hc => ?_)
          · replace h := h.1 hc
            refine wp_aload_n (pc := 33) X dX7_mean_33 rfl rfl ?_
            refine wp_get (pc := 34) X fl_X7_56 A_0 (by decide) (fg_7_5 A_0) dX7_mean_34 ?_
            refine wp_aload_n (pc := 37) X dX7_mean_37 rfl rfl ?_
            refine wp_get (pc := 38) X fl_X7_39 A_0 (by decide) (fg_7_3 A_0) dX7_mean_38 ?_
            refine wp_get (pc := 41) X fl_X7_81 A_11 (by decide) (fg_4_0 A_11) dX7_mean_41 ?_
            refine wp_iload_n (pc := 44) X dX7_mean_44 rfl rfl ?_
            refine wp_iload_n (pc := 45) X dX7_mean_45 rfl rfl ?_
            refine wp_iconst (pc := 46) (v := nI 1) X dX7_mean_46 (by decide) ?_
            refine wp_isub (pc := 47) X dX7_mean_47 ?_
            refine wp_sipush (pc := 48) (v := nI 400) X dX7_mean_48 (by decide) ?_
            refine wp_iadd (pc := 51) X dX7_mean_51 ?_
            refine wp_invVv (pc := 52) X sv_X7_196 A_128 (by decide) rfl ⟨by decide, by decide⟩ (As := [.ref 13, .int a1, .int ((a2 - (nI 1)) + (nI 400))]) (st := []) rfl rfl (Nat.le_of_ble_eq_true rfl) dX7_mean_52 ?_
            refine CM.mono h (fun _ M3 h => ?_)
            refine wp_iconst (pc := 55) (v := nI 0) X dX7_mean_55 (by decide) ?_
            refine wp_istore (pc := 56) (lo' := [some (.ref 0), some (.int a1), some (.int a2), some (.int a3), some (.int (nI 0)), none, none, none]) X dX7_mean_56 (Nat.le_of_ble_eq_true rfl) rfl rfl ?_
            refine wp_iconst (pc := 58) (v := nI 0) X dX7_mean_58 (by decide) ?_
            refine wp_istore (pc := 59) (lo' := [some (.ref 0), some (.int a1), some (.int a2), some (.int a3), some (.int (nI 0)), some (.int (nI 0)), none, none]) X dX7_mean_59 (Nat.le_of_ble_eq_true rfl) rfl rfl ?_
            refine wp_iconst (pc := 61) (v := nI 0) X dX7_mean_61 (by decide) ?_
            refine wp_istore (pc := 62) (lo' := [some (.ref 0), some (.int a1), some (.int a2), some (.int a3), some (.int (nI 0)), some (.int (nI 0)), some (.int (nI 0)), none]) X dX7_mean_62 (Nat.le_of_ble_eq_true rfl) rfl rfl ?_
            exact h
          · replace h := h.2 hc
            refine wp_iconst (pc := 31) (v := (-1)) X dX7_mean_31 (by decide) ?_
            exact wp_iret (pc := 32) X T dX7_mean_32 h
theorem r_X7_mean_64 {x : CT} {L : List Nat} {Q : Int32 → Mem → Prop} {M : Mem}  {f n k : Nat} {a3 a4 a5 : Int32} (X : BS x L cX7_mean 8 RX7 (m_X7_mean).2.2.2.2) (T : RT x L (some .int) Q) (A_0 : AC L 0 7 0) (A_128 : AC L 128 0 0)
    (h : k < 2 ^ 31 ∧ n < 2 ^ 31 ∧ (n ≤ k → vf_n32 (FP.fdiv (FP.i2f a4) (FP.i2f (nI n))) ∧ (a3 = nI 0 → CM m_X7_bitsOf L [.float (FP.fdiv (FP.i2f a4) (FP.i2f (nI n)))] M (fun r3 M2 => Q r3 M2)) ∧ (a3 = nI 1 → Q (FP.f2i (FP.fdiv (FP.i2f a4) (FP.i2f (nI n)))) M) ∧ (¬ a3 = nI 0 → ¬ a3 = nI 1 → Q a5 M)) ∧ (k < n → CM m_X0_waitBehind L [.ref 128, .int (nI k)] M (fun r5 M4 => (¬ r5 = (-4) → WP x L 64 [some (.ref 0), some (.int (nI f)), some (.int (nI n)), some (.int a3), some (.int (a4 + r5)), some (.int (if a5 < r5 then r5 else a5)), some (.int (nI (k + 1))), none] [] M4) ∧ (r5 = (-4) → Q (-4) M4)))) : WP x L 64 [some (.ref 0), some (.int (nI f)), some (.int (nI n)), some (.int a3), some (.int a4), some (.int a5), some (.int (nI k)), none] [] M := by
  refine wp_iload (pc := 64) X dX7_mean_64 rfl ?_
  refine wp_iload_n (pc := 66) X dX7_mean_66 rfl rfl ?_
  obtain ⟨hb6, hb7, h⟩ := h
  refine wn_icmp_ge (pc := 67) (tgt := 113) X dX7_mean_67 (by decide) hb6 hb7 (fun hc => ?_) (fun hc => ?_)
  · replace h := h.1 hc
    refine wp_iload (pc := 113) X dX7_mean_113 rfl ?_
    refine wp_i2f (pc := 115) X dX7_mean_115 ?_
    refine wp_iload_n (pc := 116) X dX7_mean_116 rfl rfl ?_
    refine wp_i2f (pc := 117) X dX7_mean_117 ?_
    obtain ⟨hf1, h⟩ := h
    refine wp_fdiv (pc := 118) X dX7_mean_118 hf1 ?_
    refine wp_fstore (pc := 119) (lo' := [some (.ref 0), some (.int (nI f)), some (.int (nI n)), some (.int a3), some (.int a4), some (.int a5), some (.float (FP.fdiv (FP.i2f a4) (FP.i2f (nI n)))), none]) X dX7_mean_119 (Nat.le_of_ble_eq_true rfl) rfl rfl ?_
    refine wp_iload_n (pc := 121) X dX7_mean_121 rfl rfl ?_
    by_cases e122_0 : a3 = nI 0
    · replace h := h.1 e122_0
      refine wp_look (pc := 122) (off := 26) (tgt := 148) X dX7_mean_122 (by decide) (by rw [e122_0]; decide +kernel) (by decide) ?_
      refine wp_fload (pc := 148) X dX7_mean_148 rfl ?_
      refine wp_invS (pc := 150) X sv_X7_208  rfl ⟨by decide, by decide⟩ (As := [.float (FP.fdiv (FP.i2f a4) (FP.i2f (nI n)))]) (st := []) rfl rfl (Nat.le_of_ble_eq_true rfl) dX7_mean_150 ?_
      refine CM.mono h (fun r3 M2 h => ?_)
      exact wp_iret (pc := 153) X T dX7_mean_153 h
    by_cases e122_1 : a3 = nI 1
    · replace h := h.2.1 e122_1
      refine wp_look (pc := 122) (off := 32) (tgt := 154) X dX7_mean_122 (by decide) (by rw [e122_1]; decide +kernel) (by decide) ?_
      refine wp_fload (pc := 154) X dX7_mean_154 rfl ?_
      refine wp_f2i (pc := 156) X dX7_mean_156 ?_
      exact wp_iret (pc := 157) X T dX7_mean_157 h
    replace h := h.2.2 e122_0 e122_1
    refine wp_look (pc := 122) (off := 36) (tgt := 158) X dX7_mean_122 (by decide) (by rw [lv_osw e122_0 (by decide)]; rw [lv_osw e122_1 (by decide)]; rfl) (by decide) ?_
    refine wp_iload (pc := 158) X dX7_mean_158 rfl ?_
    exact wp_iret (pc := 160) X T dX7_mean_160 h
  · replace h := h.2 hc
    refine wp_aload_n (pc := 70) X dX7_mean_70 rfl rfl ?_
    refine wp_get (pc := 71) X fl_X7_56 A_0 (by decide) (fg_7_5 A_0) dX7_mean_71 ?_
    refine wp_iload (pc := 74) X dX7_mean_74 rfl ?_
    refine wp_invV (pc := 76) X sv_X7_200 A_128 (by decide) rfl ⟨by decide, by decide⟩ (As := [.int (nI k)]) (st := []) rfl rfl (Nat.le_of_ble_eq_true rfl) dX7_mean_76 ?_
    refine CM.mono h (fun r5 M4 h => ?_)
    refine wp_istore (pc := 79) (lo' := [some (.ref 0), some (.int (nI f)), some (.int (nI n)), some (.int a3), some (.int a4), some (.int a5), some (.int (nI k)), some (.int r5)]) X dX7_mean_79 (Nat.le_of_ble_eq_true rfl) rfl rfl ?_
    refine wp_iload (pc := 81) X dX7_mean_81 rfl ?_
    refine wp_bipush (pc := 83) (v := (-4)) X dX7_mean_83 (by decide) ?_
    refine wp_icmp_ne (pc := 85) (tgt := 91) X dX7_mean_85 (by decide) (fun hc => ?_) (fun hc => ?_)
    · replace h := h.1 hc
      refine wp_iload (pc := 91) X dX7_mean_91 rfl ?_
      refine wp_iload (pc := 93) X dX7_mean_93 rfl ?_
      refine wp_iadd (pc := 95) X dX7_mean_95 ?_
      refine wp_istore (pc := 96) (lo' := [some (.ref 0), some (.int (nI f)), some (.int (nI n)), some (.int a3), some (.int (a4 + r5)), some (.int a5), some (.int (nI k)), some (.int r5)]) X dX7_mean_96 (Nat.le_of_ble_eq_true rfl) rfl rfl ?_
      refine wp_iload (pc := 98) X dX7_mean_98 rfl ?_
      refine wp_iload (pc := 100) X dX7_mean_100 rfl ?_
      refine wp_max (pc := 102) X k_594 k_521 k_47 k_522 (by decide) (Nat.le_of_ble_eq_true rfl) dX7_mean_102 ?_
      refine wp_istore (pc := 105) (lo' := [some (.ref 0), some (.int (nI f)), some (.int (nI n)), some (.int a3), some (.int (a4 + r5)), some (.int (if a5 < r5 then r5 else a5)), some (.int (nI k)), some (.int r5)]) X dX7_mean_105 (Nat.le_of_ble_eq_true rfl) rfl rfl ?_
      refine wn_iinc (pc := 107) (d := 1) (lo' := [some (.ref 0), some (.int (nI f)), some (.int (nI n)), some (.int a3), some (.int (a4 + r5)), some (.int (if a5 < r5 then r5 else a5)), some (.int (nI (k + 1))), some (.int r5)]) X dX7_mean_107 rfl (by decide) rfl rfl ?_
      refine wp_goto (pc := 110) (tgt := 64) X dX7_mean_110 (by decide) ?_
      exact wp_drop (show subL _ [some (.ref 0), some (.int (nI f)), some (.int (nI n)), some (.int a3), some (.int (a4 + r5)), some (.int (if a5 < r5 then r5 else a5)), some (.int (nI (k + 1))), none] from ⟨rfl, ⟨rfl, ⟨rfl, ⟨rfl, ⟨rfl, ⟨rfl, ⟨rfl, trivial⟩⟩⟩⟩⟩⟩⟩) h
    · replace h := h.2 hc
      refine wp_bipush (pc := 88) (v := (-4)) X dX7_mean_88 (by decide) ?_
      exact wp_iret (pc := 90) X T dX7_mean_90 h
theorem r_X7_count_0 {x : CT} {L : List Nat} {Q : Int32 → Mem → Prop} {M : Mem}  {a1 : Int32} (X : BS x L cX7_count 2 RX7 (m_X7_count).2.2.2.2) (T : RT x L (some .int) Q) (A_0 : AC L 0 7 0) (A_7 : AC L 7 3 0) (A_11 : AC L 11 4 0) (A_13 : AC L 13 6 0) (A_34 : AC L 34 2 0) (A_1 : AC L 1 5 0)
    (h : (a1 = nI 0 → Q (M 7 3) M) ∧ (a1 = nI 1 → Q (M 13 9) M) ∧ (a1 = nI 2 → Q (M 7 4) M) ∧ (a1 = nI 3 → Q (M 7 5) M) ∧ (a1 = nI 4 → Q (M 11 2) M) ∧ (a1 = nI 5 → Q (M 13 10) M) ∧ (a1 = nI 6 → Q (M 13 11) M) ∧ (a1 = nI 7 → CM m_X6_allWeights L [.ref 13] M (fun r4 M3 => Q r4 M3)) ∧ (a1 = nI 8 → Q (M 34 2) M) ∧ (a1 = nI 9 → Q (M 1 1) M) ∧ ((∀ j, j < 10 → ¬ a1 = nI j) → Q (-1) M)) : WP x L 0 [some (.ref 0), some (.int a1)] [] M := by
  refine wp_iload_n (pc := 0) X dX7_count_0 rfl rfl ?_
  by_cases e1_0 : a1 = nI 0
  · replace h := h.1 e1_0
    refine wp_tabIn (pc := 1) (off := 55) (tgt := 56) X dX7_count_1 (by rw [e1_0]; decide) (by rw [e1_0]; decide) (by rw [e1_0]; rfl) (by decide) ?_
    refine wp_aload_n (pc := 56) X dX7_count_56 rfl rfl ?_
    refine wp_get (pc := 57) X fl_X7_23 A_0 (by decide) (fg_7_2 A_0) dX7_count_57 ?_
    refine wp_get (pc := 60) X fl_X7_72 A_7 (by decide) (fg_3_3 A_7) dX7_count_60 ?_
    exact wp_iret (pc := 63) X T dX7_count_63 h
  by_cases e1_1 : a1 = nI 1
  · replace h := h.2.1 e1_1
    refine wp_tabIn (pc := 1) (off := 63) (tgt := 64) X dX7_count_1 (by rw [e1_1]; decide) (by rw [e1_1]; decide) (by rw [e1_1]; rfl) (by decide) ?_
    refine wp_aload_n (pc := 64) X dX7_count_64 rfl rfl ?_
    refine wp_get (pc := 65) X fl_X7_39 A_0 (by decide) (fg_7_3 A_0) dX7_count_65 ?_
    refine wp_get (pc := 68) X fl_X7_81 A_11 (by decide) (fg_4_0 A_11) dX7_count_68 ?_
    refine wp_get (pc := 71) X fl_X7_85 A_13 (by decide) (fg_6_9 A_13) dX7_count_71 ?_
    exact wp_iret (pc := 74) X T dX7_count_74 h
  by_cases e1_2 : a1 = nI 2
  · replace h := h.2.2.1 e1_2
    refine wp_tabIn (pc := 1) (off := 74) (tgt := 75) X dX7_count_1 (by rw [e1_2]; decide) (by rw [e1_2]; decide) (by rw [e1_2]; rfl) (by decide) ?_
    refine wp_aload_n (pc := 75) X dX7_count_75 rfl rfl ?_
    refine wp_get (pc := 76) X fl_X7_23 A_0 (by decide) (fg_7_2 A_0) dX7_count_76 ?_
    refine wp_get (pc := 79) X fl_X7_212 A_7 (by decide) (fg_3_4 A_7) dX7_count_79 ?_
    exact wp_iret (pc := 82) X T dX7_count_82 h
  by_cases e1_3 : a1 = nI 3
  · replace h := h.2.2.2.1 e1_3
    refine wp_tabIn (pc := 1) (off := 82) (tgt := 83) X dX7_count_1 (by rw [e1_3]; decide) (by rw [e1_3]; decide) (by rw [e1_3]; rfl) (by decide) ?_
    refine wp_aload_n (pc := 83) X dX7_count_83 rfl rfl ?_
    refine wp_get (pc := 84) X fl_X7_23 A_0 (by decide) (fg_7_2 A_0) dX7_count_84 ?_
    refine wp_get (pc := 87) X fl_X7_215 A_7 (by decide) (fg_3_5 A_7) dX7_count_87 ?_
    exact wp_iret (pc := 90) X T dX7_count_90 h
  by_cases e1_4 : a1 = nI 4
  · replace h := h.2.2.2.2.1 e1_4
    refine wp_tabIn (pc := 1) (off := 90) (tgt := 91) X dX7_count_1 (by rw [e1_4]; decide) (by rw [e1_4]; decide) (by rw [e1_4]; rfl) (by decide) ?_
    refine wp_aload_n (pc := 91) X dX7_count_91 rfl rfl ?_
    refine wp_get (pc := 92) X fl_X7_39 A_0 (by decide) (fg_7_3 A_0) dX7_count_92 ?_
    refine wp_get (pc := 95) X fl_X7_218 A_11 (by decide) (fg_4_2 A_11) dX7_count_95 ?_
    exact wp_iret (pc := 98) X T dX7_count_98 h
  by_cases e1_5 : a1 = nI 5
  · replace h := h.2.2.2.2.2.1 e1_5
    refine wp_tabIn (pc := 1) (off := 98) (tgt := 99) X dX7_count_1 (by rw [e1_5]; decide) (by rw [e1_5]; decide) (by rw [e1_5]; rfl) (by decide) ?_
    refine wp_aload_n (pc := 99) X dX7_count_99 rfl rfl ?_
    refine wp_get (pc := 100) X fl_X7_39 A_0 (by decide) (fg_7_3 A_0) dX7_count_100 ?_
    refine wp_get (pc := 103) X fl_X7_81 A_11 (by decide) (fg_4_0 A_11) dX7_count_103 ?_
    refine wp_get (pc := 106) X fl_X7_221 A_13 (by decide) (fg_6_10 A_13) dX7_count_106 ?_
    exact wp_iret (pc := 109) X T dX7_count_109 h
  by_cases e1_6 : a1 = nI 6
  · replace h := h.2.2.2.2.2.2.1 e1_6
    refine wp_tabIn (pc := 1) (off := 109) (tgt := 110) X dX7_count_1 (by rw [e1_6]; decide) (by rw [e1_6]; decide) (by rw [e1_6]; rfl) (by decide) ?_
    refine wp_aload_n (pc := 110) X dX7_count_110 rfl rfl ?_
    refine wp_get (pc := 111) X fl_X7_39 A_0 (by decide) (fg_7_3 A_0) dX7_count_111 ?_
    refine wp_get (pc := 114) X fl_X7_81 A_11 (by decide) (fg_4_0 A_11) dX7_count_114 ?_
    refine wp_get (pc := 117) X fl_X7_94 A_13 (by decide) (fg_6_11 A_13) dX7_count_117 ?_
    exact wp_iret (pc := 120) X T dX7_count_120 h
  by_cases e1_7 : a1 = nI 7
  · replace h := h.2.2.2.2.2.2.2.1 e1_7
    refine wp_tabIn (pc := 1) (off := 120) (tgt := 121) X dX7_count_1 (by rw [e1_7]; decide) (by rw [e1_7]; decide) (by rw [e1_7]; rfl) (by decide) ?_
    refine wp_aload_n (pc := 121) X dX7_count_121 rfl rfl ?_
    refine wp_get (pc := 122) X fl_X7_39 A_0 (by decide) (fg_7_3 A_0) dX7_count_122 ?_
    refine wp_get (pc := 125) X fl_X7_81 A_11 (by decide) (fg_4_0 A_11) dX7_count_125 ?_
    refine wp_invV (pc := 128) X sv_X7_224 A_13 (by decide) rfl ⟨by decide, by decide⟩ (As := []) (st := []) rfl rfl (Nat.le_of_ble_eq_true rfl) dX7_count_128 ?_
    refine CM.mono h (fun r4 M3 h => ?_)
    exact wp_iret (pc := 131) X T dX7_count_131 h
  by_cases e1_8 : a1 = nI 8
  · replace h := h.2.2.2.2.2.2.2.2.1 e1_8
    refine wp_tabIn (pc := 1) (off := 131) (tgt := 132) X dX7_count_1 (by rw [e1_8]; decide) (by rw [e1_8]; decide) (by rw [e1_8]; rfl) (by decide) ?_
    refine wp_aload_n (pc := 132) X dX7_count_132 rfl rfl ?_
    refine wp_get (pc := 133) X fl_X7_49 A_0 (by decide) (fg_7_4 A_0) dX7_count_133 ?_
    refine wp_get (pc := 136) X fl_X7_140 A_34 (by decide) (fg_2_2 A_34) dX7_count_136 ?_
    exact wp_iret (pc := 139) X T dX7_count_139 h
  by_cases e1_9 : a1 = nI 9
  · replace h := h.2.2.2.2.2.2.2.2.2.1 e1_9
    refine wp_tabIn (pc := 1) (off := 139) (tgt := 140) X dX7_count_1 (by rw [e1_9]; decide) (by rw [e1_9]; decide) (by rw [e1_9]; rfl) (by decide) ?_
    refine wp_aload_n (pc := 140) X dX7_count_140 rfl rfl ?_
    refine wp_get (pc := 141) X fl_X7_12 A_0 (by decide) (fg_7_0 A_0) dX7_count_141 ?_
    refine wp_get (pc := 144) X fl_X7_64 A_1 (by decide) (fg_5_1 A_1) dX7_count_144 ?_
    exact wp_iret (pc := 147) X T dX7_count_147 h
  have hall : ∀ j, j < 10 → ¬ a1 = nI j := by
    intro j hj
    rcases (show j = 0 ∨ j = 1 ∨ j = 2 ∨ j = 3 ∨ j = 4 ∨ j = 5 ∨ j = 6 ∨ j = 7 ∨ j = 8 ∨ j = 9 by omega) with rfl | rfl | rfl | rfl | rfl | rfl | rfl | rfl | rfl | rfl
    all_goals assumption
  replace h := h.2.2.2.2.2.2.2.2.2.2 hall
  refine wp_tabOut (pc := 1) (tgt := 148) X dX7_count_1 (sw_out hall (by decide) rfl) (by decide) ?_
  refine wp_iconst (pc := 148) (v := (-1)) X dX7_count_148 (by decide) ?_
  exact wp_iret (pc := 149) X T dX7_count_149 h
theorem r_X7_partBits_0 {x : CT} {L : List Nat} {Q : Int32 → Mem → Prop} {M : Mem}  {a0 a1 : Int32} (X : BS x L cX7_partBits 2 RX7 (m_X7_partBits).2.2.2.2) (T : RT x L (some .int) Q) 
    (h : ((nI 1) ≤ a1 → vf_n32 (FP.fdiv (FP.i2f a0) (FP.i2f a1)) ∧ CM m_X7_bitsOf L [.float (FP.fdiv (FP.i2f a0) (FP.i2f a1))] M (fun r3 M2 => Q r3 M2)) ∧ (¬ (nI 1) ≤ a1 → Q (-4) M)) : WP x L 0 [some (.int a0), some (.int a1)] [] M := by
  refine wp_iload_n (pc := 0) X dX7_partBits_0 rfl rfl ?_
  refine wp_iconst (pc := 1) (v := nI 1) X dX7_partBits_1 (by decide) ?_
  refine wp_icmp_ge (pc := 2) (tgt := 8) X dX7_partBits_2 (by decide) (fun hc => ?_) (fun hc => ?_)
  · replace h := h.1 hc
    refine wp_iload_n (pc := 8) X dX7_partBits_8 rfl rfl ?_
    refine wp_i2f (pc := 9) X dX7_partBits_9 ?_
    refine wp_iload_n (pc := 10) X dX7_partBits_10 rfl rfl ?_
    refine wp_i2f (pc := 11) X dX7_partBits_11 ?_
    obtain ⟨hf1, h⟩ := h
    refine wp_fdiv (pc := 12) X dX7_partBits_12 hf1 ?_
    refine wp_invS (pc := 13) X sv_X7_208  rfl ⟨by decide, by decide⟩ (As := [.float (FP.fdiv (FP.i2f a0) (FP.i2f a1))]) (st := []) rfl rfl (Nat.le_of_ble_eq_true rfl) dX7_partBits_13 ?_
    refine CM.mono h (fun r3 M2 h => ?_)
    exact wp_iret (pc := 16) X T dX7_partBits_16 h
  · replace h := h.2 hc
    refine wp_bipush (pc := 5) (v := (-4)) X dX7_partBits_5 (by decide) ?_
    exact wp_iret (pc := 7) X T dX7_partBits_7 h
theorem r_X7_bitsOf_0 {x : CT} {L : List Nat} {Q : Int32 → Mem → Prop} {M : Mem}  {a : UInt32} (X : BS x L cX7_bitsOf 4 RX7 (m_X7_bitsOf).2.2.2.2) (T : RT x L (some .int) Q) 
    (h : (0 < (Op.cmpValue (FP.fcmp a FP.fconst0) CmpOp.l) → WP x L 15 [none, some (.float a), some (.int (nI 127)), some (.int (nI 0))] [] M) ∧ (¬ 0 < (Op.cmpValue (FP.fcmp a FP.fconst0) CmpOp.l) → Q (nI 0) M)) : WP x L 0 [some (.float a), none, none, none] [] M := by
  refine wp_fload_n (pc := 0) X dX7_bitsOf_0 rfl rfl ?_
  refine wp_fconst0 (pc := 1) X dX7_bitsOf_1 ?_
  refine wp_fcmp (pc := 2) X dX7_bitsOf_2 ?_
  refine wp_if_gt (pc := 3) (tgt := 8) X dX7_bitsOf_3 (by decide) (fun hc => ?_) (fun hc => ?_)
  · replace h := h.1 hc
    refine wp_fload_n (pc := 8) X dX7_bitsOf_8 rfl rfl ?_
    refine wp_fstore_n (pc := 9) (lo' := [some (.float a), some (.float a), none, none]) X dX7_bitsOf_9 rfl (Nat.le_of_ble_eq_true rfl) rfl rfl ?_
    refine wp_bipush (pc := 10) (v := nI 127) X dX7_bitsOf_10 (by decide) ?_
    refine wp_istore_n (pc := 12) (lo' := [some (.float a), some (.float a), some (.int (nI 127)), none]) X dX7_bitsOf_12 rfl (Nat.le_of_ble_eq_true rfl) rfl rfl ?_
    refine wp_iconst (pc := 13) (v := nI 0) X dX7_bitsOf_13 (by decide) ?_
    refine wp_istore_n (pc := 14) (lo' := [some (.float a), some (.float a), some (.int (nI 127)), some (.int (nI 0))]) X dX7_bitsOf_14 rfl (Nat.le_of_ble_eq_true rfl) rfl rfl ?_
    exact wp_drop (show subL _ [none, some (.float a), some (.int (nI 127)), some (.int (nI 0))] from ⟨rfl, ⟨rfl, ⟨rfl, trivial⟩⟩⟩) h
  · replace h := h.2 hc
    refine wp_iconst (pc := 6) (v := nI 0) X dX7_bitsOf_6 (by decide) ?_
    exact wp_iret (pc := 7) X T dX7_bitsOf_7 h
theorem r_X7_bitsOf_15 {x : CT} {L : List Nat} {Q : Int32 → Mem → Prop} {M : Mem}  {b : UInt32} {e k : Nat} (X : BS x L cX7_bitsOf 4 RX7 (m_X7_bitsOf).2.2.2.2) (T : RT x L (some .int) Q) 
    (h : k < 2 ^ 31 ∧ (128 ≤ k → WP x L 43 [none, some (.float b), some (.int (nI e)), some (.int (nI 0))] [] M) ∧ (k < 128 → ((Op.cmpValue (FP.fcmp b FP.fconst2) CmpOp.l) < 0 → WP x L 43 [none, some (.float b), some (.int (nI e)), some (.int (nI 0))] [] M) ∧ (¬ (Op.cmpValue (FP.fcmp b FP.fconst2) CmpOp.l) < 0 → vf_n32 (FP.fdiv b FP.fconst2) ∧ WP x L 15 [none, some (.float (FP.fdiv b FP.fconst2)), some (.int (nI (e + 1))), some (.int (nI (k + 1)))] [] M))) : WP x L 15 [none, some (.float b), some (.int (nI e)), some (.int (nI k))] [] M := by
  refine wp_iload_n (pc := 15) X dX7_bitsOf_15 rfl rfl ?_
  refine wp_sipush (pc := 16) (v := nI 128) X dX7_bitsOf_16 (by decide) ?_
  obtain ⟨hb2, h⟩ := h
  refine wn_icmp_ge (pc := 19) (tgt := 41) X dX7_bitsOf_19 (by decide) hb2 (by decide) (fun hc => ?_) (fun hc => ?_)
  · replace h := h.1 hc
    refine wp_iconst (pc := 41) (v := nI 0) X dX7_bitsOf_41 (by decide) ?_
    refine wp_istore_n (pc := 42) (lo' := [none, some (.float b), some (.int (nI e)), some (.int (nI 0))]) X dX7_bitsOf_42 rfl (Nat.le_of_ble_eq_true rfl) rfl rfl ?_
    exact h
  · replace h := h.2 hc
    refine wp_fload_n (pc := 22) X dX7_bitsOf_22 rfl rfl ?_
    refine wp_fconst2 (pc := 23) X dX7_bitsOf_23 ?_
    refine wp_fcmp (pc := 24) X dX7_bitsOf_24 ?_
    refine wp_if_lt (pc := 25) (tgt := 41) X dX7_bitsOf_25 (by decide) (fun hc => ?_) (fun hc => ?_)
    · replace h := h.1 hc
      refine wp_iconst (pc := 41) (v := nI 0) X dX7_bitsOf_41 (by decide) ?_
      refine wp_istore_n (pc := 42) (lo' := [none, some (.float b), some (.int (nI e)), some (.int (nI 0))]) X dX7_bitsOf_42 rfl (Nat.le_of_ble_eq_true rfl) rfl rfl ?_
      exact h
    · replace h := h.2 hc
      refine wp_fload_n (pc := 28) X dX7_bitsOf_28 rfl rfl ?_
      refine wp_fconst2 (pc := 29) X dX7_bitsOf_29 ?_
      obtain ⟨hf1, h⟩ := h
      refine wp_fdiv (pc := 30) X dX7_bitsOf_30 hf1 ?_
      refine wp_fstore_n (pc := 31) (lo' := [none, some (.float (FP.fdiv b FP.fconst2)), some (.int (nI e)), some (.int (nI k))]) X dX7_bitsOf_31 rfl (Nat.le_of_ble_eq_true rfl) rfl rfl ?_
      refine wn_iinc (pc := 32) (d := 1) (lo' := [none, some (.float (FP.fdiv b FP.fconst2)), some (.int (nI (e + 1))), some (.int (nI k))]) X dX7_bitsOf_32 rfl (by decide) rfl rfl ?_
      refine wn_iinc (pc := 35) (d := 1) (lo' := [none, some (.float (FP.fdiv b FP.fconst2)), some (.int (nI (e + 1))), some (.int (nI (k + 1)))]) X dX7_bitsOf_35 rfl (by decide) rfl rfl ?_
      refine wp_goto (pc := 38) (tgt := 15) X dX7_bitsOf_38 (by decide) ?_
      exact h
theorem r_X7_bitsOf_43 {x : CT} {L : List Nat} {Q : Int32 → Mem → Prop} {M : Mem}  {b : UInt32} {e : Int32} {k : Nat} (X : BS x L cX7_bitsOf 4 RX7 (m_X7_bitsOf).2.2.2.2) (T : RT x L (some .int) Q) 
    (h : k < 2 ^ 31 ∧ (128 ≤ k → vf_n32 (FP.fsub b FP.fconst1) ∧ vf_n32 (FP.fmul (FP.fsub b FP.fconst1) (1258291200 : UInt32)) ∧ Q ((e <<< ((nI 23) &&& 31)) + (FP.f2i (FP.fmul (FP.fsub b FP.fconst1) (1258291200 : UInt32)))) M) ∧ (k < 128 → (0 ≤ (Op.cmpValue (FP.fcmp b FP.fconst1) CmpOp.g) → vf_n32 (FP.fsub b FP.fconst1) ∧ vf_n32 (FP.fmul (FP.fsub b FP.fconst1) (1258291200 : UInt32)) ∧ Q ((e <<< ((nI 23) &&& 31)) + (FP.f2i (FP.fmul (FP.fsub b FP.fconst1) (1258291200 : UInt32)))) M) ∧ (¬ 0 ≤ (Op.cmpValue (FP.fcmp b FP.fconst1) CmpOp.g) → vf_n32 (FP.fmul b FP.fconst2) ∧ WP x L 43 [none, some (.float (FP.fmul b FP.fconst2)), some (.int (e + (Int32.ofInt (-1)))), some (.int (nI (k + 1)))] [] M))) : WP x L 43 [none, some (.float b), some (.int e), some (.int (nI k))] [] M := by
  refine wp_iload_n (pc := 43) X dX7_bitsOf_43 rfl rfl ?_
  refine wp_sipush (pc := 44) (v := nI 128) X dX7_bitsOf_44 (by decide) ?_
  obtain ⟨hb6, h⟩ := h
  refine wn_icmp_ge (pc := 47) (tgt := 69) X dX7_bitsOf_47 (by decide) hb6 (by decide) (fun hc => ?_) (fun hc => ?_)
  · replace h := h.1 hc
    refine wp_iload_n (pc := 69) X dX7_bitsOf_69 rfl rfl ?_
    refine wp_bipush (pc := 70) (v := nI 23) X dX7_bitsOf_70 (by decide) ?_
    refine wp_ishl (pc := 72) X dX7_bitsOf_72 ?_
    refine wp_fload_n (pc := 73) X dX7_bitsOf_73 rfl rfl ?_
    refine wp_fconst1 (pc := 74) X dX7_bitsOf_74 ?_
    obtain ⟨hf1, h⟩ := h
    refine wp_fsub (pc := 75) X dX7_bitsOf_75 hf1 ?_
    refine wp_ldcf (pc := 76) (v := 1258291200) X dX7_bitsOf_76 k_547 ?_
    obtain ⟨hf2, h⟩ := h
    refine wp_fmul (pc := 78) X dX7_bitsOf_78 hf2 ?_
    refine wp_f2i (pc := 79) X dX7_bitsOf_79 ?_
    refine wp_iadd (pc := 80) X dX7_bitsOf_80 ?_
    exact wp_iret (pc := 81) X T dX7_bitsOf_81 h
  · replace h := h.2 hc
    refine wp_fload_n (pc := 50) X dX7_bitsOf_50 rfl rfl ?_
    refine wp_fconst1 (pc := 51) X dX7_bitsOf_51 ?_
    refine wp_fcmp (pc := 52) X dX7_bitsOf_52 ?_
    refine wp_if_ge (pc := 53) (tgt := 69) X dX7_bitsOf_53 (by decide) (fun hc => ?_) (fun hc => ?_)
    · replace h := h.1 hc
      refine wp_iload_n (pc := 69) X dX7_bitsOf_69 rfl rfl ?_
      refine wp_bipush (pc := 70) (v := nI 23) X dX7_bitsOf_70 (by decide) ?_
      refine wp_ishl (pc := 72) X dX7_bitsOf_72 ?_
      refine wp_fload_n (pc := 73) X dX7_bitsOf_73 rfl rfl ?_
      refine wp_fconst1 (pc := 74) X dX7_bitsOf_74 ?_
      obtain ⟨hf3, h⟩ := h
      refine wp_fsub (pc := 75) X dX7_bitsOf_75 hf3 ?_
      refine wp_ldcf (pc := 76) (v := 1258291200) X dX7_bitsOf_76 k_547 ?_
      obtain ⟨hf4, h⟩ := h
      refine wp_fmul (pc := 78) X dX7_bitsOf_78 hf4 ?_
      refine wp_f2i (pc := 79) X dX7_bitsOf_79 ?_
      refine wp_iadd (pc := 80) X dX7_bitsOf_80 ?_
      exact wp_iret (pc := 81) X T dX7_bitsOf_81 h
    · replace h := h.2 hc
      refine wp_fload_n (pc := 56) X dX7_bitsOf_56 rfl rfl ?_
      refine wp_fconst2 (pc := 57) X dX7_bitsOf_57 ?_
      obtain ⟨hf5, h⟩ := h
      refine wp_fmul (pc := 58) X dX7_bitsOf_58 hf5 ?_
      refine wp_fstore_n (pc := 59) (lo' := [none, some (.float (FP.fmul b FP.fconst2)), some (.int e), some (.int (nI k))]) X dX7_bitsOf_59 rfl (Nat.le_of_ble_eq_true rfl) rfl rfl ?_
      refine wp_iinc (pc := 60) (lo' := [none, some (.float (FP.fmul b FP.fconst2)), some (.int (e + (Int32.ofInt (-1)))), some (.int (nI k))]) X dX7_bitsOf_60 rfl rfl rfl rfl ?_
      refine wn_iinc (pc := 63) (d := 1) (lo' := [none, some (.float (FP.fmul b FP.fconst2)), some (.int (e + (Int32.ofInt (-1)))), some (.int (nI (k + 1)))]) X dX7_bitsOf_63 rfl (by decide) rfl rfl ?_
      refine wp_goto (pc := 66) (tgt := 43) X dX7_bitsOf_66 (by decide) ?_
      exact h
