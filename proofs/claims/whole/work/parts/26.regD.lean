/-! the class: calls at arguments that are none -/
theorem r_X7_repairI_0 {x : CT} {L : List Nat} {Q : Int32 → Mem → Prop} {M : Mem}  {a1 a2 : Int32} (X : BS x L cX7_repair 4 RX7 (m_X7_repair).2.2.2.2) (T : RT x L (some .int) Q) (A_0 : AC L 0 7 0) (A_11 : AC L 11 4 0) (A_7 : AC L 7 3 0)
    (h : CM m_X4_hasListener L [.ref 11, .int a1] M (fun r2 M1 => (r2 = 0 → Q (-1) M1) ∧ (¬ r2 = 0 → CM m_X3_hasFile L [.ref 7, .int a2] M1 (fun r4 M3 => (¬ r4 = 0 → WP x L 24 [some (.ref 0), some (.int a1), some (.int a2), none] [] M3) ∧ (r4 = 0 → Q (-1) M3))))) : WP x L 0 [some (.ref 0), some (.int a1), some (.int a2), none] [] M := by
  refine wp_aload_n (pc := 0) X dX7_repair_0 rfl rfl ?_
  refine wp_get (pc := 1) X fl_X7_39 A_0 (by decide) (fg_7_3 A_0) dX7_repair_1 ?_
  refine wp_iload_n (pc := 4) X dX7_repair_4 rfl rfl ?_
  refine wp_invV (pc := 5) X sv_X7_118 A_11 (by decide) rfl ⟨by decide, by decide⟩ (As := [.int a1]) (st := []) rfl rfl (Nat.le_of_ble_eq_true rfl) dX7_repair_5 ?_
  refine CM.mono h (fun r2 M1 h => ?_)
  refine wp_if_eq (pc := 8) (tgt := 22) X dX7_repair_8 (by decide) (fun hc => ?_) (fun hc => ?_)
  · replace h := h.1 hc
    refine wp_iconst (pc := 22) (v := (-1)) X dX7_repair_22 (by decide) ?_
    exact wp_iret (pc := 23) X T dX7_repair_23 h
  · replace h := h.2 hc
    refine wp_aload_n (pc := 11) X dX7_repair_11 rfl rfl ?_
    refine wp_get (pc := 12) X fl_X7_23 A_0 (by decide) (fg_7_2 A_0) dX7_repair_12 ?_
    refine wp_iload_n (pc := 15) X dX7_repair_15 rfl rfl ?_
    refine wp_invV (pc := 16) X sv_X7_100 A_7 (by decide) rfl ⟨by decide, by decide⟩ (As := [.int a2]) (st := []) rfl rfl (Nat.le_of_ble_eq_true rfl) dX7_repair_16 ?_
    refine CM.mono h (fun r4 M3 h => ?_)
    refine wp_if_ne (pc := 19) (tgt := 24) X dX7_repair_19 (by decide) (fun hc => ?_) (fun hc => ?_)
    · replace h := h.1 hc
      exact h
    · replace h := h.2 hc
      refine wp_iconst (pc := 22) (v := (-1)) X dX7_repair_22 (by decide) ?_
      exact wp_iret (pc := 23) X T dX7_repair_23 h
theorem r_X7_fileI_0 {x : CT} {L : List Nat} {Q : Int32 → Mem → Prop} {M : Mem}  {a1 a2 : Int32} (X : BS x L cX7_file 4 RX7 (m_X7_file).2.2.2.2) (T : RT x L (some .int) Q) (A_0 : AC L 0 7 0) (A_7 : AC L 7 3 0)
    (h : CM m_X3_hasFile L [.ref 7, .int a1] M (fun r2 M1 => (¬ r2 = 0 → WP x L 13 [some (.ref 0), some (.int a1), some (.int a2), none] [] M1) ∧ (r2 = 0 → Q (-1) M1))) : WP x L 0 [some (.ref 0), some (.int a1), some (.int a2), none] [] M := by
  refine wp_aload_n (pc := 0) X dX7_file_0 rfl rfl ?_
  refine wp_get (pc := 1) X fl_X7_23 A_0 (by decide) (fg_7_2 A_0) dX7_file_1 ?_
  refine wp_iload_n (pc := 4) X dX7_file_4 rfl rfl ?_
  refine wp_invV (pc := 5) X sv_X7_100 A_7 (by decide) rfl ⟨by decide, by decide⟩ (As := [.int a1]) (st := []) rfl rfl (Nat.le_of_ble_eq_true rfl) dX7_file_5 ?_
  refine CM.mono h (fun r2 M1 h => ?_)
  refine wp_if_ne (pc := 8) (tgt := 13) X dX7_file_8 (by decide) (fun hc => ?_) (fun hc => ?_)
  · replace h := h.1 hc
    exact h
  · replace h := h.2 hc
    refine wp_iconst (pc := 11) (v := (-1)) X dX7_file_11 (by decide) ?_
    exact wp_iret (pc := 12) X T dX7_file_12 h
theorem r_X7_listenerI_0 {x : CT} {L : List Nat} {Q : Int32 → Mem → Prop} {M : Mem}  {a1 a2 : Int32} (X : BS x L cX7_listener 4 RX7 (m_X7_listener).2.2.2.2) (T : RT x L (some .int) Q) (A_0 : AC L 0 7 0) (A_11 : AC L 11 4 0)
    (h : CM m_X4_hasListener L [.ref 11, .int a1] M (fun r2 M1 => (¬ r2 = 0 → WP x L 13 [some (.ref 0), some (.int a1), some (.int a2), none] [] M1) ∧ (r2 = 0 → Q (-1) M1))) : WP x L 0 [some (.ref 0), some (.int a1), some (.int a2), none] [] M := by
  refine wp_aload_n (pc := 0) X dX7_listener_0 rfl rfl ?_
  refine wp_get (pc := 1) X fl_X7_39 A_0 (by decide) (fg_7_3 A_0) dX7_listener_1 ?_
  refine wp_iload_n (pc := 4) X dX7_listener_4 rfl rfl ?_
  refine wp_invV (pc := 5) X sv_X7_118 A_11 (by decide) rfl ⟨by decide, by decide⟩ (As := [.int a1]) (st := []) rfl rfl (Nat.le_of_ble_eq_true rfl) dX7_listener_5 ?_
  refine CM.mono h (fun r2 M1 h => ?_)
  refine wp_if_ne (pc := 8) (tgt := 13) X dX7_listener_8 (by decide) (fun hc => ?_) (fun hc => ?_)
  · replace h := h.1 hc
    exact h
  · replace h := h.2 hc
    refine wp_iconst (pc := 11) (v := (-1)) X dX7_listener_11 (by decide) ?_
    exact wp_iret (pc := 12) X T dX7_listener_12 h
theorem r_X7_holdsI_0 {x : CT} {L : List Nat} {Q : Int32 → Mem → Prop} {M : Mem}  {a1 a2 a3 : Int32} (X : BS x L cX7_holds 5 RX7 (m_X7_holds).2.2.2.2) (T : RT x L (some .int) Q) (A_0 : AC L 0 7 0) (A_11 : AC L 11 4 0) (A_7 : AC L 7 3 0)
    (h : CM m_X4_hasListener L [.ref 11, .int a1] M (fun r2 M1 => (r2 = 0 → Q (-1) M1) ∧ (¬ r2 = 0 → CM m_X3_hasFile L [.ref 7, .int a2] M1 (fun r4 M3 => (¬ r4 = 0 → WP x L 24 [some (.ref 0), some (.int a1), some (.int a2), some (.int a3), none] [] M3) ∧ (r4 = 0 → Q (-1) M3))))) : WP x L 0 [some (.ref 0), some (.int a1), some (.int a2), some (.int a3), none] [] M := by
  refine wp_aload_n (pc := 0) X dX7_holds_0 rfl rfl ?_
  refine wp_get (pc := 1) X fl_X7_39 A_0 (by decide) (fg_7_3 A_0) dX7_holds_1 ?_
  refine wp_iload_n (pc := 4) X dX7_holds_4 rfl rfl ?_
  refine wp_invV (pc := 5) X sv_X7_118 A_11 (by decide) rfl ⟨by decide, by decide⟩ (As := [.int a1]) (st := []) rfl rfl (Nat.le_of_ble_eq_true rfl) dX7_holds_5 ?_
  refine CM.mono h (fun r2 M1 h => ?_)
  refine wp_if_eq (pc := 8) (tgt := 22) X dX7_holds_8 (by decide) (fun hc => ?_) (fun hc => ?_)
  · replace h := h.1 hc
    refine wp_iconst (pc := 22) (v := (-1)) X dX7_holds_22 (by decide) ?_
    exact wp_iret (pc := 23) X T dX7_holds_23 h
  · replace h := h.2 hc
    refine wp_aload_n (pc := 11) X dX7_holds_11 rfl rfl ?_
    refine wp_get (pc := 12) X fl_X7_23 A_0 (by decide) (fg_7_2 A_0) dX7_holds_12 ?_
    refine wp_iload_n (pc := 15) X dX7_holds_15 rfl rfl ?_
    refine wp_invV (pc := 16) X sv_X7_100 A_7 (by decide) rfl ⟨by decide, by decide⟩ (As := [.int a2]) (st := []) rfl rfl (Nat.le_of_ble_eq_true rfl) dX7_holds_16 ?_
    refine CM.mono h (fun r4 M3 h => ?_)
    refine wp_if_ne (pc := 19) (tgt := 24) X dX7_holds_19 (by decide) (fun hc => ?_) (fun hc => ?_)
    · replace h := h.1 hc
      exact h
    · replace h := h.2 hc
      refine wp_iconst (pc := 22) (v := (-1)) X dX7_holds_22 (by decide) ?_
      exact wp_iret (pc := 23) X T dX7_holds_23 h
