/-! what is seen of the sending and of who listens -/
theorem tn_lt {t k : Nat} (hk : k < t) (ht : t < 2 ^ 30) : nI t - nI 1 - nI k = nI (t - 1 - k) := by
  rw [pk_sub (by omega), pk_sub (by omega)]
theorem tn_ge {t k : Nat} (hk : t ≤ k) (ht : t < 2 ^ 30) (hk2 : k < 2 ^ 29) : ¬ 0 ≤ nI t - nI 1 - nI k := by
  have e : nI t - nI 1 - nI k = nI t - nI (1 + k) := by
    rw [← nI_add]; grind
  rw [e, Int32.le_iff_toInt_le, pk_sub_toInt ht (by omega), show (0 : Int32).toInt = 0 from by decide]
  omega
theorem A_sent (a b : Int32) : AP m_X7_sent m_X8_sent [.int a, .int b] := by
  intro M cn hc hR
  have hS := Rel_same hR
  obtain ⟨n, e, li, d, s, t, jn, y, v, md, u, ln, h, hu⟩ := hR
  have hn6 : n ≤ 6 := h.rr.1.1.2.2
  have hn : M 140 42 = nI n := h.rr.1.1.1
  have hj4 : jn ≤ 4 := h.rr.2.1.2.1.2
  have hj : M 11 2 = nI jn := h.rr.2.2.2.2.1
  have h48 : M 140 48 = nI jn := h.rr.2.1.2.1.1
  have h45 : M 140 45 = nI t := h.rr.2.1.1.1
  have hck : M 13 9 = nI t := h.rr.2.2.2.1.2.1.1.trans h45
  have ht := h.ht
  refine CMi pn_X7 rfl rfl rfl LF_nd (fun x X T => ?_)
  have hlg := h.rr.2.2.2.1.2.2
  rcases ix_cases a (n := 10) (by decide) with ⟨k, hk, rfl⟩ | hno
  · rcases ix_cases b (n := 4) (by decide) with ⟨f, hf, rfl⟩ | hno
    · have hm : ∀ c : Int32, (k < t → c = M 140 (49 + 4 * k + f)) → (t ≤ k → c = -4) → CM m_X8_sent LF [.ref 139, .int (nI k), .int (nI f)] M (fun r2 M2 => c = r2 ∧ Rel M2 (cn + 1)) := by
        intro c hc1 hc2
        refine CMi pn_X8 rfl rfl rfl LF_nd (fun x X T => ?_)
        refine r_X8_sentN_0 X T ac_139 ac_140 (c_within_y LF_nd (Nat.zero_le _) (by omega) (by decide) ⟨fun q => absurd q (by decide), fun _ => c_within_y LF_nd (Nat.zero_le _) (by omega) (by decide) ⟨fun _ => ⟨fun q => ⟨by omega, hc1 ?_, hS⟩, fun q => ⟨hc2 ?_, hS⟩⟩, fun q => absurd q (by decide)⟩⟩)
        · rw [h45, nI_ltI (by omega) (by omega)] at q; exact q
        · rw [h45, nI_ltI (by omega) (by omega)] at q; omega
      refine r_X7_sent_0 X T ac_0 ac_11 ac_13 ⟨fun q => absurd q (nI_pos (by omega)), fun _ => ⟨fun q => absurd q (by rw [nI_leI (by decide) (by omega)]; omega), fun _ => ⟨fun q => absurd q (nI_pos (by omega)), fun _ => ⟨fun _ => ⟨t, hck, ?_, ?_⟩, fun q => absurd (nI_leN (by omega) (by decide)) q⟩⟩⟩⟩
      · intro hge
        by_cases ck : k < t
        · obtain ⟨l1, l2, l3, l4⟩ := hlg k hk ck
          rw [show 0 + 49 + 4 * k = 49 + 4 * k by omega] at l1
          rw [show 0 + 50 + 4 * k = 49 + 4 * k + 1 by omega] at l2
          rw [show 0 + 51 + 4 * k = 49 + 4 * k + 2 by omega] at l3
          rw [show 0 + 52 + 4 * k = 49 + 4 * k + 3 by omega] at l4
          rw [tn_lt ck (by omega)]
          have hm' : ∀ c : Int32, c = M 140 (49 + 4 * k + f) → CM m_X8_sent LF [.ref 139, .int (nI k), .int (nI f)] M (fun r2 M2 => c = r2 ∧ Rel M2 (cn + 1)) := fun c hc => hm c (fun _ => hc) (fun q => absurd q (by omega))
          have fI : ∀ {j : Nat}, nI f = nI j → j < 2 ^ 31 → f = j := fun q hj => by
            have := congrArg Int32.toInt q
            rw [nI_toInt (by omega), nI_toInt hj] at this; omega
          refine ⟨fun q => c_fileIn LF_nd rc_11.2.2.1 (by omega) (hm' _ ?_), fun q => c_symbolIn LF_nd rc_11.2.2.1 (by omega) (hm' _ ?_), fun q => c_versionIn LF_nd rc_11.2.2.1 (by omega) (hm' _ ?_), fun q => hm' _ ?_⟩
          · rw [fI q (by decide)]; exact l1
          · rw [fI q (by decide)]; exact l2
          · rw [fI q (by decide)]; exact l3
          · have : f = 3 := by
              have q0 := q 0 (by decide)
              have q1 := q 1 (by decide)
              have q2 := q 2 (by decide)
              have : f ≠ 0 := fun z => q0 (by rw [z])
              have : f ≠ 1 := fun z => q1 (by rw [z])
              have : f ≠ 2 := fun z => q2 (by rw [z])
              omega
            rw [this]; exact l4.symm
        · exact absurd hge (tn_ge (by omega) (by omega) (by omega))
      · intro hlt
        refine hm _ (fun q => ?_) (fun _ => rfl)
        exact absurd (by rw [tn_lt q (by omega)]; exact nI_pos' (by omega)) hlt
    · have hmod : CM m_X8_sent LF [.ref 139, .int (nI k), .int b] M (fun r2 M2 => (-1 : Int32) = r2 ∧ Rel M2 (cn + 1)) := by
        refine CMi pn_X8 rfl rfl rfl LF_nd (fun x X T => ?_)
        exact r_X8_sent_0 X T ac_139 ac_140 (c_within_y LF_nd (Nat.zero_le _) (by omega) (by decide) ⟨fun q => absurd q (by decide), fun _ => c_within_n LF_nd (by omega) (by decide) (by decide) ⟨fun q => absurd rfl q, fun _ => ⟨rfl, hS⟩⟩⟩)
      exact r_X7_sent_0 X T ac_0 ac_11 ac_13 ⟨fun q => absurd q (nI_pos (by omega)), fun _ => ⟨fun q => absurd q (by rw [nI_leI (by decide) (by omega)]; omega), fun _ => ⟨fun _ => hmod, fun h1 => ⟨fun h2 => (wl_lt (lo := 0) (hi := 3) (by omega) (by decide) (by decide) h1 h2).elim, fun _ => hmod⟩⟩⟩⟩
  · have hmod : CM m_X8_sent LF [.ref 139, .int a, .int b] M (fun r2 M2 => (-1 : Int32) = r2 ∧ Rel M2 (cn + 1)) := by
      refine CMi pn_X8 rfl rfl rfl LF_nd (fun x X T => ?_)
      exact r_X8_sent_0 X T ac_139 ac_140 (c_within_n LF_nd (by omega) (by decide) (by decide) ⟨fun _ => ⟨rfl, hS⟩, fun q => absurd rfl q⟩)
    refine r_X7_sent_0 X T ac_0 ac_11 ac_13 ⟨fun _ => hmod, fun h1 => ⟨fun _ => hmod, fun h2 => ?_⟩⟩
    exfalso
    rw [Int32.lt_iff_toInt_lt, show (0 : Int32).toInt = 0 from by decide] at h1
    rw [Int32.le_iff_toInt_le, nI_toInt (by decide)] at h2
    omega
theorem A_listener (a b : Int32) : AP m_X7_listener m_X8_listener [.int a, .int b] := by
  intro M cn hc hR
  have hS := Rel_same hR
  obtain ⟨n, e, li, d, s, t, jn, y, v, md, u, ln, h, hu⟩ := hR
  have hn6 : n ≤ 6 := h.rr.1.1.2.2
  have hn : M 140 42 = nI n := h.rr.1.1.1
  have hj4 : jn ≤ 4 := h.rr.2.1.2.1.2
  have hj : M 11 2 = nI jn := h.rr.2.2.2.2.1
  have h48 : M 140 48 = nI jn := h.rr.2.1.2.1.1
  have h45 : M 140 45 = nI t := h.rr.2.1.1.1
  have hck : M 13 9 = nI t := h.rr.2.2.2.1.2.1.1.trans h45
  have ht := h.ht
  refine CMi pn_X7 rfl rfl rfl LF_nd (fun x X T => ?_)
  rcases ix_cases a (n := jn) (by omega) with ⟨l, hl, rfl⟩ | hno
  · have hLR := h.rr.2.2.2.2.2 l hl
    obtain ⟨b1, b2, b3⟩ := hLR
    rw [show 0 + 89 + 16 * l = 89 + 16 * l by omega] at b1 b2
    rcases ix_cases b (n := 6) (by decide) with ⟨k, hk, rfl⟩ | hno
    · have hw : ∀ c : Int32, ((nI k = nI 0 → c = M 140 (89 + 16 * l + 0)) ∧ (nI k = nI 1 → c = M 140 (89 + 16 * l + 1)) ∧ (nI k = nI 2 → c = if M 140 (89 + 16 * l + 2) < M 140 45 then nI 0 else nI 1) ∧ (nI k = nI 3 → c = M 140 (89 + 16 * l + 2)) ∧ (nI k = nI 4 → c = whF (M 140) l n) ∧ ((∀ j, j < 5 → ¬ nI k = nI j) → c = M 140 (89 + 16 * l + 3))) → CM m_X8_listener LF [.ref 139, .int (nI l), .int (nI k)] M (fun r2 M2 => c = r2 ∧ Rel M2 (cn + 1)) := by
        intro c ⟨c0, c1, c2, c3, c4, c5⟩
        refine CMi pn_X8 rfl rfl rfl LF_nd (fun x X T => ?_)
        refine r_X8_listenerN_0 X T ac_139 ac_140 (c_isLis_y LF_nd ac_139 ac_140 h48 hj4 hl ⟨fun q => absurd q (by decide), fun _ => c_within_y LF_nd (Nat.zero_le _) (by omega) (by decide) ⟨fun _ => ⟨fun q => ⟨by omega, c0 q, hS⟩, fun q => ⟨by omega, c1 q, hS⟩, fun q => c_knows LF_nd ac_139 ac_140 (by omega) ?_, fun q => ⟨by omega, c3 q, hS⟩, fun q => c_wholes LF_nd ac_139 ac_140 (by omega) hn hn6 ⟨c4 q, hS⟩, fun q => ⟨by omega, c5 q, hS⟩⟩, fun q => absurd q (by decide)⟩⟩)
        have c2' := c2 q
        by_cases ck : M 140 (89 + 16 * l + 2) < M 140 45
        · rw [if_pos ck] at c2' ⊢
          exact ⟨fun _ => ⟨c2', hS⟩, fun q => absurd rfl q⟩
        · rw [if_neg ck] at c2' ⊢
          exact ⟨fun q => absurd q (by decide), fun _ => ⟨c2', hS⟩⟩
      refine r_X7_listenerN_0 X T ac_0 ac_11 ac_12 (fun j hj => (rc_11.2.2.2 j hj).1) ac_13 (c_hasLis_y LF_nd ac_11 hj hj4 hl ⟨fun _ => ⟨by omega, ?_, ?_, ?_, ?_, ?_, ?_, ?_⟩, fun q => absurd q (by decide)⟩)
      · intro q; rw [q] at hw ⊢
        exact hw _ ⟨fun _ => b1.1, fun z => absurd z (by decide), fun z => absurd z (by decide), fun z => absurd z (by decide), fun z => absurd z (by decide), fun z => absurd rfl (z 0 (by decide))⟩
      · intro q; rw [q] at hw ⊢
        exact hw _ ⟨fun z => absurd z (by decide), fun _ => b1.2.1, fun z => absurd z (by decide), fun z => absurd z (by decide), fun z => absurd z (by decide), fun z => absurd rfl (z 1 (by decide))⟩
      · intro q; rw [q] at hw ⊢
        refine ⟨t, hck, c_knowsIn LF_nd (rc_11.2.2.2 l (by omega)) ?_⟩
        have e6 : M (11 + 1 + 10 + 3 * l) 6 = M 140 (89 + 16 * l + 2) := b1.2.2.1
        rw [e6, ← h45]
        by_cases ck : M 140 (89 + 16 * l + 2) < M 140 45
        · rw [if_pos ck]
          exact ⟨fun _ => hw _ ⟨fun z => absurd z (by decide), fun z => absurd z (by decide), fun _ => by rw [if_pos ck], fun z => absurd z (by decide), fun z => absurd z (by decide), fun z => absurd rfl (z 2 (by decide))⟩, fun q => absurd rfl q⟩
        · rw [if_neg ck]
          exact ⟨fun q => absurd q (by decide), fun _ => hw _ ⟨fun z => absurd z (by decide), fun z => absurd z (by decide), fun _ => by rw [if_neg ck], fun z => absurd z (by decide), fun z => absurd z (by decide), fun z => absurd rfl (z 2 (by decide))⟩⟩
      · intro q; rw [q] at hw ⊢
        exact hw _ ⟨fun z => absurd z (by decide), fun z => absurd z (by decide), fun z => absurd z (by decide), fun _ => b1.2.2.1, fun z => absurd z (by decide), fun z => absurd rfl (z 3 (by decide))⟩
      · intro q; rw [q] at hw ⊢
        refine c_wholeBits LF_nd (rc_11.2.2.2 l (by omega)) pc_7 (w := M 140) (l := l) h.cp.1 hn6 (fun f hf => ?_) (hw _ ⟨fun z => absurd z (by decide), fun z => absurd z (by decide), fun z => absurd z (by decide), fun z => absurd z (by decide), fun _ => rfl, fun z => absurd rfl (z 4 (by decide))⟩)
        obtain ⟨hd, hd1, hd12, hs, hs6⟩ := h.rr.1.2.2.2 f hf
        obtain ⟨c1, hh, c2, c3⟩ := b2 f hf
        rw [show 0 + f = f by omega] at hd
        have hh18 : hh < 2 ^ 18 := Nat.lt_of_lt_of_le c3 (Nat.pow_le_pow_right (by decide) (by omega))
        exact ⟨d f, hh, (h.cp.2.2.2 f hf).1, hd12, c1.trans c2, hh18, laF_n hd hd12 c2 hh18⟩
      · intro q; rw [q] at hw ⊢
        exact hw _ ⟨fun z => absurd z (by decide), fun z => absurd z (by decide), fun z => absurd z (by decide), fun z => absurd z (by decide), fun z => absurd z (by decide), fun _ => b1.2.2.2⟩
      · intro q; exact absurd rfl (q k hk)
    · have hmod : CM m_X8_listener LF [.ref 139, .int (nI l), .int b] M (fun r2 M2 => (-1 : Int32) = r2 ∧ Rel M2 (cn + 1)) := by
        refine CMi pn_X8 rfl rfl rfl LF_nd (fun x X T => ?_)
        exact r_X8_listenerN_0 X T ac_139 ac_140 (c_isLis_y LF_nd ac_139 ac_140 h48 hj4 hl ⟨fun q => absurd q (by decide), fun _ => c_within_n LF_nd (by omega) (by decide) (by decide) ⟨fun q => absurd rfl q, fun _ => ⟨rfl, hS⟩⟩⟩)
      have nob : ∀ j, j < 6 → b = nI j → False := fun j hj q => by
        rw [q, nI_toInt (by omega)] at hno; omega
      exact r_X7_listenerN_0 X T ac_0 ac_11 ac_12 (fun j hj => (rc_11.2.2.2 j hj).1) ac_13 (c_hasLis_y LF_nd ac_11 hj hj4 hl ⟨fun _ => ⟨by omega, fun q => (nob 0 (by decide) q).elim, fun q => (nob 1 (by decide) q).elim, fun q => (nob 2 (by decide) q).elim, fun q => (nob 3 (by decide) q).elim, fun q => (nob 4 (by decide) q).elim, fun q => (nob 5 (by decide) q).elim, fun _ => hmod⟩, fun q => absurd q (by decide)⟩)
  · refine r_X7_listenerI_0 X T ac_0 ac_11 (c_hasLis_n LF_nd ac_11 hj hj4 hno ⟨fun q => absurd rfl q, fun _ => ?_⟩)
    refine CMi pn_X8 rfl rfl rfl LF_nd (fun x X T => ?_)
    exact r_X8_listener_0 X T ac_139 ac_140 (c_isLis_n LF_nd ac_139 ac_140 h48 hj4 hno ⟨fun _ => ⟨rfl, hS⟩, fun q => absurd rfl q⟩)
theorem A_holds (a b g : Int32) : AP m_X7_holds m_X8_holds [.int a, .int b, .int g] := by
  intro M cn hc hR
  have hS := Rel_same hR
  obtain ⟨n, e, li, d, s, t, jn, y, v, md, u, ln, h, hu⟩ := hR
  have hn6 : n ≤ 6 := h.rr.1.1.2.2
  have hn : M 140 42 = nI n := h.rr.1.1.1
  have hj4 : jn ≤ 4 := h.rr.2.1.2.1.2
  have hj : M 11 2 = nI jn := h.rr.2.2.2.2.1
  have h48 : M 140 48 = nI jn := h.rr.2.1.2.1.1
  have h45 : M 140 45 = nI t := h.rr.2.1.1.1
  have hck : M 13 9 = nI t := h.rr.2.2.2.1.2.1.1.trans h45
  have ht := h.ht
  refine CMi pn_X7 rfl rfl rfl LF_nd (fun x X T => ?_)
  rcases ix_cases a (n := jn) (by omega) with ⟨l, hl, rfl⟩ | hno
  · rcases ix_cases b (n := n) (by omega) with ⟨f, hf, rfl⟩ | hno
    · obtain ⟨b1, b2, b3⟩ := h.rr.2.2.2.2.2 l hl
      obtain ⟨hd, hd1, hd12, hs, hs6⟩ := h.rr.1.2.2.2 f hf
      obtain ⟨c1, hh, c2, c3⟩ := b2 f hf
      rw [show 0 + 89 + 16 * l = 89 + 16 * l by omega] at *
      rw [show 0 + f = f by omega] at hd
      have hh18 : hh < 2 ^ 18 := Nat.lt_of_lt_of_le c3 (Nat.pow_le_pow_right (by decide) (by omega))
      have hla : laF (M 140) l f = nI (d f - pcN hh 18) := laF_n hd hd12 c2 hh18
      rcases ix_cases g (n := 3) (by decide) with ⟨k, hk, rfl⟩ | hno
      · have hw : ∀ c : Int32, ((nI k = nI 0 → c = M 140 (89 + 16 * l + 10 + f)) ∧ (nI k = nI 1 → c = if M 140 (89 + 16 * l + 2) = -4 then -4 else M 140 (89 + 16 * l + 4 + f)) ∧ (nI k = nI 2 → c = laF (M 140) l f)) → CM m_X8_holds LF [.ref 139, .int (nI l), .int (nI f), .int (nI k)] M (fun r2 M2 => c = r2 ∧ Rel M2 (cn + 1)) := by
          intro c ⟨e0, e1, e2⟩
          refine CMi pn_X8 rfl rfl rfl LF_nd (fun x X T => ?_)
          refine r_X8_holdsN_0 X T ac_139 ac_140 (c_isLis_y LF_nd ac_139 ac_140 h48 hj4 hl ⟨fun q => absurd q (by decide), fun _ => c_isFile_y LF_nd ac_139 ac_140 hn hn6 hf ⟨fun q => absurd q (by decide), fun _ => c_within_y LF_nd (Nat.zero_le _) (by omega) (by decide) ⟨fun _ => ⟨fun z0 => ⟨fun z2 => ⟨by omega, fun z4 => ⟨by omega, ?_, hS⟩, fun z4 => ⟨?_, hS⟩⟩, fun z2 => c_lacks LF_nd ac_139 ac_140 (by omega) (by omega) ⟨e2 z2, hS⟩⟩, fun z0 => ⟨by omega, e0 z0, hS⟩⟩, fun q => absurd q (by decide)⟩⟩⟩)
          all_goals
            have k1 : k = 1 := by
              have : k ≠ 0 := fun z => z0 (by rw [z]; rfl)
              have : k ≠ 2 := fun z => z2 (by rw [z])
              omega
            have := e1 (by rw [k1])
          · rw [if_neg z4] at this; exact this
          · rw [if_pos z4] at this; exact this
        refine r_X7_holdsN_0 X T ac_0 ac_11 ac_7 ac_12 (fun j hj => (rc_11.2.2.2 j hj).1) (rc_11.2.2.2 l (by omega)).2.1 (rc_11.2.2.2 l (by omega)).2.2 (c_hasLis_y LF_nd ac_11 hj hj4 hl ⟨fun q => absurd q (by decide), fun _ => c_hasFile_y LF_nd ac_7 h.cp.1 hn6 hf ⟨fun _ => ⟨by omega, ?_, ?_, ?_, ?_⟩, fun q => absurd q (by decide)⟩⟩)
        · intro q; rw [q] at hw ⊢
          exact ⟨by omega, hw _ ⟨fun _ => c1, fun z => absurd z (by decide), fun z => absurd z (by decide)⟩⟩
        · intro q; rw [q] at hw ⊢
          refine ⟨by omega, hw _ ⟨fun z => absurd z (by decide), fun _ => ?_, fun z => absurd z (by decide)⟩⟩
          rcases b3 with ⟨z, z2⟩ | ⟨z, z1, z2, z3⟩
          · rw [if_pos z]; exact (z2 f hf).1
          · rw [if_neg]
            · exact z3 f hf
            · rw [z1]; intro q
              have := congrArg Int32.toInt q
              rw [nI_toInt (by omega), show (-4 : Int32).toInt = -4 from by decide] at this; omega
        · intro q; rw [q] at hw ⊢
          exact c_lacksC LF_nd (rc_11.2.2.2 l (by omega)) pc_7 (by omega) (h.cp.2.2.2 f hf).1 hd12 (c1.trans c2) hh18 (hw _ ⟨fun z => absurd z (by decide), fun z => absurd z (by decide), fun _ => hla.symm⟩)
        · intro q; exact absurd rfl (q k hk)
      · have hmod : CM m_X8_holds LF [.ref 139, .int (nI l), .int (nI f), .int g] M (fun r2 M2 => (-1 : Int32) = r2 ∧ Rel M2 (cn + 1)) := by
          refine CMi pn_X8 rfl rfl rfl LF_nd (fun x X T => ?_)
          exact r_X8_holdsN_0 X T ac_139 ac_140 (c_isLis_y LF_nd ac_139 ac_140 h48 hj4 hl ⟨fun q => absurd q (by decide), fun _ => c_isFile_y LF_nd ac_139 ac_140 hn hn6 hf ⟨fun q => absurd q (by decide), fun _ => c_within_n LF_nd (by omega) (by decide) (by decide) ⟨fun q => absurd rfl q, fun _ => ⟨rfl, hS⟩⟩⟩⟩)
        have nob : ∀ j, j < 3 → g = nI j → False := fun j hj q => by
          rw [q, nI_toInt (by omega)] at hno; omega
        exact r_X7_holdsN_0 X T ac_0 ac_11 ac_7 ac_12 (fun j hj => (rc_11.2.2.2 j hj).1) (rc_11.2.2.2 l (by omega)).2.1 (rc_11.2.2.2 l (by omega)).2.2 (c_hasLis_y LF_nd ac_11 hj hj4 hl ⟨fun q => absurd q (by decide), fun _ => c_hasFile_y LF_nd ac_7 h.cp.1 hn6 hf ⟨fun _ => ⟨by omega, fun q => (nob 0 (by decide) q).elim, fun q => (nob 1 (by decide) q).elim, fun q => (nob 2 (by decide) q).elim, fun _ => hmod⟩, fun q => absurd q (by decide)⟩⟩)
    · refine r_X7_holdsI_0 X T ac_0 ac_11 ac_7 (c_hasLis_y LF_nd ac_11 hj hj4 hl ⟨fun q => absurd q (by decide), fun _ => c_hasFile_n LF_nd ac_7 h.cp.1 hn6 hno ⟨fun q => absurd rfl q, fun _ => ?_⟩⟩)
      refine CMi pn_X8 rfl rfl rfl LF_nd (fun x X T => ?_)
      exact r_X8_holds_0 X T ac_139 ac_140 (c_isLis_y LF_nd ac_139 ac_140 h48 hj4 hl ⟨fun q => absurd q (by decide), fun _ => c_isFile_n LF_nd ac_139 ac_140 hn hn6 hno ⟨fun _ => ⟨rfl, hS⟩, fun q => absurd rfl q⟩⟩)
  · refine r_X7_holdsI_0 X T ac_0 ac_11 ac_7 (c_hasLis_n LF_nd ac_11 hj hj4 hno ⟨fun _ => ?_, fun q => absurd rfl q⟩)
    refine CMi pn_X8 rfl rfl rfl LF_nd (fun x X T => ?_)
    exact r_X8_holds_0 X T ac_139 ac_140 (c_isLis_n LF_nd ac_139 ac_140 h48 hj4 hno ⟨fun _ => ⟨rfl, hS⟩, fun q => absurd rfl q⟩)
