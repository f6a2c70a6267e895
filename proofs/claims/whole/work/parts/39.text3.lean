/-! the reference reads the text -/
theorem PSm_f {M M1 : Mem} {st : PT} (h : PSm M st) (e1 : M1 142 = M 142) (e2 : ∀ k, 7 ≤ k → M1 139 k = M 139 k) : PSm M1 st := by
  unfold PSm at *
  rw [e1, e2 7 (by decide), e2 8 (by decide)]; exact h
theorem c_laysFile {L : List Nat} (hL : L.Nodup) (A1 : AC L 139 8 0) (A2 : AC L 142 9 20) {M : Mem} {Q : Int32 → Mem → Prop} {n : Nat} {a b c : Int32} (hn : n < 6) (h : Q 0 (MU (MU (MU M 142 (1 + 3 * n) a) 142 (2 + 3 * n) b) 142 (3 + 3 * n) c)) : CM m_X8_laysFile L [.ref 139, .int (nI n), .int a, .int b, .int c] M Q := by
  refine CMi pn_X8 rfl rfl rfl hL (fun x X T => ?_)
  exact r_X8_laysFile_0 X T A1 A2 ⟨by omega, by omega, by omega, h⟩
theorem c_passesFile {M : Mem} {Q : Int32 → Mem → Prop} {tx : Nat → Int32} {ln p : Nat} {st : PT} (h : TM M tx ln p) (hp : p ≤ ln) (hs : PSm M st) (hv : PV st) (h1 : ∀ p' st', fiP (hrF tx ln) p st = some (p', st') → ∀ M', TM M' tx ln p' → PSm M' st' → FJ M M' → Q (nI 1) M') (h2 : fiP (hrF tx ln) p st = none → ∀ M', FJ M M' → Q (nI 0) M') : CM m_X8_passesFile LF [.ref 139] M Q := by
  have hl2 := h.2.2.2.1
  refine CMi pn_X8 rfl rfl rfl LF_nd (fun x X T => ?_)
  unfold fiP at h1 h2
  refine r_X8_passesFile_0 X T ac_139 ac_142 ⟨st.1, hs.1, by have := hv.1; omega, fun q => h2 ?_ M (FJ.refl M), fun q6 => ?_⟩
  · cases e1 : nuF (hrF tx ln) (nI 44) p with
    | none => rfl
    | some r1 =>
      dsimp only
      cases e2 : nuF (hrF tx ln) (nI 44) r1.2 with
      | none => rfl
      | some r2 =>
        dsimp only
        cases e3 : nuF (hrF tx ln) (nI 59) r2.2 with
        | none => rfl
        | some r3 =>
          dsimp only
          rw [if_neg (by omega)]
  · have h6 : st.1 < 6 := by have := hv.1; omega
    refine c_passes h (by omega) z44 (by decide) (by decide) (fun v1 q1 e1 l1 u1 M1 t1 n1 f1 => ⟨fun _ => ?_, fun q => absurd q (by decide)⟩) (fun ne1 M1 f1 => ⟨fun q => absurd rfl q, fun _ => h2 ?_ M1 f1.fj⟩)
    · have b1 := nuF_b z44 e1
      rw [e1] at h1 h2; dsimp only at h1 h2
      refine c_passes t1 (by omega) z44 (by decide) (by decide) (fun v2 q2 e2 l2 u2 M2 t2 n2 f2 => ⟨fun _ => ?_, fun q => absurd q (by decide)⟩) (fun ne2 M2 f2 => ⟨fun q => absurd rfl q, fun _ => h2 ?_ M2 (f1.trans f2).fj⟩)
      · have b2 := nuF_b z44 e2
        rw [e2] at h1 h2; dsimp only at h1 h2
        refine c_passes t2 (by omega) z59 (by decide) (by decide) (fun v3 q3 e3 l3 u3 M3 t3 n3 f3 => ⟨fun _ => ?_, fun q => absurd q (by decide)⟩) (fun ne3 M3 f3 => ⟨fun q => absurd rfl q, fun _ => h2 ?_ M3 (f1.trans (f2.trans f3)).fj⟩)
        · have b3 := nuF_b z59 e3
          rw [e3] at h1; dsimp only at h1
          rw [if_pos (by omega)] at h1
          have f := f1.trans (f2.trans f3)
          obtain ⟨p1, p2, p3, p4⟩ := PSm_m hs f
          refine c_laysFile LF_nd ac_139 ac_142 h6 ?_
          rw [n1, n2, n3]
          have e0 : (MU (MU (MU M3 142 (1 + 3 * st.1) (nI v1)) 142 (2 + 3 * st.1) (nI v2)) 142 (3 + 3 * st.1) (nI v3)) 142 0 = nI st.1 := by
            rw [MU_at, upd_ne (by omega), MU_at, upd_ne (by omega), MU_at, upd_ne (by omega)]; exact p1
          rw [e0, nI_add]
          have e142 : ∀ j, (MU (MU (MU (MU M3 142 (1 + 3 * st.1) (nI v1)) 142 (2 + 3 * st.1) (nI v2)) 142 (3 + 3 * st.1) (nI v3)) 142 0 (nI (st.1 + 1))) 142 j = if j = 0 then nI (st.1 + 1) else if j = 3 + 3 * st.1 then nI v3 else if j = 2 + 3 * st.1 then nI v2 else if j = 1 + 3 * st.1 then nI v1 else M3 142 j := fun j => by
            rw [MU_at, MU_at, MU_at, MU_at]; rfl
          have eo : ∀ i, i ≠ 142 → (MU (MU (MU (MU M3 142 (1 + 3 * st.1) (nI v1)) 142 (2 + 3 * st.1) (nI v2)) 142 (3 + 3 * st.1) (nI v3)) 142 0 (nI (st.1 + 1))) i = M3 i := fun i hi => by
            rw [MU_ne hi, MU_ne hi, MU_ne hi, MU_ne hi]
          generalize (MU (MU (MU (MU M3 142 (1 + 3 * st.1) (nI v1)) 142 (2 + 3 * st.1) (nI v2)) 142 (3 + 3 * st.1) (nI v3)) 142 0 (nI (st.1 + 1))) = M4 at *
          refine h1 _ _ rfl M4 ?_ ⟨?_, ?_, ?_, fun k hk => ?_⟩ (f.fj.trans ⟨fun i _ hi => eo i hi, fun k _ => by rw [eo 139 (by decide)]⟩)
          · unfold TM at *; rw [eo 139 (by decide), eo 141 (by decide)]; exact t3
          · rw [e142, if_pos rfl]
          · rw [eo 139 (by decide)]; exact p2
          · rw [eo 139 (by decide)]; exact p3
          · dsimp only at hk ⊢
            by_cases ck : k = st.1
            · subst ck
              rw [if_pos rfl, e142, e142, e142, if_neg (by omega), if_neg (by omega), if_neg (by omega), if_pos rfl, if_neg (by omega), if_neg (by omega), if_pos rfl, if_neg (by omega), if_pos rfl]
              exact ⟨rfl, rfl, rfl⟩
            · rw [if_neg ck, e142, e142, e142, if_neg (by omega), if_neg (by omega), if_neg (by omega), if_neg (by omega), if_neg (by omega), if_neg (by omega), if_neg (by omega), if_neg (by omega), if_neg (by omega), if_neg (by omega), if_neg (by omega), if_neg (by omega)]
              exact p4 k (by omega)
        · cases e3 : nuF (hrF tx ln) (nI 59) q2 with
          | none => rfl
          | some r3 =>
            dsimp only
            have := ne3 r3.1 r3.2 e3
            rw [if_neg (by omega)]
      · cases e2 : nuF (hrF tx ln) (nI 44) q1 with
        | none => rfl
        | some r2 =>
          dsimp only
          have := ne2 r2.1 r2.2 e2
          cases e3 : nuF (hrF tx ln) (nI 59) r2.2 with
          | none => rfl
          | some r3 => dsimp only; rw [if_neg (by omega)]
    · cases e1 : nuF (hrF tx ln) (nI 44) p with
      | none => rfl
      | some r1 =>
        dsimp only
        have := ne1 r1.1 r1.2 e1
        cases e2 : nuF (hrF tx ln) (nI 44) r1.2 with
        | none => rfl
        | some r2 =>
          dsimp only
          cases e3 : nuF (hrF tx ln) (nI 59) r2.2 with
          | none => rfl
          | some r3 => dsimp only; rw [if_neg (by omega)]
theorem c_passesTable {M : Mem} {Q : Int32 → Mem → Prop} {tx : Nat → Int32} {ln p : Nat} {st : PT} (h : TM M tx ln p) (hp : p ≤ ln) (hs : PSm M st) (h1 : ∀ p' st', taP (hrF tx ln) p st = some (p', st') → ∀ M', TM M' tx ln p' → PSm M' st' → FJ M M' → Q (nI 1) M') (h2 : taP (hrF tx ln) p st = none → ∀ M', FJ M M' → Q (nI 0) M') : CM m_X8_passesTable LF [.ref 139] M Q := by
  have hl2 := h.2.2.2.1
  refine CMi pn_X8 rfl rfl rfl LF_nd (fun x X T => ?_)
  unfold taP at h1 h2
  refine r_X8_passesTable_0 X T ac_139 ?_
  refine c_passes h (by omega) z44 (by decide) (by decide) (fun v1 q1 e1 l1 u1 M1 t1 n1 f1 => ⟨fun _ => ?_, fun q => absurd q (by decide)⟩) (fun ne1 M1 f1 => ⟨fun q => absurd rfl q, fun _ => h2 ?_ M1 f1.fj⟩)
  · have b1 := nuF_b z44 e1
    rw [e1] at h1 h2; dsimp only at h1 h2
    rw [n1]
    have t1' : TM (MU M1 139 7 (nI v1)) tx ln q1 := by
      unfold TM at *
      rw [MU_at, upd_ne (by decide), upd_ne (by decide), MU_ne (by decide)]; exact t1
    have f7 : FJ M1 (MU M1 139 7 (nI v1)) := ⟨fun i h1 _ => by rw [MU_ne h1], fun k hk => by rw [MU_at, upd_ne (by omega)]⟩
    have s1 : (MU M1 139 7 (nI v1)) 142 = M 142 := by rw [MU_ne (by decide), f1.1 _ (by decide)]
    have s7 : (MU M1 139 7 (nI v1)) 139 7 = nI v1 := by rw [MU_at, upd_at]
    generalize MU M1 139 7 (nI v1) = M2 at *
    refine c_passes t1' (by omega) z59 (by decide) (by decide) (fun v2 q2 e2 l2 u2 M3 t3 n3 f3 => ⟨Or.inr rfl, ?_⟩) (fun ne2 M3 f3 => ⟨Or.inl rfl, h2 ?_ _ ?_⟩)
    · have b2 := nuF_b z59 e2
      rw [e2] at h1; dsimp only at h1
      rw [if_pos (by omega)] at h1
      rw [n3]
      refine h1 _ _ rfl _ ?_ ⟨?_, ?_, ?_, ?_⟩ ((f1.fj.trans (f7.trans f3.fj)).trans ?_)
      · unfold TM at *
        rw [MU_at, upd_ne (by decide), upd_ne (by decide), MU_ne (by decide)]; exact t3
      · rw [MU_ne (by decide), f3.1 _ (by decide), s1]; exact hs.1
      · rw [MU_at, upd_ne (by decide), f3.2 7 (by decide) (by decide)]; exact s7
      · rw [MU_at, upd_at]
      · rw [MU_ne (by decide), f3.1 _ (by decide), s1]; exact hs.2.2.2
      · exact ⟨fun i h1 _ => by rw [MU_ne h1], fun k hk => by rw [MU_at, upd_ne (by omega)]⟩
    · cases e2 : nuF (hrF tx ln) (nI 59) q1 with
      | none => rfl
      | some r2 =>
        dsimp only
        have b2 := nuF_b (v := r2.1) (q := r2.2) z59 e2
        have := ne2 r2.1 r2.2 e2
        rw [if_neg (by omega)]
    · exact (f1.fj.trans (f7.trans f3.fj)).trans ⟨fun i h1 _ => by rw [MU_ne h1], fun k hk => by rw [MU_at, upd_ne (by omega)]⟩
  · cases e1 : nuF (hrF tx ln) (nI 44) p with
    | none => rfl
    | some r1 =>
      dsimp only
      have := ne1 r1.1 r1.2 e1
      cases e2 : nuF (hrF tx ln) (nI 59) r1.2 with
      | none => rfl
      | some r2 => dsimp only; rw [if_neg (by omega)]
theorem c_faultIs {M : Mem} {Q : Int32 → Mem → Prop} {tx : Nat → Int32} {ln : Nat} (hl : M 139 3 = nI ln) (hl2 : ln ≤ 200) (htx : ∀ j, j < ln → M 141 j = tx j) (h : ∀ M', FJ M M' → ((ftF (hrF tx ln) ln 200 0 st0).1 = -4 → PSm M' (ftF (hrF tx ln) ln 200 0 st0).2) → Q (ftF (hrF tx ln) ln 200 0 st0).1 M') : CM m_X8_faultIs LF [.ref 139] M Q := by
  refine CMi pn_X8 rfl rfl rfl LF_nd (fun x X T => ?_)
  refine r_X8_faultIs_0 X T ac_139 ac_142 ?_
  have key : ∀ c p st, ∀ M2 : Mem, TM M2 tx ln p → p ≤ ln → PSm M2 st → PV st → FJ M M2 → ln ≤ p + c → ftF (hrF tx ln) ln c p st = ftF (hrF tx ln) ln 200 0 st0 → WP x LF 24 [some (.ref 139), none, none] [] M2 := by
    intro c
    induction c with
    | zero =>
      intro p st M2 t tp s v f hc e
      rw [ftF] at e
      have hq := h M2 f (fun _ => by rw [← e]; exact s)
      rw [← e] at hq
      exact r_X8_faultIs_24 X T ac_139 ⟨p, t.2.1, ln, t.1, by omega, by omega, fun _ => hq, fun q => absurd q (by omega)⟩
    | succ c ih =>
      intro p st M2 t tp s v f hc e
      rw [ftF] at e
      by_cases cl : ln ≤ p
      · rw [if_pos cl] at e
        have hq := h M2 f (fun _ => by rw [← e]; exact s)
        rw [← e] at hq
        exact r_X8_faultIs_24 X T ac_139 ⟨p, t.2.1, ln, t.1, by omega, by omega, fun _ => hq, fun q => absurd q (by omega)⟩
      · rw [if_neg cl] at e
        have bad : itF (hrF tx ln) p st = none → ∀ M3, FJ M2 M3 → Q (nI p) M3 := fun ei M3 f3 => by
          rw [ei] at e; dsimp only at e
          have hq := h M3 (f.trans f3) (fun q => by rw [← e] at q; exact absurd q (nI_n4 (by omega)))
          rw [← e] at hq
          exact hq
        have good : ∀ p' st', itF (hrF tx ln) p st = some (p', st') → ∀ M3, TM M3 tx ln p' → PSm M3 st' → FJ M2 M3 → WP x LF 24 [some (.ref 139), none, none] [] M3 := fun p' st' ei M3 t3 s3 f3 => by
          rw [ei] at e; dsimp only at e
          have b := itF_b ei v
          exact ih p' st' M3 t3 (by omega) s3 b.2.2 (f.trans f3) (by omega) e
        refine r_X8_faultIs_24 X T ac_139 ⟨p, t.2.1, ln, t.1, by omega, by omega, fun q => absurd q (by omega), fun _ => ⟨p, t.2.1, c_here t ⟨p, t.2.1, ?_⟩⟩⟩
        have t5 : TM (MU M2 139 5 (nI (p + 1))) tx ln (p + 1) := TM_at t (FM_5 _ _) (by rw [MU_at, upd_at]) (by omega)
        have f5 : FM M2 (MU M2 139 5 (nI (p + 1))) := FM_5 _ _
        have s5 := PSm_m s f5
        generalize MU M2 139 5 (nI (p + 1)) = M5 at *
        unfold itF at bad good
        refine ⟨fun c1 => ⟨fun c2 => ?_, fun c2 => ?_⟩, fun c1 => ?_⟩
        · rw [if_neg c1, if_neg c2] at bad
          exact bad rfl M5 f5.fj
        · rw [if_neg c1, if_pos c2] at bad good
          exact c_passesTable t5 (by omega) s5 (fun p' st' ei M3 t3 s3 f3 => ⟨fun _ => good p' st' ei M3 t3 s3 (f5.fj.trans f3), fun q => absurd q (by decide)⟩) (fun ei M3 f3 => ⟨fun q => absurd rfl q, fun _ => bad ei M3 (f5.fj.trans f3)⟩)
        · rw [if_pos c1] at bad good
          exact c_passesFile t5 (by omega) s5 v (fun p' st' ei M3 t3 s3 f3 => ⟨fun q => absurd q (by decide), fun _ => good p' st' ei M3 t3 s3 (f5.fj.trans f3)⟩) (fun ei M3 f3 => ⟨fun _ => bad ei M3 (f5.fj.trans f3), fun q => absurd rfl q⟩)
  refine key 200 0 st0 _ ⟨?_, ?_, by omega, hl2, fun j hj => ?_⟩ (by omega) ⟨?_, ?_, ?_, fun k hk => absurd hk (by simp)⟩ pv0 ⟨fun i h1 h2 => ?_, fun k hk => ?_⟩ (by omega) rfl
  · rw [MU_at, upd_ne (by decide), MU_at, upd_ne (by decide), MU_at, upd_ne (by decide), MU_ne (by decide)]; exact hl
  · rw [MU_at, upd_at]
  · rw [MU_ne (by decide), MU_ne (by decide), MU_ne (by decide), MU_ne (by decide)]; exact htx j hj
  · rw [MU_ne (by decide), MU_ne (by decide), MU_ne (by decide), MU_at, upd_at]
  · rw [MU_at, upd_ne (by decide), MU_at, upd_ne (by decide), MU_at, upd_at]
  · rw [MU_at, upd_ne (by decide), MU_at, upd_at]
  · rw [MU_ne h1, MU_ne h1, MU_ne h1, MU_ne h2]
  · rw [MU_at, upd_ne (by omega), MU_at, upd_ne (by omega), MU_at, upd_ne (by omega), MU_ne (by decide)]
/-- reading leaves all as it is -/
theorem Rel_read {M M1 M2 : Mem} {cn : Nat} (h : Rel M cn) (f1 : FI M M1) (f2 : FJ M1 M2) : Rel M2 (cn + 1) := by
  obtain ⟨n, e, li, d, s, t, jn, y, v, md, u, ln, h, hu⟩ := h
  refine ⟨n, e, li, d, s, t, jn, y, v, md, u, ln, ?_, ?_⟩
  · rw [f2.1 140 (by decide) (by decide), f1.1 140 (by decide) (by omega)]
    refine RG_m h (fun i h1 h2 => by rw [f2.1 i (by omega) (by omega), f1.1 i (by omega) (by omega)]) (TX_m h.tx ?_ ?_ ?_ ?_)
    · rw [f2.1 1 (by decide) (by decide), f1.2 1 (by decide)]
    · rw [f2.2 3 (by decide), f1.1 139 (by decide) (by omega)]
    · rw [f2.1 2 (by decide) (by decide), f1.1 2 (by decide) (by omega)]
    · rw [f2.1 141 (by decide) (by decide), f1.1 141 (by decide) (by omega)]
  · rw [f2.2 1 (by decide), f1.1 139 (by decide) (by omega)]; exact hu
theorem A_fault : AP m_X7_fault m_X8_fault [] := by
  intro M cn hc hR
  have hR' := hR
  obtain ⟨n, e, li, d, s, t, jn, y, v, md, u, ln, h, hu⟩ := hR
  obtain ⟨t1, t2, t3, t4⟩ := h.tx
  refine CMi pn_X7 rfl rfl rfl LF_nd (fun x X T => ?_)
  refine r_X7_fault_0 X T ac_0 ac_1 (c_firstFault t1 t3 t4 (fun M1 f1 _ => ?_))
  refine CMi pn_X8 rfl rfl rfl LF_nd (fun x X T => ?_)
  refine r_X8_fault_0 X T ac_139 (c_faultIs (by rw [f1.1 139 (by decide) (by omega)]; exact t2) t3 (fun j _ => by rw [f1.1 141 (by decide) (by omega)]) (fun M2 f2 _ => ⟨rfl, Rel_read hR' f1 f2⟩))
