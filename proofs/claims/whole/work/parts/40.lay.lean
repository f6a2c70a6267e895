/-! a plan is laid -/
theorem c_pBecome {M : Mem} {Q : Int32 → Mem → Prop} {n e : Nat} (h3 : M 3 3 = nI n) (h4 : M 3 4 = nI e) (h : ∀ M' : Mem, (∀ k, k < 6 → M' 8 k = M 4 k ∧ M' 9 k = M 5 k ∧ M' 10 k = M 6 k) → M' 7 3 = M 3 3 → M' 7 4 = M 3 4 → M' 7 5 = M 3 5 → (∀ i, (i < 7 ∨ 10 < i) → M' i = M i) → Q 0 M') : CM m_X3_become LF [.ref 7, .ref 3] M Q := by
  refine CMi pn_X3 rfl rfl rfl LF_nd (fun x X T => ?_)
  have g3 : (MC (MC (MC M (3 + 1) (7 + 1) 6) (3 + 2) (7 + 2) 6) (3 + 3) (7 + 3) 6) 3 = M 3 := by
    rw [MC_ne (by decide), MC_ne (by decide), MC_ne (by decide)]
  have g8 : ∀ k, k < 6 → (MC (MC (MC M (3 + 1) (7 + 1) 6) (3 + 2) (7 + 2) 6) (3 + 3) (7 + 3) 6) 8 k = M 4 k := fun k hk => by
    rw [MC_ne (by decide), MC_ne (by decide)]; show (MC M 4 8 6) 8 k = _; rw [MC_at, if_pos hk]
  have g9 : ∀ k, k < 6 → (MC (MC (MC M (3 + 1) (7 + 1) 6) (3 + 2) (7 + 2) 6) (3 + 3) (7 + 3) 6) 9 k = M 5 k := fun k hk => by
    rw [MC_ne (by decide)]; show (MC _ 5 9 6) 9 k = _; rw [MC_at, if_pos hk, MC_ne (by decide)]
  have g10 : ∀ k, k < 6 → (MC (MC (MC M (3 + 1) (7 + 1) 6) (3 + 2) (7 + 2) 6) (3 + 3) (7 + 3) 6) 10 k = M 6 k := fun k hk => by
    show (MC _ 6 10 6) 10 k = _; rw [MC_at, if_pos hk, MC_ne (by decide), MC_ne (by decide)]
  have go : ∀ i, (i < 8 ∨ 10 < i) → (MC (MC (MC M (3 + 1) (7 + 1) 6) (3 + 2) (7 + 2) 6) (3 + 3) (7 + 3) 6) i = M i := fun i hi => by
    rw [MC_ne (by omega), MC_ne (by omega), MC_ne (by omega)]
  have main := r_X3_become_0 (p := 7) (q := 3) X T pc_3.1 pc_7.1 pc_3.2.1 pc_7.2.1 pc_3.2.2.1 pc_7.2.2.1 pc_3.2.2.2 pc_7.2.2.2 (M := M)
  generalize (MC (MC (MC M (3 + 1) (7 + 1) 6) (3 + 2) (7 + 2) 6) (3 + 3) (7 + 3) 6) = M3 at *
  refine main ⟨n, by rw [g3]; exact h3, e, by rw [MU_ne (by decide), g3]; exact h4, ?_⟩
  refine h _ (fun k hk => ?_) ?_ ?_ ?_ (fun i hi => ?_)
  · rw [MU_ne (by decide), MU_ne (by decide), MU_ne (by decide), MU_ne (by decide), MU_ne (by decide), MU_ne (by decide), MU_ne (by decide), MU_ne (by decide), MU_ne (by decide)]
    exact ⟨g8 k hk, g9 k hk, g10 k hk⟩
  · rw [MU_at, upd_ne (by decide), MU_at, upd_ne (by decide), MU_at, upd_at, h3]
  · rw [MU_at, upd_ne (by decide), MU_at, upd_at, h4]
  · rw [MU_at, upd_at, MU_ne (by decide), MU_ne (by decide), g3]
  · rw [MU_ne (by omega), MU_ne (by omega), MU_ne (by omega)]; exact go i (by omega)
/-- the row that begins -/
def bgF (w : Nat → Int32) (st : PT) : Nat → Int32 := fun q => if 153 ≤ q then w q else if q < 6 then (if q < st.1 then nI (st.2.2.2 q).1 else nI 0) else if q < 12 then (if q - 6 < st.1 then nI (st.2.2.2 (q - 6)).2.1 else nI 0) else if q < 18 then (if q - 12 < st.1 then nI (st.2.2.2 (q - 12)).2.2 else nI 0) else if q = 42 then nI st.1 else if q = 43 then nI st.2.1 else if q = 44 then nI st.2.2.1 else nI 0
theorem c_begins {L : List Nat} (hL : L.Nodup) (A1 : AC L 139 8 0) (A2 : AC L 142 9 20) (A3 : AC L 140 9 918) {M : Mem} {Q : Int32 → Mem → Prop} {st : PT} (h0 : M 142 0 = nI st.1) (hn : st.1 ≤ 6) (hs : ∀ k, k < st.1 → M 142 (1 + 3 * k) = nI (st.2.2.2 k).1 ∧ M 142 (2 + 3 * k) = nI (st.2.2.2 k).2.1 ∧ M 142 (3 + 3 * k) = nI (st.2.2.2 k).2.2) (h : Q 0 (MR (MR M 140 (bgF (M 140) st)) 139 (upd (M 139) 1 (nI 0)))) : CM m_X8_begins L [.ref 139, .int (nI st.2.1), .int (nI st.2.2.1)] M Q := by
  refine CMi pn_X8 rfl rfl rfl hL (fun x X T => ?_)
  refine r_X8_begins_0 X T ?_
  have k1 : ∀ m k, k + m = st.1 → WP x L 37 [some (.ref 139), some (.int (nI st.2.1)), some (.int (nI st.2.2.1)), some (.int (nI k))] [] (MR M 140 (fun q => if 153 ≤ q then M 140 q else if q < 6 then (if q < k then nI (st.2.2.2 q).1 else nI 0) else if q < 12 then (if q - 6 < k then nI (st.2.2.2 (q - 6)).2.1 else nI 0) else if q < 18 then (if q - 12 < k then nI (st.2.2.2 (q - 12)).2.2 else nI 0) else if q = 42 then nI st.1 else nI 0)) := by
    intro m
    induction m with
    | zero =>
      intro k hk
      have hk' : k = st.1 := by omega
      subst hk'
      refine r_X8_begins_37 X T A1 A2 A3 ⟨st.1, by rw [MR_ne (by decide)]; exact h0, by omega, by omega, fun _ => ?_, fun q => absurd q (by omega)⟩
      rw [MU_MR, MU_MR, MU_eq, MR_ne (M := M) (by decide)]
      have e : (upd (upd (fun q => if 153 ≤ q then M 140 q else if q < 6 then (if q < st.1 then nI (st.2.2.2 q).1 else nI 0) else if q < 12 then (if q - 6 < st.1 then nI (st.2.2.2 (q - 6)).2.1 else nI 0) else if q < 18 then (if q - 12 < st.1 then nI (st.2.2.2 (q - 12)).2.2 else nI 0) else if q = 42 then nI st.1 else nI 0) 43 (nI st.2.1)) 44 (nI st.2.2.1)) = bgF (M 140) st := by
        funext q
        unfold upd bgF
        by_cases c1 : q = 44
        · subst c1; simp
        · by_cases c2 : q = 43
          · subst c2; simp
          · simp [c1, c2]
      rw [e]
      exact h
    | succ m ih =>
      intro k hk
      obtain ⟨a1, a2, a3⟩ := hs k (by omega)
      refine r_X8_begins_37 X T A1 A2 A3 ⟨st.1, by rw [MR_ne (by decide)]; exact h0, by omega, by omega, fun q => absurd q (by omega), fun _ => ⟨by omega, by omega, by omega, by omega, by omega, by omega, ?_⟩⟩
      have := ih (k + 1) (by omega)
      rw [MU_MR, MR_ne (i := 140) (j := 142) (by decide), MR_ne (i := 140) (j := 142) (by decide), MU_MR, MR_ne (i := 140) (j := 142) (by decide), MU_MR, a1, a2, a3]
      have e : (upd (upd (upd (fun q => if 153 ≤ q then M 140 q else if q < 6 then (if q < k then nI (st.2.2.2 q).1 else nI 0) else if q < 12 then (if q - 6 < k then nI (st.2.2.2 (q - 6)).2.1 else nI 0) else if q < 18 then (if q - 12 < k then nI (st.2.2.2 (q - 12)).2.2 else nI 0) else if q = 42 then nI st.1 else nI 0) (0 + k) (nI (st.2.2.2 k).1)) (6 + k) (nI (st.2.2.2 k).2.1)) (12 + k) (nI (st.2.2.2 k).2.2)) = (fun q => if 153 ≤ q then M 140 q else if q < 6 then (if q < k + 1 then nI (st.2.2.2 q).1 else nI 0) else if q < 12 then (if q - 6 < k + 1 then nI (st.2.2.2 (q - 6)).2.1 else nI 0) else if q < 18 then (if q - 12 < k + 1 then nI (st.2.2.2 (q - 12)).2.2 else nI 0) else if q = 42 then nI st.1 else nI 0) := by
        funext q
        unfold upd
        by_cases c1 : q = 12 + k
        · rw [if_pos c1, if_neg (by omega), if_neg (by omega), if_neg (by omega), if_pos (by omega), if_pos (by omega), show q - 12 = k by omega]
        · rw [if_neg c1]
          by_cases c2 : q = 6 + k
          · rw [if_pos c2, if_neg (by omega), if_neg (by omega), if_pos (by omega), if_pos (by omega), show q - 6 = k by omega]
          · rw [if_neg c2]
            by_cases c3 : q = 0 + k
            · rw [if_pos c3, if_neg (by omega), if_pos (by omega), if_pos (by omega), show q = k by omega]
            · rw [if_neg c3]
              dsimp only
              by_cases d1 : 153 ≤ q
              · rw [if_pos d1, if_pos d1]
              · rw [if_neg d1, if_neg d1]
                by_cases d2 : q < 6
                · rw [if_pos d2, if_pos d2]
                  by_cases d3 : q < k
                  · rw [if_pos d3, if_pos (by omega)]
                  · rw [if_neg d3, if_neg (by omega)]
                · rw [if_neg d2, if_neg d2]
                  by_cases d4 : q < 12
                  · rw [if_pos d4, if_pos d4]
                    by_cases d3 : q - 6 < k
                    · rw [if_pos d3, if_pos (by omega)]
                    · rw [if_neg d3, if_neg (by omega)]
                  · rw [if_neg d4, if_neg d4]
                    by_cases d5 : q < 18
                    · rw [if_pos d5, if_pos d5]
                      by_cases d3 : q - 12 < k
                      · rw [if_pos d3, if_pos (by omega)]
                      · rw [if_neg d3, if_neg (by omega)]
                    · rw [if_neg d5, if_neg d5]
      rw [e]
      exact this
  have k0 : ∀ m k, k + m = 153 → WP x L 2 [some (.ref 139), some (.int (nI st.2.1)), some (.int (nI st.2.2.1)), some (.int (nI k))] [] (MR M 140 (zeF (M 140) 0 k)) := by
    intro m
    induction m with
    | zero =>
      intro k hk
      have : k = 153 := by omega
      subst this
      refine r_X8_begins_2 X T A1 A2 A3 ⟨by omega, fun _ => ?_, fun q => absurd q (by omega)⟩
      rw [MR_ne (i := 140) (j := 142) (by decide), h0, MU_MR]
      have := k1 st.1 0 (by omega)
      have e : upd (zeF (M 140) 0 153) 42 (nI st.1) = (fun q => if 153 ≤ q then M 140 q else if q < 6 then (if q < 0 then nI (st.2.2.2 q).1 else nI 0) else if q < 12 then (if q - 6 < 0 then nI (st.2.2.2 (q - 6)).2.1 else nI 0) else if q < 18 then (if q - 12 < 0 then nI (st.2.2.2 (q - 12)).2.2 else nI 0) else if q = 42 then nI st.1 else nI 0) := by
        funext q
        unfold upd zeF
        by_cases c : q = 42
        · subst c; simp
        · rw [if_neg c]
          by_cases d1 : 153 ≤ q
          · rw [if_neg (by omega), if_pos d1]
          · rw [if_pos (by omega), if_neg d1, if_neg (show ¬ q < 0 by omega), if_neg (show ¬ q - 6 < 0 by omega), if_neg (show ¬ q - 12 < 0 by omega), if_neg c]
            split
            · rfl
            · split
              · rfl
              · split <;> rfl
      rw [e]
      exact this
    | succ m ih =>
      intro k hk
      refine r_X8_begins_2 X T A1 A2 A3 ⟨by omega, fun q => absurd q (by omega), fun _ => ⟨by omega, ?_⟩⟩
      have := ih (k + 1) (by omega)
      rw [MU_MR]
      have z := zeF_step (M 140) 0 k
      rw [Nat.zero_add] at z
      rw [z]
      exact this
  have := k0 153 0 (by omega)
  rw [zeF_0, MR_self] at this
  exact this
/-- the rounds begin on both sides -/
theorem bg_RR {M : Mem} {w : Nat → Int32} {st : PT} (hv : PV st) (h1 : 1 ≤ st.1) (ha : ∀ k, k < st.1 → M 14 k = nI (st.2.2.2 k).2.2) (hb : ∀ k, k < 6 → M 15 k = nI 0 ∧ M 16 k = nI 0 ∧ M 17 k = nI 0 ∧ M 18 k = nI 0) (hc : M 13 9 = nI 0 ∧ M 13 10 = nI 0 ∧ M 13 11 = nI 0) (hj : M 11 2 = nI 0) : RR M 11 (bgF w st) 0 st.1 st.2.1 st.2.2.1 (fun k => (st.2.2.2 k).1) (fun k => (st.2.2.2 k).2.1) 0 0 (fun _ => 0) (fun _ => 0) := by
  obtain ⟨n6, he, hl, hf⟩ := hv
  have z : ∀ q, 18 ≤ q → q < 153 → q ≠ 42 → q ≠ 43 → q ≠ 44 → bgF w st q = nI 0 := fun q a b c d e => by
    unfold bgF; rw [if_neg (by omega), if_neg (by omega), if_neg (by omega), if_neg (by omega), if_neg c, if_neg d, if_neg e]
  have z12 : ∀ f, f < 6 → bgF w st (12 + f) = if f < st.1 then nI (st.2.2.2 f).2.2 else nI 0 := fun f hf => by
    unfold bgF; rw [if_neg (by omega), if_neg (by omega), if_neg (by omega), if_pos (by omega), show 12 + f - 12 = f by omega]
  refine ⟨⟨⟨?_, h1, n6⟩, ⟨?_, he⟩, ⟨?_, hl⟩, fun f hfn => ?_⟩, ⟨⟨?_, by decide⟩, ⟨?_, by decide⟩, fun f hfn => ?_⟩, ⟨fun f q1 q2 => ?_, 0, ?_, Nat.le_refl _, fun f hfn => ⟨0, ?_, Nat.le_refl _⟩⟩, ⟨fun f hfn => ?_, ?_, fun k _ hk => absurd hk (Nat.not_lt_zero _)⟩, hj, fun l hl => absurd hl (Nat.not_lt_zero _)⟩
  · unfold bgF; simp
  · unfold bgF; simp
  · unfold bgF; simp
  · obtain ⟨⟨g1, g2⟩, g3⟩ := hf f hfn
    refine ⟨?_, g1, g2, ?_, g3⟩
    · unfold bgF; rw [if_neg (by omega), if_pos (by omega), if_pos (by omega), Nat.zero_add]
    · unfold bgF; rw [if_neg (by omega), if_neg (by omega), if_pos (by omega), if_pos (by omega), show 0 + 6 + f - 6 = f by omega]
  · exact z _ (by omega) (by omega) (by omega) (by omega) (by omega)
  · exact z _ (by omega) (by omega) (by omega) (by omega) (by omega)
  · obtain ⟨⟨g1, g2⟩, g3⟩ := hf f hfn
    refine ⟨⟨z _ (by omega) (by omega) (by omega) (by omega) (by omega), by dsimp only; omega⟩, z _ (by omega) (by omega) (by omega) (by omega) (by omega), by dsimp only; omega⟩
  · rw [show 0 + 12 + f = 12 + f by omega, z12 f q2, if_neg (by omega)]
  · exact z _ (by omega) (by omega) (by omega) (by omega) (by omega)
  · exact z _ (by omega) (by omega) (by omega) (by omega) (by omega)
  · obtain ⟨b1, b2, b3, b4⟩ := hb f (by omega)
    rw [show 0 + 12 + f = 12 + f by omega, z12 f (by omega), if_pos hfn, z (0 + 18 + f) (by omega) (by omega) (by omega) (by omega) (by omega), z (0 + 24 + f) (by omega) (by omega) (by omega) (by omega) (by omega), z (0 + 30 + f) (by omega) (by omega) (by omega) (by omega) (by omega), z (0 + 36 + f) (by omega) (by omega) (by omega) (by omega) (by omega)]
    exact ⟨ha f hfn, b1, b2, b3, b4⟩
  · rw [z (0 + 45) (by omega) (by omega) (by omega) (by omega) (by omega), z (0 + 46) (by omega) (by omega) (by omega) (by omega) (by omega), z (0 + 47) (by omega) (by omega) (by omega) (by omega) (by omega)]
    exact hc
theorem A_lay : AP m_X7_lay m_X8_lay [] := by
  intro M cn hc hR
  have hR' := hR
  obtain ⟨n, e, li, d, s, t, jn, y, v, md, u, ln, h, hu⟩ := hR
  obtain ⟨t1, t2, t3, t4⟩ := h.tx
  refine CMi pn_X7 rfl rfl rfl LF_nd (fun x X T => ?_)
  have hpv := ftF_b (tx := M 141) (ln := ln) 200 0 st0 pv0
  refine r_X7_lay_0 X T ac_0 ac_1 ac_3 ac_7 ac_11 ac_34 (c_firstFault t1 t3 t4 (fun M1 f1 ps1 => ?_))
  have mstart : ∀ Q : Int32 → Mem → Prop, ∀ Mx : Mem, Mx 139 = M 139 → Mx 141 = M 141 → (∀ M', FJ Mx M' → ((ftF (hrF (M 141) ln) ln 200 0 st0).1 = -4 → PSm M' (ftF (hrF (M 141) ln) ln 200 0 st0).2) → Q (ftF (hrF (M 141) ln) ln 200 0 st0).1 M') → CM m_X8_faultIs LF [.ref 139] Mx Q := fun Q Mx e1 e2 hq => c_faultIs (by rw [e1]; exact t2) t3 (fun j _ => by rw [e2]) hq
  generalize hst : ftF (hrF (M 141) ln) ln 200 0 st0 = rs at *
  obtain ⟨r, st⟩ := rs
  dsimp only at *
  have e139 : M1 139 = M 139 := f1.1 139 (by decide) (by omega)
  have e141 : M1 141 = M 141 := f1.1 141 (by decide) (by omega)
  refine ⟨fun hr => ?_, fun hr => ?_⟩
  · refine CMi pn_X8 rfl rfl rfl LF_nd (fun x X T => ?_)
    exact r_X8_lay_0 X T ac_139 ac_142 ac_140 (mstart _ M1 e139 e141 (fun M2 f2 _ => ⟨fun _ => ⟨rfl, Rel_read hR' f1 f2⟩, fun q => absurd q hr⟩))
  · obtain ⟨p1, p2, p3, p4⟩ := ps1 hr
    have n6 := hpv.1
    refine ⟨st.1, p1, by omega, fun h0 => ?_, fun h0 => ?_⟩
    · refine c_pBecome p1 p2 (fun M2 b1 b2 b3 b4 b5 => ?_)
      refine c_rBegin LF_nd (by decide) ac_11 rc_11.2.2.1 pc_7 (fun M3 g1 g2 g3 g4 g5 => ?_)
      refine CMi pn_X2 rfl rfl rfl LF_nd (fun x X T => ?_)
      refine r_X2_forget_0 X T ac_34 ⟨st.1, ?_, ?_⟩
      · rw [MU_ne (by decide), g4 7 (by omega), b2]; exact p1
      · have fr : ∀ i, (i < 3 ∨ 22 ≤ i) → i ≠ 34 → i ≠ 1 → (MU M3 34 2 (nI 0)) i = M i := fun i hi hi2 hi3 => by
          rw [MU_ne hi2, g4 i (by omega), b5 i (by omega), f1.1 i hi3 (by omega)]
        have x1 : ∀ k, k < 6 → (MU M3 34 2 (nI 0)) 8 k = M1 4 k ∧ (MU M3 34 2 (nI 0)) 9 k = M1 5 k := fun k hk => by
          rw [MU_ne (by decide), MU_ne (by decide), g4 8 (by omega), g4 9 (by omega)]; exact ⟨(b1 k hk).1, (b1 k hk).2.1⟩
        have x2 : (MU M3 34 2 (nI 0)) 7 3 = nI st.1 ∧ (MU M3 34 2 (nI 0)) 7 4 = nI st.2.1 ∧ (MU M3 34 2 (nI 0)) 7 5 = nI st.2.2.1 := by
          rw [MU_ne (by decide), g4 7 (by omega), b2, b3, b4]; exact ⟨p1, p2, p3⟩
        have x3 : ∀ k, k < st.1 → (MU M3 34 2 (nI 0)) 14 k = nI (st.2.2.2 k).2.2 := fun k hk => by
          rw [MU_ne (by decide)]; exact (g1 k (by omega)).1.trans ((b1 k (by omega)).2.2.trans (p4 k hk).2.2)
        have x4 : ∀ k, k < 6 → (MU M3 34 2 (nI 0)) 15 k = nI 0 ∧ (MU M3 34 2 (nI 0)) 16 k = nI 0 ∧ (MU M3 34 2 (nI 0)) 17 k = nI 0 ∧ (MU M3 34 2 (nI 0)) 18 k = nI 0 := fun k hk => by
          rw [MU_ne (by decide), MU_ne (by decide), MU_ne (by decide), MU_ne (by decide)]; exact (g1 k hk).2
        have x5 : (MU M3 34 2 (nI 0)) 13 9 = nI 0 ∧ (MU M3 34 2 (nI 0)) 13 10 = nI 0 ∧ (MU M3 34 2 (nI 0)) 13 11 = nI 0 := by
          rw [MU_ne (by decide)]; exact g2
        have x6 : (MU M3 34 2 (nI 0)) 11 2 = nI 0 := by rw [MU_ne (by decide)]; exact g3
        have x7 : (MU M3 34 2 (nI 0)) 34 2 = nI 0 ∧ (MU M3 34 2 (nI 0)) 34 1 = nI md := by
          rw [MU_at, upd_at, upd_ne (by decide), g4 34 (by omega), b5 34 (by omega), f1.1 34 (by decide) (by omega)]; exact ⟨rfl, h.hmd⟩
        have x8 : (MU M3 34 2 (nI 0)) 1 1 = M 1 1 := by
          rw [MU_ne (by decide), g4 1 (by omega), b5 1 (by omega), f1.2 1 (by decide)]
        generalize MU M3 34 2 (nI 0) = M4 at *
        refine CMi pn_X8 rfl rfl rfl LF_nd (fun x X T => ?_)
        refine r_X8_lay_0 X T ac_139 ac_142 ac_140 (mstart _ M4 (fr _ (by omega) (by omega) (by omega)) (fr _ (by omega) (by omega) (by omega)) (fun M5 f5 ps5 => ⟨fun q => absurd hr q, fun _ => ?_⟩))
        obtain ⟨q1, q2, q3, q4⟩ := ps5 hr
        refine ⟨fun _ => ?_, fun q => ?_⟩
        · rw [q2, q3]
          refine c_begins LF_nd ac_139 ac_142 ac_140 q1 n6 q4 ⟨?_, ?_⟩
          · rw [MR_ne (by decide), MR_at]; unfold bgF; simp
          · have r140 : M5 140 = M 140 := (f5.1 140 (by decide) (by decide)).trans (fr _ (by omega) (by omega) (by omega))
            have hgo : RG M4 (bgF (M5 140) st) cn st.1 st.2.1 st.2.2.1 (fun k => (st.2.2.2 k).1) (fun k => (st.2.2.2 k).2.1) 0 0 (fun _ => 0) (fun _ => 0) md 0 ln := by
              refine RG_mk ⟨x2.1, x2.2.1, x2.2.2, fun f hf => ?_⟩ (bg_RR hpv h0 x3 x4 x5 x6) (by omega) (fun l hl => by rw [fr _ (by omega) (by omega) (by omega)]; exact h.nu l hl) (fun j hj l hl => by rw [fr _ (by omega) (by omega) (by omega)]; exact h.nk j hj l hl) x7.2 h.hmc x7.1 (by omega) (by omega) (fun j hj => absurd hj (Nat.not_lt_zero _)) (TX_m h.tx x8 (by rw [fr _ (by omega) (by omega) (by omega)]) (fr _ (by omega) (by omega) (by omega)) (fr _ (by omega) (by omega) (by omega)))
              rw [(x1 f (by omega)).1, (x1 f (by omega)).2]; exact ⟨(p4 f hf).1, (p4 f hf).2.1⟩
            refine Rel_of hgo (fun i hi => ?_) ?_ ?_ ?_ ?_
            · rw [MR_ne (by omega), MR_ne (by omega)]; exact f5.1 i (by omega) (by omega)
            · rw [MR_ne (by decide), MR_at]
            · rw [MR_at, upd_at]
            · rw [MR_at, upd_ne (by decide)]; exact f5.2 3 (by decide)
            · rw [MR_ne (by decide), MR_ne (by decide)]; exact f5.1 141 (by decide) (by decide)
        · rw [q1, nI_eq0 (by omega)] at q; omega
    · refine CMi pn_X8 rfl rfl rfl LF_nd (fun x X T => ?_)
      refine r_X8_lay_0 X T ac_139 ac_142 ac_140 (mstart _ M1 e139 e141 (fun M2 f2 ps2 => ⟨fun q => absurd hr q, fun _ => ⟨fun q => absurd ?_ q, fun _ => ⟨rfl, Rel_read hR' f1 f2⟩⟩⟩))
      rw [(ps2 hr).1, h0]; rfl
