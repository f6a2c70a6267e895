/-! each call of the face, on the class and on the reference -/
def AP (m7 m8 : MI) (a : List Value) : Prop := ∀ (M : Mem) (cn : Nat), cn < 2 ^ 29 → Rel M cn → CM m7 LF (.ref 0 :: a) M (fun r1 M1 => CM m8 LF (.ref 139 :: a) M1 (fun r2 M2 => r1 = r2 ∧ Rel M2 (cn + 1)))
theorem Rel_same {M : Mem} {cn : Nat} (h : Rel M cn) : Rel M (cn + 1) := by
  obtain ⟨n, e, li, d, s, t, jn, y, v, md, u, ln, h, hu⟩ := h
  exact ⟨n, e, li, d, s, t, jn, y, v, md, u, ln, RG_m h (fun _ _ _ => rfl) h.tx, hu⟩
theorem wl_lt {a : Int32} {lo hi : Nat} (h : a.toInt < lo ∨ (hi : Int) < a.toInt) (hh : hi < 2 ^ 30) (hl : lo < 2 ^ 30) (h1 : ¬ a < nI lo) (h2 : a ≤ nI hi) : False := by
  rw [Int32.lt_iff_toInt_lt, nI_toInt (by omega)] at h1
  rw [Int32.le_iff_toInt_le, nI_toInt (by omega)] at h2
  omega
theorem nI_nl2 {a b : Nat} (h : b ≤ a) (ha : a < 2 ^ 31) : ¬ nI a < nI b := by
  rw [nI_ltI (by omega) (by omega)]; omega
theorem nI_leN {a b : Nat} (h : a ≤ b) (hb : b < 2 ^ 31) : nI a ≤ nI b := by
  rw [nI_leI (by omega) (by omega)]; omega
theorem A_wipe : AP m_X7_wipe m_X8_wipe [] := by
  intro M cn hc hR
  obtain ⟨n, e, li, d, s, t, jn, y, v, md, u, ln, h, hu⟩ := hR
  refine CMi pn_X7 rfl rfl rfl LF_nd (fun x X T => ?_)
  refine r_X7_wipe_0 X T ac_0 ac_1 ?_
  refine CMi pn_X8 rfl rfl rfl LF_nd (fun x X T => ?_)
  refine r_X8_wipe_0 X T ac_139 ?_
  refine ⟨by rw [MU_ne (by decide), h.tx.1, h.tx.2.1], n, e, li, d, s, t, jn, y, v, md, u, 0, ?_, ?_⟩
  · rw [show (MU (MU M 1 1 (nI 0)) 139 3 (nI 0)) 140 = M 140 by rw [MU_ne (by decide), MU_ne (by decide)]]
    refine RG_m h (fun i h1 h2 => by rw [MU_ne (by omega), MU_ne (by omega)]) ⟨?_, ?_, by omega, fun j hj => absurd hj (by omega)⟩
    · rw [MU_ne (by decide), MU_at, upd_at]
    · rw [MU_at, upd_at]
  · rw [MU_at, upd_ne (by decide), MU_ne (by decide)]; exact hu
theorem A_write (a : Int32) : AP m_X7_write m_X8_write [.int a] := by
  intro M cn hc hR
  have hS := Rel_same hR
  obtain ⟨n, e, li, d, s, t, jn, y, v, md, u, ln, h, hu⟩ := hR
  obtain ⟨t1, t2, t3, t4⟩ := h.tx
  refine CMi pn_X7 rfl rfl rfl LF_nd (fun x X T => ?_)
  rcases wl_cases a 32 126 (by decide) (by decide) with ⟨k, k1, k2, rfl⟩ | hno
  · refine r_X7_write_0 X T ac_0 ac_1 ⟨fun q => absurd q (nI_nl2 k1 (by omega)), fun _ => ⟨fun _ => ?_, fun q => absurd (nI_leN k2 (by decide)) q⟩⟩
    refine CMi pn_X5 rfl rfl rfl LF_nd (fun x X T => ?_)
    refine r_X5_append_0 X T ac_1 ac_2 ⟨ln, t1, fun q => absurd q (nI_pos (by omega)), fun _ => ⟨ln, t1, by omega, fun hl => ⟨ln, t1, hl, ln, by rw [MU_ne (by decide)]; exact t1, ?_⟩, fun hl => ?_⟩⟩
    · refine ⟨fun q => absurd q (by decide), fun _ => ?_⟩
      refine CMi pn_X8 rfl rfl rfl LF_nd (fun x X T => ?_)
      refine r_X8_write_0 X T ac_139 ac_141 (c_within_y LF_nd k1 k2 (by decide) ⟨fun _ => ⟨ln, ?_, by omega, fun _ => ⟨ln, ?_, hl, ln, ?_, ln + 1, ?_, ?_⟩, fun q => absurd q (by omega)⟩, fun q => absurd q (by decide)⟩)
      · rw [MU_ne (by decide), MU_ne (by decide)]; exact t2
      · rw [MU_ne (by decide), MU_ne (by decide)]; exact t2
      · rw [MU_ne (by decide), MU_ne (by decide), MU_ne (by decide)]; exact t2
      · rw [MU_at, upd_at]
      · refine ⟨by rw [MU_at, upd_at], n, e, li, d, s, t, jn, y, v, md, u, ln + 1, ?_, ?_⟩
        · rw [show (MU (MU (MU (MU M 2 ln (nI k)) 1 1 (nI (ln + 1))) 141 ln (nI k)) 139 3 (nI (ln + 1))) 140 = M 140 by rw [MU_ne (by decide), MU_ne (by decide), MU_ne (by decide), MU_ne (by decide)]]
          refine RG_m h (fun i h1 h2 => by rw [MU_ne (by omega), MU_ne (by omega), MU_ne (by omega), MU_ne (by omega)]) ⟨?_, ?_, by omega, fun j hj => ?_⟩
          · rw [MU_ne (by decide), MU_ne (by decide), MU_at, upd_at]
          · rw [MU_at, upd_at]
          · rw [MU_ne (by decide), MU_ne (by decide), MU_ne (by decide), MU_at, MU_ne (by decide), MU_at]
            by_cases c : j = ln
            · subst c; rw [upd_at, upd_at]
            · rw [upd_ne c, upd_ne c, MU_ne (by decide), MU_ne (by decide)]; exact t4 j (by omega)
        · rw [MU_at, upd_ne (by decide), MU_ne (by decide), MU_ne (by decide), MU_ne (by decide)]; exact hu
    · refine ⟨fun _ => ?_, fun q => absurd rfl q⟩
      refine CMi pn_X8 rfl rfl rfl LF_nd (fun x X T => ?_)
      refine r_X8_write_0 X T ac_139 ac_141 (c_within_y LF_nd k1 k2 (by decide) ⟨fun _ => ⟨ln, t2, by omega, fun q => absurd (by omega) q, fun q => ⟨rfl, hS⟩⟩, fun q => absurd q (by decide)⟩)
  · have hmod : CM m_X8_write LF [.ref 139, .int a] M (fun r2 M2 => (-1 : Int32) = r2 ∧ Rel M2 (cn + 1)) := by
      refine CMi pn_X8 rfl rfl rfl LF_nd (fun x X T => ?_)
      exact r_X8_write_0 X T ac_139 ac_141 (c_within_n LF_nd hno (by decide) (by decide) ⟨fun q => absurd rfl q, fun _ => ⟨rfl, hS⟩⟩)
    exact r_X7_write_0 X T ac_0 ac_1 ⟨fun _ => hmod, fun h1 => ⟨fun h2 => (wl_lt hno (by decide) (by decide) h1 h2).elim, fun _ => hmod⟩⟩
theorem w6 {w g : Nat → Int32} {n : Nat} (hn : n ≤ 6) (h : ∀ f, f < n → g f = w (12 + f)) (h0 : ∀ f, n ≤ f → f < 6 → w (12 + f) = nI 0) : suF g n = w 12 + w 13 + w 14 + w 15 + w 16 + w 17 := by
  have z : ∀ a : Int32, a + nI 0 = a := fun a => by show a + 0 = a; simp
  have z2 : ∀ a : Int32, nI 0 + a = a := fun a => by show 0 + a = a; simp
  have e : ∀ m, m ≤ 6 → suF (fun f => w (12 + f)) m = suF (fun f => if f < m then w (12 + f) else nI 0) 6 := by
    intro m hm
    have : m = 0 ∨ m = 1 ∨ m = 2 ∨ m = 3 ∨ m = 4 ∨ m = 5 ∨ m = 6 := by omega
    rcases this with rfl | rfl | rfl | rfl | rfl | rfl | rfl <;> simp [suF, z, z2]
  have c : ∀ m, m ≤ n → suF g m = suF (fun f => w (12 + f)) m := by
    intro m
    induction m with
    | zero => intro _; rfl
    | succ m ih => intro hm; rw [suF, suF, ih (by omega), h m (by omega)]
  have c2 : ∀ m, m ≤ 6 → suF (fun f => if f < n then w (12 + f) else nI 0) m = suF (fun f => w (12 + f)) m := by
    intro m
    induction m with
    | zero => intro _; rfl
    | succ m ih =>
      intro hm
      rw [suF, suF, ih (by omega)]
      by_cases q : m < n
      · rw [if_pos q]
      · rw [if_neg q, h0 m (by omega) (by omega)]
  rw [c n (Nat.le_refl _), e n hn, c2 6 (Nat.le_refl _)]
  simp [suF, z2]
theorem A_count (a : Int32) : AP m_X7_count m_X8_count [.int a] := by
  intro M cn hc hR
  have hS := Rel_same hR
  obtain ⟨n, e, li, d, s, t, jn, y, v, md, u, ln, h, hu⟩ := hR
  obtain ⟨hp, hv, hfw, hsr, hj, hlr⟩ := h.rr
  have hm : ∀ (c : Int32), ((a = nI 0 → c = M 140 42) ∧ (a = nI 1 → c = M 140 45) ∧ (a = nI 2 → c = M 140 43) ∧ (a = nI 3 → c = M 140 44) ∧ (a = nI 4 → c = M 140 48) ∧ (a = nI 5 → c = M 140 46) ∧ (a = nI 6 → c = M 140 47) ∧ (a = nI 7 → c = M 140 12 + M 140 13 + M 140 14 + M 140 15 + M 140 16 + M 140 17) ∧ (a = nI 8 → c = nI u) ∧ (a = nI 9 → c = nI ln) ∧ ((∀ j, j < 10 → ¬ a = nI j) → c = -1)) → CM m_X8_count LF [.ref 139, .int a] M (fun r2 M2 => c = r2 ∧ Rel M2 (cn + 1)) := by
    intro c ⟨c0, c1, c2, c3, c4, c5, c6, c7, c8, c9, c10⟩
    refine CMi pn_X8 rfl rfl rfl LF_nd (fun x X T => ?_)
    exact r_X8_count_0 X T ac_139 ac_140 ⟨fun q => ⟨c0 q, hS⟩, fun q => ⟨c1 q, hS⟩, fun q => ⟨c2 q, hS⟩, fun q => ⟨c3 q, hS⟩, fun q => ⟨c4 q, hS⟩, fun q => ⟨c5 q, hS⟩, fun q => ⟨c6 q, hS⟩, fun q => ⟨c7 q, hS⟩, fun q => ⟨u, hu, c8 q, hS⟩, fun q => ⟨ln, h.tx.2.1, c9 q, hS⟩, fun q => ⟨c10 q, hS⟩⟩
  refine CMi pn_X7 rfl rfl rfl LF_nd (fun x X T => ?_)
  refine r_X7_count_0 X T ac_0 ac_7 ac_11 ac_13 ac_34 ac_1 ⟨?_, ?_, ?_, ?_, ?_, ?_, ?_, ?_, ?_, ?_, ?_⟩
  · intro q; subst q
    exact hm _ ⟨fun _ => h.cp.1.trans hp.1.1.symm, fun q => absurd q (by decide), fun q => absurd q (by decide), fun q => absurd q (by decide), fun q => absurd q (by decide), fun q => absurd q (by decide), fun q => absurd q (by decide), fun q => absurd q (by decide), fun q => absurd q (by decide), fun q => absurd q (by decide), fun q => absurd rfl (q 0 (by decide))⟩
  · intro q; subst q
    exact hm _ ⟨fun q => absurd q (by decide), fun _ => hsr.2.1.1, fun q => absurd q (by decide), fun q => absurd q (by decide), fun q => absurd q (by decide), fun q => absurd q (by decide), fun q => absurd q (by decide), fun q => absurd q (by decide), fun q => absurd q (by decide), fun q => absurd q (by decide), fun q => absurd rfl (q 1 (by decide))⟩
  · intro q; subst q
    exact hm _ ⟨fun q => absurd q (by decide), fun q => absurd q (by decide), fun _ => h.cp.2.1.trans hp.2.1.1.symm, fun q => absurd q (by decide), fun q => absurd q (by decide), fun q => absurd q (by decide), fun q => absurd q (by decide), fun q => absurd q (by decide), fun q => absurd q (by decide), fun q => absurd q (by decide), fun q => absurd rfl (q 2 (by decide))⟩
  · intro q; subst q
    exact hm _ ⟨fun q => absurd q (by decide), fun q => absurd q (by decide), fun q => absurd q (by decide), fun _ => h.cp.2.2.1.trans hp.2.2.1.1.symm, fun q => absurd q (by decide), fun q => absurd q (by decide), fun q => absurd q (by decide), fun q => absurd q (by decide), fun q => absurd q (by decide), fun q => absurd q (by decide), fun q => absurd rfl (q 3 (by decide))⟩
  · intro q; subst q
    exact hm _ ⟨fun q => absurd q (by decide), fun q => absurd q (by decide), fun q => absurd q (by decide), fun q => absurd q (by decide), fun _ => hj.trans hv.2.1.1.symm, fun q => absurd q (by decide), fun q => absurd q (by decide), fun q => absurd q (by decide), fun q => absurd q (by decide), fun q => absurd q (by decide), fun q => absurd rfl (q 4 (by decide))⟩
  · intro q; subst q
    exact hm _ ⟨fun q => absurd q (by decide), fun q => absurd q (by decide), fun q => absurd q (by decide), fun q => absurd q (by decide), fun q => absurd q (by decide), fun _ => hsr.2.1.2.1, fun q => absurd q (by decide), fun q => absurd q (by decide), fun q => absurd q (by decide), fun q => absurd q (by decide), fun q => absurd rfl (q 5 (by decide))⟩
  · intro q; subst q
    exact hm _ ⟨fun q => absurd q (by decide), fun q => absurd q (by decide), fun q => absurd q (by decide), fun q => absurd q (by decide), fun q => absurd q (by decide), fun q => absurd q (by decide), fun _ => hsr.2.1.2.2, fun q => absurd q (by decide), fun q => absurd q (by decide), fun q => absurd q (by decide), fun q => absurd rfl (q 6 (by decide))⟩
  · intro q; subst q
    refine c_allWeights LF_nd rc_11.2.2.1 pc_7 h.cp.1 hp.1.2.2 ?_
    exact hm _ ⟨fun q => absurd q (by decide), fun q => absurd q (by decide), fun q => absurd q (by decide), fun q => absurd q (by decide), fun q => absurd q (by decide), fun q => absurd q (by decide), fun q => absurd q (by decide), fun _ => w6 hp.1.2.2 (fun f hf => (hsr.1 f hf).1.trans (by rw [Nat.zero_add])) (fun f h1 h2 => by have := hfw.1 f h1 h2; rwa [Nat.zero_add] at this), fun q => absurd q (by decide), fun q => absurd q (by decide), fun q => absurd rfl (q 7 (by decide))⟩
  · intro q; subst q
    exact hm _ ⟨fun q => absurd q (by decide), fun q => absurd q (by decide), fun q => absurd q (by decide), fun q => absurd q (by decide), fun q => absurd q (by decide), fun q => absurd q (by decide), fun q => absurd q (by decide), fun q => absurd q (by decide), fun _ => h.hu, fun q => absurd q (by decide), fun q => absurd rfl (q 8 (by decide))⟩
  · intro q; subst q
    exact hm _ ⟨fun q => absurd q (by decide), fun q => absurd q (by decide), fun q => absurd q (by decide), fun q => absurd q (by decide), fun q => absurd q (by decide), fun q => absurd q (by decide), fun q => absurd q (by decide), fun q => absurd q (by decide), fun q => absurd q (by decide), fun _ => h.tx.1, fun q => absurd rfl (q 9 (by decide))⟩
  · intro q
    exact hm _ ⟨fun z => absurd z (q 0 (by decide)), fun z => absurd z (q 1 (by decide)), fun z => absurd z (q 2 (by decide)), fun z => absurd z (q 3 (by decide)), fun z => absurd z (q 4 (by decide)), fun z => absurd z (q 5 (by decide)), fun z => absurd z (q 6 (by decide)), fun z => absurd z (q 7 (by decide)), fun z => absurd z (q 8 (by decide)), fun z => absurd z (q 9 (by decide)), fun _ => rfl⟩

theorem A_undo : AP m_X7_undo m_X8_undo [] := by
  intro M cn hc hR
  have hS := Rel_same hR
  obtain ⟨n, e, li, d, s, t, jn, y, v, md, u, ln, h, hu⟩ := hR
  refine CMi pn_X7 rfl rfl rfl LF_nd (fun x X T => ?_)
  have hu4 := h.hu4
  have hum := h.hum
  have hmc := h.hmc
  cases u with
  | zero =>
    refine r_X7_undo_0 X T ac_0 ac_34 (c_giveBack_n LF_nd ac_34 ac_35 ac_11 h.hu ⟨fun _ => ?_, fun q => absurd rfl q⟩)
    refine CMi pn_X8 rfl rfl rfl LF_nd (fun x X T => ?_)
    exact r_X8_undo_0 X T ac_139 ⟨0, hu, by omega, fun q => absurd q (by omega), fun _ => ⟨rfl, hS⟩⟩
  | succ u =>
    obtain ⟨t', jn', y', v', ht', hr'⟩ := h.hi 0 (by omega)
    cases md with
    | zero => omega
    | succ md =>
      rw [show md + 1 - 1 - 0 = md by omega] at hr'
      refine r_X7_undo_0 X T ac_0 ac_34 (c_giveBack_y LF_nd ac_34 ac_35 rc_k rc_11 hr' h.nu h.hmd (by omega) h.hu (by omega) (fun M1 k1 k2 k3 k4 k5 => ⟨fun q => absurd q (by decide), fun _ => ⟨u, k4, ?_⟩⟩))
      have e139 : M1 139 = M 139 := k5 _ (by omega) (by omega)
      refine CMi pn_X8 rfl rfl rfl LF_nd (fun x X T => ?_)
      refine r_X8_undo_0 X T ac_139 ⟨u + 1, by rw [e139]; exact hu, by omega, fun _ => ⟨u + 1, by rw [e139]; exact hu, u, ?_, ?_⟩, fun q => absurd q (by omega)⟩
      · rw [MU_at, upd_at, pk_sub (by omega)]; rfl
      · refine c_copies LF_nd ac_139 ac_140 (by omega) (by omega) (by omega) ⟨u, ?_, rfl, ?_⟩
        · rw [MR_ne (by decide), MU_at, upd_at, pk_sub (by omega)]; rfl
        · rw [MU_ne (i := 139) (j := 140) (by decide), k5 140 (by omega) (by omega)]
          generalize hM2 : MR (MU M1 139 1 (nI (u + 1) - nI 1)) 140 (cpF (M 140) (153 * (2 + u)) 0 153) = M2
          have f0 : ∀ i, i < 139 → M2 i = M1 i := fun i hi => by rw [← hM2, MR_ne (by omega), MU_ne (by omega)]
          have f1 : M2 140 = cpF (M 140) (153 * (2 + u)) 0 153 := by rw [← hM2, MR_at]
          have f2 : M2 139 1 = nI u := by rw [← hM2, MR_ne (by decide), MU_at, upd_at, pk_sub (by omega)]; rfl
          have f3 : M2 139 3 = M 139 3 := by rw [← hM2, MR_ne (by decide), MU_at, upd_ne (by decide), e139]
          have f4 : M2 141 = M 141 := by rw [← hM2, MR_ne (by decide), MU_ne (by decide)]; exact k5 _ (by omega) (by omega)
          have hgo : RG M1 (cpF (M 140) (153 * (2 + u)) 0 153) cn n e li d s t' jn' y' v' md u ln := by
            refine RG_mk (CP_m h.cp (k5 _ (by omega) (by omega)) (k5 _ (by omega) (by omega)) (k5 _ (by omega) (by omega))) (RR_w k1 (fun q hq => ?_)) ht' k2 (fun j hj l hl => by rw [k5 _ (by omega) (by omega)]; exact h.nk j hj l hl) k3 (by omega) k4 (by omega) (by omega) ?_ (TX_m h.tx (by rw [k5 _ (by omega) (by omega)]) (by rw [k5 _ (by omega) (by omega)]) (k5 _ (by omega) (by omega)) (k5 _ (by omega) (by omega)))
            · rw [cpF_in hq]; congr 2; omega
            · intro j hj
              obtain ⟨t2, jn2, y2, v2, ht2, hr2⟩ := h.hi (j + 1) (by omega)
              have hm4 : (md - 1 - j) % 4 < 4 := Nat.mod_lt _ (by decide)
              rw [show (md + 1 - 1 - (j + 1)) % 4 = (md - 1 - j) % 4 by congr 1; omega, show 153 * (1 + (u + 1) - (j + 1)) = 153 * (1 + u - j) by omega] at hr2
              exact ⟨t2, jn2, y2, v2, ht2, RR_m (RR_w hr2 (fun q hq => cpF_out (by omega))) (fun i h1 h2 => k5 i (by omega) (by omega))⟩
          exact Rel_of hgo f0 f1 f2 (by rw [f3, e139]) (by rw [f4, k5 _ (by omega) (by omega)])
