/-! calls that change what goes on -/
theorem c_minds2 {M1 : Mem} {Q : Int32 → Mem → Prop} {w : Nat → Int32} {u : Nat} (e0 : M1 140 = w) (hu : M1 139 1 = nI u) (h4 : u ≤ 4) (h : ∀ Mm : Mem, Mm 140 = mdF w u → Mm 139 1 = nI (m1F u) → Mm 139 3 = M1 139 3 → (∀ i, i ≠ 139 → i ≠ 140 → Mm i = M1 i) → Q 0 Mm) : CM m_X8_minds LF [.ref 139] M1 Q := by
  refine c_minds LF_nd ac_139 ac_140 hu h4 (h _ ?_ ?_ ?_ (fun i h1 h2 => ?_))
  · rw [MR_ne (by decide), MR_at, e0]
  · rw [MR_at, upd_at]
  · rw [MR_at, upd_ne (by decide)]
  · rw [MR_ne h1, MR_ne h2]
theorem PW_x {r n e li : Nat} {w w' : Nat → Int32} {d s : Nat → Nat} (h : PW w r n e li d s) (hw : ∀ q, (q < 12 ∨ (42 ≤ q ∧ q < 45)) → w' (r + q) = w (r + q)) : PW w' r n e li d s := by
  obtain ⟨⟨a, a1, a2⟩, ⟨b, b1⟩, ⟨c, c1⟩, g⟩ := h
  refine ⟨⟨by rw [hw 42 (by omega)]; exact a, a1, a2⟩, ⟨by rw [hw 43 (by omega)]; exact b, b1⟩, ⟨by rw [hw 44 (by omega)]; exact c, c1⟩, fun f hf => ?_⟩
  rw [hw f (by omega), show w' (r + 6 + f) = w (r + 6 + f) by rw [Nat.add_assoc]; exact hw _ (by omega)]
  exact g f hf
theorem RR_renew {M : Mem} {w : Nat → Int32} {n e li t jn f v1 : Nat} {d s y v : Nat → Nat} (h : RR M 11 w 0 n e li d s t jn y v) (hf : f < n) (hv1 : v1 < 100) : RR (MU (MU M (13 + 2) f (nI v1)) (13 + 3) f (nI 0)) 11 (upd (upd w (18 + f) (nI v1)) (24 + f) (nI 0)) 0 n e li d s t jn (fun g => if g = f then 0 else y g) (fun g => if g = f then v1 else v g) := by
  obtain ⟨hp, hv, hfw, hsr, hj, hlr⟩ := h
  have hn6 : n ≤ 6 := hp.1.2.2
  have hw : ∀ q, q ≠ 18 + f → q ≠ 24 + f → (upd (upd w (18 + f) (nI v1)) (24 + f) (nI 0)) q = w q := fun q h1 h2 => by rw [upd_ne h2, upd_ne h1]
  have a18 : (upd (upd w (18 + f) (nI v1)) (24 + f) (nI 0)) (18 + f) = nI v1 := by rw [upd_ne (by omega), upd_at]
  have a24 : (upd (upd w (18 + f) (nI v1)) (24 + f) (nI 0)) (24 + f) = nI 0 := by rw [upd_at]
  generalize (upd (upd w (18 + f) (nI v1)) (24 + f) (nI 0)) = w' at *
  have hm : ∀ i, i ≠ 15 → i ≠ 16 → (MU (MU M (13 + 2) f (nI v1)) (13 + 3) f (nI 0)) i = M i := fun i h1 h2 => by rw [MU_ne h2, MU_ne h1]
  have m15 : ∀ g, (MU (MU M (13 + 2) f (nI v1)) (13 + 3) f (nI 0)) 15 g = if g = f then nI v1 else M 15 g := fun g => by
    rw [MU_ne (by decide), MU_at]; rfl
  have m16 : ∀ g, (MU (MU M (13 + 2) f (nI v1)) (13 + 3) f (nI 0)) 16 g = if g = f then nI 0 else M 16 g := fun g => by
    rw [MU_at, MU_ne (by decide)]; rfl
  generalize (MU (MU M (13 + 2) f (nI v1)) (13 + 3) f (nI 0)) = M' at *
  refine ⟨PW_x hp (fun q hq => hw _ (by omega) (by omega)), ⟨?_, ?_, fun g hg => ?_⟩, ⟨fun g h1 h2 => ?_, ?_⟩, ⟨fun g hg => ?_, ?_, ?_⟩, ?_, fun l hl => ?_⟩
  · rw [hw _ (by omega) (by omega)]; exact hv.1
  · rw [hw _ (by omega) (by omega)]; exact hv.2.1
  · have hd := (hp.2.2.2 g hg)
    obtain ⟨⟨b1, b2⟩, b3, b4⟩ := hv.2.2 g hg
    dsimp only
    by_cases c : g = f
    · subst c
      rw [if_pos rfl, if_pos rfl]
      refine ⟨⟨?_, by omega⟩, ?_, hv1⟩
      · rw [show 0 + 24 + g = 24 + g by omega]; exact a24
      · rw [show 0 + 18 + g = 18 + g by omega]; exact a18
    · rw [if_neg c, if_neg c, hw _ (by omega) (by omega), hw _ (by omega) (by omega)]
      exact ⟨⟨b1, b2⟩, b3, b4⟩
  · rw [hw _ (by omega) (by omega)]; exact hfw.1 g h1 h2
  · obtain ⟨sy, c1, c2, c3⟩ := hfw.2
    refine ⟨sy, by rw [hw _ (by omega) (by omega)]; exact c1, c2, fun g hg => by rw [hw _ (by omega) (by omega)]; exact c3 g hg⟩
  · obtain ⟨c1, c2, c3, c4, c5⟩ := hsr.1 g hg
    rw [hm _ (by omega) (by omega), hm (11 + 2 + 4) (by omega) (by omega), hm (11 + 2 + 5) (by omega) (by omega), hw (0 + 12 + g) (by omega) (by omega), hw (0 + 30 + g) (by omega) (by omega), hw (0 + 36 + g) (by omega) (by omega)]
    refine ⟨c1, (m15 g).trans ?_, (m16 g).trans ?_, c4, c5⟩
    · by_cases c : g = f
      · subst c; rw [if_pos rfl, show 0 + 18 + g = 18 + g by omega, a18]
      · rw [if_neg c, hw _ (by omega) (by omega)]; exact c2
    · by_cases c : g = f
      · subst c; rw [if_pos rfl, show 0 + 24 + g = 24 + g by omega, a24]
      · rw [if_neg c, hw _ (by omega) (by omega)]; exact c3
  · rw [hm _ (by omega) (by omega), hw _ (by omega) (by omega), hw _ (by omega) (by omega), hw _ (by omega) (by omega)]; exact hsr.2.1
  · intro k hk hkt
    rw [hm _ (by omega) (by omega), hm _ (by omega) (by omega), hm _ (by omega) (by omega), hw _ (by omega) (by omega), hw _ (by omega) (by omega), hw _ (by omega) (by omega), hw _ (by omega) (by omega)]; exact hsr.2.2 k hk hkt
  · rw [hm _ (by omega) (by omega)]; exact hj
  · exact LR_m (LR_w hn6 (hlr l hl) (fun j hj => hw _ (by omega) (by omega))) (hm _ (by omega) (by omega)) (hm _ (by omega) (by omega)) (hm _ (by omega) (by omega))
theorem A_renew (a : Int32) : AP m_X7_renew m_X8_renew [.int a] := by
  intro M cn hc hR
  have hS := Rel_same hR
  obtain ⟨n, e, li, d, s, t, jn, y, v, md, u, ln, h, hu⟩ := hR
  have hn6 : n ≤ 6 := h.rr.1.1.2.2
  have hn : M 140 42 = nI n := h.rr.1.1.1
  refine CMi pn_X7 rfl rfl rfl LF_nd (fun x X T => ?_)
  rcases ix_cases a (n := n) (by omega) with ⟨f, hf, rfl⟩ | hno
  · refine r_X7_renew_0 X T ac_0 ac_7 ac_34 ac_11 ac_13 (c_hasFile_y LF_nd ac_7 h.cp.1 hn6 hf ⟨fun _ => RG_keep h hc (fun M1 g k => ?_), fun q => absurd q (by decide)⟩)
    obtain ⟨hp, hv, hfw, hsr, hj, hlr⟩ := g.rr
    obtain ⟨-, v1, v2⟩ := hv.2.2 f hf
    refine c_startNew LF_nd rc_11.2.2.1 (by omega) ((hsr.1 f hf).2.1.trans v1) v2 ?_
    have hlt : (v f + 1) % 100 < 100 := Nat.mod_lt _ (by decide)
    have hrr := RR_renew g.rr hf hlt
    have hgo := RG_now g (M' := MU (MU M1 (11 + 2 + 2) f (nI ((v f + 1) % 100))) (11 + 2 + 3) f (nI 0)) (fun i hi => by rw [MU_ne (by omega), MU_ne (by omega)]) hrr g.ht (fun l hl => by rw [MU_ne (by omega), MU_ne (by omega)]; exact g.nu l hl) (fun q hq => by rw [upd_ne (by omega), upd_ne (by omega)])
    generalize hM2 : MU (MU M1 (11 + 2 + 2) f (nI ((v f + 1) % 100))) (11 + 2 + 3) f (nI 0) = M2 at *
    have e139 : M2 139 = M 139 := by rw [← hM2, MU_ne (by decide), MU_ne (by decide)]; exact k _ (by omega)
    have e140 : M2 140 = M 140 := by rw [← hM2, MU_ne (by decide), MU_ne (by decide)]; exact k _ (by omega)
    refine CMi pn_X8 rfl rfl rfl LF_nd (fun x X T => ?_)
    refine r_X8_renewN_0 X T ac_139 ac_140 (c_isFile_y LF_nd ac_139 ac_140 (by rw [e140]; exact hn) hn6 hf ⟨fun _ => c_minds2 e140 (by rw [e139]; exact hu) h.hu4 (fun Mm z1 z2 z3 z4 => ⟨by omega, by decide, by omega, by omega, by omega, ?_⟩), fun q => absurd q (by decide)⟩)
    have ev : Mm 140 (18 + f) = nI (v f) := by
      rw [z1]; have := v1; rwa [show 0 + 18 + f = 18 + f by omega] at this
    rw [ev, nI_add, show nI (v f + 1) - nI (v f + 1) / nI 100 * nI 100 = nI ((v f + 1) % 100) from pk_rem (by omega) (by decide) (by decide)]
    refine ⟨?_, Rel_fin hgo (fun i hi => ?_) ?_ ?_ ?_ ?_⟩
    · rw [MU_at, upd_ne (by omega), MU_at, upd_at]
    · rw [MU_ne (by omega), MU_ne (by omega)]; exact z4 i (by omega) (by omega)
    · rw [MU_at, MU_at, z1]
    · rw [MU_ne (by decide), MU_ne (by decide)]; exact z2
    · rw [MU_ne (by decide), MU_ne (by decide)]; exact z3
    · rw [MU_ne (by decide), MU_ne (by decide)]; exact z4 _ (by decide) (by decide)
  · refine r_X7_renew_0 X T ac_0 ac_7 ac_34 ac_11 ac_13 (c_hasFile_n LF_nd ac_7 h.cp.1 hn6 hno ⟨fun q => absurd rfl q, fun _ => ?_⟩)
    refine CMi pn_X8 rfl rfl rfl LF_nd (fun x X T => ?_)
    exact r_X8_renew_0 X T ac_139 ac_140 (c_isFile_n LF_nd ac_139 ac_140 hn hn6 hno ⟨fun q => absurd rfl q, fun _ => ⟨rfl, hS⟩⟩)
theorem RR_weigh {M : Mem} {w : Nat → Int32} {n e li t jn f : Nat} {a : Int32} {d s y v : Nat → Nat} (h : RR M 11 w 0 n e li d s t jn y v) (hf : f < n) : RR (MU M 14 f a) 11 (upd w (12 + f) a) 0 n e li d s t jn y v := by
  obtain ⟨hp, hv, hfw, hsr, hj, hlr⟩ := h
  have hn6 : n ≤ 6 := hp.1.2.2
  have hw : ∀ q, q ≠ 12 + f → (upd w (12 + f) a) q = w q := fun q h1 => by rw [upd_ne h1]
  have a12 : (upd w (12 + f) a) (12 + f) = a := by rw [upd_at]
  generalize (upd w (12 + f) a) = w' at *
  have hm : ∀ i, i ≠ 14 → (MU M 14 f a) i = M i := fun i h1 => by rw [MU_ne h1]
  have m14 : ∀ g, (MU M 14 f a) 14 g = if g = f then a else M 14 g := fun g => by
    rw [MU_at]; rfl
  generalize (MU M 14 f a) = M' at *
  refine ⟨PW_x hp (fun q hq => hw _ (by omega)), ⟨?_, ?_, fun g hg => ?_⟩, ⟨fun g h1 h2 => ?_, ?_⟩, ⟨fun g hg => ?_, ?_, ?_⟩, ?_, fun l hl => ?_⟩
  · rw [hw _ (by omega)]; exact hv.1
  · rw [hw _ (by omega)]; exact hv.2.1
  · rw [hw _ (by omega), hw _ (by omega)]
    exact hv.2.2 g hg
  · rw [hw _ (by omega)]; exact hfw.1 g h1 h2
  · obtain ⟨sy, c1, c2, c3⟩ := hfw.2
    refine ⟨sy, by rw [hw _ (by omega)]; exact c1, c2, fun g hg => by rw [hw _ (by omega)]; exact c3 g hg⟩
  · obtain ⟨c1, c2, c3, c4, c5⟩ := hsr.1 g hg
    rw [hm (11 + 2 + 2) (by omega), hm (11 + 2 + 3) (by omega), hm (11 + 2 + 4) (by omega), hm (11 + 2 + 5) (by omega), hw (0 + 18 + g) (by omega), hw (0 + 24 + g) (by omega), hw (0 + 30 + g) (by omega), hw (0 + 36 + g) (by omega)]
    refine ⟨(m14 g).trans ?_, c2, c3, c4, c5⟩
    by_cases c : g = f
    · subst c; rw [if_pos rfl, show 0 + 12 + g = 12 + g by omega, a12]
    · rw [if_neg c, hw _ (by omega)]; exact c1
  · rw [hm _ (by omega), hw _ (by omega), hw _ (by omega), hw _ (by omega)]; exact hsr.2.1
  · intro k hk hkt
    rw [hm _ (by omega), hm _ (by omega), hm _ (by omega), hw _ (by omega), hw _ (by omega), hw _ (by omega), hw _ (by omega)]; exact hsr.2.2 k hk hkt
  · rw [hm _ (by omega)]; exact hj
  · exact LR_m (LR_w hn6 (hlr l hl) (fun j hj => hw _ (by omega))) (hm _ (by omega)) (hm _ (by omega)) (hm _ (by omega))
theorem A_weigh (a b : Int32) : AP m_X7_weigh m_X8_weigh [.int a, .int b] := by
  intro M cn hc hR
  have hS := Rel_same hR
  obtain ⟨n, e, li, d, s, t, jn, y, v, md, u, ln, h, hu⟩ := hR
  have hn6 : n ≤ 6 := h.rr.1.1.2.2
  have hn : M 140 42 = nI n := h.rr.1.1.1
  refine CMi pn_X7 rfl rfl rfl LF_nd (fun x X T => ?_)
  rcases ix_cases a (n := n) (by omega) with ⟨f, hf, rfl⟩ | hno
  · have e14 : M 14 f = M 140 (12 + f) := by
      have := (h.rr.2.2.2.1.1 f hf).1
      rwa [show 0 + 12 + f = 12 + f by omega] at this
    rcases wl_cases b 1 9 (by decide) (by decide) with ⟨kk, k1, k2, rfl⟩ | hno
    · refine r_X7_weighN_0 X T ac_0 ac_7 ac_11 ac_13 ac_14 ac_34 (c_hasFile_y LF_nd ac_7 h.cp.1 hn6 hf ⟨fun q => absurd q (by decide), fun _ => ⟨fun q => absurd q (nI_nl2 k1 (by omega)), fun _ => ⟨fun _ => ⟨by omega, fun hne => RG_keep h hc (fun M1 g k => ⟨by omega, ?_⟩), fun heq => ?_⟩, fun q => absurd (nI_leN k2 (by decide)) q⟩⟩⟩)
      · have hgo := RG_now g (M' := MU M1 14 f (nI kk)) (fun i hi => by rw [MU_ne (by omega)]) (RR_weigh g.rr hf) g.ht (fun l hl => by rw [MU_ne (by omega)]; exact g.nu l hl) (fun q hq => by rw [upd_ne (by omega)])
        generalize hM2 : MU M1 14 f (nI kk) = M2 at *
        have e139 : M2 139 = M 139 := by rw [← hM2, MU_ne (by decide)]; exact k _ (by omega)
        have e140 : M2 140 = M 140 := by rw [← hM2, MU_ne (by decide)]; exact k _ (by omega)
        refine CMi pn_X8 rfl rfl rfl LF_nd (fun x X T => ?_)
        refine r_X8_weighN_0 X T ac_139 ac_140 (c_isFile_y LF_nd ac_139 ac_140 (by rw [e140]; exact hn) hn6 hf ⟨fun q => absurd q (by decide), fun _ => c_within_y LF_nd k1 k2 (by decide) ⟨fun _ => ⟨by omega, fun _ => c_minds2 e140 (by rw [e139]; exact hu) h.hu4 (fun Mm z1 z2 z3 z4 => ⟨by omega, ?_, Rel_fin hgo (fun i hi => ?_) ?_ ?_ ?_ ?_⟩), fun q => absurd (by rw [e14, ← q, e140]) hne⟩, fun q => absurd q (by decide)⟩⟩)
        · rw [e140, e14]
        · rw [MU_ne (by omega)]; exact z4 i (by omega) (by omega)
        · rw [MU_at, z1]
        · rw [MU_ne (by decide)]; exact z2
        · rw [MU_ne (by decide)]; exact z3
        · rw [MU_ne (by decide)]; exact z4 _ (by decide) (by decide)
      · refine CMi pn_X8 rfl rfl rfl LF_nd (fun x X T => ?_)
        exact r_X8_weighN_0 X T ac_139 ac_140 (c_isFile_y LF_nd ac_139 ac_140 hn hn6 hf ⟨fun q => absurd q (by decide), fun _ => c_within_y LF_nd k1 k2 (by decide) ⟨fun _ => ⟨by omega, fun q => absurd (e14.symm.trans heq) q, fun _ => ⟨rfl, hS⟩⟩, fun q => absurd q (by decide)⟩⟩)
    · have hmod : CM m_X8_weigh LF [.ref 139, .int (nI f), .int b] M (fun r2 M2 => (-1 : Int32) = r2 ∧ Rel M2 (cn + 1)) := by
        refine CMi pn_X8 rfl rfl rfl LF_nd (fun x X T => ?_)
        exact r_X8_weighN_0 X T ac_139 ac_140 (c_isFile_y LF_nd ac_139 ac_140 hn hn6 hf ⟨fun q => absurd q (by decide), fun _ => c_within_n LF_nd hno (by decide) (by decide) ⟨fun q => absurd rfl q, fun _ => ⟨rfl, hS⟩⟩⟩)
      exact r_X7_weighN_0 X T ac_0 ac_7 ac_11 ac_13 ac_14 ac_34 (c_hasFile_y LF_nd ac_7 h.cp.1 hn6 hf ⟨fun q => absurd q (by decide), fun _ => ⟨fun _ => hmod, fun h1 => ⟨fun h2 => (wl_lt hno (by decide) (by decide) h1 h2).elim, fun _ => hmod⟩⟩⟩)
  · refine r_X7_weigh_0 X T ac_0 ac_7 ac_11 ac_13 ac_14 ac_34 (c_hasFile_n LF_nd ac_7 h.cp.1 hn6 hno ⟨fun _ => ?_, fun q => absurd rfl q⟩)
    refine CMi pn_X8 rfl rfl rfl LF_nd (fun x X T => ?_)
    exact r_X8_weigh_0 X T ac_139 ac_140 (c_isFile_n LF_nd ac_139 ac_140 hn hn6 hno ⟨fun _ => ⟨rfl, hS⟩, fun q => absurd rfl q⟩)
