/-! repairs -/
theorem bx0 : nI 0 ^^^ nI 1 = nI 1 := by decide
theorem bx1 : nI 1 ^^^ nI 1 = nI 0 := by decide
theorem le4 {a : Int32} {t : Nat} (ht : t < 2 ^ 30) (h : ¬ a < nI t) : ¬ a = -4 := by
  intro q; subst q
  apply h
  rw [Int32.lt_iff_toInt_lt, nI_toInt (by omega), show (-4 : Int32).toInt = -4 from by decide]
  omega
theorem RR_fill {M : Mem} {w : Nat → Int32} {n e li t jn l f g : Nat} {d s y v : Nat → Nat} (h : RR M 11 w 0 n e li d s t jn y v) (hl : l < jn) (hf : f < n) (hg : g < 2 ^ (d f + s f)) (hk : ¬ w (89 + 16 * l + 2) = -4) : RR (MU M (11 + 1 + 10 + 3 * l + 1) f (nI g)) 11 (upd w (89 + 16 * l + 10 + f) (nI g)) 0 n e li d s t jn y v := by
  obtain ⟨hp, hv, hfw, hsr, hj, hlr⟩ := h
  have hn6 : n ≤ 6 := hp.1.2.2
  have hj4 : jn ≤ 4 := hv.2.1.2
  have hw : ∀ q, q ≠ 89 + 16 * l + 10 + f → (upd w (89 + 16 * l + 10 + f) (nI g)) q = w q := fun q h1 => by rw [upd_ne h1]
  have aw : (upd w (89 + 16 * l + 10 + f) (nI g)) (89 + 16 * l + 10 + f) = nI g := by rw [upd_at]
  generalize (upd w (89 + 16 * l + 10 + f) (nI g)) = w' at *
  have hm : ∀ i, i ≠ 11 + 1 + 10 + 3 * l + 1 → (MU M (11 + 1 + 10 + 3 * l + 1) f (nI g)) i = M i := fun i h1 => by rw [MU_ne h1]
  have am : ∀ q, (MU M (11 + 1 + 10 + 3 * l + 1) f (nI g)) (11 + 1 + 10 + 3 * l + 1) q = if q = f then nI g else M (11 + 1 + 10 + 3 * l + 1) q := fun q => by
    rw [MU_at]; rfl
  generalize (MU M (11 + 1 + 10 + 3 * l + 1) f (nI g)) = M' at *
  refine ⟨PW_x hp (fun q hq => hw _ (by omega)), ⟨?_, ?_, fun g hg => ?_⟩, ⟨fun g h1 h2 => ?_, ?_⟩, ⟨fun g hg => ?_, ?_, ?_⟩, ?_, fun l' hl' => ?_⟩
  · rw [hw _ (by omega)]; exact hv.1
  · rw [hw _ (by omega)]; exact hv.2.1
  · rw [hw _ (by omega), hw _ (by omega)]
    exact hv.2.2 g hg
  · rw [hw _ (by omega)]; exact hfw.1 g h1 h2
  · obtain ⟨sy, c1, c2, c3⟩ := hfw.2
    refine ⟨sy, by rw [hw _ (by omega)]; exact c1, c2, fun g hg => by rw [hw _ (by omega)]; exact c3 g hg⟩
  · rw [hm (11 + 2 + 1) (by omega), hm (11 + 2 + 2) (by omega), hm (11 + 2 + 3) (by omega), hm (11 + 2 + 4) (by omega), hm (11 + 2 + 5) (by omega), hw (0 + 12 + g) (by omega), hw (0 + 18 + g) (by omega), hw (0 + 24 + g) (by omega), hw (0 + 30 + g) (by omega), hw (0 + 36 + g) (by omega)]
    exact hsr.1 g hg
  · rw [hm _ (by omega), hw _ (by omega), hw _ (by omega), hw _ (by omega)]; exact hsr.2.1
  · intro k hk hkt
    rw [hm _ (by omega), hm _ (by omega), hm _ (by omega), hw _ (by omega), hw _ (by omega), hw _ (by omega), hw _ (by omega)]; exact hsr.2.2 k hk hkt
  · rw [hm _ (by omega)]; exact hj
  · by_cases c : l' = l
    · subst c
      obtain ⟨b1, b2, b3⟩ := hlr l' hl'
      rw [show 0 + 89 + 16 * l' = 89 + 16 * l' by omega] at *
      refine ⟨?_, fun f' hf' => ?_, ?_⟩
      · rw [hm _ (by omega), hw _ (by omega), hw _ (by omega), hw _ (by omega), hw _ (by omega)]; exact b1
      · by_cases c2 : f' = f
        · subst c2
          rw [aw, am, if_pos rfl]
          exact ⟨rfl, g, rfl, hg⟩
        · rw [am, if_neg c2, hw _ (by omega)]; exact b2 f' hf'
      · rcases b3 with ⟨z, -⟩ | ⟨z, z1, z2, z3⟩
        · exact absurd z hk
        · exact Or.inr ⟨z, by rw [hw _ (by omega)]; exact z1, z2, fun f' hf' => by rw [hm _ (by omega), hw _ (by omega)]; exact z3 f' hf'⟩
    · exact LR_m (LR_w hn6 (hlr l' hl') (fun j hj => hw _ (by omega))) (hm _ (by omega)) (hm _ (by omega)) (hm _ (by omega))
theorem zc_start {h d s : Nat} (hh : h < 2 ^ (d + s)) (hds : d + s ≤ 18) : d - pcN h 18 ≤ zc h 0 (d + s) := by
  have a := zc_pc h (d + s) 0
  have b := pcN_hi hh (18 - (d + s))
  rw [show d + s + (18 - (d + s)) = 18 by omega] at b
  rw [Nat.zero_add, ← b, show pcN h 0 = 0 from rfl] at a
  omega
theorem A_repair (a b : Int32) : AP m_X7_repair m_X8_repair [.int a, .int b] := by
  intro M cn hc hR
  have hS := Rel_same hR
  obtain ⟨n, e, li, d, s, t, jn, y, v, md, u, ln, h, hu⟩ := hR
  have hn6 : n ≤ 6 := h.rr.1.1.2.2
  have hn : M 140 42 = nI n := h.rr.1.1.1
  have hj4 : jn ≤ 4 := h.rr.2.1.2.1.2
  have hj : M 11 2 = nI jn := h.rr.2.2.2.2.1
  have h48 : M 140 48 = nI jn := h.rr.2.1.2.1.1
  have h45 : M 140 45 = nI t := h.rr.2.1.1.1
  have hck : M 13 9 = nI t := h.rr.2.2.2.1.2.1.1.trans h45
  have ht := h.ht
  refine CMi pn_X7 rfl rfl rfl LF_nd (fun x X T => ?_)
  rcases ix_cases a (n := jn) (by omega) with ⟨l, hl, rfl⟩ | hno
  · rcases ix_cases b (n := n) (by omega) with ⟨f, hf, rfl⟩ | hno
    · obtain ⟨b1, b2, b3⟩ := h.rr.2.2.2.2.2 l hl
      obtain ⟨hd, hd1, hd12, hs, hs6⟩ := h.rr.1.2.2.2 f hf
      obtain ⟨c1, hh, c2, c3⟩ := b2 f hf
      rw [show 0 + 89 + 16 * l = 89 + 16 * l by omega] at *
      rw [show 0 + f = f by omega] at hd
      have hh18 : hh < 2 ^ 18 := Nat.lt_of_lt_of_le c3 (Nat.pow_le_pow_right (by decide) (by omega))
      have hla : laF (M 140) l f = nI (d f - pcN hh 18) := laF_n hd hd12 c2 hh18
      have e6 : M (12 + 10 + 3 * l) 6 = M 140 (89 + 16 * l + 2) := b1.2.2.1
      have hmodN : (M (12 + 10 + 3 * l) 6 < nI t ∨ d f - pcN hh 18 = 0) → CM m_X8_repair LF [.ref 139, .int (nI l), .int (nI f)] M (fun r2 M2 => (-2 : Int32) = r2 ∧ Rel M2 (cn + 1)) := by
        intro hor
        refine CMi pn_X8 rfl rfl rfl LF_nd (fun x X T => ?_)
        refine r_X8_repairN_0 X T ac_139 (c_isLis_y LF_nd ac_139 ac_140 h48 hj4 hl ⟨fun q => absurd q (by decide), fun _ => c_isFile_y LF_nd ac_139 ac_140 hn hn6 hf ⟨fun _ => c_lacks LF_nd ac_139 ac_140 (by omega) (by omega) (c_knows LF_nd ac_139 ac_140 (by omega) ⟨fun _ => ⟨rfl, hS⟩, fun q => ⟨fun q2 => ?_, fun _ => ⟨rfl, hS⟩⟩⟩), fun q => absurd q (by decide)⟩⟩)
        rw [hla] at q2
        rcases hor with q3 | q3
        · rw [e6, ← h45] at q3
          rw [if_pos q3] at q; exact absurd rfl q
        · rw [q3] at q2; exact absurd rfl q2
      refine r_X7_repairN_0 X T ac_0 ac_11 ac_7 ac_12 ac_13 (fun j hj => (rc_11.2.2.2 j hj).1) ac_34 (c_hasLis_y LF_nd ac_11 hj hj4 hl ⟨fun q => absurd q (by decide), fun _ => c_hasFile_y LF_nd ac_7 h.cp.1 hn6 hf ⟨fun _ => ⟨by omega, t, hck, c_knowsIn LF_nd (rc_11.2.2.2 l (by omega)) ?_⟩, fun q => absurd q (by decide)⟩⟩)
      by_cases ck : M (11 + 1 + 10 + 3 * l) 6 < nI t
      · rw [if_pos ck]
        exact ⟨fun _ => hmodN (Or.inl ck), fun q => absurd rfl q⟩
      · rw [if_neg ck]
        refine ⟨fun q => absurd q (by decide), fun _ => c_lacksC LF_nd (rc_11.2.2.2 l (by omega)) pc_7 (by omega) (h.cp.2.2.2 f hf).1 hd12 (c1.trans c2) hh18 ⟨fun hne => RG_keep h hc (fun M1 g k => ?_), fun he => hmodN (Or.inr ?_)⟩⟩
        · obtain ⟨-, b2', -⟩ := g.rr.2.2.2.2.2 l hl
          obtain ⟨c1', -⟩ := b2' f hf
          rw [show 0 + 89 + 16 * l = 89 + 16 * l by omega, mdF_0 (by omega)] at c1'
          refine c_fillUp LF_nd (by omega) (rc_11.2.2.2 l (by omega)) pc_7 (by omega) (g.cp.2.2.2 f hf).1 (g.cp.2.2.2 f hf).2 hd12 hs6 (c1'.trans c2) hh18 ?_
          have hk4 : ¬ M 140 (89 + 16 * l + 2) = -4 := by rw [← e6]; exact le4 (by omega) ck
          have hfl : fl (d f + s f) (d f - pcN hh 18) 0 hh < 2 ^ (d f + s f) := fl_lt _ _ _ _ (by omega) c3
          have hgo := RG_now g (M' := MU M1 (11 + 1 + 10 + 3 * l + 1) f (nI (fl (d f + s f) (d f - pcN hh 18) 0 hh))) (fun i hi => by rw [MU_ne (by omega)]) (RR_fill g.rr hl hf hfl (by rw [mdF_0 (by omega)]; exact hk4)) g.ht (fun l' hl' => by rw [MU_ne (by omega)]; exact g.nu l' hl') (fun q hq => by rw [upd_ne (by omega)])
          generalize hM2 : MU M1 (11 + 1 + 10 + 3 * l + 1) f (nI (fl (d f + s f) (d f - pcN hh 18) 0 hh)) = M2 at *
          have e139 : M2 139 = M 139 := by rw [← hM2, MU_ne (by omega)]; exact k _ (by omega)
          have e140 : M2 140 = M 140 := by rw [← hM2, MU_ne (by omega)]; exact k _ (by omega)
          refine CMi pn_X8 rfl rfl rfl LF_nd (fun x8 X8 T8 => ?_)
          refine r_X8_repairN_0 X8 T8 ac_139 (c_isLis_y LF_nd ac_139 ac_140 (by rw [e140]; exact h48) hj4 hl ⟨fun q => absurd q (by decide), fun _ => c_isFile_y LF_nd ac_139 ac_140 (by rw [e140]; exact hn) hn6 hf ⟨fun _ => c_lacks LF_nd ac_139 ac_140 (by omega) (by omega) (c_knows LF_nd ac_139 ac_140 (by omega) ⟨fun q => ?_, fun q => ⟨fun q2 => c_minds2 e140 (by rw [e139]; exact hu) h.hu4 (fun Mm z1 z2 z3 z4 => ?_), fun q2 => ?_⟩⟩), fun q => absurd q (by decide)⟩⟩)
          · rw [e140, h45, ← e6, if_neg ck] at q; exact absurd q (by decide)
          · rw [e140, hla]
            have key : ∀ (c m k g : Nat), k + c = d f + s f → m ≤ zc g k c → fl c m k g = fl (d f + s f) (d f - pcN hh 18) 0 hh → g < 2 ^ (d f + s f) → WP x8 LF 64 [some (.ref 139), none, none, some (.int (nI (d f - pcN hh 18))), some (.int (nI (89 + 16 * l + 10 + f))), some (.int (nI m)), some (.int (nI k))] [] (MR Mm 140 (upd (Mm 140) (89 + 16 * l + 10 + f) (nI g))) := by
              intro c
              have fin : ∀ k g, fl (d f + s f) (d f - pcN hh 18) 0 hh = g → WP x8 LF 64 [some (.ref 139), none, none, some (.int (nI (d f - pcN hh 18))), some (.int (nI (89 + 16 * l + 10 + f))), some (.int (nI 0)), some (.int (nI k))] [] (MR Mm 140 (upd (Mm 140) (89 + 16 * l + 10 + f) (nI g))) := by
                intro k g hgg
                refine r_X8_repair_64 X8 T8 ac_139 ac_140 ⟨fun _ => ⟨rfl, Rel_fin hgo (fun i hi => ?_) ?_ ?_ ?_ ?_⟩, fun q => absurd (by decide) q⟩
                · rw [MR_ne (by omega)]; exact z4 i (by omega) (by omega)
                · rw [MR_at, z1, hgg]
                · rw [MR_ne (by decide)]; exact z2
                · rw [MR_ne (by decide)]; exact z3
                · rw [MR_ne (by decide)]; exact z4 _ (by decide) (by decide)
              induction c with
              | zero =>
                intro m k g hk hm hfl2 hg
                rw [zc] at hm
                have : m = 0 := by omega
                subst this
                exact fin k g hfl2.symm
              | succ c ih =>
                intro m k g hk hm hfl2 hg
                by_cases cm : m = 0
                · subst cm
                  rw [fl_0] at hfl2
                  exact fin k g hfl2.symm
                · rw [fl, if_neg cm] at hfl2
                  rw [zc] at hm
                  have hzl : m < 2 ^ 31 := by
                    have := zc_pc g (c + 1) k
                    rw [zc] at this
                    have := pcN_le g k
                    omega
                  have hg31 : g < 2 ^ 31 := Nat.lt_of_lt_of_le hg (Nat.pow_le_pow_right (by decide) (by omega))
                  refine r_X8_repair_64 X8 T8 ac_139 ac_140 ⟨fun q => absurd ((nI_le0 hzl).mp q) cm, fun _ => ⟨by omega, by omega, by omega, ?_⟩⟩
                  rw [MU_MR, MR_at, upd_at, shl1 (by omega), fa_or, fa_upd_twice, shr_bit hg31 (by omega)]
                  have hb2 := bt_lt g k
                  have hbt : g / 2 ^ k % 2 = bt g k := rfl
                  rw [hbt]
                  by_cases cb : bt g k = 0
                  · rw [if_pos cb] at hfl2
                    rw [cb] at hm ⊢
                    rw [bx0, pk_sub (by omega)]
                    refine ih (m - 1) (k + 1) (g ||| 2 ^ k) (by omega) ?_ hfl2 (or_bit hg (by omega))
                    rw [zc_cong c (k + 1) (h := g ||| 2 ^ k) (h' := g) (fun j hj => bt_or_ne (by omega))]
                    omega
                  · have cb1 : bt g k = 1 := by omega
                    rw [if_neg cb] at hfl2
                    rw [cb1] at hm ⊢
                    rw [bx1, pk_sub (by omega), Nat.sub_zero, or_same cb1]
                    exact ih m (k + 1) g (by omega) (by omega) hfl2 hg
            have := key (d f + s f) (d f - pcN hh 18) 0 hh (by omega) (zc_start c3 (by omega)) rfl c3
            rw [fa_upd_same (by rw [z1, mdF_0 (by omega)]; exact c2), MR_self] at this
            exact this
          · rw [e140, hla] at q2; exact absurd q2 hne
        · have := pcN_le hh 18
          exact (nI_eq0 (by omega)).mp he
    · refine r_X7_repairI_0 X T ac_0 ac_11 ac_7 (c_hasLis_y LF_nd ac_11 hj hj4 hl ⟨fun q => absurd q (by decide), fun _ => c_hasFile_n LF_nd ac_7 h.cp.1 hn6 hno ⟨fun q => absurd rfl q, fun _ => ?_⟩⟩)
      refine CMi pn_X8 rfl rfl rfl LF_nd (fun x X T => ?_)
      exact r_X8_repair_0 X T ac_139 (c_isLis_y LF_nd ac_139 ac_140 h48 hj4 hl ⟨fun q => absurd q (by decide), fun _ => c_isFile_n LF_nd ac_139 ac_140 hn hn6 hno ⟨fun q => absurd rfl q, fun _ => ⟨rfl, hS⟩⟩⟩)
  · refine r_X7_repairI_0 X T ac_0 ac_11 ac_7 (c_hasLis_n LF_nd ac_11 hj hj4 hno ⟨fun _ => ?_, fun q => absurd rfl q⟩)
    refine CMi pn_X8 rfl rfl rfl LF_nd (fun x X T => ?_)
    exact r_X8_repair_0 X T ac_139 (c_isLis_n LF_nd ac_139 ac_140 h48 hj4 hno ⟨fun _ => ⟨rfl, hS⟩, fun q => absurd rfl q⟩)
