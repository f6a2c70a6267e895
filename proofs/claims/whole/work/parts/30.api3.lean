/-! ticks, who comes, repairs -/
theorem tkF_hi {w : Nat → Int32} {n e t jn q : Nat} {y ns : Nat → Nat} (hn1 : 1 ≤ n) (hn : n ≤ 6) (hj : jn ≤ 4) (hq : 153 ≤ q) : tkF w 0 n e t jn y ns q = w q := by
  have hb : boF w 0 n < n := beF_lt _ _ (by omega)
  unfold tkF
  by_cases c : t % e = 0
  · rw [if_pos c]; unfold tkT
    rw [upd_ne (by omega), upd_ne (by omega), hlF_out hn (by omega) _ _ (by omega), lgF_out (by omega)]
  · rw [if_neg c]; unfold tkS
    rw [upd_ne (by omega), upd_ne (by omega), upd_ne (by omega), upd_ne (by omega), hlF_out hn (by omega) _ _ (by omega), lgF_out (by omega), snF_out hn1 hn (by omega)]
/-- k ticks -/
def tkN (w : Nat → Int32) (n e t jn : Nat) (y ns : Nat → Nat) : Nat → (Nat → Int32) × (Nat → Nat)
  | 0 => (w, y)
  | k + 1 => (tkF (tkN w n e t jn y ns k).1 0 n e (t + k) jn (tkN w n e t jn y ns k).2 ns, yyF (tkN w n e t jn y ns k).1 0 n e (t + k) (tkN w n e t jn y ns k).2 ns)
theorem tkN_s1 (w : Nat → Int32) (n e t jn : Nat) (y ns : Nat → Nat) (k : Nat) : (tkN w n e t jn y ns (k + 1)).1 = tkF (tkN w n e t jn y ns k).1 0 n e (t + k) jn (tkN w n e t jn y ns k).2 ns := rfl
theorem tkN_s2 (w : Nat → Int32) (n e t jn : Nat) (y ns : Nat → Nat) (k : Nat) : (tkN w n e t jn y ns (k + 1)).2 = yyF (tkN w n e t jn y ns k).1 0 n e (t + k) (tkN w n e t jn y ns k).2 ns := rfl
theorem tkN_ok {w : Nat → Int32} {n e li t jn : Nat} {d s y v : Nat → Nat} (hp : PW w 0 n e li d s) (hv : VW w 0 n t jn d s y v) : ∀ k, t + k < 1000000 → PW (tkN w n e t jn y (fun f => d f + s f) k).1 0 n e li d s ∧ VW (tkN w n e t jn y (fun f => d f + s f) k).1 0 n (t + k) jn d s (tkN w n e t jn y (fun f => d f + s f) k).2 v
  | 0, _ => ⟨hp, hv⟩
  | k + 1, hk => by
    obtain ⟨h1, h2⟩ := tkN_ok hp hv k (by omega)
    rw [tkN_s1, tkN_s2]
    exact ⟨PW_tick h1, VW_tick h1 h2 (by omega)⟩
theorem A_tick (a : Int32) : AP m_X7_tick m_X8_tick [.int a] := by
  intro M cn hc hR
  have hS := Rel_same hR
  obtain ⟨n, e, li, d, s, t, jn, y, v, md, u, ln, h, hu⟩ := hR
  have hn6 : n ≤ 6 := h.rr.1.1.2.2
  have hn1 : 1 ≤ n := h.rr.1.1.2.1
  have hj4 : jn ≤ 4 := h.rr.2.1.2.1.2
  have ht := h.ht
  have h45 : M 140 45 = nI t := h.rr.2.1.1.1
  have hck : M 13 9 = nI t := h.rr.2.2.2.1.2.1.1.trans h45
  refine CMi pn_X7 rfl rfl rfl LF_nd (fun x X T => ?_)
  rcases wl_cases a 1 99 (by decide) (by decide) with ⟨m, k1, k99, rfl⟩ | hno
  · refine r_X7_tick_0 X T ac_0 ac_11 ac_13 ac_34 ⟨fun q => absurd q (nI_nl2 k1 (by omega)), fun _ => ⟨fun _ => ⟨t, hck, fun hle => RG_keep h hc (fun M1 g k => ?_), fun hle => ?_⟩, fun q => absurd (nI_leN k99 (by decide)) q⟩⟩
    · rw [nI_add, nI_leI (by omega) (by decide)] at hle
      have hst := g.rr.2.2.2.1.2.1.2.2
      have key : ∀ c i, i + c = m → ∀ M2 : Mem, RG M2 (tkN (mdF (M 140) u) n e t jn y (fun f => d f + s f) i).1 (cn + 1) n e li d s (t + i) jn (tkN (mdF (M 140) u) n e t jn y (fun f => d f + s f) i).2 v (md + 1) (m1F u) ln → (∀ j, 128 ≤ j → M2 j = M j) → WP x LF 58 [some (.ref 0), some (.int (nI m)), some (.int (M1 13 11)), some (.int (nI i))] [] M2 := by
        intro c
        induction c with
        | zero =>
          intro i hi M2 g2 k2
          have : i = m := by omega
          subst this
          refine r_X7_tick_58 X T ac_0 ac_11 ac_13 ⟨by omega, by omega, fun _ => ?_, fun q => absurd q (by omega)⟩
          refine CMi pn_X8 rfl rfl rfl LF_nd (fun x8 X8 T8 => ?_)
          refine r_X8_tick_0 X8 T8 ac_139 ac_140 (c_within_y LF_nd k1 (by omega) (by decide) ⟨fun _ => ⟨fun _ => c_minds2 (k2 140 (by omega)) (by rw [k2 139 (by omega)]; exact hu) h.hu4 (fun Mm z1 z2 z3 z4 => ?_), fun q => absurd ?_ q⟩, fun q => absurd q (by decide)⟩)
          · have inner : ∀ c j, j + c = i → ∀ M3 : Mem, M3 140 = (tkN (mdF (M 140) u) n e t jn y (fun f => d f + s f) j).1 → (∀ q, q ≠ 140 → M3 q = Mm q) → WP x8 LF 44 [some (.ref 139), some (.int (nI i)), some (.int (Mm 140 47)), some (.int (nI j))] [] M3 := by
              intro c
              induction c with
              | zero =>
                intro j hj M3 y1 y2
                have : j = i := by omega
                subst this
                refine r_X8_tick_44 X8 T8 ac_139 ac_140 ⟨by omega, by omega, fun _ => ⟨?_, Rel_fin g2 (fun q hq => ?_) y1 ?_ ?_ ?_⟩, fun q => absurd q (by omega)⟩
                · have e1 : M2 13 11 = _ := g2.rr.2.2.2.1.2.1.2.2
                  have e2 : M1 13 11 = _ := hst
                  rw [e1, e2, y1, z1]
                · rw [y2 q (by omega)]; exact z4 q (by omega) (by omega)
                · rw [y2 _ (by decide)]; exact z2
                · rw [y2 _ (by decide)]; exact z3
                · rw [y2 _ (by decide)]; exact z4 _ (by decide) (by decide)
              | succ c ih =>
                intro j hj M3 y1 y2
                have hok := tkN_ok g.rr.1 g.rr.2.1 j (by omega)
                refine r_X8_tick_44 X8 T8 ac_139 ac_140 ⟨by omega, by omega, fun q => absurd q (by omega), fun _ => c_ticks LF_nd ac_139 ac_140 (by omega) (by rw [y1]; exact hok.1) (by rw [y1]; exact hok.2) ?_⟩
                rw [y1]
                exact ih (j + 1) (by omega) _ (by rw [MR_at, tkN_s1]) (fun q hq => by rw [MR_ne hq]; exact y2 q hq)
            exact inner i 0 (by omega) Mm (by rw [z1]; rfl) (fun _ _ => rfl)
          · rw [k2 140 (by omega), h45, nI_add, nI_leI (by omega) (by decide)]; exact hle
        | succ c ih =>
          intro i hi M2 g2 k2
          refine r_X7_tick_58 X T ac_0 ac_11 ac_13 ⟨by omega, by omega, fun q => absurd q (by omega), fun _ => ?_⟩
          refine c_advance LF_nd (by decide) rc_11 pc_7 g2.rr g2.cp g2.nu (by omega) (fun M3 y1 y2 y3 => ?_)
          refine ih (i + 1) (by omega) M3 (RG_now g2 (fun q hq => y3 q (by omega)) (by rw [tkN_s1, tkN_s2]; exact y1) (by omega) y2 (fun q hq => by rw [tkN_s1]; exact tkF_hi hn1 hn6 hj4 (by omega))) (fun j hj => by rw [y3 j (by omega)]; exact k2 j hj)
      exact key m 0 (by omega) M1 g (fun j hj => k j (by omega))
    · refine CMi pn_X8 rfl rfl rfl LF_nd (fun x X T => ?_)
      refine r_X8_tick_0 X T ac_139 ac_140 (c_within_y LF_nd k1 k99 (by decide) ⟨fun _ => ⟨fun q => absurd (by rwa [h45] at q) hle, fun _ => ⟨rfl, hS⟩⟩, fun q => absurd q (by decide)⟩)
  · have hmod : CM m_X8_tick LF [.ref 139, .int a] M (fun r2 M2 => (-1 : Int32) = r2 ∧ Rel M2 (cn + 1)) := by
      refine CMi pn_X8 rfl rfl rfl LF_nd (fun x X T => ?_)
      exact r_X8_tick_0 X T ac_139 ac_140 (c_within_n LF_nd hno (by decide) (by decide) ⟨fun q => absurd rfl q, fun _ => ⟨rfl, hS⟩⟩)
    exact r_X7_tick_0 X T ac_0 ac_11 ac_13 ac_34 ⟨fun _ => hmod, fun h1 => ⟨fun h2 => (wl_lt hno (by decide) (by decide) h1 h2).elim, fun _ => hmod⟩⟩
/-! one more listens -/
def zeF (w : Nat → Int32) (p k : Nat) : Nat → Int32 := fun t => if p ≤ t ∧ t < p + k then nI 0 else w t
theorem zeF_0 (w : Nat → Int32) (p : Nat) : zeF w p 0 = w := by
  funext t; unfold zeF; rw [if_neg (by omega)]
theorem zeF_step (w : Nat → Int32) (p k : Nat) : upd (zeF w p k) (p + k) (nI 0) = zeF w p (k + 1) := by
  funext t; unfold upd zeF; grind
def joF (w : Nat → Int32) (p : Nat) (a : Int32) : Nat → Int32 := upd (upd (upd (upd (zeF w p 16) (p + 0) a) (p + 1) (w 45)) (p + 2) (-4)) 48 (w 48 + nI 1)
theorem joF_out {w : Nat → Int32} {p q : Nat} {a : Int32} (h : q ≠ 48) (h2 : q < p ∨ p + 16 ≤ q) : joF w p a q = w q := by
  unfold joF
  rw [upd_ne h, upd_ne (by omega), upd_ne (by omega), upd_ne (by omega)]; unfold zeF; rw [if_neg (by omega)]
theorem joF_in {w : Nat → Int32} {p j : Nat} {a : Int32} (hp : 89 ≤ p) (hj : 3 ≤ j) (hj2 : j < 16) : joF w p a (p + j) = nI 0 := by
  unfold joF
  rw [upd_ne (by omega), upd_ne (by omega), upd_ne (by omega), upd_ne (by omega)]; unfold zeF; rw [if_pos (by omega)]
theorem RR_join {M M' : Mem} {w : Nat → Int32} {n e li t jn : Nat} {a : Int32} {d s y v : Nat → Nat} (h : RR M 11 w 0 n e li d s t jn y v) (hj4 : jn < 4) (k1 : M' 11 2 = nI (jn + 1)) (k2 : M' (11 + 1 + 10 + 3 * jn) 4 = a ∧ M' (11 + 1 + 10 + 3 * jn) 5 = nI t ∧ M' (11 + 1 + 10 + 3 * jn) 6 = -4 ∧ M' (11 + 1 + 10 + 3 * jn) 7 = nI 0) (k3 : ∀ k, k < 6 → M' (11 + 1 + 10 + 3 * jn + 1) k = nI 0 ∧ M' (11 + 1 + 10 + 3 * jn + 2) k = -4) (k4 : ∀ i, i ≠ 11 → (i < 11 + 1 + 10 + 3 * jn ∨ 11 + 1 + 10 + 3 * jn + 2 < i) → M' i = M i) : RR M' 11 (joF w (89 + 16 * jn) a) 0 n e li d s t (jn + 1) y v := by
  obtain ⟨hp, hv, hfw, hsr, hj, hlr⟩ := h
  have hn6 : n ≤ 6 := hp.1.2.2
  refine ⟨PW_x hp (fun q hq => joF_out (by omega) (by omega)), ⟨?_, ⟨?_, by omega⟩, fun g hg => ?_⟩, ⟨fun g h1 h2 => ?_, ?_⟩, ⟨fun g hg => ?_, ?_, ?_⟩, k1, fun l hl => ?_⟩
  · rw [joF_out (by omega) (by omega)]; exact hv.1
  · unfold joF
    rw [upd_at]
    have : w 48 = nI jn := hv.2.1.1
    rw [this, nI_add]
  · rw [joF_out (by omega) (by omega), joF_out (by omega) (by omega)]; exact hv.2.2 g hg
  · rw [joF_out (by omega) (by omega)]; exact hfw.1 g h1 h2
  · obtain ⟨sy, c1, c2, c3⟩ := hfw.2
    refine ⟨sy, by rw [joF_out (by omega) (by omega)]; exact c1, c2, fun g hg => by rw [joF_out (by omega) (by omega)]; exact c3 g hg⟩
  · rw [k4 _ (by omega) (by omega), k4 _ (by omega) (by omega), k4 _ (by omega) (by omega), k4 _ (by omega) (by omega), k4 _ (by omega) (by omega), joF_out (by omega) (by omega), joF_out (by omega) (by omega), joF_out (by omega) (by omega), joF_out (by omega) (by omega), joF_out (by omega) (by omega)]
    exact hsr.1 g hg
  · rw [k4 _ (by omega) (by omega), joF_out (by omega) (by omega), joF_out (by omega) (by omega), joF_out (by omega) (by omega)]; exact hsr.2.1
  · intro k hk hkt
    rw [k4 _ (by omega) (by omega), k4 _ (by omega) (by omega), k4 _ (by omega) (by omega), joF_out (by omega) (by omega), joF_out (by omega) (by omega), joF_out (by omega) (by omega), joF_out (by omega) (by omega)]; exact hsr.2.2 k hk hkt
  · by_cases c : l = jn
    · subst c
      rw [show 0 + 89 + 16 * l = 89 + 16 * l by omega]
      have z2 : joF w (89 + 16 * l) a (89 + 16 * l + 2) = -4 := by unfold joF; rw [upd_ne (by omega), upd_at]
      have z10 : ∀ f, f < n → joF w (89 + 16 * l) a (89 + 16 * l + 10 + f) = nI 0 := fun f hf => by
        rw [show 89 + 16 * l + 10 + f = 89 + 16 * l + (10 + f) by omega]; exact joF_in (by omega) (by omega) (by omega)
      refine ⟨⟨?_, ?_, ?_, ?_⟩, fun f hf => ?_, Or.inl ⟨z2, fun f hf => ⟨(k3 f (by omega)).2, z10 f hf⟩⟩⟩
      · rw [k2.1]; unfold joF; rw [upd_ne (by omega), upd_ne (by omega), upd_ne (by omega), Nat.add_zero, upd_at]
      · rw [k2.2.1]; unfold joF; rw [upd_ne (by omega), upd_ne (by omega), upd_at]; exact hv.1.1.symm
      · rw [k2.2.2.1, z2]
      · rw [k2.2.2.2]; exact (joF_in (by omega) (by omega) (by omega)).symm
      · rw [z10 f hf]
        exact ⟨(k3 f (by omega)).1, 0, rfl, Nat.two_pow_pos _⟩
    · exact LR_m (LR_w hn6 (hlr l (by omega)) (fun j hj => joF_out (by omega) (by omega))) (k4 _ (by omega) (by omega)) (k4 _ (by omega) (by omega)) (k4 _ (by omega) (by omega))
theorem A_join (a : Int32) : AP m_X7_join m_X8_join [.int a] := by
  intro M cn hc hR
  have hS := Rel_same hR
  obtain ⟨n, e, li, d, s, t, jn, y, v, md, u, ln, h, hu⟩ := hR
  have hj4 : jn ≤ 4 := h.rr.2.1.2.1.2
  have h48 : M 140 48 = nI jn := h.rr.2.1.2.1.1
  refine CMi pn_X7 rfl rfl rfl LF_nd (fun x X T => ?_)
  rcases wl_cases a 0 99 (by decide) (by decide) with ⟨m, k1, k2, rfl⟩ | hno
  · refine r_X7_join_0 X T ac_0 ac_11 ac_34 ⟨fun q => absurd q (nI_nl2 k1 (by omega)), fun _ => ⟨fun _ => c_hasRoom LF_nd ac_11 h.rr.2.2.2.2.1 hj4 ?_, fun q => absurd (nI_leN k2 (by decide)) q⟩⟩
    by_cases c : jn = 4
    · rw [if_pos c]
      refine ⟨fun q => absurd rfl q, fun _ => ?_⟩
      refine CMi pn_X8 rfl rfl rfl LF_nd (fun x X T => ?_)
      exact r_X8_join_0 X T ac_139 ac_140 (c_within_y LF_nd k1 k2 (by decide) ⟨fun _ => ⟨jn, h48, by omega, fun q => absurd c q, fun _ => ⟨rfl, hS⟩⟩, fun q => absurd q (by decide)⟩)
    · rw [if_neg c]
      refine ⟨fun _ => RG_keep h hc (fun M1 g k => ?_), fun q => absurd q (by decide)⟩
      have h9 : M1 13 9 = nI t := g.rr.2.2.2.1.2.1.1.trans g.rr.2.1.1.1
      refine c_addListener LF_nd rc_11 g.rr.2.2.2.2.1 (by omega) h9 (fun M2 y1 y2 y3 y4 y5 => ?_)
      have hgo := RG_now g (fun i hi => y5 i (by omega) (by omega)) (RR_join g.rr (by omega) y1 y2 y3 y5) g.ht (fun l hl => by
        by_cases q : l = jn
        · subst q; rw [y4]; exact g.nu l hl
        · rw [y5 _ (by omega) (by omega)]; exact g.nu l hl) (fun q hq => joF_out (by omega) (by omega))
      have e139 : M2 139 = M 139 := by rw [y5 _ (by omega) (by omega)]; exact k _ (by omega)
      have e140 : M2 140 = M 140 := by rw [y5 _ (by omega) (by omega)]; exact k _ (by omega)
      refine CMi pn_X8 rfl rfl rfl LF_nd (fun x X T => ?_)
      refine r_X8_join_0 X T ac_139 ac_140 (c_within_y LF_nd k1 k2 (by decide) ⟨fun _ => ⟨jn, by rw [e140]; exact h48, by omega, fun _ => c_minds2 e140 (by rw [e139]; exact hu) h.hu4 (fun Mm z1 z2 z3 z4 => ⟨jn, ?_, ?_⟩), fun q => absurd q c⟩, fun q => absurd q (by decide)⟩)
      · rw [z1, mdF_0 (by omega)]; exact h48
      · have key : ∀ c i, i + c = 16 → WP x LF 46 [some (.ref 139), some (.int (nI m)), some (.int (nI (89 + 16 * jn))), some (.int (nI i))] [] (MR Mm 140 (zeF (Mm 140) (89 + 16 * jn) i)) := by
          intro c
          induction c with
          | zero =>
            intro i hi
            have : i = 16 := by omega
            subst this
            refine r_X8_join_46 X T ac_139 ac_140 ⟨by omega, fun _ => ⟨by omega, by omega, by omega, ?_⟩, fun q => absurd q (by omega)⟩
            simp only [MU_MR]
            simp only [MR_at]
            have e45 : upd (zeF (Mm 140) (89 + 16 * jn) 16) (89 + 16 * jn + 0) (nI m) 45 = Mm 140 45 := by
              rw [upd_ne (by omega)]; unfold zeF; rw [if_neg (by omega)]
            rw [e45]
            have e48 : upd (upd (upd (zeF (Mm 140) (89 + 16 * jn) 16) (89 + 16 * jn + 0) (nI m)) (89 + 16 * jn + 1) (Mm 140 45)) (89 + 16 * jn + 2) (-4) 48 = Mm 140 48 := by
              rw [upd_ne (by omega), upd_ne (by omega), upd_ne (by omega)]; unfold zeF; rw [if_neg (by omega)]
            rw [e48, upd_at]
            refine ⟨?_, Rel_fin hgo (fun i hi => ?_) ?_ ?_ ?_ ?_⟩
            · rw [z1, mdF_0 (by omega), h48, nI_add, pk_sub (by omega)]; rfl
            · rw [MR_ne (by omega)]; exact z4 i (by omega) (by omega)
            · rw [MR_at, z1]; rfl
            · rw [MR_ne (by decide)]; exact z2
            · rw [MR_ne (by decide)]; exact z3
            · rw [MR_ne (by decide)]; exact z4 _ (by decide) (by decide)
          | succ c ih =>
            intro i hi
            refine r_X8_join_46 X T ac_139 ac_140 ⟨by omega, fun q => absurd q (by omega), fun _ => ⟨by omega, ?_⟩⟩
            have := ih (i + 1) (by omega)
            rw [MU_MR, zeF_step]; exact this
        have := key 16 0 (by omega)
        rw [zeF_0, MR_self] at this
        exact this
  · have hmod : CM m_X8_join LF [.ref 139, .int a] M (fun r2 M2 => (-1 : Int32) = r2 ∧ Rel M2 (cn + 1)) := by
      refine CMi pn_X8 rfl rfl rfl LF_nd (fun x X T => ?_)
      exact r_X8_join_0 X T ac_139 ac_140 (c_within_n LF_nd hno (by decide) (by decide) ⟨fun q => absurd rfl q, fun _ => ⟨rfl, hS⟩⟩)
    exact r_X7_join_0 X T ac_0 ac_11 ac_34 ⟨fun _ => hmod, fun h1 => ⟨fun h2 => (wl_lt hno (by decide) (by decide) h1 h2).elim, fun _ => hmod⟩⟩
