/-! bits of a part and of a mean -/
theorem tb_F {G U : Nat} (hG : G ≤ 254) (hU : U < 8388608) : UInt32.toInt32 (fF G U) = nI (G * 8388608 + U) := by
  apply Int32.toBitVec_inj.1
  unfold fF nI
  generalize G * 8388608 + U = z
  rfl
theorem c_bitsOf {L : List Nat} (hL : L.Nodup) {M : Mem} {Q : Int32 → Mem → Prop} {G U : Nat} (h1 : 1 ≤ G) (hG : G ≤ 254) (hU : U < 8388608) (hq : Q (UInt32.toInt32 (fF G U)) M) : CM m_X7_bitsOf L [.float (fF G U)] M Q := by
  rw [tb_F hG hU] at hq
  refine CMi pn_X7 rfl rfl rfl hL (fun x X T => ?_)
  refine r_X7_bitsOf_0 X T ⟨fun _ => ?_, fun q => absurd (by rw [f_cmp0 h1 hG hU]; decide) q⟩
  have fin : ∀ k : Nat, vf_n32 (FP.fsub (fF 127 U) FP.fconst1) ∧ vf_n32 (FP.fmul (FP.fsub (fF 127 U) FP.fconst1) (1258291200 : UInt32)) ∧ Q ((nI G <<< ((nI 23) &&& 31)) + (FP.f2i (FP.fmul (FP.fsub (fF 127 U) FP.fconst1) (1258291200 : UInt32)))) M := by
    intro k
    have es : nI G <<< (nI 23 &&& 31) = nI (G * 8388608) := pk_shlN (n := G) (nI 23 &&& 31) 23 (sh_l 23 (by decide)) (by omega)
    by_cases c : U = 0
    · subst c
      rw [f_less0, f_mul0, f_int0, es, nI_add]
      exact ⟨vf_0, vf_0, hq⟩
    · have l1 : 2 ^ U.log2 ≤ U := Nat.log2_self_le c
      have l2 : U < 2 ^ (U.log2 + 1) := Nat.lt_log2_self
      have hl : U.log2 ≤ 22 := by
        have := (Nat.log2_lt (k := 23) c).mpr hU
        omega
      generalize U.log2 = l at *
      obtain ⟨a, p1, p2⟩ := f_less l1 l2 hl
      have b : FP.fmul (fF (l + 104) (U * 2 ^ (23 - l) - 8388608)) (1258291200 : UInt32) = fF (l + 127) (U * 2 ^ (23 - l) - 8388608) := by
        rw [fc8, f_times (by omega) (by omega) (by omega) (by decide) (by decide) (by omega) (by omega), show l + 104 + 150 - 127 = l + 127 by omega]
      rw [a, b, f_int l1 l2 hl p1 p2, es, nI_add]
      exact ⟨vf_F (by omega) (by omega), vf_F (by omega) (by omega), hq⟩
  have up : ∀ c k E ex, E + c = 127 → 1 ≤ E → ex = G + c → k + c ≤ 127 → WP x L 43 [none, some (.float (fF E U)), some (.int (nI ex)), some (.int (nI k))] [] M := by
    intro c
    induction c with
    | zero =>
      intro k E ex hE hE1 hex hk
      have e1 : E = 127 := by omega
      have e2 : ex = G := by omega
      subst e1; subst e2
      refine r_X7_bitsOf_43 X T ⟨by omega, fun _ => fin k, fun _ => ⟨fun _ => fin k, fun q => absurd ?_ q⟩⟩
      rw [fc1]
      rcases (f_cmp (E := 127) (T := U) (F := 127) (by decide) (by decide) hU (by decide) (by decide)).2 (Nat.le_refl _) with z | z
      · rw [z]; decide
      · rw [z]; decide
    | succ c ih =>
      intro k E ex hE hE1 hex hk
      have hlt := (f_cmp (E := E) (T := U) (F := 127) hE1 (by omega) hU (by decide) (by decide)).1 (by omega)
      have em : FP.fmul (fF E U) FP.fconst2 = fF (E + 1) U := by
        rw [fc2, f_times hE1 (by omega) hU (by decide) (by decide) (by omega) (by omega), show E + 128 - 127 = E + 1 by omega]
      refine r_X7_bitsOf_43 X T ⟨by omega, fun q => absurd q (by omega), fun _ => ⟨fun q => absurd q ?_, fun _ => ⟨?_, ?_⟩⟩⟩
      · rw [fc1, hlt]; decide
      · rw [em]; exact vf_F (by omega) hU
      · rw [em, show nI ex + Int32.ofInt (-1) = nI (ex - 1) by
          have : nI ex = nI (ex - 1) + nI 1 := by rw [nI_add]; congr 1; omega
          rw [this]
          have z : nI 1 + Int32.ofInt (-1) = 0 := by decide
          rw [Int32.add_assoc, z, Int32.add_zero]]
        exact ih (k + 1) (E + 1) (ex - 1) (by omega) (by omega) (by omega) (by omega)
  by_cases cG : G ≤ 127
  · refine r_X7_bitsOf_15 X T ⟨by omega, fun q => absurd q (by omega), fun _ => ⟨fun _ => up (127 - G) 0 G 127 (by omega) h1 (by omega) (by omega), fun q => absurd ?_ q⟩⟩
    rw [fc2, (f_cmp (E := G) (T := U) (F := 128) h1 hG hU (by decide) (by decide)).1 (by omega)]; decide
  · have down : ∀ c k E, E = 127 + c → E + k = G → WP x L 15 [none, some (.float (fF E U)), some (.int (nI (127 + k))), some (.int (nI k))] [] M := by
      intro c
      induction c with
      | zero =>
        intro k E hE hk
        refine r_X7_bitsOf_15 X T ⟨by omega, fun _ => up 0 0 E (127 + k) (by omega) (by omega) (by omega) (by omega), fun _ => ⟨fun _ => up 0 0 E (127 + k) (by omega) (by omega) (by omega) (by omega), fun q => absurd ?_ q⟩⟩
        rw [fc2, (f_cmp (E := E) (T := U) (F := 128) (by omega) (by omega) hU (by decide) (by decide)).1 (by omega)]; decide
      | succ c ih =>
        intro k E hE hk
        have hd : FP.fdiv (fF E U) FP.fconst2 = fF (E - 1) U := f_half (by omega) (by omega) hU
        refine r_X7_bitsOf_15 X T ⟨by omega, fun q => absurd q (by omega), fun _ => ⟨fun q => absurd q ?_, fun _ => ⟨?_, ?_⟩⟩⟩
        · rw [fc2]
          rcases (f_cmp (E := E) (T := U) (F := 128) (by omega) (by omega) hU (by decide) (by decide)).2 (by omega) with z | z
          · rw [z]; decide
          · rw [z]; decide
        · rw [hd]; exact vf_F (by omega) hU
        · rw [hd]
          exact ih (k + 1) (E - 1) (by omega) (by omega)
    exact down (G - 127) 0 G (by omega) (by omega)
theorem c_bitsOf0 {L : List Nat} (hL : L.Nodup) {M : Mem} {Q : Int32 → Mem → Prop} (hq : Q (UInt32.toInt32 0) M) : CM m_X7_bitsOf L [.float 0] M Q := by
  refine CMi pn_X7 rfl rfl rfl hL (fun x X T => ?_)
  refine r_X7_bitsOf_0 X T ⟨fun q => absurd q (by decide +kernel), fun _ => ?_⟩
  rw [show nI 0 = UInt32.toInt32 0 by decide]; exact hq
theorem c_ftb {L : List Nat} (hL : L.Nodup) {M : Mem} {Q : Int32 → Mem → Prop} {a : UInt32} (he : FP.fcmp a a = some .eq) (hq : Q (UInt32.toInt32 a) M) : CM m_Jxf58ca_floatToIntBits_5c35a L [.float a] M Q := by
  refine CMj pn_ftb rfl rfl rfl hL (fun x X T => ?_)
  refine r_Jxf58ca_floatToIntBits_5c35a_0 X T ?_
  refine CMj pn_nan rfl rfl rfl hL (fun x X T => ?_)
  refine r_Jxf58ca_isNaN_12338_0 X T ⟨fun _ => ⟨fun q => absurd rfl q, fun _ => hq⟩, fun q => absurd ?_ q⟩
  rw [he]; decide
/-- p / q -/
def fq (p q : Nat) : UInt32 := FP.fdiv (FP.i2f (nI p)) (FP.i2f (nI q))
theorem fq_ok {p q : Nat} (hp : p < 16777216) (hq : 1 ≤ q) (hq2 : q < 16777216) : vf_n32 (fq p q) ∧ FP.fcmp (fq p q) (fq p q) = some .eq ∧ ∀ {L : List Nat} (_ : L.Nodup) {M : Mem} {Q : Int32 → Mem → Prop} (_ : Q (UInt32.toInt32 (fq p q)) M), CM m_X7_bitsOf L [.float (fq p q)] M Q := by
  unfold fq
  rcases f_whole hq2 with ⟨z, -⟩ | ⟨F, S, f1, f2, f3, f4⟩
  · omega
  · rw [f4]
    rcases f_whole hp with ⟨-, z⟩ | ⟨E, T, e1, e2, e3, e4⟩
    · rw [z, f_quo0 f1 f2 f3]
      exact ⟨vf_0, by decide +kernel, fun hL => c_bitsOf0 hL⟩
    · rw [e4]
      obtain ⟨G, U, g1, g2, g3, g4⟩ := f_quo e1 e2 e3 f1 f2 f3
      rw [g4]
      exact ⟨vf_F g2 g3, f_self g1 g2 g3, fun hL => c_bitsOf hL g1 g2 g3⟩

theorem nI_inj2 {a b : Nat} (q : nI a = nI b) (ha : a < 2 ^ 31) (hb : b < 2 ^ 31) : a = b := by
  have := congrArg Int32.toInt q
  rw [nI_toInt ha, nI_toInt hb] at this; omega
theorem A_file (a b : Int32) : AP m_X7_file m_X8_file [.int a, .int b] := by
  intro M cn hc hR
  have hS := Rel_same hR
  obtain ⟨n, e, li, d, s, t, jn, y, v, md, u, ln, h, hu⟩ := hR
  have hn6 : n ≤ 6 := h.rr.1.1.2.2
  have hn : M 140 42 = nI n := h.rr.1.1.1
  have hj4 : jn ≤ 4 := h.rr.2.1.2.1.2
  have hj : M 11 2 = nI jn := h.rr.2.2.2.2.1
  have h48 : M 140 48 = nI jn := h.rr.2.1.2.1.1
  have h45 : M 140 45 = nI t := h.rr.2.1.1.1
  have hck : M 13 9 = nI t := h.rr.2.2.2.1.2.1.1.trans h45
  have ht := h.ht
  refine CMi pn_X7 rfl rfl rfl LF_nd (fun x X T => ?_)
  rcases ix_cases a (n := n) (by omega) with ⟨f, hf, rfl⟩ | hno
  · rcases ix_cases b (n := 8) (by decide) with ⟨k, hk, rfl⟩ | hno
    · obtain ⟨hd, hd1, hd12, hs, hs6⟩ := h.rr.1.2.2.2 f hf
      obtain ⟨s1, s2, s3, s4, s5⟩ := h.rr.2.2.2.1.1 f hf
      obtain ⟨-, sy, y1, y2, y3⟩ := h.rr.2.2.1
      obtain ⟨cc, y4, y5⟩ := y3 f hf
      have hy11 : M 13 11 = nI sy := h.rr.2.2.2.1.2.1.2.2.trans y1
      have y1' : M 140 47 = nI sy := y1
      rw [show 0 + 36 + f = 36 + f by omega] at y4 s5
      rw [show 0 + f = 6 * 0 + f by omega] at hd
      rw [show 0 + 6 + f = 6 * 1 + f by omega] at hs
      rw [show 0 + 12 + f = 6 * 2 + f by omega] at s1
      rw [show 0 + 18 + f = 6 * 3 + f by omega] at s2
      rw [show 0 + 24 + f = 6 * 4 + f by omega] at s3
      rw [show 0 + 30 + f = 30 + f by omega] at s4
      have hw : ∀ c : Int32, (k = 7 → c = if sy = 0 then -4 else UInt32.toInt32 (fq cc sy)) → (k = 5 → c = M 140 (30 + f) + nI 1000) → (k ≠ 7 → k ≠ 5 → c = M 140 (6 * k + f)) → CM m_X8_file LF [.ref 139, .int (nI f), .int (nI k)] M (fun r2 M2 => c = r2 ∧ Rel M2 (cn + 1)) := by
        intro c c7 c5 c1
        refine CMi pn_X8 rfl rfl rfl LF_nd (fun x X T => ?_)
        refine r_X8_fileN_0 X T ac_139 ac_140 (c_isFile_y LF_nd ac_139 ac_140 hn hn6 hf ⟨fun q => absurd q (by decide), fun _ => c_within_y LF_nd (Nat.zero_le _) (by omega) (by decide) ⟨fun _ => ⟨by omega, fun q7 => ⟨by omega, fun q5 => ⟨by omega, c1 q7 q5, hS⟩, fun q5 => ⟨by omega, c5 q5, hS⟩⟩, fun q7 => ?_⟩, fun q => absurd q (by decide)⟩⟩)
        have c7' := c7 q7
        refine CMi pn_X8 rfl rfl rfl LF_nd (fun x X T => ?_)
        refine r_X8_partBits_0 X T ac_139 ac_140 ⟨fun q => ⟨by omega, ?_⟩, fun q => ?_⟩
        · rw [y1', nI_eq0 (by omega)] at q
          rw [if_neg q] at c7'
          obtain ⟨v1, v2, -⟩ := fq_ok (p := cc) (q := sy) (by omega) (by omega) (by omega)
          rw [y1', y4]
          exact ⟨v1, c_ftb LF_nd v2 ⟨c7', hS⟩⟩
        · rw [y1', nI_eq0 (by omega)] at q
          rw [if_pos q] at c7'
          exact ⟨c7', hS⟩
      refine r_X7_fileN_0 X T ac_0 ac_7 ac_11 ac_8 ac_9 ac_13 ac_14 ac_15 ac_16 ac_17 ac_18 (c_hasFile_y LF_nd ac_7 h.cp.1 hn6 hf ⟨fun _ => ⟨?_, ?_, ?_, ?_, ?_, ?_, ?_, ?_, ?_⟩, fun q => absurd q (by decide)⟩)
      · intro q
        have ek : k = 0 := nI_inj2 q (by omega) (by decide)
        subst ek
        exact ⟨by omega, hw _ (fun q => absurd q (by decide)) (fun q => absurd q (by decide)) (fun _ _ => ((h.cp.2.2.2 f hf).1.trans hd.symm))⟩
      · intro q
        have ek : k = 1 := nI_inj2 q (by omega) (by decide)
        subst ek
        exact ⟨by omega, hw _ (fun q => absurd q (by decide)) (fun q => absurd q (by decide)) (fun _ _ => ((h.cp.2.2.2 f hf).2.trans hs.symm))⟩
      · intro q
        have ek : k = 2 := nI_inj2 q (by omega) (by decide)
        subst ek
        exact ⟨by omega, hw _ (fun q => absurd q (by decide)) (fun q => absurd q (by decide)) (fun _ _ => s1)⟩
      · intro q
        have ek : k = 3 := nI_inj2 q (by omega) (by decide)
        subst ek
        exact ⟨by omega, hw _ (fun q => absurd q (by decide)) (fun q => absurd q (by decide)) (fun _ _ => s2)⟩
      · intro q
        have ek : k = 4 := nI_inj2 q (by omega) (by decide)
        subst ek
        exact ⟨by omega, hw _ (fun q => absurd q (by decide)) (fun q => absurd q (by decide)) (fun _ _ => s3)⟩
      · intro q
        have ek : k = 5 := nI_inj2 q (by omega) (by decide)
        subst ek
        exact ⟨by omega, hw _ (fun q => absurd q (by decide)) (fun _ => by rw [← s4]) (fun _ q => absurd rfl q)⟩
      · intro q
        have ek : k = 6 := nI_inj2 q (by omega) (by decide)
        subst ek
        exact ⟨by omega, hw _ (fun q => absurd q (by decide)) (fun q => absurd q (by decide)) (fun _ _ => (s5.trans (by rw [show 6 * 6 + f = 36 + f by omega])))⟩
      · intro q
        have ek : k = 7 := nI_inj2 q (by omega) (by decide)
        subst ek
        refine ⟨by omega, ?_⟩
        refine CMi pn_X7 rfl rfl rfl LF_nd (fun x X T => ?_)
        have e18 : M 18 f = nI cc := s5.trans y4
        rw [hy11, e18]
        refine r_X7_partBits_0 X T ⟨fun q => ?_, fun q => ?_⟩
        · rw [nI_leI (by decide) (by omega)] at q
          obtain ⟨v1, v2, v3⟩ := fq_ok (p := cc) (q := sy) (by omega) (by omega) (by omega)
          exact ⟨v1, v3 LF_nd (hw _ (fun _ => by rw [if_neg (by omega)]) (fun q => absurd q (by decide)) (fun q => absurd rfl q))⟩
        · rw [nI_leI (by decide) (by omega)] at q
          exact hw _ (fun _ => by rw [if_pos (by omega)]) (fun q => absurd q (by decide)) (fun q => absurd rfl q)
      · intro q; exact absurd rfl (q k hk)
    · have hmod : CM m_X8_file LF [.ref 139, .int (nI f), .int b] M (fun r2 M2 => (-1 : Int32) = r2 ∧ Rel M2 (cn + 1)) := by
        refine CMi pn_X8 rfl rfl rfl LF_nd (fun x X T => ?_)
        exact r_X8_file_0 X T ac_139 ac_140 (c_isFile_y LF_nd ac_139 ac_140 hn hn6 hf ⟨fun q => absurd q (by decide), fun _ => c_within_n LF_nd (by omega) (by decide) (by decide) ⟨fun q => absurd rfl q, fun _ => ⟨rfl, hS⟩⟩⟩)
      have nob : ∀ j, j < 8 → b = nI j → False := fun j hj q => by
        rw [q, nI_toInt (by omega)] at hno; omega
      exact r_X7_fileN_0 X T ac_0 ac_7 ac_11 ac_8 ac_9 ac_13 ac_14 ac_15 ac_16 ac_17 ac_18 (c_hasFile_y LF_nd ac_7 h.cp.1 hn6 hf ⟨fun _ => ⟨fun q => (nob 0 (by decide) q).elim, fun q => (nob 1 (by decide) q).elim, fun q => (nob 2 (by decide) q).elim, fun q => (nob 3 (by decide) q).elim, fun q => (nob 4 (by decide) q).elim, fun q => (nob 5 (by decide) q).elim, fun q => (nob 6 (by decide) q).elim, fun q => (nob 7 (by decide) q).elim, fun _ => hmod⟩, fun q => absurd q (by decide)⟩)
  · refine r_X7_fileI_0 X T ac_0 ac_7 (c_hasFile_n LF_nd ac_7 h.cp.1 hn6 hno ⟨fun q => absurd rfl q, fun _ => ?_⟩)
    refine CMi pn_X8 rfl rfl rfl LF_nd (fun x X T => ?_)
    exact r_X8_file_0 X T ac_139 ac_140 (c_isFile_n LF_nd ac_139 ac_140 hn hn6 hno ⟨fun _ => ⟨rfl, hS⟩, fun q => absurd rfl q⟩)
/-! the mean -/
theorem wt_cases (th : Nat → Nat) (li dd : Nat) : ∀ c i j z h, wtN th li dd c i j z h = -4 ∨ ∃ m, wtN th li dd c i j z h = nI m ∧ 1 ≤ m ∧ m ≤ j + c
  | 0, _, _, _, _ => Or.inl rfl
  | c + 1, i, j, z, h => by
    rw [wtN]
    by_cases q : pcN (hN th i z h) 18 < dd
    · rw [if_pos q]
      rcases wt_cases th li dd c (i + 1) (j + 1) (zN th li i z) (hN th i z h) with e | ⟨m, e, m1, m2⟩
      · exact Or.inl e
      · exact Or.inr ⟨m, e, m1, by omega⟩
    · rw [if_neg q]
      exact Or.inr ⟨j + 1, rfl, by omega, by omega⟩
def mnE (what : Int32) (n : Nat) (a4 a5 : Int32) : Int32 := if what = nI 0 then UInt32.toInt32 (FP.fdiv (FP.i2f a4) (FP.i2f (nI n))) else if what = nI 1 then FP.f2i (FP.fdiv (FP.i2f a4) (FP.i2f (nI n))) else a5
def mnF (wv : Nat → Int32) (what : Int32) (n : Nat) : Nat → Nat → Int32 → Int32 → Int32
  | 0, _, a4, a5 => mnE what n a4 a5
  | c + 1, k, a4, a5 => if wv k = -4 then -4 else mnF wv what n c (k + 1) (a4 + wv k) (if a5 < wv k then wv k else a5)
theorem A_mean (a b g : Int32) : AP m_X7_mean m_X8_mean [.int a, .int b, .int g] := by
  intro M cn hc hR
  have hS := Rel_same hR
  obtain ⟨n, e, li, d, s, t, jn, y, v, md, u, ln, h, hu⟩ := hR
  have hn6 : n ≤ 6 := h.rr.1.1.2.2
  have hn : M 140 42 = nI n := h.rr.1.1.1
  have hj4 : jn ≤ 4 := h.rr.2.1.2.1.2
  have hj : M 11 2 = nI jn := h.rr.2.2.2.2.1
  have h48 : M 140 48 = nI jn := h.rr.2.1.2.1.1
  have h45 : M 140 45 = nI t := h.rr.2.1.1.1
  have hck : M 13 9 = nI t := h.rr.2.2.2.1.2.1.1.trans h45
  have ht := h.ht
  refine CMi pn_X7 rfl rfl rfl LF_nd (fun x X T => ?_)
  have hp := h.rr.1
  have hv := h.rr.2.1
  have hsr := h.rr.2.2.2.1
  rcases ix_cases a (n := n) (by omega) with ⟨f, hf, rfl⟩ | hno
  · rcases wl_cases b 1 40 (by decide) (by decide) with ⟨m, m1, m2, rfl⟩ | hno
    · rcases wl_cases g 0 2 (by decide) (by decide) with ⟨k, k1, k2, rfl⟩ | hno
      · refine r_X7_mean_0 X T ac_0 ac_7 ac_11 ac_128 (c_hasFile_y LF_nd ac_7 h.cp.1 hn6 hf ⟨fun q => absurd q (by decide), fun _ => ⟨fun q => absurd q (nI_nl2 m1 (by omega)), fun _ => ⟨fun q => absurd q (nI_nl2 m2 (by decide)), fun _ => ⟨fun q => absurd q (nI_pos (by omega)), fun _ => ⟨fun _ => ?_, fun q => absurd (nI_leN k2 (by decide)) q⟩⟩⟩⟩⟩)
        rw [pk_sub (by omega), nI_add]
        refine c_look hp hv hsr h.cp hf ht (by omega) (by omega) (fun M1 g1 g2 g3 g4 => ?_)
        have hwB : ∀ (i : Nat) (Q : Int32 → Mem → Prop), i < m → Q (wtN (thW (M 140) n e t y (fun f => d f + s f) f) li (d f) 400 i 0 0 0) M1 → CM m_X0_waitBehind LF [.ref 128, .int (nI i)] M1 Q := fun i Q hi hq => c_waitBehind g1 (by omega) (by omega) g2 (hp.2.2.2 f hf).2.2.1 (by rw [g4 7 (by omega)]; exact h.cp.2.2.1) hp.2.2.1.2.1 hp.2.2.1.2.2 g3 hq
        have hwI : ∀ (i : Nat) (Q : Int32 → Mem → Prop) (w0 : Nat → Int32), (∀ q, (q < 153 ∨ 306 ≤ q) → w0 q = M 140 q) → i < m → (∀ w' : Nat → Int32, (∀ q, (q < 153 ∨ 306 ≤ q) → w' q = M 140 q) → Q (wtN (thW (M 140) n e t y (fun f => d f + s f) f) li (d f) 400 i 0 0 0) (MR M1 140 w')) → CM m_X8_waitIs LF [.ref 139, .int (nI f), .int (nI i)] (MR M1 140 w0) Q := fun i Q w0 hw0 hi hq => c_waitIs (w := M 140) hp hv hf (fun q hq => by rw [MR_at]; exact hw0 q hq) (by omega) ht (fun w' hw' => by rw [MR_MR]; exact hq w' hw')
        have hwv : ∀ i, wtN (thW (M 140) n e t y (fun f => d f + s f) f) li (d f) 400 i 0 0 0 = -4 ∨ ∃ r, wtN (thW (M 140) n e t y (fun f => d f + s f) f) li (d f) 400 i 0 0 0 = nI r ∧ 1 ≤ r ∧ r ≤ 400 := fun i => by
          rcases wt_cases (thW (M 140) n e t y (fun f => d f + s f) f) li (d f) 400 i 0 0 0 with q | ⟨r, q1, q2, q3⟩
          · exact Or.inl q
          · exact Or.inr ⟨r, q1, q2, by omega⟩
        generalize hwvd : (fun i => wtN (thW (M 140) n e t y (fun f => d f + s f) f) li (d f) 400 i 0 0 0) = wv at *
        have ewv : ∀ i, wtN (thW (M 140) n e t y (fun f => d f + s f) f) li (d f) 400 i 0 0 0 = wv i := fun i => by rw [← hwvd]
        simp only [ewv] at hwB hwI hwv
        -- the reference's run
        have hfin : ∀ w', (∀ q, (q < 153 ∨ 306 ≤ q) → w' q = M 140 q) → Rel (MR M1 140 w') (cn + 1) := by
          intro w' hw'
          refine Rel_of (M := M1) (RG_w (RG_m0 h (fun i h1 h2 => g4 i (by omega)) (TX_m h.tx (by rw [g4 _ (by omega)]) (by rw [g4 _ (by omega)]) (g4 _ (by omega)) (g4 _ (by omega)))) (fun q hq => hw' q (by omega)) (fun q hq => hw' q (by omega))) (fun i hi => by rw [MR_ne (by omega)]) (by rw [MR_at]) ?_ ?_ ?_
          · rw [MR_ne (by decide), g4 _ (by omega)]; exact hu
          · rw [MR_ne (by decide)]
          · rw [MR_ne (by decide)]
        have hm : ∀ R : Int32, R = mnF wv (nI k) m m 0 (nI 0) (nI 0) → CM m_X8_mean LF [.ref 139, .int (nI f), .int (nI m), .int (nI k)] M1 (fun r2 M2 => R = r2 ∧ Rel M2 (cn + 1)) := by
          intro R hR
          refine CMi pn_X8 rfl rfl rfl LF_nd (fun x8 X8 T8 => ?_)
          refine r_X8_mean_0 X8 T8 ac_139 (c_isFile_y LF_nd ac_139 ac_140 (by rw [g4 140 (by omega)]; exact hn) hn6 hf ⟨fun q => absurd q (by decide), fun _ => c_within_y LF_nd m1 m2 (by decide) ⟨fun q => absurd q (by decide), fun _ => c_within_y LF_nd k1 k2 (by decide) ⟨fun _ => ?_, fun q => absurd q (by decide)⟩⟩⟩)
          have key : ∀ c i p a5 w0, i + c = m → p ≤ 400 * i → (∀ q, (q < 153 ∨ 306 ≤ q) → w0 q = M 140 q) → R = mnF wv (nI k) m c i (nI p) a5 → WP x8 LF 38 [some (.ref 139), some (.int (nI f)), some (.int (nI m)), some (.int (nI k)), some (.int (nI p)), some (.int a5), some (.int (nI i)), none] [] (MR M1 140 w0) := by
            intro c
            induction c with
            | zero =>
              intro i p a5 w0 hi hp2 hw0 hRR
              have : i = m := by omega
              subst this
              rw [mnF] at hRR
              unfold mnE at hRR
              obtain ⟨v1, v2, -⟩ := fq_ok (p := p) (q := i) (by omega) (by omega) (by omega)
              refine r_X8_mean_38 X8 T8 ac_139 ⟨by omega, by omega, fun _ => ⟨v1, fun q0 => ⟨fun q1 => ⟨?_, hfin w0 hw0⟩, fun q1 => ⟨?_, hfin w0 hw0⟩⟩, fun q0 => c_ftb LF_nd v2 ⟨?_, hfin w0 hw0⟩⟩, fun q => absurd q (by omega)⟩
              · rw [if_neg (show ¬ nI k = nI 0 from q0), if_neg q1] at hRR; exact hRR
              · rw [if_neg (show ¬ nI k = nI 0 from q0), if_pos q1] at hRR; exact hRR
              · rw [if_pos (show nI k = nI 0 from q0)] at hRR; exact hRR
            | succ c ih =>
              intro i p a5 w0 hi hp2 hw0 hRR
              rw [mnF] at hRR
              refine r_X8_mean_38 X8 T8 ac_139 ⟨by omega, by omega, fun q => absurd q (by omega), fun _ => hwI i _ w0 hw0 (by omega) (fun w' hw' => ⟨fun q => ?_, fun q => ?_⟩)⟩
              · rw [if_neg q] at hRR
                rcases hwv i with z | ⟨r, r1, r2, r3⟩
                · exact absurd z q
                · rw [r1] at hRR ⊢
                  rw [nI_add] at hRR ⊢
                  refine ⟨fun q2 => ?_, fun q2 => ?_⟩
                  · rw [if_neg (Int32.not_lt.mpr q2)] at hRR
                    exact ih (i + 1) (p + r) a5 w' (by omega) (by omega) hw' hRR
                  · rw [if_pos (Int32.not_le.mp q2)] at hRR
                    exact ih (i + 1) (p + r) (nI r) w' (by omega) (by omega) hw' hRR
              · rw [if_pos q] at hRR
                exact ⟨hRR, hfin w' hw'⟩
          have := key m 0 0 (nI 0) (M1 140) (by omega) (by omega) (fun q hq => by rw [g4 140 (by omega)]) hR
          rw [MR_self] at this
          exact this
        have key : ∀ c i p a5, i + c = m → p ≤ 400 * i → mnF wv (nI k) m c i (nI p) a5 = mnF wv (nI k) m m 0 (nI 0) (nI 0) → WP x LF 64 [some (.ref 0), some (.int (nI f)), some (.int (nI m)), some (.int (nI k)), some (.int (nI p)), some (.int a5), some (.int (nI i)), none] [] M1 := by
          intro c
          induction c with
          | zero =>
            intro i p a5 hi hp2 hRR
            have : i = m := by omega
            subst this
            rw [mnF] at hRR
            unfold mnE at hRR
            obtain ⟨v1, v2, v3⟩ := fq_ok (p := p) (q := i) (by omega) (by omega) (by omega)
            refine r_X7_mean_64 X T ac_0 ac_128 ⟨by omega, by omega, fun _ => ⟨v1, fun q0 => v3 LF_nd (hm _ ?_), fun q1 => hm _ ?_, fun q0 q1 => hm _ ?_⟩, fun q => absurd q (by omega)⟩
            · rw [if_pos q0] at hRR; exact hRR
            · rw [if_neg (by rw [q1]; decide), if_pos q1] at hRR; exact hRR
            · rw [if_neg q0, if_neg q1] at hRR; exact hRR
          | succ c ih =>
            intro i p a5 hi hp2 hRR
            rw [mnF] at hRR
            refine r_X7_mean_64 X T ac_0 ac_128 ⟨by omega, by omega, fun q => absurd q (by omega), fun _ => hwB i _ (by omega) ⟨fun q => ?_, fun q => ?_⟩⟩
            · rw [if_neg q] at hRR
              rcases hwv i with z | ⟨r, r1, r2, r3⟩
              · exact absurd z q
              · rw [r1] at hRR ⊢
                rw [nI_add] at hRR ⊢
                exact ih (i + 1) (p + r) _ (by omega) (by omega) hRR
            · rw [if_pos q] at hRR
              exact hm _ hRR
        exact key m 0 0 (nI 0) (by omega) (by omega) rfl
      · have hmod : CM m_X8_mean LF [.ref 139, .int (nI f), .int (nI m), .int g] M (fun r2 M2 => (-1 : Int32) = r2 ∧ Rel M2 (cn + 1)) := by
          refine CMi pn_X8 rfl rfl rfl LF_nd (fun x X T => ?_)
          exact r_X8_mean_0 X T ac_139 (c_isFile_y LF_nd ac_139 ac_140 hn hn6 hf ⟨fun q => absurd q (by decide), fun _ => c_within_y LF_nd m1 m2 (by decide) ⟨fun q => absurd q (by decide), fun _ => c_within_n LF_nd hno (by decide) (by decide) ⟨fun q => absurd rfl q, fun _ => ⟨rfl, hS⟩⟩⟩⟩)
        exact r_X7_mean_0 X T ac_0 ac_7 ac_11 ac_128 (c_hasFile_y LF_nd ac_7 h.cp.1 hn6 hf ⟨fun q => absurd q (by decide), fun _ => ⟨fun q => absurd q (nI_nl2 m1 (by omega)), fun _ => ⟨fun q => absurd q (nI_nl2 m2 (by decide)), fun _ => ⟨fun _ => hmod, fun h1 => ⟨fun h2 => (wl_lt hno (by decide) (by decide) h1 h2).elim, fun _ => hmod⟩⟩⟩⟩⟩)
    · have hmod : CM m_X8_mean LF [.ref 139, .int (nI f), .int b, .int g] M (fun r2 M2 => (-1 : Int32) = r2 ∧ Rel M2 (cn + 1)) := by
        refine CMi pn_X8 rfl rfl rfl LF_nd (fun x X T => ?_)
        exact r_X8_mean_0 X T ac_139 (c_isFile_y LF_nd ac_139 ac_140 hn hn6 hf ⟨fun q => absurd q (by decide), fun _ => c_within_n LF_nd hno (by decide) (by decide) ⟨fun _ => ⟨rfl, hS⟩, fun q => absurd rfl q⟩⟩)
      exact r_X7_mean_0 X T ac_0 ac_7 ac_11 ac_128 (c_hasFile_y LF_nd ac_7 h.cp.1 hn6 hf ⟨fun q => absurd q (by decide), fun _ => ⟨fun _ => hmod, fun h1 => ⟨fun _ => hmod, fun h2 => (wl_lt hno (by decide) (by decide) h1 (Int32.not_lt.mp h2)).elim⟩⟩⟩)
  · refine r_X7_mean_0 X T ac_0 ac_7 ac_11 ac_128 (c_hasFile_n LF_nd ac_7 h.cp.1 hn6 hno ⟨fun _ => ?_, fun q => absurd rfl q⟩)
    refine CMi pn_X8 rfl rfl rfl LF_nd (fun x X T => ?_)
    exact r_X8_mean_0 X T ac_139 (c_isFile_n LF_nd ac_139 ac_140 hn hn6 hno ⟨fun _ => ⟨rfl, hS⟩, fun q => absurd rfl q⟩)
