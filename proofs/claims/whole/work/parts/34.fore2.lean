/-! the reference's wait, the class's look ahead -/
theorem MR_eq {M M2 : Mem} {i : Nat} (h : ∀ q, q ≠ i → M2 q = M q) : M2 = MR M i (M2 i) := by
  funext q
  by_cases c : q = i
  · subst c; rw [MR_at]
  · rw [MR_ne c, h q c]
theorem th_lt {w1 : Nat → Int32} {n e li t f : Nat} {d s y v : Nat → Nat} (hp : PW w1 153 n e li d s) (hv : VW w1 153 n t 0 d s y v) (hf : f < n) (i : Nat) (hi : t + i < 1000000) : thN (fkN w1 n e t y (fun f => d f + s f)) n e t f i < 20 := by
  obtain ⟨-, h2⟩ := fkN_ok hp hv i hi
  have a := (h2.2.2 f hf).1.2
  obtain ⟨-, -, b, -, c⟩ := hp.2.2.2 f hf
  unfold thN
  split
  · omega
  · split <;> omega
theorem c_waitsFrom {M : Mem} {Q : Int32 → Mem → Prop} {w1 : Nat → Int32} {n e li t f b : Nat} {d s y v : Nat → Nat} (hp : PW w1 153 n e li d s) (hv : VW w1 153 n t 0 d s y v) (hf : f < n) (hd : w1 f = nI (d f)) (hM : M 140 = (fkN w1 n e t y (fun f => d f + s f) b).1) (hb : b ≤ 99) (ht : t ≤ 9999)
    (h : ∀ w' : Nat → Int32, (∀ q, (q < 153 ∨ 306 ≤ q) → w' q = w1 q) → Q (wtN (thN (fkN w1 n e t y (fun f => d f + s f)) n e t f) li (d f) 400 b 0 0 0) (MR M 140 w')) : CM m_X8_waitsFrom LF [.ref 139, .int (nI f)] M Q := by
  have hn1 : 1 ≤ n := hp.1.2.1
  have hn6 : n ≤ 6 := hp.1.2.2
  have hd12 : d f ≤ 12 := (hp.2.2.2 f hf).2.2.1
  obtain ⟨-, hl1, hl99⟩ := hp.2.2.1
  refine CMi pn_X8 rfl rfl rfl LF_nd (fun x X T => ?_)
  refine r_X8_waitsFrom_0 X T ?_
  generalize hth : thN (fkN w1 n e t y (fun f => d f + s f)) n e t f = th at *
  have key : ∀ c i j z hh, j + c = 400 → i = b + j → z < 600 → hh < 2 ^ 18 → wtN th li (d f) c i j z hh = wtN th li (d f) 400 b 0 0 0 → ∀ M2 : Mem, M2 140 = (fkN w1 n e t y (fun f => d f + s f) i).1 → (∀ q, q ≠ 140 → M2 q = M q) → WP x LF 8 [some (.ref 139), some (.int (nI f)), some (.int (LV t z)), some (.int (nI hh)), some (.int (nI (j + 1))), none, none, none] [] M2 := by
    intro c
    induction c with
    | zero =>
      intro i j z hh hj hi hz hh18 hw M2 e1 e2
      rw [wtN] at hw
      have hq := h (fkN w1 n e t y (fun f => d f + s f) i).1 (fun q hq => fkN_out hn1 hn6 hq i)
      rw [← hw, ← e1, ← MR_eq e2] at hq
      exact r_X8_waitsFrom_8 X T ac_139 ac_140 ⟨by omega, fun _ => hq, fun q => absurd q (by omega)⟩
    | succ c ih =>
      intro i j z hh hj hi hz hh18 hw M2 e1 e2
      obtain ⟨hpi, hvi⟩ := fkN_ok hp hv i (by omega)
      obtain ⟨hpj, -⟩ := fkN_ok hp hv (i + 1) (by omega)
      have hth2 : th i < 20 := by rw [← hth]; exact th_lt hp hv hf i (by omega)
      rw [wtN] at hw
      have hh' := hN_lt (z := z) hth2 hh18
      have hz' := zN_lt (th := th) hl99 (show i < 500 by omega) hz
      have e45 : (fkN w1 n e t y (fun f => d f + s f) i).1 198 = nI (t + i) := hvi.1.1
      have e24 : (fkN w1 n e t y (fun f => d f + s f) i).1 (177 + f) = nI ((fkN w1 n e t y (fun f => d f + s f) i).2 f) := (hvi.2.2 f hf).1.1
      refine r_X8_waitsFrom_8 X T ac_139 ac_140 ⟨by omega, fun q => absurd q (by omega), fun _ => ⟨by omega, c_ticks LF_nd ac_139 ac_140 (by omega) (by rw [e1]; exact hpi) (by rw [e1]; exact hvi) ?_⟩⟩
      rw [e1, ← fkN_s1]
      generalize hM3 : MR M2 140 (fkN w1 n e t y (fun f => d f + s f) (i + 1)).1 = M3
      have f1 : M3 140 = (fkN w1 n e t y (fun f => d f + s f) (i + 1)).1 := by rw [← hM3, MR_at]
      have f2 : ∀ q, q ≠ 140 → M3 q = M q := fun q hq => by rw [← hM3, MR_ne hq]; exact e2 q hq
      have f44 : M3 140 197 = nI li := by rw [f1]; exact hpj.2.2.1.1
      have f0 : M3 140 (0 + f) = nI (d f) := by rw [f1, fkN_out hn1 hn6 (by omega), Nat.zero_add]; exact hd
      have fin : ∀ (a2 hx : Int32), a2 = LV t (zN th li i z) → hx = nI (hN th i z hh) → CM m_X8_ones LF [.int hx] M3 (fun r5 M4 => (0 + f) < 918 ∧ (r5 < M4 140 (0 + f) → WP x LF 8 [some (.ref 139), some (.int (nI f)), some (.int a2), some (.int hx), some (.int (nI (j + 1 + 1))), none, none, none] [] M4) ∧ (¬ r5 < M4 140 (0 + f) → Q (nI (j + 1)) M4)) := by
        intro a2 hx g1 g2
        subst g1; subst g2
        have hpl := pcN_le (hN th i z hh) 18
        refine c_ones LF_nd ?_
        rw [onF_n (by omega) 18 (by decide)]
        refine ⟨by omega, fun q => ?_, fun q => ?_⟩
        · rw [f0, nI_ltI (by omega) (by omega)] at q
          rw [if_pos q] at hw
          exact ih (i + 1) (j + 1) _ _ (by omega) (by omega) hz' hh' hw M3 f1 f2
        · rw [f0, nI_ltI (by omega) (by omega)] at q
          rw [if_neg q] at hw
          rw [hw, MR_eq f2]
          rw [f1]
          exact h _ (fun q hq => fkN_out hn1 hn6 hq (i + 1))
      have hthi : th i = thN (fkN w1 n e t y (fun f => d f + s f)) n e t f i := by rw [hth]
      unfold thN at hthi
      unfold fiF
      have hbo : boF (fkN w1 n e t y (fun f => d f + s f) i).1 153 n < n := beF_lt _ _ (by omega)
      by_cases c0 : (t + i) % e = 0
      · rw [if_pos c0] at hthi ⊢
        refine ⟨fun q => absurd rfl q, fun _ => ⟨fun _ => fin _ _ ?_ ?_, fun q => ?_⟩⟩
        · rw [e45, f44, LV_next hl1]; unfold zN; rw [if_pos hthi]
        · rw [or0]; unfold hN; rw [if_neg (by omega)]
        · have := congrArg Int32.toInt q
          rw [nI_toInt (by omega), show (-4 : Int32).toInt = -4 from by decide] at this; omega
      · rw [if_neg c0] at hthi ⊢
        refine ⟨fun _ => ⟨fun q => fin _ _ ?_ ?_, fun q => ?_⟩, fun q => ?_⟩
        · rw [if_neg (fun z => q (by rw [z]))] at hthi
          unfold zN; rw [if_neg (by omega)]
        · rw [if_neg (fun z => q (by rw [z]))] at hthi
          rw [or0]; unfold hN; rw [if_neg (by omega)]
        · have hbf : boF (fkN w1 n e t y (fun f => d f + s f) i).1 153 n = f := by
            have := congrArg Int32.toInt q
            rw [nI_toInt (by omega), nI_toInt (by omega)] at this; omega
          rw [if_pos hbf] at hthi
          refine ⟨fun q2 => fin _ _ ?_ ?_, fun q2 => fin _ _ ?_ ?_⟩
          · unfold zN; rw [if_neg (by omega)]
          · rw [e45, LV_lt (by omega) (by omega) (by omega)] at q2
            rw [or0]; unfold hN; rw [if_neg (by omega)]
          · unfold zN; rw [if_neg (by omega)]
          · rw [e45, LV_lt (by omega) (by omega) (by omega)] at q2
            have hy := (hvi.2.2 f hf).1.2
            obtain ⟨-, -, -, -, hs6⟩ := hp.2.2.2 f hf
            rw [e24, shl1 (by omega), fa_or]; unfold hN; rw [if_pos (by omega), hthi, Nat.add_sub_cancel]
        · have := congrArg Int32.toInt q
          rw [nI_toInt (by omega), show (-4 : Int32).toInt = -4 from by decide] at this; omega
  exact key 400 b 0 0 0 (by omega) (by omega) (by omega) (by decide) rfl M hM (fun _ _ => rfl)
/-- the row ahead -/
def ahF (w : Nat → Int32) : Nat → Int32 := upd (cpF w 0 153 153) 201 (nI 0)
theorem ahF_in {w : Nat → Int32} {q : Nat} (hq : q < 153) (h2 : q ≠ 48) : ahF w (153 + q) = w (0 + q) := by
  unfold ahF; rw [upd_ne (by omega), cpF_in hq]
theorem ahF_out {w : Nat → Int32} {q : Nat} (hq : q < 153 ∨ 306 ≤ q) : ahF w q = w q := by
  unfold ahF; rw [upd_ne (by omega), cpF_out (by omega)]
theorem ahF_cong {w w' : Nat → Int32} (h : ∀ q, (q < 153 ∨ 306 ≤ q) → w' q = w q) : ahF w' = ahF w := by
  funext q
  by_cases c : q < 153 ∨ 306 ≤ q
  · rw [ahF_out c, ahF_out c, h q c]
  · unfold ahF upd cpF
    by_cases c2 : q = 201
    · rw [if_pos c2, if_pos c2]
    · rw [if_neg c2, if_neg c2, if_pos (by omega), if_pos (by omega)]
      exact h _ (by omega)
theorem ah_PW {w : Nat → Int32} {n e li : Nat} {d s : Nat → Nat} (h : PW w 0 n e li d s) : PW (ahF w) 153 n e li d s := PW_w h (fun q hq => ahF_in (by omega) (by omega))
theorem ah_VW {w : Nat → Int32} {n t jn : Nat} {d s y v : Nat → Nat} (hn : n ≤ 6) (h : VW w 0 n t jn d s y v) : VW (ahF w) 153 n t 0 d s y v := by
  obtain ⟨⟨a, a1⟩, -, g⟩ := h
  refine ⟨⟨by rw [ahF_in (by omega) (by omega)]; exact a, a1⟩, ⟨?_, by omega⟩, fun f hf => ?_⟩
  · unfold ahF; exact upd_at _ _ _
  · rw [show 153 + 24 + f = 153 + (24 + f) by omega, ahF_in (by omega) (by omega), show 153 + 18 + f = 153 + (18 + f) by omega, ahF_in (by omega) (by omega), show 0 + (24 + f) = 0 + 24 + f by omega, show 0 + (18 + f) = 0 + 18 + f by omega]
    exact g f hf
theorem ah_SR {Mc : Mem} {S n t : Nat} {w : Nat → Int32} (hn : n ≤ 6) (h : SR Mc S w 0 n t) : SR Mc S (ahF w) 153 n t := by
  have e2 : ∀ a b, a + b < 89 → a + b ≠ 48 → ahF w (153 + a + b) = w (0 + a + b) := fun a b hab h2 => by rw [Nat.add_assoc, Nat.add_assoc]; exact ahF_in (by omega) h2
  obtain ⟨h1, h2, h3⟩ := h
  refine ⟨fun f hf => ?_, ?_, fun k hk hkt => ?_⟩
  · rw [e2 12 f (by omega) (by omega), e2 18 f (by omega) (by omega), e2 24 f (by omega) (by omega), e2 30 f (by omega) (by omega), e2 36 f (by omega) (by omega)]; exact h1 f hf
  · rw [ahF_in (q := 45) (by omega) (by omega), ahF_in (q := 46) (by omega) (by omega), ahF_in (q := 47) (by omega) (by omega)]; exact h2
  · rw [e2 49 (4 * k) (by omega) (by omega), e2 50 (4 * k) (by omega) (by omega), e2 51 (4 * k) (by omega) (by omega), e2 52 (4 * k) (by omega) (by omega)]; exact h3 k hk hkt
/-- what comes of file f, from w on -/
abbrev thW (w : Nat → Int32) (n e t : Nat) (y ns : Nat → Nat) (f : Nat) : Nat → Nat := thN (fkN (ahF w) n e t y ns) n e t f
theorem c_waitIs {M : Mem} {Q : Int32 → Mem → Prop} {w : Nat → Int32} {n e li t jn f b : Nat} {d s y v : Nat → Nat} (hp : PW w 0 n e li d s) (hv : VW w 0 n t jn d s y v) (hf : f < n) (hM : ∀ q, (q < 153 ∨ 306 ≤ q) → M 140 q = w q) (hb : b ≤ 99) (ht : t ≤ 9999)
    (h : ∀ w' : Nat → Int32, (∀ q, (q < 153 ∨ 306 ≤ q) → w' q = w q) → Q (wtN (thW w n e t y (fun f => d f + s f) f) li (d f) 400 b 0 0 0) (MR M 140 w')) : CM m_X8_waitIs LF [.ref 139, .int (nI f), .int (nI b)] M Q := by
  have hn1 : 1 ≤ n := hp.1.2.1
  have hn6 : n ≤ 6 := hp.1.2.2
  refine CMi pn_X8 rfl rfl rfl LF_nd (fun x X T => ?_)
  refine r_X8_waitIs_0 X T ac_139 ac_140 (c_copies LF_nd ac_139 ac_140 (by omega) (by omega) (by omega) ?_)
  rw [MU_MR]
  have e0 : upd (cpF (M 140) 0 153 153) 201 (nI 0) = ahF w := ahF_cong hM
  rw [e0]
  have key : ∀ c k, k + c = b → WP x LF 19 [some (.ref 139), some (.int (nI f)), some (.int (nI b)), some (.int (nI k))] [] (MR M 140 (fkN (ahF w) n e t y (fun f => d f + s f) k).1) := by
    intro c
    induction c with
    | zero =>
      intro k hk
      have : k = b := by omega
      subst this
      refine r_X8_waitIs_19 X T ac_139 ⟨by omega, by omega, fun _ => ?_, fun q => absurd q (by omega)⟩
      refine c_waitsFrom (ah_PW hp) (ah_VW hn6 hv) hf ?_ (by rw [MR_at]) hb ht (fun w' hw' => ?_)
      · rw [ahF_out (by omega)]
        have := (hp.2.2.2 f hf).1
        rwa [Nat.zero_add] at this
      · rw [MR_MR]
        exact h w' (fun q hq => (hw' q hq).trans (ahF_out hq))
    | succ c ih =>
      intro k hk
      obtain ⟨a1, a2⟩ := fkN_ok (ah_PW hp) (ah_VW hn6 hv) k (by omega)
      refine r_X8_waitIs_19 X T ac_139 ⟨by omega, by omega, fun q => absurd q (by omega), fun _ => c_ticks LF_nd ac_139 ac_140 (by omega) (by rw [MR_at]; exact a1) (by rw [MR_at]; exact a2) ?_⟩
      rw [MR_at, MR_MR, ← fkN_s1]
      exact ih (k + 1) (by omega)
  exact key b 0 (by omega)
theorem tkF_49 {w : Nat → Int32} {r n e t jn : Nat} {y ns : Nat → Nat} (hn1 : 1 ≤ n) (hn6 : n ≤ 6) : tkF w r n e t jn y ns (r + 49) = if t % e = 0 then -4 else nI (boF w r n) := by
  have hb : boF w r n < n := beF_lt _ _ (by omega)
  unfold tkF
  by_cases c : t % e = 0
  · rw [if_pos c, if_pos c, tkT_lo hn6 (by omega), if_neg (by omega), if_neg (by omega)]; unfold lgF; rw [if_pos rfl]
  · rw [if_neg c, if_neg c, tkS_lo hn6 (by omega) (by omega), if_neg (by omega), if_neg (by omega), if_neg (by omega), if_neg (by omega)]; unfold lgF; rw [if_pos rfl]
theorem tkF_50 {w : Nat → Int32} {r n e t jn : Nat} {y ns : Nat → Nat} (hn1 : 1 ≤ n) (hn6 : n ≤ 6) (c : ¬ t % e = 0) : tkF w r n e t jn y ns (r + 50) = nI (y (boF w r n)) := by
  have hb : boF w r n < n := beF_lt _ _ (by omega)
  unfold tkF
  rw [if_neg c, tkS_lo hn6 (by omega) (by omega), if_neg (by omega), if_neg (by omega), if_neg (by omega), if_neg (by omega)]; unfold lgF; rw [if_neg (by omega), if_pos rfl]
theorem c_look {M : Mem} {Q : Int32 → Mem → Prop} {w : Nat → Int32} {n e li t jn f Tk : Nat} {d s y v : Nat → Nat} (hp : PW w 0 n e li d s) (hv : VW w 0 n t jn d s y v) (hsr : SR M 13 w 0 n t) (hcp : CP M n e li d s) (hf : f < n) (ht : t ≤ 9999) (hT1 : 1 ≤ Tk) (hT : Tk ≤ 499)
    (h : ∀ M' : Mem, M' 128 3 = nI Tk → M' 128 4 = nI (d f) → (∀ k, k < Tk → M' 129 k = cmN (thW w n e t y (fun f => d f + s f) f k) ∧ thW w n e t y (fun f => d f + s f) f k < 20) → (∀ i, (i < 128 ∨ 139 ≤ i) → M' i = M i) → Q 0 M') : CM m_X0_look LF [.ref 128, .ref 13, .int (nI f), .int (nI Tk)] M Q := by
  have hn1 : 1 ≤ n := hp.1.2.1
  have hn6 : n ≤ 6 := hp.1.2.2
  have hp1 := ah_PW hp
  have hv1 := ah_VW hn6 hv
  refine CMi pn_X0 rfl rfl rfl LF_nd (fun x X T => ?_)
  refine r_X0_look_0 X T ac_128 ac_130 ac_7 ac_8 ac_129 (c_sBecome LF_nd sc_130 rc_11.2.2.1 (by omega) (fun M1 k1 k2 k3 k4 => ⟨by omega, ?_⟩))
  have hsr1 : SR M1 130 (ahF w) 153 n t := ah_SR hn6 (SR_copy hn6 hsr k1 k2 k3)
  have emin : (if nI 0 < (if nI 499 < nI Tk then nI 499 else nI Tk) then (if nI 499 < nI Tk then nI 499 else nI Tk) else nI 0) = nI Tk := by
    rw [if_neg (c := nI 499 < nI Tk) (by rw [nI_ltI (by decide) (by omega)]; omega), if_pos (by rw [nI_ltI (by decide) (by omega)]; omega)]
  rw [emin]
  have key : ∀ c k, k + c = Tk → ∀ M2 : Mem, SR M2 130 (fkN (ahF w) n e t y (fun f => d f + s f) k).1 153 n (t + k) → M2 128 3 = nI Tk → M2 128 4 = nI (d f) → (∀ i, i < k → M2 129 i = cmN (thW w n e t y (fun f => d f + s f) f i)) → (∀ i, (i < 128 ∨ 139 ≤ i) → M2 i = M i) → WP x LF 41 [some (.ref 128), none, some (.int (nI f)), none, some (.int (nI k)), none] [] M2 := by
    intro c
    induction c with
    | zero =>
      intro k hk M2 g1 g2 g3 g4 g5
      have : k = Tk := by omega
      subst this
      exact r_X0_look_41 X T ac_128 ac_130 ac_129 ⟨k, g2, by omega, by omega, fun _ => h M2 g2 g3 (fun i hi => ⟨g4 i hi, th_lt hp1 hv1 hf i (by omega)⟩) g5, fun q => absurd q (by omega)⟩
    | succ c ih =>
      intro k hk M2 g1 g2 g3 g4 g5
      obtain ⟨a1, a2⟩ := fkN_ok hp1 hv1 k (by omega)
      refine r_X0_look_41 X T ac_128 ac_130 ac_129 ⟨Tk, g2, by omega, by omega, fun q => absurd q (by omega), fun _ => ⟨t + k, g1.2.1.1.trans a2.1.1, ?_⟩⟩
      refine c_step LF_nd (by omega) sc_130 pc_7 g1 (CP_m hcp (g5 _ (by omega)) (g5 _ (by omega)) (g5 _ (by omega))) a1 a2 (fun M3 z1 z2 => ?_)
      obtain ⟨l6, l7, -, -⟩ := z1.2.2 0 (by omega) (by omega)
      rw [show (t + k + 1 - 1 - 0) % 10 = (t + k) % 10 by congr 1] at l6 l7
      have l6' : M3 (130 + 6) ((t + k) % 10) = if (t + k) % e = 0 then -4 else nI (boF (fkN (ahF w) n e t y (fun f => d f + s f) k).1 153 n) := l6.trans (tkF_49 hn1 hn6)
      have hbo : boF (fkN (ahF w) n e t y (fun f => d f + s f) k).1 153 n < n := beF_lt _ _ (by omega)
      have cont : ∀ (r8 : Int32), r8 = cmN (thW w n e t y (fun f => d f + s f) f k) → k < 499 ∧ WP x LF 41 [some (.ref 128), none, some (.int (nI f)), none, some (.int (nI (k + 1))), none] [] (MU M3 129 k r8) := by
        intro r8 hr8
        refine ⟨by omega, ih (k + 1) (by omega) _ ?_ ?_ ?_ ?_ ?_⟩
        · rw [fkN_s1]
          exact SR_m z1 (fun i h1 h2 => by rw [MU_ne (by omega)])
        · rw [MU_ne (by decide), z2 _ (by omega)]; exact g2
        · rw [MU_ne (by decide), z2 _ (by omega)]; exact g3
        · intro i hi
          rw [MU_at]
          by_cases ci : i = k
          · subst ci; rw [upd_at]; exact hr8
          · rw [upd_ne ci, z2 _ (by omega)]; exact g4 i (by omega)
        · intro i hi
          rw [MU_ne (by omega), z2 _ (by omega)]; exact g5 i hi
      refine CMi pn_X0 rfl rfl rfl LF_nd (fun x0 X0 T0 => ?_)
      refine r_X0_seenAs_0 X0 T0 ac_128 ac_130 (c_fileIn LF_nd sc_130 (by omega) ?_)
      rw [l6']
      by_cases c0 : (t + k) % e = 0
      · rw [if_pos c0]
        refine ⟨fun q => absurd rfl q, fun _ => cont _ ?_⟩
        unfold thW thN cmN; rw [if_pos c0, if_pos rfl]
      · rw [if_neg c0]
        refine ⟨fun _ => ⟨fun q => cont _ ?_, fun q => c_symbolIn LF_nd sc_130 (by omega) (cont _ ?_)⟩, fun q => ?_⟩
        · have hbf : ¬ boF (fkN (ahF w) n e t y (fun f => d f + s f) k).1 153 n = f := fun z => q (by rw [z])
          unfold thW thN cmN
          rw [if_neg c0, if_neg hbf, if_neg (by decide), if_pos rfl]
        · have hbf : boF (fkN (ahF w) n e t y (fun f => d f + s f) k).1 153 n = f := by
            have := congrArg Int32.toInt q
            rw [nI_toInt (by omega), nI_toInt (by omega)] at this; omega
          have l7' : M3 (130 + 7) ((t + k) % 10) = _ := l7.trans (tkF_50 hn1 hn6 c0)
          rw [l7', hbf]
          unfold thW thN cmN
          rw [if_neg c0, if_pos hbf, if_neg (by omega), if_neg (by omega), Nat.add_sub_cancel]
        · have := congrArg Int32.toInt q
          rw [nI_toInt (by omega), show (-4 : Int32).toInt = -4 from by decide] at this; omega
  refine key Tk 0 (by omega) _ ?_ ?_ ?_ (fun i hi => absurd hi (by omega)) (fun i hi => ?_)
  · exact SR_m hsr1 (fun i h1 h2 => by rw [MU_ne (by omega), MU_ne (by omega)])
  · rw [MU_at, upd_at]
  · rw [MU_at, upd_ne (by decide), MU_at, upd_at, k4 _ (by omega)]; exact (hcp.2.2.2 f hf).1
  · rw [MU_ne (by omega), MU_ne (by omega), k4 _ (by omega)]
theorem A_waits (a b : Int32) : AP m_X7_waits m_X8_waits [.int a, .int b] := by
  intro M cn hc hR
  have hS := Rel_same hR
  obtain ⟨n, e, li, d, s, t, jn, y, v, md, u, ln, h, hu⟩ := hR
  obtain ⟨hp, hv, hfw, hsr, hj, hlr⟩ := h.rr
  have hn6 : n ≤ 6 := hp.1.2.2
  have hn : M 140 42 = nI n := hp.1.1
  have ht := h.ht
  refine CMi pn_X7 rfl rfl rfl LF_nd (fun x X T => ?_)
  rcases ix_cases a (n := n) (by omega) with ⟨f, hf, rfl⟩ | hno
  · rcases wl_cases b 0 99 (by decide) (by decide) with ⟨k, k1, k2, rfl⟩ | hno
    · refine r_X7_waits_0 X T ac_0 ac_7 ac_11 ac_128 (c_hasFile_y LF_nd ac_7 h.cp.1 hn6 hf ⟨fun q => absurd q (by decide), fun _ => ⟨fun q => absurd q (nI_pos (by omega)), fun _ => ⟨fun _ => ?_, fun q => absurd (nI_leN k2 (by decide)) q⟩⟩⟩)
      rw [nI_add]
      refine c_look hp hv hsr h.cp hf ht (by omega) (by omega) (fun M1 g1 g2 g3 g4 => ?_)
      refine c_waitBehind g1 (by omega) (by omega) g2 (hp.2.2.2 f hf).2.2.1 (by rw [g4 7 (by omega)]; exact h.cp.2.2.1) hp.2.2.1.2.1 hp.2.2.1.2.2 g3 ?_
      refine CMi pn_X8 rfl rfl rfl LF_nd (fun x X T => ?_)
      refine r_X8_waits_0 X T ac_139 (c_isFile_y LF_nd ac_139 ac_140 (by rw [g4 140 (by omega)]; exact hn) hn6 hf ⟨fun q => absurd q (by decide), fun _ => c_within_y LF_nd k1 k2 (by decide) ⟨fun q => absurd q (by decide), fun _ => ?_⟩⟩)
      refine c_waitIs (w := M 140) hp hv hf (fun q hq => by rw [g4 140 (by omega)]) k2 ht (fun w' hw' => ⟨rfl, ?_⟩)
      refine Rel_of (M := M1) (RG_w (RG_m0 h (fun i h1 h2 => g4 i (by omega)) (TX_m h.tx (by rw [g4 _ (by omega)]) (by rw [g4 _ (by omega)]) (g4 _ (by omega)) (g4 _ (by omega)))) (fun q hq => hw' q (by omega)) (fun q hq => hw' q (by omega))) (fun i hi => by rw [MR_ne (by omega)]) (by rw [MR_at]) ?_ ?_ ?_
      · rw [MR_ne (by decide), g4 _ (by omega)]; exact hu
      · rw [MR_ne (by decide)]
      · rw [MR_ne (by decide)]
    · have hmod : CM m_X8_waits LF [.ref 139, .int (nI f), .int b] M (fun r2 M2 => (-1 : Int32) = r2 ∧ Rel M2 (cn + 1)) := by
        refine CMi pn_X8 rfl rfl rfl LF_nd (fun x X T => ?_)
        exact r_X8_waits_0 X T ac_139 (c_isFile_y LF_nd ac_139 ac_140 hn hn6 hf ⟨fun q => absurd q (by decide), fun _ => c_within_n LF_nd hno (by decide) (by decide) ⟨fun _ => ⟨rfl, hS⟩, fun q => absurd rfl q⟩⟩)
      exact r_X7_waits_0 X T ac_0 ac_7 ac_11 ac_128 (c_hasFile_y LF_nd ac_7 h.cp.1 hn6 hf ⟨fun q => absurd q (by decide), fun _ => ⟨fun _ => hmod, fun h1 => ⟨fun h2 => (wl_lt hno (by decide) (by decide) h1 h2).elim, fun _ => hmod⟩⟩⟩)
  · refine r_X7_waits_0 X T ac_0 ac_7 ac_11 ac_128 (c_hasFile_n LF_nd ac_7 h.cp.1 hn6 hno ⟨fun _ => ?_, fun q => absurd rfl q⟩)
    refine CMi pn_X8 rfl rfl rfl LF_nd (fun x X T => ?_)
    exact r_X8_waits_0 X T ac_139 (c_isFile_n LF_nd ac_139 ac_140 hn hn6 hno ⟨fun _ => ⟨rfl, hS⟩, fun q => absurd rfl q⟩)
