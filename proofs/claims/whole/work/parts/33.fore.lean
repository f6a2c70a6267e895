/-! what will come, and how long one waits for it -/
def fkN (w : Nat → Int32) (n e t : Nat) (y ns : Nat → Nat) : Nat → (Nat → Int32) × (Nat → Nat)
  | 0 => (w, y)
  | k + 1 => (tkF (fkN w n e t y ns k).1 153 n e (t + k) 0 (fkN w n e t y ns k).2 ns, yyF (fkN w n e t y ns k).1 153 n e (t + k) (fkN w n e t y ns k).2 ns)
theorem fkN_s1 (w : Nat → Int32) (n e t : Nat) (y ns : Nat → Nat) (k : Nat) : (fkN w n e t y ns (k + 1)).1 = tkF (fkN w n e t y ns k).1 153 n e (t + k) 0 (fkN w n e t y ns k).2 ns := rfl
theorem fkN_s2 (w : Nat → Int32) (n e t : Nat) (y ns : Nat → Nat) (k : Nat) : (fkN w n e t y ns (k + 1)).2 = yyF (fkN w n e t y ns k).1 153 n e (t + k) (fkN w n e t y ns k).2 ns := rfl
theorem fkN_ok {w : Nat → Int32} {n e li t : Nat} {d s y v : Nat → Nat} (hp : PW w 153 n e li d s) (hv : VW w 153 n t 0 d s y v) : ∀ k, t + k < 1000000 → PW (fkN w n e t y (fun f => d f + s f) k).1 153 n e li d s ∧ VW (fkN w n e t y (fun f => d f + s f) k).1 153 n (t + k) 0 d s (fkN w n e t y (fun f => d f + s f) k).2 v
  | 0, _ => ⟨hp, hv⟩
  | k + 1, hk => by
    obtain ⟨h1, h2⟩ := fkN_ok hp hv k (by omega)
    rw [fkN_s1, fkN_s2]
    exact ⟨PW_tick h1, VW_tick h1 h2 (by omega)⟩
theorem tkF_out {w : Nat → Int32} {n e t q : Nat} {y ns : Nat → Nat} (hn1 : 1 ≤ n) (hn : n ≤ 6) (hq : q < 153 ∨ 306 ≤ q) : tkF w 153 n e t 0 y ns q = w q := by
  rcases hq with hq | hq
  · exact tkF_keep hn1 hn (Or.inl (by omega))
  · have hb : boF w 153 n < n := beF_lt _ _ (by omega)
    unfold tkF
    by_cases c : t % e = 0
    · rw [if_pos c]; unfold tkT
      rw [upd_ne (by omega), upd_ne (by omega), hlF_out hn (by omega) _ _ (by omega), lgF_out (by omega)]
    · rw [if_neg c]; unfold tkS
      rw [upd_ne (by omega), upd_ne (by omega), upd_ne (by omega), upd_ne (by omega), hlF_out hn (by omega) _ _ (by omega), lgF_out (by omega), snF_out hn1 hn (by omega)]
theorem fkN_out {w : Nat → Int32} {n e t : Nat} {y ns : Nat → Nat} (hn1 : 1 ≤ n) (hn : n ≤ 6) {q : Nat} (hq : q < 153 ∨ 306 ≤ q) : ∀ k, (fkN w n e t y ns k).1 q = w q
  | 0 => rfl
  | k + 1 => by rw [fkN_s1, tkF_out hn1 hn hq]; exact fkN_out hn1 hn hq k
/-- what comes: 0 a table, 1 of another file, y + 2 symbol y of the file -/
def thN (S : Nat → (Nat → Int32) × (Nat → Nat)) (n e t f i : Nat) : Nat := if (t + i) % e = 0 then 0 else if boF (S i).1 153 n = f then (S i).2 f + 2 else 1
def cmN (a : Nat) : Int32 := if a = 0 then -4 else if a = 1 then -1 else nI (a - 2)
def zN (th : Nat → Nat) (li i z : Nat) : Nat := if th i = 0 then i + li else z
def hN (th : Nat → Nat) (i z h : Nat) : Nat := if 2 ≤ th i ∧ i < z then h ||| 2 ^ (th i - 2) else h
def wtN (th : Nat → Nat) (li dd : Nat) : Nat → Nat → Nat → Nat → Nat → Int32
  | 0, _, _, _, _ => -4
  | c + 1, i, j, z, h => if pcN (hN th i z h) 18 < dd then wtN th li dd c (i + 1) (j + 1) (zN th li i z) (hN th i z h) else nI (j + 1)
def LV (t z : Nat) : Int32 := if z = 0 then -4 else nI (t + z - 1)
theorem LV_lt {t z i : Nat} (ht : t < 2 ^ 29) (hz : z < 2 ^ 29) (hi : i < 2 ^ 29) : LV t z < nI (t + i) ↔ z ≤ i := by
  unfold LV
  by_cases c : z = 0
  · rw [if_pos c, Int32.lt_iff_toInt_lt, nI_toInt (by omega), show (-4 : Int32).toInt = -4 from by decide]; omega
  · rw [if_neg c, nI_ltI (by omega) (by omega)]; omega
theorem hN_lt {th : Nat → Nat} {i z h : Nat} (hth : th i < 20) (hh : h < 2 ^ 18) : hN th i z h < 2 ^ 18 := by
  unfold hN
  split
  · exact or_bit hh (by omega)
  · exact hh
theorem zN_lt {th : Nat → Nat} {li i z : Nat} (hl : li ≤ 99) (hi : i < 500) (hz : z < 600) : zN th li i z < 600 := by
  unfold zN; split <;> omega
theorem LV_next {t i li : Nat} (hl : 1 ≤ li) : nI (t + i) + nI li - nI 1 = LV t (i + li) := by
  unfold LV
  rw [if_neg (by omega), nI_add, pk_sub (by omega), show t + i + li - 1 = t + (i + li) - 1 by omega]
theorem c_waitBehind {M : Mem} {Q : Int32 → Mem → Prop} {th : Nat → Nat} {li dd b Tk : Nat} (hT : M 128 3 = nI Tk) (hT2 : Tk ≤ 499) (hb : b + 400 ≤ Tk) (hdd : M 128 4 = nI dd) (hd12 : dd ≤ 12) (hli : M 7 5 = nI li) (hl1 : 1 ≤ li) (hl99 : li ≤ 99) (hcm : ∀ k, k < Tk → M 129 k = cmN (th k) ∧ th k < 20) (hq : Q (wtN th li dd 400 b 0 0 0) M) : CM m_X0_waitBehind LF [.ref 128, .int (nI b)] M Q := by
  refine CMi pn_X0 rfl rfl rfl LF_nd (fun x X T => ?_)
  refine r_X0_waitBehind_0 X T ?_
  rw [show (if nI 0 < nI b then nI b else nI 0) = nI b by
    by_cases c : b = 0
    · subst c; rfl
    · rw [if_pos (by rw [nI_ltI (by decide) (by omega)]; omega)]]
  have key : ∀ c i j z h, j + c = 400 → i = b + j → z < 600 → h < 2 ^ 18 → wtN th li dd c i j z h = wtN th li dd 400 b 0 0 0 → WP x LF 12 [some (.ref 128), some (.int (nI b)), some (.int (nI h)), some (.int (LV 0 z)), some (.int (nI i)), none] [] M := by
    intro c
    induction c with
    | zero =>
      intro i j z h hj hi hz hh hw
      rw [wtN] at hw
      rw [← hw] at hq
      exact r_X0_waitBehind_12 X T ac_128 ac_129 ac_7 ⟨Tk, hT, by omega, by omega, fun _ => hq, fun _ => ⟨by omega, by omega, fun _ => hq, fun q => absurd q (by omega)⟩⟩
    | succ c ih =>
      intro i j z h hj hi hz hh hw
      obtain ⟨c1, c2⟩ := hcm i (by omega)
      rw [wtN] at hw
      have hh' := hN_lt (z := z) c2 hh
      have hz' := zN_lt (th := th) hl99 (show i < 500 by omega) hz
      have fin : ∀ (M0 : Mem) (h0 : Nat) (a3 : Int32), M0 = M → h0 = hN th i z h → a3 = LV 0 (zN th li i z) → CM m_J6_bitCount_0f7a4 LF [.int (nI h0)] M0 (fun r M5 => (r < M5 128 4 → WP x LF 12 [some (.ref 128), some (.int (nI b)), some (.int (nI h0)), some (.int a3), some (.int (nI (i + 1))), none] [] M5) ∧ (¬ r < M5 128 4 → b ≤ i ∧ Q (nI (i - b + 1)) M5)) := by
        intro M0 h0 a3 e1 e2 e3
        subst e1; subst e2; subst e3
        refine c_bitCount LF_nd hh' ⟨fun q => ?_, fun q => ⟨by omega, ?_⟩⟩
        · have := pcN_le (hN th i z h) 18
          rw [hdd, nI_ltI (by omega) (by omega)] at q
          rw [if_pos q] at hw
          exact ih (i + 1) (j + 1) _ _ (by omega) (by omega) hz' hh' hw
        · have := pcN_le (hN th i z h) 18
          rw [hdd, nI_ltI (by omega) (by omega)] at q
          rw [if_neg q] at hw
          rw [show i - b + 1 = j + 1 by omega, hw]
          exact hq
      refine r_X0_waitBehind_12 X T ac_128 ac_129 ac_7 ⟨Tk, hT, by omega, by omega, fun q => absurd q (by omega), fun _ => ⟨by omega, by omega, fun q => absurd q (by omega), fun _ => ⟨by omega, fun z0 => ⟨fun z1 => fin M h _ rfl ?_ ?_, fun z1 => ⟨fun z2 => fin M h _ rfl ?_ ?_, fun z2 => ?_⟩⟩, fun z0 => fin M h _ rfl ?_ ?_⟩⟩⟩
      · rw [c1] at z0 z1
        have h1 : th i = 1 := by
          unfold cmN at z0 z1
          by_cases q0 : th i = 0
          · rw [if_pos q0] at z0; exact absurd rfl z0
          · by_cases q1 : th i = 1
            · exact q1
            · rw [if_neg q0, if_neg q1] at z1; exact absurd z1 (nI_pos (by omega))
        unfold hN; rw [if_neg (by omega)]
      · rw [c1] at z0
        have h1 : ¬ th i = 0 := fun q0 => z0 (by unfold cmN; rw [if_pos q0])
        unfold zN; rw [if_neg h1]
      · have : z ≤ i := by have := (LV_lt (t := 0) (z := z) (i := i) (by omega) (by omega) (by omega)).mp (by rw [Nat.zero_add]; exact z2); exact this
        unfold hN; rw [if_neg (by omega)]
      · rw [c1] at z0
        have h1 : ¬ th i = 0 := fun q0 => z0 (by unfold cmN; rw [if_pos q0])
        unfold zN; rw [if_neg h1]
      · have hzi : i < z := by
          have : ¬ z ≤ i := fun q => z2 (by have := (LV_lt (t := 0) (z := z) (i := i) (by omega) (by omega) (by omega)).mpr q; rwa [Nat.zero_add] at this)
          omega
        rw [c1] at z0 z1
        have h0 : ¬ th i = 0 := fun q0 => z0 (by unfold cmN; rw [if_pos q0])
        have h1 : ¬ th i = 1 := fun q0 => z1 (by unfold cmN; rw [if_neg h0, if_pos q0]; decide)
        have e1 : M 129 i = nI (th i - 2) := by rw [c1]; unfold cmN; rw [if_neg h0, if_neg h1]
        rw [e1, shl1 (by omega), fa_or]
        refine fin M _ _ rfl ?_ ?_
        · unfold hN; rw [if_pos (by omega)]
        · unfold zN; rw [if_neg h0]
      · rw [c1] at z0
        have h1 : th i = 0 := by
          unfold cmN at z0
          by_cases q0 : th i = 0
          · exact q0
          · by_cases q1 : th i = 1
            · rw [if_neg q0, if_pos q1] at z0; exact absurd z0 (by decide)
            · rw [if_neg q0, if_neg q1] at z0
              have := congrArg Int32.toInt z0
              rw [nI_toInt (by omega), show (-4 : Int32).toInt = -4 from by decide] at this; omega
        unfold hN; rw [if_neg (by omega)]
      · rw [c1] at z0
        have h1 : th i = 0 := by
          unfold cmN at z0
          by_cases q0 : th i = 0
          · exact q0
          · by_cases q1 : th i = 1
            · rw [if_neg q0, if_pos q1] at z0; exact absurd z0 (by decide)
            · rw [if_neg q0, if_neg q1] at z0
              have := congrArg Int32.toInt z0
              rw [nI_toInt (by omega), show (-4 : Int32).toInt = -4 from by decide] at this; omega
        unfold zN; rw [if_pos h1, hli]
        have := LV_next (t := 0) (i := i) (li := li) hl1
        rwa [Nat.zero_add] at this
  exact key 400 b 0 0 0 (by omega) (by omega) (by omega) (by decide) rfl
