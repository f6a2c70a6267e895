/-! the class: what is lacking, filled up; who comes; what is kept -/
theorem lack_c {d c : Nat} (hd : d < 2 ^ 30) (hc : c < 2 ^ 30) : (if nI 0 < nI d - nI c then nI d - nI c else nI 0) = nI (d - c) := by
  by_cases h : c < d
  · rw [if_pos, pk_sub (by omega)]
    rw [pk_sub (by omega), nI_ltI (by decide) (by omega)]; omega
  · rw [if_neg, show d - c = 0 by omega]
    rw [Int32.lt_iff_toInt_lt, pk_sub_toInt hd hc, nI_toInt (by decide)]; omega
theorem lack_m {d c : Nat} (hd : d < 2 ^ 30) (hc : c < 2 ^ 30) : (if 0 ≤ nI d - nI c then nI d - nI c else (0 : Int32)) = nI (d - c) := by
  by_cases h : c ≤ d
  · rw [if_pos, pk_sub h]
    rw [pk_sub h]; exact nI_pos' (by omega)
  · rw [if_neg, show d - c = 0 by omega]; rfl
    rw [Int32.le_iff_toInt_le, pk_sub_toInt hd hc, show (0 : Int32).toInt = 0 from by decide]; omega
theorem laF_n {w : Nat → Int32} {l f d h : Nat} (hd : w f = nI d) (hd2 : d ≤ 12) (hh : w (89 + 16 * l + 10 + f) = nI h) (hh2 : h < 2 ^ 18) : laF w l f = nI (d - pcN h 18) := by
  have := pcN_le h 18
  unfold laF
  rw [hd, hh, onF_n (by omega) 18 (by decide), lack_m (by omega) (by omega)]
theorem c_lacksC {L : List Nat} (hL : L.Nodup) {K : Nat} (P : LC L K) (P7 : PC L 7) {M : Mem} {Q : Int32 → Mem → Prop} {f d h : Nat} (hf : f < 6) (hd : M 8 f = nI d) (hd2 : d ≤ 12) (hh : M (K + 1) f = nI h) (hh2 : h < 2 ^ 18) (hq : Q (nI (d - pcN h 18)) M) : CM m_X1_lacks L [.ref K, .int (nI f)] M Q := by
  have := pcN_le h 18
  refine CMi pn_X1 rfl rfl rfl hL (fun x X T => ?_)
  refine r_X1_lacks_0 X T P.1 P7.1 P7.2.1 P.2.1 ⟨hf, hf, ?_⟩
  rw [hh]
  refine c_bitCount hL hh2 ?_
  rw [hd, lack_c (by omega) (by omega)]
  exact hq
theorem or0 (a : Int32) : a ||| nI 0 = a := by
  apply Int32.toBitVec_inj.1
  show a.toBitVec ||| BitVec.ofNat 32 0 = a.toBitVec
  simp
theorem c_wholeBits {L : List Nat} (hL : L.Nodup) {K : Nat} (P : LC L K) (P7 : PC L 7) {M : Mem} {Q : Int32 → Mem → Prop} {w : Nat → Int32} {l n : Nat} (hn : M 7 3 = nI n) (hn6 : n ≤ 6) (hl : ∀ f, f < n → ∃ d h, M 8 f = nI d ∧ d ≤ 12 ∧ M (K + 1) f = nI h ∧ h < 2 ^ 18 ∧ laF w l f = nI (d - pcN h 18)) (hq : Q (whF w l n) M) : CM m_X1_wholeBits L [.ref K] M Q := by
  refine CMi pn_X1 rfl rfl rfl hL (fun x X T => ?_)
  refine r_X1_wholeBits_0 X T ?_
  have key : ∀ m f, f + m = n → WP x L 4 [some (.ref K), some (.int (whF w l f)), some (.int (nI f))] [] M := by
    intro m
    induction m with
    | zero =>
      intro f hf
      have : f = n := by omega
      subst this
      exact r_X1_wholeBits_4 X T P.1 P7.1 ⟨f, hn, by omega, by omega, fun _ => hq, fun hc => absurd hc (by omega)⟩
    | succ m ih =>
      intro f hf
      have hs := ih (f + 1) (by omega)
      obtain ⟨d, h, a1, a2, a3, a4, a5⟩ := hl f (by omega)
      refine r_X1_wholeBits_4 X T P.1 P7.1 ⟨n, hn, by omega, by omega, fun hc => absurd hc (by omega), fun _ => c_lacksC hL P P7 (by omega) a1 a2 a3 a4 ?_⟩
      rw [← a5]
      refine ⟨fun hc => ?_, fun hc => ?_⟩
      · rw [whF, if_neg hc, or0] at hs; exact hs
      · rw [whF, if_pos hc] at hs; exact hs
  exact key n 0 (by omega)
/-! filling up -/
def bt (h k : Nat) : Nat := h / 2 ^ k % 2
theorem bt_lt (h k : Nat) : bt h k < 2 := Nat.mod_lt _ (by decide)
theorem bt_tb (h k : Nat) : h.testBit k = decide (bt h k = 1) := by
  unfold bt
  rw [Nat.testBit_eq_decide_div_mod_eq]
def fl : Nat → Nat → Nat → Nat → Nat
  | 0, _, _, h => h
  | c + 1, m, k, h => if m = 0 then h else if bt h k = 0 then fl c (m - 1) (k + 1) (h ||| 2 ^ k) else fl c m (k + 1) h
theorem fl_0 (k h : Nat) : ∀ c, fl c 0 k h = h
  | 0 => rfl
  | c + 1 => by rw [fl, if_pos rfl]
theorem fl_lt {N : Nat} : ∀ (c m k h : Nat), k + c ≤ N → h < 2 ^ N → fl c m k h < 2 ^ N
  | 0, _, _, _, _, hh => hh
  | c + 1, m, k, h, hk, hh => by
    rw [fl]
    split
    · exact hh
    · split
      · exact fl_lt c (m - 1) (k + 1) _ (by omega) (or_bit hh (by omega))
      · exact fl_lt c m (k + 1) h (by omega) hh
theorem bt_or_ne {h k j : Nat} (hj : j ≠ k) : bt (h ||| 2 ^ k) j = bt h j := by
  have e : (h ||| 2 ^ k).testBit j = h.testBit j := by
    rw [fb_bit_set]; simp [hj]
  rw [bt_tb, bt_tb] at e
  have a := bt_lt (h ||| 2 ^ k) j
  have b := bt_lt h j
  have := decide_eq_decide.mp e
  omega
theorem or_same {h k : Nat} (hb : bt h k = 1) : h ||| 2 ^ k = h := by
  apply Nat.eq_of_testBit_eq
  intro i
  rw [fb_bit_set]
  by_cases c : i = k
  · subst c; rw [bt_tb, hb]; rfl
  · simp [c]
/-- bits of h that are not set from k on, in c places -/
def zc (h : Nat) : Nat → Nat → Nat
  | _, 0 => 0
  | k, c + 1 => (1 - bt h k) + zc h (k + 1) c
theorem zc_cong {h h' : Nat} : ∀ (c k : Nat), (∀ j, k ≤ j → bt h j = bt h' j) → zc h k c = zc h' k c
  | 0, _, _ => rfl
  | c + 1, k, e => by rw [zc, zc, e k (Nat.le_refl _), zc_cong c (k + 1) (fun j hj => e j (by omega))]
theorem zc_pc (h : Nat) : ∀ (c k : Nat), zc h k c + pcN h (k + c) = c + pcN h k
  | 0, k => by rw [zc]; rfl
  | c + 1, k => by
    have ih := zc_pc h c (k + 1)
    have e : pcN h (k + 1) = pcN h k + bt h k := rfl
    have b := bt_lt h k
    rw [zc, show k + (c + 1) = k + 1 + c by omega]
    omega
theorem pcN_hi {h N : Nat} (hh : h < 2 ^ N) : ∀ m, pcN h (N + m) = pcN h N
  | 0 => rfl
  | m + 1 => by
    have ih := pcN_hi hh m
    have : h < 2 ^ (N + m) := Nat.lt_of_lt_of_le hh (Nat.pow_le_pow_right (by decide) (by omega))
    show pcN h (N + m) + h / 2 ^ (N + m) % 2 = pcN h N
    rw [ih, Nat.div_eq_of_lt this]; rfl
theorem c_fillUp {L : List Nat} (hL : L.Nodup) {K : Nat} (hK : 11 ≤ K) (P : LC L K) (P7 : PC L 7) {M : Mem} {Q : Int32 → Mem → Prop} {f d s h : Nat} (hf : f < 6) (hd : M 8 f = nI d) (hs : M 9 f = nI s) (hd2 : d ≤ 12) (hs2 : s ≤ 6) (hh : M (K + 1) f = nI h) (hh2 : h < 2 ^ 18) (hq : Q (nI (d - pcN h 18)) (MU M (K + 1) f (nI (fl (d + s) (d - pcN h 18) 0 h)))) : CM m_X1_fillUp L [.ref K, .int (nI f)] M Q := by
  refine CMi pn_X1 rfl rfl rfl hL (fun x X T => ?_)
  refine r_X1_fillUp_0 X T P.1 (c_lacksC hL P P7 hf hd hd2 hh hh2 ⟨d - pcN h 18, rfl, ?_⟩)
  have key : ∀ (c m k g : Nat), k + c = d + s → m ≤ 12 → fl c m k g = fl (d + s) (d - pcN h 18) 0 h → WP x L 11 [some (.ref K), some (.int (nI f)), some (.int (nI (d - pcN h 18))), some (.int (nI m)), some (.int (nI k)), none] [] (MR M (K + 1) (upd (M (K + 1)) f (nI g))) := by
    intro c
    induction c with
    | zero =>
      intro m k g hk hm hfl
      refine r_X1_fillUp_11 X T P.1 P7.1 P.2.1 (c_symbolsOf hL P7 hf ⟨d + s, ?_, by omega, by omega, fun _ => ?_, fun hc => absurd hc (by omega)⟩)
      · rw [MR_ne (by omega), MR_ne (by omega), hd, hs, nI_add]
      · rw [fl] at hfl
        rw [hfl]
        exact hq
    | succ c ih =>
      intro m k g hk hm hfl
      rw [fl] at hfl
      refine r_X1_fillUp_11 X T P.1 P7.1 P.2.1 (c_symbolsOf hL P7 hf ⟨d + s, ?_, by omega, by omega, fun hc => absurd hc (by omega), fun _ => ⟨by omega, fun hc => ?_, fun hc => ⟨hf, fun hb => ?_, fun hb => ⟨hf, hf, by omega, ?_⟩⟩⟩⟩)
      · rw [MR_ne (by omega), MR_ne (by omega), hd, hs, nI_add]
      · rw [if_pos hc] at hfl
        rw [hfl]
        exact hq
      · rw [MR_at, upd_at, shl1 (by omega), fa_bit (by omega), bt_tb] at hb
        rw [if_neg (by omega), if_neg (fun q => by rw [q] at hb; exact hb (by decide))] at hfl
        exact ih m (k + 1) g (by omega) hm hfl
      · rw [MR_at, upd_at, shl1 (by omega), fa_bit (by omega), bt_tb] at hb
        have hb0 : bt g k = 0 := by
          have := bt_lt g k
          have h1 : ¬ bt g k = 1 := fun q => by rw [q] at hb; exact absurd hb (by decide)
          omega
        rw [if_neg (by omega), if_pos hb0] at hfl
        have hs2 := ih (m - 1) (k + 1) (g ||| 2 ^ k) (by omega) (by omega) hfl
        rw [MU_MR, MR_at, upd_at, shl1 (by omega), fa_or, show upd (upd (M (K + 1)) f (nI g)) f (nI (g ||| 2 ^ k)) = upd (M (K + 1)) f (nI (g ||| 2 ^ k)) from fa_upd_twice _ _ _ _]
        exact hs2
  have := key (d + s) (d - pcN h 18) 0 h (by omega) (by omega) rfl
  rw [← hh, fa_upd_same rfl, MR_self] at this
  exact this
theorem c_enter {L : List Nat} (hL : L.Nodup) {K : Nat} (P : LC L K) {M : Mem} {Q : Int32 → Mem → Prop} {a t : Int32}
    (h : ∀ M' : Mem, (M' K 4 = a ∧ M' K 5 = t ∧ M' K 6 = -4 ∧ M' K 7 = nI 0) → (∀ k, k < 6 → M' (K + 1) k = nI 0 ∧ M' (K + 2) k = -4) → M' K 1 = M K 1 → (∀ i, (i < K ∨ K + 2 < i) → M' i = M i) → Q 0 M') : CM m_X1_enter L [.ref K, .int a, .int t] M Q := by
  refine CMi pn_X1 rfl rfl rfl hL (fun x X T => ?_)
  refine r_X1_enter_0 X T P.1 ?_
  generalize hM1 : MU (MU (MU (MU M K 4 a) K 5 t) K 6 (-4)) K 7 (nI 0) = M1
  have key : ∀ m f, f + m = 6 → ∀ M2 : Mem, (∀ i, (i < K + 1 ∨ K + 2 < i) → M2 i = M1 i) → (∀ k, k < f → M2 (K + 1) k = nI 0 ∧ M2 (K + 2) k = -4) → WP x L 23 [some (.ref K), none, none, some (.int (nI f))] [] M2 := by
    intro m
    induction m with
    | zero =>
      intro f hf M2 g1 g2
      have : f = 6 := by omega
      subst this
      refine r_X1_enter_23 X T P.1 P.2.1 P.2.2 ⟨by omega, fun _ => h M2 ?_ g2 ?_ (fun i hi => ?_), fun hc => absurd hc (by omega)⟩
      · rw [g1 K (by omega), ← hM1]
        refine ⟨?_, ?_, ?_, ?_⟩
        · rw [MU_at, upd_ne (by decide), MU_at, upd_ne (by decide), MU_at, upd_ne (by decide), MU_at, upd_at]
        · rw [MU_at, upd_ne (by decide), MU_at, upd_ne (by decide), MU_at, upd_at]
        · rw [MU_at, upd_ne (by decide), MU_at, upd_at]
        · rw [MU_at, upd_at]
      · rw [g1 K (by omega), ← hM1, MU_at, upd_ne (by decide), MU_at, upd_ne (by decide), MU_at, upd_ne (by decide), MU_at, upd_ne (by decide)]
      · rw [g1 i (by omega), ← hM1, MU_ne (by omega), MU_ne (by omega), MU_ne (by omega), MU_ne (by omega)]
    | succ m ih =>
      intro f hf M2 g1 g2
      refine r_X1_enter_23 X T P.1 P.2.1 P.2.2 ⟨by omega, fun hc => absurd hc (by omega), fun _ => ⟨by omega, by omega, ih (f + 1) (by omega) _ (fun i hi => ?_) (fun k hk => ?_)⟩⟩
      · rw [MU_ne (by omega), MU_ne (by omega)]; exact g1 i hi
      · rw [MU_ne (i := K + 2) (j := K + 1) (by omega), MU_at, MU_at, MU_ne (by omega)]
        by_cases c : k = f
        · subst c; rw [upd_at, upd_at]; exact ⟨rfl, rfl⟩
        · rw [upd_ne c, upd_ne c]; exact g2 k (by omega)
  exact key 6 0 (by omega) M1 (fun _ _ => rfl) (fun k hk => absurd hk (Nat.not_lt_zero _))
theorem c_addListener {L : List Nat} (hL : L.Nodup) {B : Nat} (P : RC L B) {M : Mem} {Q : Int32 → Mem → Prop} {a : Int32} {jn t : Nat} (hj : M B 2 = nI jn) (hj4 : jn < 4) (ht : M (B + 2) 9 = nI t)
    (h : ∀ M' : Mem, M' B 2 = nI (jn + 1) → (M' (B + 1 + 10 + 3 * jn) 4 = a ∧ M' (B + 1 + 10 + 3 * jn) 5 = nI t ∧ M' (B + 1 + 10 + 3 * jn) 6 = -4 ∧ M' (B + 1 + 10 + 3 * jn) 7 = nI 0) → (∀ k, k < 6 → M' (B + 1 + 10 + 3 * jn + 1) k = nI 0 ∧ M' (B + 1 + 10 + 3 * jn + 2) k = -4) → M' (B + 1 + 10 + 3 * jn) 1 = M (B + 1 + 10 + 3 * jn) 1 → (∀ i, i ≠ B → (i < B + 1 + 10 + 3 * jn ∨ B + 1 + 10 + 3 * jn + 2 < i) → M' i = M i) → Q (nI jn) M') : CM m_X4_addListener L [.ref B, .int a] M Q := by
  refine CMi pn_X4 rfl rfl rfl hL (fun x X T => ?_)
  refine r_X4_addListener_0 X T P.1 P.2.1 P.2.2.1.1 (fun j hj => (P.2.2.2 j hj).1) ⟨jn, hj, hj4, t, ht, c_enter hL (P.2.2.2 jn hj4) (fun M1 e1 e2 e3 e4 => ?_)⟩
  refine h _ ?_ ?_ (fun k hk => ?_) ?_ (fun i h1 h2 => ?_)
  · rw [MU_at, upd_at]
  · rw [MU_ne (by omega)]; exact e1
  · rw [MU_ne (by omega), MU_ne (by omega)]; exact e2 k hk
  · rw [MU_ne (by omega)]; exact e3
  · rw [MU_ne h1]; exact e4 i h2
theorem c_hasLis_y {L : List Nat} (hL : L.Nodup) {B : Nat} (A : AC L B 4 0) {M : Mem} {Q : Int32 → Mem → Prop} {f n : Nat} (hn : M B 2 = nI n) (h6 : n ≤ 4) (hf : f < n) (h : Q 1 M) : CM m_X4_hasListener L [.ref B, .int (nI f)] M Q := by
  refine CMi pn_X4 rfl rfl rfl hL (fun x X T => ?_)
  exact r_X4_hasListener_0 X T A ⟨fun hc => absurd hc (nI_pos (by omega)), fun _ => ⟨n, hn, fun hc => absurd hc (nI_ge hf (by omega)), fun _ => h⟩⟩
theorem c_hasLis_n {L : List Nat} (hL : L.Nodup) {B : Nat} (A : AC L B 4 0) {M : Mem} {Q : Int32 → Mem → Prop} {a : Int32} {n : Nat} (hn : M B 2 = nI n) (h6 : n ≤ 4) (hf : a.toInt < 0 ∨ (n : Int) ≤ a.toInt) (h : Q 0 M) : CM m_X4_hasListener L [.ref B, .int a] M Q := by
  refine CMi pn_X4 rfl rfl rfl hL (fun x X T => ?_)
  refine r_X4_hasListener_0 X T A ⟨fun _ => h, fun hc => ⟨n, hn, fun _ => h, fun hc2 => ?_⟩⟩
  exfalso
  rw [Int32.lt_iff_toInt_lt, show (0 : Int32).toInt = 0 from by decide] at hc
  rw [Int32.le_iff_toInt_le, nI_toInt (by omega)] at hc2
  omega
theorem c_hasRoom {L : List Nat} (hL : L.Nodup) {B : Nat} (A : AC L B 4 0) {M : Mem} {Q : Int32 → Mem → Prop} {n : Nat} (hn : M B 2 = nI n) (h6 : n ≤ 4) (h : Q (if n = 4 then 0 else 1) M) : CM m_X4_hasRoom L [.ref B] M Q := by
  refine CMi pn_X4 rfl rfl rfl hL (fun x X T => ?_)
  refine r_X4_hasRoom_0 X T A ⟨n, hn, fun hc => absurd hc (nI_pos (by omega)), fun _ => ⟨n, hn, by omega, fun hc => ?_, fun hc => ?_⟩⟩
  · rw [if_pos (by omega)] at h; exact h
  · rw [if_neg (by omega)] at h; exact h
theorem c_startNew {L : List Nat} (hL : L.Nodup) {S : Nat} (P : SC L S) {M : Mem} {Q : Int32 → Mem → Prop} {f v : Nat} (hf : f < 6) (hv : M (S + 2) f = nI v) (hv2 : v < 100) (h : Q (nI ((v + 1) % 100)) (MU (MU M (S + 2) f (nI ((v + 1) % 100))) (S + 3) f (nI 0))) : CM m_X6_startNewVersion L [.ref S, .int (nI f)] M Q := by
  refine CMi pn_X6 rfl rfl rfl hL (fun x X T => ?_)
  refine r_X6_startNewVersion_0 X T P.1 P.2.2.1 P.2.2.2.1 ⟨hf, ?_⟩
  rw [hv, nI_leI (by decide) (by omega), nI_add]
  refine ⟨fun hc => ⟨hf, hf, hf, ?_⟩, fun hc => ⟨hf, hf, hf, hf, ?_⟩⟩
  · rw [MU_ne (by omega), MU_at, upd_at]
    rw [show (v + 1) % 100 = 0 by omega] at h
    exact h
  · rw [MU_ne (by omega), MU_at, upd_at]
    rw [show (v + 1) % 100 = v + 1 by omega] at h
    exact h
/-! what is kept -/
theorem kb_off (k : Nat) : 35 + 1 + 23 * (k % 4) = 36 + 23 * (k % 4) := by omega
theorem min4 {u : Nat} (hu : u ≤ 4) : (if nI 4 < nI (u + 1) then nI 4 else nI (u + 1)) = nI (m1F u) := by
  unfold m1F
  by_cases c : u = 4
  · subst c; rw [if_pos (by decide), if_pos rfl]
  · rw [if_neg (fun q => by rw [nI_ltI (by decide) (by omega)] at q; omega), if_neg c]
theorem c_keep {L : List Nat} (hL : L.Nodup) (A34 : AC L 34 2 0) (A35 : AC L 35 11 4) (PK : ∀ j, j < 4 → RC L (35 + 1 + 23 * j)) (P11 : RC L 11) {M : Mem} {Q : Int32 → Mem → Prop} {w : Nat → Int32} {r n e li t jn md u : Nat} {d s y v : Nat → Nat} (hr : RR M 11 w r n e li d s t jn y v) (hnu : ∀ j, j < 4 → NU M (35 + 1 + 23 * j)) (hmd : M 34 1 = nI md) (hmd2 : md < 2 ^ 30) (hu : M 34 2 = nI u) (hu4 : u ≤ 4)
    (h : ∀ M' : Mem, RR M' (35 + 1 + 23 * (md % 4)) w r n e li d s t jn y v → NU M' (35 + 1 + 23 * (md % 4)) → M' 34 1 = nI (md + 1) → M' 34 2 = nI (m1F u) → (∀ i, i ≠ 34 → (i < 35 + 1 + 23 * (md % 4) ∨ 35 + 1 + 23 * (md % 4) + 22 < i) → M' i = M i) → Q 0 M') : CM m_X2_keep L [.ref 34, .ref 11] M Q := by
  have hm4 : md % 4 < 4 := Nat.mod_lt _ (by decide)
  refine CMi pn_X2 rfl rfl rfl hL (fun x X T => ?_)
  refine r_X2_keep_0 X T A34 A35 (fun j hj => (PK j hj).1) ⟨md, hmd, by omega, hm4, c_rBecome hL (PK _ hm4) P11 (by omega) hr (hnu _ hm4) (fun M1 k1 k2 k3 => ⟨md, ?_, u, ?_, ?_⟩)⟩
  · rw [k3 34 (by omega)]; exact hmd
  · rw [MU_at, upd_ne (by decide), k3 34 (by omega)]; exact hu
  · rw [min4 hu4]
    have hf : ∀ i, i ≠ 34 → (MU (MU M1 34 1 (nI (md + 1))) 34 2 (nI (m1F u))) i = M1 i := fun i hi => by rw [MU_ne hi, MU_ne hi]
    generalize hM2 : MU (MU M1 34 1 (nI (md + 1))) 34 2 (nI (m1F u)) = M2 at *
    refine h M2 ?_ ?_ ?_ ?_ (fun i h1 h2 => ?_)
    · obtain ⟨a, b, c, g, i, j⟩ := k1
      refine ⟨a, b, c, ?_, ?_, fun l hl => ?_⟩
      · unfold SR LGR at *
        rw [hf _ (by omega), hf _ (by omega), hf _ (by omega), hf _ (by omega), hf _ (by omega), hf _ (by omega), hf _ (by omega), hf _ (by omega), hf _ (by omega)]
        exact g
      · rw [hf _ (by omega)]; exact i
      · exact LR_m (j l hl) (hf _ (by omega)) (hf _ (by omega)) (hf _ (by omega))
    · intro l hl
      rw [hf _ (by omega)]; exact k2 l hl
    · rw [← hM2, MU_at, upd_ne (by decide), MU_at, upd_at]
    · rw [← hM2, MU_at, upd_at]
    · rw [hf _ h1, k3 i h2]
theorem c_giveBack_n {L : List Nat} (hL : L.Nodup) (A34 : AC L 34 2 0) (A35 : AC L 35 11 4) (A11 : AC L 11 4 0) {M : Mem} {Q : Int32 → Mem → Prop} (hu : M 34 2 = nI 0) (h : Q 0 M) : CM m_X2_giveBack L [.ref 34, .ref 11] M Q := by
  refine CMi pn_X2 rfl rfl rfl hL (fun x X T => ?_)
  exact r_X2_giveBack_0 X T A34 A35 A11 ⟨0, hu, by omega, fun hc => absurd hc (by omega), fun _ => h⟩
theorem c_giveBack_y {L : List Nat} (hL : L.Nodup) (A34 : AC L 34 2 0) (A35 : AC L 35 11 4) (PK : ∀ j, j < 4 → RC L (35 + 1 + 23 * j)) (P11 : RC L 11) {M : Mem} {Q : Int32 → Mem → Prop} {w : Nat → Int32} {r n e li t jn md u : Nat} {d s y v : Nat → Nat} (hr : RR M (35 + 1 + 23 * (md % 4)) w r n e li d s t jn y v) (hnu : NU M 11) (hmd : M 34 1 = nI (md + 1)) (hmd2 : md < 2 ^ 30) (hu : M 34 2 = nI (u + 1)) (hu4 : u < 4)
    (h : ∀ M' : Mem, RR M' 11 w r n e li d s t jn y v → NU M' 11 → M' 34 1 = nI md → M' 34 2 = nI u → (∀ i, i ≠ 34 → (i < 11 ∨ 33 < i) → M' i = M i) → Q 1 M') : CM m_X2_giveBack L [.ref 34, .ref 11] M Q := by
  have hm4 : md % 4 < 4 := Nat.mod_lt _ (by decide)
  refine CMi pn_X2 rfl rfl rfl hL (fun x X T => ?_)
  have hf : ∀ i, i ≠ 34 → (MU (MU M 34 2 (nI (u + 1) - nI 1)) 34 1 (nI (md + 1) - nI 1)) i = M i := fun i hi => by rw [MU_ne hi, MU_ne hi]
  refine r_X2_giveBack_0 X T A34 A35 P11.1 ⟨u + 1, hu, by omega, fun _ => ⟨u + 1, hu, md + 1, ?_, md, ?_, by omega, hm4, ?_⟩, fun hc => absurd hc (by omega)⟩
  · rw [MU_at, upd_ne (by decide)]; exact hmd
  · rw [MU_at, upd_at, pk_sub (by omega)]; rfl
  · have e34 : (MU (MU M 34 2 (nI (u + 1) - nI 1)) 34 1 (nI (md + 1) - nI 1)) 34 1 = nI md ∧ (MU (MU M 34 2 (nI (u + 1) - nI 1)) 34 1 (nI (md + 1) - nI 1)) 34 2 = nI u := by
      rw [MU_at, upd_at, upd_ne (by decide), MU_at, upd_at, pk_sub (by omega), pk_sub (by omega)]; exact ⟨rfl, rfl⟩
    generalize hM2 : MU (MU M 34 2 (nI (u + 1) - nI 1)) 34 1 (nI (md + 1) - nI 1) = M2 at *
    refine c_rBecome hL P11 (PK _ hm4) (by omega) (w := w) (r := r) (n := n) (e := e) (li := li) (t := t) (jn := jn) (d := d) (s := s) (y := y) (v := v) ?_ ?_ (fun M3 k1 k2 k3 => h M3 k1 k2 ?_ ?_ (fun i h1 h2 => ?_))
    · obtain ⟨a, b, c, g, i, j⟩ := hr
      refine ⟨a, b, c, ?_, ?_, fun l hl => ?_⟩
      · unfold SR LGR at *
        rw [hf _ (by omega), hf _ (by omega), hf _ (by omega), hf _ (by omega), hf _ (by omega), hf _ (by omega), hf _ (by omega), hf _ (by omega), hf _ (by omega)]
        exact g
      · rw [hf _ (by omega)]; exact i
      · exact LR_m (j l hl) (hf _ (by omega)) (hf _ (by omega)) (hf _ (by omega))
    · intro l hl
      rw [hf _ (by omega)]; exact hnu l hl
    · rw [k3 34 (by omega)]; exact e34.1
    · rw [k3 34 (by omega)]; exact e34.2
    · rw [k3 i (by omega), hf i h1]
