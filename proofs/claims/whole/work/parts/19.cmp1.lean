/-! the class: plan and sender, leaves -/
theorem xor_nn {a b : Nat} (ha : a < 2 ^ 31) (hb : b < 2 ^ 31) : 0 ≤ nI a ^^^ nI b := by
  rw [fb_xorI]
  exact nI_pos' (Nat.xor_lt_two_pow ha hb)
theorem c_floorMod {L : List Nat} (hL : L.Nodup) {M : Mem} {Q : Int32 → Mem → Prop} {a b : Nat} (ha : a < 2 ^ 31) (h0 : 0 < b) (hb : b < 2 ^ 31) (h : Q (nI (a % b)) M) : CM m_J9_floorMod_7cf53 L [.int (nI a), .int (nI b)] M Q := by
  refine CMj pn_fm rfl rfl rfl hL (fun x X T => ?_)
  exact r_J9_floorMod_7cf53_0 X T ⟨ha, h0, hb, fun _ => h, fun hc => absurd (xor_nn ha hb) hc⟩
theorem c_placeOf {L : List Nat} (hL : L.Nodup) {M : Mem} {Q : Int32 → Mem → Prop} {a : Nat} (ha : a < 2 ^ 31) (h : Q (nI (a % 10)) M) : CM m_X6_placeOf L [.int (nI a)] M Q := by
  refine CMi pn_X6 rfl rfl rfl hL (fun x X T => ?_)
  exact r_X6_placeOf_0 X T (c_floorMod hL ha (by decide) (by decide) h)
/-- a sender's cells, the plan's -/
def SC (L : List Nat) (S : Nat) : Prop := AC L S 6 0 ∧ AC L (S + 1) 9 6 ∧ AC L (S + 2) 9 6 ∧ AC L (S + 3) 9 6 ∧ AC L (S + 4) 9 6 ∧ AC L (S + 5) 9 6 ∧ AC L (S + 6) 9 10 ∧ AC L (S + 7) 9 10 ∧ AC L (S + 8) 9 10
def PC (L : List Nat) (p : Nat) : Prop := AC L p 3 0 ∧ AC L (p + 1) 9 6 ∧ AC L (p + 2) 9 6 ∧ AC L (p + 3) 9 6
theorem PC7 : PC LF 7 := ⟨ac_7, ac_8, ac_9, ac_10⟩
theorem PC3 : PC LF 3 := ⟨ac_3, ac_4, ac_5, ac_6⟩
theorem SC13 : SC LF 13 := ⟨ac_13, ac_14, ac_15, ac_16, ac_17, ac_18, ac_19, ac_20, ac_21⟩
theorem SC130 : SC LF 130 := ⟨ac_130, ac_131, ac_132, ac_133, ac_134, ac_135, ac_136, ac_137, ac_138⟩
theorem c_hasFile_y {L : List Nat} (hL : L.Nodup) {p : Nat} (A : AC L p 3 0) {M : Mem} {Q : Int32 → Mem → Prop} {f n : Nat} (hn : M p 3 = nI n) (h6 : n ≤ 6) (hf : f < n) (h : Q 1 M) : CM m_X3_hasFile L [.ref p, .int (nI f)] M Q := by
  refine CMi pn_X3 rfl rfl rfl hL (fun x X T => ?_)
  exact r_X3_hasFile_0 X T A ⟨fun hc => absurd hc (nI_pos (by omega)), fun _ => ⟨n, hn, fun hc => absurd hc (nI_ge hf (by omega)), fun _ => h⟩⟩
theorem c_hasFile_n {L : List Nat} (hL : L.Nodup) {p : Nat} (A : AC L p 3 0) {M : Mem} {Q : Int32 → Mem → Prop} {a : Int32} {n : Nat} (hn : M p 3 = nI n) (h6 : n ≤ 6) (hf : a.toInt < 0 ∨ (n : Int) ≤ a.toInt) (h : Q 0 M) : CM m_X3_hasFile L [.ref p, .int a] M Q := by
  refine CMi pn_X3 rfl rfl rfl hL (fun x X T => ?_)
  refine r_X3_hasFile_0 X T A ⟨fun _ => h, fun hc => ⟨n, hn, fun _ => h, fun hc2 => ?_⟩⟩
  exfalso
  rw [Int32.lt_iff_toInt_lt, show (0 : Int32).toInt = 0 from by decide] at hc
  rw [Int32.le_iff_toInt_le, nI_toInt (by omega)] at hc2
  omega
theorem c_symbolsOf {L : List Nat} (hL : L.Nodup) {p : Nat} (P : PC L p) {M : Mem} {Q : Int32 → Mem → Prop} {f : Nat} (hf : f < 6) (h : Q (M (p + 1) f + M (p + 2) f) M) : CM m_X3_symbolsOf L [.ref p, .int (nI f)] M Q := by
  refine CMi pn_X3 rfl rfl rfl hL (fun x X T => ?_)
  exact r_X3_symbolsOf_0 X T P.1 P.2.1 P.2.2.1 ⟨hf, hf, h⟩
theorem c_isTableTurn {L : List Nat} (hL : L.Nodup) {p : Nat} (A : AC L p 3 0) {M : Mem} {Q : Int32 → Mem → Prop} {t e : Nat} (he : M p 4 = nI e) (h3 : 3 ≤ e) (h20 : e ≤ 20) (ht : t < 2 ^ 31) (h : Q (if t % e = 0 then 1 else 0) M) : CM m_X3_isTableTurn L [.ref p, .int (nI t)] M Q := by
  refine CMi pn_X3 rfl rfl rfl hL (fun x X T => ?_)
  have hmod : t % e < e := Nat.mod_lt _ (by omega)
  refine r_X3_isTableTurn_0 X T A ⟨e, he, by omega, fun hc => absurd hc (by omega), fun _ => ⟨e, he, ht, by omega, by omega, by omega, fun hc => ?_, fun hc => ?_⟩⟩
  · rw [if_neg (by omega)] at h; exact h
  · rw [if_pos hc] at h; exact h
theorem c_setTable {L : List Nat} (hL : L.Nodup) {p : Nat} (A : AC L p 3 0) {M : Mem} {Q : Int32 → Mem → Prop} {a b : Int32} (h : Q 0 (MU (MU M p 4 a) p 5 b)) : CM m_X3_setTable L [.ref p, .int a, .int b] M Q := by
  refine CMi pn_X3 rfl rfl rfl hL (fun x X T => ?_)
  exact r_X3_setTable_0 X T A h
theorem c_clear {L : List Nat} (hL : L.Nodup) {p : Nat} (A : AC L p 3 0) {M : Mem} {Q : Int32 → Mem → Prop} (h : Q 0 (MU (MU (MU M p 3 (nI 0)) p 4 (nI 6)) p 5 (nI 20))) : CM m_X3_clear L [.ref p] M Q := by
  refine CMi pn_X3 rfl rfl rfl hL (fun x X T => ?_)
  exact r_X3_clear_0 X T A (c_setTable hL A h)
theorem c_addFile_y {L : List Nat} (hL : L.Nodup) {p : Nat} (P : PC L p) {M : Mem} {Q : Int32 → Mem → Prop} {a b c : Int32} {n : Nat} (hn : M p 3 = nI n) (h6 : n < 6) (h : Q 1 (MU (MU (MU (MU M (p + 1) n a) (p + 2) n b) (p + 3) n c) p 3 (nI (n + 1)))) : CM m_X3_addFile L [.ref p, .int a, .int b, .int c] M Q := by
  refine CMi pn_X3 rfl rfl rfl hL (fun x X T => ?_)
  refine r_X3_addFile_0 X T P.1 P.2.1 P.2.2.1 P.2.2.2 ⟨n, hn, fun hc => absurd hc (nI_pos (by omega)), fun _ => ⟨n, hn, by omega, fun _ => ⟨n, hn, h6, n, ?_, h6, n, ?_, h6, n, ?_, h⟩, fun hc => absurd hc (by omega)⟩⟩
  · rw [MU_ne (by omega)]; exact hn
  · rw [MU_ne (by omega), MU_ne (by omega)]; exact hn
  · rw [MU_ne (by omega), MU_ne (by omega), MU_ne (by omega)]; exact hn
theorem c_addFile_n {L : List Nat} (hL : L.Nodup) {p : Nat} (P : PC L p) {M : Mem} {Q : Int32 → Mem → Prop} {a b c : Int32} {n : Nat} (hn : M p 3 = nI n) (h6 : n = 6) (h : Q 0 M) : CM m_X3_addFile L [.ref p, .int a, .int b, .int c] M Q := by
  refine CMi pn_X3 rfl rfl rfl hL (fun x X T => ?_)
  exact r_X3_addFile_0 X T P.1 P.2.1 P.2.2.1 P.2.2.2 ⟨n, hn, fun hc => absurd hc (nI_pos (by omega)), fun _ => ⟨n, hn, by omega, fun hc => absurd hc (by omega), fun _ => h⟩⟩
theorem c_fileIn {L : List Nat} (hL : L.Nodup) {S : Nat} (P : SC L S) {M : Mem} {Q : Int32 → Mem → Prop} {t : Nat} (ht : t < 2 ^ 31) (h : Q (M (S + 6) (t % 10)) M) : CM m_X6_fileIn L [.ref S, .int (nI t)] M Q := by
  refine CMi pn_X6 rfl rfl rfl hL (fun x X T => ?_)
  exact r_X6_fileIn_0 X T P.1 P.2.2.2.2.2.2.1 (c_placeOf hL ht ⟨t % 10, rfl, Nat.mod_lt _ (by decide), h⟩)
theorem c_symbolIn {L : List Nat} (hL : L.Nodup) {S : Nat} (P : SC L S) {M : Mem} {Q : Int32 → Mem → Prop} {t : Nat} (ht : t < 2 ^ 31) (h : Q (M (S + 7) (t % 10)) M) : CM m_X6_symbolIn L [.ref S, .int (nI t)] M Q := by
  refine CMi pn_X6 rfl rfl rfl hL (fun x X T => ?_)
  exact r_X6_symbolIn_0 X T P.1 P.2.2.2.2.2.2.2.1 (c_placeOf hL ht ⟨t % 10, rfl, Nat.mod_lt _ (by decide), h⟩)
theorem c_versionIn {L : List Nat} (hL : L.Nodup) {S : Nat} (P : SC L S) {M : Mem} {Q : Int32 → Mem → Prop} {t : Nat} (ht : t < 2 ^ 31) (h : Q (M (S + 8) (t % 10)) M) : CM m_X6_versionIn L [.ref S, .int (nI t)] M Q := by
  refine CMi pn_X6 rfl rfl rfl hL (fun x X T => ?_)
  exact r_X6_versionIn_0 X T P.1 P.2.2.2.2.2.2.2.2 (c_placeOf hL ht ⟨t % 10, rfl, Nat.mod_lt _ (by decide), h⟩)
theorem c_note {L : List Nat} (hL : L.Nodup) {S : Nat} (P : SC L S) {M : Mem} {Q : Int32 → Mem → Prop} {a b c : Int32} {t : Nat} (hc : M S 9 = nI t) (ht : t < 2 ^ 31) (h : Q 0 (MU (MU (MU M (S + 6) (t % 10) a) (S + 7) (t % 10) b) (S + 8) (t % 10) c)) : CM m_X6_note L [.ref S, .int a, .int b, .int c] M Q := by
  refine CMi pn_X6 rfl rfl rfl hL (fun x X T => ?_)
  have hm : t % 10 < 10 := Nat.mod_lt _ (by decide)
  exact r_X6_note_0 X T P.1 P.2.2.2.2.2.2.1 P.2.2.2.2.2.2.2.1 P.2.2.2.2.2.2.2.2 ⟨t, hc, c_placeOf hL ht ⟨t % 10, rfl, hm, hm, hm, h⟩⟩
theorem c_allWeights {L : List Nat} (hL : L.Nodup) {S : Nat} (P : SC L S) (P7 : PC L 7) {M : Mem} {Q : Int32 → Mem → Prop} {n : Nat} (hn : M 7 3 = nI n) (h6 : n ≤ 6) (h : Q (suF (M (S + 1)) n) M) : CM m_X6_allWeights L [.ref S] M Q := by
  refine CMi pn_X6 rfl rfl rfl hL (fun x X T => ?_)
  refine r_X6_allWeights_0 X T ?_
  have key : ∀ m f, f + m = n → WP x L 4 [some (.ref S), some (.int (suF (M (S + 1)) f)), some (.int (nI f))] [] M := by
    intro m
    induction m with
    | zero =>
      intro f hf
      have : f = n := by omega
      subst this
      exact r_X6_allWeights_4 X T P.1 P7.1 P.2.1 ⟨f, hn, by omega, by omega, fun _ => h, fun hc => absurd hc (by omega)⟩
    | succ m ih =>
      intro f hf
      exact r_X6_allWeights_4 X T P.1 P7.1 P.2.1 ⟨n, hn, by omega, by omega, fun hc => absurd hc (by omega), fun _ => ⟨by omega, ih (f + 1) (by omega)⟩⟩
  exact key n 0 (by omega)
/-- grown credits of the class's own row -/
def cgF (c g : Nat → Int32) (n : Nat) : Nat → Int32 := fun f => if f < n then c f + g f else c f
theorem cgF_0 (c g : Nat → Int32) : cgF c g 0 = c := by
  funext f; unfold cgF; rw [if_neg (by omega)]
theorem cgF_step (c g : Nat → Int32) (f : Nat) : upd (cgF c g f) f (c f + g f) = cgF c g (f + 1) := by
  funext k
  unfold upd cgF
  grind
theorem c_chooseFile {L : List Nat} (hL : L.Nodup) {S : Nat} (hS : 11 ≤ S) (P : SC L S) (P7 : PC L 7) {M : Mem} {Q : Int32 → Mem → Prop} {n : Nat} (hn : M 7 3 = nI n) (h1 : 1 ≤ n) (h6 : n ≤ 6) (h : Q (nI (beF (fun f => M (S + 4) f + M (S + 1) f) n)) (MR M (S + 4) (upd (cgF (M (S + 4)) (M (S + 1)) n) (beF (fun f => M (S + 4) f + M (S + 1) f) n) (M (S + 4) (beF (fun f => M (S + 4) f + M (S + 1) f) n) + M (S + 1) (beF (fun f => M (S + 4) f + M (S + 1) f) n) - suF (M (S + 1)) n)))) : CM m_X6_chooseFile L [.ref S] M Q := by
  refine CMi pn_X6 rfl rfl rfl hL (fun x X T => ?_)
  refine r_X6_chooseFile_0 X T P.1 (c_allWeights hL P P7 hn h6 ?_)
  generalize hg : (fun f => M (S + 4) f + M (S + 1) f) = g at *
  have hgf : ∀ f, M (S + 4) f + M (S + 1) f = g f := fun f => by rw [← hg]
  have key : ∀ m f, f + m = n → WP x L 9 [some (.ref S), some (.int (suF (M (S + 1)) n)), some (.int (nI (beF g f))), some (.int (nI f))] [] (MR M (S + 4) (cgF (M (S + 4)) (M (S + 1)) f)) := by
    intro m
    induction m with
    | zero =>
      intro f hf
      have : f = n := by omega
      subst this
      have hb := beF_lt g f (by omega)
      refine r_X6_chooseFile_9 X T P.1 P7.1 P.2.2.2.2.1 P.2.1 ⟨f, ?_, by omega, by omega, fun _ => ⟨by omega, by omega, ?_⟩, fun hc => absurd hc (by omega)⟩
      · rw [MR_ne (by omega)]; exact hn
      · rw [MU_MR, MR_at, show cgF (M (S + 4)) (M (S + 1)) f (beF g f) = M (S + 4) (beF g f) + M (S + 1) (beF g f) by unfold cgF; rw [if_pos hb]]
        exact h
    | succ m ih =>
      intro f hf
      have hb := beF_le g f
      have hs := ih (f + 1) (by omega)
      have e1 : MU (MR M (S + 4) (cgF (M (S + 4)) (M (S + 1)) f)) (S + 4) f ((MR M (S + 4) (cgF (M (S + 4)) (M (S + 1)) f)) (S + 4) f + (MR M (S + 4) (cgF (M (S + 4)) (M (S + 1)) f)) (S + 1) f) = MR M (S + 4) (cgF (M (S + 4)) (M (S + 1)) (f + 1)) := by
        rw [MU_MR, MR_at, MR_ne (i := S + 4) (j := S + 1) (by omega), show cgF (M (S + 4)) (M (S + 1)) f f = M (S + 4) f by unfold cgF; rw [if_neg (by omega)], cgF_step]
      refine r_X6_chooseFile_9 X T P.1 P7.1 P.2.2.2.2.1 P.2.1 ⟨n, ?_, by omega, by omega, fun hc => absurd hc (by omega), fun _ => ⟨by omega, by omega, by omega, by omega, by omega, ?_⟩⟩
      · rw [MR_ne (by omega)]; exact hn
      · rw [e1, MR_at, show cgF (M (S + 4)) (M (S + 1)) (f + 1) f = g f by unfold cgF; rw [if_pos (by omega), hgf], show cgF (M (S + 4)) (M (S + 1)) (f + 1) (beF g f) = g (beF g f) by unfold cgF; rw [if_pos (by omega), hgf]]
        refine ⟨fun hc => ?_, fun hc => ?_⟩
        · rw [beF_succ, if_pos hc] at hs; exact hs
        · rw [beF_succ, if_neg hc] at hs; exact hs
  have := key n 0 (by omega)
  rw [cgF_0, MR_self] at this
  exact this
