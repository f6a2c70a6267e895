/-! the reference: who is who, what is lacking, the changes kept -/
theorem z_ge0 (n : Nat) (h : n < 2 ^ 31) : (nI n).toInt = (n : Int) := nI_toInt h
theorem z_sub1 {n : Nat} (h : n < 2 ^ 30) : (nI n - nI 1).toInt = (n : Int) - 1 := pk_sub_toInt h (by decide)
/-- an index is one of n, or none -/
theorem ix_cases (a : Int32) {n : Nat} (hn : n < 2 ^ 30) : (∃ f, f < n ∧ a = nI f) ∨ (a.toInt < 0 ∨ (n : Int) ≤ a.toInt) := by
  by_cases h : 0 ≤ a.toInt ∧ a.toInt < n
  · left
    refine ⟨a.toInt.toNat, by omega, Int32.toInt_inj.mp ?_⟩
    rw [nI_toInt (by omega)]
    omega
  · right; omega
theorem wi_yes {f n : Nat} (hf : f < n) (hn : n < 2 ^ 30) : nI 0 ≤ nI f ∧ nI f ≤ nI n - nI 1 := by
  rw [Int32.le_iff_toInt_le, Int32.le_iff_toInt_le, nI_toInt (by decide), nI_toInt (by omega), z_sub1 hn]
  omega
theorem wi_no {a : Int32} {n : Nat} (h : a.toInt < 0 ∨ (n : Int) ≤ a.toInt) (hn : n < 2 ^ 30) : ¬ (nI 0 ≤ a ∧ a ≤ nI n - nI 1) := by
  rw [Int32.le_iff_toInt_le, Int32.le_iff_toInt_le, nI_toInt (by decide), z_sub1 hn]
  omega
/-- between two literals -/
theorem wl_yes {f lo hi : Nat} (h1 : lo ≤ f) (h2 : f ≤ hi) (hh : hi < 2 ^ 30) : nI lo ≤ nI f ∧ nI f ≤ nI hi := by
  rw [nI_leI (by omega) (by omega), nI_leI (by omega) (by omega)]
  exact ⟨h1, h2⟩
theorem wl_cases (a : Int32) (lo hi : Nat) (hh : hi < 2 ^ 30) (hl : lo < 2 ^ 30) : (∃ f, lo ≤ f ∧ f ≤ hi ∧ a = nI f) ∨ (a.toInt < lo ∨ (hi : Int) < a.toInt) := by
  by_cases h : (lo : Int) ≤ a.toInt ∧ a.toInt ≤ hi
  · left
    refine ⟨a.toInt.toNat, by omega, by omega, Int32.toInt_inj.mp ?_⟩
    rw [nI_toInt (by omega)]
    omega
  · right; omega
theorem wl_no {a : Int32} {lo hi : Nat} (h : a.toInt < lo ∨ (hi : Int) < a.toInt) (hh : hi < 2 ^ 30) (hl : lo < 2 ^ 30) : ¬ (nI lo ≤ a ∧ a ≤ nI hi) := by
  rw [Int32.le_iff_toInt_le, Int32.le_iff_toInt_le, nI_toInt (by omega), nI_toInt (by omega)]
  omega
theorem c_isFile_y {L : List Nat} (hL : L.Nodup) (A1 : AC L 139 8 0) (A2 : AC L 140 9 918) {M : Mem} {Q : Int32 → Mem → Prop} {f n : Nat} (hn : M 140 42 = nI n) (h6 : n ≤ 6) (hf : f < n) (h : Q 1 M) : CM m_X8_isFile L [.ref 139, .int (nI f)] M Q := by
  refine CMi pn_X8 rfl rfl rfl hL (fun x X T => ?_)
  refine r_X8_isFile_0 X T A1 A2 (c_within hL ?_)
  rw [hn, if_pos (wi_yes hf (by omega))]
  exact ⟨Or.inr rfl, h⟩
theorem c_isFile_n {L : List Nat} (hL : L.Nodup) (A1 : AC L 139 8 0) (A2 : AC L 140 9 918) {M : Mem} {Q : Int32 → Mem → Prop} {a : Int32} {n : Nat} (hn : M 140 42 = nI n) (h6 : n ≤ 6) (hf : a.toInt < 0 ∨ (n : Int) ≤ a.toInt) (h : Q 0 M) : CM m_X8_isFile L [.ref 139, .int a] M Q := by
  refine CMi pn_X8 rfl rfl rfl hL (fun x X T => ?_)
  refine r_X8_isFile_0 X T A1 A2 (c_within hL ?_)
  rw [hn, if_neg (wi_no hf (by omega))]
  exact ⟨Or.inl rfl, h⟩
theorem c_isLis_y {L : List Nat} (hL : L.Nodup) (A1 : AC L 139 8 0) (A2 : AC L 140 9 918) {M : Mem} {Q : Int32 → Mem → Prop} {f n : Nat} (hn : M 140 48 = nI n) (h6 : n ≤ 4) (hf : f < n) (h : Q 1 M) : CM m_X8_isListener L [.ref 139, .int (nI f)] M Q := by
  refine CMi pn_X8 rfl rfl rfl hL (fun x X T => ?_)
  refine r_X8_isListener_0 X T A1 A2 (c_within hL ?_)
  rw [hn, if_pos (wi_yes hf (by omega))]
  exact ⟨Or.inr rfl, h⟩
theorem c_isLis_n {L : List Nat} (hL : L.Nodup) (A1 : AC L 139 8 0) (A2 : AC L 140 9 918) {M : Mem} {Q : Int32 → Mem → Prop} {a : Int32} {n : Nat} (hn : M 140 48 = nI n) (h6 : n ≤ 4) (hf : a.toInt < 0 ∨ (n : Int) ≤ a.toInt) (h : Q 0 M) : CM m_X8_isListener L [.ref 139, .int a] M Q := by
  refine CMi pn_X8 rfl rfl rfl hL (fun x X T => ?_)
  refine r_X8_isListener_0 X T A1 A2 (c_within hL ?_)
  rw [hn, if_neg (wi_no hf (by omega))]
  exact ⟨Or.inl rfl, h⟩
theorem c_within_y {L : List Nat} (hL : L.Nodup) {M : Mem} {Q : Int32 → Mem → Prop} {f lo hi : Nat} (h1 : lo ≤ f) (h2 : f ≤ hi) (hh : hi < 2 ^ 30) (h : Q 1 M) : CM m_X8_within L [.int (nI f), .int (nI lo), .int (nI hi)] M Q := by
  refine c_within hL ?_
  rw [if_pos (wl_yes h1 h2 hh)]; exact h
theorem c_within_n {L : List Nat} (hL : L.Nodup) {M : Mem} {Q : Int32 → Mem → Prop} {a : Int32} {lo hi : Nat} (h1 : a.toInt < lo ∨ (hi : Int) < a.toInt) (hh : hi < 2 ^ 30) (hl : lo < 2 ^ 30) (h : Q 0 M) : CM m_X8_within L [.int a, .int (nI lo), .int (nI hi)] M Q := by
  refine c_within hL ?_
  rw [if_neg (wl_no h1 hh hl)]; exact h
theorem c_knows {L : List Nat} (hL : L.Nodup) (A1 : AC L 139 8 0) (A2 : AC L 140 9 918) {M : Mem} {Q : Int32 → Mem → Prop} {l : Nat} (hl : l < 4) (h : Q (if M 140 (89 + 16 * l + 2) < M 140 45 then 0 else 1) M) : CM m_X8_knows L [.ref 139, .int (nI l)] M Q := by
  refine CMi pn_X8 rfl rfl rfl hL (fun x X T => ?_)
  refine r_X8_knows_0 X T A1 A2 ⟨by omega, fun hc => ?_, fun hc => ?_⟩
  · rw [if_pos hc] at h; exact h
  · rw [if_neg hc] at h; exact h
/-- what listener l lacks of file f -/
def laF (w : Nat → Int32) (l f : Nat) : Int32 := if 0 ≤ w f - onF (w (89 + 16 * l + 10 + f)) 18 then w f - onF (w (89 + 16 * l + 10 + f)) 18 else 0
theorem c_lacks {L : List Nat} (hL : L.Nodup) (A1 : AC L 139 8 0) (A2 : AC L 140 9 918) {M : Mem} {Q : Int32 → Mem → Prop} {l f : Nat} (hl : l < 4) (hf : f < 6) (h : Q (laF (M 140) l f) M) : CM m_X8_lacks L [.ref 139, .int (nI l), .int (nI f)] M Q := by
  refine CMi pn_X8 rfl rfl rfl hL (fun x X T => ?_)
  refine r_X8_lacks_0 X T A1 A2 ⟨by omega, by omega, c_ones hL ?_⟩
  rw [Nat.zero_add]
  unfold laF at h
  refine ⟨fun hc => ?_, fun hc => ?_⟩
  · rw [if_pos hc] at h; exact h
  · rw [if_neg hc] at h; exact h
/-- the files that listener l is whole of -/
def whF (w : Nat → Int32) (l : Nat) : Nat → Int32
  | 0 => nI 0
  | f + 1 => whF w l f ||| (if laF w l f = 0 then nI 1 <<< (nI f &&& 31) else nI 0)
theorem c_wholes {L : List Nat} (hL : L.Nodup) (A1 : AC L 139 8 0) (A2 : AC L 140 9 918) {M : Mem} {Q : Int32 → Mem → Prop} {l n : Nat} (hl : l < 4) (hn : M 140 42 = nI n) (h6 : n ≤ 6) (h : Q (whF (M 140) l n) M) : CM m_X8_wholes L [.ref 139, .int (nI l)] M Q := by
  refine CMi pn_X8 rfl rfl rfl hL (fun x X T => ?_)
  refine r_X8_wholes_0 X T ?_
  have key : ∀ m f, f + m = n → WP x L 4 [some (.ref 139), some (.int (nI l)), some (.int (whF (M 140) l f)), some (.int (nI f))] [] M := by
    intro m
    induction m with
    | zero =>
      intro f hf
      have : f = n := by omega
      subst this
      exact r_X8_wholes_4 X T A1 A2 ⟨f, hn, by omega, by omega, fun _ => h, fun hc => absurd hc (by omega)⟩
    | succ m ih =>
      intro f hf
      have hs := ih (f + 1) (by omega)
      refine r_X8_wholes_4 X T A1 A2 ⟨n, hn, by omega, by omega, fun hc => absurd hc (by omega), fun _ => c_lacks hL A1 A2 hl (by omega) ⟨fun hc => ?_, fun hc => ?_⟩⟩
      · rw [whF, if_neg hc] at hs; exact hs
      · rw [whF, if_pos hc] at hs; exact hs
  exact key n 0 (by omega)
/-- the changes kept: one more -/
def mdF (w : Nat → Int32) (u : Nat) : Nat → Int32 := if u = 4 then cpF (cpF (cpF (cpF w 459 306 153) 612 459 153) 765 612 153) 0 765 153 else cpF w 0 (153 * (2 + u)) 153
def m1F (u : Nat) : Nat := if u = 4 then 4 else u + 1
theorem c_minds {L : List Nat} (hL : L.Nodup) (A1 : AC L 139 8 0) (A2 : AC L 140 9 918) {M : Mem} {Q : Int32 → Mem → Prop} {u : Nat} (hu : M 139 1 = nI u) (h4 : u ≤ 4) (h : Q 0 (MR (MR M 140 (mdF (M 140) u)) 139 (upd (M 139) 1 (nI (m1F u))))) : CM m_X8_minds L [.ref 139] M Q := by
  refine CMi pn_X8 rfl rfl rfl hL (fun x X T => ?_)
  refine r_X8_minds_0 X T A1 ⟨u, hu, by omega, fun hc => ?_, fun hc => ?_⟩
  · refine r_X8_minds_47 X T A1 ⟨u, hu, c_copies hL A1 A2 (by omega) (by omega) (by omega) ⟨u, ?_, ?_⟩⟩
    · rw [MR_ne (by decide)]; exact hu
    · unfold mdF m1F at h
      rw [if_neg hc, if_neg hc] at h
      rw [MU_eq, MR_ne (by decide)]; exact h
  · subst hc
    refine r_X8_minds_10 X T A1 ⟨by omega, fun hc => absurd hc (by omega), fun _ => c_copies hL A1 A2 (by omega) (by omega) (by omega) ?_⟩
    refine r_X8_minds_10 X T A1 ⟨by omega, fun hc => absurd hc (by omega), fun _ => c_copies hL A1 A2 (by omega) (by omega) (by omega) ?_⟩
    refine r_X8_minds_10 X T A1 ⟨by omega, fun hc => absurd hc (by omega), fun _ => c_copies hL A1 A2 (by omega) (by omega) (by omega) ?_⟩
    simp only [MR_at, MR_MR]
    refine r_X8_minds_10 X T A1 ⟨by omega, fun _ => ⟨4, ?_, by omega, ?_⟩, fun hc => absurd hc (by omega)⟩
    · rw [MR_ne (by decide)]; exact hu
    · rw [MU_eq, MR_ne (by decide)]
      refine r_X8_minds_47 X T A1 ⟨3, ?_, c_copies hL A1 A2 (by omega) (by omega) (by omega) ⟨3, ?_, ?_⟩⟩
      · rw [MR_at, upd_at]
      · rw [MR_ne (by decide), MR_at, upd_at]
      · unfold mdF m1F at h
        rw [if_pos rfl, if_pos rfl] at h
        rw [MR_ne (M := MR M 140 _) (i := 139) (j := 140) (by decide), MR_at, MU_eq, MR_ne (i := 140) (j := 139) (by decide), MR_at, MR_swap (i := 139) (j := 140) (by decide), MR_MR, MR_MR]
        have e : upd (upd (M 139) 1 (nI (4 - 1))) 1 (nI (3 + 1)) = upd (M 139) 1 (nI 4) := by
          funext k; by_cases hk : k = 1 <;> simp [upd, hk]
        rw [e]
        exact h
