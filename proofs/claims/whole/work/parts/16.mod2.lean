/-! the reference: one tick -/
def lgF (w : Nat → Int32) (r : Nat) (a b c : Int32) : Nat → Int32 := fun t => if t = r + 49 then a else if t = r + 50 then b else if t = r + 51 then c else if t = r + 52 then w (r + 45) else if r + 53 ≤ t ∧ t < r + 89 then w (t - 4) else w t
/-- the log, shifted above place k -/
def shF (w : Nat → Int32) (r k : Nat) : Nat → Int32 := fun t => if r + 49 + k < t ∧ t < r + 89 then w (t - 4) else w t
theorem shF_step {w : Nat → Int32} {r k : Nat} (h : 3 < k) (hk : k < 40) : upd (shF w r k) (r + 49 + k) (shF w r k (r + 49 + k - 4)) = shF w r (k - 1) := by
  funext t
  unfold upd shF
  grind
theorem shF_39 (w : Nat → Int32) (r : Nat) : shF w r 39 = w := by
  funext t; unfold shF; rw [if_neg (by omega)]
theorem shF_end (w : Nat → Int32) (r : Nat) (a b c : Int32) : upd (upd (upd (upd (shF w r 3) (r + 49) a) (r + 49 + 1) b) (r + 49 + 2) c) (r + 49 + 3) (w (r + 45)) = lgF w r a b c := by
  funext t
  unfold upd lgF shF
  grind
theorem c_logs {L : List Nat} (hL : L.Nodup) (A1 : AC L 139 8 0) (A2 : AC L 140 9 918) {M : Mem} {Q : Int32 → Mem → Prop} {r : Nat} {a b c : Int32} (hr : r + 153 ≤ 918) (h : Q 0 (MR M 140 (lgF (M 140) r a b c))) : CM m_X8_logs L [.ref 139, .int (nI r), .int a, .int b, .int c] M Q := by
  refine CMi pn_X8 rfl rfl rfl hL (fun x X T => ?_)
  refine r_X8_logs_0 X T ?_
  have key : ∀ m k, k = m + 3 → k < 40 → WP x L 4 [some (.ref 139), some (.int (nI r)), some (.int a), some (.int b), some (.int c), some (.int (nI k))] [] (MR M 140 (shF (M 140) r k)) := by
    intro m
    induction m with
    | zero =>
      intro k hk hk2
      have : k = 3 := by omega
      subst this
      refine r_X8_logs_4 X T A1 A2 ⟨by omega, fun _ => ⟨by omega, by omega, by omega, by omega, by omega, ?_⟩, fun hc => absurd hc (by omega)⟩
      simp only [MU_MR, MR_at]
      rw [upd_ne (by omega), upd_ne (by omega), upd_ne (by omega), show shF (M 140) r 3 (r + 45) = M 140 (r + 45) by unfold shF; rw [if_neg (by omega)], shF_end]
      exact h
    | succ m ih =>
      intro k hk hk2
      refine r_X8_logs_4 X T A1 A2 ⟨by omega, fun hc => absurd hc (by omega), fun hc => ⟨by omega, by omega, by omega, by omega, ?_⟩⟩
      rw [MU_MR, MR_at, shF_step (by omega) hk2]
      exact ih (k - 1) (by omega) (by omega)
  have := key 36 39 rfl (by omega)
  rw [shF_39, MR_self] at this
  exact this
def xxF (l t : Int32) : Int64 := ((7919 : Int64) * (Int32.toInt64 l) + (3571 : Int64) * (Int32.toInt64 t)) + (1 : Int64)
def eeF (l t : Int32) : Int64 := (xxF l t * xxF l t - xxF l t * xxF l t / (65521 : Int64) * (65521 : Int64)) - (xxF l t * xxF l t - xxF l t * xxF l t / (65521 : Int64) * (65521 : Int64)) / (100 : Int64) * (100 : Int64)
/-- listener l gets what is sent in tick t -/
abbrev hdF (l t p : Int32) : Prop := 0 ≤ lg_cmp (eeF l t) (Int32.toInt64 p)
theorem c_isLost {L : List Nat} (hL : L.Nodup) (A1 : AC L 139 8 0) (A2 : AC L 140 9 918) {M : Mem} {Q : Int32 → Mem → Prop} {r l : Nat} (hr : r + 153 ≤ 918) (hl : l < 4) (h : Q (if hdF (nI l) (M 140 (r + 45)) (M 140 (r + 89 + 16 * l)) then 0 else 1) M) : CM m_X8_isLost L [.ref 139, .int (nI r), .int (nI l)] M Q := by
  refine CMi pn_X8 rfl rfl rfl hL (fun x X T => ?_)
  refine r_X8_isLost_0 X T A1 A2 ⟨by omega, by omega, fun hc => ?_, fun hc => ?_⟩
  · have hc' : hdF (nI l) (M 140 (r + 45)) (M 140 (r + 89 + 16 * l)) := hc
    rw [if_pos hc'] at h; exact h
  · have hc' : ¬ hdF (nI l) (M 140 (r + 45)) (M 140 (r + 89 + 16 * l)) := hc
    rw [if_neg hc'] at h; exact h
def htF (w : Nat → Int32) (r p n : Nat) : Nat → Int32 := fun t => if t = p + 2 then w (r + 45) + w (r + 44) - nI 1 else if p + 4 ≤ t ∧ t < p + 4 + n then w (r + 18 + (t - (p + 4))) else if p + 10 ≤ t ∧ t < p + 10 + n then (if w (t - 6) = w (r + 18 + (t - (p + 10))) then w t else nI 0) else w t
/-- .. told of the first f files -/
def hfF (w : Nat → Int32) (r p f : Nat) : Nat → Int32 := fun t => if t = p + 2 then w (r + 45) + w (r + 44) - nI 1 else if p + 4 ≤ t ∧ t < p + 4 + f then w (r + 18 + (t - (p + 4))) else if p + 10 ≤ t ∧ t < p + 10 + f then (if w (t - 6) = w (r + 18 + (t - (p + 10))) then w t else nI 0) else w t
theorem hfF_0 (w : Nat → Int32) (r p : Nat) : hfF w r p 0 = upd w (p + 2) (w (r + 45) + w (r + 44) - nI 1) := by
  funext t; unfold hfF upd; grind
theorem hfF_r {w : Nat → Int32} {r p f j : Nat} (hp : r + 89 ≤ p) (h : j < 89) : hfF w r p f (r + j) = w (r + j) := by
  unfold hfF; grind
theorem hfF_t {w : Nat → Int32} {r p f : Nat} (h : f < 6) : hfF w r p f (p + 4 + f) = w (p + 4 + f) := by
  unfold hfF; grind
theorem hfF_h {w : Nat → Int32} {r p f : Nat} (h : f < 6) : hfF w r p f (p + 10 + f) = w (p + 10 + f) := by
  unfold hfF; grind
theorem hfF_step {w : Nat → Int32} {r p f : Nat} (hp : r + 89 ≤ p) (h : f < 6) : upd (upd (hfF w r p f) (p + 10 + f) (if w (p + 4 + f) = w (r + 18 + f) then w (p + 10 + f) else nI 0)) (p + 4 + f) (w (r + 18 + f)) = hfF w r p (f + 1) := by
  funext t
  unfold upd hfF
  by_cases h1 : t = p + 4 + f
  · subst h1; grind
  · by_cases h2 : t = p + 10 + f
    · subst h2
      have e1 : p + 10 + f - 6 = p + 4 + f := by omega
      have e2 : r + 18 + (p + 10 + f - (p + 10)) = r + 18 + f := by omega
      grind
    · grind
theorem c_hearsTable {L : List Nat} (hL : L.Nodup) (A1 : AC L 139 8 0) (A2 : AC L 140 9 918) {M : Mem} {Q : Int32 → Mem → Prop} {r p n : Nat} (hr : r + 89 ≤ p) (hp : p + 16 ≤ 918) (hn : M 140 (r + 42) = nI n) (h6 : n ≤ 6) (h : Q 0 (MR M 140 (htF (M 140) r p n))) : CM m_X8_hearsTable L [.ref 139, .int (nI r), .int (nI p)] M Q := by
  refine CMi pn_X8 rfl rfl rfl hL (fun x X T => ?_)
  have key : ∀ m f, f + m = n → WP x L 31 [some (.ref 139), some (.int (nI r)), some (.int (nI p)), some (.int (nI f)), none] [] (MR M 140 (hfF (M 140) r p f)) := by
    intro m
    induction m with
    | zero =>
      intro f hf
      have : f = n := by omega
      subst this
      refine r_X8_hearsTable_31 X T A1 A2 ⟨by omega, f, ?_, by omega, by omega, fun _ => h, fun hc => absurd hc (by omega)⟩
      rw [MR_at, hfF_r hr (by omega)]; exact hn
    | succ m ih =>
      intro f hf
      have hs := ih (f + 1) (by omega)
      rw [← hfF_step hr (by omega)] at hs
      refine r_X8_hearsTable_31 X T A1 A2 ⟨by omega, n, ?_, by omega, by omega, fun hc => absurd hc (by omega), fun _ => ⟨by omega, by omega, ?_⟩⟩
      · rw [MR_at, hfF_r hr (by omega)]; exact hn
      · simp only [MU_MR, MR_at]
        rw [hfF_t (by omega), hfF_h (by omega), show r + 18 + f = r + (18 + f) by omega, hfF_r hr (by omega), ← show r + 18 + f = r + (18 + f) by omega]
        refine ⟨fun hc => ⟨by omega, by omega, by omega, ?_⟩, fun hc => ⟨by omega, by omega, by omega, by omega, ?_⟩⟩
        · rw [if_neg hc] at hs
          rw [upd_ne (by omega), show r + 18 + f = r + (18 + f) by omega, hfF_r hr (by omega), ← show r + 18 + f = r + (18 + f) by omega]
          exact hs
        · rw [if_pos hc] at hs
          rw [upd_ne (by omega), show r + 18 + f = r + (18 + f) by omega, hfF_r hr (by omega), ← show r + 18 + f = r + (18 + f) by omega]
          exact hs
  refine r_X8_hearsTable_0 X T A1 A2 ⟨by omega, by omega, by omega, ?_⟩
  have := key n 0 (by omega)
  rw [hfF_0] at this
  exact this
def hsF (w : Nat → Int32) (r p f y : Nat) : Nat → Int32 := fun t => if t = p + 10 + f ∧ ¬ w (p + 2) < w (r + 45) ∧ w (p + 4 + f) = w (r + 18 + f) then w t ||| (nI 1 <<< (nI y &&& 31)) else w t
theorem c_hearsSymbol {L : List Nat} (hL : L.Nodup) (A1 : AC L 139 8 0) (A2 : AC L 140 9 918) {M : Mem} {Q : Int32 → Mem → Prop} {r p f y : Nat} (hr : r + 89 ≤ p) (hp : p + 16 ≤ 918) (hf : f < 6) (h : Q 0 (MR M 140 (hsF (M 140) r p f y))) : CM m_X8_hearsSymbol L [.ref 139, .int (nI r), .int (nI p), .int (nI f), .int (nI y)] M Q := by
  refine CMi pn_X8 rfl rfl rfl hL (fun x X T => ?_)
  have no : ∀ c : ¬ (¬ M 140 (p + 2) < M 140 (r + 45) ∧ M 140 (p + 4 + f) = M 140 (r + 18 + f)), Q 0 M := by
    intro c
    have e : hsF (M 140) r p f y = M 140 := by
      funext t; unfold hsF; rw [if_neg (fun q => c q.2)]
    rw [e, MR_self] at h
    exact h
  refine r_X8_hearsSymbol_0 X T A1 A2 ⟨by omega, by omega, fun hc => no (fun q => q.1 hc), fun hc => ⟨by omega, by omega, fun hd => no (fun q => hd q.2), fun hd => ⟨by omega, by omega, ?_⟩⟩⟩
  have e : hsF (M 140) r p f y = upd (M 140) (p + 10 + f) (M 140 (p + 10 + f) ||| (nI 1 <<< (nI y &&& 31))) := by
    funext t
    unfold hsF upd
    by_cases ht : t = p + 10 + f
    · subst ht; rw [if_pos ⟨rfl, hc, hd⟩, if_pos rfl]
    · rw [if_neg (fun q => ht q.1), if_neg ht]
  rw [MU_eq, ← e]
  exact h
