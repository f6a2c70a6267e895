/-! the reference: leaves -/
theorem c_within {L : List Nat} (hL : L.Nodup) {M : Mem} {Q : Int32 → Mem → Prop} {a0 a1 a2 : Int32} (h : Q (if a1 ≤ a0 ∧ a0 ≤ a2 then 1 else 0) M) : CM m_X8_within L [.int a0, .int a1, .int a2] M Q := by
  refine CMi pn_X8 rfl rfl rfl hL (fun x X T => ?_)
  refine r_X8_within_0 X T ⟨fun hc => ?_, fun hc => ⟨fun hd => ?_, fun hd => ?_⟩⟩
  · rw [if_neg (fun q => Int32.not_le.mpr hc q.1)] at h; exact h
  · rw [if_neg (fun q => Int32.not_le.mpr hd q.2)] at h; exact h
  · rw [if_pos ⟨Int32.not_lt.mp hc, Int32.not_lt.mp hd⟩] at h; exact h
/-- bits below n, counted -/
def onF (a : Int32) : Nat → Int32
  | 0 => nI 0
  | n + 1 => onF a n + ((a >>> ((nI n) &&& 31)) &&& (nI 1))
theorem c_ones {L : List Nat} (hL : L.Nodup) {M : Mem} {Q : Int32 → Mem → Prop} {a : Int32} (h : Q (onF a 18) M) : CM m_X8_ones L [.int a] M Q := by
  refine CMi pn_X8 rfl rfl rfl hL (fun x X T => ?_)
  refine r_X8_ones_0 X T ?_
  have key : ∀ m k, k + m = 18 → WP x L 4 [some (.int a), some (.int (onF a k)), some (.int (nI k))] [] M := by
    intro m
    induction m with
    | zero =>
      intro k hk
      have : k = 18 := by omega
      subst this
      exact r_X8_ones_4 X T ⟨by omega, fun _ => h, fun hc => absurd hc (by omega)⟩
    | succ m ih =>
      intro k hk
      exact r_X8_ones_4 X T ⟨by omega, fun hc => absurd hc (by omega), fun _ => ih (k + 1) (by omega)⟩
  exact key 18 0 rfl
def cpF (w : Nat → Int32) (a b n : Nat) : Nat → Int32 := fun t => if b ≤ t ∧ t < b + n then w (a + (t - b)) else w t
theorem cpF_0 (w : Nat → Int32) (a b : Nat) : cpF w a b 0 = w := by
  funext t; unfold cpF; rw [if_neg (by omega)]
theorem cpF_step {w : Nat → Int32} {a b k : Nat} (hd : a + 153 ≤ b ∨ b + 153 ≤ a) (hk : k < 153) : upd (cpF w a b k) (b + k) (cpF w a b k (a + k)) = cpF w a b (k + 1) := by
  funext t
  unfold upd cpF
  grind
theorem c_copies {L : List Nat} (hL : L.Nodup) (A1 : AC L 139 8 0) (A2 : AC L 140 9 918) {M : Mem} {Q : Int32 → Mem → Prop} {a b : Nat} (ha : a + 153 ≤ 918) (hb : b + 153 ≤ 918) (hd : a + 153 ≤ b ∨ b + 153 ≤ a) (h : Q 0 (MR M 140 (cpF (M 140) a b 153))) : CM m_X8_copies L [.ref 139, .int (nI a), .int (nI b)] M Q := by
  refine CMi pn_X8 rfl rfl rfl hL (fun x X T => ?_)
  refine r_X8_copies_0 X T ?_
  have key : ∀ m k, k + m = 153 → WP x L 2 [some (.ref 139), some (.int (nI a)), some (.int (nI b)), some (.int (nI k))] [] (MR M 140 (cpF (M 140) a b k)) := by
    intro m
    induction m with
    | zero =>
      intro k hk
      have : k = 153 := by omega
      subst this
      exact r_X8_copies_2 X T A1 A2 ⟨by omega, fun _ => h, fun hc => absurd hc (by omega)⟩
    | succ m ih =>
      intro k hk
      refine r_X8_copies_2 X T A1 A2 ⟨by omega, fun hc => absurd hc (by omega), fun hc => ⟨by omega, by omega, ?_⟩⟩
      rw [MU_MR, MR_at, cpF_step hd hc]
      exact ih (k + 1) (by omega)
  have := key 153 0 rfl
  rw [cpF_0, MR_self] at this
  exact this
/-! who sends next -/
def suF (g : Nat → Int32) : Nat → Int32
  | 0 => nI 0
  | n + 1 => suF g n + g n
def beF (g : Nat → Int32) : Nat → Nat
  | 0 => 0
  | n + 1 => if g n ≤ g (beF g n) then beF g n else n
theorem beF_succ (g : Nat → Int32) (n : Nat) : beF g (n + 1) = if g n ≤ g (beF g n) then beF g n else n := rfl
theorem beF_lt (g : Nat → Int32) : ∀ n, 0 < n → beF g n < n
  | 0, h => absurd h (Nat.lt_irrefl 0)
  | 1, _ => by unfold beF; unfold beF; split <;> omega
  | n + 2, _ => by
    have := beF_lt g (n + 1) (by omega)
    unfold beF
    split <;> omega
theorem beF_le (g : Nat → Int32) (n : Nat) : beF g n ≤ n := by
  rcases Nat.eq_zero_or_pos n with rfl | h
  · exact Nat.le_refl _
  · exact Nat.le_of_lt (beF_lt g n h)
theorem beF_cong {g g' : Nat → Int32} : ∀ n, (∀ j, j < n → g j = g' j) → beF g n = beF g' n
  | 0, _ => rfl
  | 1, h => by simp [beF, h 0]
  | n + 2, h => by
    have ih := beF_cong (n + 1) (fun j hj => h j (by omega))
    have hb := beF_lt g' (n + 1) (by omega)
    rw [beF_succ, beF_succ g', ih, h (n + 1) (by omega), h _ (show beF g' (n + 1) < n + 2 by omega)]
theorem suF_cong {g g' : Nat → Int32} : ∀ n, (∀ j, j < n → g j = g' j) → suF g n = suF g' n
  | 0, _ => rfl
  | n + 1, h => by rw [suF, suF, suF_cong n (fun j hj => h j (by omega)), h n (by omega)]
/-- the credits of the first n files, grown -/
def crF (w : Nat → Int32) (r n : Nat) : Nat → Int32 := fun t => if r + 30 ≤ t ∧ t < r + 30 + n then w t + w (t - 18) else w t
def ncF (w : Nat → Int32) (r : Nat) : Nat → Int32 := fun f => w (r + 30 + f) + w (r + 12 + f)
def boF (w : Nat → Int32) (r n : Nat) : Nat := beF (ncF w r) n
def snF (w : Nat → Int32) (r n : Nat) : Nat → Int32 := upd (crF w r n) (r + 30 + boF w r n) (ncF w r (boF w r n) - suF (fun f => w (r + 12 + f)) n)
theorem crF_0 (w : Nat → Int32) (r : Nat) : crF w r 0 = w := by
  funext t; unfold crF; rw [if_neg (by omega)]
theorem crF_in {w : Nat → Int32} {r n f : Nat} (h : f < n) : crF w r n (r + 30 + f) = ncF w r f := by
  unfold crF ncF
  rw [if_pos (by omega), show r + 30 + f - 18 = r + 12 + f by omega]
theorem crF_out {w : Nat → Int32} {r n t : Nat} (h : t < r + 30 ∨ r + 30 + n ≤ t) : crF w r n t = w t := by
  unfold crF
  rw [if_neg (by omega)]
theorem crF_step (w : Nat → Int32) (r f : Nat) : upd (crF w r f) (r + 30 + f) (ncF w r f) = crF w r (f + 1) := by
  funext t
  by_cases h : t = r + 30 + f
  · subst h; rw [upd_at, crF_in (by omega)]
  · rw [upd_ne h]
    unfold crF
    by_cases h2 : r + 30 ≤ t ∧ t < r + 30 + f
    · rw [if_pos h2, if_pos (by omega)]
    · rw [if_neg h2, if_neg (by omega)]
theorem c_sendsNext {L : List Nat} (hL : L.Nodup) (A1 : AC L 139 8 0) (A2 : AC L 140 9 918) {M : Mem} {Q : Int32 → Mem → Prop} {r n : Nat} (hr : r + 153 ≤ 918) (hn : M 140 (r + 42) = nI n) (h1 : 1 ≤ n) (h6 : n ≤ 6) (h : Q (nI (boF (M 140) r n)) (MR M 140 (snF (M 140) r n))) : CM m_X8_sendsNext L [.ref 139, .int (nI r)] M Q := by
  refine CMi pn_X8 rfl rfl rfl hL (fun x X T => ?_)
  refine r_X8_sendsNext_0 X T ?_
  have key : ∀ m f, f + m = n → WP x L 7 [some (.ref 139), some (.int (nI r)), some (.int (suF (fun f => M 140 (r + 12 + f)) f)), some (.int (nI (beF (ncF (M 140) r) f))), some (.int (nI f))] [] (MR M 140 (crF (M 140) r f)) := by
    intro m
    induction m with
    | zero =>
      intro f hf
      have : f = n := by omega
      subst this
      have hb := beF_lt (ncF (M 140) r) f (by omega)
      refine r_X8_sendsNext_7 X T A1 A2 ⟨by omega, f, ?_, by omega, by omega, fun _ => ⟨by omega, by omega, ?_⟩, fun hc => absurd hc (by omega)⟩
      · rw [MR_at, crF_out (by omega)]; exact hn
      · rw [MU_MR, MR_at, crF_in hb]; exact h
    | succ m ih =>
      intro f hf
      have hb := beF_le (ncF (M 140) r) f
      have e1 : MU (MR M 140 (crF (M 140) r f)) 140 (r + 30 + f) ((MR M 140 (crF (M 140) r f)) 140 (r + 30 + f) + (MR M 140 (crF (M 140) r f)) 140 (r + 12 + f)) = MR M 140 (crF (M 140) r (f + 1)) := by
        rw [MU_MR, MR_at, crF_out (t := r + 30 + f) (by omega), crF_out (t := r + 12 + f) (by omega)]
        rw [show M 140 (r + 30 + f) + M 140 (r + 12 + f) = ncF (M 140) r f from rfl, crF_step]
      have hs := ih (f + 1) (by omega)
      refine r_X8_sendsNext_7 X T A1 A2 ⟨by omega, n, ?_, by omega, by omega, fun hc => absurd hc (by omega), fun _ => ⟨by omega, by omega, by omega, by omega, by omega, by omega, ?_⟩⟩
      · rw [MR_at, crF_out (by omega)]; exact hn
      · rw [e1]
        simp only [MR_at]
        rw [crF_in (f := f) (by omega), crF_in (f := beF (ncF (M 140) r) f) (by omega), crF_out (t := r + 12 + f) (by omega)]
        refine ⟨fun hc => ?_, fun hc => ?_⟩
        · have e2 : beF (ncF (M 140) r) (f + 1) = beF (ncF (M 140) r) f := by rw [beF_succ, if_pos hc]
          rw [e2] at hs
          exact hs
        · have e2 : beF (ncF (M 140) r) (f + 1) = f := by rw [beF_succ, if_neg hc]
          rw [e2] at hs
          exact hs
  have := key n 0 (by omega)
  rw [crF_0, MR_self] at this
  exact this
