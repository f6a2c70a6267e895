/-! the reference: a tick whole -/
def liF (w : Nat → Int32) (r p l n : Nat) (tb : Bool) (f y : Nat) : Nat → Int32 := if hdF (nI l) (w (r + 45)) (w p) then (if tb = true then htF w r p n else hsF w r p f y) else upd w (p + 3) (w (p + 3) + nI 1)
def hlF (w : Nat → Int32) (r n : Nat) (tb : Bool) (f y : Nat) : Nat → Nat → Int32
  | 0 => w
  | m + 1 => liF (hlF w r n tb f y m) r (r + 89 + 16 * m) m n tb f y
theorem htF_out {w : Nat → Int32} {r p n t : Nat} (hn : n ≤ 6) (h : t < p ∨ p + 16 ≤ t) : htF w r p n t = w t := by
  unfold htF
  rw [if_neg (by omega), if_neg (by omega), if_neg (by omega)]
theorem hsF_out {w : Nat → Int32} {r p f y t : Nat} (hf : f < 6) (h : t < p ∨ p + 16 ≤ t) : hsF w r p f y t = w t := by
  unfold hsF
  rw [if_neg (fun q => by omega)]
theorem liF_out {w : Nat → Int32} {r p l n f y t : Nat} {tb : Bool} (hn : n ≤ 6) (hf : f < 6) (h : t < p ∨ p + 16 ≤ t) : liF w r p l n tb f y t = w t := by
  unfold liF
  by_cases h1 : hdF (nI l) (w (r + 45)) (w p)
  · rw [if_pos h1]
    cases tb
    · rw [if_neg (by decide)]; exact hsF_out hf h
    · rw [if_pos rfl]; exact htF_out hn h
  · rw [if_neg h1, upd_ne (by omega)]
theorem hlF_out {w : Nat → Int32} {r n f y : Nat} {tb : Bool} (hn : n ≤ 6) (hf : f < 6) : ∀ (m t : Nat), (t < r + 89 ∨ r + 89 + 16 * m ≤ t) → hlF w r n tb f y m t = w t
  | 0, _, _ => rfl
  | m + 1, t, h => by
    show liF (hlF w r n tb f y m) r (r + 89 + 16 * m) m n tb f y t = w t
    rw [liF_out hn hf (by omega)]
    exact hlF_out hn hf m t (by omega)
theorem liF_cong {w w' : Nat → Int32} {r p l n f y : Nat} {tb : Bool} (hp : r + 89 ≤ p) (hn : n ≤ 6) (hf : f < 6) (h1 : ∀ j, j < 89 → w' (r + j) = w (r + j)) (h2 : ∀ j, j < 16 → w' (p + j) = w (p + j)) : ∀ j, j < 16 → liF w' r p l n tb f y (p + j) = liF w r p l n tb f y (p + j) := by
  intro j hj
  have e45 := h1 45 (by omega)
  have e44 := h1 44 (by omega)
  have p0 : w' p = w p := h2 0 (by omega)
  have p3 := h2 3 (by omega)
  have pj := h2 j hj
  unfold liF
  rw [e45, p0]
  by_cases hh : hdF (nI l) (w (r + 45)) (w p)
  · rw [if_pos hh, if_pos hh]
    cases tb
    · rw [if_neg (by decide), if_neg (by decide)]
      unfold hsF
      have a1 := h2 2 (by omega)
      have a2 : w' (p + 4 + f) = w (p + 4 + f) := by have := h2 (4 + f) (by omega); rwa [show p + (4 + f) = p + 4 + f by omega] at this
      have a3 : w' (r + 18 + f) = w (r + 18 + f) := by have := h1 (18 + f) (by omega); rwa [show r + (18 + f) = r + 18 + f by omega] at this
      rw [a1, a2, a3, e45, pj]
    · rw [if_pos rfl, if_pos rfl]
      unfold htF
      rw [e45, e44, pj]
      by_cases c1 : p + j = p + 2
      · rw [if_pos c1, if_pos c1]
      · rw [if_neg c1, if_neg c1]
        by_cases c2 : p + 4 ≤ p + j ∧ p + j < p + 4 + n
        · rw [if_pos c2, if_pos c2]
          have := h1 (18 + (p + j - (p + 4))) (by omega)
          rwa [show r + (18 + (p + j - (p + 4))) = r + 18 + (p + j - (p + 4)) by omega] at this
        · rw [if_neg c2, if_neg c2]
          by_cases c3 : p + 10 ≤ p + j ∧ p + j < p + 10 + n
          · rw [if_pos c3, if_pos c3]
            have a1 := h1 (18 + (p + j - (p + 10))) (by omega)
            rw [show r + (18 + (p + j - (p + 10))) = r + 18 + (p + j - (p + 10)) by omega] at a1
            have a2 := h2 (j - 6) (by omega)
            rw [show p + (j - 6) = p + j - 6 by omega] at a2
            rw [a1, a2]
          · rw [if_neg c3, if_neg c3]
  · rw [if_neg hh, if_neg hh, p3]
    by_cases c1 : p + j = p + 3
    · rw [c1, upd_at, upd_at]
    · rw [upd_ne c1, upd_ne c1, pj]
theorem hlF_in {w : Nat → Int32} {r n f y : Nat} {tb : Bool} (hn : n ≤ 6) (hf : f < 6) : ∀ (m l j : Nat), l < m → j < 16 → hlF w r n tb f y m (r + 89 + 16 * l + j) = liF w r (r + 89 + 16 * l) l n tb f y (r + 89 + 16 * l + j)
  | 0, _, _, h, _ => absurd h (Nat.not_lt_zero _)
  | m + 1, l, j, hl, hj => by
    show liF (hlF w r n tb f y m) r (r + 89 + 16 * m) m n tb f y (r + 89 + 16 * l + j) = _
    by_cases e : l = m
    · subst e
      exact liF_cong (by omega) hn hf (fun k hk => hlF_out hn hf _ _ (by omega)) (fun k hk => hlF_out hn hf _ _ (by omega)) j hj
    · rw [liF_out hn hf (by omega)]
      exact hlF_in hn hf m l j (by omega) hj
/-- a table is sent -/
def tkT (w : Nat → Int32) (r n jn : Nat) : Nat → Int32 :=
  upd (upd (hlF (lgF w r (-4) (-4) (-4)) r n true 0 0 jn) (r + 46) (w (r + 46) + nI 1)) (r + 45) (w (r + 45) + nI 1)
/-- a symbol y of file b is sent, of ns -/
def tkS (w : Nat → Int32) (r n jn b y ns : Nat) : Nat → Int32 :=
  upd (upd (upd (upd (hlF (lgF (snF w r n) r (nI b) (nI y) (w (r + 18 + b))) r n false b y jn) (r + 24 + b) (nI ((y + 1) % ns))) (r + 36 + b) (w (r + 36 + b) + nI 1)) (r + 47) (w (r + 47) + nI 1)) (r + 45) (w (r + 45) + nI 1)
def tkF (w : Nat → Int32) (r n e t jn : Nat) (y ns : Nat → Nat) : Nat → Int32 := if t % e = 0 then tkT w r n jn else tkS w r n jn (boF w r n) (y (boF w r n)) (ns (boF w r n))
def fiF (w : Nat → Int32) (r n e t : Nat) : Int32 := if t % e = 0 then (-4) else nI (boF w r n)
/-- a row's plan: so many files, a table each e ticks, its life, needs and spares -/
def PW (w : Nat → Int32) (r n e li : Nat) (d s : Nat → Nat) : Prop := (w (r + 42) = nI n ∧ 1 ≤ n ∧ n ≤ 6) ∧ (w (r + 43) = nI e ∧ 3 ≤ e ∧ e ≤ 20) ∧ (w (r + 44) = nI li ∧ 1 ≤ li ∧ li ≤ 99) ∧ ∀ f, f < n → w (r + f) = nI (d f) ∧ 1 ≤ d f ∧ d f ≤ 12 ∧ w (r + 6 + f) = nI (s f) ∧ s f ≤ 6
/-- .. and what moves: tick, listeners, next symbols, versions -/
def VW (w : Nat → Int32) (r n t jn : Nat) (d s y v : Nat → Nat) : Prop := (w (r + 45) = nI t ∧ t < 1000000) ∧ (w (r + 48) = nI jn ∧ jn ≤ 4) ∧ ∀ f, f < n → (w (r + 24 + f) = nI (y f) ∧ y f < d f + s f) ∧ w (r + 18 + f) = nI (v f) ∧ v f < 100
theorem lgF_out {w : Nat → Int32} {r t : Nat} {a b c : Int32} (h : t < r + 49 ∨ r + 89 ≤ t) : lgF w r a b c t = w t := by
  unfold lgF
  rw [if_neg (by omega), if_neg (by omega), if_neg (by omega), if_neg (by omega), if_neg (by omega)]
theorem snF_out {w : Nat → Int32} {r n t : Nat} (h1 : 1 ≤ n) (h6 : n ≤ 6) (h : t < r + 30 ∨ r + 36 ≤ t) : snF w r n t = w t := by
  have hb : boF w r n < n := beF_lt _ _ (by omega)
  unfold snF
  rw [upd_ne (by omega), crF_out (by omega)]
theorem c_ticks {L : List Nat} (hL : L.Nodup) (A1 : AC L 139 8 0) (A2 : AC L 140 9 918) {M : Mem} {Q : Int32 → Mem → Prop} {r n e li t jn : Nat} {d s y v : Nat → Nat} (hr : r + 153 ≤ 918) (hp : PW (M 140) r n e li d s) (hv : VW (M 140) r n t jn d s y v) (h : Q (fiF (M 140) r n e t) (MR M 140 (tkF (M 140) r n e t jn y (fun f => d f + s f)))) : CM m_X8_ticks L [.ref 139, .int (nI r)] M Q := by
  obtain ⟨⟨hn, hn1, hn6⟩, ⟨he, he3, he20⟩, -, hf⟩ := hp
  obtain ⟨⟨ht, ht2⟩, ⟨hj, hj4⟩, hyv⟩ := hv
  have hb : boF (M 140) r n < n := beF_lt _ _ (by omega)
  refine CMi pn_X8 rfl rfl rfl hL (fun x X T => ?_)
  have hmod : t % e < e := Nat.mod_lt _ (by omega)
  refine r_X8_ticks_0 X T A1 A2 ⟨by omega, t, ht, by omega, e, he, by omega, by omega, by omega, by omega, fun hc => ?_, fun hc => ?_⟩
  · unfold fiF tkF at h
    rw [if_neg (by omega), if_neg (by omega)] at h
    obtain ⟨⟨hy, hy2⟩, hver, -⟩ := hyv _ hb
    obtain ⟨hd, hd1, hd2, hs, hs2⟩ := hf _ hb
    refine c_sendsNext hL A1 A2 hr hn hn1 hn6 ⟨boF (M 140) r n, rfl, by omega, y (boF (M 140) r n), ?_, by omega, ?_⟩
    · rw [MR_at, snF_out hn1 hn6 (by omega)]; exact hy
    rw [MR_at, snF_out (t := r + 18 + boF (M 140) r n) hn1 hn6 (by omega)]
    refine c_logs hL A1 A2 hr ?_
    rw [MR_at, MR_MR]
    generalize hbe : boF (M 140) r n = b at *
    have key : ∀ m l, l + m = jn → WP x L 96 [some (.ref 139), some (.int (nI r)), some (.int (nI 0)), some (.int (nI b)), some (.int (nI (y b))), some (.int (nI l)), none] [] (MR M 140 (hlF (lgF (snF (M 140) r n) r (nI b) (nI (y b)) (M 140 (r + 18 + b))) r n false b (y b) l)) := by
      intro m
      induction m with
      | zero =>
        intro l hl
        have : l = jn := by omega
        subst this
        refine r_X8_ticksS_96 X T A1 A2 ⟨by omega, l, ?_, by omega, by omega, fun _ => ⟨by omega, d b, ?_, by omega, s b, ?_, by omega, by omega, by omega, by omega, by omega, by omega, by omega, by omega, by omega, by omega, ?_⟩, fun hc => absurd hc (by omega)⟩
        · rw [MR_at, hlF_out hn6 (by omega) _ _ (by omega), lgF_out (by omega), snF_out hn1 hn6 (by omega)]; exact hj
        · rw [MR_at, hlF_out hn6 (by omega) _ _ (by omega), lgF_out (by omega), snF_out hn1 hn6 (by omega)]; exact hd
        · rw [MR_at, hlF_out hn6 (by omega) _ _ (by omega), lgF_out (by omega), snF_out hn1 hn6 (by omega)]; exact hs
        · simp only [MU_MR, MR_at]
          rw [upd_ne (show r + 36 + b ≠ r + 24 + b by omega), upd_ne (show r + 47 ≠ r + 36 + b by omega), upd_ne (show r + 47 ≠ r + 24 + b by omega), upd_ne (show r + 45 ≠ r + 47 by omega), upd_ne (show r + 45 ≠ r + 36 + b by omega), upd_ne (show r + 45 ≠ r + 24 + b by omega)]
          rw [hlF_out hn6 (by omega) _ (r + 36 + b) (by omega), lgF_out (t := r + 36 + b) (by omega), snF_out (t := r + 36 + b) hn1 hn6 (by omega), hlF_out hn6 (by omega) _ (r + 47) (by omega), lgF_out (t := r + 47) (by omega), snF_out (t := r + 47) hn1 hn6 (by omega), hlF_out hn6 (by omega) _ (r + 45) (by omega), lgF_out (t := r + 45) (by omega), snF_out (t := r + 45) hn1 hn6 (by omega)]
          exact h
      | succ m ih =>
        intro l hl
        have hs := ih (l + 1) (by omega)
        have hs : WP x L 96 [some (.ref 139), some (.int (nI r)), some (.int (nI 0)), some (.int (nI b)), some (.int (nI (y b))), some (.int (nI (l + 1))), none] [] (MR M 140 (liF (hlF (lgF (snF (M 140) r n) r (nI b) (nI (y b)) (M 140 (r + 18 + b))) r n false b (y b) l) r (r + 89 + 16 * l) l n false b (y b))) := hs
        refine r_X8_ticksS_96 X T A1 A2 ⟨by omega, jn, ?_, by omega, by omega, fun hc => absurd hc (by omega), fun _ => ?_⟩
        · rw [MR_at, hlF_out hn6 (by omega) _ _ (by omega), lgF_out (by omega), snF_out hn1 hn6 (by omega)]; exact hj
        · refine c_isLost hL A1 A2 hr (by omega) ?_
          rw [MR_at]
          unfold liF at hs
          by_cases hh : hdF (nI l) (hlF (lgF (snF (M 140) r n) r (nI b) (nI (y b)) (M 140 (r + 18 + b))) r n false b (y b) l (r + 45)) (hlF (lgF (snF (M 140) r n) r (nI b) (nI (y b)) (M 140 (r + 18 + b))) r n false b (y b) l (r + 89 + 16 * l))
          · rw [if_pos hh, if_neg (by decide)] at hs
            rw [if_pos hh]
            refine ⟨fun _ => c_hearsSymbol hL A1 A2 (by omega) (by omega) (by omega) ?_, fun hc => absurd rfl hc⟩
            rw [MR_at, MR_MR]
            exact hs
          · rw [if_neg hh] at hs
            rw [if_neg hh]
            refine ⟨fun hc => absurd hc (by decide), fun _ => ⟨by omega, by omega, ?_⟩⟩
            rw [MU_MR]
            exact hs
    exact key jn 0 (by omega)
  · unfold fiF tkF at h
    rw [if_pos hc, if_pos hc] at h
    refine c_logs hL A1 A2 hr ?_
    have key : ∀ m l, l + m = jn → WP x L 96 [some (.ref 139), some (.int (nI r)), some (.int (nI 1)), some (.int (-4)), some (.int (-4)), some (.int (nI l)), none] [] (MR M 140 (hlF (lgF (M 140) r (-4) (-4) (-4)) r n true 0 0 l)) := by
      intro m
      induction m with
      | zero =>
        intro l hl
        have : l = jn := by omega
        subst this
        refine r_X8_ticksT_96 X T A1 A2 ⟨by omega, l, ?_, by omega, by omega, fun _ => ⟨by omega, by omega, by omega, by omega, ?_⟩, fun hc => absurd hc (by omega)⟩
        · rw [MR_at, hlF_out hn6 (by omega) _ _ (by omega), lgF_out (by omega)]; exact hj
        · simp only [MU_MR, MR_at]
          rw [upd_ne (show r + 45 ≠ r + 46 by omega), hlF_out hn6 (by omega) _ (r + 46) (by omega), lgF_out (t := r + 46) (by omega), hlF_out hn6 (by omega) _ (r + 45) (by omega), lgF_out (t := r + 45) (by omega)]
          exact h
      | succ m ih =>
        intro l hl
        have hs := ih (l + 1) (by omega)
        have hs : WP x L 96 [some (.ref 139), some (.int (nI r)), some (.int (nI 1)), some (.int (-4)), some (.int (-4)), some (.int (nI (l + 1))), none] [] (MR M 140 (liF (hlF (lgF (M 140) r (-4) (-4) (-4)) r n true 0 0 l) r (r + 89 + 16 * l) l n true 0 0)) := hs
        refine r_X8_ticksT_96 X T A1 A2 ⟨by omega, jn, ?_, by omega, by omega, fun hc => absurd hc (by omega), fun _ => ?_⟩
        · rw [MR_at, hlF_out hn6 (by omega) _ _ (by omega), lgF_out (by omega)]; exact hj
        · refine c_isLost hL A1 A2 hr (by omega) ?_
          rw [MR_at]
          unfold liF at hs
          by_cases hh : hdF (nI l) (hlF (lgF (M 140) r (-4) (-4) (-4)) r n true 0 0 l (r + 45)) (hlF (lgF (M 140) r (-4) (-4) (-4)) r n true 0 0 l (r + 89 + 16 * l))
          · rw [if_pos hh, if_pos rfl] at hs
            rw [if_pos hh]
            refine ⟨fun _ => c_hearsTable hL A1 A2 (n := n) (by omega) (by omega) ?_ hn6 ?_, fun hc => absurd rfl hc⟩
            · rw [MR_at, hlF_out hn6 (by omega) _ _ (by omega), lgF_out (by omega)]; exact hn
            · rw [MR_at, MR_MR]
              exact hs
          · rw [if_neg hh] at hs
            rw [if_neg hh]
            refine ⟨fun hc => absurd hc (by decide), fun _ => ⟨by omega, by omega, ?_⟩⟩
            rw [MU_MR]
            exact hs
    exact key jn 0 (by omega)
