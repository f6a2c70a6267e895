/-! the class: a sender's tick, beside the reference's row -/
def LGR (Mc : Mem) (S : Nat) (w : Nat → Int32) (r t : Nat) : Prop := ∀ k, k < 10 → k < t → Mc (S + 6) ((t - 1 - k) % 10) = w (r + 49 + 4 * k) ∧ Mc (S + 7) ((t - 1 - k) % 10) = w (r + 50 + 4 * k) ∧ Mc (S + 8) ((t - 1 - k) % 10) = w (r + 51 + 4 * k) ∧ w (r + 52 + 4 * k) = nI (t - 1 - k)
def SR (Mc : Mem) (S : Nat) (w : Nat → Int32) (r n t : Nat) : Prop := (∀ f, f < n → Mc (S + 1) f = w (r + 12 + f) ∧ Mc (S + 2) f = w (r + 18 + f) ∧ Mc (S + 3) f = w (r + 24 + f) ∧ Mc (S + 4) f = w (r + 30 + f) ∧ Mc (S + 5) f = w (r + 36 + f)) ∧ (Mc S 9 = w (r + 45) ∧ Mc S 10 = w (r + 46) ∧ Mc S 11 = w (r + 47)) ∧ LGR Mc S w r t
/-- the class's plan -/
def CP (Mc : Mem) (n e li : Nat) (d s : Nat → Nat) : Prop := Mc 7 3 = nI n ∧ Mc 7 4 = nI e ∧ Mc 7 5 = nI li ∧ ∀ f, f < n → Mc 8 f = nI (d f) ∧ Mc 9 f = nI (s f)
theorem LGR_step {Mc Mc' : Mem} {S r t : Nat} {w w0 w' : Nat → Int32} {a b c : Int32} (h : LGR Mc S w r t) (e6 : Mc' (S + 6) = upd (Mc (S + 6)) (t % 10) a) (e7 : Mc' (S + 7) = upd (Mc (S + 7)) (t % 10) b) (e8 : Mc' (S + 8) = upd (Mc (S + 8)) (t % 10) c) (hw : ∀ q, r + 49 ≤ q → q < r + 89 → w' q = lgF w0 r a b c q) (h0 : ∀ q, r + 49 ≤ q → q < r + 89 → w0 q = w q) (ht : w0 (r + 45) = nI t) : LGR Mc' S w' r (t + 1) := by
  intro k hk hkt
  rcases Nat.eq_zero_or_pos k with rfl | hk0
  · rw [e6, e7, e8, hw _ (by omega) (by omega), hw _ (by omega) (by omega), hw _ (by omega) (by omega), hw _ (by omega) (by omega)]
    have e : t + 1 - 1 - 0 = t := by omega
    rw [e, upd_at, upd_at, upd_at]
    unfold lgF
    refine ⟨?_, ?_, ?_, ?_⟩
    · rw [if_pos (by omega)]
    · rw [if_neg (by omega), if_pos (by omega)]
    · rw [if_neg (by omega), if_neg (by omega), if_pos (by omega)]
    · rw [if_neg (by omega), if_neg (by omega), if_neg (by omega), if_pos (by omega), ht]
  · obtain ⟨j, rfl⟩ : ∃ j, k = j + 1 := ⟨k - 1, by omega⟩
    obtain ⟨g6, g7, g8, g9⟩ := h j (by omega) (by omega)
    have e : t + 1 - 1 - (j + 1) = t - 1 - j := by omega
    have hne : (t - 1 - j) % 10 ≠ t % 10 := by omega
    rw [e, e6, e7, e8, upd_ne hne, upd_ne hne, upd_ne hne, g6, g7, g8, ← g9, hw _ (by omega) (by omega), hw _ (by omega) (by omega), hw _ (by omega) (by omega), hw _ (by omega) (by omega)]
    have key : ∀ q, r + 53 ≤ q → q < r + 89 → lgF w0 r a b c q = w (q - 4) := by
      intro q h1 h2
      unfold lgF
      rw [if_neg (by omega), if_neg (by omega), if_neg (by omega), if_neg (by omega), if_pos ⟨h1, h2⟩, h0 _ (by omega) (by omega)]
    rw [key _ (by omega) (by omega), key _ (by omega) (by omega), key _ (by omega) (by omega), key _ (by omega) (by omega)]
    refine ⟨?_, ?_, ?_, ?_⟩ <;> congr 1 <;> omega
theorem tkT_lo {w : Nat → Int32} {r n jn q : Nat} (hn : n ≤ 6) (h2 : q < r + 89) : tkT w r n jn q = if q = r + 45 then w (r + 45) + nI 1 else if q = r + 46 then w (r + 46) + nI 1 else lgF w r (-4) (-4) (-4) q := by
  unfold tkT
  by_cases c1 : q = r + 45
  · rw [if_pos c1, c1, upd_at]
  · rw [if_neg c1, upd_ne c1]
    by_cases c2 : q = r + 46
    · rw [if_pos c2, c2, upd_at]
    · rw [if_neg c2, upd_ne c2, hlF_out hn (by omega) _ _ (by omega)]
theorem tkS_lo {w : Nat → Int32} {r n jn b y ns q : Nat} (hn : n ≤ 6) (hb : b < 6) (h2 : q < r + 89) : tkS w r n jn b y ns q = if q = r + 45 then w (r + 45) + nI 1 else if q = r + 47 then w (r + 47) + nI 1 else if q = r + 36 + b then w (r + 36 + b) + nI 1 else if q = r + 24 + b then nI ((y + 1) % ns) else lgF (snF w r n) r (nI b) (nI y) (w (r + 18 + b)) q := by
  unfold tkS
  by_cases c1 : q = r + 45
  · rw [if_pos c1, c1, upd_at]
  · rw [if_neg c1, upd_ne c1]
    by_cases c2 : q = r + 47
    · rw [if_pos c2, c2, upd_at]
    · rw [if_neg c2, upd_ne c2]
      by_cases c3 : q = r + 36 + b
      · rw [if_pos c3, c3, upd_at]
      · rw [if_neg c3, upd_ne c3]
        by_cases c4 : q = r + 24 + b
        · rw [if_pos c4, c4, upd_at]
        · rw [if_neg c4, upd_ne c4, hlF_out hn hb _ _ (by omega)]
theorem c_sendSymbol {L : List Nat} (hL : L.Nodup) {S : Nat} (hS : 11 ≤ S) (P : SC L S) (P7 : PC L 7) {M : Mem} {Q : Int32 → Mem → Prop} {f t y d s : Nat} (hf : f < 6) (hy : M (S + 3) f = nI y) (hd : M 8 f = nI d) (hs : M 9 f = nI s) (hd12 : d ≤ 12) (hs6 : s ≤ 6) (hlt : y < d + s) (ht : M S 9 = nI t) (ht2 : t < 1000000)
    (h : Q 0 (MU (MU (MU (MU (MU (MU M (S + 6) (t % 10) (nI f)) (S + 7) (t % 10) (nI y)) (S + 8) (t % 10) (M (S + 2) f)) (S + 3) f (nI ((y + 1) % (d + s)))) (S + 5) f (M (S + 5) f + nI 1)) S 11 (M S 11 + nI 1))) : CM m_X6_sendSymbol L [.ref S, .int (nI f)] M Q := by
  refine CMi pn_X6 rfl rfl rfl hL (fun x X T => ?_)
  refine r_X6_sendSymbol_0 X T P.1 P.2.2.2.1 P.2.2.1 P7.1 P.2.2.2.2.2.1 ⟨hf, hf, c_note hL P ht (by omega) (c_symbolsOf hL P7 hf ?_)⟩
  rw [hy, MU_ne (by omega), MU_ne (by omega), MU_ne (by omega), MU_ne (by omega), MU_ne (by omega), MU_ne (by omega), hd, hs, nI_add, nI_add, nI_leI (by omega) (by omega)]
  have e5 : ∀ v : Int32, (MU (MU (MU (MU M (S + 6) (t % 10) (nI f)) (S + 7) (t % 10) (nI y)) (S + 8) (t % 10) (M (S + 2) f)) (S + 3) f v) (S + 5) f = M (S + 5) f := fun v => by
    rw [MU_ne (by omega), MU_ne (by omega), MU_ne (by omega), MU_ne (by omega)]
  have e11 : ∀ v u : Int32, (MU (MU (MU (MU (MU M (S + 6) (t % 10) (nI f)) (S + 7) (t % 10) (nI y)) (S + 8) (t % 10) (M (S + 2) f)) (S + 3) f v) (S + 5) f u) S 11 = M S 11 := fun v u => by
    rw [MU_ne (by omega), MU_ne (by omega), MU_ne (by omega), MU_ne (by omega), MU_ne (by omega)]
  refine ⟨fun hc => ⟨hf, hf, hf, ?_⟩, fun hc => ⟨hf, hf, hf, ?_⟩⟩
  · rw [e5, e11]
    have : (y + 1) % (d + s) = 0 := by rw [show y + 1 = d + s by omega, Nat.mod_self]
    rw [this] at h
    exact h
  · rw [e5, e11]
    have : (y + 1) % (d + s) = y + 1 := Nat.mod_eq_of_lt (by omega)
    rw [this] at h
    exact h
theorem snF_cr {w : Nat → Int32} {r n f : Nat} (hf : f < n) : snF w r n (r + 30 + f) = if f = boF w r n then ncF w r f - suF (fun f => w (r + 12 + f)) n else ncF w r f := by
  unfold snF
  by_cases c : f = boF w r n
  · rw [if_pos c, ← c, upd_at]
  · rw [if_neg c, upd_ne (by omega), crF_in hf]
theorem c_step {L : List Nat} (hL : L.Nodup) {S : Nat} (hS : 11 ≤ S) (P : SC L S) (P7 : PC L 7) {M : Mem} {Q : Int32 → Mem → Prop} {w : Nat → Int32} {r n e li t jn : Nat} {d s y v : Nat → Nat} (hsr : SR M S w r n t) (hcp : CP M n e li d s) (hp : PW w r n e li d s) (hv : VW w r n t jn d s y v)
    (h : ∀ M' : Mem, SR M' S (tkF w r n e t jn y (fun f => d f + s f)) r n (t + 1) → (∀ i, (i < S ∨ S + 8 < i) → M' i = M i) → Q 0 M') : CM m_X6_step L [.ref S] M Q := by
  obtain ⟨hn1, he1, -, hds⟩ := hcp
  obtain ⟨⟨hn, hn1', hn6⟩, ⟨he, he3, he20⟩, -, hf⟩ := hp
  obtain ⟨⟨ht, ht2⟩, -, hyv⟩ := hv
  obtain ⟨hrow, ⟨h9, h10, h11⟩, hlg⟩ := hsr
  have h9' : M S 9 = nI t := h9.trans ht
  refine CMi pn_X6 rfl rfl rfl hL (fun x X T => ?_)
  refine r_X6_step_0 X T P.1 P7.1 ⟨t, h9', c_isTableTurn hL P7.1 he1 he3 he20 (by omega) ⟨fun hc => ?_, fun hc => ?_⟩⟩
  · have hm : ¬ t % e = 0 := fun q => by rw [if_pos q] at hc; exact absurd hc (by decide)
    have hbe : beF (fun f => M (S + 4) f + M (S + 1) f) n = boF w r n := beF_cong n (fun j hj => by
      obtain ⟨a1, -, -, a4, -⟩ := hrow j hj
      rw [a1, a4]; rfl)
    have hsu : suF (M (S + 1)) n = suF (fun f => w (r + 12 + f)) n := suF_cong n (fun j hj => (hrow j hj).1)
    refine c_chooseFile hL hS P P7 hn1 hn1' hn6 ?_
    rw [hbe, hsu]
    have hb : boF w r n < n := beF_lt _ _ (by omega)
    generalize hbo : boF w r n = b at *
    obtain ⟨b1, b2, b3, b4, b5⟩ := hrow b hb
    obtain ⟨⟨hy, hy2⟩, hver, -⟩ := hyv b hb
    obtain ⟨hd, hd1, hd2, hs, hs2⟩ := hf b hb
    obtain ⟨hd8, hs9⟩ := hds b hb
    refine c_sendSymbol hL hS P P7 (f := b) (t := t) (y := y b) (d := d b) (s := s b) (by omega) ?_ ?_ ?_ hd2 hs2 hy2 ?_ ht2 ?_
    · rw [MR_ne (by omega), b3]; exact hy
    · rw [MR_ne (by omega)]; exact hd8
    · rw [MR_ne (by omega)]; exact hs9
    · rw [MR_ne (by omega)]; exact h9'
    rw [MR_ne (i := S + 4) (j := S + 2) (by omega), MR_ne (i := S + 4) (j := S + 5) (by omega), MR_ne (i := S + 4) (j := S) (by omega)]
    refine ⟨t, ?_, ?_⟩
    · rw [MU_at, upd_ne (by decide), MU_ne (by omega), MU_ne (by omega), MU_ne (by omega), MU_ne (by omega), MU_ne (by omega), MR_ne (by omega)]; exact h9'
    refine h _ ?_ ?_
    · have htk : tkF w r n e t jn y (fun f => d f + s f) = tkS w r n jn b (y b) (d b + s b) := by
        unfold tkF; rw [if_neg hm, hbo]
      rw [htk]
      have lo : ∀ q, q < r + 89 → tkS w r n jn b (y b) (d b + s b) q = _ := fun q hq => tkS_lo (jn := jn) (y := y b) (ns := d b + s b) hn6 (show b < 6 by omega) hq
      refine ⟨fun f hf => ?_, ⟨?_, ?_, ?_⟩, ?_⟩
      · obtain ⟨f1, f2, f3, f4, f5⟩ := hrow f hf
        rw [lo (r + 12 + f) (by omega), lo (r + 18 + f) (by omega), lo (r + 24 + f) (by omega), lo (r + 30 + f) (by omega), lo (r + 36 + f) (by omega)]
        refine ⟨?_, ?_, ?_, ?_, ?_⟩
        · rw [if_neg (by omega), if_neg (by omega), if_neg (by omega), if_neg (by omega), lgF_out (by omega), snF_out hn1' hn6 (by omega)]
          rw [MU_ne (by omega), MU_ne (by omega), MU_ne (by omega), MU_ne (by omega), MU_ne (by omega), MU_ne (by omega), MU_ne (by omega), MR_ne (by omega)]; exact f1
        · rw [if_neg (by omega), if_neg (by omega), if_neg (by omega), if_neg (by omega), lgF_out (by omega), snF_out hn1' hn6 (by omega)]
          rw [MU_ne (by omega), MU_ne (by omega), MU_ne (by omega), MU_ne (by omega), MU_ne (by omega), MU_ne (by omega), MU_ne (by omega), MR_ne (by omega)]; exact f2
        · rw [if_neg (by omega), if_neg (by omega), if_neg (by omega), MU_ne (by omega), MU_ne (by omega), MU_ne (by omega), MU_at]
          by_cases c : f = b
          · subst c; rw [if_pos rfl, upd_at]
          · rw [if_neg (by omega), upd_ne c, lgF_out (by omega), snF_out hn1' hn6 (by omega), MU_ne (by omega), MU_ne (by omega), MU_ne (by omega), MR_ne (by omega)]; exact f3
        · rw [if_neg (by omega), if_neg (by omega), if_neg (by omega), if_neg (by omega), lgF_out (by omega), snF_cr hf, hbo]
          rw [MU_ne (by omega), MU_ne (by omega), MU_ne (by omega), MU_ne (by omega), MU_ne (by omega), MU_ne (by omega), MU_ne (by omega), MR_at]
          by_cases c : f = b
          · subst c; rw [if_pos rfl, upd_at, f4, f1]; rfl
          · rw [if_neg c, upd_ne c]
            unfold cgF
            rw [if_pos hf, f4, f1]; rfl
        · rw [if_neg (by omega), if_neg (by omega), MU_ne (by omega), MU_ne (by omega), MU_at]
          by_cases c : f = b
          · subst c; rw [if_pos rfl, upd_at, f5]
          · rw [if_neg (by omega), if_neg (by omega), upd_ne c, lgF_out (by omega), snF_out hn1' hn6 (by omega), MU_ne (by omega), MU_ne (by omega), MU_ne (by omega), MU_ne (by omega), MR_ne (by omega)]; exact f5
      · rw [lo (r + 45) (by omega), if_pos rfl, MU_at, upd_at, ht, nI_add]
      · rw [lo (r + 46) (by omega), if_neg (by omega), if_neg (by omega), if_neg (by omega), if_neg (by omega), lgF_out (by omega), snF_out hn1' hn6 (by omega)]
        rw [MU_at, upd_ne (by decide), MU_at, upd_ne (by decide), MU_ne (by omega), MU_ne (by omega), MU_ne (by omega), MU_ne (by omega), MU_ne (by omega), MR_ne (by omega)]; exact h10
      · rw [lo (r + 47) (by omega), if_neg (by omega), if_pos rfl, MU_at, upd_ne (by decide), MU_at, upd_at, h11]
      · refine LGR_step (w0 := snF w r n) (a := nI b) (b := nI (y b)) (c := M (S + 2) b) hlg ?_ ?_ ?_ ?_ (fun q h1 h2 => snF_out hn1' hn6 (by omega)) ?_
        · rw [MU_ne (by omega), MU_ne (by omega), MU_ne (by omega), MU_ne (by omega), MU_ne (by omega), MU_ne (by omega), MU_at, MR_ne (by omega)]
        · rw [MU_ne (by omega), MU_ne (by omega), MU_ne (by omega), MU_ne (by omega), MU_ne (by omega), MU_at, MU_ne (by omega), MR_ne (by omega)]
        · rw [MU_ne (by omega), MU_ne (by omega), MU_ne (by omega), MU_ne (by omega), MU_at, MU_ne (by omega), MU_ne (by omega), MR_ne (by omega)]
        · intro q h1 h2
          rw [lo q (by omega), if_neg (by omega), if_neg (by omega), if_neg (by omega), if_neg (by omega), b2]
        · rw [snF_out hn1' hn6 (by omega)]; exact ht
    · intro i hi
      rw [MU_ne (by omega), MU_ne (by omega), MU_ne (by omega), MU_ne (by omega), MU_ne (by omega), MU_ne (by omega), MU_ne (by omega), MR_ne (by omega)]
  · have hm : t % e = 0 := by
      by_cases q : t % e = 0
      · exact q
      · rw [if_neg q] at hc; exact absurd rfl hc
    refine c_note hL P h9' (by omega) ⟨t, ?_, h _ ?_ ?_⟩
    · rw [MU_at, upd_ne (by decide), MU_ne (by omega), MU_ne (by omega), MU_ne (by omega)]; exact h9'
    · have htk : tkF w r n e t jn y (fun f => d f + s f) = tkT w r n jn := by
        unfold tkF; rw [if_pos hm]
      rw [htk]
      have lo : ∀ q, q < r + 89 → tkT w r n jn q = _ := fun q hq => tkT_lo (jn := jn) hn6 hq
      refine ⟨fun f hf => ?_, ⟨?_, ?_, ?_⟩, ?_⟩
      · obtain ⟨f1, f2, f3, f4, f5⟩ := hrow f hf
        rw [lo (r + 12 + f) (by omega), lo (r + 18 + f) (by omega), lo (r + 24 + f) (by omega), lo (r + 30 + f) (by omega), lo (r + 36 + f) (by omega)]
        refine ⟨?_, ?_, ?_, ?_, ?_⟩ <;> rw [if_neg (by omega), if_neg (by omega), lgF_out (by omega), MU_ne (by omega), MU_ne (by omega), MU_ne (by omega), MU_ne (by omega), MU_ne (by omega)] <;> assumption
      · rw [lo (r + 45) (by omega), if_pos rfl, MU_at, upd_at, ht, nI_add]
      · rw [lo (r + 46) (by omega), if_neg (by omega), if_pos rfl, MU_at, upd_ne (by decide), MU_at, upd_at, MU_ne (by omega), MU_ne (by omega), MU_ne (by omega), h10]
      · rw [lo (r + 47) (by omega), if_neg (by omega), if_neg (by omega), lgF_out (by omega), MU_at, upd_ne (by decide), MU_at, upd_ne (by decide), MU_ne (by omega), MU_ne (by omega), MU_ne (by omega)]; exact h11
      · refine LGR_step (w0 := w) (a := -4) (b := -4) (c := -4) hlg ?_ ?_ ?_ ?_ (fun q h1 h2 => rfl) ht
        · rw [MU_ne (by omega), MU_ne (by omega), MU_ne (by omega), MU_ne (by omega), MU_at]
        · rw [MU_ne (by omega), MU_ne (by omega), MU_ne (by omega), MU_at, MU_ne (by omega)]
        · rw [MU_ne (by omega), MU_ne (by omega), MU_at, MU_ne (by omega), MU_ne (by omega)]
        · intro q h1 h2
          rw [lo q (by omega), if_neg (by omega), if_neg (by omega)]
    · intro i hi
      rw [MU_ne (by omega), MU_ne (by omega), MU_ne (by omega), MU_ne (by omega), MU_ne (by omega)]
