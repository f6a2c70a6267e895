/-! the class: rounds, beside the reference's row -/
def FW (w : Nat → Int32) (r n t : Nat) : Prop := (∀ f, n ≤ f → f < 6 → w (r + 12 + f) = nI 0) ∧ ∃ sy, w (r + 47) = nI sy ∧ sy ≤ t ∧ ∀ f, f < n → ∃ c, w (r + 36 + f) = nI c ∧ c ≤ sy
def RR (Mc : Mem) (B : Nat) (w : Nat → Int32) (r n e li : Nat) (d s : Nat → Nat) (t jn : Nat) (y v : Nat → Nat) : Prop := PW w r n e li d s ∧ VW w r n t jn d s y v ∧ FW w r n t ∧ SR Mc (B + 2) w r n t ∧ Mc B 2 = nI jn ∧ ∀ l, l < jn → LR Mc (B + 1 + 10 + 3 * l) w (r + 89 + 16 * l) n d s
def RC (L : List Nat) (B : Nat) : Prop := AC L B 4 0 ∧ AC L (B + 1) 10 4 ∧ SC L (B + 2) ∧ ∀ l, l < 4 → LC L (B + 1 + 10 + 3 * l)
def NU (Mc : Mem) (B : Nat) : Prop := ∀ l, l < 4 → Mc (B + 1 + 10 + 3 * l) 1 = nI l
theorem tkF_keep {w : Nat → Int32} {r n e t jn q : Nat} {y ns : Nat → Nat} (hn1 : 1 ≤ n) (hn : n ≤ 6) (h : q < r + 24 ∨ (r + 42 ≤ q ∧ q < r + 45) ∨ q = r + 48) : tkF w r n e t jn y ns q = w q := by
  have hb : boF w r n < n := beF_lt _ _ (by omega)
  unfold tkF
  by_cases c : t % e = 0
  · rw [if_pos c, tkT_lo hn (by omega), if_neg (by omega), if_neg (by omega), lgF_out (by omega)]
  · rw [if_neg c, tkS_lo hn (by omega) (by omega), if_neg (by omega), if_neg (by omega), if_neg (by omega), if_neg (by omega), lgF_out (by omega), snF_out hn1 hn (by omega)]
theorem tkF_t {w : Nat → Int32} {r n e t jn : Nat} {y ns : Nat → Nat} (hn1 : 1 ≤ n) (hn : n ≤ 6) : tkF w r n e t jn y ns (r + 45) = w (r + 45) + nI 1 := by
  have hb : boF w r n < n := beF_lt _ _ (by omega)
  unfold tkF
  by_cases c : t % e = 0
  · rw [if_pos c, tkT_lo hn (by omega), if_pos rfl]
  · rw [if_neg c, tkS_lo hn (by omega) (by omega), if_pos rfl]
theorem PW_tick {w : Nat → Int32} {r n e li t jn : Nat} {d s y ns : Nat → Nat} (h : PW w r n e li d s) : PW (tkF w r n e t jn y ns) r n e li d s := by
  obtain ⟨⟨hn, hn1, hn6⟩, ⟨he, he2⟩, ⟨hl, hl2⟩, hf⟩ := h
  refine ⟨⟨by rw [tkF_keep hn1 hn6 (by omega)]; exact hn, hn1, hn6⟩, ⟨by rw [tkF_keep hn1 hn6 (by omega)]; exact he, he2⟩, ⟨by rw [tkF_keep hn1 hn6 (by omega)]; exact hl, hl2⟩, fun f hfn => ?_⟩
  obtain ⟨a, b, c, g, i⟩ := hf f hfn
  exact ⟨by rw [tkF_keep hn1 hn6 (by omega)]; exact a, b, c, by rw [tkF_keep hn1 hn6 (by omega)]; exact g, i⟩
/-- the next symbols behind a tick -/
def yyF (w : Nat → Int32) (r n e t : Nat) (y ns : Nat → Nat) : Nat → Nat := fun f => if t % e = 0 then y f else if f = boF w r n then (y f + 1) % ns f else y f
theorem VW_tick {w : Nat → Int32} {r n e li t jn : Nat} {d s y v : Nat → Nat} (hp : PW w r n e li d s) (h : VW w r n t jn d s y v) (ht : t + 1 < 1000000) : VW (tkF w r n e t jn y (fun f => d f + s f)) r n (t + 1) jn d s (yyF w r n e t y (fun f => d f + s f)) v := by
  obtain ⟨⟨hn, hn1, hn6⟩, -, -, hf⟩ := hp
  obtain ⟨⟨h45, -⟩, ⟨h48, hj⟩, hyv⟩ := h
  have hb : boF w r n < n := beF_lt _ _ (by omega)
  refine ⟨⟨by rw [tkF_t hn1 hn6, h45, nI_add], ht⟩, ⟨by rw [tkF_keep hn1 hn6 (by omega)]; exact h48, hj⟩, fun f hfn => ?_⟩
  obtain ⟨⟨a, b⟩, c, g⟩ := hyv f hfn
  obtain ⟨-, d1, -⟩ := hf f hfn
  refine ⟨?_, by rw [tkF_keep hn1 hn6 (by omega)]; exact c, g⟩
  unfold tkF yyF
  by_cases c : t % e = 0
  · rw [if_pos c, if_pos c, tkT_lo hn6 (by omega), if_neg (by omega), if_neg (by omega), lgF_out (by omega)]
    exact ⟨a, b⟩
  · rw [if_neg c, if_neg c, tkS_lo hn6 (by omega) (by omega), if_neg (by omega), if_neg (by omega), if_neg (by omega)]
    by_cases c2 : f = boF w r n
    · rw [if_pos c2, if_pos (by omega), c2]
      exact ⟨rfl, Nat.mod_lt _ (show 0 < d (boF w r n) + s (boF w r n) by rw [← c2]; omega)⟩
    · rw [if_neg c2, if_neg (by omega), lgF_out (by omega), snF_out hn1 hn6 (by omega)]
      exact ⟨a, b⟩
theorem FW_tick {w : Nat → Int32} {r n e t jn : Nat} {y ns : Nat → Nat} (hn1 : 1 ≤ n) (hn6 : n ≤ 6) (h : FW w r n t) : FW (tkF w r n e t jn y ns) r n (t + 1) := by
  obtain ⟨h0, sy, hs, hst, hc⟩ := h
  have hb : boF w r n < n := beF_lt _ _ (by omega)
  refine ⟨fun f h1 h2 => by rw [tkF_keep hn1 hn6 (by omega)]; exact h0 f h1 h2, ?_⟩
  unfold tkF
  by_cases c : t % e = 0
  · rw [if_pos c]
    refine ⟨sy, by rw [tkT_lo hn6 (by omega), if_neg (by omega), if_neg (by omega), lgF_out (by omega)]; exact hs, by omega, fun f hf => ?_⟩
    rw [tkT_lo hn6 (by omega), if_neg (by omega), if_neg (by omega), lgF_out (by omega)]
    exact hc f hf
  · rw [if_neg c]
    refine ⟨sy + 1, by rw [tkS_lo hn6 (by omega) (by omega), if_neg (by omega), if_pos rfl, hs, nI_add], by omega, fun f hf => ?_⟩
    obtain ⟨c1, e1, e2⟩ := hc f hf
    rw [tkS_lo hn6 (by omega) (by omega), if_neg (by omega), if_neg (by omega)]
    by_cases c2 : f = boF w r n
    · rw [if_pos (by omega), ← c2, e1, nI_add]
      exact ⟨c1 + 1, rfl, by omega⟩
    · rw [if_neg (by omega), if_neg (by omega), lgF_out (by omega), snF_out hn1 hn6 (by omega)]
      exact ⟨c1, e1, by omega⟩
theorem c_advance {L : List Nat} (hL : L.Nodup) {B : Nat} (hB : 11 ≤ B) (P : RC L B) (P7 : PC L 7) {M : Mem} {Q : Int32 → Mem → Prop} {w : Nat → Int32} {r n e li t jn : Nat} {d s y v : Nat → Nat} (hr : RR M B w r n e li d s t jn y v) (hcp : CP M n e li d s) (hnu : NU M B) (ht1 : t + 1 < 1000000)
    (h : ∀ M' : Mem, RR M' B (tkF w r n e t jn y (fun f => d f + s f)) r n e li d s (t + 1) jn (yyF w r n e t y (fun f => d f + s f)) v → NU M' B → (∀ i, (i < B ∨ B + 22 < i) → M' i = M i) → Q 0 M') : CM m_X4_advance L [.ref B] M Q := by
  obtain ⟨hp, hv, hfw, hsr, hjn, hlr⟩ := hr
  obtain ⟨PB, PB1, PS, PL⟩ := P
  have hp' := hp
  have hv' := hv
  have hcp' := hcp
  obtain ⟨⟨hn, hn1, hn6⟩, ⟨he, he3, he20⟩, ⟨hli, hli1, hli2⟩, hf⟩ := hp
  obtain ⟨⟨ht, ht2⟩, ⟨hj, hj4⟩, hyv⟩ := hv
  obtain ⟨c1, c2, c3, c4⟩ := hcp
  have hb : boF w r n < n := beF_lt _ _ (by omega)
  refine CMi pn_X4 rfl rfl rfl hL (fun x X T => ?_)
  refine r_X4_advance_0 X T PB PS.1 ⟨t, hsr.2.1.1.trans ht, ?_⟩
  refine c_step hL (by omega) PS P7 hsr hcp' hp' hv' (fun M1 hsr1 hfr1 => ?_)
  generalize hw' : tkF w r n e t jn y (fun f => d f + s f) = w' at *
  have key : ∀ (w1 : Nat → Int32) (tb : Bool) (f0 y0 : Nat), (∀ q, r + 89 ≤ q → w1 q = w q) → w1 (r + 45) = nI t → w1 (r + 44) = nI li → (∀ f, f < n → w1 (r + 18 + f) = w (r + 18 + f)) → f0 < 6 → (∀ q, r + 89 ≤ q → w' q = hlF w1 r n tb f0 y0 jn q) → (tb = true → w' (r + 49) = -4) → (tb = false → w' (r + 49) = nI f0 ∧ f0 < n ∧ w' (r + 50) = nI y0 ∧ y0 < d f0 + s f0 ∧ w' (r + 51) = w (r + 18 + f0)) → WP x L 17 [some (.ref B), some (.int (nI t)), some (.int (nI 0))] [] M1 := by
    intro w1 tb f0 y0 q1 q2 q3 q4 q5 q6 qT qS
    have hver : ∀ f, f < n → M1 (B + 2 + 2) f = w1 (r + 18 + f) ∧ w1 (r + 18 + f) = nI (v f) ∧ v f < 100 := fun f hfn => by
      obtain ⟨-, g1, g2⟩ := hyv f hfn
      refine ⟨?_, by rw [q4 f hfn]; exact g1, g2⟩
      rw [(hsr1.1 f hfn).2.1, q4 f hfn, ← hw', tkF_keep hn1 hn6 (by omega)]
    obtain ⟨l6, l7, l8, -⟩ := hsr1.2.2 0 (by omega) (by omega)
    rw [show (t + 1 - 1 - 0) % 10 = t % 10 by omega] at l6 l7 l8
    have inner : ∀ m l, l + m = jn → ∀ M2 : Mem, (∀ i, (i < B + 11 ∨ B + 22 < i) → M2 i = M1 i) → NU M2 B → (∀ j, j < l → LR M2 (B + 1 + 10 + 3 * j) w' (r + 89 + 16 * j) n d s) → (∀ j, l ≤ j → j < jn → LR M2 (B + 1 + 10 + 3 * j) w (r + 89 + 16 * j) n d s) → WP x L 17 [some (.ref B), some (.int (nI t)), some (.int (nI l))] [] M2 := by
      intro m
      induction m with
      | zero =>
        intro l hl M2 g1 g2 g3 g4
        have : l = jn := by omega
        subst this
        refine r_X4_advance_17 X T PB PB1 (fun j hj => (PL j hj).1) ⟨l, ?_, by omega, by omega, fun _ => ?_, fun hc => absurd hc (by omega)⟩
        · rw [g1 _ (by omega), hfr1 _ (by omega)]; exact hjn
        · refine h M2 ⟨?_, ?_, ?_, ?_, ?_, g3⟩ g2 (fun i hi => ?_)
          · rw [← hw']; exact PW_tick hp'
          · rw [← hw']; exact VW_tick hp' hv' ht1
          · rw [← hw']; exact FW_tick hn1 hn6 hfw
          · unfold SR LGR at *
            rw [g1 _ (by omega), g1 _ (by omega), g1 _ (by omega), g1 _ (by omega), g1 _ (by omega), g1 _ (by omega), g1 _ (by omega), g1 _ (by omega), g1 _ (by omega)]
            exact hsr1
          · rw [g1 _ (by omega), hfr1 _ (by omega)]; exact hjn
          · rw [g1 _ (by omega), hfr1 _ (by omega)]
      | succ m ih =>
        intro l hl M2 g1 g2 g3 g4
        refine r_X4_advance_17 X T PB PB1 (fun j hj => (PL j hj).1) ⟨jn, ?_, by omega, by omega, fun hc => absurd hc (by omega), fun _ => ⟨by omega, ?_⟩⟩
        · rw [g1 _ (by omega), hfr1 _ (by omega)]; exact hjn
        · have hlr0 := LR_w hn6 (g4 l (Nat.le_refl _) (by omega)) (fun j hj => q1 (r + 89 + 16 * l + j) (by omega))
          refine c_hear hL (K := B + 1 + 10 + 3 * l) (S := B + 2) (w := w1) (r := r) (p := r + 89 + 16 * l) (l := l) (n := n) (li := li) (t := t) (f := f0) (y := y0) (d := d) (s := s) (v := v) (tb := tb) (PL l (by omega)) PS P7 (by omega) (by omega) (by omega) ?_ hn6 ?_ hli1 hli2 ?_ (g2 l (by omega)) (by omega) q2 q3 ?_ hlr0 ?_ ?_ (fun M3 k1 k2 k3 => ?_)
          · rw [g1 _ (by omega), hfr1 _ (by omega)]; exact c1
          · rw [g1 _ (by omega), hfr1 _ (by omega)]; exact c3
          · intro f hfn
            obtain ⟨-, -, b1, -, b2⟩ := hf f hfn
            omega
          · intro f hfn
            rw [g1 _ (by omega)]; exact hver f hfn
          · intro e
            rw [g1 _ (by omega), l6]; exact qT e
          · intro e
            obtain ⟨z1, z2, z3, z4, z5⟩ := qS e
            rw [g1 _ (by omega), g1 _ (by omega), g1 _ (by omega), l6, l7, l8, q4 f0 z2]
            exact ⟨z1, z2, z3, z4, z5⟩
          · refine ih (l + 1) (by omega) M3 (fun i hi => by rw [k2 i (by omega)]; exact g1 i hi) ?_ ?_ ?_
            · intro j hj
              by_cases c : j = l
              · subst c; rw [k3]; exact g2 j hj
              · rw [k2 _ (by omega)]; exact g2 j hj
            · intro j hj
              by_cases c : j = l
              · subst c
                refine LR_w hn6 k1 (fun i hi => ?_)
                rw [q6 _ (by omega), hlF_in hn6 q5 jn j i (by omega) hi]
              · exact LR_m (g3 j (by omega)) (k2 _ (by omega)) (k2 _ (by omega)) (k2 _ (by omega))
            · intro j hj1 hj2
              exact LR_m (g4 j (by omega) hj2) (k2 _ (by omega)) (k2 _ (by omega)) (k2 _ (by omega))
    refine inner jn 0 (by omega) M1 (fun _ _ => rfl) (fun l hl => by rw [hfr1 _ (by omega)]; exact hnu l hl) (fun j hj => absurd hj (Nat.not_lt_zero _)) (fun j _ hj => ?_)
    exact LR_m (hlr j hj) (hfr1 _ (by omega)) (hfr1 _ (by omega)) (hfr1 _ (by omega))
  by_cases c : t % e = 0
  · have ew : w' = tkT w r n jn := by rw [← hw']; unfold tkF; rw [if_pos c]
    refine key (lgF w r (-4) (-4) (-4)) true 0 0 (fun q hq => lgF_out (by omega)) (by rw [lgF_out (by omega)]; exact ht) (by rw [lgF_out (by omega)]; exact hli) (fun f hfn => lgF_out (by omega)) (by omega) (fun q hq => ?_) (fun _ => ?_) (fun hc => absurd hc (by decide))
    · rw [ew]; unfold tkT
      rw [upd_ne (by omega), upd_ne (by omega)]
    · rw [ew, tkT_lo hn6 (by omega), if_neg (by omega), if_neg (by omega)]
      unfold lgF; rw [if_pos rfl]
  · have ew : w' = tkS w r n jn (boF w r n) (y (boF w r n)) (d (boF w r n) + s (boF w r n)) := by rw [← hw']; unfold tkF; rw [if_neg c]
    generalize hbo : boF w r n = b at *
    refine key (lgF (snF w r n) r (nI b) (nI (y b)) (w (r + 18 + b))) false b (y b) (fun q hq => by rw [lgF_out (by omega), snF_out hn1 hn6 (by omega)]) (by rw [lgF_out (by omega), snF_out hn1 hn6 (by omega)]; exact ht) (by rw [lgF_out (by omega), snF_out hn1 hn6 (by omega)]; exact hli) (fun f hfn => by rw [lgF_out (by omega), snF_out hn1 hn6 (by omega)]) (by omega) (fun q hq => ?_) (fun hc => absurd hc (by decide)) (fun _ => ?_)
    · rw [ew]; unfold tkS
      rw [upd_ne (by omega), upd_ne (by omega), upd_ne (by omega), upd_ne (by omega)]
    · have lo : ∀ q, r + 49 ≤ q → q < r + 89 → w' q = lgF (snF w r n) r (nI b) (nI (y b)) (w (r + 18 + b)) q := fun q h1 h2 => by
        rw [ew, tkS_lo hn6 (by omega) h2, if_neg (by omega), if_neg (by omega), if_neg (by omega), if_neg (by omega)]
      rw [lo _ (by omega) (by omega), lo _ (by omega) (by omega), lo _ (by omega) (by omega)]
      refine ⟨?_, hb, ?_, (hyv b hb).1.2, ?_⟩
      · unfold lgF; rw [if_pos rfl]
      · unfold lgF; rw [if_neg (by omega), if_pos rfl]
      · unfold lgF; rw [if_neg (by omega), if_neg (by omega), if_pos rfl]
