/-! the class beside the reference, between two calls -/
theorem rcF_a : ∀ j, j < 4 → (KD (35 + 1 + 23 * j) = 4 ∧ LN (35 + 1 + 23 * j) = 0) ∧ (KD (35 + 1 + 23 * j + 1) = 10 ∧ LN (35 + 1 + 23 * j + 1) = 4) ∧ (KD (35 + 1 + 23 * j + 2) = 6 ∧ LN (35 + 1 + 23 * j + 2) = 0) := by decide +kernel
theorem rcF_b : ∀ j, j < 4 → (KD (35 + 1 + 23 * j + 2 + 1) = 9 ∧ LN (35 + 1 + 23 * j + 2 + 1) = 6) ∧ (KD (35 + 1 + 23 * j + 2 + 2) = 9 ∧ LN (35 + 1 + 23 * j + 2 + 2) = 6) ∧ (KD (35 + 1 + 23 * j + 2 + 3) = 9 ∧ LN (35 + 1 + 23 * j + 2 + 3) = 6) ∧ (KD (35 + 1 + 23 * j + 2 + 4) = 9 ∧ LN (35 + 1 + 23 * j + 2 + 4) = 6) ∧ (KD (35 + 1 + 23 * j + 2 + 5) = 9 ∧ LN (35 + 1 + 23 * j + 2 + 5) = 6) := by decide +kernel
theorem rcF_c : ∀ j, j < 4 → (KD (35 + 1 + 23 * j + 2 + 6) = 9 ∧ LN (35 + 1 + 23 * j + 2 + 6) = 10) ∧ (KD (35 + 1 + 23 * j + 2 + 7) = 9 ∧ LN (35 + 1 + 23 * j + 2 + 7) = 10) ∧ (KD (35 + 1 + 23 * j + 2 + 8) = 9 ∧ LN (35 + 1 + 23 * j + 2 + 8) = 10) := by decide +kernel
theorem rcF_d : ∀ j, j < 4 → ∀ l, l < 4 → (KD (35 + 1 + 23 * j + 1 + 10 + 3 * l) = 1 ∧ LN (35 + 1 + 23 * j + 1 + 10 + 3 * l) = 0) ∧ (KD (35 + 1 + 23 * j + 1 + 10 + 3 * l + 1) = 9 ∧ LN (35 + 1 + 23 * j + 1 + 10 + 3 * l + 1) = 6) ∧ (KD (35 + 1 + 23 * j + 1 + 10 + 3 * l + 2) = 9 ∧ LN (35 + 1 + 23 * j + 1 + 10 + 3 * l + 2) = 6) := by decide +kernel
theorem rc_k (j : Nat) (hj : j < 4) : RC LF (35 + 1 + 23 * j) := by
  obtain ⟨a, b, c0⟩ := rcF_a j hj
  obtain ⟨c1, c2, c3, c4, c5⟩ := rcF_b j hj
  obtain ⟨c6, c7, c8⟩ := rcF_c j hj
  refine ⟨acF (by omega) a.1 a.2, acF (by omega) b.1 b.2, ⟨acF (by omega) c0.1 c0.2, acF (by omega) c1.1 c1.2, acF (by omega) c2.1 c2.2, acF (by omega) c3.1 c3.2, acF (by omega) c4.1 c4.2, acF (by omega) c5.1 c5.2, acF (by omega) c6.1 c6.2, acF (by omega) c7.1 c7.2, acF (by omega) c8.1 c8.2⟩, fun l hl => ?_⟩
  obtain ⟨d0, d1, d2⟩ := rcF_d j hj l hl
  exact ⟨acF (by omega) d0.1 d0.2, acF (by omega) d1.1 d1.2, acF (by omega) d2.1 d2.2⟩
theorem lc_11 : ∀ l, l < 4 → (KD (11 + 1 + 10 + 3 * l) = 1 ∧ LN (11 + 1 + 10 + 3 * l) = 0) ∧ (KD (11 + 1 + 10 + 3 * l + 1) = 9 ∧ LN (11 + 1 + 10 + 3 * l + 1) = 6) ∧ (KD (11 + 1 + 10 + 3 * l + 2) = 9 ∧ LN (11 + 1 + 10 + 3 * l + 2) = 6) := by decide +kernel
theorem rc_11 : RC LF 11 := ⟨ac_11, ac_12, ⟨ac_13, ac_14, ac_15, ac_16, ac_17, ac_18, ac_19, ac_20, ac_21⟩, fun l hl => by
  obtain ⟨d0, d1, d2⟩ := lc_11 l hl
  exact ⟨acF (by omega) d0.1 d0.2, acF (by omega) d1.1 d1.2, acF (by omega) d2.1 d2.2⟩⟩
theorem pc_7 : PC LF 7 := ⟨ac_7, ac_8, ac_9, ac_10⟩
theorem pc_3 : PC LF 3 := ⟨ac_3, ac_4, ac_5, ac_6⟩
theorem sc_130 : SC LF 130 := ⟨ac_130, ac_131, ac_132, ac_133, ac_134, ac_135, ac_136, ac_137, ac_138⟩
theorem SR_m {Mc Mc' : Mem} {S r n t : Nat} {w : Nat → Int32} (h : SR Mc S w r n t) (e : ∀ i, S ≤ i → i ≤ S + 8 → Mc' i = Mc i) : SR Mc' S w r n t := by
  unfold SR LGR at *
  rw [e S (by omega) (by omega), e (S + 1) (by omega) (by omega), e (S + 2) (by omega) (by omega), e (S + 3) (by omega) (by omega), e (S + 4) (by omega) (by omega), e (S + 5) (by omega) (by omega), e (S + 6) (by omega) (by omega), e (S + 7) (by omega) (by omega), e (S + 8) (by omega) (by omega)]
  exact h
theorem RR_m {Mc Mc' : Mem} {B r n e li t jn : Nat} {w : Nat → Int32} {d s y v : Nat → Nat} (h : RR Mc B w r n e li d s t jn y v) (hm : ∀ i, B ≤ i → i ≤ B + 22 → Mc' i = Mc i) : RR Mc' B w r n e li d s t jn y v := by
  obtain ⟨a, b, c, g, i, j⟩ := h
  have hj4 : jn ≤ 4 := b.2.1.2
  refine ⟨a, b, c, SR_m g (fun i h1 h2 => hm i (by omega) (by omega)), by rw [hm B (by omega) (by omega)]; exact i, fun l hl => ?_⟩
  exact LR_m (j l hl) (hm _ (by omega) (by omega)) (hm _ (by omega) (by omega)) (hm _ (by omega) (by omega))
theorem SR_w {Mc : Mem} {S r r' n t : Nat} {w w' : Nat → Int32} (hn : n ≤ 6) (h : SR Mc S w r n t) (hw : ∀ q, q < 89 → w' (r' + q) = w (r + q)) : SR Mc S w' r' n t := by
  have e2 : ∀ a b, a + b < 89 → w' (r' + a + b) = w (r + a + b) := fun a b hab => by rw [Nat.add_assoc, Nat.add_assoc]; exact hw _ hab
  obtain ⟨h1, h2, h3⟩ := h
  refine ⟨fun f hf => ?_, ?_, fun k hk hkt => ?_⟩
  · rw [e2 12 f (by omega), e2 18 f (by omega), e2 24 f (by omega), e2 30 f (by omega), e2 36 f (by omega)]; exact h1 f hf
  · rw [hw 45 (by omega), hw 46 (by omega), hw 47 (by omega)]; exact h2
  · rw [e2 49 (4 * k) (by omega), e2 50 (4 * k) (by omega), e2 51 (4 * k) (by omega), e2 52 (4 * k) (by omega)]; exact h3 k hk hkt
theorem PW_w {r r' n e li : Nat} {w w' : Nat → Int32} {d s : Nat → Nat} (h : PW w r n e li d s) (hw : ∀ q, q < 45 → w' (r' + q) = w (r + q)) : PW w' r' n e li d s := by
  obtain ⟨⟨a, a1, a2⟩, ⟨b, b1⟩, ⟨c, c1⟩, g⟩ := h
  refine ⟨⟨by rw [hw 42 (by omega)]; exact a, a1, a2⟩, ⟨by rw [hw 43 (by omega)]; exact b, b1⟩, ⟨by rw [hw 44 (by omega)]; exact c, c1⟩, fun f hf => ?_⟩
  rw [hw f (by omega), show w' (r' + 6 + f) = w (r + 6 + f) by rw [Nat.add_assoc, Nat.add_assoc]; exact hw _ (by omega)]
  exact g f hf
theorem VW_w {r r' n t jn : Nat} {w w' : Nat → Int32} {d s y v : Nat → Nat} (hn : n ≤ 6) (h : VW w r n t jn d s y v) (hw : ∀ q, q < 49 → w' (r' + q) = w (r + q)) : VW w' r' n t jn d s y v := by
  obtain ⟨⟨a, a1⟩, ⟨b, b1⟩, g⟩ := h
  refine ⟨⟨by rw [hw 45 (by omega)]; exact a, a1⟩, ⟨by rw [hw 48 (by omega)]; exact b, b1⟩, fun f hf => ?_⟩
  rw [show w' (r' + 24 + f) = w (r + 24 + f) by rw [Nat.add_assoc, Nat.add_assoc]; exact hw _ (by omega), show w' (r' + 18 + f) = w (r + 18 + f) by rw [Nat.add_assoc, Nat.add_assoc]; exact hw _ (by omega)]
  exact g f hf
theorem FW_w {r r' n t : Nat} {w w' : Nat → Int32} (hn : n ≤ 6) (h : FW w r n t) (hw : ∀ q, q < 49 → w' (r' + q) = w (r + q)) : FW w' r' n t := by
  obtain ⟨a, sy, b, c, g⟩ := h
  refine ⟨fun f h1 h2 => by rw [Nat.add_assoc, hw (12 + f) (by omega), ← Nat.add_assoc]; exact a f h1 h2, sy, by rw [hw 47 (by omega)]; exact b, c, fun f hf => ?_⟩
  rw [Nat.add_assoc, hw (36 + f) (by omega), ← Nat.add_assoc]
  exact g f hf
theorem LR_ww {Mc : Mem} {K p p' n : Nat} {w w' : Nat → Int32} {d s : Nat → Nat} (hn : n ≤ 6) (h : LR Mc K w p n d s) (hw : ∀ j, j < 16 → w' (p' + j) = w (p + j)) : LR Mc K w' p' n d s := by
  have e2 : ∀ a b, a + b < 16 → w' (p' + a + b) = w (p + a + b) := fun a b hab => by rw [Nat.add_assoc, Nat.add_assoc]; exact hw _ hab
  have e0 : w' p' = w p := hw 0 (by omega)
  obtain ⟨h1, h2, h3⟩ := h
  refine ⟨by rw [e0, hw 1 (by omega), hw 2 (by omega), hw 3 (by omega)]; exact h1, fun f hf => by rw [e2 10 f (by omega)]; exact h2 f hf, ?_⟩
  rw [hw 2 (by omega)]
  rcases h3 with ⟨z, h3⟩ | ⟨z, hz, hz2, h3⟩
  · exact Or.inl ⟨z, fun f hf => by rw [e2 10 f (by omega)]; exact h3 f hf⟩
  · exact Or.inr ⟨z, hz, hz2, fun f hf => by rw [e2 4 f (by omega)]; exact h3 f hf⟩
theorem RR_w {Mc : Mem} {B r r' n e li t jn : Nat} {w w' : Nat → Int32} {d s y v : Nat → Nat} (h : RR Mc B w r n e li d s t jn y v) (hw : ∀ q, q < 153 → w' (r' + q) = w (r + q)) : RR Mc B w' r' n e li d s t jn y v := by
  obtain ⟨a, b, c, g, i, j⟩ := h
  have hn6 : n ≤ 6 := a.1.2.2
  have hj4 : jn ≤ 4 := b.2.1.2
  refine ⟨PW_w a (fun q hq => hw q (by omega)), VW_w hn6 b (fun q hq => hw q (by omega)), FW_w hn6 c (fun q hq => hw q (by omega)), SR_w hn6 g (fun q hq => hw q (by omega)), i, fun l hl => LR_ww hn6 (j l hl) (fun q hq => ?_)⟩
  rw [show r' + 89 + 16 * l + q = r' + (89 + 16 * l + q) by omega, show r + 89 + 16 * l + q = r + (89 + 16 * l + q) by omega]
  exact hw _ (by omega)
/-- what is kept, on both sides -/
def HI (Mc : Mem) (w : Nat → Int32) (md u n e li : Nat) (d s : Nat → Nat) : Prop := ∀ j, j < u → ∃ (t jn : Nat) (y v : Nat → Nat), t ≤ 9999 ∧ RR Mc (35 + 1 + 23 * ((md - 1 - j) % 4)) w (153 * (1 + u - j)) n e li d s t jn y v
theorem HI_m {Mc Mc' : Mem} {w : Nat → Int32} {md u n e li : Nat} {d s : Nat → Nat} (h : HI Mc w md u n e li d s) (hm : ∀ i, 36 ≤ i → i < 128 → Mc' i = Mc i) : HI Mc' w md u n e li d s := fun j hj => by
  obtain ⟨t, jn, y, v, ht, hr⟩ := h j hj
  have : (md - 1 - j) % 4 < 4 := Nat.mod_lt _ (by decide)
  exact ⟨t, jn, y, v, ht, RR_m hr (fun i h1 h2 => hm i (by omega) (by omega))⟩
theorem HI_w {Mc : Mem} {w w' : Nat → Int32} {md u n e li : Nat} {d s : Nat → Nat} (h : HI Mc w md u n e li d s) (hw : ∀ q, 306 ≤ q → w' q = w q) : HI Mc w' md u n e li d s := fun j hj => by
  obtain ⟨t, jn, y, v, ht, hr⟩ := h j hj
  exact ⟨t, jn, y, v, ht, RR_w hr (fun q hq => hw _ (by omega))⟩
def TX (M : Mem) (ln : Nat) : Prop := M 1 1 = nI ln ∧ M 139 3 = nI ln ∧ ln ≤ 200 ∧ ∀ j, j < ln → M 2 j = M 141 j
theorem TX_m {M M' : Mem} {ln : Nat} (h : TX M ln) (e1 : M' 1 1 = M 1 1) (e2 : M' 139 3 = M 139 3) (e3 : M' 2 = M 2) (e4 : M' 141 = M 141) : TX M' ln := by
  unfold TX at *
  rw [e1, e2, e3, e4]; exact h
def RG (M : Mem) (w : Nat → Int32) (cn n e li : Nat) (d s : Nat → Nat) (t jn : Nat) (y v : Nat → Nat) (md u ln : Nat) : Prop := (CP M n e li d s) ∧ (RR M 11 w 0 n e li d s t jn y v) ∧ (t ≤ 9999) ∧ (NU M 11) ∧ (∀ j, j < 4 → NU M (35 + 1 + 23 * j)) ∧ (M 34 1 = nI md) ∧ (md ≤ cn) ∧ (M 34 2 = nI u) ∧ (u ≤ 4) ∧ (u ≤ md) ∧ (HI M w md u n e li d s) ∧ (TX M ln)
theorem RG.cp {M : Mem} {w : Nat → Int32} {cn n e li t jn md u ln : Nat} {d s y v : Nat → Nat} (h : RG M w cn n e li d s t jn y v md u ln) : CP M n e li d s := h.1
theorem RG.rr {M : Mem} {w : Nat → Int32} {cn n e li t jn md u ln : Nat} {d s y v : Nat → Nat} (h : RG M w cn n e li d s t jn y v md u ln) : RR M 11 w 0 n e li d s t jn y v := h.2.1
theorem RG.ht {M : Mem} {w : Nat → Int32} {cn n e li t jn md u ln : Nat} {d s y v : Nat → Nat} (h : RG M w cn n e li d s t jn y v md u ln) : t ≤ 9999 := h.2.2.1
theorem RG.nu {M : Mem} {w : Nat → Int32} {cn n e li t jn md u ln : Nat} {d s y v : Nat → Nat} (h : RG M w cn n e li d s t jn y v md u ln) : NU M 11 := h.2.2.2.1
theorem RG.nk {M : Mem} {w : Nat → Int32} {cn n e li t jn md u ln : Nat} {d s y v : Nat → Nat} (h : RG M w cn n e li d s t jn y v md u ln) : ∀ j, j < 4 → NU M (35 + 1 + 23 * j) := h.2.2.2.2.1
theorem RG.hmd {M : Mem} {w : Nat → Int32} {cn n e li t jn md u ln : Nat} {d s y v : Nat → Nat} (h : RG M w cn n e li d s t jn y v md u ln) : M 34 1 = nI md := h.2.2.2.2.2.1
theorem RG.hmc {M : Mem} {w : Nat → Int32} {cn n e li t jn md u ln : Nat} {d s y v : Nat → Nat} (h : RG M w cn n e li d s t jn y v md u ln) : md ≤ cn := h.2.2.2.2.2.2.1
theorem RG.hu {M : Mem} {w : Nat → Int32} {cn n e li t jn md u ln : Nat} {d s y v : Nat → Nat} (h : RG M w cn n e li d s t jn y v md u ln) : M 34 2 = nI u := h.2.2.2.2.2.2.2.1
theorem RG.hu4 {M : Mem} {w : Nat → Int32} {cn n e li t jn md u ln : Nat} {d s y v : Nat → Nat} (h : RG M w cn n e li d s t jn y v md u ln) : u ≤ 4 := h.2.2.2.2.2.2.2.2.1
theorem RG.hum {M : Mem} {w : Nat → Int32} {cn n e li t jn md u ln : Nat} {d s y v : Nat → Nat} (h : RG M w cn n e li d s t jn y v md u ln) : u ≤ md := h.2.2.2.2.2.2.2.2.2.1
theorem RG.hi {M : Mem} {w : Nat → Int32} {cn n e li t jn md u ln : Nat} {d s y v : Nat → Nat} (h : RG M w cn n e li d s t jn y v md u ln) : HI M w md u n e li d s := h.2.2.2.2.2.2.2.2.2.2.1
theorem RG.tx {M : Mem} {w : Nat → Int32} {cn n e li t jn md u ln : Nat} {d s y v : Nat → Nat} (h : RG M w cn n e li d s t jn y v md u ln) : TX M ln := h.2.2.2.2.2.2.2.2.2.2.2
theorem RG_mk {M : Mem} {w : Nat → Int32} {cn n e li t jn md u ln : Nat} {d s y v : Nat → Nat} (cp : CP M n e li d s) (rr : RR M 11 w 0 n e li d s t jn y v) (ht : t ≤ 9999) (nu : NU M 11) (nk : ∀ j, j < 4 → NU M (35 + 1 + 23 * j)) (hmd : M 34 1 = nI md) (hmc : md ≤ cn) (hu : M 34 2 = nI u) (hu4 : u ≤ 4) (hum : u ≤ md) (hi : HI M w md u n e li d s) (tx : TX M ln) : RG M w cn n e li d s t jn y v md u ln := ⟨cp, rr, ht, nu, nk, hmd, hmc, hu, hu4, hum, hi, tx⟩
def Rel (M : Mem) (cn : Nat) : Prop := ∃ (n e li : Nat) (d s : Nat → Nat) (t jn : Nat) (y v : Nat → Nat) (md u ln : Nat), RG M (M 140) cn n e li d s t jn y v md u ln ∧ M 139 1 = nI u
theorem CP_m {M M' : Mem} {n e li : Nat} {d s : Nat → Nat} (h : CP M n e li d s) (e7 : M' 7 = M 7) (e8 : M' 8 = M 8) (e9 : M' 9 = M 9) : CP M' n e li d s := by
  unfold CP at *
  rw [e7, e8, e9]; exact h
theorem RG_m {M M' : Mem} {w : Nat → Int32} {cn n e li t jn md u ln ln' : Nat} {d s y v : Nat → Nat} (h : RG M w cn n e li d s t jn y v md u ln) (hm : ∀ i, 7 ≤ i → i < 128 → M' i = M i) (tx : TX M' ln') : RG M' w (cn + 1) n e li d s t jn y v md u ln' :=
  RG_mk (CP_m h.cp (hm _ (by omega) (by omega)) (hm _ (by omega) (by omega)) (hm _ (by omega) (by omega))) (RR_m h.rr (fun i h1 h2 => hm i (by omega) (by omega))) (h.ht) (fun l hl => by rw [hm _ (by omega) (by omega)]; exact h.nu l hl) (fun j hj l hl => by rw [hm _ (by omega) (by omega)]; exact h.nk j hj l hl) (by rw [hm _ (by omega) (by omega)]; exact h.hmd) (Nat.le_succ_of_le h.hmc) (by rw [hm _ (by omega) (by omega)]; exact h.hu) (h.hu4) (h.hum) (HI_m h.hi (fun i h1 h2 => hm i (by omega) (by omega))) (tx)
theorem RG_m0 {M M' : Mem} {w : Nat → Int32} {cn n e li t jn md u ln ln' : Nat} {d s y v : Nat → Nat} (h : RG M w cn n e li d s t jn y v md u ln) (hm : ∀ i, 7 ≤ i → i < 128 → M' i = M i) (tx : TX M' ln') : RG M' w cn n e li d s t jn y v md u ln' :=
  RG_mk (CP_m h.cp (hm _ (by omega) (by omega)) (hm _ (by omega) (by omega)) (hm _ (by omega) (by omega))) (RR_m h.rr (fun i h1 h2 => hm i (by omega) (by omega))) (h.ht) (fun l hl => by rw [hm _ (by omega) (by omega)]; exact h.nu l hl) (fun j hj l hl => by rw [hm _ (by omega) (by omega)]; exact h.nk j hj l hl) (by rw [hm _ (by omega) (by omega)]; exact h.hmd) (h.hmc) (by rw [hm _ (by omega) (by omega)]; exact h.hu) (h.hu4) (h.hum) (HI_m h.hi (fun i h1 h2 => hm i (by omega) (by omega))) (tx)
theorem RG_w {M : Mem} {w w' : Nat → Int32} {cn n e li t jn md u ln : Nat} {d s y v : Nat → Nat} (h : RG M w cn n e li d s t jn y v md u ln) (h0 : ∀ q, q < 153 → w' q = w q) (h2 : ∀ q, 306 ≤ q → w' q = w q) : RG M w' cn n e li d s t jn y v md u ln :=
  RG_mk h.cp (RR_w h.rr (fun q hq => h0 _ (by omega))) h.ht h.nu h.nk h.hmd h.hmc h.hu h.hu4 h.hum (HI_w h.hi h2) h.tx
/-- now is changed -/
theorem RG_now {M M' : Mem} {w w' : Nat → Int32} {cn n e li t jn t' jn' md u ln : Nat} {d s y v y' v' : Nat → Nat} (h : RG M w cn n e li d s t jn y v md u ln) (hm : ∀ i, (i < 11 ∨ 33 < i) → M' i = M i) (hr : RR M' 11 w' 0 n e li d s t' jn' y' v') (ht : t' ≤ 9999) (hn : NU M' 11) (hw : ∀ q, 306 ≤ q → w' q = w q) : RG M' w' cn n e li d s t' jn' y' v' md u ln :=
  RG_mk (CP_m h.cp (hm _ (by omega)) (hm _ (by omega)) (hm _ (by omega))) (hr) (ht) (hn) (fun j hj l hl => by rw [hm _ (by omega)]; exact h.nk j hj l hl) (by rw [hm _ (by omega)]; exact h.hmd) (h.hmc) (by rw [hm _ (by omega)]; exact h.hu) (h.hu4) (h.hum) (HI_m (HI_w h.hi hw) (fun i h1 h2 => hm i (by omega))) (TX_m h.tx (by rw [hm _ (by omega)]) (by rw [hm _ (by omega)]) (hm _ (by omega)) (hm _ (by omega)))
theorem mdF_0 {w : Nat → Int32} {u q : Nat} (hq : q < 153) : mdF w u q = w q := by
  unfold mdF
  split
  · unfold cpF; rw [if_neg (by omega), if_neg (by omega), if_neg (by omega), if_neg (by omega)]
  · unfold cpF; rw [if_neg (by omega)]
theorem cpF_in {w : Nat → Int32} {a b n q : Nat} (hq : q < n) : cpF w a b n (b + q) = w (a + q) := by
  unfold cpF; rw [if_pos (by omega)]; congr 1; omega
theorem cpF_out {w : Nat → Int32} {a b n q : Nat} (hq : q < b ∨ b + n ≤ q) : cpF w a b n q = w q := by
  unfold cpF; rw [if_neg (by omega)]
theorem mdF_new {w : Nat → Int32} {u q : Nat} (hu : u ≤ 4) (hq : q < 153) : mdF w u (153 * (1 + m1F u) + q) = w q := by
  unfold mdF m1F
  by_cases c : u = 4
  · rw [if_pos c, if_pos c, show 153 * (1 + 4) = 765 from rfl, cpF_in hq, cpF_out (by omega), cpF_out (by omega), cpF_out (by omega), Nat.zero_add]
  · rw [if_neg c, if_neg c, show 153 * (1 + (u + 1)) = 153 * (2 + u) by omega, cpF_in hq, Nat.zero_add]
theorem mdF_old {w : Nat → Int32} {u j q : Nat} (hu : u ≤ 4) (hj : j + 1 < m1F u) (hq : q < 153) : mdF w u (153 * (1 + m1F u - (j + 1)) + q) = w (153 * (1 + u - j) + q) := by
  unfold m1F at *
  by_cases c : u = 4
  · subst c
    rw [if_pos rfl] at hj
    unfold mdF
    rw [if_pos rfl, if_pos rfl]
    have : j = 0 ∨ j = 1 ∨ j = 2 := by omega
    rcases this with rfl | rfl | rfl
    · show cpF _ _ _ _ (612 + q) = w (765 + q)
      rw [cpF_out (by omega), cpF_in hq, cpF_out (by omega), cpF_out (by omega)]
    · show cpF _ _ _ _ (459 + q) = w (612 + q)
      rw [cpF_out (by omega), cpF_out (by omega), cpF_in hq, cpF_out (by omega)]
    · show cpF _ _ _ _ (306 + q) = w (459 + q)
      rw [cpF_out (by omega), cpF_out (by omega), cpF_out (by omega), cpF_in hq]
  · rw [if_neg c] at hj ⊢
    unfold mdF
    rw [if_neg c, cpF_out (by omega)]
    congr 1; omega
theorem m1F_le (u : Nat) (hu : u ≤ 4) : m1F u ≤ 4 := by unfold m1F; split <;> omega
theorem m1F_pos (u : Nat) : 0 < m1F u ∧ m1F u ≤ u + 1 := by unfold m1F; split <;> omega
/-- one more is kept -/
theorem RG_keep {M : Mem} {Q : Int32 → Mem → Prop} {w : Nat → Int32} {cn n e li t jn md u ln : Nat} {d s y v : Nat → Nat} (h : RG M w cn n e li d s t jn y v md u ln) (hcn : cn < 2 ^ 29)
    (hq : ∀ M' : Mem, RG M' (mdF w u) (cn + 1) n e li d s t jn y v (md + 1) (m1F u) ln → (∀ i, (i < 34 ∨ 128 ≤ i) → M' i = M i) → Q 0 M') : CM m_X2_keep LF [.ref 34, .ref 11] M Q := by
  have hmc := h.hmc
  have hu4 := h.hu4
  have hm4 : md % 4 < 4 := Nat.mod_lt _ (by decide)
  refine c_keep LF_nd ac_34 ac_35 rc_k rc_11 h.rr h.nk h.hmd (by omega) h.hu h.hu4 (fun M1 k1 k2 k3 k4 k5 => hq M1 ?_ (fun i hi => k5 i (by omega) (by omega)))
  refine RG_mk (CP_m h.cp (k5 _ (by omega) (by omega)) (k5 _ (by omega) (by omega)) (k5 _ (by omega) (by omega))) (RR_m (RR_w h.rr (fun q hq => mdF_0 (by omega))) (fun i h1 h2 => k5 i (by omega) (by omega))) h.ht (fun l hl => by rw [k5 _ (by omega) (by omega)]; exact h.nu l hl) ?_ k3 (by omega) k4 (m1F_le u hu4) ?_ ?_ (TX_m h.tx (by rw [k5 _ (by omega) (by omega)]) (by rw [k5 _ (by omega) (by omega)]) (k5 _ (by omega) (by omega)) (k5 _ (by omega) (by omega)))
  · intro j hj
    by_cases c : j = md % 4
    · subst c; exact k2
    · intro l hl
      rw [k5 _ (by omega) (by omega)]; exact h.nk j hj l hl
  · have := (m1F_pos u).2
    have := h.hum
    omega
  · intro j hj
    cases j with
    | zero =>
      refine ⟨t, jn, y, v, h.ht, ?_⟩
      rw [show (md + 1 - 1 - 0) % 4 = md % 4 by congr 1]
      refine RR_w k1 (fun q hq => ?_)
      rw [Nat.zero_add]
      exact mdF_new hu4 hq
    | succ j =>
      have hum := h.hum
      have hl4 := m1F_le u hu4
      have hp := (m1F_pos u).2
      have hju : j < u := by omega
      obtain ⟨t', jn', y', v', ht', hr'⟩ := h.hi j hju
      refine ⟨t', jn', y', v', ht', ?_⟩
      rw [show (md + 1 - 1 - (j + 1)) % 4 = (md - 1 - j) % 4 by congr 1; omega]
      have hm4' : (md - 1 - j) % 4 < 4 := Nat.mod_lt _ (by decide)
      have hne : (md - 1 - j) % 4 ≠ md % 4 := by omega
      exact RR_m (RR_w hr' (fun q hq => mdF_old hu4 hj hq)) (fun i h1 h2 => k5 i (by omega) (by omega))
/-- the reference's part of a change -/
theorem Rel_of {M : Mem} {w : Nat → Int32} {cn n e li t jn md u ln : Nat} {d s y v : Nat → Nat} (h : RG M w cn n e li d s t jn y v md u ln) {M2 : Mem} (hm : ∀ i, i < 139 → M2 i = M i) (e0 : M2 140 = w) (e1 : M2 139 1 = nI u) (e3 : M2 139 3 = M 139 3) (e4 : M2 141 = M 141) : Rel M2 (cn + 1) := by
  refine ⟨n, e, li, d, s, t, jn, y, v, md, u, ln, ?_, e1⟩
  rw [e0]
  exact RG_m h (fun i h1 h2 => hm i (by omega)) (TX_m h.tx (by rw [hm 1 (by omega)]) e3 (hm 2 (by omega)) e4)
theorem Rel_fin {M : Mem} {w : Nat → Int32} {cn n e li t jn md u ln : Nat} {d s y v : Nat → Nat} (h : RG M w cn n e li d s t jn y v md u ln) {M2 : Mem} (hm : ∀ i, i < 139 → M2 i = M i) (e0 : M2 140 = w) (e1 : M2 139 1 = nI u) (e3 : M2 139 3 = M 139 3) (e4 : M2 141 = M 141) : Rel M2 cn := by
  refine ⟨n, e, li, d, s, t, jn, y, v, md, u, ln, ?_, e1⟩
  rw [e0]
  exact RG_m0 h (fun i h1 h2 => hm i (by omega)) (TX_m h.tx (by rw [hm 1 (by omega)]) e3 (hm 2 (by omega)) e4)
