/-! the class: one who listens -/
def LC (L : List Nat) (K : Nat) : Prop := AC L K 1 0 ∧ AC L (K + 1) 9 6 ∧ AC L (K + 2) 9 6
def LR (Mc : Mem) (K : Nat) (w : Nat → Int32) (p n : Nat) (d s : Nat → Nat) : Prop := (Mc K 4 = w p ∧ Mc K 5 = w (p + 1) ∧ Mc K 6 = w (p + 2) ∧ Mc K 7 = w (p + 3)) ∧ (∀ f, f < n → Mc (K + 1) f = w (p + 10 + f) ∧ ∃ h, w (p + 10 + f) = nI h ∧ h < 2 ^ (d f + s f)) ∧ ((w (p + 2) = -4 ∧ ∀ f, f < n → Mc (K + 2) f = -4 ∧ w (p + 10 + f) = nI 0) ∨ (∃ z, w (p + 2) = nI z ∧ z < 2 ^ 30 ∧ ∀ f, f < n → Mc (K + 2) f = w (p + 4 + f)))
theorem LR_w {Mc : Mem} {K p n : Nat} {w w' : Nat → Int32} {d s : Nat → Nat} (hn : n ≤ 6) (h : LR Mc K w p n d s) (hw : ∀ j, j < 16 → w' (p + j) = w (p + j)) : LR Mc K w' p n d s := by
  obtain ⟨⟨a0, a1, a2, a3⟩, hh, ht⟩ := h
  have e0 : w' p = w p := hw 0 (by omega)
  have e1 := hw 1 (by omega)
  have e2 := hw 2 (by omega)
  have e3 := hw 3 (by omega)
  have e10 : ∀ f, f < n → w' (p + 10 + f) = w (p + 10 + f) := fun f hf => by have := hw (10 + f) (by omega); rwa [← Nat.add_assoc] at this
  have e4 : ∀ f, f < n → w' (p + 4 + f) = w (p + 4 + f) := fun f hf => by have := hw (4 + f) (by omega); rwa [← Nat.add_assoc] at this
  refine ⟨⟨by rw [a0, e0], by rw [a1, e1], by rw [a2, e2], by rw [a3, e3]⟩, fun f hf => by rw [e10 f hf]; exact hh f hf, ?_⟩
  rcases ht with ⟨z, ht⟩ | ⟨z, hz, hz2, ht⟩
  · left
    exact ⟨by rw [e2]; exact z, fun f hf => by rw [e10 f hf]; exact ht f hf⟩
  · right
    exact ⟨z, by rw [e2]; exact hz, hz2, fun f hf => by rw [e4 f hf]; exact ht f hf⟩
theorem LR_m {Mc Mc' : Mem} {K p n : Nat} {w : Nat → Int32} {d s : Nat → Nat} (h : LR Mc K w p n d s) (e0 : Mc' K = Mc K) (e1 : Mc' (K + 1) = Mc (K + 1)) (e2 : Mc' (K + 2) = Mc (K + 2)) : LR Mc' K w p n d s := by
  unfold LR at *
  rw [e0, e1, e2]
  exact h
theorem c_loses {L : List Nat} (hL : L.Nodup) {K : Nat} (P : LC L K) {M : Mem} {Q : Int32 → Mem → Prop} {l t : Nat} (hl : M K 1 = nI l) (h : Q (if hdF (nI l) (nI t) (M K 4) then 0 else 1) M) : CM m_X1_loses L [.ref K, .int (nI t)] M Q := by
  refine CMi pn_X1 rfl rfl rfl hL (fun x X T => ?_)
  refine r_X1_loses_0 X T P.1 ⟨fun hc => ?_, fun hc => ?_⟩
  · rw [hl] at hc
    have hc' : hdF (nI l) (nI t) (M K 4) := hc
    rw [if_pos hc'] at h; exact h
  · rw [hl] at hc
    have hc' : ¬ hdF (nI l) (nI t) (M K 4) := hc
    rw [if_neg hc'] at h; exact h
theorem c_knowsIn {L : List Nat} (hL : L.Nodup) {K : Nat} (P : LC L K) {M : Mem} {Q : Int32 → Mem → Prop} {t : Nat} (h : Q (if M K 6 < nI t then 0 else 1) M) : CM m_X1_knowsIn L [.ref K, .int (nI t)] M Q := by
  refine CMi pn_X1 rfl rfl rfl hL (fun x X T => ?_)
  refine r_X1_knowsIn_0 X T P.1 ⟨fun hc => ?_, fun hc => ?_⟩
  · rw [if_pos hc] at h; exact h
  · rw [if_neg hc] at h; exact h
/-- held and told, of the first f files, behind a table -/
def htN (M : Mem) (K v f : Nat) : Nat → Int32 := fun j => if j < f ∧ ¬ M (K + 2) j = M v j then nI 0 else M (K + 1) j
def ttN (M : Mem) (K v f : Nat) : Nat → Int32 := fun j => if j < f then M v j else M (K + 2) j
theorem c_takeTable {L : List Nat} (hL : L.Nodup) {K v : Nat} (P : LC L K) (P7 : PC L 7) (Av : AC L v 9 6) (hK : 11 ≤ K) (hv : v < K ∨ K + 2 < v) {M : Mem} {Q : Int32 → Mem → Prop} {n t : Nat} (hn : M 7 3 = nI n) (h6 : n ≤ 6) (h : Q 0 (MR (MR (MR M (K + 1) (htN M K v n)) (K + 2) (ttN M K v n)) K (upd (M K) 6 (nI t + M 7 5 - nI 1)))) : CM m_X1_takeTable L [.ref K, .ref v, .int (nI t)] M Q := by
  refine CMi pn_X1 rfl rfl rfl hL (fun x X T => ?_)
  refine r_X1_takeTable_0 X T ?_
  have key : ∀ m f, f + m = n → WP x L 2 [some (.ref K), some (.ref v), some (.int (nI t)), some (.int (nI f))] [] (MR (MR M (K + 1) (htN M K v f)) (K + 2) (ttN M K v f)) := by
    intro m
    induction m with
    | zero =>
      intro f hf
      have : f = n := by omega
      subst this
      refine r_X1_takeTable_2 X T P.1 P7.1 P.2.2 Av P.2.1 ⟨f, ?_, by omega, by omega, fun _ => ?_, fun hc => absurd hc (by omega)⟩
      · rw [MR_ne (by omega), MR_ne (by omega)]; exact hn
      · rw [MU_eq, MR_ne (i := K + 2) (j := 7) (by omega), MR_ne (i := K + 1) (j := 7) (by omega), MR_ne (i := K + 2) (j := K) (by omega), MR_ne (i := K + 1) (j := K) (by omega)]
        exact h
    | succ m ih =>
      intro f hf
      have hs := ih (f + 1) (by omega)
      have ea : (MR (MR M (K + 1) (htN M K v f)) (K + 2) (ttN M K v f)) (K + 2) f = M (K + 2) f := by
        rw [MR_at]; unfold ttN; rw [if_neg (by omega)]
      have eb : (MR (MR M (K + 1) (htN M K v f)) (K + 2) (ttN M K v f)) v f = M v f := by
        rw [MR_ne (by omega), MR_ne (by omega)]
      refine r_X1_takeTable_2 X T P.1 P7.1 P.2.2 Av P.2.1 ⟨n, ?_, by omega, by omega, fun hc => absurd hc (by omega), fun _ => ⟨by omega, by omega, fun hc => ?_, fun hc => ⟨by omega, by omega, by omega, ?_⟩⟩⟩
      · rw [MR_ne (by omega), MR_ne (by omega)]; exact hn
      · rw [ea, eb] at hc
        have e1 : htN M K v (f + 1) = htN M K v f := by
          funext j; unfold htN
          by_cases hj : j = f
          · subst hj; rw [if_neg (fun q => q.2 hc), if_neg (fun q => q.2 hc)]
          · by_cases hj2 : j < f ∧ ¬ M (K + 2) j = M v j
            · rw [if_pos hj2, if_pos ⟨by omega, hj2.2⟩]
            · rw [if_neg hj2, if_neg (fun q => hj2 ⟨by omega, q.2⟩)]
        have e2 : ttN M K v (f + 1) = ttN M K v f := by
          funext j; unfold ttN
          by_cases hj : j = f
          · subst hj; rw [if_pos (by omega), if_neg (by omega), hc]
          · by_cases hj2 : j < f
            · rw [if_pos hj2, if_pos (by omega)]
            · rw [if_neg hj2, if_neg (by omega)]
        rw [e1, e2] at hs
        exact hs
      · rw [ea, eb] at hc
        rw [MU_ne (i := K + 1) (j := v) (by omega), eb]
        have e1 : upd (htN M K v f) f (nI 0) = htN M K v (f + 1) := by
          funext j; unfold htN upd
          by_cases hj : j = f
          · subst hj; rw [if_pos rfl, if_pos ⟨by omega, hc⟩]
          · rw [if_neg hj]
            dsimp only
            by_cases hj2 : j < f ∧ ¬ M (K + 2) j = M v j
            · rw [if_pos hj2, if_pos ⟨by omega, hj2.2⟩]
            · rw [if_neg hj2, if_neg (fun q => hj2 ⟨by omega, q.2⟩)]
        have e2 : upd (ttN M K v f) f (M v f) = ttN M K v (f + 1) := by
          funext j; unfold ttN upd
          by_cases hj : j = f
          · subst hj; rw [if_pos rfl, if_pos (by omega)]
          · rw [if_neg hj]
            dsimp only
            by_cases hj2 : j < f
            · rw [if_pos hj2, if_pos (by omega)]
            · rw [if_neg hj2, if_neg (by omega)]
        rw [MR_swap (i := K + 1) (j := K + 2) (by omega), MU_MR, e1, MR_swap (i := K + 2) (j := K + 1) (by omega), MU_MR, e2]
        exact hs
  have := key n 0 (by omega)
  have e1 : htN M K v 0 = M (K + 1) := by funext j; unfold htN; rw [if_neg (fun q => by omega)]
  have e2 : ttN M K v 0 = M (K + 2) := by funext j; unfold ttN; rw [if_neg (by omega)]
  rw [e1, e2, MR_self, MR_self] at this
  exact this
theorem c_takeSymbol {L : List Nat} (hL : L.Nodup) {K : Nat} (P : LC L K) {M : Mem} {Q : Int32 → Mem → Prop} {f y t : Nat} {c : Int32} (hf : f < 6) (h1 : ¬ M K 6 < nI t ∧ M (K + 2) f = c → Q 0 (MU M (K + 1) f (M (K + 1) f ||| (nI 1 <<< (nI y &&& 31))))) (h2 : ¬ (¬ M K 6 < nI t ∧ M (K + 2) f = c) → Q 0 M) : CM m_X1_takeSymbol L [.ref K, .int (nI f), .int (nI y), .int c, .int (nI t)] M Q := by
  refine CMi pn_X1 rfl rfl rfl hL (fun x X T => ?_)
  refine r_X1_takeSymbol_0 X T P.1 P.2.2 P.2.1 (c_knowsIn hL P ⟨fun hc => h2 (fun q => ?_), fun hc => ⟨hf, fun hd => h2 (fun q => hd q.2), fun hd => ⟨hf, hf, h1 ⟨fun q => ?_, hd⟩⟩⟩⟩)
  · rw [if_neg q.1] at hc; exact absurd hc (by decide)
  · rw [if_pos q] at hc; exact absurd rfl hc
theorem shl1 {y : Nat} (hy : y < 31) : nI 1 <<< (nI y &&& 31) = nI (2 ^ y) := by
  have h2 : (2 : Nat) ^ y ≤ 2 ^ 30 := Nat.pow_le_pow_right (by decide) (by omega)
  have := pk_shlN (n := 1) (nI y &&& 31) y (sh_l y (by omega)) (by omega)
  rw [Nat.one_mul] at this
  exact this
theorem or_bit {h y m : Nat} (hh : h < 2 ^ m) (hy : y < m) : h ||| 2 ^ y < 2 ^ m := Nat.or_lt_two_pow hh (Nat.pow_lt_pow_right (by decide) hy)
theorem neg4_lt (t : Nat) (ht : t < 2 ^ 31) : (-4 : Int32) < nI t := by
  rw [Int32.lt_iff_toInt_lt, nI_toInt ht, show (-4 : Int32).toInt = -4 from by decide]
  omega
theorem neg4_ne (t : Nat) (ht : t < 2 ^ 31) : ¬ (-4 : Int32) = nI t := fun e => by
  have := neg4_lt t ht
  rw [e] at this
  exact absurd this (Int32.lt_irrefl)
theorem c_hear {L : List Nat} (hL : L.Nodup) {K S : Nat} (P : LC L K) (PS : SC L S) (P7 : PC L 7) (hK : 11 ≤ K) (hKS : S + 8 < K) {M : Mem} {Q : Int32 → Mem → Prop} {w : Nat → Int32} {r p l n li t f y : Nat} {d s v : Nat → Nat} {tb : Bool} (hp : r + 89 ≤ p) (hn : M 7 3 = nI n) (hn6 : n ≤ 6) (hli : M 7 5 = nI li) (hli1 : 1 ≤ li) (hli2 : li ≤ 99) (hds : ∀ f, f < n → d f + s f ≤ 18) (hl : M K 1 = nI l) (ht : t < 1000000) (wt : w (r + 45) = nI t) (wl : w (r + 44) = nI li) (hver : ∀ f, f < n → M (S + 2) f = w (r + 18 + f) ∧ w (r + 18 + f) = nI (v f) ∧ v f < 100) (hlr : LR M K w p n d s)
    (hT : tb = true → M (S + 6) (t % 10) = -4) (hSy : tb = false → M (S + 6) (t % 10) = nI f ∧ f < n ∧ M (S + 7) (t % 10) = nI y ∧ y < d f + s f ∧ M (S + 8) (t % 10) = w (r + 18 + f))
    (h : ∀ M' : Mem, LR M' K (liF w r p l n tb f y) p n d s → (∀ i, (i < K ∨ K + 2 < i) → M' i = M i) → M' K 1 = M K 1 → Q 0 M') : CM m_X1_hear L [.ref K, .ref S, .int (nI t)] M Q := by
  obtain ⟨⟨a0, a1, a2, a3⟩, hh, htold⟩ := hlr
  refine CMi pn_X1 rfl rfl rfl hL (fun x X T => ?_)
  refine r_X1_hear_0 X T P.1 PS.1 P7.1 (c_loses hL P hl ?_)
  rw [a0]
  by_cases hd : hdF (nI l) (nI t) (w p)
  · rw [if_pos hd]
    have hd' : hdF (nI l) (w (r + 45)) (w p) := by rw [wt]; exact hd
    refine ⟨fun _ => c_fileIn hL PS (by omega) ?_, fun hc => absurd rfl hc⟩
    cases tb with
    | true =>
      have e6 := hT rfl
      rw [e6]
      refine ⟨fun hc => absurd rfl hc, fun _ => c_takeTable hL P P7 PS.2.2.1 hK (by omega) hn hn6 (h _ ?_ ?_ ?_)⟩
      · have eli : liF w r p l n true f y = htF w r p n := by unfold liF; rw [if_pos hd', if_pos rfl]
        rw [eli]
        have o0 : htF w r p n p = w p := by unfold htF; rw [if_neg (by omega), if_neg (by omega), if_neg (by omega)]
        have o1 : htF w r p n (p + 1) = w (p + 1) := by unfold htF; rw [if_neg (by omega), if_neg (by omega), if_neg (by omega)]
        have o3 : htF w r p n (p + 3) = w (p + 3) := by unfold htF; rw [if_neg (by omega), if_neg (by omega), if_neg (by omega)]
        have o2 : htF w r p n (p + 2) = nI (t + li - 1) := by
          unfold htF; rw [if_pos rfl, wt, wl, nI_add, pk_sub (by omega)]
        have o4 : ∀ f, f < n → htF w r p n (p + 4 + f) = w (r + 18 + f) := fun f hf => by
          unfold htF; rw [if_neg (by omega), if_pos (by omega), show p + 4 + f - (p + 4) = f by omega]
        have o10 : ∀ f, f < n → htF w r p n (p + 10 + f) = if w (p + 4 + f) = w (r + 18 + f) then w (p + 10 + f) else nI 0 := fun f hf => by
          unfold htF; rw [if_neg (by omega), if_neg (by omega), if_pos (by omega), show p + 10 + f - 6 = p + 4 + f by omega, show p + 10 + f - (p + 10) = f by omega]
        refine ⟨⟨?_, ?_, ?_, ?_⟩, fun f hf => ?_, Or.inr ⟨t + li - 1, o2, by omega, fun f hf => ?_⟩⟩
        · rw [MR_at, upd_ne (by decide), o0]; exact a0
        · rw [MR_at, upd_ne (by decide), o1]; exact a1
        · rw [MR_at, upd_at, o2, hli, nI_add, pk_sub (by omega)]
        · rw [MR_at, upd_ne (by decide), o3]; exact a3
        · obtain ⟨hv1, hv2, hv3⟩ := hver f hf
          obtain ⟨hh1, hh2⟩ := hh f hf
          rw [MR_ne (by omega), MR_ne (by omega), MR_at, o10 f hf]
          unfold htN
          rcases htold with ⟨z, ht0⟩ | ⟨z, hz, hz2, ht0⟩
          · obtain ⟨q1, q2⟩ := ht0 f hf
            rw [if_pos ⟨hf, by rw [q1, hv1, hv2]; exact neg4_ne _ (by omega)⟩]
            rw [q2]
            refine ⟨by split <;> rfl, 0, by split <;> rfl, Nat.two_pow_pos _⟩
          · have q1 := ht0 f hf
            rw [hv1, q1]
            by_cases c : w (p + 4 + f) = w (r + 18 + f)
            · rw [if_neg (fun q => q.2 c), if_pos c]
              exact ⟨hh1, hh2⟩
            · rw [if_pos ⟨hf, c⟩, if_neg c]
              exact ⟨rfl, 0, rfl, Nat.two_pow_pos _⟩
        · obtain ⟨hv1, -⟩ := hver f hf
          rw [MR_ne (by omega), MR_at, o4 f hf]
          unfold ttN
          rw [if_pos hf, hv1]
      · intro i hi
        rw [MR_ne (by omega), MR_ne (by omega), MR_ne (by omega)]
      · rw [MR_at, upd_ne (by decide)]
    | false =>
      obtain ⟨e6, hf, e7, hy, e8⟩ := hSy rfl
      have hds' := hds f hf
      obtain ⟨hv1, hv2, hv3⟩ := hver f hf
      rw [e6]
      refine ⟨fun _ => c_hasFile_y hL P7.1 hn hn6 hf ⟨fun hc => absurd hc (by decide), fun _ => c_symbolIn hL PS (by omega) (c_versionIn hL PS (by omega) ?_)⟩, fun hc => absurd hc.symm (neg4_ne _ (by omega))⟩
      rw [e7, e8]
      have eli : liF w r p l n false f y = hsF w r p f y := by unfold liF; rw [if_pos hd', if_neg (by decide)]
      have cond : (¬ M K 6 < nI t ∧ M (K + 2) f = w (r + 18 + f)) ↔ (¬ w (p + 2) < w (r + 45) ∧ w (p + 4 + f) = w (r + 18 + f)) := by
        rw [a2, wt]
        rcases htold with ⟨z, ht0⟩ | ⟨z, hz, hz2, ht0⟩
        · rw [z]
          exact ⟨fun q => absurd (neg4_lt t (by omega)) q.1, fun q => absurd (neg4_lt t (by omega)) q.1⟩
        · rw [ht0 f hf]
      refine c_takeSymbol hL P (by omega) (fun hc => h _ ?_ ?_ ?_) (fun hc => h _ ?_ ?_ ?_)
      · rw [eli]
        obtain ⟨hh1, hv0, hh2, hh3⟩ := hh f hf
        have hb : hsF w r p f y (p + 10 + f) = nI (hv0 ||| 2 ^ y) := by
          unfold hsF
          rw [if_pos ⟨rfl, cond.mp hc⟩, hh2, shl1 (by omega), fa_or]
        have ho : ∀ q, ¬ q = p + 10 + f → hsF w r p f y q = w q := fun q hq => by unfold hsF; rw [if_neg (fun z => hq z.1)]
        refine ⟨⟨?_, ?_, ?_, ?_⟩, fun g hg => ?_, ?_⟩
        · rw [MU_ne (by omega), ho _ (by omega)]; exact a0
        · rw [MU_ne (by omega), ho _ (by omega)]; exact a1
        · rw [MU_ne (by omega), ho _ (by omega)]; exact a2
        · rw [MU_ne (by omega), ho _ (by omega)]; exact a3
        · rw [MU_at]
          by_cases c : g = f
          · subst c
            rw [upd_at, hb, hh1, hh2, shl1 (by omega), fa_or]
            exact ⟨rfl, _, rfl, or_bit hh3 hy⟩
          · rw [upd_ne c, ho _ (by omega)]
            exact hh g hg
        · rcases htold with ⟨z, ht0⟩ | ⟨z, hz, hz2, ht0⟩
          · rw [a2, z] at hc
            exact absurd (neg4_lt t (by omega)) hc.1
          · right
            exact ⟨z, by rw [ho _ (by omega)]; exact hz, hz2, fun g hg => by rw [MU_ne (by omega), ho _ (by omega)]; exact ht0 g hg⟩
      · intro i hi
        rw [MU_ne (by omega)]
      · rw [MU_ne (by omega)]
      · have e : hsF w r p f y = w := by funext q; unfold hsF; rw [if_neg (fun z => hc (cond.mpr z.2))]
        rw [eli, e]
        exact ⟨⟨a0, a1, a2, a3⟩, hh, htold⟩
      · intro i hi; rfl
      · rfl
  · rw [if_neg hd]
    have hd' : ¬ hdF (nI l) (w (r + 45)) (w p) := by rw [wt]; exact hd
    have eli : liF w r p l n tb f y = upd w (p + 3) (w (p + 3) + nI 1) := by unfold liF; rw [if_neg hd']
    refine ⟨fun hc => absurd hc (by decide), fun _ => h _ ?_ ?_ ?_⟩
    · rw [eli]
      refine ⟨⟨?_, ?_, ?_, ?_⟩, fun g hg => ?_, ?_⟩
      · rw [MU_at, upd_ne (by decide), upd_ne (by omega)]; exact a0
      · rw [MU_at, upd_ne (by decide), upd_ne (by omega)]; exact a1
      · rw [MU_at, upd_ne (by decide), upd_ne (by omega)]; exact a2
      · rw [MU_at, upd_at, upd_at, a3]
      · rw [MU_ne (by omega), upd_ne (by omega)]; exact hh g hg
      · rw [upd_ne (show p + 2 ≠ p + 3 by omega)]
        rcases htold with ⟨z, ht0⟩ | ⟨z, hz, hz2, ht0⟩
        · left
          exact ⟨z, fun g hg => by rw [MU_ne (by omega), upd_ne (by omega)]; exact ht0 g hg⟩
        · right
          exact ⟨z, hz, hz2, fun g hg => by rw [MU_ne (by omega), upd_ne (by omega)]; exact ht0 g hg⟩
    · intro i hi
      rw [MU_ne (by omega)]
    · rw [MU_at, upd_ne (by decide)]
