/-! the class: copies and beginnings -/
theorem MC_at (M : Mem) (i j n t : Nat) : MC M i j n j t = if t < n then M i t else M j t := by simp [MC]
theorem MC_ne {M : Mem} {i j n k : Nat} (h : k ≠ j) : MC M i j n k = M k := by simp [MC, h]
theorem c_sBecome {L : List Nat} (hL : L.Nodup) {S S2 : Nat} (P : SC L S) (P2 : SC L S2) (hd : S + 8 < S2 ∨ S2 + 8 < S) {M : Mem} {Q : Int32 → Mem → Prop}
    (h : ∀ M' : Mem, (∀ k, k < 6 → M' (S + 1) k = M (S2 + 1) k ∧ M' (S + 2) k = M (S2 + 2) k ∧ M' (S + 3) k = M (S2 + 3) k ∧ M' (S + 4) k = M (S2 + 4) k ∧ M' (S + 5) k = M (S2 + 5) k) → (∀ k, k < 10 → M' (S + 6) k = M (S2 + 6) k ∧ M' (S + 7) k = M (S2 + 7) k ∧ M' (S + 8) k = M (S2 + 8) k) → (M' S 9 = M S2 9 ∧ M' S 10 = M S2 10 ∧ M' S 11 = M S2 11) → (∀ i, (i < S ∨ S + 8 < i) → M' i = M i) → Q 0 M') : CM m_X6_become L [.ref S, .ref S2] M Q := by
  obtain ⟨p0, p1, p2, p3, p4, p5, p6, p7, p8⟩ := P
  obtain ⟨q0, q1, q2, q3, q4, q5, q6, q7, q8⟩ := P2
  refine CMi pn_X6 rfl rfl rfl hL (fun x X T => ?_)
  refine r_X6_become_0 X T q0 p0 q1 p1 q2 p2 q3 p3 q4 p4 q5 p5 q6 p6 q7 p7 q8 p8 ?_
  have a9 : (MC (MC (MC (MC (MC (MC (MC (MC M (S2 + 1) (S + 1) 6) (S2 + 2) (S + 2) 6) (S2 + 3) (S + 3) 6) (S2 + 4) (S + 4) 6) (S2 + 5) (S + 5) 6) (S2 + 6) (S + 6) 10) (S2 + 7) (S + 7) 10) (S2 + 8) (S + 8) 10) S2 = M S2 := by
    rw [MC_ne (by omega), MC_ne (by omega), MC_ne (by omega), MC_ne (by omega), MC_ne (by omega), MC_ne (by omega), MC_ne (by omega), MC_ne (by omega)]
  generalize h8 : MC (MC (MC (MC (MC (MC (MC (MC M (S2 + 1) (S + 1) 6) (S2 + 2) (S + 2) 6) (S2 + 3) (S + 3) 6) (S2 + 4) (S + 4) 6) (S2 + 5) (S + 5) 6) (S2 + 6) (S + 6) 10) (S2 + 7) (S + 7) 10) (S2 + 8) (S + 8) 10 = M8 at *
  rw [MU_ne (i := S) (j := S2) (by omega), MU_ne (i := S) (j := S2) (by omega), MU_ne (i := S) (j := S2) (by omega), a9]
  refine h _ (fun k hk => ?_) (fun k hk => ?_) ⟨?_, ?_, ?_⟩ (fun i hi => ?_)
  · rw [MU_ne (by omega), MU_ne (by omega), MU_ne (by omega), MU_ne (by omega), MU_ne (by omega), MU_ne (by omega), MU_ne (by omega), MU_ne (by omega), MU_ne (by omega), MU_ne (by omega), MU_ne (by omega), MU_ne (by omega), MU_ne (by omega), MU_ne (by omega), MU_ne (by omega), ← h8]
    refine ⟨?_, ?_, ?_, ?_, ?_⟩
    · rw [MC_ne (by omega), MC_ne (by omega), MC_ne (by omega), MC_ne (by omega), MC_ne (by omega), MC_ne (by omega), MC_ne (by omega), MC_at, if_pos hk]
    · rw [MC_ne (by omega), MC_ne (by omega), MC_ne (by omega), MC_ne (by omega), MC_ne (by omega), MC_ne (by omega), MC_at, if_pos hk, MC_ne (by omega)]
    · rw [MC_ne (by omega), MC_ne (by omega), MC_ne (by omega), MC_ne (by omega), MC_ne (by omega), MC_at, if_pos hk, MC_ne (by omega), MC_ne (by omega)]
    · rw [MC_ne (by omega), MC_ne (by omega), MC_ne (by omega), MC_ne (by omega), MC_at, if_pos hk, MC_ne (by omega), MC_ne (by omega), MC_ne (by omega)]
    · rw [MC_ne (by omega), MC_ne (by omega), MC_ne (by omega), MC_at, if_pos hk, MC_ne (by omega), MC_ne (by omega), MC_ne (by omega), MC_ne (by omega)]
  · rw [MU_ne (by omega), MU_ne (by omega), MU_ne (by omega), MU_ne (by omega), MU_ne (by omega), MU_ne (by omega), MU_ne (by omega), MU_ne (by omega), MU_ne (by omega), ← h8]
    refine ⟨?_, ?_, ?_⟩
    · rw [MC_ne (by omega), MC_ne (by omega), MC_at, if_pos hk, MC_ne (by omega), MC_ne (by omega), MC_ne (by omega), MC_ne (by omega), MC_ne (by omega)]
    · rw [MC_ne (by omega), MC_at, if_pos hk, MC_ne (by omega), MC_ne (by omega), MC_ne (by omega), MC_ne (by omega), MC_ne (by omega), MC_ne (by omega)]
    · rw [MC_at, if_pos hk, MC_ne (by omega), MC_ne (by omega), MC_ne (by omega), MC_ne (by omega), MC_ne (by omega), MC_ne (by omega), MC_ne (by omega)]
  · rw [MU_at, upd_ne (by decide), MU_at, upd_ne (by decide), MU_at, upd_at]
  · rw [MU_at, upd_ne (by decide), MU_at, upd_at]
  · rw [MU_at, upd_at]
  · rw [MU_ne (by omega), MU_ne (by omega), MU_ne (by omega), ← h8, MC_ne (by omega), MC_ne (by omega), MC_ne (by omega), MC_ne (by omega), MC_ne (by omega), MC_ne (by omega), MC_ne (by omega), MC_ne (by omega)]
theorem SR_copy {M M' : Mem} {S S2 r n t : Nat} {w : Nat → Int32} (hn : n ≤ 6) (h : SR M S2 w r n t) (e1 : ∀ k, k < 6 → M' (S + 1) k = M (S2 + 1) k ∧ M' (S + 2) k = M (S2 + 2) k ∧ M' (S + 3) k = M (S2 + 3) k ∧ M' (S + 4) k = M (S2 + 4) k ∧ M' (S + 5) k = M (S2 + 5) k) (e2 : ∀ k, k < 10 → M' (S + 6) k = M (S2 + 6) k ∧ M' (S + 7) k = M (S2 + 7) k ∧ M' (S + 8) k = M (S2 + 8) k) (e3 : M' S 9 = M S2 9 ∧ M' S 10 = M S2 10 ∧ M' S 11 = M S2 11) : SR M' S w r n t := by
  obtain ⟨h1, h2, h3⟩ := h
  refine ⟨fun f hf => ?_, ?_, fun k hk hkt => ?_⟩
  · obtain ⟨a1, a2, a3, a4, a5⟩ := e1 f (by omega)
    rw [a1, a2, a3, a4, a5]; exact h1 f hf
  · rw [e3.1, e3.2.1, e3.2.2]; exact h2
  · obtain ⟨a1, a2, a3⟩ := e2 ((t - 1 - k) % 10) (Nat.mod_lt _ (by decide))
    rw [a1, a2, a3]; exact h3 k hk hkt
theorem c_lBecome {L : List Nat} (hL : L.Nodup) {K K2 : Nat} (P : LC L K) (P2 : LC L K2) (hd : K + 2 < K2 ∨ K2 + 2 < K) {M : Mem} {Q : Int32 → Mem → Prop}
    (h : ∀ M' : Mem, (∀ k, k < 6 → M' (K + 1) k = M (K2 + 1) k ∧ M' (K + 2) k = M (K2 + 2) k) → (M' K 4 = M K2 4 ∧ M' K 5 = M K2 5 ∧ M' K 6 = M K2 6 ∧ M' K 7 = M K2 7) → M' K 1 = M K 1 → (∀ i, (i < K ∨ K + 2 < i) → M' i = M i) → Q 0 M') : CM m_X1_become L [.ref K, .ref K2] M Q := by
  refine CMi pn_X1 rfl rfl rfl hL (fun x X T => ?_)
  refine r_X1_become_0 X T P2.1 P.1 P2.2.1 P.2.1 P2.2.2 P.2.2 ?_
  have a9 : (MC (MC M (K2 + 1) (K + 1) 6) (K2 + 2) (K + 2) 6) K2 = M K2 := by rw [MC_ne (by omega), MC_ne (by omega)]
  generalize h8 : MC (MC M (K2 + 1) (K + 1) 6) (K2 + 2) (K + 2) 6 = M8 at *
  rw [MU_ne (i := K) (j := K2) (by omega), MU_ne (i := K) (j := K2) (by omega), MU_ne (i := K) (j := K2) (by omega), MU_ne (i := K) (j := K2) (by omega), MU_ne (i := K) (j := K2) (by omega), MU_ne (i := K) (j := K2) (by omega), a9]
  refine h _ (fun k hk => ?_) ⟨?_, ?_, ?_, ?_⟩ ?_ (fun i hi => ?_)
  · rw [MU_ne (by omega), MU_ne (by omega), MU_ne (by omega), MU_ne (by omega), MU_ne (by omega), MU_ne (by omega), MU_ne (by omega), MU_ne (by omega), ← h8]
    refine ⟨?_, ?_⟩
    · rw [MC_ne (by omega), MC_at, if_pos hk]
    · rw [MC_at, if_pos hk, MC_ne (by omega)]
  · rw [MU_at, upd_ne (by decide), MU_at, upd_ne (by decide), MU_at, upd_ne (by decide), MU_at, upd_at]
  · rw [MU_at, upd_ne (by decide), MU_at, upd_ne (by decide), MU_at, upd_at]
  · rw [MU_at, upd_ne (by decide), MU_at, upd_at]
  · rw [MU_at, upd_at]
  · rw [MU_at, upd_ne (by decide), MU_at, upd_ne (by decide), MU_at, upd_ne (by decide), MU_at, upd_ne (by decide), ← h8, MC_ne (by omega), MC_ne (by omega)]
  · rw [MU_ne (by omega), MU_ne (by omega), MU_ne (by omega), MU_ne (by omega), ← h8, MC_ne (by omega), MC_ne (by omega)]
theorem LR_copy {M M' : Mem} {K K2 p n : Nat} {w : Nat → Int32} {d s : Nat → Nat} (hn : n ≤ 6) (h : LR M K2 w p n d s) (e1 : ∀ k, k < 6 → M' (K + 1) k = M (K2 + 1) k ∧ M' (K + 2) k = M (K2 + 2) k) (e2 : M' K 4 = M K2 4 ∧ M' K 5 = M K2 5 ∧ M' K 6 = M K2 6 ∧ M' K 7 = M K2 7) : LR M' K w p n d s := by
  obtain ⟨h1, h2, h3⟩ := h
  refine ⟨?_, fun f hf => ?_, ?_⟩
  · rw [e2.1, e2.2.1, e2.2.2.1, e2.2.2.2]; exact h1
  · rw [(e1 f (by omega)).1]; exact h2 f hf
  · rcases h3 with ⟨z, h3⟩ | ⟨z, hz, hz2, h3⟩
    · exact Or.inl ⟨z, fun f hf => by rw [(e1 f (by omega)).2]; exact h3 f hf⟩
    · exact Or.inr ⟨z, hz, hz2, fun f hf => by rw [(e1 f (by omega)).2]; exact h3 f hf⟩
theorem c_rBecome {L : List Nat} (hL : L.Nodup) {B B2 : Nat} (P : RC L B) (P2 : RC L B2) (hd : B + 22 < B2 ∨ B2 + 22 < B) {M : Mem} {Q : Int32 → Mem → Prop} {w : Nat → Int32} {r n e li t jn : Nat} {d s y v : Nat → Nat} (hr : RR M B2 w r n e li d s t jn y v) (hnu : NU M B)
    (h : ∀ M' : Mem, RR M' B w r n e li d s t jn y v → NU M' B → (∀ i, (i < B ∨ B + 22 < i) → M' i = M i) → Q 0 M') : CM m_X4_become L [.ref B, .ref B2] M Q := by
  obtain ⟨PB, PB1, PS, PL⟩ := P
  obtain ⟨QB, QB1, QS, QL⟩ := P2
  obtain ⟨hp, hv, hfw, hsr, hjn, hlr⟩ := hr
  have hn6 : n ≤ 6 := hp.1.2.2
  have hj4 : jn ≤ 4 := hv.2.1.2
  refine CMi pn_X4 rfl rfl rfl hL (fun x X T => ?_)
  refine r_X4_become_0 X T PB QB PS.1 (c_sBecome hL PS QS (by omega) (fun M1 e1 e2 e3 e4 => ?_))
  rw [e4 B2 (by omega), hjn]
  have inner : ∀ m l, l + m = jn → ∀ M2 : Mem, (∀ i, (i < B + 11 ∨ B + 22 < i) → M2 i = (MU M1 B 2 (nI jn)) i) → NU M2 B → (∀ j, j < l → LR M2 (B + 1 + 10 + 3 * j) w (r + 89 + 16 * j) n d s) → WP x L 21 [some (.ref B), some (.ref B2), some (.int (nI l))] [] M2 := by
    intro m
    induction m with
    | zero =>
      intro l hl M2 g1 g2 g3
      have : l = jn := by omega
      subst this
      refine r_X4_become_21 X T PB PB1 QB QB1 (fun j hj => (PL j hj).1) ⟨l, ?_, by omega, by omega, fun _ => ?_, fun hc => absurd hc (by omega)⟩
      · rw [g1 _ (by omega), MU_at, upd_at]
      · refine h M2 ⟨hp, hv, hfw, ?_, ?_, g3⟩ g2 (fun i hi => ?_)
        · refine SR_copy hn6 hsr (fun k hk => ?_) (fun k hk => ?_) ?_
          · rw [g1 _ (by omega), g1 _ (by omega), g1 _ (by omega), g1 _ (by omega), g1 _ (by omega), MU_ne (by omega), MU_ne (by omega), MU_ne (by omega), MU_ne (by omega), MU_ne (by omega)]; exact e1 k hk
          · rw [g1 _ (by omega), g1 _ (by omega), g1 _ (by omega), MU_ne (by omega), MU_ne (by omega), MU_ne (by omega)]; exact e2 k hk
          · rw [g1 _ (by omega), MU_ne (by omega)]; exact e3
        · rw [g1 _ (by omega), MU_at, upd_at]
        · rw [g1 _ (by omega), MU_ne (by omega), e4 _ (by omega)]
    | succ m ih =>
      intro l hl M2 g1 g2 g3
      refine r_X4_become_21 X T PB PB1 QB QB1 (fun j hj => (PL j hj).1) ⟨jn, ?_, by omega, by omega, fun hc => absurd hc (by omega), fun _ => ⟨by omega, by omega, ?_⟩⟩
      · rw [g1 _ (by omega), MU_at, upd_at]
      · refine c_lBecome hL (PL l (by omega)) (QL l (by omega)) (by omega) (fun M3 k1 k2 k3 k4 => ?_)
        refine ih (l + 1) (by omega) M3 (fun i hi => by rw [k4 i (by omega)]; exact g1 i hi) ?_ ?_
        · intro j hj
          by_cases c : j = l
          · subst c; rw [k3]; exact g2 j hj
          · rw [k4 _ (by omega)]; exact g2 j hj
        · intro j hj
          by_cases c : j = l
          · subst c
            refine LR_copy hn6 (hlr j (by omega)) (fun k hk => ?_) ?_
            · obtain ⟨z1, z2⟩ := k1 k hk
              rw [z1, z2, g1 _ (by omega), g1 _ (by omega), MU_ne (by omega), MU_ne (by omega), e4 _ (by omega), e4 _ (by omega)]
              exact ⟨rfl, rfl⟩
            · rw [k2.1, k2.2.1, k2.2.2.1, k2.2.2.2, g1 _ (by omega), MU_ne (by omega), e4 _ (by omega)]
              exact ⟨rfl, rfl, rfl, rfl⟩
          · exact LR_m (g3 j (by omega)) (k4 _ (by omega)) (k4 _ (by omega)) (k4 _ (by omega))
  refine inner jn 0 (by omega) _ (fun _ _ => rfl) (fun l hl => ?_) (fun j hj => absurd hj (Nat.not_lt_zero _))
  rw [MU_ne (by omega), e4 _ (by omega)]; exact hnu l hl
/-- a sender begins -/
def zbF (M : Mem) (S f : Nat) : Nat → Int32 := fun k => if k < f then nI 0 else M S k
theorem zb_step (M : Mem) (S f : Nat) : upd (zbF M S f) f (nI 0) = zbF M S (f + 1) := by
  funext k; unfold upd zbF; grind
theorem c_sBegin {L : List Nat} (hL : L.Nodup) {S : Nat} (hS : 11 ≤ S) (P : SC L S) (P7 : PC L 7) {M : Mem} {Q : Int32 → Mem → Prop}
    (h : ∀ M' : Mem, (∀ k, k < 6 → M' (S + 1) k = M 10 k ∧ M' (S + 2) k = nI 0 ∧ M' (S + 3) k = nI 0 ∧ M' (S + 4) k = nI 0 ∧ M' (S + 5) k = nI 0) → (M' S 9 = nI 0 ∧ M' S 10 = nI 0 ∧ M' S 11 = nI 0) → (∀ i, (i < S ∨ S + 5 < i) → M' i = M i) → Q 0 M') : CM m_X6_begin L [.ref S] M Q := by
  obtain ⟨p0, p1, p2, p3, p4, p5, p6, p7, p8⟩ := P
  refine CMi pn_X6 rfl rfl rfl hL (fun x X T => ?_)
  refine r_X6_begin_0 X T p0 P7.1 P7.2.2.2 p1 ?_
  have key : ∀ m f, f + m = 6 → WP x L 20 [some (.ref S), some (.int (nI f))] [] (MR (MR (MR (MR (MC M 10 (S + 1) 6) (S + 2) (zbF M (S + 2) f)) (S + 3) (zbF M (S + 3) f)) (S + 4) (zbF M (S + 4) f)) (S + 5) (zbF M (S + 5) f)) := by
    intro m
    induction m with
    | zero =>
      intro f hf
      have : f = 6 := by omega
      subst this
      refine r_X6_begin_20 X T p0 p2 p3 p4 p5 ⟨by omega, fun _ => h _ (fun k hk => ?_) ⟨?_, ?_, ?_⟩ (fun i hi => ?_), fun hc => absurd hc (by omega)⟩
      · rw [MU_ne (by omega), MU_ne (by omega), MU_ne (by omega), MU_ne (by omega), MU_ne (by omega), MU_ne (by omega), MU_ne (by omega), MU_ne (by omega), MU_ne (by omega), MU_ne (by omega), MU_ne (by omega), MU_ne (by omega), MU_ne (by omega), MU_ne (by omega), MU_ne (by omega)]
        refine ⟨?_, ?_, ?_, ?_, ?_⟩
        · rw [MR_ne (by omega), MR_ne (by omega), MR_ne (by omega), MR_ne (by omega), MC_at, if_pos hk]
        · rw [MR_ne (by omega), MR_ne (by omega), MR_ne (by omega), MR_at]; unfold zbF; rw [if_pos hk]
        · rw [MR_ne (by omega), MR_ne (by omega), MR_at]; unfold zbF; rw [if_pos hk]
        · rw [MR_ne (by omega), MR_at]; unfold zbF; rw [if_pos hk]
        · rw [MR_at]; unfold zbF; rw [if_pos hk]
      · rw [MU_at, upd_ne (by decide), MU_at, upd_ne (by decide), MU_at, upd_at]
      · rw [MU_at, upd_ne (by decide), MU_at, upd_at]
      · rw [MU_at, upd_at]
      · rw [MU_ne (by omega), MU_ne (by omega), MU_ne (by omega), MR_ne (by omega), MR_ne (by omega), MR_ne (by omega), MR_ne (by omega), MC_ne (by omega)]
    | succ m ih =>
      intro f hf
      refine r_X6_begin_20 X T p0 p2 p3 p4 p5 ⟨by omega, fun hc => absurd hc (by omega), fun _ => ⟨by omega, by omega, by omega, by omega, ?_⟩⟩
      have hs := ih (f + 1) (by omega)
      rw [← zb_step, ← zb_step, ← zb_step, ← zb_step] at hs
      rw [MR_swap (i := S + 4) (j := S + 5) (by omega), MR_swap (i := S + 3) (j := S + 5) (by omega), MR_swap (i := S + 2) (j := S + 5) (by omega), MR_swap (i := S + 3) (j := S + 4) (by omega), MR_swap (i := S + 2) (j := S + 4) (by omega), MR_swap (i := S + 2) (j := S + 3) (by omega)]
      rw [MU_MR, MR_swap (i := S + 3) (j := S + 2) (by omega), MU_MR, MR_swap (i := S + 4) (j := S + 2) (by omega), MR_swap (i := S + 4) (j := S + 3) (by omega), MU_MR, MR_swap (i := S + 5) (j := S + 2) (by omega), MR_swap (i := S + 5) (j := S + 3) (by omega), MR_swap (i := S + 5) (j := S + 4) (by omega), MU_MR]
      exact hs
  have := key 6 0 (by omega)
  have z : ∀ S', zbF M S' 0 = M S' := fun S' => by funext k; unfold zbF; rw [if_neg (by omega)]
  rw [z, z, z, z] at this
  have e2 : MR (MC M 10 (S + 1) 6) (S + 2) (M (S + 2)) = MC M 10 (S + 1) 6 := by
    have := MR_self (MC M 10 (S + 1) 6) (S + 2)
    rwa [MC_ne (show S + 2 ≠ S + 1 by omega)] at this
  have e3 : MR (MC M 10 (S + 1) 6) (S + 3) (M (S + 3)) = MC M 10 (S + 1) 6 := by
    have := MR_self (MC M 10 (S + 1) 6) (S + 3)
    rwa [MC_ne (show S + 3 ≠ S + 1 by omega)] at this
  have e4 : MR (MC M 10 (S + 1) 6) (S + 4) (M (S + 4)) = MC M 10 (S + 1) 6 := by
    have := MR_self (MC M 10 (S + 1) 6) (S + 4)
    rwa [MC_ne (show S + 4 ≠ S + 1 by omega)] at this
  have e5 : MR (MC M 10 (S + 1) 6) (S + 5) (M (S + 5)) = MC M 10 (S + 1) 6 := by
    have := MR_self (MC M 10 (S + 1) 6) (S + 5)
    rwa [MC_ne (show S + 5 ≠ S + 1 by omega)] at this
  rw [e2, e3, e4, e5] at this
  exact this
theorem c_rBegin {L : List Nat} (hL : L.Nodup) {B : Nat} (hB : 11 ≤ B) (PB : AC L B 4 0) (PS : SC L (B + 2)) (P7 : PC L 7) {M : Mem} {Q : Int32 → Mem → Prop}
    (h : ∀ M' : Mem, (∀ k, k < 6 → M' (B + 2 + 1) k = M 10 k ∧ M' (B + 2 + 2) k = nI 0 ∧ M' (B + 2 + 3) k = nI 0 ∧ M' (B + 2 + 4) k = nI 0 ∧ M' (B + 2 + 5) k = nI 0) → (M' (B + 2) 9 = nI 0 ∧ M' (B + 2) 10 = nI 0 ∧ M' (B + 2) 11 = nI 0) → M' B 2 = nI 0 → (∀ i, (i < B ∨ B + 7 < i) → M' i = M i) → M' (B + 1) = M (B + 1) → Q 0 M') : CM m_X4_begin L [.ref B] M Q := by
  refine CMi pn_X4 rfl rfl rfl hL (fun x X T => ?_)
  refine r_X4_begin_0 X T PB PS.1 (c_sBegin hL (by omega) PS P7 (fun M1 e1 e2 e3 => ?_))
  refine h _ (fun k hk => ?_) ?_ ?_ (fun i hi => ?_) ?_
  · rw [MU_ne (by omega), MU_ne (by omega), MU_ne (by omega), MU_ne (by omega), MU_ne (by omega)]; exact e1 k hk
  · rw [MU_ne (by omega)]; exact e2
  · rw [MU_at, upd_at]
  · rw [MU_ne (by omega), e3 _ (by omega)]
  · rw [MU_ne (by omega), e3 _ (by omega)]
