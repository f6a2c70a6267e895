/-! items of the text -/
abbrev PT : Type := Nat × Nat × Nat × (Nat → Nat × Nat × Nat)
def fiP (hr : Nat → Int32) (p : Nat) (st : PT) : Option (Nat × PT) := match nuF hr (nI 44) p with
  | none => none
  | some r1 => match nuF hr (nI 44) r1.2 with
    | none => none
    | some r2 => match nuF hr (nI 59) r2.2 with
      | none => none
      | some r3 => if (1 ≤ r1.1 ∧ r1.1 ≤ 12) ∧ r2.1 ≤ 6 ∧ (1 ≤ r3.1 ∧ r3.1 ≤ 9) ∧ st.1 < 6 then some (r3.2, (st.1 + 1, st.2.1, st.2.2.1, fun k => if k = st.1 then (r1.1, r2.1, r3.1) else st.2.2.2 k)) else none
def taP (hr : Nat → Int32) (p : Nat) (st : PT) : Option (Nat × PT) := match nuF hr (nI 44) p with
  | none => none
  | some r1 => match nuF hr (nI 59) r1.2 with
    | none => none
    | some r2 => if (3 ≤ r1.1 ∧ r1.1 ≤ 20) ∧ 1 ≤ r2.1 then some (r2.2, (st.1, r1.1, r2.1, st.2.2.2)) else none
def itF (hr : Nat → Int32) (p : Nat) (st : PT) : Option (Nat × PT) := if hr p = nI 102 then fiP hr (p + 1) st else if hr p = nI 116 then taP hr (p + 1) st else none
def ftF (hr : Nat → Int32) (ln : Nat) : Nat → Nat → PT → Int32 × PT
  | 0, _, st => (-4, st)
  | c + 1, p, st => if ln ≤ p then (-4, st) else match itF hr p st with
    | none => (nI p, st)
    | some r => ftF hr ln c r.1 r.2
def PV (st : PT) : Prop := st.1 ≤ 6 ∧ (3 ≤ st.2.1 ∧ st.2.1 ≤ 20) ∧ (1 ≤ st.2.2.1 ∧ st.2.2.1 ≤ 99) ∧ ∀ k, k < st.1 → (1 ≤ (st.2.2.2 k).1 ∧ (st.2.2.2 k).1 ≤ 12) ∧ (st.2.2.2 k).2.1 ≤ 6
theorem z44 : ¬ nI 44 = nI 0 := by decide
theorem z59 : ¬ nI 59 = nI 0 := by decide
theorem fiP_b {tx : Nat → Int32} {ln p p' : Nat} {st st' : PT} (h : fiP (hrF tx ln) p st = some (p', st')) (hv : PV st) : p < p' ∧ p' ≤ ln ∧ PV st' := by
  unfold fiP at h
  cases e1 : nuF (hrF tx ln) (nI 44) p with
  | none => rw [e1] at h; simp at h
  | some r1 =>
    rw [e1] at h; dsimp only at h
    cases e2 : nuF (hrF tx ln) (nI 44) r1.2 with
    | none => rw [e2] at h; simp at h
    | some r2 =>
      rw [e2] at h; dsimp only at h
      cases e3 : nuF (hrF tx ln) (nI 59) r2.2 with
      | none => rw [e3] at h; simp at h
      | some r3 =>
        rw [e3] at h; dsimp only at h
        have b1 := nuF_b (v := r1.1) (q := r1.2) z44 e1
        have b2 := nuF_b (v := r2.1) (q := r2.2) z44 e2
        have b3 := nuF_b (v := r3.1) (q := r3.2) z59 e3
        by_cases c : (1 ≤ r1.1 ∧ r1.1 ≤ 12) ∧ r2.1 ≤ 6 ∧ (1 ≤ r3.1 ∧ r3.1 ≤ 9) ∧ st.1 < 6
        · rw [if_pos c] at h
          simp only [Option.some.injEq, Prod.mk.injEq] at h
          obtain ⟨h1, h2⟩ := h
          subst h2
          refine ⟨by omega, by omega, ⟨by dsimp only; omega, hv.2.1, hv.2.2.1, fun k hk => ?_⟩⟩
          dsimp only at hk ⊢
          by_cases ck : k = st.1
          · rw [if_pos ck]; dsimp only; omega
          · rw [if_neg ck]; exact hv.2.2.2 k (by omega)
        · rw [if_neg c] at h; simp at h
theorem taP_b {tx : Nat → Int32} {ln p p' : Nat} {st st' : PT} (h : taP (hrF tx ln) p st = some (p', st')) (hv : PV st) : p < p' ∧ p' ≤ ln ∧ PV st' := by
  unfold taP at h
  cases e1 : nuF (hrF tx ln) (nI 44) p with
  | none => rw [e1] at h; simp at h
  | some r1 =>
    rw [e1] at h; dsimp only at h
    cases e2 : nuF (hrF tx ln) (nI 59) r1.2 with
    | none => rw [e2] at h; simp at h
    | some r2 =>
      rw [e2] at h; dsimp only at h
      have b1 := nuF_b (v := r1.1) (q := r1.2) z44 e1
      have b2 := nuF_b (v := r2.1) (q := r2.2) z59 e2
      by_cases c : (3 ≤ r1.1 ∧ r1.1 ≤ 20) ∧ 1 ≤ r2.1
      · rw [if_pos c] at h
        simp only [Option.some.injEq, Prod.mk.injEq] at h
        obtain ⟨h1, h2⟩ := h
        subst h2
        exact ⟨by omega, by omega, ⟨hv.1, c.1, ⟨c.2, b2.1⟩, hv.2.2.2⟩⟩
      · rw [if_neg c] at h; simp at h
theorem itF_b {tx : Nat → Int32} {ln p p' : Nat} {st st' : PT} (h : itF (hrF tx ln) p st = some (p', st')) (hv : PV st) : p < p' ∧ p' ≤ ln ∧ PV st' := by
  unfold itF at h
  by_cases c1 : hrF tx ln p = nI 102
  · rw [if_pos c1] at h
    have := fiP_b h hv
    exact ⟨by omega, this.2⟩
  · rw [if_neg c1] at h
    by_cases c2 : hrF tx ln p = nI 116
    · rw [if_pos c2] at h
      have := taP_b h hv
      exact ⟨by omega, this.2⟩
    · rw [if_neg c2] at h; simp at h
theorem ftF_b {tx : Nat → Int32} {ln : Nat} : ∀ c p st, PV st → PV (ftF (hrF tx ln) ln c p st).2
  | 0, _, _, hv => hv
  | c + 1, p, st, hv => by
    rw [ftF]
    by_cases q : ln ≤ p
    · rw [if_pos q]; exact hv
    · rw [if_neg q]
      cases e : itF (hrF tx ln) p st with
      | none => exact hv
      | some r => exact ftF_b c r.1 r.2 (itF_b (p' := r.1) (st' := r.2) e hv).2.2
/-- the class's plan read; the reference's -/
def PSc (M : Mem) (st : PT) : Prop := M 3 3 = nI st.1 ∧ M 3 4 = nI st.2.1 ∧ M 3 5 = nI st.2.2.1 ∧ ∀ k, k < st.1 → M 4 k = nI (st.2.2.2 k).1 ∧ M 5 k = nI (st.2.2.2 k).2.1 ∧ M 6 k = nI (st.2.2.2 k).2.2
def PSm (M : Mem) (st : PT) : Prop := M 142 0 = nI st.1 ∧ M 139 7 = nI st.2.1 ∧ M 139 8 = nI st.2.2.1 ∧ ∀ k, k < st.1 → M 142 (1 + 3 * k) = nI (st.2.2.2 k).1 ∧ M 142 (2 + 3 * k) = nI (st.2.2.2 k).2.1 ∧ M 142 (3 + 3 * k) = nI (st.2.2.2 k).2.2
def FI (M M' : Mem) : Prop := (∀ i, i ≠ 1 → (i < 3 ∨ 6 < i) → M' i = M i) ∧ ∀ k, k ≠ 2 → M' 1 k = M 1 k
def FJ (M M' : Mem) : Prop := (∀ i, i ≠ 139 → i ≠ 142 → M' i = M i) ∧ ∀ k, k < 5 → M' 139 k = M 139 k
theorem FI.trans {M M1 M2 : Mem} (a : FI M M1) (b : FI M1 M2) : FI M M2 := ⟨fun i h h2 => (b.1 i h h2).trans (a.1 i h h2), fun k h => (b.2 k h).trans (a.2 k h)⟩
theorem FJ.trans {M M1 M2 : Mem} (a : FJ M M1) (b : FJ M1 M2) : FJ M M2 := ⟨fun i h h2 => (b.1 i h h2).trans (a.1 i h h2), fun k h => (b.2 k h).trans (a.2 k h)⟩
theorem FI.refl (M : Mem) : FI M M := ⟨fun _ _ _ => rfl, fun _ _ => rfl⟩
theorem FJ.refl (M : Mem) : FJ M M := ⟨fun _ _ _ => rfl, fun _ _ => rfl⟩
theorem FC.fi {M M1 : Mem} (a : FC M M1) : FI M M1 := ⟨fun i h _ => a.1 i h, a.2⟩
theorem FM.fj {M M1 : Mem} (a : FM M M1) : FJ M M1 := ⟨fun i h _ => a.1 i h, fun k h => a.2 k (by omega) (by omega)⟩
theorem PSc_m {M M1 : Mem} {st : PT} (h : PSc M st) (f : FC M M1) : PSc M1 st := by
  unfold PSc at *
  rw [f.1 3 (by decide), f.1 4 (by decide), f.1 5 (by decide), f.1 6 (by decide)]; exact h
theorem PSm_m {M M1 : Mem} {st : PT} (h : PSm M st) (f : FM M M1) : PSm M1 st := by
  unfold PSm at *
  rw [f.1 142 (by decide), f.2 7 (by decide) (by decide), f.2 8 (by decide) (by decide)]; exact h
theorem TC_i {M M1 : Mem} {tx : Nat → Int32} {ln p : Nat} (h : TC M tx ln p) (f : ∀ i, i < 3 → M1 i = M i) : TC M1 tx ln p := by
  unfold TC at *
  rw [f 1 (by decide), f 2 (by decide)]; exact h
theorem c_readAny {M : Mem} {Q : Int32 → Mem → Prop} {tx : Nat → Int32} {ln p : Nat} {sg : Int32} (h : TC M tx ln p) (hs : ¬ sg = nI 0) (h1 : ∀ r M' q, TC M' tx ln q → FC M M' → Q r M') : CM m_X5_readNumber LF [.ref 1, .int sg] M Q := c_readNumber h hs (fun _ q _ M' t f => h1 _ M' q t f) (fun _ M' q t f => h1 _ M' q t f)
theorem c_readFile {M : Mem} {Q : Int32 → Mem → Prop} {tx : Nat → Int32} {ln p : Nat} {st : PT} (h : TC M tx ln p) (hs : PSc M st) (hv : PV st) (h1 : ∀ p' st', fiP (hrF tx ln) p st = some (p', st') → ∀ M', TC M' tx ln p' → PSc M' st' → FI M M' → Q (nI 1) M') (h2 : fiP (hrF tx ln) p st = none → ∀ M', FI M M' → Q (nI 0) M') : CM m_X5_readFile LF [.ref 1, .ref 3] M Q := by
  refine CMi pn_X5 rfl rfl rfl LF_nd (fun x X T => ?_)
  refine r_X5_readFile_0 X T ac_1 ac_3 ?_
  unfold fiP at h1 h2
  refine c_readNumber h z44 (fun v1 q1 e1 M1 t1 f1 => ?_) (fun e1 M1 q1 t1 f1 => c_readAny t1 z44 (fun r M2 q2 t2 f2 => c_readAny t2 z59 (fun r M3 q3 t3 f3 => ⟨fun _ => h2 (by rw [e1]) M3 (f1.trans (f2.trans f3)).fi, fun q => absurd (by decide) q⟩)))
  rw [e1] at h1 h2; dsimp only at h1 h2
  have b1 := nuF_b z44 e1
  refine c_readNumber t1 z44 (fun v2 q2 e2 M2 t2 f2 => ?_) (fun e2 M2 q2 t2 f2 => c_readAny t2 z59 (fun r M3 q3 t3 f3 => ?_))
  · rw [e2] at h1 h2; dsimp only at h1 h2
    have b2 := nuF_b z44 e2
    refine c_readNumber t2 z59 (fun v3 q3 e3 M3 t3 f3 => ?_) (fun e3 M3 q3 t3 f3 => ?_)
    · rw [e3] at h1 h2; dsimp only at h1 h2
      have b3 := nuF_b z59 e3
      have f := f1.trans (f2.trans f3)
      have bad : ¬ ((1 ≤ v1 ∧ v1 ≤ 12) ∧ v2 ≤ 6 ∧ (1 ≤ v3 ∧ v3 ≤ 9) ∧ st.1 < 6) → ∀ M', FI M M' → Q (nI 0) M' := fun c => h2 (by rw [if_neg c])
      rw [nI_ltI (by omega) (by decide), nI_ltI (by decide) (by omega), nI_leI (by omega) (by decide), nI_ltI (by omega) (by decide), nI_ltI (by decide) (by omega)]
      refine ⟨fun q => bad (by omega) M3 f.fi, fun z1 => ⟨fun q => bad (by omega) M3 f.fi, fun z2 => ⟨fun q => absurd q (nI_pos (by omega)), fun _ => ⟨fun z3 => ⟨fun q => bad (by omega) M3 f.fi, fun z4 => ⟨fun q => bad (by omega) M3 f.fi, fun z5 => ?_⟩⟩, fun q => bad (by omega) M3 f.fi⟩⟩⟩⟩
      have hs3 := PSc_m hs f
      obtain ⟨p1, p2, p3, p4⟩ := hs3
      by_cases c6 : st.1 < 6
      · rw [if_pos (by omega)] at h1
        refine c_addFile_y LF_nd pc_3 p1 c6 ⟨fun q => absurd q (by decide), fun _ => h1 _ _ rfl _ ?_ ?_ (f.fi.trans ?_)⟩
        · exact TC_i t3 (fun i hi => by rw [MU_ne (by omega), MU_ne (by omega), MU_ne (by omega), MU_ne (by omega)])
        · refine ⟨by rw [MU_at, upd_at], ?_, ?_, fun k hk => ?_⟩
          · rw [MU_at, upd_ne (by decide), MU_ne (by decide), MU_ne (by decide), MU_ne (by decide)]; exact p2
          · rw [MU_at, upd_ne (by decide), MU_ne (by decide), MU_ne (by decide), MU_ne (by decide)]; exact p3
          · dsimp only at hk ⊢
            have m4 : ∀ a, (MU (MU (MU (MU M3 (3 + 1) st.1 (nI v1)) (3 + 2) st.1 (nI v2)) (3 + 3) st.1 (nI v3)) 3 3 a) 4 k = if k = st.1 then nI v1 else M3 4 k := fun a => by
              rw [MU_ne (by decide), MU_ne (by decide), MU_ne (by decide)]; show (MU M3 4 _ _) 4 k = _; rw [MU_at]; rfl
            have m5 : ∀ a, (MU (MU (MU (MU M3 (3 + 1) st.1 (nI v1)) (3 + 2) st.1 (nI v2)) (3 + 3) st.1 (nI v3)) 3 3 a) 5 k = if k = st.1 then nI v2 else M3 5 k := fun a => by
              rw [MU_ne (by decide), MU_ne (by decide)]; show (MU _ 5 _ _) 5 k = _; rw [MU_at, MU_ne (by decide)]; rfl
            have m6 : ∀ a, (MU (MU (MU (MU M3 (3 + 1) st.1 (nI v1)) (3 + 2) st.1 (nI v2)) (3 + 3) st.1 (nI v3)) 3 3 a) 6 k = if k = st.1 then nI v3 else M3 6 k := fun a => by
              rw [MU_ne (by decide)]; show (MU _ 6 _ _) 6 k = _; rw [MU_at, MU_ne (by decide), MU_ne (by decide)]; rfl
            rw [m4, m5, m6]
            by_cases ck : k = st.1
            · rw [if_pos ck, if_pos ck, if_pos ck, if_pos ck]; exact ⟨rfl, rfl, rfl⟩
            · rw [if_neg ck, if_neg ck, if_neg ck, if_neg ck]; exact p4 k (by omega)
        · exact ⟨fun i h1 h2 => by rw [MU_ne (by omega), MU_ne (by omega), MU_ne (by omega), MU_ne (by omega)], fun k hk => by rw [MU_ne (by decide), MU_ne (by decide), MU_ne (by decide), MU_ne (by decide)]⟩
      · exact c_addFile_n LF_nd pc_3 p1 (by have := hv.1; omega) ⟨fun _ => bad (by omega) M3 f.fi, fun q => absurd rfl q⟩
    · rw [e3] at h2; dsimp only at h2
      have f := f1.trans (f2.trans f3)
      have bad := h2 rfl M3 f.fi
      exact ⟨fun q => bad, fun z1 => ⟨fun q => bad, fun z2 => ⟨fun q => bad, fun _ => ⟨fun z3 => ⟨fun q => bad, fun z4 => absurd (by decide) z4⟩, fun q => bad⟩⟩⟩⟩
  · rw [e2] at h2; dsimp only at h2
    have bad := h2 rfl M3 (f1.trans (f2.trans f3)).fi
    exact ⟨fun q => bad, fun z1 => ⟨fun q => bad, fun z2 => ⟨fun q => bad, fun z3 => absurd (by decide) z3⟩⟩⟩
theorem c_readTable {M : Mem} {Q : Int32 → Mem → Prop} {tx : Nat → Int32} {ln p : Nat} {st : PT} (h : TC M tx ln p) (hs : PSc M st) (h1 : ∀ p' st', taP (hrF tx ln) p st = some (p', st') → ∀ M', TC M' tx ln p' → PSc M' st' → FI M M' → Q (nI 1) M') (h2 : taP (hrF tx ln) p st = none → ∀ M', FI M M' → Q (nI 0) M') : CM m_X5_readTable LF [.ref 1, .ref 3] M Q := by
  refine CMi pn_X5 rfl rfl rfl LF_nd (fun x X T => ?_)
  refine r_X5_readTable_0 X T ac_1 ac_3 ?_
  unfold taP at h1 h2
  refine c_readNumber h z44 (fun v1 q1 e1 M1 t1 f1 => ?_) (fun e1 M1 q1 t1 f1 => c_readAny t1 z59 (fun r M2 q2 t2 f2 => ⟨fun _ => h2 (by rw [e1]) M2 (f1.trans f2).fi, fun q => absurd (by decide) q⟩))
  rw [e1] at h1 h2; dsimp only at h1 h2
  have b1 := nuF_b z44 e1
  refine c_readNumber t1 z59 (fun v2 q2 e2 M2 t2 f2 => ?_) (fun e2 M2 q2 t2 f2 => ?_)
  · rw [e2] at h1 h2; dsimp only at h1 h2
    have b2 := nuF_b z59 e2
    have f := f1.trans f2
    have bad : ¬ ((3 ≤ v1 ∧ v1 ≤ 20) ∧ 1 ≤ v2) → ∀ M', FI M M' → Q (nI 0) M' := fun c => h2 (by rw [if_neg c])
    rw [nI_ltI (by omega) (by decide), nI_ltI (by decide) (by omega), nI_leI (by decide) (by omega)]
    refine ⟨fun q => bad (by omega) M2 f.fi, fun z1 => ⟨fun q => bad (by omega) M2 f.fi, fun z2 => ⟨fun z3 => ?_, fun q => bad (by omega) M2 f.fi⟩⟩⟩
    rw [if_pos (by omega)] at h1
    obtain ⟨p1, p2, p3, p4⟩ := PSc_m hs f
    refine c_setTable LF_nd ac_3 (h1 _ _ rfl _ ?_ ?_ (f.fi.trans ?_))
    · exact TC_i t2 (fun i hi => by rw [MU_ne (by omega), MU_ne (by omega)])
    · refine ⟨?_, ?_, ?_, fun k hk => ?_⟩
      · rw [MU_at, upd_ne (by decide), MU_at, upd_ne (by decide)]; exact p1
      · rw [MU_at, upd_ne (by decide), MU_at, upd_at]
      · rw [MU_at, upd_at]
      · rw [MU_ne (by decide), MU_ne (by decide), MU_ne (by decide), MU_ne (by decide), MU_ne (by decide), MU_ne (by decide)]; exact p4 k hk
    · exact ⟨fun i h1 h2 => by rw [MU_ne (by omega), MU_ne (by omega)], fun k hk => by rw [MU_ne (by decide), MU_ne (by decide)]⟩
  · rw [e2] at h2; dsimp only at h2
    have bad := h2 rfl M2 (f1.trans f2).fi
    exact ⟨fun q => bad, fun z1 => ⟨fun q => bad, fun z2 => ⟨fun q => absurd q (by decide), fun _ => bad⟩⟩⟩
theorem c_readItem {M : Mem} {Q : Int32 → Mem → Prop} {tx : Nat → Int32} {ln p : Nat} {st : PT} (h : TC M tx ln p) (hs : PSc M st) (hv : PV st) (h1 : ∀ p' st', itF (hrF tx ln) p st = some (p', st') → ∀ M', TC M' tx ln p' → PSc M' st' → FI M M' → Q (nI 1) M') (h2 : itF (hrF tx ln) p st = none → ∀ M', FI M M' → Q (nI 0) M') : CM m_X5_readItem LF [.ref 1, .ref 3] M Q := by
  refine CMi pn_X5 rfl rfl rfl LF_nd (fun x X T => ?_)
  refine r_X5_readItem_0 X T ac_1 ?_
  unfold itF at h1 h2
  refine c_takes h (by decide) (fun c1 M1 t1 f1 => ⟨fun q => absurd q (by decide), fun _ => ?_⟩) (fun c1 => ⟨fun _ => ?_, fun q => absurd rfl q⟩)
  · rw [if_pos c1] at h1 h2
    exact c_readFile t1 (PSc_m hs f1) hv (fun p' st' e M' t' s' f' => ⟨Or.inr rfl, h1 p' st' e M' t' s' (f1.fi.trans f')⟩) (fun e M' f' => ⟨Or.inl rfl, h2 e M' (f1.fi.trans f')⟩)
  · rw [if_neg c1] at h1 h2
    refine c_takes h (by decide) (fun c2 M1 t1 f1 => ⟨fun q => absurd q (by decide), fun _ => ?_⟩) (fun c2 => ⟨fun _ => ?_, fun q => absurd rfl q⟩)
    · rw [if_pos c2] at h1 h2
      exact c_readTable t1 (PSc_m hs f1) (fun p' st' e M' t' s' f' => ⟨fun q => absurd q (by decide), fun _ => h1 p' st' e M' t' s' (f1.fi.trans f')⟩) (fun e M' f' => ⟨fun _ => h2 e M' (f1.fi.trans f'), fun q => absurd rfl q⟩)
    · rw [if_neg c2] at h2
      exact h2 rfl M (FI.refl M)
abbrev st0 : PT := (0, 6, 20, fun _ => (0, 0, 0))
theorem pv0 : PV st0 := ⟨by decide, by decide, by decide, fun k hk => absurd hk (by simp)⟩
theorem nI_n4 {p : Nat} (hp : p < 2 ^ 30) : ¬ nI p = -4 := fun q => by
  have := congrArg Int32.toInt q
  rw [nI_toInt (by omega), show (-4 : Int32).toInt = -4 from by decide] at this; omega
theorem c_firstFault {M : Mem} {Q : Int32 → Mem → Prop} {tx : Nat → Int32} {ln : Nat} (hl : M 1 1 = nI ln) (hl2 : ln ≤ 200) (htx : ∀ j, j < ln → M 2 j = tx j) (h : ∀ M', FI M M' → ((ftF (hrF tx ln) ln 200 0 st0).1 = -4 → PSc M' (ftF (hrF tx ln) ln 200 0 st0).2) → Q (ftF (hrF tx ln) ln 200 0 st0).1 M') : CM m_X5_firstFault LF [.ref 1, .ref 3] M Q := by
  refine CMi pn_X5 rfl rfl rfl LF_nd (fun x X T => ?_)
  refine r_X5_firstFault_0 X T ac_3 ac_1 (c_clear LF_nd ac_3 ?_)
  have key : ∀ c k p st, ∀ M2 : Mem, TC M2 tx ln p → PSc M2 st → PV st → FI M M2 → k ≤ p → ln ≤ p + c → ftF (hrF tx ln) ln c p st = ftF (hrF tx ln) ln 200 0 st0 → WP x LF 11 [some (.ref 1), some (.ref 3), some (.int (nI k)), none] [] M2 := by
    intro c
    induction c with
    | zero =>
      intro k p st M2 t s v f hk hc e
      rw [ftF] at e
      have hq := h M2 f (fun _ => by rw [← e]; exact s)
      rw [← e] at hq
      have tp := t.2.2.1
      exact r_X5_firstFault_11 X T ac_1 ⟨by omega, fun _ => hq, fun _ => ⟨p, t.2.1, ln, t.1, by omega, by omega, fun _ => hq, fun q => absurd q (by omega)⟩⟩
    | succ c ih =>
      intro k p st M2 t s v f hk hc e
      rw [ftF] at e
      have tp := t.2.2.1
      by_cases cl : ln ≤ p
      · rw [if_pos cl] at e
        have hq := h M2 f (fun _ => by rw [← e]; exact s)
        rw [← e] at hq
        exact r_X5_firstFault_11 X T ac_1 ⟨by omega, fun _ => hq, fun _ => ⟨p, t.2.1, ln, t.1, by omega, by omega, fun _ => hq, fun q => absurd q (by omega)⟩⟩
      · rw [if_neg cl] at e
        refine r_X5_firstFault_11 X T ac_1 ⟨by omega, fun q => absurd q (by omega), fun _ => ⟨p, t.2.1, ln, t.1, by omega, by omega, fun q => absurd q (by omega), fun _ => ⟨p, t.2.1, ?_⟩⟩⟩
        refine c_readItem t s v (fun p' st' ei M3 t3 s3 f3 => ⟨fun _ => ?_, fun q => absurd q (by decide)⟩) (fun ei M3 f3 => ⟨fun q => absurd rfl q, fun _ => ?_⟩)
        · rw [ei] at e; dsimp only at e
          have b := itF_b ei v
          exact ih (k + 1) p' st' M3 t3 s3 b.2.2 (f.trans f3) (by omega) (by omega) e
        · rw [ei] at e; dsimp only at e
          have hq := h M3 (f.trans f3) (fun q => by rw [← e] at q; exact absurd q (nI_n4 (by omega)))
          rw [← e] at hq
          exact hq
  refine key 200 0 0 st0 _ ⟨?_, ?_, by omega, hl2, fun j hj => ?_⟩ ⟨?_, ?_, ?_, fun k hk => absurd hk (by simp)⟩ pv0 ⟨fun i h1 h2 => ?_, fun k hk => ?_⟩ (by omega) (by omega) rfl
  · rw [MU_at, upd_ne (by decide), MU_ne (by decide), MU_ne (by decide), MU_ne (by decide)]; exact hl
  · rw [MU_at, upd_at]
  · rw [MU_ne (by decide), MU_ne (by decide), MU_ne (by decide), MU_ne (by decide)]; exact htx j hj
  · rw [MU_ne (by decide), MU_at, upd_ne (by decide), MU_at, upd_ne (by decide), MU_at, upd_at]
  · rw [MU_ne (by decide), MU_at, upd_ne (by decide), MU_at, upd_at]
  · rw [MU_ne (by decide), MU_at, upd_at]
  · rw [MU_ne h1, MU_ne (by omega), MU_ne (by omega), MU_ne (by omega)]
  · rw [MU_at, upd_ne hk, MU_ne (by decide), MU_ne (by decide), MU_ne (by decide)]
