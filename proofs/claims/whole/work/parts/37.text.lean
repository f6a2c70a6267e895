/-! the text, read -/
def hrF (tx : Nat → Int32) (ln p : Nat) : Int32 := if p < ln then tx p else nI 0
abbrev isD (a : Int32) : Prop := nI 48 ≤ a ∧ a ≤ nI 57
def dvN (a : Int32) : Nat := (a.toInt - 48).toNat
theorem dv_sub {a : Int32} (h : isD a) : a - nI 48 = nI (dvN a) ∧ dvN a ≤ 9 ∧ a = nI (dvN a + 48) := by
  obtain ⟨h1, h2⟩ := h
  rw [Int32.le_iff_toInt_le, nI_toInt (by decide)] at h1 h2
  have e : a = nI (dvN a + 48) := by
    apply Int32.toInt_inj.mp
    unfold dvN
    rw [nI_toInt (by omega)]; omega
  refine ⟨?_, by unfold dvN; omega, e⟩
  have hb : dvN a ≤ 9 := by unfold dvN; omega
  generalize dvN a = z at *
  rw [e, pk_sub (by omega)]; congr 1
theorem not_D0 : ¬ isD (nI 0) := by decide
theorem hr_lt {tx : Nat → Int32} {ln p : Nat} (h : ¬ hrF tx ln p = nI 0) : p < ln := by
  by_cases c : p < ln
  · exact c
  · exact absurd (by unfold hrF; rw [if_neg c]) h
theorem hr_D {tx : Nat → Int32} {ln p : Nat} (h : isD (hrF tx ln p)) : p < ln := hr_lt (fun q => not_D0 (by rw [← q]; exact h))
theorem hr_in {tx : Nat → Int32} {ln p : Nat} (h : p < ln) : hrF tx ln p = tx p := by unfold hrF; rw [if_pos h]
def nuE (hr : Nat → Int32) (sg : Int32) (v q : Nat) : Option (Nat × Nat) := if hr q = sg then some (v, q + 1) else none
def nuF (hr : Nat → Int32) (sg : Int32) (p : Nat) : Option (Nat × Nat) := if isD (hr p) then (if isD (hr (p + 1)) then nuE hr sg (dvN (hr p) * 10 + dvN (hr (p + 1))) (p + 2) else nuE hr sg (dvN (hr p)) (p + 1)) else none
theorem nuF_b {tx : Nat → Int32} {ln p v q : Nat} {sg : Int32} (hs : ¬ sg = nI 0) (h : nuF (hrF tx ln) sg p = some (v, q)) : v ≤ 99 ∧ p < q ∧ q ≤ ln := by
  unfold nuF at h
  by_cases c1 : isD (hrF tx ln p)
  · rw [if_pos c1] at h
    have d1 := (dv_sub c1).2.1
    by_cases c2 : isD (hrF tx ln (p + 1))
    · have d2 := (dv_sub c2).2.1
      rw [if_pos c2] at h
      unfold nuE at h
      by_cases c3 : hrF tx ln (p + 2) = sg
      · rw [if_pos c3] at h
        have := hr_lt (tx := tx) (ln := ln) (p := p + 2) (by rw [c3]; exact hs)
        simp only [Option.some.injEq, Prod.mk.injEq] at h
        omega
      · rw [if_neg c3] at h; simp at h
    · rw [if_neg c2] at h
      unfold nuE at h
      by_cases c3 : hrF tx ln (p + 1) = sg
      · rw [if_pos c3] at h
        have := hr_lt (tx := tx) (ln := ln) (p := p + 1) (by rw [c3]; exact hs)
        simp only [Option.some.injEq, Prod.mk.injEq] at h
        omega
      · rw [if_neg c3] at h; simp at h
  · rw [if_neg c1] at h; simp at h
/-- the class at place p of the text; the reference at place p of it -/
def TC (M : Mem) (tx : Nat → Int32) (ln p : Nat) : Prop := M 1 1 = nI ln ∧ M 1 2 = nI p ∧ p ≤ ln ∧ ln ≤ 200 ∧ ∀ j, j < ln → M 2 j = tx j
def TM (M : Mem) (tx : Nat → Int32) (ln p : Nat) : Prop := M 139 3 = nI ln ∧ M 139 5 = nI p ∧ p ≤ 500 ∧ ln ≤ 200 ∧ ∀ j, j < ln → M 141 j = tx j
def FC (M M' : Mem) : Prop := (∀ i, i ≠ 1 → M' i = M i) ∧ ∀ k, k ≠ 2 → M' 1 k = M 1 k
def FM (M M' : Mem) : Prop := (∀ i, i ≠ 139 → M' i = M i) ∧ ∀ k, k ≠ 5 → k ≠ 6 → M' 139 k = M 139 k
theorem FC.refl (M : Mem) : FC M M := ⟨fun _ _ => rfl, fun _ _ => rfl⟩
theorem FM.refl (M : Mem) : FM M M := ⟨fun _ _ => rfl, fun _ _ _ => rfl⟩
theorem FC.trans {M M1 M2 : Mem} (a : FC M M1) (b : FC M1 M2) : FC M M2 := ⟨fun i h => (b.1 i h).trans (a.1 i h), fun k h => (b.2 k h).trans (a.2 k h)⟩
theorem FM.trans {M M1 M2 : Mem} (a : FM M M1) (b : FM M1 M2) : FM M M2 := ⟨fun i h => (b.1 i h).trans (a.1 i h), fun k h h2 => (b.2 k h h2).trans (a.2 k h h2)⟩
theorem TC_at {M : Mem} {tx : Nat → Int32} {ln p q : Nat} (h : TC M tx ln p) (hq : q ≤ ln) : TC (MU M 1 2 (nI q)) tx ln q ∧ FC M (MU M 1 2 (nI q)) := by
  obtain ⟨a, b, c, d, e⟩ := h
  refine ⟨⟨?_, ?_, hq, d, fun j hj => ?_⟩, fun i hi => ?_, fun k hk => ?_⟩
  · rw [MU_at, upd_ne (by decide)]; exact a
  · rw [MU_at, upd_at]
  · rw [MU_ne (by decide)]; exact e j hj
  · rw [MU_ne hi]
  · rw [MU_at, upd_ne hk]
theorem c_takes {M : Mem} {Q : Int32 → Mem → Prop} {tx : Nat → Int32} {ln p : Nat} {sg : Int32} (h : TC M tx ln p) (hs : ¬ sg = nI 0) (h1 : hrF tx ln p = sg → ∀ M', TC M' tx ln (p + 1) → FC M M' → Q (nI 1) M') (h2 : ¬ hrF tx ln p = sg → Q (nI 0) M) : CM m_X5_takes LF [.ref 1, .int sg] M Q := by
  have h' := h
  obtain ⟨a, b, c, d, e⟩ := h
  refine CMi pn_X5 rfl rfl rfl LF_nd (fun x X T => ?_)
  refine r_X5_takes_0 X T ac_1 ac_2 ⟨p, b, fun q => absurd q (nI_pos (by omega)), fun _ => ⟨p, b, ln, a, by omega, by omega, fun q => h2 (fun z => ?_), fun q => ⟨p, b, by omega, fun z => ⟨p, b, ?_⟩, fun z => h2 (fun z2 => z ?_)⟩⟩⟩
  · have := hr_lt (tx := tx) (ln := ln) (p := p) (by rw [z]; exact hs); omega
  · obtain ⟨t1, t2⟩ := TC_at h' (q := p + 1) (by omega)
    exact h1 (by rw [hr_in q, ← e p q]; exact z) _ t1 t2
  · rw [e p q, ← hr_in (tx := tx) q]; exact z2
theorem c_readFigure {M : Mem} {Q : Int32 → Mem → Prop} {tx : Nat → Int32} {ln p : Nat} (h : TC M tx ln p) (h1 : isD (hrF tx ln p) → ∀ M', TC M' tx ln (p + 1) → FC M M' → Q (nI (dvN (hrF tx ln p))) M') (h2 : ¬ isD (hrF tx ln p) → Q (-1) M) : CM m_X5_readFigure LF [.ref 1] M Q := by
  have h' := h
  obtain ⟨a, b, c, d, e⟩ := h
  refine CMi pn_X5 rfl rfl rfl LF_nd (fun x X T => ?_)
  refine r_X5_readFigure_0 X T ac_1 ac_2 ⟨p, b, fun q => absurd q (nI_pos (by omega)), fun _ => ⟨p, b, ln, a, by omega, by omega, fun q => h2 (fun z => ?_), fun q => ⟨p, b, by omega, fun z => h2 (fun z2 => ?_), fun z => ⟨p, b, by omega, fun z3 => ⟨p, b, by omega, p, b, ?_⟩, fun z3 => h2 (fun z2 => ?_)⟩⟩⟩⟩
  · have := hr_D z; omega
  · rw [hr_in q, ← e p q] at z2; exact absurd z (Int32.not_lt.mpr z2.1)
  · have hd : isD (hrF tx ln p) := by rw [hr_in q, ← e p q]; exact ⟨Int32.not_lt.mp z, z3⟩
    obtain ⟨t1, t2⟩ := TC_at h' (q := p + 1) (by omega)
    have := h1 hd _ t1 t2
    rw [← (dv_sub hd).1, hr_in q, ← e p q] at this
    exact this
  · rw [hr_in q, ← e p q] at z2; exact z3 z2.2
theorem c_readNumber {M : Mem} {Q : Int32 → Mem → Prop} {tx : Nat → Int32} {ln p : Nat} {sg : Int32} (h : TC M tx ln p) (hs : ¬ sg = nI 0) (h1 : ∀ v q, nuF (hrF tx ln) sg p = some (v, q) → ∀ M', TC M' tx ln q → FC M M' → Q (nI v) M') (h2 : nuF (hrF tx ln) sg p = none → ∀ M' q, TC M' tx ln q → FC M M' → Q (-1) M') : CM m_X5_readNumber LF [.ref 1, .int sg] M Q := by
  have n1 : ∀ z : Nat, z ≤ 1000 → ¬ nI z = (-1 : Int32) := fun z hz q => by
    have := congrArg Int32.toInt q
    rw [nI_toInt (by omega), show (-1 : Int32).toInt = -1 from by decide] at this; omega
  refine CMi pn_X5 rfl rfl rfl LF_nd (fun x X T => ?_)
  refine r_X5_readNumber_0 X T ac_1 (c_readFigure h (fun d1 M1 t1 f1 => ⟨fun _ => ?_, fun q => absurd q (n1 _ (by have := (dv_sub d1).2.1; omega))⟩) (fun d1 => ⟨fun q => absurd rfl q, fun _ => h2 (by unfold nuF; rw [if_neg d1]) M p h (FC.refl M)⟩))
  refine c_readFigure t1 (fun d2 M2 t2 f2 => ⟨fun q => absurd q (n1 _ (by have := (dv_sub d2).2.1; omega)), fun _ => ?_⟩) (fun d2 => ⟨fun _ => ?_, fun q => absurd rfl q⟩)
  · have b1 := (dv_sub d1).2.1
    have b2 := (dv_sub d2).2.1
    rw [pk_mul, nI_add]
    refine c_takes t2 hs (fun z M3 t3 f3 => ⟨fun q => absurd q (by decide), fun _ => h1 _ _ ?_ M3 t3 (f1.trans (f2.trans f3))⟩) (fun z => ⟨fun _ => h2 ?_ M2 _ t2 (f1.trans f2), fun q => absurd rfl q⟩)
    · unfold nuF nuE; rw [if_pos d1, if_pos d2, if_pos z]
    · unfold nuF nuE; rw [if_pos d1, if_pos d2, if_neg z]
  · refine c_takes t1 hs (fun z M3 t3 f3 => ⟨fun q => absurd q (by decide), fun _ => h1 _ _ ?_ M3 t3 (f1.trans f3)⟩) (fun z => ⟨fun _ => h2 ?_ M1 _ t1 f1, fun q => absurd rfl q⟩)
    · unfold nuF nuE; rw [if_pos d1, if_neg d2, if_pos z]
    · unfold nuF nuE; rw [if_pos d1, if_neg d2, if_neg z]
theorem c_here {M : Mem} {Q : Int32 → Mem → Prop} {tx : Nat → Int32} {ln p : Nat} (h : TM M tx ln p) (hq : Q (hrF tx ln p) M) : CM m_X8_here LF [.ref 139] M Q := by
  obtain ⟨a, b, c, d, e⟩ := h
  refine CMi pn_X8 rfl rfl rfl LF_nd (fun x X T => ?_)
  refine r_X8_here_0 X T ac_139 ac_141 ⟨p, b, ln, a, by omega, by omega, fun q => ?_, fun q => ⟨p, b, by omega, ?_⟩⟩
  · unfold hrF at hq; rw [if_neg (by omega)] at hq; exact hq
  · rw [hr_in q, ← e p q] at hq; exact hq
theorem TM_at {M M1 : Mem} {tx : Nat → Int32} {ln p q : Nat} (h : TM M tx ln p) (f : FM M M1) (h5 : M1 139 5 = nI q) (hq : q ≤ 500) : TM M1 tx ln q := by
  obtain ⟨a, b, c, d, e⟩ := h
  exact ⟨by rw [f.2 3 (by decide) (by decide)]; exact a, h5, hq, d, fun j hj => by rw [f.1 141 (by decide)]; exact e j hj⟩
theorem FM_5 (M : Mem) (a : Int32) : FM M (MU M 139 5 a) := ⟨fun i hi => by rw [MU_ne hi], fun k hk _ => by rw [MU_at, upd_ne hk]⟩
theorem FM_6 (M : Mem) (a : Int32) : FM M (MU M 139 6 a) := ⟨fun i hi => by rw [MU_ne hi], fun k _ hk => by rw [MU_at, upd_ne hk]⟩
theorem c_passes {M : Mem} {Q : Int32 → Mem → Prop} {tx : Nat → Int32} {ln p lo hi : Nat} {sg : Int32} (h : TM M tx ln p) (hp : p ≤ 400) (hs : ¬ sg = nI 0) (hlo : lo < 1000) (hhi : hi < 1000) (h1 : ∀ v q, nuF (hrF tx ln) sg p = some (v, q) → lo ≤ v → v ≤ hi → ∀ M', TM M' tx ln q → M' 139 6 = nI v → FM M M' → Q (nI 1) M') (h2 : (∀ v q, nuF (hrF tx ln) sg p = some (v, q) → v < lo ∨ hi < v) → ∀ M', FM M M' → Q (nI 0) M') : CM m_X8_passes LF [.ref 139, .int (nI lo), .int (nI hi), .int sg] M Q := by
  refine CMi pn_X8 rfl rfl rfl LF_nd (fun x X T => ?_)
  refine r_X8_passes_0 X T ac_139 ?_
  -- the end: k figures stood there, their value v, place q
  have fin : ∀ (M1 : Mem) (v q : Nat), TM M1 tx ln q → q ≤ 450 → M1 139 6 = nI v → v < 1000 → FM M M1 → nuF (hrF tx ln) sg p = nuE (hrF tx ln) sg v q → CM m_X8_within LF [.int (M1 139 6), .int (nI lo), .int (nI hi)] M1 (fun r8 M7 => (r8 = 0 → ∃ v9 : Nat, M7 139 5 = nI v9 ∧ Q (nI 0) (MU M7 139 5 (nI (v9 + 1)))) ∧ (¬ r8 = 0 → CM m_X8_here LF [.ref 139] M7 (fun r12 M11 => (¬ r12 = sg → ∃ v13 : Nat, M11 139 5 = nI v13 ∧ Q (nI 0) (MU M11 139 5 (nI (v13 + 1)))) ∧ (r12 = sg → ∃ v15 : Nat, M11 139 5 = nI v15 ∧ Q (nI 1) (MU M11 139 5 (nI (v15 + 1))))))) := by
    intro M1 v q t1 hq e6 hv f1 hnu
    unfold nuE at hnu
    rw [e6]
    by_cases c : lo ≤ v ∧ v ≤ hi
    · refine c_within_y LF_nd c.1 c.2 (by omega) ⟨fun z => absurd z (by decide), fun _ => c_here t1 ⟨fun z => ⟨q, t1.2.1, h2 (fun v' q' h' => ?_) _ (f1.trans (FM_5 _ _))⟩, fun z => ⟨q, t1.2.1, h1 v (q + 1) ?_ c.1 c.2 _ ?_ ?_ (f1.trans (FM_5 _ _))⟩⟩⟩
      · rw [if_neg z] at hnu; rw [hnu] at h'; simp at h'
      · rw [hnu, if_pos z]
      · exact TM_at t1 (FM_5 _ _) (by rw [MU_at, upd_at]) (by omega)
      · rw [MU_at, upd_ne (by decide)]; exact e6
    · refine c_within_n LF_nd (by rw [nI_toInt (by omega)]; omega) (by omega) (by omega) ⟨fun _ => ⟨q, t1.2.1, h2 (fun v' q' h' => ?_) _ (f1.trans (FM_5 _ _))⟩, fun z => absurd rfl z⟩
      rw [hnu] at h'
      by_cases z : hrF tx ln q = sg
      · rw [if_pos z] at h'
        simp only [Option.some.injEq, Prod.mk.injEq] at h'
        omega
      · rw [if_neg z] at h'; simp at h'
  have t0 : TM (MU M 139 6 (nI 0)) tx ln p := TM_at h (FM_6 _ _) (by rw [MU_at, upd_ne (by decide)]; exact h.2.1) (by omega)
  have f0 : FM M (MU M 139 6 (nI 0)) := FM_6 _ _
  have e0 : (MU M 139 6 (nI 0)) 139 6 = nI 0 := by rw [MU_at, upd_at]
  generalize MU M 139 6 (nI 0) = M0 at *
  have figs : ∀ (M1 : Mem) (v q : Nat) (a : Int32), isD a → v < 100 → M1 139 6 = nI v → TM M1 tx ln q → q ≤ 450 → FM M M1 → ∃ M2, M2 = MU (MU M1 139 6 ((nI 10 * M1 139 6 + a) - nI 48)) 139 5 (nI (q + 1)) ∧ TM M2 tx ln (q + 1) ∧ M2 139 6 = nI (v * 10 + dvN a) ∧ FM M M2 := by
    intro M1 v q a ha hv e6 t1 hq f1
    refine ⟨_, rfl, ?_, ?_, f1.trans ((FM_6 _ _).trans (FM_5 _ _))⟩
    · exact TM_at t1 ((FM_6 _ _).trans (FM_5 _ _)) (by rw [MU_at, upd_at]) (by omega)
    · have ed := (dv_sub ha).2.2
      rw [MU_at, upd_ne (by decide), MU_at, upd_at, e6, pk_mul]
      generalize dvN a = z at *
      rw [ed, nI_add, pk_sub (by omega)]
      congr 1; omega
  refine r_X8_passes_8 X T ac_139 (c_here t0 (c_within LF_nd ?_))
  by_cases d1 : isD (hrF tx ln p)
  · have b1 := (dv_sub d1).2.1
    rw [if_pos d1]
    refine ⟨fun q => absurd q (by decide), fun _ => ⟨by omega, fun q => absurd q (by omega), fun _ => c_here t0 ⟨p, ?_, ?_⟩⟩⟩
    · rw [MU_at, upd_ne (by decide)]; exact t0.2.1
    · obtain ⟨M1, e1, t1, e6, f1⟩ := figs M0 0 p _ d1 (by omega) e0 t0 (by omega) f0
      rw [← e1]
      rw [Nat.zero_mul, Nat.zero_add] at e6
      refine r_X8_passes_8 X T ac_139 (c_here t1 (c_within LF_nd ?_))
      by_cases d2 : isD (hrF tx ln (p + 1))
      · have b2 := (dv_sub d2).2.1
        rw [if_pos d2]
        refine ⟨fun q => absurd q (by decide), fun _ => ⟨by omega, fun q => absurd q (by omega), fun _ => c_here t1 ⟨p + 1, ?_, ?_⟩⟩⟩
        · rw [MU_at, upd_ne (by decide)]; exact t1.2.1
        · obtain ⟨M2, e2, t2, e6', f2⟩ := figs M1 _ (p + 1) _ d2 (by omega) e6 t1 (by omega) f1
          rw [← e2]
          have hf2 := fin M2 _ _ t2 (by omega) e6' (by omega) f2 (by unfold nuF; rw [if_pos d1, if_pos d2])
          refine r_X8_passes_8 X T ac_139 (c_here t2 (c_within LF_nd ?_))
          by_cases d3 : isD (hrF tx ln (p + 1 + 1))
          · rw [if_pos d3]
            exact ⟨fun q => absurd q (by decide), fun _ => ⟨by omega, fun _ => ⟨by omega, fun q => absurd q (by omega), fun _ => hf2⟩, fun q => absurd q (by omega)⟩⟩
          · rw [if_neg d3]
            exact ⟨fun _ => ⟨by omega, fun q => absurd q (by omega), fun _ => hf2⟩, fun q => absurd rfl q⟩
      · rw [if_neg d2]
        have hf1 := fin M1 _ _ t1 (by omega) e6 (by omega) f1 (by unfold nuF; rw [if_pos d1, if_neg d2])
        exact ⟨fun _ => ⟨by omega, fun q => absurd q (by omega), fun _ => hf1⟩, fun q => absurd rfl q⟩
  · rw [if_neg d1]
    refine ⟨fun _ => ⟨by omega, fun _ => ⟨p, t0.2.1, h2 (fun v' q' h' => ?_) _ (f0.trans (FM_5 _ _))⟩, fun q => absurd q (by omega)⟩, fun q => absurd rfl q⟩
    unfold nuF at h'; rw [if_neg d1] at h'; simp at h'
