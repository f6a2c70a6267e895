/-! floats: those that a part or a mean can be -/
def fF (E T : Nat) : UInt32 := UInt32.ofNat (E * 8388608 + T)
theorem b_tails : FP.Core.b32.tails = 8388608 := by decide
theorem b_exps : FP.Core.b32.exps = 256 := by decide
theorem b_qmin : FP.Core.b32.qmin = -149 := by decide
theorem b_qmax : FP.Core.b32.qmax = 104 := by decide
theorem fF_nat {E T : Nat} (hE : E ≤ 254) (hT : T < 8388608) : (fF E T).toNat = E * 8388608 + T := by
  unfold fF
  rw [UInt32.toNat_ofNat']
  exact Nat.mod_eq_of_lt (by omega)
theorem dec_n {E T : Nat} (h1 : 1 ≤ E) (hE : E ≤ 254) (hT : T < 8388608) : FP.Core.decode FP.Core.b32 (E * 8388608 + T) = .fin false (8388608 + T) ((E : Int) - 150) := by
  have e1 : FP.Core.fieldE FP.Core.b32 (E * 8388608 + T) = E := by unfold FP.Core.fieldE; rw [b_tails, b_exps]; omega
  have e2 : FP.Core.fieldT FP.Core.b32 (E * 8388608 + T) = T := by unfold FP.Core.fieldT; rw [b_tails]; omega
  have e3 : FP.Core.fieldS FP.Core.b32 (E * 8388608 + T) = false := by
    unfold FP.Core.fieldS; rw [b_tails, b_exps, show (E * 8388608 + T) / 8388608 / 256 % 2 = 0 by omega]; rfl
  unfold FP.Core.decode
  rw [e1, e2, e3, b_exps, b_tails, b_qmin, if_neg (by omega), if_neg (by omega)]
  congr 1; omega
theorem dec_0 : FP.Core.decode FP.Core.b32 0 = .fin false 0 (-149) := by decide
theorem enc_n {c : Nat} {q : Int} {E : Nat} (h1 : 8388608 ≤ c) (hq : q = (E : Int) - 150) (hE : 1 ≤ E) : FP.Core.encode FP.Core.b32 (.fin false c q) = E * 8388608 + (c - 8388608) := by
  unfold FP.Core.encode FP.Core.assemble
  dsimp only
  rw [b_tails, if_neg (by omega), b_exps, b_qmin, show (q - -149).toNat + 1 = E by omega]
  simp
theorem enc_0 : FP.Core.encode FP.Core.b32 (.fin false 0 (-149)) = 0 := by decide
theorem uN {num : Nat} {e q : Int} {k : Nat} (h : e - q = (k : Int)) : FP.Core.unitsNum num e q = num * 2 ^ k := by
  unfold FP.Core.unitsNum; rw [h, Int.toNat_natCast]
theorem uN0 {num : Nat} {e q : Int} (h : e - q ≤ 0) : FP.Core.unitsNum num e q = num := by
  unfold FP.Core.unitsNum; rw [Int.toNat_of_nonpos h, Nat.pow_zero, Nat.mul_one]
theorem uD {den : Nat} {e q : Int} {k : Nat} (h : q - e = (k : Int)) : FP.Core.unitsDen den e q = den * 2 ^ k := by
  unfold FP.Core.unitsDen; rw [h, Int.toNat_natCast]
theorem uD0 {den : Nat} {e q : Int} (h : q - e ≤ 0) : FP.Core.unitsDen den e q = den := by
  unfold FP.Core.unitsDen; rw [Int.toNat_of_nonpos h, Nat.pow_zero, Nat.mul_one]
theorem near_mul (c d : Nat) (hd : 0 < d) : FP.Core.nearest (c * d) d = c := by
  unfold FP.Core.nearest
  rw [Nat.mul_mod_left, if_pos (by omega), Nat.mul_div_cancel _ hd]
theorem near_1 (c : Nat) : FP.Core.nearest c 1 = c := by
  have := near_mul c 1 (by decide)
  rwa [Nat.mul_one] at this
theorem rnd_of {num den c : Nat} {e q : Int} (h0 : num ≠ 0) (hq : FP.Core.quantum FP.Core.b32 num den e = q) (hn : FP.Core.nearest (FP.Core.unitsNum num e q) (FP.Core.unitsDen den e q) = c) (hc2 : c < 16777216) (hqm : q ≤ 104) : FP.Core.roundRatio FP.Core.b32 false num den e = .fin false c q := by
  unfold FP.Core.roundRatio FP.Core.roundAt FP.Core.settle FP.Core.bound
  rw [if_neg h0, hq, hn, if_pos (show c < 2 ^ FP.Core.b32.p from hc2), b_qmax, if_pos hqm]
theorem lead_1 {num l : Nat} (h1 : 2 ^ l ≤ num) (h2 : num < 2 ^ (l + 1)) : FP.Core.leading num 1 = (l : Int) := by
  have h0 : num ≠ 0 := by have := Nat.two_pow_pos l; omega
  have e1 : num.log2 = l := (Nat.log2_eq_iff h0).mpr ⟨h1, h2⟩
  unfold FP.Core.leading
  rw [e1, show (1 : Nat).log2 = 0 by decide]
  dsimp only
  rw [show ((l : Int) - ((0 : Nat) : Int)) = (l : Int) by omega, Int.toNat_natCast, show (-(l : Int)).toNat = 0 by omega, if_pos (by omega)]
theorem quan {num den : Nat} {e k q : Int} (hl : FP.Core.leading num den = k) (hq : q = k + e - 23) (h2 : -149 ≤ q) : FP.Core.quantum FP.Core.b32 num den e = q := by
  unfold FP.Core.quantum
  rw [hl, b_qmin, show ((FP.Core.b32.p : Nat) : Int) - 1 = 23 by decide]
  omega
theorem lead_n {c d : Nat} (hc : 8388608 ≤ c) (hc2 : c < 16777216) (hd : 8388608 ≤ d) (hd2 : d < 16777216) : FP.Core.leading c d = if d ≤ c then 0 else -1 := by
  have e1 : c.log2 = 23 := (Nat.log2_eq_iff (by omega)).mpr ⟨hc, hc2⟩
  have e2 : d.log2 = 23 := (Nat.log2_eq_iff (by omega)).mpr ⟨hd, hd2⟩
  unfold FP.Core.leading
  rw [e1, e2]
  dsimp only
  rw [show (((23 : Nat) : Int) - ((23 : Nat) : Int)) = 0 by decide]
  simp
theorem c2_nat : FP.fconst2.toNat = 128 * 8388608 + 0 := by decide
theorem c1_nat : FP.fconst1.toNat = 127 * 8388608 + 0 := by decide
theorem c0_nat : FP.fconst0.toNat = 0 := by decide
theorem c8_nat : (1258291200 : UInt32).toNat = 150 * 8388608 + 0 := by decide
theorem quo {f : FP.Core.Fmt} {s t : Bool} {c d : Nat} {q r : Int} (hd : d ≠ 0) : FP.Core.quotient f (.fin s c q) (.fin t d r) = FP.Core.roundRatio f (s != t) c d (q - r) := by
  simp only [FP.Core.quotient, if_neg hd]
theorem f_half {E T : Nat} (h1 : 2 ≤ E) (hE : E ≤ 254) (hT : T < 8388608) : FP.fdiv (fF E T) FP.fconst2 = fF (E - 1) T := by
  show FP.Core.fdiv _ _ = _
  unfold FP.Core.fdiv FP.Core.div fF
  rw [show (UInt32.ofNat (E * 8388608 + T)).toNat = E * 8388608 + T from fF_nat hE hT, c2_nat, dec_n (by omega) hE hT, dec_n (by decide) (by decide) (by decide)]
  congr 1
  rw [quo (by decide)]
  have hl := lead_n (c := 8388608 + T) (d := 8388608 + 0) (by omega) (by omega) (by omega) (by omega)
  rw [if_pos (by omega)] at hl
  rw [show (false != false) = false from rfl, rnd_of (c := 8388608 + T) (q := (E : Int) - 151) (by omega) (quan hl (by omega) (by omega)) ?_ (by omega) (by omega), enc_n (E := E - 1) (by omega) (by omega) (by omega)]
  · omega
  · rw [uN (k := 23) (by omega), uD0 (by omega)]
    exact near_mul _ _ (by decide)
theorem log_mul {c : Nat} (hc : 8388608 ≤ c) (hc2 : c < 16777216) : 2 ^ 46 ≤ c * 8388608 ∧ c * 8388608 < 2 ^ (46 + 1) := by
  constructor <;> omega
theorem f_times {E T F : Nat} (h1 : 1 ≤ E) (hE : E ≤ 254) (hT : T < 8388608) (hF : 1 ≤ F) (hF2 : F ≤ 254) (hs : 128 ≤ E + F) (hs2 : E + F ≤ 381) : FP.fmul (fF E T) (fF F 0) = fF (E + F - 127) T := by
  show FP.Core.fmul _ _ = _
  unfold FP.Core.fmul FP.Core.mul fF
  rw [show (UInt32.ofNat (E * 8388608 + T)).toNat = E * 8388608 + T from fF_nat hE hT, show (UInt32.ofNat (F * 8388608 + 0)).toNat = F * 8388608 + 0 from fF_nat hF2 (by decide), dec_n (by omega) hE hT, dec_n hF hF2 (by decide)]
  congr 1
  show FP.Core.encode FP.Core.b32 (FP.Core.roundRatio FP.Core.b32 (false != false) ((8388608 + T) * (8388608 + 0)) 1 (((E : Int) - 150) + ((F : Int) - 150))) = _
  rw [show (false != false) = false from rfl, Nat.add_zero 8388608]
  obtain ⟨b1, b2⟩ := log_mul (c := 8388608 + T) (by omega) (by omega)
  rw [rnd_of (c := 8388608 + T) (q := (E : Int) + F - 277) (by omega) (quan (lead_1 b1 b2) (by omega) (by omega)) ?_ (by omega) (by omega), enc_n (E := E + F - 127) (by omega) (by omega) (by omega)]
  · omega
  · rw [uN0 (by omega), uD (k := 23) (by omega), Nat.one_mul]
    exact near_mul _ _ (by decide)
theorem fc2 : FP.fconst2 = fF 128 0 := by decide
theorem fc1 : FP.fconst1 = fF 127 0 := by decide
theorem fc8 : (1258291200 : UInt32) = fF 150 0 := by decide
theorem fc0 : FP.fconst0 = 0 := by decide
theorem f_cmp {E T F : Nat} (h1 : 1 ≤ E) (hE : E ≤ 254) (hT : T < 8388608) (hF : 1 ≤ F) (hF2 : F ≤ 254) : (E < F → FP.fcmp (fF E T) (fF F 0) = some .lt) ∧ (F ≤ E → FP.fcmp (fF E T) (fF F 0) = some .eq ∨ FP.fcmp (fF E T) (fF F 0) = some .gt) := by
  have e : FP.fcmp (fF E T) (fF F 0) = some (compare ((((8388608 + T) * 2 ^ (((E : Int) - 150) - min ((E : Int) - 150) ((F : Int) - 150)).toNat : Nat) : Int)) (((8388608 * 2 ^ (((F : Int) - 150) - min ((E : Int) - 150) ((F : Int) - 150)).toNat : Nat) : Int))) := by
    show FP.Core.fcmp _ _ = _
    unfold FP.Core.fcmp FP.Core.cmp fF
    rw [show (UInt32.ofNat (E * 8388608 + T)).toNat = E * 8388608 + T from fF_nat hE hT, show (UInt32.ofNat (F * 8388608 + 0)).toNat = F * 8388608 + 0 from fF_nat hF2 (by decide), dec_n (by omega) hE hT, dec_n hF hF2 (by decide)]
    rfl
  rw [e]
  constructor
  · intro h
    rw [show (((E : Int) - 150) - min ((E : Int) - 150) ((F : Int) - 150)).toNat = 0 by omega, show (((F : Int) - 150) - min ((E : Int) - 150) ((F : Int) - 150)).toNat = (F - E - 1) + 1 by omega]
    congr 1
    rw [Int.compare_eq_lt]
    have := Nat.two_pow_pos (F - E - 1)
    rw [Nat.pow_succ]
    generalize 2 ^ (F - E - 1) = z at *
    have : 8388608 * z ≥ 8388608 := Nat.le_mul_of_pos_right _ this
    omega
  · intro h
    rw [show (((F : Int) - 150) - min ((E : Int) - 150) ((F : Int) - 150)).toNat = 0 by omega]
    generalize hz : (((E : Int) - 150) - min ((E : Int) - 150) ((F : Int) - 150)).toNat = k
    have hp := Nat.two_pow_pos k
    have : 8388608 + T ≤ (8388608 + T) * 2 ^ k := Nat.le_mul_of_pos_right _ hp
    cases hc : compare (((8388608 + T) * 2 ^ k : Nat) : Int) ((8388608 * 2 ^ 0 : Nat) : Int) with
    | lt =>
      rw [Int.compare_eq_lt] at hc
      omega
    | eq => exact Or.inl rfl
    | gt => exact Or.inr rfl
theorem f_cmp0 {E T : Nat} (h1 : 1 ≤ E) (hE : E ≤ 254) (hT : T < 8388608) : FP.fcmp (fF E T) FP.fconst0 = some .gt := by
  have e : FP.fcmp (fF E T) FP.fconst0 = some (compare ((((8388608 + T) * 2 ^ (((E : Int) - 150) - min ((E : Int) - 150) (-149)).toNat : Nat) : Int)) ((0 * 2 ^ ((-149 : Int) - min ((E : Int) - 150) (-149)).toNat : Nat) : Int)) := by
    show FP.Core.fcmp _ _ = _
    unfold FP.Core.fcmp FP.Core.cmp fF
    rw [show (UInt32.ofNat (E * 8388608 + T)).toNat = E * 8388608 + T from fF_nat hE hT, c0_nat, dec_n (by omega) hE hT, dec_0]
    rfl
  rw [e, Nat.zero_mul]
  congr 1
  rw [Int.compare_eq_gt]
  have := Nat.two_pow_pos (((E : Int) - 150) - min ((E : Int) - 150) (-149)).toNat
  have : 8388608 + T ≤ (8388608 + T) * 2 ^ (((E : Int) - 150) - min ((E : Int) - 150) (-149)).toNat := Nat.le_mul_of_pos_right _ this
  omega
theorem f_self {E T : Nat} (h1 : 1 ≤ E) (hE : E ≤ 254) (hT : T < 8388608) : FP.fcmp (fF E T) (fF E T) = some .eq := by
  show FP.Core.fcmp _ _ = _
  unfold FP.Core.fcmp FP.Core.cmp fF
  rw [show (UInt32.ofNat (E * 8388608 + T)).toNat = E * 8388608 + T from fF_nat hE hT, dec_n (by omega) hE hT]
  show some (compare _ _) = _
  congr 1
  exact Int.compare_eq_eq.mpr rfl
/-- a float less 1, from 1 on, below 2 -/
theorem f_less {T l : Nat} (hl1 : 2 ^ l ≤ T) (hl2 : T < 2 ^ (l + 1)) (hl : l ≤ 22) : FP.fsub (fF 127 T) FP.fconst1 = fF (l + 104) (T * 2 ^ (23 - l) - 8388608) ∧ 8388608 ≤ T * 2 ^ (23 - l) ∧ T * 2 ^ (23 - l) < 16777216 := by
  have hT : T < 8388608 := Nat.lt_of_lt_of_le hl2 (show 2 ^ (l + 1) ≤ 2 ^ 23 from Nat.pow_le_pow_right (by decide) (by omega))
  have p1 : 8388608 ≤ T * 2 ^ (23 - l) := by
    have : 2 ^ l * 2 ^ (23 - l) ≤ T * 2 ^ (23 - l) := Nat.mul_le_mul_right _ hl1
    rw [← Nat.pow_add, show l + (23 - l) = 23 by omega] at this
    exact this
  have p2 : T * 2 ^ (23 - l) < 16777216 := by
    have : T * 2 ^ (23 - l) < 2 ^ (l + 1) * 2 ^ (23 - l) := Nat.mul_lt_mul_of_pos_right hl2 (Nat.two_pow_pos _)
    rw [← Nat.pow_add, show l + 1 + (23 - l) = 24 by omega] at this
    exact this
  refine ⟨?_, p1, p2⟩
  have hpos := Nat.two_pow_pos l
  show FP.Core.fsub _ _ = _
  unfold FP.Core.fsub FP.Core.sub fF
  rw [show (UInt32.ofNat (127 * 8388608 + T)).toNat = 127 * 8388608 + T from fF_nat (by decide) hT, c1_nat, dec_n (by decide) (by decide) hT, dec_n (by decide) (by decide) (by decide)]
  refine congrArg UInt32.ofNat ?_
  have es : FP.Core.exactSum (.fin false (8388608 + T) (((127 : Nat) : Int) - 150)) (FP.Core.negate (.fin false (8388608 + 0) (((127 : Nat) : Int) - 150))) = .fin false T (-23) := by
    have ev : FP.Core.sumUnits false (8388608 + T) (-23) true (8388608 + 0) (-23) (-23) = (T : Int) := by
      unfold FP.Core.sumUnits FP.Core.signed FP.Core.inUnits
      simp
      omega
    show FP.Core.Datum.fin (FP.Core.sumSign false true (FP.Core.sumUnits false (8388608 + T) (-23) true (8388608 + 0) (-23) (-23))) (FP.Core.sumUnits false (8388608 + T) (-23) true (8388608 + 0) (-23) (-23)).natAbs (-23) = _
    rw [ev]
    unfold FP.Core.sumSign
    rw [if_neg (by omega), Int.natAbs_natCast, decide_eq_false (by omega)]
  rw [es]
  show FP.Core.encode FP.Core.b32 (FP.Core.roundRatio FP.Core.b32 false T 1 (-23)) = _
  rw [rnd_of (c := T * 2 ^ (23 - l)) (q := (l : Int) - 46) (by omega) (quan (lead_1 hl1 hl2) (by omega) (by omega)) ?_ p2 (by omega), enc_n (E := l + 104) p1 (by omega) (by omega)]
  rw [uN (k := 23 - l) (by omega), uD0 (by omega)]
  exact near_1 _
theorem f_less0 : FP.fsub (fF 127 0) FP.fconst1 = 0 := by decide +kernel
theorem f_mul0 : FP.fmul 0 (1258291200 : UInt32) = 0 := by decide +kernel
theorem f_int0 : FP.f2i 0 = nI 0 := by decide +kernel
/-- its whole part -/
theorem f_int {T l : Nat} (hl1 : 2 ^ l ≤ T) (hl2 : T < 2 ^ (l + 1)) (hl : l ≤ 22) (p1 : 8388608 ≤ T * 2 ^ (23 - l)) (p2 : T * 2 ^ (23 - l) < 16777216) : FP.f2i (fF (l + 127) (T * 2 ^ (23 - l) - 8388608)) = nI T := by
  have hT : T < 8388608 := Nat.lt_of_lt_of_le hl2 (show 2 ^ (l + 1) ≤ 2 ^ 23 from Nat.pow_le_pow_right (by decide) (by omega))
  show FP.Core.f2i _ = _
  unfold FP.Core.f2i
  rw [fF_nat (by omega) (by omega), dec_n (by omega) (by omega) (by omega)]
  unfold FP.Core.toI FP.Core.toInt FP.Core.truncate FP.Core.signed
  dsimp only
  rw [show (((l + 127 : Nat) : Int) - 150).toNat = 0 by omega, show (-(((l + 127 : Nat) : Int) - 150)).toNat = 23 - l by omega, show 8388608 + (T * 2 ^ (23 - l) - 8388608) = T * 2 ^ (23 - l) by omega, Nat.pow_zero, Nat.mul_one, Nat.mul_div_cancel _ (Nat.two_pow_pos _)]
  simp only [Bool.false_eq_true, if_false]
  rw [show max (-2 ^ 31 : Int) (min (2 ^ 31 - 1) (T : Int)) = (T : Int) by omega]
  exact Int32.toInt_inj.mp (by rw [nI_toInt (by omega), Int32.toInt_ofInt_of_le (by omega) (by omega)])
theorem vf_F {E T : Nat} (hE : E ≤ 254) (hT : T < 8388608) : vf_n32 (fF E T) := by
  unfold vf_n32
  rw [UInt32.le_iff_toNat_le, UInt32.toNat_and, fF_nat hE hT]
  refine Nat.le_trans Nat.and_le_left ?_
  show _ ≤ 2139095040
  omega
theorem vf_0 : vf_n32 0 := by unfold vf_n32; decide
theorem f_whole {p : Nat} (hp : p < 16777216) : (p = 0 ∧ FP.i2f (nI p) = 0) ∨ ∃ E T, 127 ≤ E ∧ E ≤ 150 ∧ T < 8388608 ∧ FP.i2f (nI p) = fF E T := by
  by_cases c : p = 0
  · subst c; exact Or.inl ⟨rfl, by decide +kernel⟩
  · right
    have l1 : 2 ^ p.log2 ≤ p := Nat.log2_self_le c
    have l2 : p < 2 ^ (p.log2 + 1) := Nat.lt_log2_self
    have hl : p.log2 ≤ 23 := by
      have := (Nat.log2_lt (k := 24) c).mpr hp
      omega
    generalize p.log2 = l at *
    have p1 : 8388608 ≤ p * 2 ^ (23 - l) := by
      have : 2 ^ l * 2 ^ (23 - l) ≤ p * 2 ^ (23 - l) := Nat.mul_le_mul_right _ l1
      rw [← Nat.pow_add, show l + (23 - l) = 23 by omega] at this
      exact this
    have p2 : p * 2 ^ (23 - l) < 16777216 := by
      have : p * 2 ^ (23 - l) < 2 ^ (l + 1) * 2 ^ (23 - l) := Nat.mul_lt_mul_of_pos_right l2 (Nat.two_pow_pos _)
      rw [← Nat.pow_add, show l + 1 + (23 - l) = 24 by omega] at this
      exact this
    refine ⟨l + 127, p * 2 ^ (23 - l) - 8388608, by omega, by omega, by omega, ?_⟩
    show FP.Core.i2f _ = _
    unfold FP.Core.i2f FP.Core.fromInt fF
    refine congrArg UInt32.ofNat ?_
    rw [nI_toInt (by omega)]
    have eo : FP.Core.ofInt (p : Int) = .fin false p 0 := by
      unfold FP.Core.ofInt
      rw [decide_eq_false (by omega), Int.natAbs_natCast]
    rw [eo]
    show FP.Core.encode FP.Core.b32 (FP.Core.roundRatio FP.Core.b32 false p 1 0) = _
    rw [rnd_of (c := p * 2 ^ (23 - l)) (q := (l : Int) - 23) c (quan (lead_1 l1 l2) (by omega) (by omega)) ?_ p2 (by omega), enc_n (E := l + 127) p1 (by omega) (by omega)]
    rw [uN (k := 23 - l) (by omega), uD0 (by omega)]
    exact near_1 _
theorem near_b {num den lo hi : Nat} (hd : 0 < den) (h1 : lo * den ≤ num) (h2 : num < hi * den) : lo ≤ FP.Core.nearest num den ∧ FP.Core.nearest num den ≤ hi := by
  have a : lo ≤ num / den := (Nat.le_div_iff_mul_le hd).mpr h1
  have b : num / den < hi := (Nat.div_lt_iff_lt_mul hd).mpr h2
  unfold FP.Core.nearest
  split
  · omega
  · split
    · omega
    · have : num / den % 2 < 2 := Nat.mod_lt _ (by decide)
      omega
theorem rnd_c {num den c : Nat} {e q : Int} (h0 : num ≠ 0) (hq : FP.Core.quantum FP.Core.b32 num den e = q) (hn : FP.Core.nearest (FP.Core.unitsNum num e q) (FP.Core.unitsDen den e q) = c) (hc2 : ¬ c < 16777216) (hqm : q + 1 ≤ 104) : FP.Core.roundRatio FP.Core.b32 false num den e = .fin false 8388608 (q + 1) := by
  unfold FP.Core.roundRatio FP.Core.roundAt FP.Core.settle FP.Core.bound
  rw [if_neg h0, hq, hn, if_neg (show ¬ c < 2 ^ FP.Core.b32.p from hc2), b_qmax, if_pos hqm, b_tails]
/-- a quotient -/
theorem f_quo {E T F S : Nat} (h1 : 127 ≤ E) (hE : E ≤ 150) (hT : T < 8388608) (h2 : 127 ≤ F) (hF : F ≤ 150) (hS : S < 8388608) : ∃ G U, 1 ≤ G ∧ G ≤ 254 ∧ U < 8388608 ∧ FP.fdiv (fF E T) (fF F S) = fF G U := by
  have hlead := lead_n (c := 8388608 + T) (d := 8388608 + S) (by omega) (by omega) (by omega) (by omega)
  have go : ∀ (k : Nat) (ld : Int), FP.Core.leading (8388608 + T) (8388608 + S) = ld → ld = (23 : Int) - k → 23 ≤ k → k ≤ 24 → 8388608 * (8388608 + S) ≤ (8388608 + T) * 2 ^ k → (8388608 + T) * 2 ^ k < 16777216 * (8388608 + S) → ∃ G U, 1 ≤ G ∧ G ≤ 254 ∧ U < 8388608 ∧ FP.fdiv (fF E T) (fF F S) = fF G U := by
    intro k ld hld hk hk1 hk2 b1 b2
    obtain ⟨n1, n2⟩ := near_b (num := (8388608 + T) * 2 ^ k) (den := 8388608 + S) (by omega) b1 b2
    have hq : FP.Core.quantum FP.Core.b32 (8388608 + T) (8388608 + S) (((E : Int) - 150) - ((F : Int) - 150)) = (E : Int) - F - k := quan hld (by omega) (by omega)
    have hu : FP.Core.nearest (FP.Core.unitsNum (8388608 + T) (((E : Int) - 150) - ((F : Int) - 150)) ((E : Int) - F - k)) (FP.Core.unitsDen (8388608 + S) (((E : Int) - 150) - ((F : Int) - 150)) ((E : Int) - F - k)) = FP.Core.nearest ((8388608 + T) * 2 ^ k) (8388608 + S) := by
      rw [uN (k := k) (by omega), uD0 (by omega)]
    have ed : FP.fdiv (fF E T) (fF F S) = UInt32.ofNat (FP.Core.encode FP.Core.b32 (FP.Core.roundRatio FP.Core.b32 false (8388608 + T) (8388608 + S) (((E : Int) - 150) - ((F : Int) - 150)))) := by
      show FP.Core.fdiv _ _ = _
      unfold FP.Core.fdiv FP.Core.div
      rw [fF_nat (by omega) hT, fF_nat (by omega) hS, dec_n (by omega) (by omega) hT, dec_n (by omega) (by omega) hS, quo (by omega)]
      rfl
    generalize FP.Core.nearest ((8388608 + T) * 2 ^ k) (8388608 + S) = c at *
    by_cases hc : c < 16777216
    · refine ⟨E + 150 - F - k, c - 8388608, by omega, by omega, by omega, ?_⟩
      rw [ed, rnd_of (by omega) hq hu hc (by omega), enc_n (E := E + 150 - F - k) n1 (by omega) (by omega)]
      rfl
    · refine ⟨E + 151 - F - k, 0, by omega, by omega, by omega, ?_⟩
      rw [ed, rnd_c (by omega) hq hu hc (by omega), enc_n (E := E + 151 - F - k) (by omega) (by omega) (by omega)]
      rfl
  by_cases c : 8388608 + S ≤ 8388608 + T
  · rw [if_pos c] at hlead
    exact go 23 0 hlead (by omega) (by omega) (by omega) (by omega) (by omega)
  · rw [if_neg c] at hlead
    exact go 24 (-1) hlead (by omega) (by omega) (by omega) (by omega) (by omega)
theorem f_quo0 {F S : Nat} (h2 : 127 ≤ F) (hF : F ≤ 150) (hS : S < 8388608) : FP.fdiv 0 (fF F S) = 0 := by
  show FP.Core.fdiv _ _ = _
  unfold FP.Core.fdiv FP.Core.div
  rw [fF_nat (by omega) hS, dec_n (by omega) (by omega) hS, show (0 : UInt32).toNat = 0 from rfl, dec_0, quo (by omega)]
  unfold FP.Core.roundRatio
  rw [if_pos rfl, b_qmin]
  show UInt32.ofNat (FP.Core.encode FP.Core.b32 (.fin false 0 (-149))) = 0
  rw [enc_0]; rfl
