/-! bits counted -/
def pcN (h : Nat) : Nat → Nat
  | 0 => 0
  | k + 1 => pcN h k + h / 2 ^ k % 2
theorem sh_l : ∀ n, n < 32 → ((nI n &&& 31).toBitVec.smod 32).toNat = n := by decide +kernel
theorem sh_u : ∀ n, n < 32 → (((nI n).toUInt32 &&& Int32.toUInt32 31).toBitVec % 32).toNat = n := by decide +kernel
theorem bit1 (n : Nat) : nI n &&& nI 1 = nI (n % 2) := by
  rw [fa_and, Nat.and_one_is_mod]
theorem shr_bit {h k : Nat} (hh : h < 2 ^ 31) (hk : k < 32) : (nI h >>> (nI k &&& 31)) &&& nI 1 = nI (h / 2 ^ k % 2) := by
  rw [pk_shrN hh _ k (sh_l k hk), bit1]
theorem onF_n {h : Nat} (hh : h < 2 ^ 31) : ∀ n, n ≤ 31 → onF (nI h) n = nI (pcN h n)
  | 0, _ => rfl
  | n + 1, hn => by rw [onF, onF_n hh n (by omega), shr_bit hh (by omega), nI_add, pcN]
theorem pcN_le (h : Nat) : ∀ n, pcN h n ≤ n
  | 0 => Nat.le_refl _
  | n + 1 => by
    have := pcN_le h n
    have : h / 2 ^ n % 2 < 2 := Nat.mod_lt _ (by decide)
    unfold pcN
    omega
theorem pcN_cong {h h' : Nat} : ∀ n, (∀ k, k < n → h / 2 ^ k % 2 = h' / 2 ^ k % 2) → pcN h n = pcN h' n
  | 0, _ => rfl
  | n + 1, e => by rw [pcN, pcN, pcN_cong n (fun k hk => e k (by omega)), e n (by omega)]
/-- as Integer.bitCount does it -/
def bcN (h : Nat) : Nat :=
  (fun a => (fun b => (fun c => (fun d => (d + d / 65536) &&& 63) (c + c / 256)) ((b + b / 16) &&& 252645135)) ((a &&& 858993459) + ((a / 4) &&& 858993459))) (h - ((h / 2) &&& 1431655765))
def ckB : Nat → Nat → Nat → Bool
  | 0, h, c => bcN h == c
  | k + 1, h, c => ckB k h c && ckB k (h + 2 ^ k) (c + 1)
theorem ckB_of : ∀ (k h c : Nat), ckB k h c = true → ∀ j, j < 2 ^ k → bcN (h + j) = c + pcN j k
  | 0, h, c, e, j, hj => by
    have : j = 0 := by simpa using hj
    subst this
    simp [ckB] at e
    simpa [pcN] using e
  | k + 1, h, c, e, j, hj => by
    rw [ckB, Bool.and_eq_true] at e
    by_cases hlt : j < 2 ^ k
    · rw [ckB_of k h c e.1 j hlt, pcN, Nat.div_eq_of_lt hlt]; rfl
    · obtain ⟨i, rfl⟩ : ∃ i, j = 2 ^ k + i := ⟨j - 2 ^ k, by omega⟩
      have hi : i < 2 ^ k := by rw [Nat.pow_succ] at hj; omega
      have := ckB_of k (h + 2 ^ k) (c + 1) e.2 i hi
      rw [← Nat.add_assoc, this, pcN]
      have e1 : pcN (2 ^ k + i) k = pcN i k := pcN_cong k (fun m hm => by
        have e2 : 2 ^ k + i = i + 2 ^ m * 2 ^ (k - m) := by rw [← Nat.pow_add, show m + (k - m) = k by omega]; omega
        rw [e2, Nat.add_mul_div_left _ _ (Nat.two_pow_pos m)]
        obtain ⟨q, hq⟩ : ∃ q, k - m = q + 1 := ⟨k - m - 1, by omega⟩
        rw [hq, Nat.pow_succ]
        omega)
      have e3 : (2 ^ k + i) / 2 ^ k = 1 := by
        rw [Nat.add_div_left _ (Nat.two_pow_pos k), Nat.div_eq_of_lt hi]
      rw [e1, e3]
      omega
set_option maxRecDepth 100000 in
theorem ck_13_0 : ckB 13 0 0 = true := by decide +kernel
set_option maxRecDepth 100000 in
theorem ck_13_8192 : ckB 13 8192 1 = true := by decide +kernel
set_option maxRecDepth 100000 in
theorem ck_13_16384 : ckB 13 16384 1 = true := by decide +kernel
set_option maxRecDepth 100000 in
theorem ck_13_24576 : ckB 13 24576 2 = true := by decide +kernel
set_option maxRecDepth 100000 in
theorem ck_13_32768 : ckB 13 32768 1 = true := by decide +kernel
set_option maxRecDepth 100000 in
theorem ck_13_40960 : ckB 13 40960 2 = true := by decide +kernel
set_option maxRecDepth 100000 in
theorem ck_13_49152 : ckB 13 49152 2 = true := by decide +kernel
set_option maxRecDepth 100000 in
theorem ck_13_57344 : ckB 13 57344 3 = true := by decide +kernel
set_option maxRecDepth 100000 in
theorem ck_13_65536 : ckB 13 65536 1 = true := by decide +kernel
set_option maxRecDepth 100000 in
theorem ck_13_73728 : ckB 13 73728 2 = true := by decide +kernel
set_option maxRecDepth 100000 in
theorem ck_13_81920 : ckB 13 81920 2 = true := by decide +kernel
set_option maxRecDepth 100000 in
theorem ck_13_90112 : ckB 13 90112 3 = true := by decide +kernel
set_option maxRecDepth 100000 in
theorem ck_13_98304 : ckB 13 98304 2 = true := by decide +kernel
set_option maxRecDepth 100000 in
theorem ck_13_106496 : ckB 13 106496 3 = true := by decide +kernel
set_option maxRecDepth 100000 in
theorem ck_13_114688 : ckB 13 114688 3 = true := by decide +kernel
set_option maxRecDepth 100000 in
theorem ck_13_122880 : ckB 13 122880 4 = true := by decide +kernel
set_option maxRecDepth 100000 in
theorem ck_13_131072 : ckB 13 131072 1 = true := by decide +kernel
set_option maxRecDepth 100000 in
theorem ck_13_139264 : ckB 13 139264 2 = true := by decide +kernel
set_option maxRecDepth 100000 in
theorem ck_13_147456 : ckB 13 147456 2 = true := by decide +kernel
set_option maxRecDepth 100000 in
theorem ck_13_155648 : ckB 13 155648 3 = true := by decide +kernel
set_option maxRecDepth 100000 in
theorem ck_13_163840 : ckB 13 163840 2 = true := by decide +kernel
set_option maxRecDepth 100000 in
theorem ck_13_172032 : ckB 13 172032 3 = true := by decide +kernel
set_option maxRecDepth 100000 in
theorem ck_13_180224 : ckB 13 180224 3 = true := by decide +kernel
set_option maxRecDepth 100000 in
theorem ck_13_188416 : ckB 13 188416 4 = true := by decide +kernel
set_option maxRecDepth 100000 in
theorem ck_13_196608 : ckB 13 196608 2 = true := by decide +kernel
set_option maxRecDepth 100000 in
theorem ck_13_204800 : ckB 13 204800 3 = true := by decide +kernel
set_option maxRecDepth 100000 in
theorem ck_13_212992 : ckB 13 212992 3 = true := by decide +kernel
set_option maxRecDepth 100000 in
theorem ck_13_221184 : ckB 13 221184 4 = true := by decide +kernel
set_option maxRecDepth 100000 in
theorem ck_13_229376 : ckB 13 229376 3 = true := by decide +kernel
set_option maxRecDepth 100000 in
theorem ck_13_237568 : ckB 13 237568 4 = true := by decide +kernel
set_option maxRecDepth 100000 in
theorem ck_13_245760 : ckB 13 245760 4 = true := by decide +kernel
set_option maxRecDepth 100000 in
theorem ck_13_253952 : ckB 13 253952 5 = true := by decide +kernel
theorem ck_and {k h c h' c' : Nat} (a : ckB k h c = true) (b : ckB k h' c' = true) (eh : h' = h + 2 ^ k) (ec : c' = c + 1) : ckB (k + 1) h c = true := by
  subst eh; subst ec; rw [ckB, a, b]; rfl
theorem ck_14_0 : ckB 14 0 0 = true := ck_and ck_13_0 ck_13_8192 (by decide) (by decide)
theorem ck_14_16384 : ckB 14 16384 1 = true := ck_and ck_13_16384 ck_13_24576 (by decide) (by decide)
theorem ck_14_32768 : ckB 14 32768 1 = true := ck_and ck_13_32768 ck_13_40960 (by decide) (by decide)
theorem ck_14_49152 : ckB 14 49152 2 = true := ck_and ck_13_49152 ck_13_57344 (by decide) (by decide)
theorem ck_14_65536 : ckB 14 65536 1 = true := ck_and ck_13_65536 ck_13_73728 (by decide) (by decide)
theorem ck_14_81920 : ckB 14 81920 2 = true := ck_and ck_13_81920 ck_13_90112 (by decide) (by decide)
theorem ck_14_98304 : ckB 14 98304 2 = true := ck_and ck_13_98304 ck_13_106496 (by decide) (by decide)
theorem ck_14_114688 : ckB 14 114688 3 = true := ck_and ck_13_114688 ck_13_122880 (by decide) (by decide)
theorem ck_14_131072 : ckB 14 131072 1 = true := ck_and ck_13_131072 ck_13_139264 (by decide) (by decide)
theorem ck_14_147456 : ckB 14 147456 2 = true := ck_and ck_13_147456 ck_13_155648 (by decide) (by decide)
theorem ck_14_163840 : ckB 14 163840 2 = true := ck_and ck_13_163840 ck_13_172032 (by decide) (by decide)
theorem ck_14_180224 : ckB 14 180224 3 = true := ck_and ck_13_180224 ck_13_188416 (by decide) (by decide)
theorem ck_14_196608 : ckB 14 196608 2 = true := ck_and ck_13_196608 ck_13_204800 (by decide) (by decide)
theorem ck_14_212992 : ckB 14 212992 3 = true := ck_and ck_13_212992 ck_13_221184 (by decide) (by decide)
theorem ck_14_229376 : ckB 14 229376 3 = true := ck_and ck_13_229376 ck_13_237568 (by decide) (by decide)
theorem ck_14_245760 : ckB 14 245760 4 = true := ck_and ck_13_245760 ck_13_253952 (by decide) (by decide)
theorem ck_15_0 : ckB 15 0 0 = true := ck_and ck_14_0 ck_14_16384 (by decide) (by decide)
theorem ck_15_32768 : ckB 15 32768 1 = true := ck_and ck_14_32768 ck_14_49152 (by decide) (by decide)
theorem ck_15_65536 : ckB 15 65536 1 = true := ck_and ck_14_65536 ck_14_81920 (by decide) (by decide)
theorem ck_15_98304 : ckB 15 98304 2 = true := ck_and ck_14_98304 ck_14_114688 (by decide) (by decide)
theorem ck_15_131072 : ckB 15 131072 1 = true := ck_and ck_14_131072 ck_14_147456 (by decide) (by decide)
theorem ck_15_163840 : ckB 15 163840 2 = true := ck_and ck_14_163840 ck_14_180224 (by decide) (by decide)
theorem ck_15_196608 : ckB 15 196608 2 = true := ck_and ck_14_196608 ck_14_212992 (by decide) (by decide)
theorem ck_15_229376 : ckB 15 229376 3 = true := ck_and ck_14_229376 ck_14_245760 (by decide) (by decide)
theorem ck_16_0 : ckB 16 0 0 = true := ck_and ck_15_0 ck_15_32768 (by decide) (by decide)
theorem ck_16_65536 : ckB 16 65536 1 = true := ck_and ck_15_65536 ck_15_98304 (by decide) (by decide)
theorem ck_16_131072 : ckB 16 131072 1 = true := ck_and ck_15_131072 ck_15_163840 (by decide) (by decide)
theorem ck_16_196608 : ckB 16 196608 2 = true := ck_and ck_15_196608 ck_15_229376 (by decide) (by decide)
theorem ck_17_0 : ckB 17 0 0 = true := ck_and ck_16_0 ck_16_65536 (by decide) (by decide)
theorem ck_17_131072 : ckB 17 131072 1 = true := ck_and ck_16_131072 ck_16_196608 (by decide) (by decide)
theorem ck_18_0 : ckB 18 0 0 = true := ck_and ck_17_0 ck_17_131072 (by decide) (by decide)
theorem bcN_pc {h : Nat} (hh : h < 2 ^ 18) : bcN h = pcN h 18 := by
  have := ckB_of 18 0 0 ck_18_0 h hh
  rw [Nat.zero_add, Nat.zero_add] at this
  exact this
theorem ushr_n {n s : Nat} (hn : n < 2 ^ 32) (hs : s < 32) : (Int32.toUInt32 (nI n) >>> (Int32.toUInt32 (nI s) &&& Int32.toUInt32 31)).toInt32 = nI (n / 2 ^ s) := pk_ushrN hn _ s (sh_u s hs)
theorem c_bitCount {L : List Nat} (hL : L.Nodup) {M : Mem} {Q : Int32 → Mem → Prop} {h : Nat} (hh : h < 2 ^ 18) (hq : Q (nI (pcN h 18)) M) : CM m_J6_bitCount_0f7a4 L [.int (nI h)] M Q := by
  refine CMj pn_bc rfl rfl rfl hL (fun x X T => ?_)
  refine r_J6_bitCount_0f7a4_0 X T ?_
  have e1 : (1431655765 : Int32) = nI 1431655765 := rfl
  have e2 : (858993459 : Int32) = nI 858993459 := rfl
  have e3 : (252645135 : Int32) = nI 252645135 := rfl
  have l1 : (h / 2 &&& 1431655765) ≤ h := Nat.le_trans Nat.and_le_left (Nat.div_le_self _ _)
  generalize ha : h - (h / 2 &&& 1431655765) = a
  have ha2 : a < 2 ^ 18 := by omega
  have lb1 : (a &&& 858993459) ≤ a := Nat.and_le_left
  have lb2 : (a / 4 &&& 858993459) ≤ a := Nat.le_trans Nat.and_le_left (Nat.div_le_self _ _)
  generalize hb : (a &&& 858993459) + (a / 4 &&& 858993459) = b
  have hb2 : b < 2 ^ 19 := by omega
  have lc : (b + b / 16 &&& 252645135) ≤ b + b / 16 := Nat.and_le_left
  have lc2 : b / 16 ≤ b := Nat.div_le_self _ _
  generalize hc : (b + b / 16 &&& 252645135) = c
  have hc2 : c < 2 ^ 20 := by omega
  have ld : c / 256 ≤ c := Nat.div_le_self _ _
  have step1 : nI h - ((Int32.toUInt32 (nI h) >>> (Int32.toUInt32 (nI 1) &&& Int32.toUInt32 31)).toInt32 &&& (1431655765 : Int32)) = nI a := by
    rw [ushr_n (by omega) (by decide), e1, fa_and, pk_sub l1, ha]
  have step2 : (nI a &&& (858993459 : Int32)) + ((Int32.toUInt32 (nI a) >>> (Int32.toUInt32 (nI 2) &&& Int32.toUInt32 31)).toInt32 &&& (858993459 : Int32)) = nI b := by
    rw [ushr_n (by omega) (by decide), e2, fa_and, fa_and, nI_add, hb]
  have step3 : (nI b + (Int32.toUInt32 (nI b) >>> (Int32.toUInt32 (nI 4) &&& Int32.toUInt32 31)).toInt32) &&& (252645135 : Int32) = nI c := by
    rw [ushr_n (by omega) (by decide), e3, nI_add, fa_and, hc]
  have step4 : nI c + (Int32.toUInt32 (nI c) >>> (Int32.toUInt32 (nI 8) &&& Int32.toUInt32 31)).toInt32 = nI (c + c / 256) := by
    rw [ushr_n (by omega) (by decide), nI_add]
  have step5 : nI (c + c / 256) + (Int32.toUInt32 (nI (c + c / 256)) >>> (Int32.toUInt32 (nI 16) &&& Int32.toUInt32 31)).toInt32 = nI (c + c / 256 + (c + c / 256) / 65536) := by
    rw [ushr_n (by omega) (by decide), nI_add]
  rw [step1, step2, step3, step4, step5, fa_and]
  have hfin : (c + c / 256 + (c + c / 256) / 65536) &&& 63 = bcN h := by
    unfold bcN
    simp only [ha, hb, hc]
  rw [hfin, bcN_pc hh]
  exact hq
