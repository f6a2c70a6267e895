/-! the whole world's cells, contracts, rows of memory -/
abbrev LF : List Nat := List.range 143
theorem LF_nd : LF.Nodup := List.nodup_range
theorem acF {i c n : Nat} (h : i < 143) (h2 : KD i = c) (h3 : LN i = n) : AC LF i c n := ⟨List.mem_range.mpr h, h2, h3⟩
theorem cat1 {av : List Value} (h : av.all (fun v => v.category == 1) = true) : ∀ v ∈ av, v.category = 1 := fun v hv => by
  have := List.all_eq_true.mp h v hv
  simpa using this
theorem pf_of {y : MethodName} (h : plainName y.cls = true) : plainFor y = true := by unfold plainFor; rw [h]; rfl
theorem CMi {mm : MI} {own : String} {L : List Nat} {av : List Value} {M : Mem} {Q : Int32 → Mem → Prop} (hy : plainName mm.1.cls = true) (hown : mm.1.cls = own) (hc : av.all (fun v => v.category == 1) = true) (hn : Nat.ble av.length mm.2.2.1 = true) (hnd : L.Nodup)
    (h : ∀ x : CT, BS x L mm.2.1 mm.2.2.1 own mm.2.2.2.2 → RT x L mm.2.2.2.1 Q → WP x L 0 (EL av mm.2.2.1) [] M) : CM mm L av M Q := CM.intro (pf_of hy) hown (cat1 hc) (Nat.le_of_ble_eq_true hn) hnd h
def MR (M : Mem) (i : Nat) (r : Nat → Int32) : Mem := fun j => if j = i then r else M j
theorem MU_eq (M : Mem) (i k : Nat) (v : Int32) : MU M i k v = MR M i (upd (M i) k v) := rfl
theorem MR_at (M : Mem) (i : Nat) (r : Nat → Int32) : MR M i r i = r := by simp [MR]
theorem MR_ne {M : Mem} {i j : Nat} {r : Nat → Int32} (h : j ≠ i) : MR M i r j = M j := by simp [MR, h]
theorem MR_MR (M : Mem) (i : Nat) (r r' : Nat → Int32) : MR (MR M i r) i r' = MR M i r' := by
  funext j; by_cases h : j = i <;> simp [MR, h]
theorem MR_self (M : Mem) (i : Nat) : MR M i (M i) = M := by
  funext j; by_cases h : j = i
  · subst h; simp [MR]
  · simp [MR, h]
theorem MU_MR (M : Mem) (i k : Nat) (r : Nat → Int32) (v : Int32) : MU (MR M i r) i k v = MR M i (upd r k v) := by rw [MU_eq, MR_at, MR_MR]
theorem MR_swap {M : Mem} {i j : Nat} {r r' : Nat → Int32} (h : i ≠ j) : MR (MR M i r) j r' = MR (MR M j r') i r := by
  funext k
  by_cases h1 : k = i
  · subst h1; simp [MR, h]
  · by_cases h2 : k = j
    · subst h2; simp [MR, h1]
    · simp [MR, h1, h2]
theorem pn_X0 : plainName RX0 = true := by decide +kernel
theorem pn_X1 : plainName RX1 = true := by decide +kernel
theorem pn_X2 : plainName RX2 = true := by decide +kernel
theorem pn_X3 : plainName RX3 = true := by decide +kernel
theorem pn_X4 : plainName RX4 = true := by decide +kernel
theorem pn_X5 : plainName RX5 = true := by decide +kernel
theorem pn_X6 : plainName RX6 = true := by decide +kernel
theorem pn_X7 : plainName RX7 = true := by decide +kernel
theorem pn_X8 : plainName RX8 = true := by decide +kernel
theorem CMj {mm : MI} {own : String} {L : List Nat} {av : List Value} {M : Mem} {Q : Int32 → Mem → Prop} (hy : plainFor mm.1 = true) (hown : mm.1.cls = own) (hc : av.all (fun v => v.category == 1) = true) (hn : Nat.ble av.length mm.2.2.1 = true) (hnd : L.Nodup)
    (h : ∀ x : CT, BS x L mm.2.1 mm.2.2.1 own mm.2.2.2.2 → RT x L mm.2.2.2.1 Q → WP x L 0 (EL av mm.2.2.1) [] M) : CM mm L av M Q := CM.intro hy hown (cat1 hc) (Nat.le_of_ble_eq_true hn) hnd h
theorem pn_bc : plainFor yJ6_bitCount_0f7a4 = true := by decide +kernel
theorem pn_fm : plainFor yJ9_floorMod_7cf53 = true := by decide +kernel
theorem pn_nan : plainFor yJxf58ca_isNaN_12338 = true := by decide +kernel
theorem pn_ftb : plainFor yJxf58ca_floatToIntBits_5c35a = true := by decide +kernel
theorem upd_at (f : Nat → Int32) (k : Nat) (v : Int32) : upd f k v k = v := by simp [upd]
theorem upd_ne {f : Nat → Int32} {k j : Nat} {v : Int32} (h : j ≠ k) : upd f k v j = f j := by simp [upd, h]
theorem ac_0 : AC LF 0 7 0 := acF (by decide) (by decide +kernel) (by decide +kernel)
theorem ac_1 : AC LF 1 5 0 := acF (by decide) (by decide +kernel) (by decide +kernel)
theorem ac_2 : AC LF 2 9 200 := acF (by decide) (by decide +kernel) (by decide +kernel)
theorem ac_3 : AC LF 3 3 0 := acF (by decide) (by decide +kernel) (by decide +kernel)
theorem ac_4 : AC LF 4 9 6 := acF (by decide) (by decide +kernel) (by decide +kernel)
theorem ac_5 : AC LF 5 9 6 := acF (by decide) (by decide +kernel) (by decide +kernel)
theorem ac_6 : AC LF 6 9 6 := acF (by decide) (by decide +kernel) (by decide +kernel)
theorem ac_7 : AC LF 7 3 0 := acF (by decide) (by decide +kernel) (by decide +kernel)
theorem ac_8 : AC LF 8 9 6 := acF (by decide) (by decide +kernel) (by decide +kernel)
theorem ac_9 : AC LF 9 9 6 := acF (by decide) (by decide +kernel) (by decide +kernel)
theorem ac_10 : AC LF 10 9 6 := acF (by decide) (by decide +kernel) (by decide +kernel)
theorem ac_11 : AC LF 11 4 0 := acF (by decide) (by decide +kernel) (by decide +kernel)
theorem ac_12 : AC LF 12 10 4 := acF (by decide) (by decide +kernel) (by decide +kernel)
theorem ac_13 : AC LF 13 6 0 := acF (by decide) (by decide +kernel) (by decide +kernel)
theorem ac_14 : AC LF 14 9 6 := acF (by decide) (by decide +kernel) (by decide +kernel)
theorem ac_15 : AC LF 15 9 6 := acF (by decide) (by decide +kernel) (by decide +kernel)
theorem ac_16 : AC LF 16 9 6 := acF (by decide) (by decide +kernel) (by decide +kernel)
theorem ac_17 : AC LF 17 9 6 := acF (by decide) (by decide +kernel) (by decide +kernel)
theorem ac_18 : AC LF 18 9 6 := acF (by decide) (by decide +kernel) (by decide +kernel)
theorem ac_19 : AC LF 19 9 10 := acF (by decide) (by decide +kernel) (by decide +kernel)
theorem ac_20 : AC LF 20 9 10 := acF (by decide) (by decide +kernel) (by decide +kernel)
theorem ac_21 : AC LF 21 9 10 := acF (by decide) (by decide +kernel) (by decide +kernel)
theorem ac_22 : AC LF 22 1 0 := acF (by decide) (by decide +kernel) (by decide +kernel)
theorem ac_23 : AC LF 23 9 6 := acF (by decide) (by decide +kernel) (by decide +kernel)
theorem ac_24 : AC LF 24 9 6 := acF (by decide) (by decide +kernel) (by decide +kernel)
theorem ac_25 : AC LF 25 1 0 := acF (by decide) (by decide +kernel) (by decide +kernel)
theorem ac_26 : AC LF 26 9 6 := acF (by decide) (by decide +kernel) (by decide +kernel)
theorem ac_27 : AC LF 27 9 6 := acF (by decide) (by decide +kernel) (by decide +kernel)
theorem ac_28 : AC LF 28 1 0 := acF (by decide) (by decide +kernel) (by decide +kernel)
theorem ac_29 : AC LF 29 9 6 := acF (by decide) (by decide +kernel) (by decide +kernel)
theorem ac_30 : AC LF 30 9 6 := acF (by decide) (by decide +kernel) (by decide +kernel)
theorem ac_31 : AC LF 31 1 0 := acF (by decide) (by decide +kernel) (by decide +kernel)
theorem ac_32 : AC LF 32 9 6 := acF (by decide) (by decide +kernel) (by decide +kernel)
theorem ac_33 : AC LF 33 9 6 := acF (by decide) (by decide +kernel) (by decide +kernel)
theorem ac_34 : AC LF 34 2 0 := acF (by decide) (by decide +kernel) (by decide +kernel)
theorem ac_35 : AC LF 35 11 4 := acF (by decide) (by decide +kernel) (by decide +kernel)
theorem ac_36 : AC LF 36 4 0 := acF (by decide) (by decide +kernel) (by decide +kernel)
theorem ac_37 : AC LF 37 10 4 := acF (by decide) (by decide +kernel) (by decide +kernel)
theorem ac_38 : AC LF 38 6 0 := acF (by decide) (by decide +kernel) (by decide +kernel)
theorem ac_39 : AC LF 39 9 6 := acF (by decide) (by decide +kernel) (by decide +kernel)
theorem ac_40 : AC LF 40 9 6 := acF (by decide) (by decide +kernel) (by decide +kernel)
theorem ac_41 : AC LF 41 9 6 := acF (by decide) (by decide +kernel) (by decide +kernel)
theorem ac_42 : AC LF 42 9 6 := acF (by decide) (by decide +kernel) (by decide +kernel)
theorem ac_43 : AC LF 43 9 6 := acF (by decide) (by decide +kernel) (by decide +kernel)
theorem ac_44 : AC LF 44 9 10 := acF (by decide) (by decide +kernel) (by decide +kernel)
theorem ac_45 : AC LF 45 9 10 := acF (by decide) (by decide +kernel) (by decide +kernel)
theorem ac_46 : AC LF 46 9 10 := acF (by decide) (by decide +kernel) (by decide +kernel)
theorem ac_47 : AC LF 47 1 0 := acF (by decide) (by decide +kernel) (by decide +kernel)
theorem ac_48 : AC LF 48 9 6 := acF (by decide) (by decide +kernel) (by decide +kernel)
theorem ac_49 : AC LF 49 9 6 := acF (by decide) (by decide +kernel) (by decide +kernel)
theorem ac_50 : AC LF 50 1 0 := acF (by decide) (by decide +kernel) (by decide +kernel)
theorem ac_51 : AC LF 51 9 6 := acF (by decide) (by decide +kernel) (by decide +kernel)
theorem ac_52 : AC LF 52 9 6 := acF (by decide) (by decide +kernel) (by decide +kernel)
theorem ac_53 : AC LF 53 1 0 := acF (by decide) (by decide +kernel) (by decide +kernel)
theorem ac_54 : AC LF 54 9 6 := acF (by decide) (by decide +kernel) (by decide +kernel)
theorem ac_55 : AC LF 55 9 6 := acF (by decide) (by decide +kernel) (by decide +kernel)
theorem ac_56 : AC LF 56 1 0 := acF (by decide) (by decide +kernel) (by decide +kernel)
theorem ac_57 : AC LF 57 9 6 := acF (by decide) (by decide +kernel) (by decide +kernel)
theorem ac_58 : AC LF 58 9 6 := acF (by decide) (by decide +kernel) (by decide +kernel)
theorem ac_59 : AC LF 59 4 0 := acF (by decide) (by decide +kernel) (by decide +kernel)
theorem ac_60 : AC LF 60 10 4 := acF (by decide) (by decide +kernel) (by decide +kernel)
theorem ac_61 : AC LF 61 6 0 := acF (by decide) (by decide +kernel) (by decide +kernel)
theorem ac_62 : AC LF 62 9 6 := acF (by decide) (by decide +kernel) (by decide +kernel)
theorem ac_63 : AC LF 63 9 6 := acF (by decide) (by decide +kernel) (by decide +kernel)
theorem ac_64 : AC LF 64 9 6 := acF (by decide) (by decide +kernel) (by decide +kernel)
theorem ac_65 : AC LF 65 9 6 := acF (by decide) (by decide +kernel) (by decide +kernel)
theorem ac_66 : AC LF 66 9 6 := acF (by decide) (by decide +kernel) (by decide +kernel)
theorem ac_67 : AC LF 67 9 10 := acF (by decide) (by decide +kernel) (by decide +kernel)
theorem ac_68 : AC LF 68 9 10 := acF (by decide) (by decide +kernel) (by decide +kernel)
theorem ac_69 : AC LF 69 9 10 := acF (by decide) (by decide +kernel) (by decide +kernel)
theorem ac_70 : AC LF 70 1 0 := acF (by decide) (by decide +kernel) (by decide +kernel)
theorem ac_71 : AC LF 71 9 6 := acF (by decide) (by decide +kernel) (by decide +kernel)
theorem ac_72 : AC LF 72 9 6 := acF (by decide) (by decide +kernel) (by decide +kernel)
theorem ac_73 : AC LF 73 1 0 := acF (by decide) (by decide +kernel) (by decide +kernel)
theorem ac_74 : AC LF 74 9 6 := acF (by decide) (by decide +kernel) (by decide +kernel)
theorem ac_75 : AC LF 75 9 6 := acF (by decide) (by decide +kernel) (by decide +kernel)
theorem ac_76 : AC LF 76 1 0 := acF (by decide) (by decide +kernel) (by decide +kernel)
theorem ac_77 : AC LF 77 9 6 := acF (by decide) (by decide +kernel) (by decide +kernel)
theorem ac_78 : AC LF 78 9 6 := acF (by decide) (by decide +kernel) (by decide +kernel)
theorem ac_79 : AC LF 79 1 0 := acF (by decide) (by decide +kernel) (by decide +kernel)
theorem ac_80 : AC LF 80 9 6 := acF (by decide) (by decide +kernel) (by decide +kernel)
theorem ac_81 : AC LF 81 9 6 := acF (by decide) (by decide +kernel) (by decide +kernel)
theorem ac_82 : AC LF 82 4 0 := acF (by decide) (by decide +kernel) (by decide +kernel)
theorem ac_83 : AC LF 83 10 4 := acF (by decide) (by decide +kernel) (by decide +kernel)
theorem ac_84 : AC LF 84 6 0 := acF (by decide) (by decide +kernel) (by decide +kernel)
theorem ac_85 : AC LF 85 9 6 := acF (by decide) (by decide +kernel) (by decide +kernel)
theorem ac_86 : AC LF 86 9 6 := acF (by decide) (by decide +kernel) (by decide +kernel)
theorem ac_87 : AC LF 87 9 6 := acF (by decide) (by decide +kernel) (by decide +kernel)
theorem ac_88 : AC LF 88 9 6 := acF (by decide) (by decide +kernel) (by decide +kernel)
theorem ac_89 : AC LF 89 9 6 := acF (by decide) (by decide +kernel) (by decide +kernel)
theorem ac_90 : AC LF 90 9 10 := acF (by decide) (by decide +kernel) (by decide +kernel)
theorem ac_91 : AC LF 91 9 10 := acF (by decide) (by decide +kernel) (by decide +kernel)
theorem ac_92 : AC LF 92 9 10 := acF (by decide) (by decide +kernel) (by decide +kernel)
theorem ac_93 : AC LF 93 1 0 := acF (by decide) (by decide +kernel) (by decide +kernel)
theorem ac_94 : AC LF 94 9 6 := acF (by decide) (by decide +kernel) (by decide +kernel)
theorem ac_95 : AC LF 95 9 6 := acF (by decide) (by decide +kernel) (by decide +kernel)
theorem ac_96 : AC LF 96 1 0 := acF (by decide) (by decide +kernel) (by decide +kernel)
theorem ac_97 : AC LF 97 9 6 := acF (by decide) (by decide +kernel) (by decide +kernel)
theorem ac_98 : AC LF 98 9 6 := acF (by decide) (by decide +kernel) (by decide +kernel)
theorem ac_99 : AC LF 99 1 0 := acF (by decide) (by decide +kernel) (by decide +kernel)
theorem ac_100 : AC LF 100 9 6 := acF (by decide) (by decide +kernel) (by decide +kernel)
theorem ac_101 : AC LF 101 9 6 := acF (by decide) (by decide +kernel) (by decide +kernel)
theorem ac_102 : AC LF 102 1 0 := acF (by decide) (by decide +kernel) (by decide +kernel)
theorem ac_103 : AC LF 103 9 6 := acF (by decide) (by decide +kernel) (by decide +kernel)
theorem ac_104 : AC LF 104 9 6 := acF (by decide) (by decide +kernel) (by decide +kernel)
theorem ac_105 : AC LF 105 4 0 := acF (by decide) (by decide +kernel) (by decide +kernel)
theorem ac_106 : AC LF 106 10 4 := acF (by decide) (by decide +kernel) (by decide +kernel)
theorem ac_107 : AC LF 107 6 0 := acF (by decide) (by decide +kernel) (by decide +kernel)
theorem ac_108 : AC LF 108 9 6 := acF (by decide) (by decide +kernel) (by decide +kernel)
theorem ac_109 : AC LF 109 9 6 := acF (by decide) (by decide +kernel) (by decide +kernel)
theorem ac_110 : AC LF 110 9 6 := acF (by decide) (by decide +kernel) (by decide +kernel)
theorem ac_111 : AC LF 111 9 6 := acF (by decide) (by decide +kernel) (by decide +kernel)
theorem ac_112 : AC LF 112 9 6 := acF (by decide) (by decide +kernel) (by decide +kernel)
theorem ac_113 : AC LF 113 9 10 := acF (by decide) (by decide +kernel) (by decide +kernel)
theorem ac_114 : AC LF 114 9 10 := acF (by decide) (by decide +kernel) (by decide +kernel)
theorem ac_115 : AC LF 115 9 10 := acF (by decide) (by decide +kernel) (by decide +kernel)
theorem ac_116 : AC LF 116 1 0 := acF (by decide) (by decide +kernel) (by decide +kernel)
theorem ac_117 : AC LF 117 9 6 := acF (by decide) (by decide +kernel) (by decide +kernel)
theorem ac_118 : AC LF 118 9 6 := acF (by decide) (by decide +kernel) (by decide +kernel)
theorem ac_119 : AC LF 119 1 0 := acF (by decide) (by decide +kernel) (by decide +kernel)
theorem ac_120 : AC LF 120 9 6 := acF (by decide) (by decide +kernel) (by decide +kernel)
theorem ac_121 : AC LF 121 9 6 := acF (by decide) (by decide +kernel) (by decide +kernel)
theorem ac_122 : AC LF 122 1 0 := acF (by decide) (by decide +kernel) (by decide +kernel)
theorem ac_123 : AC LF 123 9 6 := acF (by decide) (by decide +kernel) (by decide +kernel)
theorem ac_124 : AC LF 124 9 6 := acF (by decide) (by decide +kernel) (by decide +kernel)
theorem ac_125 : AC LF 125 1 0 := acF (by decide) (by decide +kernel) (by decide +kernel)
theorem ac_126 : AC LF 126 9 6 := acF (by decide) (by decide +kernel) (by decide +kernel)
theorem ac_127 : AC LF 127 9 6 := acF (by decide) (by decide +kernel) (by decide +kernel)
theorem ac_128 : AC LF 128 0 0 := acF (by decide) (by decide +kernel) (by decide +kernel)
theorem ac_129 : AC LF 129 9 499 := acF (by decide) (by decide +kernel) (by decide +kernel)
theorem ac_130 : AC LF 130 6 0 := acF (by decide) (by decide +kernel) (by decide +kernel)
theorem ac_131 : AC LF 131 9 6 := acF (by decide) (by decide +kernel) (by decide +kernel)
theorem ac_132 : AC LF 132 9 6 := acF (by decide) (by decide +kernel) (by decide +kernel)
theorem ac_133 : AC LF 133 9 6 := acF (by decide) (by decide +kernel) (by decide +kernel)
theorem ac_134 : AC LF 134 9 6 := acF (by decide) (by decide +kernel) (by decide +kernel)
theorem ac_135 : AC LF 135 9 6 := acF (by decide) (by decide +kernel) (by decide +kernel)
theorem ac_136 : AC LF 136 9 10 := acF (by decide) (by decide +kernel) (by decide +kernel)
theorem ac_137 : AC LF 137 9 10 := acF (by decide) (by decide +kernel) (by decide +kernel)
theorem ac_138 : AC LF 138 9 10 := acF (by decide) (by decide +kernel) (by decide +kernel)
theorem ac_139 : AC LF 139 8 0 := acF (by decide) (by decide +kernel) (by decide +kernel)
theorem ac_140 : AC LF 140 9 918 := acF (by decide) (by decide +kernel) (by decide +kernel)
theorem ac_141 : AC LF 141 9 200 := acF (by decide) (by decide +kernel) (by decide +kernel)
theorem ac_142 : AC LF 142 9 20 := acF (by decide) (by decide +kernel) (by decide +kernel)
