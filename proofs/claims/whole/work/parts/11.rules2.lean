theorem we_iald {x : CT} {L : List Nat} {cc : ByteArray} {nL : Nat} {own : String} {R : Room} {pc : Nat} {lo : List (Option Value)} {st : List Value} {M : Mem} (X : BS x L cc nL own R) {i n : Nat} (hi : AC L i 9 n) {j : Nat} (hj : j < n) (hn : n < 2 ^ 31) {w : Int32} (he : M i j = w) (hd : decode cc pc = .ok (.iaload, 1)) (kk : WP x L (pc + 1) lo (.int w :: st) M) : WP x L pc lo (.int (nI j) :: .ref i :: st) M := wn_iald X hi hj hn hd (by rw [he]; exact kk)
theorem we_get {x : CT} {L : List Nat} {cc : ByteArray} {nL : Nat} {own : String} {R : Room} {pc : Nat} {lo : List (Option Value)} {st : List Value} {M : Mem} (X : BS x L cc nL own R) {idx ci k : Nat} (hF : FL own idx ci k) {i n : Nat} (hi : AC L i ci n) (h9 : ci < 9) (hv : (FA i (M i))[k]? = some (.int (M i k))) {w : Int32} (he : M i k = w) (hd : decode cc pc = .ok (.getfield idx, 3)) (kk : WP x L (pc + 3) lo (.int w :: st) M) : WP x L pc lo (.ref i :: st) M := wp_get X hF hi h9 hv hd (by rw [he]; exact kk)
/-- fewer locals are known -/
def subL : List (Option Value) → List (Option Value) → Prop
  | [], [] => True
  | _ :: l, none :: l' => subL l l'
  | some v :: l, some w :: l' => v = w ∧ subL l l'
  | _, _ => False
theorem subL_of : ∀ (lo lo' : List (Option Value)), subL lo lo' → lo.length = lo'.length ∧ ∀ (i : Nat) (v : Value), lo'[i]? = some (some v) → lo[i]? = some (some v)
  | [], [], _ => ⟨rfl, fun i v h => by simp at h⟩
  | [], _ :: _, h => by simp [subL] at h
  | _ :: _, [], h => by simp [subL] at h
  | a :: l, none :: l', h => by
    have ih := subL_of l l' (by cases a <;> exact h)
    refine ⟨by simp [ih.1], fun i v hi => ?_⟩
    cases i with
    | zero => simp at hi
    | succ i => simpa using ih.2 i v (by simpa using hi)
  | none :: l, some w :: l', h => by simp [subL] at h
  | some v :: l, some w :: l', h => by
    obtain ⟨rfl, h⟩ := h
    have ih := subL_of l l' h
    refine ⟨by simp [ih.1], fun i v hi => ?_⟩
    cases i with
    | zero => simpa using hi
    | succ i => simpa using ih.2 i v (by simpa using hi)
theorem wp_drop {x : CT} {L : List Nat} {pc : Nat} {lo lo' : List (Option Value)} {st : List Value} {M : Mem} (he : subL lo lo') (k : WP x L pc lo' st M) : WP x L pc lo st M := by
  obtain ⟨p, l, e, R', s, m, args, below, meth, c, A, QQ, D, cs, ad, kc, ks⟩ := x
  intro H locs ls hP hD hS hl
  obtain ⟨h1, h2⟩ := subL_of _ _ he
  refine k H locs ls hP hD hS ⟨by rw [← h1]; exact hl.1, hl.2.1, fun q hq => hl.2.2 q ?_⟩
  obtain ⟨v, hv, hq2⟩ := lvl_mem.mp hq
  exact lvl_mem.mpr ⟨v, h2 _ _ hv, hq2⟩
theorem sw_out {a : Int32} {n : Nat} {h0 : Int} (h : ∀ j, j < n → ¬ a = nI j) (hn : n < 2 ^ 31) (e : h0 = (n : Int) - 1) : a.toInt < 0 ∨ h0 < a.toInt := by
  by_cases h1 : a.toInt < 0
  · exact Or.inl h1
  · right
    apply Int.not_le.mp
    intro h2
    have hj : a.toInt.toNat < n := by omega
    refine h a.toInt.toNat hj (Int32.toInt_inj.mp ?_)
    rw [nI_toInt (by omega)]
    omega
theorem wn_idec {x : CT} {L : List Nat} {cc : ByteArray} {nL : Nat} {own : String} {R : Room} {pc : Nat} {lo : List (Option Value)} {st : List Value} {M : Mem} (X : BS x L cc nL own R) {i : Nat} {a : Nat} {lo' : List (Option Value)} (hd : decode cc pc = .ok (.iinc i (-1), 3)) (ha : lo[i]? = some (some (.int (nI a)))) (h1 : 1 ≤ a) (hn : noL lo i = true) (he : lo.set i (some (.int (nI (a - 1)))) = lo') (k : WP x L (pc + 3) lo' st M) : WP x L pc lo st M := wp_iinc X hd ha (by obtain ⟨b, rfl⟩ : ∃ b, a = b + 1 := ⟨a - 1, by omega⟩; exact pk_m1 b) hn he k
theorem wn_and3 {x : CT} {L : List Nat} {cc : ByteArray} {nL : Nat} {own : String} {R : Room} {pc : Nat} {lo : List (Option Value)} {st : List Value} {M : Mem} (X : BS x L cc nL own R) {a : Nat} (hd : decode cc pc = .ok (.iand, 1)) (ha : a < 2 ^ 31) (k : WP x L (pc + 1) lo (.int (nI (a % 4)) :: st) M) : WP x L pc lo (.int (nI 3) :: .int (nI a) :: st) M := wp_iand X hd (by rw [pk_andN (n := a) (m := nI 3) (by omega) 2 (by decide)]; exact k)
theorem wp_alen {x : CT} {L : List Nat} {cc : ByteArray} {nL : Nat} {own : String} {R : Room} {pc : Nat} {lo : List (Option Value)} {st : List Value} {M : Mem} (X : BS x L cc nL own R) {i n : Nat} (hi : AC L i 9 n) (hd : decode cc pc = .ok (.arraylength, 1)) (kk : WP x L (pc + 1) lo (.int (nI n) :: st) M) : WP x L pc lo (.ref i :: st) M := by
  obtain ⟨p, l, e, R', s, m, args, below, meth, c, A, QQ, D, cs, ad, kc, ks⟩ := x
  obtain ⟨hR, hx, hb, hml, hown, hts, hnw, hlk, hA, hK, hnd, hkc, hks⟩ := X
  intro H locs ls hP hD hS hl
  obtain ⟨q, -, hq⟩ := WL_get (ad := ad) (cs := cs) (M := M) hi.1
  rw [EA_i hi.2.1, hi.2.2] at hq
  exact va_alen hx hb hK hP q 0 hq rfl rfl hd (kk H locs ls hP hD hS hl)
theorem nI_le0 {a : Nat} (h : a < 2 ^ 31) : nI a ≤ 0 ↔ a = 0 := by
  rw [← nI_0, nI_leI h (by decide)]; omega
theorem nI_gt0 {a : Nat} (h : a < 2 ^ 31) : 0 < nI a ↔ 0 < a := by
  rw [← nI_0, nI_ltI (by decide) h]
theorem nI_eq0 {a : Nat} (h : a < 2 ^ 31) : nI a = 0 ↔ a = 0 := by
  rw [← nI_0, nI_eq h (by decide)]
theorem wn_if_eq {x : CT} {L : List Nat} {cc : ByteArray} {nL : Nat} {own : String} {R : Room} {pc : Nat} {lo : List (Option Value)} {st : List Value} {M : Mem} (X : BS x L cc nL own R) {a : Nat} {off : Int} {tgt : Nat} (hd : decode cc pc = .ok (.ifCond .eq off, 3)) (ht : (pc : Int) + off = (tgt : Int)) (ha : a < 2 ^ 31) (kt : a = 0 → WP x L tgt lo st M) (kf : 0 < a → WP x L (pc + 3) lo st M) : WP x L pc lo (.int (nI a) :: st) M := wp_if_eq X hd ht (fun h => kt ((nI_eq0 ha).mp h)) (fun h => kf (Nat.pos_of_ne_zero (fun q => h ((nI_eq0 ha).mpr q))))
theorem wn_if_ne {x : CT} {L : List Nat} {cc : ByteArray} {nL : Nat} {own : String} {R : Room} {pc : Nat} {lo : List (Option Value)} {st : List Value} {M : Mem} (X : BS x L cc nL own R) {a : Nat} {off : Int} {tgt : Nat} (hd : decode cc pc = .ok (.ifCond .ne off, 3)) (ht : (pc : Int) + off = (tgt : Int)) (ha : a < 2 ^ 31) (kt : 0 < a → WP x L tgt lo st M) (kf : a = 0 → WP x L (pc + 3) lo st M) : WP x L pc lo (.int (nI a) :: st) M := wp_if_ne X hd ht (fun h => kt (Nat.pos_of_ne_zero (fun q => h ((nI_eq0 ha).mpr q)))) (fun h => kf ((nI_eq0 ha).mp h))
theorem wn_if_le {x : CT} {L : List Nat} {cc : ByteArray} {nL : Nat} {own : String} {R : Room} {pc : Nat} {lo : List (Option Value)} {st : List Value} {M : Mem} (X : BS x L cc nL own R) {a : Nat} {off : Int} {tgt : Nat} (hd : decode cc pc = .ok (.ifCond .le off, 3)) (ht : (pc : Int) + off = (tgt : Int)) (ha : a < 2 ^ 31) (kt : a = 0 → WP x L tgt lo st M) (kf : 0 < a → WP x L (pc + 3) lo st M) : WP x L pc lo (.int (nI a) :: st) M := wp_if_le X hd ht (fun h => kt ((nI_le0 ha).mp h)) (fun h => kf (Nat.pos_of_ne_zero (fun q => h ((nI_le0 ha).mpr q))))
theorem wn_if_gt {x : CT} {L : List Nat} {cc : ByteArray} {nL : Nat} {own : String} {R : Room} {pc : Nat} {lo : List (Option Value)} {st : List Value} {M : Mem} (X : BS x L cc nL own R) {a : Nat} {off : Int} {tgt : Nat} (hd : decode cc pc = .ok (.ifCond .gt off, 3)) (ht : (pc : Int) + off = (tgt : Int)) (ha : a < 2 ^ 31) (kt : 0 < a → WP x L tgt lo st M) (kf : a = 0 → WP x L (pc + 3) lo st M) : WP x L pc lo (.int (nI a) :: st) M := wp_if_gt X hd ht (fun h => kt ((nI_gt0 ha).mp h)) (fun h => kf (Nat.eq_zero_of_not_pos (fun q => h ((nI_gt0 ha).mpr q))))
