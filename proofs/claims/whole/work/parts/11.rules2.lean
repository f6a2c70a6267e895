theorem we_iald {x : CT} {L : List Nat} {cc : ByteArray} {nL : Nat} {own : String} {R : Room} {pc : Nat} {lo : List (Option Value)} {st : List Value} {M : Mem} (X : BS x L cc nL own R) {i n : Nat} (hi : AC L i 9 n) {j : Nat} (hj : j < n) (hn : n < 2 ^ 31) {w : Int32} (he : M i j = w) (hd : decode cc pc = .ok (.iaload, 1)) (kk : WP x L (pc + 1) lo (.int w :: st) M) : WP x L pc lo (.int (nI j) :: .ref i :: st) M := wn_iald X hi hj hn hd (by rw [he]; exact kk)
theorem we_get {x : CT} {L : List Nat} {cc : ByteArray} {nL : Nat} {own : String} {R : Room} {pc : Nat} {lo : List (Option Value)} {st : List Value} {M : Mem} (X : BS x L cc nL own R) {idx ci k : Nat} (hF : FL own idx ci k) {i n : Nat} (hi : AC L i ci n) (h9 : ci < 9) (hv : (FA i (M i))[k]? = some (.int (M i k))) {w : Int32} (he : M i k = w) (hd : decode cc pc = .ok (.getfield idx, 3)) (kk : WP x L (pc + 3) lo (.int w :: st) M) : WP x L pc lo (.ref i :: st) M := wp_get X hF hi h9 hv hd (by rw [he]; exact kk)
/-- fewer locals are known -/
def subL : List (Option Value) → List (Option Value) → Prop
  | [], [] => True
  | _ :: l, none :: l' => subL l l'
  | some v :: l, some w :: l' => v = w ∧ subL l l'
  | _, _ => False
theorem subL_of : ∀ (lo lo' : List (Option Value)), subL lo lo' → lo.length = lo'.length ∧ ∀ (i : Nat) (v : Value), lo'[i]? = some (some v) → lo[i]? = some (some v)
  | [], [], _ => ⟨rfl, fun i v h => by simp at h⟩
  | [], _ :: _, h => by simp [subL] at h
  | _ :: _, [], h => by simp [subL] at h
  | a :: l, none :: l', h => by
    have ih := subL_of l l' (by cases a <;> exact h)
    refine ⟨by simp [ih.1], fun i v hi => ?_⟩
    cases i with
    | zero => simp at hi
    | succ i => simpa using ih.2 i v (by simpa using hi)
  | none :: l, some w :: l', h => by simp [subL] at h
  | some v :: l, some w :: l', h => by
    obtain ⟨rfl, h⟩ := h
    have ih := subL_of l l' h
    refine ⟨by simp [ih.1], fun i v hi => ?_⟩
    cases i with
    | zero => simpa using hi
    | succ i => simpa using ih.2 i v (by simpa using hi)
theorem wp_drop {x : CT} {L : List Nat} {pc : Nat} {lo lo' : List (Option Value)} {st : List Value} {M : Mem} (he : subL lo lo') (k : WP x L pc lo' st M) : WP x L pc lo st M := by
  obtain ⟨p, l, e, R', s, m, args, below, meth, c, A, QQ, D, cs, ad, kc, ks⟩ := x
  intro H locs ls hP hD hS hl
  obtain ⟨h1, h2⟩ := subL_of _ _ he
  refine k H locs ls hP hD hS ⟨by rw [← h1]; exact hl.1, hl.2.1, fun q hq => hl.2.2 q ?_⟩
  obtain ⟨v, hv, hq2⟩ := lvl_mem.mp hq
  exact lvl_mem.mpr ⟨v, h2 _ _ hv, hq2⟩
theorem sw_out {a : Int32} {n : Nat} {h0 : Int} (h : ∀ j, j < n → ¬ a = nI j) (hn : n < 2 ^ 31) (e : h0 = (n : Int) - 1) : a.toInt < 0 ∨ h0 < a.toInt := by
  by_cases h1 : a.toInt < 0
  · exact Or.inl h1
  · right
    apply Int.not_le.mp
    intro h2
    have hj : a.toInt.toNat < n := by omega
    refine h a.toInt.toNat hj (Int32.toInt_inj.mp ?_)
    rw [nI_toInt (by omega)]
    omega
