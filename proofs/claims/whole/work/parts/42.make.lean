/-! making: worlds whose cells are not yet whole -/
abbrev XE : Type := (Nat × (Nat → Int32)) ⊕ ((Nat × List Value) ⊕ ((Nat × List Nat) ⊕ (Nat × (Nat → Int32))))
abbrev xI (n : Nat) (r : Nat → Int32) : XE := .inl (n, r)
abbrev xO (k : Nat) (fs : List Value) : XE := .inr (.inl (k, fs))
abbrev xQ (w : Nat) (gl : List Nat) : XE := .inr (.inr (.inl (w, gl)))
abbrev xD (i : Nat) (r : Nat → Int32) : XE := .inr (.inr (.inr (i, r)))
def XA (ad : Nat → Nat) (cs : ClassId × ClassId × ClassId) (e : XE) : va_E := match e with
  | .inl a => .inl (cs.1, a.1, .inl a.2)
  | .inr (.inl o) => .inr (o.1, o.2.map (CV ad))
  | .inr (.inr (.inl g)) => .inl ((if g.1 = 10 then cs.2.1 else cs.2.2), 4, .inr (.inr (.inr (.inr (fun l => (g.2[l]?).map ad)))))
  | .inr (.inr (.inr d)) => EA ad cs d.1 d.2
def WX (ad : Nat → Nat) (cs : ClassId × ClassId × ClassId) (Z : List (Nat × XE)) : va_W := Z.map (fun z => (ad z.1, XA ad cs z.2))
abbrev ZL (L : List Nat) (M : Mem) : List (Nat × XE) := L.map (fun i => (i, xD i (M i)))
theorem WX_ZL (ad : Nat → Nat) (cs : ClassId × ClassId × ClassId) (L : List Nat) (M : Mem) : WX ad cs (ZL L M) = WL ad cs L M := by
  unfold WX ZL WL; rw [List.map_map]; rfl
theorem WX_app (ad : Nat → Nat) (cs : ClassId × ClassId × ClassId) (Z Z' : List (Nat × XE)) : WX ad cs (Z ++ Z') = WX ad cs Z ++ WX ad cs Z' := List.map_append
def rv (v : Value) : List Nat := match v with
  | .ref i => [i]
  | _ => []
def rvs (vs : List Value) : List Nat := vs.flatMap rv
/-- which cells a content speaks of -/
def rfs (e : XE) : List Nat := match e with
  | .inl _ => []
  | .inr (.inl o) => rvs o.2
  | .inr (.inr (.inl g)) => g.2
  | .inr (.inr (.inr d)) => if KD d.1 = 9 then [] else if KD d.1 = 10 then [d.1 + 10 + 3 * 0, d.1 + 10 + 3 * 1, d.1 + 10 + 3 * 2, d.1 + 10 + 3 * 3] else if KD d.1 = 11 then [d.1 + 1 + 23 * 0, d.1 + 1 + 23 * 1, d.1 + 1 + 23 * 2, d.1 + 1 + 23 * 3] else rvs (FA d.1 d.2)
theorem CV_ag {ad ad' : Nat → Nat} {v : Value} (h : ∀ j ∈ rv v, ad' j = ad j) : CV ad' v = CV ad v := by
  cases v with
  | ref i => show Value.ref (ad' i) = Value.ref (ad i); rw [h i (by simp [rv])]
  | _ => rfl
theorem CVs_ag {ad ad' : Nat → Nat} {vs : List Value} (h : ∀ j ∈ rvs vs, ad' j = ad j) : vs.map (CV ad') = vs.map (CV ad) :=
  List.map_congr_left (fun v hv => CV_ag (fun j hj => h j (List.mem_flatMap.mpr ⟨v, hv, hj⟩)))
theorem arrV_cong {c : ClassId} {n : Nat} {f g : Nat → Value} (h : ∀ j, j < n → f j = g j) : arrV c n f = arrV c n g := by
  unfold arrV
  congr 1
  congr 1
  funext j
  exact h j.1 j.2
theorem at_ag {D : va_G} {cs : ClassId × ClassId × ClassId} {e : XE} {ad ad' : Nat → Nat} {a : Nat} {H : Heap} (h : ∀ j ∈ rfs e, ad' j = ad j) (hA : va_at D vwCl (a, XA ad cs e) H) : va_at D vwCl (a, XA ad' cs e) H := by
  rcases e with e | e | e | e
  · exact hA
  · have : XA ad' cs (.inr (.inl e)) = XA ad cs (.inr (.inl e)) := by
      show (Sum.inr (e.1, e.2.map (CV ad')) : va_E) = Sum.inr (e.1, e.2.map (CV ad))
      rw [CVs_ag h]
    rw [this]; exact hA
  · have : XA ad' cs (.inr (.inr (.inl e))) = XA ad cs (.inr (.inr (.inl e))) := by
      show (Sum.inl ((if e.1 = 10 then cs.2.1 else cs.2.2), 4, .inr (.inr (.inr (.inr (fun l => (e.2[l]?).map ad'))))) : va_E) = Sum.inl ((if e.1 = 10 then cs.2.1 else cs.2.2), 4, .inr (.inr (.inr (.inr (fun l => (e.2[l]?).map ad)))))
      have : (fun l => (e.2[l]?).map ad') = (fun l : Nat => (e.2[l]?).map ad) := by
        funext l
        cases hl : e.2[l]? with
        | none => rfl
        | some j => show some (ad' j) = some (ad j); rw [h j (List.mem_of_getElem? hl)]
      rw [this]
    rw [this]; exact hA
  · unfold XA EA at hA ⊢
    unfold rfs at h
    dsimp only at h hA ⊢
    by_cases c9 : KD e.1 = 9
    · rw [if_pos c9] at hA ⊢; exact hA
    · rw [if_neg c9] at hA h ⊢
      by_cases c10 : KD e.1 = 10
      · rw [if_pos c10] at hA h ⊢
        have hA' : H[a]? = some (vp_cell _ _) := hA
        show H[a]? = some (vp_cell _ _)
        rw [hA', vp_cell_q, vp_cell_q]
        congr 1
        refine arrV_cong (fun j hj => ?_)
        have hj4 : j = 0 ∨ j = 1 ∨ j = 2 ∨ j = 3 := by omega
        have : ad' (e.1 + 10 + 3 * j) = ad (e.1 + 10 + 3 * j) := h _ (by rcases hj4 with rfl | rfl | rfl | rfl <;> simp)
        rw [this]
      · rw [if_neg c10] at hA h ⊢
        by_cases c11 : KD e.1 = 11
        · rw [if_pos c11] at hA h ⊢
          have hA' : H[a]? = some (vp_cell _ _) := hA
          show H[a]? = some (vp_cell _ _)
          rw [hA', vp_cell_q, vp_cell_q]
          congr 1
          refine arrV_cong (fun j hj => ?_)
          have hj4 : j = 0 ∨ j = 1 ∨ j = 2 ∨ j = 3 := by omega
          have : ad' (e.1 + 1 + 23 * j) = ad (e.1 + 1 + 23 * j) := h _ (by rcases hj4 with rfl | rfl | rfl | rfl <;> simp)
          rw [this]
        · rw [if_neg c11] at hA h ⊢
          rw [CVs_ag h]; exact hA
/-- none of N is spoken of -/
def nz (N : List Nat) (Z : List (Nat × XE)) : Bool := Z.all (fun z => !(N.contains z.1) && (rfs z.2).all (fun j => !(N.contains j)))
theorem nz_at {N : List Nat} {Z : List (Nat × XE)} (h : nz N Z = true) : ∀ z ∈ Z, z.1 ∉ N ∧ ∀ j ∈ rfs z.2, j ∉ N := by
  intro z hz
  have := List.all_eq_true.mp h z hz
  simp only [Bool.and_eq_true, Bool.not_eq_true', List.all_eq_true] at this
  refine ⟨fun q => ?_, fun j hj q => ?_⟩
  · have := this.1; rw [List.contains_iff_mem.mpr q] at this; exact absurd this (by decide)
  · have := this.2 j hj; rw [List.contains_iff_mem.mpr q] at this; exact absurd this (by decide)
theorem P_ag {D : va_G} {cs : ClassId × ClassId × ClassId} {Z : List (Nat × XE)} {ad ad' : Nat → Nat} {H : Heap} (h : ∀ z ∈ Z, ad' z.1 = ad z.1 ∧ ∀ j ∈ rfs z.2, ad' j = ad j) (hP : va_P D vwCl (WX ad cs Z) H) : va_P D vwCl (WX ad' cs Z) H := by
  intro k q hk
  unfold WX at hk
  rw [List.getElem?_map] at hk
  cases hz : Z[k]? with
  | none => rw [hz] at hk; cases hk
  | some z =>
    rw [hz] at hk
    cases hk
    obtain ⟨h1, h2⟩ := h z (List.mem_of_getElem? hz)
    show va_at D vwCl (ad' z.1, XA ad' cs z.2) H
    rw [h1]
    exact at_ag h2 (hP k (ad z.1, XA ad cs z.2) (by unfold WX; rw [List.getElem?_map, hz]; rfl))
theorem D_ag {A : Nat → Prop} {w w' : va_W} (h : w'.map Prod.fst = w.map Prod.fst) (hD : va_D A w) : va_D A w' := by
  have g : ∀ (k : Nat) (q : Nat × va_E), w'[k]? = some q → ∃ q2, w[k]? = some q2 ∧ q2.1 = q.1 := by
    intro k q hk
    have e := congrArg (fun l => l[k]?) h
    simp only [List.getElem?_map, hk, Option.map_some] at e
    cases hw : w[k]? with
    | none => rw [hw] at e; cases e
    | some q2 => rw [hw] at e; exact ⟨q2, rfl, by simpa using e.symm⟩
  refine ⟨fun i j p q hi hj hpq => ?_, fun k q hk => ?_⟩
  · obtain ⟨p2, a1, a2⟩ := g i p hi
    obtain ⟨q2, b1, b2⟩ := g j q hj
    exact hD.1 i j p2 q2 a1 b1 (by rw [a2, b2]; exact hpq)
  · obtain ⟨q2, b1, b2⟩ := g k q hk
    rw [← b2]; exact hD.2 k q2 b1
theorem WX_fst {cs : ClassId × ClassId × ClassId} {Z : List (Nat × XE)} {ad ad' : Nat → Nat} (h : ∀ z ∈ Z, ad' z.1 = ad z.1) : (WX ad' cs Z).map Prod.fst = (WX ad cs Z).map Prod.fst := by
  unfold WX
  rw [List.map_map, List.map_map]
  exact List.map_congr_left (fun z hz => h z hz)
def WQ (x : CT) (ad : Nat → Nat) (kc ks : Nat) (Z : List (Nat × XE)) (pc : Nat) (lo : List (Option Value)) (st : List Value) : Prop := match x with
  | (p, l, e, R, s, m, args, below, meth, c, A, QQ, D, cs, _, _, _) => ∀ (H : Heap) (locs : List Loc) (ls : Array Slot), va_P D vwCl (WX ad cs Z) H → va_D A (WX ad cs Z) → va_S A s.heap H locs → LO ad ls lo → W p l e R s m args below meth c H locs kc ks QQ (F0 m pc ls (st.map (CV ad)))
def OV (x : CT) : Prop := match x with
  | (_, _, _, _, s, _, _, _, _, _, _, _, _, _, _, _, _) => va_AO "FileRounds$Listener" s ∧ va_AO "FileRounds$Rounds" s
def NM (x : CT) : Prop := match x with
  | (_, _, _, _, _, _, _, _, meth, _, _, _, _, _, _, _, _) => meth.name = "<init>"
/-- .. of the locals and the stack -/
def rlo (lo : List (Option Value)) : List Nat := lo.flatMap (fun o => match o with
  | some v => rv v
  | none => [])
theorem LO_ag {ad ad' : Nat → Nat} {ls : Array Slot} {lo : List (Option Value)} (h : ∀ j ∈ rlo lo, ad' j = ad j) (hl : LO ad ls lo) : LO ad' ls lo := by
  refine ⟨hl.1, hl.2.1, fun q hq => hl.2.2 q ?_⟩
  obtain ⟨v, h1, h2⟩ := lvl_mem.mp hq
  refine lvl_mem.mpr ⟨v, h1, ?_⟩
  rw [h2]
  exact CV_ag (fun j hj => h j (List.mem_flatMap.mpr ⟨some v, List.mem_of_getElem? h1, hj⟩))
def nn (N : List Nat) (l : List Nat) : Bool := l.all (fun j => !(N.contains j))
theorem nn_at {N l : List Nat} (h : nn N l = true) : ∀ j ∈ l, j ∉ N := fun j hj q => by
  have := List.all_eq_true.mp h j hj
  rw [List.contains_iff_mem.mpr q] at this; exact absurd this (by decide)
/-- a new address for cell i -/
def sa (ad : Nat → Nat) (i q : Nat) : Nat → Nat := fun j => if j = i then q else ad j
theorem sa_at (ad : Nat → Nat) (i q : Nat) : sa ad i q i = q := by simp [sa]
theorem sa_ne {ad : Nat → Nat} {i q j : Nat} (h : j ≠ i) : sa ad i q j = ad j := by simp [sa, h]
section MAKE
variable {x : CT} {cc : ByteArray} {nL : Nat} {own : String} {R : Room} {ad : Nat → Nat} {kc ks : Nat} {Z : List (Nat × XE)} {pc : Nat} {lo : List (Option Value)} {st : List Value}
theorem wq_aload_n (X : BS x [] cc nL own R) {k4 : Fin 4} {i v : Nat} (hd : decode cc pc = .ok (.aload_n k4, 1)) (hi : (k4 : Nat) = i) (hv : lo[i]? = some (some (.ref v))) (k : WQ x ad kc ks Z (pc + 1) lo (.ref v :: st)) : WQ x ad kc ks Z pc lo st := by
  obtain ⟨p, l, e, R', s, m, args, below, meth, c, A, QQ, D, cs, ad0, kc0, ks0⟩ := x
  obtain ⟨hR, hx, hb, hml, hown, hts, hnw, hlk, hA, hK, hnd, hkc, hks⟩ := X
  intro H locs ls hP hD hS hl
  exact lv_aload_n hx hb hd hi (LO_at hl hv) (k H locs ls hP hD hS hl)
theorem wq_iload_n (X : BS x [] cc nL own R) {k4 : Fin 4} {i : Nat} {v : Int32} (hd : decode cc pc = .ok (.iload_n k4, 1)) (hi : (k4 : Nat) = i) (hv : lo[i]? = some (some (.int v))) (k : WQ x ad kc ks Z (pc + 1) lo (.int v :: st)) : WQ x ad kc ks Z pc lo st := by
  obtain ⟨p, l, e, R', s, m, args, below, meth, c, A, QQ, D, cs, ad0, kc0, ks0⟩ := x
  obtain ⟨hR, hx, hb, hml, hown, hts, hnw, hlk, hA, hK, hnd, hkc, hks⟩ := X
  intro H locs ls hP hD hS hl
  exact lv_iload_n hx hb hd hi (LO_at hl hv) (k H locs ls hP hD hS hl)
theorem wq_iconst (X : BS x [] cc nL own R) {n : Int} {v : Int32} (hd : decode cc pc = .ok (.iconst n, 1)) (hv : Int32.ofInt n = v) (k : WQ x ad kc ks Z (pc + 1) lo (.int v :: st)) : WQ x ad kc ks Z pc lo st := by
  obtain ⟨p, l, e, R', s, m, args, below, meth, c, A, QQ, D, cs, ad0, kc0, ks0⟩ := x
  obtain ⟨hR, hx, hb, hml, hown, hts, hnw, hlk, hA, hK, hnd, hkc, hks⟩ := X
  intro H locs ls hP hD hS hl
  exact lv_iconst hx hb hd hv (k H locs ls hP hD hS hl)
theorem wq_bipush (X : BS x [] cc nL own R) {n : Int} {v : Int32} (hd : decode cc pc = .ok (.bipush n, 2)) (hv : (Int8.ofInt n).toInt32 = v) (k : WQ x ad kc ks Z (pc + 2) lo (.int v :: st)) : WQ x ad kc ks Z pc lo st := by
  obtain ⟨p, l, e, R', s, m, args, below, meth, c, A, QQ, D, cs, ad0, kc0, ks0⟩ := x
  obtain ⟨hR, hx, hb, hml, hown, hts, hnw, hlk, hA, hK, hnd, hkc, hks⟩ := X
  intro H locs ls hP hD hS hl
  exact lv_bipush hx hb hd hv (k H locs ls hP hD hS hl)
theorem wq_sipush (X : BS x [] cc nL own R) {n : Int} {v : Int32} (hd : decode cc pc = .ok (.sipush n, 3)) (hv : (Int16.ofInt n).toInt32 = v) (k : WQ x ad kc ks Z (pc + 3) lo (.int v :: st)) : WQ x ad kc ks Z pc lo st := by
  obtain ⟨p, l, e, R', s, m, args, below, meth, c, A, QQ, D, cs, ad0, kc0, ks0⟩ := x
  obtain ⟨hR, hx, hb, hml, hown, hts, hnw, hlk, hA, hK, hnd, hkc, hks⟩ := X
  intro H locs ls hP hD hS hl
  exact lv_sipush hx hb hd hv (k H locs ls hP hD hS hl)
theorem wq_goto (X : BS x [] cc nL own R) {off : Int} {tgt : Nat} (hd : decode cc pc = .ok (.goto off, 3)) (ht : (pc : Int) + off = (tgt : Int)) (k : WQ x ad kc ks Z tgt lo st) : WQ x ad kc ks Z pc lo st := by
  obtain ⟨p, l, e, R', s, m, args, below, meth, c, A, QQ, D, cs, ad0, kc0, ks0⟩ := x
  obtain ⟨hR, hx, hb, hml, hown, hts, hnw, hlk, hA, hK, hnd, hkc, hks⟩ := X
  intro H locs ls hP hD hS hl
  exact lv_goto hx hb hd ht (k H locs ls hP hD hS hl)
theorem wq_icmp_ge (X : BS x [] cc nL own R) {a b : Int32} {off : Int} {tgt : Nat} (hd : decode cc pc = .ok (.if_icmp .ge off, 3)) (ht : (pc : Int) + off = (tgt : Int)) (kt : b ≤ a → WQ x ad kc ks Z tgt lo st) (kf : ¬ b ≤ a → WQ x ad kc ks Z (pc + 3) lo st) : WQ x ad kc ks Z pc lo (.int b :: .int a :: st) := by
  obtain ⟨p, l, e, R', s, m, args, below, meth, c, A, QQ, D, cs, ad0, kc0, ks0⟩ := x
  obtain ⟨hR, hx, hb, hml, hown, hts, hnw, hlk, hA, hK, hnd, hkc, hks⟩ := X
  intro H locs ls hP hD hS hl
  exact lv_icmp_ge hx hb hd ht (fun h => kt h H locs ls hP hD hS hl) (fun h => kf h H locs ls hP hD hS hl)
theorem wq_dup (X : BS x [] cc nL own R) {va : Value} (hd : decode cc pc = .ok (.dup, 1)) (hva : va.category = 1) (k : WQ x ad kc ks Z (pc + 1) lo (va :: va :: st)) : WQ x ad kc ks Z pc lo (va :: st) := by
  obtain ⟨p, l, e, R', s, m, args, below, meth, c, A, QQ, D, cs, ad0, kc0, ks0⟩ := x
  obtain ⟨hR, hx, hb, hml, hown, hts, hnw, hlk, hA, hK, hnd, hkc, hks⟩ := X
  intro H locs ls hP hD hS hl
  exact lv_dup hx hb hd (by rw [CV_cat]; exact hva) (k H locs ls hP hD hS hl)
theorem wq_pop (X : BS x [] cc nL own R) {va : Value} (hd : decode cc pc = .ok (.pop, 1)) (hva : va.category = 1) (k : WQ x ad kc ks Z (pc + 1) lo st) : WQ x ad kc ks Z pc lo (va :: st) := by
  obtain ⟨p, l, e, R', s, m, args, below, meth, c, A, QQ, D, cs, ad0, kc0, ks0⟩ := x
  obtain ⟨hR, hx, hb, hml, hown, hts, hnw, hlk, hA, hK, hnd, hkc, hks⟩ := X
  intro H locs ls hP hD hS hl
  exact lv_pop hx hb hd (by rw [CV_cat]; exact hva) (k H locs ls hP hD hS hl)
theorem wq_istore_n (X : BS x [] cc nL own R) {k4 : Fin 4} {i : Nat} {v : Int32} {lo' : List (Option Value)} (hd : decode cc pc = .ok (.istore_n k4, 1)) (hi : (k4 : Nat) = i) (hi2 : i < lo.length) (hn : noL lo i = true) (he : lo.set i (some (.int v)) = lo') (k : WQ x ad kc ks Z (pc + 1) lo' st) : WQ x ad kc ks Z pc lo (.int v :: st) := by
  obtain ⟨p, l, e, R', s, m, args, below, meth, c, A, QQ, D, cs, ad0, kc0, ks0⟩ := x
  obtain ⟨hR, hx, hb, hml, hown, hts, hnw, hlk, hA, hK, hnd, hkc, hks⟩ := X
  intro H locs ls hP hD hS hl
  exact lv_istore_n hx hb hd hi hl hi2 rfl (fun ls' hl' => k H locs ls' hP hD hS (LO_st1 he hn hl'))
theorem wq_iinc (X : BS x [] cc nL own R) {i : Nat} {n : Int} {a v : Int32} {lo' : List (Option Value)} (hd : decode cc pc = .ok (.iinc i n, 3)) (ha : lo[i]? = some (some (.int a))) (hv : a + Int32.ofInt n = v) (hn : noL lo i = true) (he : lo.set i (some (.int v)) = lo') (k : WQ x ad kc ks Z (pc + 3) lo' st) : WQ x ad kc ks Z pc lo st := by
  obtain ⟨p, l, e, R', s, m, args, below, meth, c, A, QQ, D, cs, ad0, kc0, ks0⟩ := x
  obtain ⟨hR, hx, hb, hml, hown, hts, hnw, hlk, hA, hK, hnd, hkc, hks⟩ := X
  intro H locs ls hP hD hS hl
  obtain ⟨q, hq⟩ := List.getElem?_of_mem (lvl_mem (ad := ad) (lo := lo) (q := (i, .int a)).mpr ⟨_, ha, rfl⟩)
  exact lv_iinc hx hb hd hl hq hv (List.getElem?_eq_some_iff.mp ha).1 rfl (fun ls' hl' => k H locs ls' hP hD hS (LO_st1 he hn hl'))
theorem wq_objInit (X : BS x [] cc nL own R) {idx i : Nat} (h1 : Cond.methodLink own idx Lib.objectInit ∈ wd_G) (h2 : Cond.instanceMethod Lib.objectInit ∈ wd_G) (h3 : Cond.code Lib.objectInit ⟨#[0xb1]⟩ 1 none ∈ wd_G) (hnL : lo.length = nL) (hf : 1 ≤ R.frames) (hw : (st.map fun v => v.category).sum + 12 ≤ R.locals) (hd : decode cc pc = .ok (.invokespecial idx, 3)) (k : WQ x ad kc ks Z (pc + 3) lo st) : WQ x ad kc ks Z pc lo (.ref i :: st) := by
  obtain ⟨p, l, e, R', s, m, args, below, meth, c, A, QQ, D, cs, ad0, kc0, ks0⟩ := x
  obtain ⟨hR, hx, hb, hml, hown, hts, hnw, hlk, hA, hK, hnd, hkc, hks⟩ := X
  intro H locs ls hP hD hS hl
  subst hR
  have hwc : ((st.map (CV ad)).map fun v => v.category).sum + 12 ≤ R'.locals := by
    have e : ((st.map (CV ad)).map fun v => v.category) = (st.map fun v => v.category) := by rw [List.map_map]; exact List.map_congr_left (fun v _ => CV_cat ad v)
    rw [e]; exact hw
  refine W.objInit hx hb hown (hts _ h1) (hts _ h2) (hts _ h3) (g := F0 m pc ls ((.ref i :: st).map (CV ad))) rfl (by rw [hml, ← hnL]; exact hl.1) rfl hd hf (by show 2 * 0 + _ + 12 ≤ _; omega) ?_
  refine W.eq (g2 := F0 m (pc + 3) ls (st.map (CV ad))) rfl ?_
  exact k H locs ls hP hD hS hl
/-- a field of an object that isn't whole -/
theorem wq_get (X : BS x [] cc nL own R) {idx ci k : Nat} (hF : FL own idx ci k) {i q0 : Nat} {fs : List Value} (hz : Z[q0]? = some (i, xO ci fs)) {v : Value} (hv : fs[k]? = some v) (hd : decode cc pc = .ok (.getfield idx, 3)) (kk : WQ x ad kc ks Z (pc + 3) lo (v :: st)) : WQ x ad kc ks Z pc lo (.ref i :: st) := by
  obtain ⟨p, l, e, R', s, m, args, below, meth, c, A, QQ, D, cs, ad0, kc0, ks0⟩ := x
  obtain ⟨hR, hx, hb, hml, hown, hts, hnw, hlk, hA, hK, hnd, hkc, hks⟩ := X
  intro H locs ls hP hD hS hl
  obtain ⟨C, T, N, hc, hk, hT, hin, hlk2⟩ := hF
  have hq : (WX ad cs Z)[q0]? = some (ad i, .inr (ci, fs.map (CV ad))) := by unfold WX; rw [List.getElem?_map, hz]; rfl
  have hv' : (fs.map (CV ad))[k]? = some (CV ad v) := by rw [List.getElem?_map, hv]; rfl
  rcases hlk2 with h | ⟨host, h⟩
  · exact va_get hx hb hts hin hown hK hP q0 hq hc k hk (hts _ h) (fun _ h9 => by rw [hT] at h9; exact h9) hv' hd (kk H locs ls hP hD hS hl)
  · exact va_getN hx hb hts hin hown hK hP q0 hq hc k hk (va_Nw.use rfl (hnw _ h)) (fun _ h9 => by rw [hT] at h9; exact h9) hv' hd (kk H locs ls hP hD hS hl)
/-- a final field is written, in a constructor -/
def FF (own : String) (ci k : Nat) (ty : FieldType) : Prop := ∃ (C : String) (T : u_T) (N : Nat) (ty0 : Nat → FieldType), vwCl[ci]? = some (C, T, N) ∧ (T k).2.2.2 = true ∧ (T k).1 = own ∧ parseFieldDescriptor (T k).2.2.1 = some ty ∧ (∀ j, j < N → parseFieldDescriptor (T j).2.2.1 = some (ty0 j)) ∧ (∀ a, a < N → ∀ b, b < N → a ≠ b → (T a).2.1 ≠ (T b).2.1)
theorem wq_putF (X : BS x [] cc nL own R) (Nm : NM x) {idx ci k : Nat} {ty : FieldType} (hF : FL own idx ci k) (hF2 : FF own ci k ty) {i q0 : Nat} {fs : List Value} {Z' : List (Nat × XE)} {v : Value} (hz : Z[q0]? = some (i, xO ci fs)) (hk2 : k < fs.length) (hn : ∀ a : Nat → Nat, narrow ty (CV a v) = CV a v) (hfit : ∀ a : Nat → Nat, fits ty (CV a v) = true) (hZ : Z.set q0 (i, xO ci (fs.set k v)) = Z') (hd : decode cc pc = .ok (.putfield idx, 3)) (hlink : Cond.fieldLink own idx own ((vwCl.getD ci ("", fun _ => ("", "", "", false), 0)).2.1 k).2.1 ((vwCl.getD ci ("", fun _ => ("", "", "", false), 0)).2.1 k).2.2.1 ∈ wd_G) (kk : WQ x ad kc ks Z' (pc + 3) lo st) : WQ x ad kc ks Z pc lo (v :: .ref i :: st) := by
  obtain ⟨p, l, e, R', s, m, args, below, meth, c, A, QQ, D, cs, ad0, kc0, ks0⟩ := x
  obtain ⟨hR, hx, hb, hml, hown, hts, hnw, hlk, hA, hK, hnd, hkc, hks⟩ := X
  intro H locs ls hP hD hS hl
  obtain ⟨C, T, N, hc, hk, hT, hin, -⟩ := hF
  obtain ⟨C', T', N', ty0, hc', f1, f2, f3, f4, f5⟩ := hF2
  rw [hc] at hc'
  cases hc'
  have hgd : vwCl.getD ci ("", fun _ => ("", "", "", false), 0) = (C, T, N) := by rw [List.getD_eq_getElem?_getD, hc]; rfl
  rw [hgd] at hlink
  have hCo : C = own := hT.symm.trans f2
  subst hCo
  have hq : (WX ad cs Z)[q0]? = some (ad i, .inr (ci, fs.map (CV ad))) := by unfold WX; rw [List.getElem?_map, hz]; rfl
  have hset : (WX ad cs Z).set q0 (ad i, .inr (ci, (fs.map (CV ad)).set k (CV ad v))) = WX ad cs Z' := by
    rw [← hZ]; unfold WX; rw [List.map_set]
    show _ = (Z.map _).set q0 (ad i, Sum.inr (ci, (fs.set k v).map (CV ad)))
    rw [List.map_set]
  refine va_putF hx hb hts hin ty0 f4 f5 hown hK hP hD hS q0 hq hc k hk (hts _ hlink) (fun _ h9 => by rw [hT] at h9; exact h9) f1 Nm hT f3 (hn ad) (hfit ad) (by rw [List.length_map]; exact hk2) hd ?_
  rw [hset]
  exact fun H1 locs1 a1 a2 a3 => kk H1 locs1 ls a1 a2 a3 hl
end MAKE
