/-! the cells by their numbers: 0 the FileRounds, 1 its script, 3 and 7 its plans, 11 its rounds, 34 its past, 36, 59, 82, 105 what that keeps, 128 its forecast; 139 the reference. Kinds: 0 to 8 the classes, 9 int[], 10 Listener[], 11 Rounds[] -/
def KDl : List Nat := [7, 5, 9, 3, 9, 9, 9, 3, 9, 9, 9, 4, 10, 6, 9, 9, 9, 9, 9, 9, 9, 9, 1, 9, 9, 1, 9, 9, 1, 9, 9, 1, 9, 9, 2, 11, 4, 10, 6, 9, 9, 9, 9, 9, 9, 9, 9, 1, 9, 9, 1, 9, 9, 1, 9, 9, 1, 9, 9, 4, 10, 6, 9, 9, 9, 9, 9, 9, 9, 9, 1, 9, 9, 1, 9, 9, 1, 9, 9, 1, 9, 9, 4, 10, 6, 9, 9, 9, 9, 9, 9, 9, 9, 1, 9, 9, 1, 9, 9, 1, 9, 9, 1, 9, 9, 4, 10, 6, 9, 9, 9, 9, 9, 9, 9, 9, 1, 9, 9, 1, 9, 9, 1, 9, 9, 1, 9, 9, 0, 9, 6, 9, 9, 9, 9, 9, 9, 9, 9, 8, 9, 9, 9]
def LNl : List Nat := [0, 0, 200, 0, 6, 6, 6, 0, 6, 6, 6, 0, 4, 0, 6, 6, 6, 6, 6, 10, 10, 10, 0, 6, 6, 0, 6, 6, 0, 6, 6, 0, 6, 6, 0, 4, 0, 4, 0, 6, 6, 6, 6, 6, 10, 10, 10, 0, 6, 6, 0, 6, 6, 0, 6, 6, 0, 6, 6, 0, 4, 0, 6, 6, 6, 6, 6, 10, 10, 10, 0, 6, 6, 0, 6, 6, 0, 6, 6, 0, 6, 6, 0, 4, 0, 6, 6, 6, 6, 6, 10, 10, 10, 0, 6, 6, 0, 6, 6, 0, 6, 6, 0, 6, 6, 0, 4, 0, 6, 6, 6, 6, 6, 10, 10, 10, 0, 6, 6, 0, 6, 6, 0, 6, 6, 0, 6, 6, 0, 499, 0, 6, 6, 6, 6, 6, 10, 10, 10, 0, 918, 200, 20]
def KD (i : Nat) : Nat := KDl.getD i 12
def LN (i : Nat) : Nat := LNl.getD i 0
abbrev Mem : Type := Nat → Nat → Int32
/-- a cell's place is written -/
def MU (M : Mem) (i k : Nat) (v : Int32) : Mem := fun j => if j = i then upd (M i) k v else M j
/-- a value whose references are cells' numbers, as the machine has it -/
def CV (ad : Nat → Nat) (v : Value) : Value := match v with
  | .ref i => .ref (ad i)
  | v => v
/-- an object's fields -/
def FA (i : Nat) (r : Nat → Int32) : List Value :=
  if KD i = 0 then [.ref 7, .ref (i + 2), .ref (i + 1), .int (r 3), .int (r 4)]
  else if KD i = 1 then [.ref 7, .int (r 1), .ref (i + 1), .ref (i + 2), .int (r 4), .int (r 5), .int (r 6), .int (r 7)]
  else if KD i = 2 then [.ref (i + 1), .int (r 1), .int (r 2)]
  else if KD i = 3 then [.ref (i + 1), .ref (i + 2), .ref (i + 3), .int (r 3), .int (r 4), .int (r 5)]
  else if KD i = 4 then [.ref (i + 2), .ref (i + 1), .int (r 2)]
  else if KD i = 5 then [.ref (i + 1), .int (r 1), .int (r 2)]
  else if KD i = 6 then [.ref 7, .ref (i + 1), .ref (i + 2), .ref (i + 3), .ref (i + 4), .ref (i + 5), .ref (i + 6), .ref (i + 7), .ref (i + 8), .int (r 9), .int (r 10), .int (r 11)]
  else if KD i = 7 then [.ref 1, .ref 3, .ref 7, .ref 11, .ref 34, .ref 128]
  else [.ref (i + 1), .int (r 1), .ref (i + 2), .int (r 3), .ref (i + 3), .int (r 5), .int (r 6), .int (r 7), .int (r 8)]
/-- a cell of the world -/
def EA (ad : Nat → Nat) (cs : ClassId × ClassId × ClassId) (i : Nat) (r : Nat → Int32) : va_E :=
  if KD i = 9 then .inl (cs.1, LN i, .inl r)
  else if KD i = 10 then .inl (cs.2.1, 4, .inr (.inr (.inr (.inr (fun l => some (ad (i + 10 + 3 * l)))))))
  else if KD i = 11 then .inl (cs.2.2, 4, .inr (.inr (.inr (.inr (fun l => some (ad (i + 1 + 23 * l)))))))
  else .inr (KD i, (FA i r).map (CV ad))
def WL (ad : Nat → Nat) (cs : ClassId × ClassId × ClassId) (L : List Nat) (M : Mem) : va_W := L.map (fun i => (ad i, EA ad cs i (M i)))
abbrev TY (cs : ClassId × ClassId × ClassId) : List (ClassId × FieldType) := [(cs.1, .int), (cs.2.1, .object "FileRounds$Listener"), (cs.2.2, .object "FileRounds$Rounds")]
/-- cell i is there, of kind c, of length n -/
def AC (L : List Nat) (i c n : Nat) : Prop := i ∈ L ∧ KD i = c ∧ LN i = n
theorem MU_at (M : Mem) (i k : Nat) (v : Int32) : MU M i k v i = upd (M i) k v := by simp [MU]
theorem MU_ne {M : Mem} {i k j : Nat} {v : Int32} (h : j ≠ i) : MU M i k v j = M j := by simp [MU, h]
theorem WL_get {ad : Nat → Nat} {cs : ClassId × ClassId × ClassId} {L : List Nat} {M : Mem} {i : Nat} (h : i ∈ L) : ∃ q : Nat, L[q]? = some i ∧ (WL ad cs L M)[q]? = some (ad i, EA ad cs i (M i)) := by
  obtain ⟨q, hq⟩ := List.getElem?_of_mem h
  exact ⟨q, hq, by simp [WL, List.getElem?_map, hq]⟩
theorem WL_set {ad : Nat → Nat} {cs : ClassId × ClassId × ClassId} {L : List Nat} {M : Mem} {i q : Nat} (hn : L.Nodup) (hq : L[q]? = some i) (r : Nat → Int32) : (WL ad cs L M).set q (ad i, EA ad cs i r) = WL ad cs L (fun j => if j = i then r else M j) := by
  apply List.ext_getElem?
  intro k
  have hlt : q < L.length := (List.getElem?_eq_some_iff.mp hq).1
  by_cases hk : k = q
  · subst hk
    rw [List.getElem?_set_self (by simpa [WL] using hlt)]
    simp [WL, List.getElem?_map, hq]
  · rw [List.getElem?_set_ne (Ne.symm hk)]
    simp only [WL, List.getElem?_map]
    cases hj : L[k]? with
    | none => rfl
    | some j =>
      have hne : j ≠ i := by
        intro e
        subst e
        have h1 := (List.getElem?_eq_some_iff.mp hj)
        have h2 := (List.getElem?_eq_some_iff.mp hq)
        obtain ⟨l1, e1⟩ := h1
        obtain ⟨l2, e2⟩ := h2
        exact hk ((List.getElem_inj hn).mp (e1.trans e2.symm))
      simp [hne]
/-- the locals: by their numbers, what is known of them -/
def lvl (ad : Nat → Nat) (lo : List (Option Value)) : List (Nat × Value) := lo.zipIdx.filterMap (fun q => q.1.map (fun v => (q.2, CV ad v)))
def LO (ad : Nat → Nat) (ls : Array Slot) (lo : List (Option Value)) : Prop := lv_has ls lo.length (lvl ad lo)
theorem CV_cat (ad : Nat → Nat) (v : Value) : (CV ad v).category = v.category := by cases v <;> rfl
theorem lvl_mem {ad : Nat → Nat} {lo : List (Option Value)} {q : Nat × Value} : q ∈ lvl ad lo ↔ ∃ v, lo[q.1]? = some (some v) ∧ q.2 = CV ad v := by
  unfold lvl
  rw [List.mem_filterMap]
  constructor
  · rintro ⟨⟨a, i⟩, h1, h2⟩
    rw [List.mem_zipIdx_iff_getElem?] at h1
    cases a with
    | none => simp at h2
    | some v =>
      simp at h2
      subst h2
      exact ⟨v, h1, rfl⟩
  · rintro ⟨v, h1, h2⟩
    refine ⟨(some v, q.1), ?_, ?_⟩
    · rw [List.mem_zipIdx_iff_getElem?]
      exact h1
    · simp [← h2]
theorem LO_at {ad : Nat → Nat} {ls : Array Slot} {lo : List (Option Value)} (h : LO ad ls lo) {i : Nat} {v : Value} (hi : lo[i]? = some (some v)) : ls[i]? = some (.val (CV ad v)) := h.2.2 (i, CV ad v) (lvl_mem.mpr ⟨v, hi, rfl⟩)
/-- no long stands just ahead of local i -/
def noL (lo : List (Option Value)) (i : Nat) : Bool := match i with
  | 0 => true
  | j + 1 => match lo[j]? with
    | some (some w) => w.category == 1
    | _ => true
theorem noL_of {lo : List (Option Value)} {i j : Nat} {v : Value} (h : noL lo i = true) (hj : j + 1 = i) (hv : lo[j]? = some (some v)) : v.category = 1 := by
  subst hj
  simp [noL, hv] at h
  exact h
theorem LO_st1 {ad : Nat → Nat} {ls : Array Slot} {lo lo' : List (Option Value)} {i : Nat} {v : Value} (he : lo.set i (some v) = lo') (hn : noL lo i = true)
    (h : lv_has ls lo.length ((i, CV ad v) :: (lvl ad lo).filter (fun q => !(q.1 == i) && !(q.1 + 1 == i && q.2.category == 2)))) : LO ad ls lo' := by
  subst he
  refine ⟨by rw [List.length_set]; exact h.1, h.2.1, fun q hq => h.2.2 q ?_⟩
  obtain ⟨w, hw, hq2⟩ := lvl_mem.mp hq
  by_cases hqi : q.1 = i
  · have hi : i < lo.length := by
      have := (List.getElem?_eq_some_iff.mp hw).1
      rw [List.length_set] at this
      omega
    rw [hqi, List.getElem?_set_self hi] at hw
    cases hw
    have e : q = (i, CV ad v) := by rw [← hqi, ← hq2]
    rw [e]
    exact List.mem_cons_self
  · rw [List.getElem?_set_ne (Ne.symm hqi)] at hw
    refine List.mem_cons_of_mem _ (List.mem_filter.mpr ⟨lvl_mem.mpr ⟨w, hw, hq2⟩, ?_⟩)
    simp only [Bool.and_eq_true, Bool.not_eq_true', beq_eq_false_iff_ne, ne_eq, hqi, not_false_eq_true, Bool.and_eq_false_iff, true_and]
    by_cases h1 : q.1 + 1 = i
    · right
      have := noL_of hn h1 hw
      rw [hq2, CV_cat, this]
      simp
    · left; exact h1
theorem LO_st2 {ad : Nat → Nat} {ls : Array Slot} {lo lo' : List (Option Value)} {i : Nat} {v : Value} (he : (lo.set i (some v)).set (i + 1) none = lo') (hn : noL lo i = true)
    (h : lv_has ls lo.length ((i, CV ad v) :: (lvl ad lo).filter (fun q => !(q.1 == i) && (!(q.1 == i + 1) && !(q.1 + 1 == i && q.2.category == 2))))) : LO ad ls lo' := by
  subst he
  refine ⟨by rw [List.length_set, List.length_set]; exact h.1, h.2.1, fun q hq => h.2.2 q ?_⟩
  obtain ⟨w, hw, hq2⟩ := lvl_mem.mp hq
  have hq1 : ¬ q.1 = i + 1 := by
    intro e
    rw [e] at hw
    by_cases hl : i + 1 < (lo.set i (some v)).length
    · rw [List.getElem?_set_self hl] at hw
      cases hw
    · rw [List.getElem?_eq_none (by rw [List.length_set]; omega)] at hw
      cases hw
  rw [List.getElem?_set_ne (fun e => hq1 e.symm)] at hw
  by_cases hqi : q.1 = i
  · have hi : i < lo.length := by
      have := (List.getElem?_eq_some_iff.mp hw).1
      rw [List.length_set] at this
      omega
    rw [hqi, List.getElem?_set_self hi] at hw
    cases hw
    have e : q = (i, CV ad v) := by rw [← hqi, ← hq2]
    rw [e]
    exact List.mem_cons_self
  · rw [List.getElem?_set_ne (Ne.symm hqi)] at hw
    refine List.mem_cons_of_mem _ (List.mem_filter.mpr ⟨lvl_mem.mpr ⟨w, hw, hq2⟩, ?_⟩)
    simp only [Bool.and_eq_true, Bool.not_eq_true', beq_eq_false_iff_ne, ne_eq, hqi, hq1, not_false_eq_true, Bool.and_eq_false_iff, true_and]
    by_cases h1 : q.1 + 1 = i
    · right
      have := noL_of hn h1 hw
      rw [hq2, CV_cat, this]
      simp
    · left; exact h1
/-- what is fixed along a walk -/
abbrev CT : Type := Program × Launch × Env × Room × State × MethodId × Array Value × List Frame × Method × Code × (Nat → Prop) × (State → Prop) × va_G × (ClassId × ClassId × ClassId) × (Nat → Nat) × Nat × Nat
def BS (x : CT) (L : List Nat) (cc : ByteArray) (nL : Nat) (own : String) (R : Room) : Prop := match x with
  | (p, _, _, R', s, m, args, _, meth, c, A, _, D, cs, _, kc, ks) => R' = R ∧ p.tables.exec = Jvm.exec ∧ c.code = cc ∧ c.maxLocals = nL ∧ s.vm.findClass own = some m.cls ∧ (∀ w ∈ wd_G, w.before args s = true) ∧ (∀ w ∈ wd_N, va_Nw w s) ∧ meth.locks = false ∧ (∀ q, s.heap.size ≤ q → A q) ∧ va_K D vwCl (TY cs) s ∧ L.Nodup ∧ kc ≤ R.cells ∧ ks ≤ R.slots
/-- from here the machine comes to its end -/
def WP (x : CT) (L : List Nat) (pc : Nat) (lo : List (Option Value)) (st : List Value) (M : Mem) : Prop := match x with
  | (p, l, e, R, s, m, args, below, meth, c, A, QQ, D, cs, ad, kc, ks) => ∀ (H : Heap) (locs : List Loc) (ls : Array Slot), va_P D vwCl (WL ad cs L M) H → va_D A (WL ad cs L M) → va_S A s.heap H locs → LO ad ls lo → W p l e R s m args below meth c H locs kc ks QQ (F0 m pc ls (st.map (CV ad)))
/-- a method: name, code, locals, answer, room -/
abbrev MI : Type := MethodName × ByteArray × Nat × Option FieldType × Room
def PR (D : va_G) (cs : ClassId × ClassId × ClassId) (ad : Nat → Nat) (L : List Nat) (M : Mem) (sz : Nat) (U : State) : Prop := U.heap.size = sz ∧ va_P D vwCl (WL ad cs L M) U.heap ∧ va_K D vwCl (TY cs) U ∧ va_D (fun _ => True) (WL ad cs L M) ∧ ∀ w ∈ wd_N, va_Nw w U
def BK (D : va_G) (cs : ClassId × ClassId × ClassId) (ad : Nat → Nat) (L : List Nat) (A : Nat → Prop) (M : Mem) (t : State) : Prop := va_P D vwCl (WL ad cs L M) t.heap ∧ va_K D vwCl (TY cs) t ∧ va_D A (WL ad cs L M)
def QR (ret : Option FieldType) (Q : Int32 → Mem → Prop) (B : Mem → State → Prop) (A : Nat → Prop) : Array Value → State → Outcome → State → Prop := match ret with
  | none => va_Qv (Q 0) B A
  | some _ => va_Qi Q B A
def RT (x : CT) (L : List Nat) (ret : Option FieldType) (Q : Int32 → Mem → Prop) : Prop := match x with
  | (_, _, _, _, s, _, args, below, meth, _, A, QQ, D, cs, ad, kc, ks) => meth.sig.returnType = ret ∧ kc = 0 ∧ ks = 0 ∧ QQ = MQ below (QR ret Q (BK D cs ad L A) A) args s 0 0 A
/-- the contract of a method that makes nothing: from memory M it comes back with Q -/
def CM (mm : MI) (L : List Nat) (av : List Value) (M : Mem) (Q : Int32 → Mem → Prop) : Prop := ∃ Q0 : Int32 → Mem → Prop, (∀ r M', Q0 r M' → Q r M') ∧ ∀ (l : Launch) (D : va_G) (cs : ClassId × ClassId × ClassId) (ad : Nat → Nat) (sz : Nat), Met l mm.1 (.code mm.1 mm.2.1 mm.2.2.1 mm.2.2.2.1 :: wd_G) mm.2.2.2.2 (va_Pc (av.map (CV ad)) (PR D cs ad L M sz)) (QR mm.2.2.2.1 Q0 (BK D cs ad L (va_A (WL ad cs L M) sz)) (va_A (WL ad cs L M) sz)) 0 0 (va_A (WL ad cs L M) sz)
theorem CM.mono {mm : MI} {L : List Nat} {av : List Value} {M : Mem} {Q Q' : Int32 → Mem → Prop} (h : CM mm L av M Q) (hq : ∀ r M', Q r M' → Q' r M') : CM mm L av M Q' := by
  obtain ⟨Q0, h1, h2⟩ := h
  exact ⟨Q0, fun r M' h => hq r M' (h1 r M' h), h2⟩
