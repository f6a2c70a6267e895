/-! making: new cells, calls -/
theorem CV_id {v : Value} (h : rv v = []) (ad : Nat → Nat) : CV ad v = v := by
  cases v with
  | ref i => simp [rv] at h
  | _ => rfl
theorem CVs_id (ad : Nat → Nat) : ∀ {vs : List Value}, rvs vs = [] → vs.map (CV ad) = vs
  | [], _ => rfl
  | v :: vs, h => by
    have h' : rv v ++ rvs vs = [] := h
    rw [List.map_cons, CV_id (List.append_eq_nil_iff.mp h').1, CVs_id ad (List.append_eq_nil_iff.mp h').2]
theorem mk_step {D : va_G} {A : Nat → Prop} {cs : ClassId × ClassId × ClassId} {Z : List (Nat × XE)} {ad : Nat → Nat} {i q : Nat} {e : XE} {H : Heap} (hz : nz [i] Z = true) (hP : va_P D vwCl (WX ad cs Z ++ [(q, XA (sa ad i q) cs e)]) H) (hD : va_D A (WX ad cs Z ++ [(q, XA (sa ad i q) cs e)])) : va_P D vwCl (WX (sa ad i q) cs (Z ++ [(i, e)])) H ∧ va_D A (WX (sa ad i q) cs (Z ++ [(i, e)])) := by
  have ag : ∀ z ∈ Z, sa ad i q z.1 = ad z.1 ∧ ∀ j ∈ rfs z.2, sa ad i q j = ad j := fun z hz2 => by
    obtain ⟨a, b⟩ := nz_at hz z hz2
    exact ⟨sa_ne (fun e => a (by rw [e]; exact List.mem_singleton.mpr rfl)), fun j hj => sa_ne (fun e => b j hj (by rw [e]; exact List.mem_singleton.mpr rfl))⟩
  have e1 : WX (sa ad i q) cs (Z ++ [(i, e)]) = WX (sa ad i q) cs Z ++ [(q, XA (sa ad i q) cs e)] := by
    rw [WX_app]; unfold WX; simp [sa_at]
  rw [e1]
  constructor
  · refine va_P.app (P_ag ag (fun k z hk => hP k z ?_)) (fun k z hk => hP ((WX ad cs Z).length + k) z ?_)
    · rw [List.getElem?_append_left (List.getElem?_eq_some_iff.mp hk).1]; exact hk
    · rw [List.getElem?_append_right (by omega), Nat.add_sub_cancel_left]; exact hk
  · refine D_ag ?_ hD
    rw [List.map_append, List.map_append, WX_fst (fun z hz2 => (ag z hz2).1)]
section MAKE2
variable {x : CT} {cc : ByteArray} {nL : Nat} {own : String} {R : Room} {ad : Nat → Nat} {kc ks : Nat} {Z : List (Nat × XE)} {pc : Nat} {lo : List (Option Value)} {st : List Value}
theorem sa_vs {i q : Nat} {vs : List Value} (h : nn [i] (rvs vs) = true) : vs.map (CV (sa ad i q)) = vs.map (CV ad) := CVs_ag (fun j hj => sa_ne (fun e => nn_at h j hj (by rw [e]; exact List.mem_singleton.mpr rfl)))
theorem sa_lo {i q : Nat} {ls : Array Slot} (h : nn [i] (rlo lo) = true) (hl : LO ad ls lo) : LO (sa ad i q) ls lo := LO_ag (fun j hj => sa_ne (fun e => nn_at h j hj (by rw [e]; exact List.mem_singleton.mpr rfl))) hl
/-- a class that can be made -/
def NC (own : String) (idx ci N : Nat) (fs : List Value) : Prop := ∃ (C : String) (T : u_T) (ty : Nat → FieldType), vwCl[ci]? = some (C, T, N) ∧ (∀ w ∈ u_ws C T N, w ∈ wd_G) ∧ (∀ k, k < N → parseFieldDescriptor (T k).2.2.1 = some (ty k)) ∧ Cond.classLink own idx C ∈ wd_G ∧ Cond.instantiable C N ∈ wd_G ∧ Cond.initialized C ∈ wd_G ∧ ∀ j, j < N → defaultValue (ty j) = vp_V fs j
theorem wq_new (X : BS x [] cc nL own R) {i ci idx N kc' ks' : Nat} {fs : List Value} (hN : NC own idx ci N fs) (hfs : rvs fs = []) (hz : nz [i] Z = true) (hlo : nn [i] (rlo lo) = true) (hst : nn [i] (rvs st) = true) (hk1 : kc + 1 = kc') (hk2 : ks + N = ks') (hc1 : kc' ≤ R.cells) (hc2 : ks' ≤ R.slots) (hd : decode cc pc = .ok (.new idx, 3)) (k : ∀ q, WQ x (sa ad i q) kc' ks' (Z ++ [(i, xO ci fs)]) (pc + 3) lo (.ref i :: st)) : WQ x ad kc ks Z pc lo st := by
  obtain ⟨p, l, e, R', s, m, args, below, meth, c, A, QQ, D, cs, ad0, kc0, ks0⟩ := x
  obtain ⟨hR, hx, hb, hml, hown, hts, hnw, hlk, hA, hK, hnd, hkc, hks⟩ := X
  intro H locs ls hP hD hS hl
  obtain ⟨C, T, ty, n1, n2, n3, n4, n5, n6, n7⟩ := hN
  subst hR; subst hk1; subst hk2
  refine va_new hx hb hts n2 ty n3 hown (hts _ n4) (hts _ n5) (hts _ n6) hK hP hD hS hA n1 n7 hc1 hc2 hd (fun q H1 hP1 hD1 hS1 => ?_)
  have e1 : (Sum.inr (ci, fs) : va_E) = XA (sa ad i q) cs (xO ci fs) := by
    show _ = Sum.inr (ci, fs.map (CV (sa ad i q))); rw [CVs_id _ hfs]
  rw [e1] at hP1 hD1
  obtain ⟨hP2, hD2⟩ := mk_step hz hP1 hD1
  have := k q H1 locs ls hP2 hD2 hS1 (sa_lo hlo hl)
  rw [List.map_cons, sa_vs hst, show CV (sa ad i q) (.ref i) = .ref q by show Value.ref (sa ad i q i) = _; rw [sa_at]] at this
  exact this
theorem wq_newI (X : BS x [] cc nL own R) (hw : Cond.arrayClass .int ∈ wd_G) {i n kc' ks' : Nat} (hn : n < 2 ^ 27) (hz : nz [i] Z = true) (hlo : nn [i] (rlo lo) = true) (hst : nn [i] (rvs st) = true) (hk1 : kc + 1 = kc') (hk2 : ks + n = ks') (hc1 : kc' ≤ R.cells) (hc2 : ks' ≤ R.slots) (hd : decode cc pc = .ok (.newarray .int, 2)) (k : ∀ q, WQ x (sa ad i q) kc' ks' (Z ++ [(i, xI n (fun _ => 0))]) (pc + 2) lo (.ref i :: st)) : WQ x ad kc ks Z pc lo (.int (nI n) :: st) := by
  obtain ⟨p, l, e, R', s, m, args, below, meth, c, A, QQ, D, cs, ad0, kc0, ks0⟩ := x
  obtain ⟨hR, hx, hb, hml, hown, hts, hnw, hlk, hA, hK, hnd, hkc, hks⟩ := X
  intro H locs ls hP hD hS hl
  subst hR; subst hk1; subst hk2
  refine va_newa (atype := .int) (ty := .int) (a0 := (n, .inl (fun _ => 0))) hx hb (hts _ hw) rfl hK hP hD hS hA (fun _ => rfl) (nI_pos (by omega)) (nI_clamp (by omega)) (by show n * 4 ≤ _; omega) hc1 hc2 hd (fun q cA H1 hK1 hP1 hD1 hS1 => ?_)
  have a1 := (hK.2 0 (cs.1, .int) rfl).2
  have a2 := (hK1.2 3 (cA, .int) rfl).2
  have ec : cA = cs.1 := by
    have b1 : s.vm.findClass ("[" ++ FieldType.int.toString) = some cs.1 := a1
    have b2 : s.vm.findClass ("[" ++ FieldType.int.toString) = some cA := a2
    rw [b1] at b2; exact (Option.some.inj b2).symm
  subst ec
  obtain ⟨hP2, hD2⟩ := mk_step (e := xI n (fun _ => 0)) (i := i) hz hP1 hD1
  have := k q H1 locs ls hP2 hD2 hS1 (sa_lo hlo hl)
  rw [List.map_cons, sa_vs hst, show CV (sa ad i q) (.ref i) = .ref q by show Value.ref (sa ad i q i) = _; rw [sa_at]] at this
  exact this
/-- the kinds of rows of references -/
def QC (w : Nat) (C : String) : Prop := (w = 10 ∧ C = "FileRounds$Listener") ∨ (w = 11 ∧ C = "FileRounds$Rounds")
theorem wq_newq (X : BS x [] cc nL own R) (O : OV x) {i w idx kc' ks' : Nat} {C : String} (hq : QC w C) (h1 : Cond.classLink own idx C ∈ wd_G) (hz : nz [i] Z = true) (hlo : nn [i] (rlo lo) = true) (hst : nn [i] (rvs st) = true) (hk1 : kc + 1 = kc') (hk2 : ks + 4 = ks') (hc1 : kc' ≤ R.cells) (hc2 : ks' ≤ R.slots) (hd : decode cc pc = .ok (.anewarray idx, 3)) (k : ∀ q, WQ x (sa ad i q) kc' ks' (Z ++ [(i, xQ w [])]) (pc + 3) lo (.ref i :: st)) : WQ x ad kc ks Z pc lo (.int (nI 4) :: st) := by
  obtain ⟨p, l, e, R', s, m, args, below, meth, c, A, QQ, D, cs, ad0, kc0, ks0⟩ := x
  obtain ⟨hR, hx, hb, hml, hown, hts, hnw, hlk, hA, hK, hnd, hkc, hks⟩ := X
  intro H locs ls hP hD hS hl
  subst hR; subst hk1; subst hk2
  have hov : va_AO C s := by
    rcases hq with ⟨-, rfl⟩ | ⟨-, rfl⟩
    · exact O.1
    · exact O.2
  refine va_newq (N' := 4) hx hb hown (hts _ h1) hov hK hP hD hS hA (nI_pos (by decide)) (nI_clamp (by decide)) (by decide) hc1 hc2 hd (fun q cA H1 hK1 hP1 hD1 hS1 => ?_)
  have ec : cA = if w = 10 then cs.2.1 else cs.2.2 := by
    have a2 := (hK1.2 3 (cA, .object C) rfl).2
    obtain ⟨kA, comp, -, -, -, b2⟩ := a2
    rcases hq with ⟨rfl, rfl⟩ | ⟨rfl, rfl⟩
    · obtain ⟨_, _, -, -, -, b1⟩ := (hK.2 1 (cs.2.1, .object "FileRounds$Listener") rfl).2
      rw [b1] at b2; exact (Option.some.inj b2).symm
    · obtain ⟨_, _, -, -, -, b1⟩ := (hK.2 2 (cs.2.2, .object "FileRounds$Rounds") rfl).2
      rw [b1] at b2; exact (Option.some.inj b2).symm
  subst ec
  have e1 : (Sum.inl ((if w = 10 then cs.2.1 else cs.2.2), 4, .inr (.inr (.inr (.inr (fun _ => none))))) : va_E) = XA (sa ad i q) cs (xQ w []) := by
    show _ = (Sum.inl ((if w = 10 then cs.2.1 else cs.2.2), 4, .inr (.inr (.inr (.inr (fun l => (([] : List Nat)[l]?).map (sa ad i q)))))) : va_E)
    have : (fun l => (([] : List Nat)[l]?).map (sa ad i q)) = (fun _ : Nat => (none : Option Nat)) := by funext l; simp
    rw [this]
  rw [e1] at hP1 hD1
  obtain ⟨hP2, hD2⟩ := mk_step hz hP1 hD1
  have := k q H1 locs ls hP2 hD2 hS1 (sa_lo hlo hl)
  rw [List.map_cons, sa_vs hst, show CV (sa ad i q) (.ref i) = .ref q by show Value.ref (sa ad i q i) = _; rw [sa_at]] at this
  exact this
/-- the next place of a row of references is written -/
theorem wq_aast (X : BS x [] cc nL own R) {i v q0 qk w ci : Nat} {gl : List Nat} {r : Nat → Int32} {C : String} {T : u_T} {N : Nat} {Z' : List (Nat × XE)} (hq : QC w C) (hc : vwCl[ci]? = some (C, T, N)) (hz : Z[q0]? = some (i, xQ w gl)) (hv : Z[qk]? = some (v, xD v r)) (hv2 : KD v = ci) (hg : gl.length < 4) (h9 : ci < 9) (hZ : Z.set q0 (i, xQ w (gl ++ [v])) = Z') (hd : decode cc pc = .ok (.aastore, 1)) (kk : WQ x ad kc ks Z' (pc + 1) lo st) : WQ x ad kc ks Z pc lo (.ref v :: .int (nI gl.length) :: .ref i :: st) := by
  obtain ⟨p, l, e, R', s, m, args, below, meth, c, A, QQ, D, cs, ad0, kc0, ks0⟩ := x
  obtain ⟨hR, hx, hb, hml, hown, hts, hnw, hlk, hA, hK, hnd, hkc, hks⟩ := X
  intro H locs ls hP hD hS hl
  have a1 : (WX ad cs Z)[q0]? = some (ad i, .inl ((if w = 10 then cs.2.1 else cs.2.2), 4, .inr (.inr (.inr (.inr (fun l => (gl[l]?).map ad)))))) := by unfold WX; rw [List.getElem?_map, hz]; rfl
  have a2 : (WX ad cs Z)[qk]? = some (ad v, .inr (ci, (FA v r).map (CV ad))) := by
    unfold WX; rw [List.getElem?_map, hv]
    show some (ad v, EA ad cs v r) = _
    rw [EA_o hv2 h9]
  have hup : va_up (fun l => (gl[l]?).map ad) gl.length (some (ad v)) = fun l => ((gl ++ [v])[l]?).map ad := by
    funext l
    unfold va_up
    by_cases c1 : l = gl.length
    · rw [if_pos c1, c1]; simp
    · rw [if_neg c1]
      by_cases c2 : l < gl.length
      · rw [List.getElem?_append_left c2]
      · have z1 : gl[l]? = none := List.getElem?_eq_none (by omega)
        have z2 : (gl ++ [v])[l]? = none := List.getElem?_eq_none (by rw [List.length_append]; simp; omega)
        rw [z2]; show (gl[l]?).map ad = _; rw [z1]
  have hset : (WX ad cs Z).set q0 (ad i, .inl ((if w = 10 then cs.2.1 else cs.2.2), 4, .inr (.inr (.inr (.inr (va_up (fun l => (gl[l]?).map ad) gl.length (some (ad v)))))))) = WX ad cs Z' := by
    rw [← hZ, hup]; unfold WX; rw [List.map_set]; rfl
  have t1 : ∃ t0 : Nat, (TY cs)[t0]? = some ((if w = 10 then cs.2.1 else cs.2.2), .object C) := by
    rcases hq with ⟨rfl, rfl⟩ | ⟨rfl, rfl⟩
    · exact ⟨1, rfl⟩
    · exact ⟨2, rfl⟩
  obtain ⟨t0, ht0⟩ := t1
  refine va_astq (r := (C, T, N)) hx hb hK hP hD hS q0 t0 qk ci a1 ht0 a2 hc (vp_in_nI hg (by decide)) hd ?_
  rw [nI_clamp (by omega), hset]
  exact fun H1 locs1 b1 b2 b3 => kk H1 locs1 ls b1 b2 b3 hl
end MAKE2
