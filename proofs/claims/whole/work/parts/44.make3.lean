/-! making: constructors, and calls out of them -/
def PN (D : va_G) (cs : ClassId × ClassId × ClassId) (ad : Nat → Nat) (Z : List (Nat × XE)) (sz : Nat) (U : State) : Prop := U.heap.size = sz ∧ va_P D vwCl (WX ad cs Z) U.heap ∧ va_K D vwCl (TY cs) U ∧ va_D (fun _ => True) (WX ad cs Z) ∧ (∀ w ∈ wd_N, va_Nw w U) ∧ va_AO "FileRounds$Listener" U ∧ va_AO "FileRounds$Rounds" U
def QN (D : va_G) (cs : ClassId × ClassId × ClassId) (ad : Nat → Nat) (N : List Nat) (Z1 : Mem → List (Nat × XE)) (Q : Mem → Prop) (A : Nat → Prop) : Array Value → State → Outcome → State → Prop := va_Qv (fun u : (Nat → Nat) × Mem => (∀ j, j ∉ N → u.1 j = ad j) ∧ Q u.2) (fun u t => va_P D vwCl (WX u.1 cs (Z1 u.2)) t.heap ∧ va_K D vwCl (TY cs) t ∧ va_D A (WX u.1 cs (Z1 u.2))) A
/-- the contract of a constructor: out of the cells Z0 it makes those of N, and comes back with Z1 -/
def CN (mm : MI) (N : List Nat) (av : List Value) (Z0 : List (Nat × XE)) (Z1 : Mem → List (Nat × XE)) (Q : Mem → Prop) : Prop := ∀ (l : Launch) (D : va_G) (cs : ClassId × ClassId × ClassId) (ad : Nat → Nat) (sz : Nat), Met l mm.1 (.code mm.1 mm.2.1 mm.2.2.1 mm.2.2.2.1 :: wd_G) mm.2.2.2.2 (va_Pc (av.map (CV ad)) (PN D cs ad Z0 sz)) (QN D cs ad N Z1 Q (va_A (WX ad cs Z0) sz)) mm.2.2.2.2.cells mm.2.2.2.2.slots (va_A (WX ad cs Z0) sz)
def RTN (x : CT) (N : List Nat) (Z1 : Mem → List (Nat × XE)) (Q : Mem → Prop) : Prop := match x with
  | (_, _, _, R, s, _, args, below, meth, _, A, QQ, D, cs, ad, _, _) => meth.sig.returnType = none ∧ QQ = MQ below (QN D cs ad N Z1 Q A) args s R.cells R.slots A
def AX (x : CT) : Nat → Nat := x.2.2.2.2.2.2.2.2.2.2.2.2.2.2.1
theorem CN.intro {y : MethodName} {cc : ByteArray} {nL : Nat} {rm : Room} {own : String} {N : List Nat} {av : List Value} {Z0 : List (Nat × XE)} {Z1 : Mem → List (Nat × XE)} {Q : Mem → Prop} (hy : plainFor y = true) (hown : y.cls = own) (hnm : y.name = "<init>") (hc : ∀ v ∈ av, v.category = 1) (hn : av.length ≤ nL)
    (h : ∀ x : CT, BS x [] cc nL own rm → OV x → NM x → RTN x N Z1 Q → WQ x (AX x) 0 0 Z0 0 (EL av nL) []) : CN (y, cc, nL, none, rm) N av Z0 Z1 Q := by
  intro l D cs ad sz
  refine va_MetF (cc := cc) (maxL := nL) (ret := none) hy rfl ?_
  intro p e s m args below meth c s₁ B hml hv
  obtain ⟨rfl, hsz, hP, hK, hD0, hnw, o1, o2⟩ := hv
  have hts := atoms_spec (ws := .code y cc nL none :: wd_G) B.pre
  subst hsz
  have hD := hD0.self (sz := s.heap.size)
  generalize hAe : va_A (WX ad cs Z0) s.heap.size = A at hD ⊢
  have hA : ∀ q : Nat, s.heap.size ≤ q → A q := fun q h => by rw [← hAe]; exact Or.inr h
  rw [lg_entry_eq]
  have hl := EL_LO (ad := ad) hc hn
  exact h (p, l, e, rm, s, m, (av.map (CV ad)).toArray, below, meth, c, A, MQ below (QN D cs ad N Z1 Q A) (av.map (CV ad)).toArray s rm.cells rm.slots A, D, cs, ad, 0, 0)
    ⟨rfl, B.exec, B.bytes, hml, by rw [← hown]; exact findClass_of_methodNamed B.named, fun w hw => hts w (List.mem_cons_of_mem _ hw), hnw, B.notSynchronized, hA, hK, List.nodup_nil, Nat.zero_le _, Nat.zero_le _⟩ ⟨o1, o2⟩ ((name_of_methodNamed B.named B.method).1.trans hnm)
    ⟨B.returns, rfl⟩ s.heap [] _ hP hD va_S.rf hl
/-- a content that is whole -/
def cvE (j : Nat) (e : XE) (r : Nat → Int32) : Prop := match e with
  | .inl a => KD j = 9 ∧ LN j = a.1 ∧ a.2 = r
  | .inr (.inl o) => KD j = o.1 ∧ o.1 < 9 ∧ FA j r = o.2
  | .inr (.inr (.inl g)) => KD j = g.1 ∧ ((g.1 = 10 ∧ g.2 = [j + 10, j + 13, j + 16, j + 19]) ∨ (g.1 = 11 ∧ g.2 = [j + 1, j + 24, j + 47, j + 70]))
  | .inr (.inr (.inr d)) => d.1 = j ∧ d.2 = r
theorem at_cv {D : va_G} {cs : ClassId × ClassId × ClassId} {ad : Nat → Nat} {j a : Nat} {e : XE} {r : Nat → Int32} {H : Heap} (h : cvE j e r) (hA : va_at D vwCl (a, XA ad cs e) H) : va_at D vwCl (a, XA ad cs (xD j r)) H := by
  show va_at D vwCl (a, EA ad cs j r) H
  rcases e with e | e | e | e
  · obtain ⟨h1, h2, h3⟩ := h
    rw [EA_i h1, h2, ← h3]; exact hA
  · obtain ⟨h1, h2, h3⟩ := h
    rw [EA_o h1 h2, h3]; exact hA
  · obtain ⟨h1, h2⟩ := h
    have hA' : H[a]? = some (vp_cell (if e.1 = 10 then cs.2.1 else cs.2.2) (4, .inr (.inr (.inr (.inr (fun l => (e.2[l]?).map ad)))))) := hA
    unfold EA
    rcases h2 with ⟨h2, h3⟩ | ⟨h2, h3⟩
    · rw [if_neg (by omega), if_pos (by omega)]
      show H[a]? = some (vp_cell _ _)
      rw [hA', vp_cell_q, vp_cell_q, if_pos h2, h3]
      congr 1
    · rw [if_neg (by omega), if_neg (by omega), if_pos (by omega)]
      show H[a]? = some (vp_cell _ _)
      rw [hA', vp_cell_q, vp_cell_q, if_neg (by omega), h3]
      congr 1
  · obtain ⟨h1, h2⟩ := h
    rw [← h1, ← h2]; exact hA
/-- cells, one by one, whole -/
def cvZ : List (Nat × XE) → List Nat → Mem → Prop
  | [], [], _ => True
  | z :: Z, j :: L, M => z.1 = j ∧ cvE j z.2 (M j) ∧ cvZ Z L M
  | _, _, _ => False
theorem cvZ_at : ∀ {Z : List (Nat × XE)} {L : List Nat} {M : Mem}, cvZ Z L M → Z.map Prod.fst = L ∧ ∀ (k : Nat) (z : Nat × XE), Z[k]? = some z → cvE z.1 z.2 (M z.1)
  | [], [], _, _ => ⟨rfl, fun k z h => by simp at h⟩
  | z :: Z, j :: L, M, h => by
    obtain ⟨h1, h2, h3⟩ := h
    obtain ⟨a, b⟩ := cvZ_at h3
    refine ⟨by rw [List.map_cons, h1, a], fun k z' hk => ?_⟩
    cases k with
    | zero =>
      have : z = z' := by simpa using hk
      subst this
      rw [h1]; exact h2
    | succ k => exact b k z' (by simpa using hk)
theorem cvZ_PD {D : va_G} {A : Nat → Prop} {cs : ClassId × ClassId × ClassId} {ad : Nat → Nat} {Z : List (Nat × XE)} {L : List Nat} {M : Mem} {H : Heap} (h : cvZ Z L M) (hP : va_P D vwCl (WX ad cs Z) H) (hD : va_D A (WX ad cs Z)) : va_P D vwCl (WX ad cs (ZL L M)) H ∧ va_D A (WX ad cs (ZL L M)) := by
  obtain ⟨h1, h2⟩ := cvZ_at h
  subst h1
  constructor
  · intro k q hk
    unfold WX ZL at hk
    rw [List.map_map, List.map_map, List.getElem?_map] at hk
    cases hz : Z[k]? with
    | none => rw [hz] at hk; cases hk
    | some z =>
      rw [hz] at hk
      cases hk
      exact at_cv (h2 k z hz) (hP k (ad z.1, XA ad cs z.2) (by unfold WX; rw [List.getElem?_map, hz]; rfl))
  · refine D_ag ?_ hD
    unfold WX ZL
    rw [List.map_map, List.map_map, List.map_map, List.map_map]
    rfl
theorem nd_va : ∀ {l : List Nat}, l.Nodup → va_nd l = true
  | [], _ => rfl
  | a :: l, h => by
    have := List.nodup_cons.mp h
    show (decide (a ∉ l) && va_nd l) = true
    rw [nd_va this.2, decide_eq_true this.1]; rfl
theorem jn2 {A0 : Nat → Prop} {D : va_G} {wr wc w1 : va_W} {H H1 : Heap} (hP : va_P D vwCl (wr ++ wc) H) (hD : va_D A0 (wr ++ wc)) (hk : ∀ q : Nat, q < H.size → ¬ va_A wc H.size q → H1[q]? = H[q]?) (hF : ∀ q, va_A wc H.size q → A0 q) (hP1 : va_P D vwCl w1 H1) (hD1 : va_D (va_A wc H.size) w1) : va_P D vwCl (wr ++ w1) H1 ∧ va_D A0 (wr ++ w1) := by
  refine va_join hP hD ((List.range wc.length).map (fun i => wr.length + i)) (List.range wr.length) ?_ ?_ (nd_va List.nodup_range) ?_ hk hF hP1 hD1
  · apply List.ext_getElem?
    intro k
    rw [List.map_map, List.getElem?_map, List.getElem?_map]
    by_cases c : k < wc.length
    · rw [List.getElem?_range c]
      show some ((wr ++ wc)[wr.length + k]?) = _
      rw [List.getElem?_append_right (by omega), Nat.add_sub_cancel_left, List.getElem?_eq_getElem c]; rfl
    · rw [List.getElem?_eq_none (by rw [List.length_range]; omega), List.getElem?_eq_none (by omega)]; rfl
  · apply List.ext_getElem?
    intro k
    rw [List.getElem?_map, List.getElem?_map]
    by_cases c : k < wr.length
    · rw [List.getElem?_range c]
      show some ((wr ++ wc)[k]?) = _
      rw [List.getElem?_append_left c, List.getElem?_eq_getElem c]; rfl
    · rw [List.getElem?_eq_none (by rw [List.length_range]; omega), List.getElem?_eq_none (by omega)]; rfl
  · intro i hi q
    obtain ⟨j, -, hj⟩ := List.mem_map.mp q
    have := List.mem_range.mp hi
    omega
theorem P_r {D : va_G} {wr wc : va_W} {H : Heap} (h : va_P D vwCl (wr ++ wc) H) : va_P D vwCl wc H := fun k q hk => h (wr.length + k) q (by rw [List.getElem?_append_right (by omega), Nat.add_sub_cancel_left]; exact hk)
theorem D_r {A : Nat → Prop} {wr wc : va_W} (h : va_D A (wr ++ wc)) : va_D A wc := by
  have g : ∀ (k : Nat) (q : Nat × va_E), wc[k]? = some q → (wr ++ wc)[wr.length + k]? = some q := fun k q hk => by rw [List.getElem?_append_right (by omega), Nat.add_sub_cancel_left]; exact hk
  refine ⟨fun i j p q hi hj e => ?_, fun k q hk => h.2 _ q (g k q hk)⟩
  have := h.1 _ _ p q (g i p hi) (g j q hj) e
  omega
theorem PN_blind {D : va_G} {cs : ClassId × ClassId × ClassId} {ad : Nat → Nat} {Z : List (Nat × XE)} {sz : Nat} {av : List Value} : FrameBlind (va_Pc av (PN D cs ad Z sz)) := fun a U g mk q => by
  obtain ⟨q0, q1, qP, qK, qD, qN, o1, o2⟩ := q
  exact ⟨q0, q1, qP, va_K.moved (u := U) (U := U.calling g mk a) (Vm.Alike.refl U.vm) qK, qD, fun w hw => va_Nw.same (u := U) (U := U.calling g mk a) (nw_tab w hw) (show U.vm = (U.calling g mk a).vm from rfl) (qN w hw), va_AO.moved (u := U) (U := U.calling g mk a) (Vm.Alike.refl U.vm) o1, va_AO.moved (u := U) (U := U.calling g mk a) (Vm.Alike.refl U.vm) o2⟩
section MAKE3
variable {x : CT} {cc : ByteArray} {nL : Nat} {own : String} {R : Room} {ad : Nat → Nat} {kc ks : Nat} {Z : List (Nat × XE)} {pc : Nat} {lo : List (Option Value)} {st : List Value}
theorem wq_ret (X : BS x [] cc nL own R) {N L : List Nat} {Q : Mem → Prop} {M : Mem} (T : RTN x N (fun M => ZL L M) Q) (hN : ∀ j, j ∉ N → ad j = AX x j) (hk1 : kc = R.cells) (hk2 : ks = R.slots) (hZ : cvZ Z L M) (hq : Q M) (hd : decode cc pc = .ok (.return_, 1)) : WQ x ad kc ks Z pc lo [] := by
  obtain ⟨p, l, e, R', s, m, args, below, meth, c, A, QQ, D, cs, ad0, kc0, ks0⟩ := x
  obtain ⟨hR, hx, hb, hml, hown, hts, hnw, hlk, hA, hK, hnd, hkc, hks⟩ := X
  intro H locs ls hP hD hS hl
  obtain ⟨hr, hQQ⟩ := T
  obtain ⟨hP1, hD1⟩ := cvZ_PD hZ hP hD
  subst hR; subst hk1; subst hk2
  rw [hQQ]
  exact W.vret hx hb hr (fun t ht hW => ⟨⟨(ad, M), rfl, ⟨hN, hq⟩, by rw [ht]; exact hP1, va_K.moved hW.alike hK, hD1⟩, hS.F ht⟩) hS.2.2 hd hlk
/-- a constructor's site -/
def SI (own : String) (idx : Nat) (mm : MI) (n : Nat) : Prop := Cond.instanceMethod mm.1 ∈ wd_G ∧ Cond.initialized mm.1.cls ∈ wd_G ∧ Cond.code mm.1 mm.2.1 mm.2.2.1 none ∈ wd_G ∧ mm.1.name = "<init>" ∧ (mm.1.cls ≠ "java/lang/invoke/MethodHandle" ∧ mm.1.cls ≠ "java/lang/invoke/VarHandle" ∧ (parseMethodDescriptor mm.1.desc).map (fun d => d.parameters.length) = some n) ∧ mm.2.2.2.1 = none ∧ (Cond.methodLink own idx mm.1 ∈ wd_G ∨ ∃ host : String, Cond.methodLinkNest own idx mm.1 host ∈ wd_N)
theorem wq_init (X : BS x [] cc nL own R) (O : OV x) {idx n i : Nat} {mm : MI} (hs : SI own idx mm n) (hr : RF R mm) {Zr : List (Nat × XE)} {e0 : XE} {N : List Nat} {Z1 : Mem → List (Nat × XE)} {Q : Mem → Prop} {As stk : List Value} {kc' ks' : Nat} (hC : CN mm N (.ref i :: As) [(i, e0)] Z1 Q) (hZ : Z = Zr ++ [(i, e0)]) (hz : nz N Zr = true) (hlo : nn N (rlo lo) = true) (hstn : nn N (rvs st) = true) (hst : stk = As.reverse ++ .ref i :: st) (hn : As.length = n) (hnL : lo.length = nL) (hw : (st.map fun v => v.category).sum ≤ 8) (hk1 : kc + mm.2.2.2.2.cells = kc') (hk2 : ks + mm.2.2.2.2.slots = ks') (hc1 : kc' ≤ R.cells) (hc2 : ks' ≤ R.slots) (hd : decode cc pc = .ok (.invokespecial idx, 3)) (k : ∀ (ad' : Nat → Nat) (M : Mem), (∀ j, j ∉ N → ad' j = ad j) → Q M → WQ x ad' kc' ks' (Zr ++ Z1 M) (pc + 3) lo st) : WQ x ad kc ks Z pc lo stk := by
  obtain ⟨p, l, e, R', s, m, args, below, meth, c, A, QQ, D, cs, ad0, kc0, ks0⟩ := x
  obtain ⟨hR, hx, hb, hml, hown, hts, hnw, hlk, hA, hK, hnd, hkc, hks⟩ := X
  intro H locs ls hP hD hS hl
  obtain ⟨y, bytes, maxL, ret, rm⟩ := mm
  obtain ⟨s1, s2, s3, s4, s5, s6, s7⟩ := hs
  dsimp only at s6
  subst s6
  subst hR; subst hst; subst hZ; subst hk1; subst hk2
  rw [WX_app] at hP hD
  have hPc := P_r hP
  have hDc := D_r hD
  have hFc := wl_free hDc hS hA
  have hwc : ((st.map (CV ad)).map fun v => v.category).sum ≤ 8 := by
    have e : ((st.map (CV ad)).map fun v => v.category) = (st.map fun v => v.category) := by rw [List.map_map]; exact List.map_congr_left (fun v _ => CV_cat ad v)
    rw [e]; exact hw
  have hG : GoodIn wd_G (.code y bytes maxL none :: wd_G) := fun w hw => by
    rcases List.mem_cons.mp hw with rfl | h1
    · exact wd_good _ s3
    · exact wd_good w h1
  have hpre : PreS s H (va_Pc ((.ref i :: As).map (CV ad)) (PN D cs ad [(i, e0)] H.size)) (.ref (ad i) :: As.map (CV ad)) := ⟨PN_blind, fun U hU hW => ⟨rfl, by rw [hU], by rw [hU]; exact hPc, va_K.moved hW.alike hK, hDc.weaken (fun _ _ _ _ => trivial), fun w hw => nw_warm hW w hw (hnw w hw), va_AO.moved hW.alike O.1, va_AO.moved hW.alike O.2⟩⟩
  have go : va_Run p l e R' s m args below meth c H locs kc ks rm.cells rm.slots (F0 m pc ls ((As.reverse ++ .ref i :: st).map (CV ad))) (st.map (CV ad)) (QN D cs ad N Z1 Q (va_A (WX ad cs [(i, e0)]) H.size) (.ref (ad i) :: As.map (CV ad)).toArray) (va_A (WX ad cs [(i, e0)]) H.size) := by
    rcases s7 with h7 | ⟨host, h7⟩
    · exact va_runI (As := As.map (CV ad)) (rest := st.map (CV ad)) (b := ad i) ⟨hx, hb, hml, hown, hts⟩ (hC l D cs ad H.size) (cwI n hts hG rfl rfl rfl (hts _ s2) (hts _ h7) (hts _ s1) s4 s5 hr) hpre rfl (by rw [List.length_map]; exact hn) (by show ls.size = nL; rw [← hnL]; exact hl.1) (by show (As.reverse ++ .ref i :: st).map (CV ad) = _; simp [List.map_reverse, CV]) (lv_room hwc) hd ⟨hc1, hc2⟩
    · exact va_runIN (host := host) (As := As.map (CV ad)) (rest := st.map (CV ad)) (b := ad i) ⟨hx, hb, hml, hown, hts⟩ (hC l D cs ad H.size) ⟨va_cnB n hts hG rfl rfl rfl (hnw _ h7) (hts _ s2) s5 hr, s4, hts _ s1⟩ hpre rfl (by rw [List.length_map]; exact hn) (by show ls.size = nL; rw [← hnL]; exact hl.1) (by show (As.reverse ++ .ref i :: st).map (CV ad) = _; simp [List.map_reverse, CV]) (lv_room hwc) hd ⟨hc1, hc2⟩
  refine va_callv go hS (fun q _ h => hFc q h) hFc (fun u t H1 locs1 ht hvm hw1 hB hz1 hk1 hS1 => ?_)
  obtain ⟨hP1, hK1, hD1⟩ := hB
  rw [ht] at hP1
  obtain ⟨hu1, hu2⟩ := hw1
  obtain ⟨hP2, hD2⟩ := jn2 hP hD hk1 hFc hP1 hD1
  have ag : ∀ z ∈ Zr, u.1 z.1 = ad z.1 ∧ ∀ j ∈ rfs z.2, u.1 j = ad j := fun z hz2 => by
    obtain ⟨a, b⟩ := nz_at hz z hz2
    exact ⟨hu1 _ a, fun j hj => hu1 _ (b j hj)⟩
  have hP3 : va_P D vwCl (WX u.1 cs (Zr ++ Z1 u.2)) H1 := by
    rw [WX_app]
    refine va_P.app (P_ag ag (fun k z hk => hP2 k z ?_)) hP1
    rw [List.getElem?_append_left (List.getElem?_eq_some_iff.mp hk).1]; exact hk
  have hD3 : va_D A (WX u.1 cs (Zr ++ Z1 u.2)) := by
    refine D_ag ?_ hD2
    rw [WX_app, List.map_append, List.map_append, WX_fst (fun z hz2 => (ag z hz2).1)]
  have := k u.1 u.2 hu1 hu2 H1 locs1 ls hP3 hD3 hS1 (LO_ag (fun j hj => hu1 _ (nn_at hlo j hj)) hl)
  rw [CVs_ag (fun j hj => hu1 _ (nn_at hstn j hj))] at this
  exact this
/-- a method is called on the cells L, which are whole -/
theorem wq_invVv (X : BS x [] cc nL own R) {idx n ci i n0 : Nat} {mm : MI} (hs : SV own idx mm n ci) {L : List Nat} {M : Mem} {Zr : List (Nat × XE)} (hi : AC L i ci n0) (h9 : ci < 9) (hret : mm.2.2.2.1 = none) (hr : RF R mm) {As stk : List Value} (hZ : Z = Zr ++ ZL L M) (hst : stk = As.reverse ++ .ref i :: st) (hn : As.length = n) (hnL : lo.length = nL) (hw : (st.map fun v => v.category).sum ≤ 8) (hc1 : kc ≤ R.cells) (hc2 : ks ≤ R.slots) (hd : decode cc pc = .ok (.invokevirtual idx, 3)) (h : CM mm L (.ref i :: As) M (fun _ M' => WQ x ad kc ks (Zr ++ ZL L M') (pc + 3) lo st)) : WQ x ad kc ks Z pc lo stk := by
  obtain ⟨p, l, e, R', s, m, args, below, meth, c, A, QQ, D, cs, ad0, kc0, ks0⟩ := x
  obtain ⟨hR, hx, hb, hml, hown, hts, hnw, hlk, hA, hK, hnd, hkc, hks⟩ := X
  intro H locs ls hP hD hS hl
  obtain ⟨y, bytes, maxL, ret, rm⟩ := mm
  dsimp only at hret
  subst hret
  obtain ⟨Q0, hmono, hM⟩ := h
  subst hR; subst hst; subst hZ
  rw [WX_app, WX_ZL] at hP hD
  have hPc := P_r hP
  have hDc := D_r hD
  have hFc := wl_free hDc hS hA
  have hwc : ((st.map (CV ad)).map fun v => v.category).sum ≤ 8 := by
    have e : ((st.map (CV ad)).map fun v => v.category) = (st.map fun v => v.category) := by rw [List.map_map]; exact List.map_congr_left (fun v _ => CV_cat ad v)
    rw [e]; exact hw
  obtain ⟨k1, k2, k3, k3b, k4, k5, ⟨T, N, hcl⟩, k6, k7⟩ := hs
  have hG : GoodIn wd_G (wsV own idx y.cls y (.code y bytes maxL none :: wd_G)) := CM_good (mm := (y, bytes, maxL, none, rm)) k4 (fun w hw => by
    rcases List.mem_cons.mp hw with rfl | hw; · exact k1
    rcases List.mem_cons.mp hw with rfl | hw; · exact k2
    rcases List.mem_cons.mp hw with rfl | hw; · exact k3
    rw [List.mem_singleton] at hw; rw [hw]; exact k3b)
  obtain ⟨q, -, hq⟩ := WL_get (ad := ad) (cs := cs) (M := M) hi.1
  rw [EA_o hi.2.1 h9] at hq
  refine va_callv (va_runV (As := As.map (CV ad)) (rest := st.map (CV ad)) (b := ad i) ⟨hx, hb, hml, hown, hts⟩ (hM l D cs ad H.size) (cwV n hts hG rfl k6 k7 ⟨rfl, k5⟩ hr) ⟨PR_blind, va_recv hK hPc hcl hq, fun U hU hW => ⟨rfl, by rw [hU], by rw [hU]; exact hPc, va_K.moved hW.alike hK, hDc.weaken (fun _ _ _ _ => trivial), fun w hw => nw_warm hW w hw (hnw w hw)⟩⟩ rfl (by rw [List.length_map]; exact hn) (by show ls.size = nL; rw [← hnL]; exact hl.1) (by simp [List.map_reverse, CV]) (lv_room hwc) hd ⟨hc1, hc2⟩) hS (fun q _ h => hFc q h) hFc (fun M1 t H1 locs1 ht hvm hw1 hB hz1 hk1 hS1 => ?_)
  obtain ⟨hP1, hK1, hD1⟩ := hB
  rw [ht] at hP1
  obtain ⟨hP2, hD2⟩ := jn2 hP hD hk1 hFc hP1 hD1
  rw [← WX_ZL, ← WX_app] at hP2 hD2
  exact hmono 0 M1 hw1 H1 locs1 ls hP2 hD2 hS1 hl
theorem wq_invV (X : BS x [] cc nL own R) {idx n ci i n0 : Nat} {mm : MI} {ty : FieldType} (hs : SV own idx mm n ci) {L : List Nat} {M : Mem} {Zr : List (Nat × XE)} (hi : AC L i ci n0) (h9 : ci < 9) (hret : mm.2.2.2.1 = some ty) (hr : RF R mm) {As stk : List Value} (hZ : Z = Zr ++ ZL L M) (hst : stk = As.reverse ++ .ref i :: st) (hn : As.length = n) (hnL : lo.length = nL) (hw : (st.map fun v => v.category).sum ≤ 8) (hc1 : kc ≤ R.cells) (hc2 : ks ≤ R.slots) (hd : decode cc pc = .ok (.invokevirtual idx, 3)) (h : CM mm L (.ref i :: As) M (fun r M' => WQ x ad kc ks (Zr ++ ZL L M') (pc + 3) lo (.int r :: st))) : WQ x ad kc ks Z pc lo stk := by
  obtain ⟨p, l, e, R', s, m, args, below, meth, c, A, QQ, D, cs, ad0, kc0, ks0⟩ := x
  obtain ⟨hR, hx, hb, hml, hown, hts, hnw, hlk, hA, hK, hnd, hkc, hks⟩ := X
  intro H locs ls hP hD hS hl
  obtain ⟨y, bytes, maxL, ret, rm⟩ := mm
  dsimp only at hret
  subst hret
  obtain ⟨Q0, hmono, hM⟩ := h
  subst hR; subst hst; subst hZ
  rw [WX_app, WX_ZL] at hP hD
  have hPc := P_r hP
  have hDc := D_r hD
  have hFc := wl_free hDc hS hA
  have hwc : ((st.map (CV ad)).map fun v => v.category).sum ≤ 8 := by
    have e : ((st.map (CV ad)).map fun v => v.category) = (st.map fun v => v.category) := by rw [List.map_map]; exact List.map_congr_left (fun v _ => CV_cat ad v)
    rw [e]; exact hw
  obtain ⟨k1, k2, k3, k3b, k4, k5, ⟨T, N, hcl⟩, k6, k7⟩ := hs
  have hG : GoodIn wd_G (wsV own idx y.cls y (.code y bytes maxL (some ty) :: wd_G)) := CM_good (mm := (y, bytes, maxL, some ty, rm)) k4 (fun w hw => by
    rcases List.mem_cons.mp hw with rfl | hw; · exact k1
    rcases List.mem_cons.mp hw with rfl | hw; · exact k2
    rcases List.mem_cons.mp hw with rfl | hw; · exact k3
    rw [List.mem_singleton] at hw; rw [hw]; exact k3b)
  obtain ⟨q, -, hq⟩ := WL_get (ad := ad) (cs := cs) (M := M) hi.1
  rw [EA_o hi.2.1 h9] at hq
  refine va_calli (va_runV (As := As.map (CV ad)) (rest := st.map (CV ad)) (b := ad i) ⟨hx, hb, hml, hown, hts⟩ (hM l D cs ad H.size) (cwV n hts hG rfl k6 k7 ⟨rfl, k5⟩ hr) ⟨PR_blind, va_recv hK hPc hcl hq, fun U hU hW => ⟨rfl, by rw [hU], by rw [hU]; exact hPc, va_K.moved hW.alike hK, hDc.weaken (fun _ _ _ _ => trivial), fun w hw => nw_warm hW w hw (hnw w hw)⟩⟩ rfl (by rw [List.length_map]; exact hn) (by show ls.size = nL; rw [← hnL]; exact hl.1) (by simp [List.map_reverse, CV]) (lv_room hwc) hd ⟨hc1, hc2⟩) hS (fun q _ h => hFc q h) hFc (fun r M1 t H1 locs1 ht hvm hw1 hB hz1 hk1 hS1 => ?_)
  obtain ⟨hP1, hK1, hD1⟩ := hB
  rw [ht] at hP1
  obtain ⟨hP2, hD2⟩ := jn2 hP hD hk1 hFc hP1 hD1
  rw [← WX_ZL, ← WX_app] at hP2 hD2
  exact hmono r M1 hw1 H1 locs1 ls hP2 hD2 hS1 hl
end MAKE3
