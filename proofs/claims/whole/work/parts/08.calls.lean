theorem nw_tab : ∀ w ∈ wd_N, w.onTables = true := by decide +kernel
theorem nw_warm {s U : State} (hW : s.WarmedH U.vm) : ∀ w ∈ wd_N, va_Nw w s → va_Nw w U := by
  intro w hw h
  simp only [wd_N, List.mem_cons, List.not_mem_nil, or_false] at hw
  rcases hw with rfl | rfl | rfl | rfl | rfl | rfl | rfl | rfl | rfl | rfl | rfl | rfl | rfl | rfl | rfl | rfl | rfl | rfl | rfl | rfl | rfl | rfl | rfl | rfl | rfl | rfl | rfl | rfl | rfl | rfl | rfl | rfl | rfl | rfl | rfl | rfl <;> first | exact va_Nw.warmF hW h | exact va_Nw.warmM hW h
theorem PR_blind {D : va_G} {cs : ClassId × ClassId × ClassId} {ad : Nat → Nat} {L : List Nat} {M : Mem} {sz : Nat} {av : List Value} : FrameBlind (va_Pc av (PR D cs ad L M sz)) := fun a U g mk q => by
  obtain ⟨q0, q1, qP, qK, qD, qN⟩ := q
  exact ⟨q0, q1, qP, va_K.moved (u := U) (U := U.calling g mk a) (Vm.Alike.refl U.vm) qK, qD, fun w hw => va_Nw.same (u := U) (U := U.calling g mk a) (nw_tab w hw) (show U.vm = (U.calling g mk a).vm from rfl) (qN w hw)⟩
theorem wl_free {A : Nat → Prop} {ws : va_W} {H0 H : Heap} {locs : List Loc} (hD : va_D A ws) (hS : va_S A H0 H locs) (hA : ∀ q, H0.size ≤ q → A q) : ∀ q, va_A ws H.size q → A q := by
  intro q h
  rcases h with ⟨k, e, h⟩ | h
  · exact hD.2 k _ h
  · exact hA q (Nat.le_trans hS.1 h)
theorem CV_ref {ad : Nat → Nat} {i : Nat} : CV ad (.ref i) = .ref (ad i) := rfl
/-- entry locals -/
def EL (av : List Value) (nL : Nat) : List (Option Value) := av.map some ++ List.replicate (nL - av.length) none
theorem lv_args_mem (ad : Nat → Nat) : ∀ (av : List Value) (k : Nat), (∀ v ∈ av, v.category = 1) → ∀ (i : Nat) (v : Value), av[i]? = some v → (k + i, CV ad v) ∈ lv_args k (av.map (CV ad))
  | [], _, _, i, v, h => by simp at h
  | a :: av, k, hc, i, v, h => by
    have ha : ¬ (CV ad a).category = 2 := by rw [CV_cat, hc a List.mem_cons_self]; decide
    rw [List.map_cons, lv_args, if_neg ha]
    cases i with
    | zero =>
      simp at h
      subst h
      exact List.mem_cons_self
    | succ i =>
      have h2 := lv_args_mem ad av (k + 1) (fun v hv => hc v (List.mem_cons_of_mem _ hv)) i v (by simpa using h)
      have e : k + 1 + i = k + (i + 1) := by omega
      rw [e] at h2
      exact List.mem_cons_of_mem _ h2
theorem sl_len (ad : Nat → Nat) : ∀ av : List Value, (∀ v ∈ av, v.category = 1) → (lg_sl (av.map (CV ad))).length = av.length
  | [], _ => rfl
  | a :: av, hc => by
    have ha : ¬ (CV ad a).category = 2 := by rw [CV_cat, hc a List.mem_cons_self]; decide
    have ih := sl_len ad av (fun v hv => hc v (List.mem_cons_of_mem _ hv))
    simp only [lg_sl, List.map_cons, List.flatMap_cons, if_neg ha] at ih ⊢
    simp [ih]
theorem EL_LO {ad : Nat → Nat} {av : List Value} {nL : Nat} (hc : ∀ v ∈ av, v.category = 1) (hn : av.length ≤ nL) : LO ad ((lg_sl (av.map (CV ad)) ++ List.replicate (nL - (lg_sl (av.map (CV ad))).length) Slot.unset).toArray) (EL av nL) := by
  have h := lv_entry (av.map (CV ad)) (n := nL) (by rw [sl_len ad av hc]; exact hn)
  have hlen : (EL av nL).length = nL := by simp [EL]; omega
  refine ⟨by rw [hlen]; exact h.1, h.2.1, fun q hq => h.2.2 q ?_⟩
  obtain ⟨v, hv, hq2⟩ := lvl_mem.mp hq
  unfold EL at hv
  by_cases hl : q.1 < av.length
  · rw [List.getElem?_append_left (by simpa using hl), List.getElem?_map] at hv
    cases ha : av[q.1]? with
    | none => rw [ha] at hv; cases hv
    | some w =>
      rw [ha] at hv
      cases hv
      have := lv_args_mem ad av 0 hc q.1 v ha
      rw [Nat.zero_add, ← hq2] at this
      exact this
  · rw [List.getElem?_append_right (by simpa using hl)] at hv
    have := List.mem_of_getElem? hv
    simp at this
theorem CM.intro {y : MethodName} {cc : ByteArray} {nL : Nat} {ret : Option FieldType} {rm : Room} {own : String} {L : List Nat} {av : List Value} {M : Mem} {Q : Int32 → Mem → Prop} (hy : plainFor y = true) (hown : y.cls = own) (hc : ∀ v ∈ av, v.category = 1) (hn : av.length ≤ nL) (hnd : L.Nodup)
    (h : ∀ x : CT, BS x L cc nL own rm → RT x L ret Q → WP x L 0 (EL av nL) [] M) : CM (y, cc, nL, ret, rm) L av M Q := by
  refine ⟨Q, fun _ _ h => h, fun l D cs ad sz => ?_⟩
  refine va_MetF (cc := cc) (maxL := nL) (ret := ret) hy rfl ?_
  intro p e s m args below meth c s₁ B hml hv
  obtain ⟨rfl, hsz, hP, hK, hD0, hnw⟩ := hv
  have hts := atoms_spec (ws := .code y cc nL ret :: wd_G) B.pre
  subst hsz
  have hD := hD0.self (sz := s.heap.size)
  generalize hAe : va_A (WL ad cs L M) s.heap.size = A at hD ⊢
  have hA : ∀ q : Nat, s.heap.size ≤ q → A q := fun q h => by rw [← hAe]; exact Or.inr h
  rw [lg_entry_eq]
  have hl := EL_LO (ad := ad) hc hn
  exact h (p, l, e, rm, s, m, (av.map (CV ad)).toArray, below, meth, c, A, MQ below (QR ret Q (BK D cs ad L A) A) (av.map (CV ad)).toArray s 0 0 A, D, cs, ad, 0, 0)
    ⟨rfl, B.exec, B.bytes, hml, by rw [← hown]; exact findClass_of_methodNamed B.named, fun w hw => hts w (List.mem_cons_of_mem _ hw), hnw, B.notSynchronized, hA, hK, hnd, Nat.zero_le _, Nat.zero_le _⟩
    ⟨B.returns, rfl, rfl, rfl⟩ s.heap [] _ hP hD va_S.rf hl
theorem CM_good {ws : List Cond} {mm : MI} (hc : Cond.code mm.1 mm.2.1 mm.2.2.1 mm.2.2.2.1 ∈ wd_G) (h : ∀ w ∈ ws, w ∈ wd_G) : GoodIn wd_G (ws ++ (.code mm.1 mm.2.1 mm.2.2.1 mm.2.2.2.1 :: wd_G)) := by
  intro w hw
  rcases List.mem_append.mp hw with h1 | h1
  · exact wd_good w (h w h1)
  · rcases List.mem_cons.mp h1 with rfl | h1
    · exact wd_good _ hc
    · exact wd_good w h1
/-- a call's site -/
def SV (own : String) (idx : Nat) (mm : MI) (n ci : Nat) : Prop := Cond.methodLink own idx mm.1 ∈ wd_G ∧ Cond.instanceMethod mm.1 ∈ wd_G ∧ Cond.selects mm.1.cls mm.1 mm.1 ∈ wd_G ∧ Cond.initialized mm.1.cls ∈ wd_G ∧ Cond.code mm.1 mm.2.1 mm.2.2.1 mm.2.2.2.1 ∈ wd_G ∧ (mm.1.cls ≠ "java/lang/invoke/MethodHandle" ∧ mm.1.cls ≠ "java/lang/invoke/VarHandle" ∧ (parseMethodDescriptor mm.1.desc).map (fun d => d.parameters.length) = some n) ∧ (∃ (T : u_T) (N : Nat), vwCl[ci]? = some (mm.1.cls, T, N)) ∧ mm.2.2.2.2.cells = 0 ∧ mm.2.2.2.2.slots = 0
def SS (own : String) (idx : Nat) (mm : MI) (n : Nat) : Prop := Cond.methodLink own idx mm.1 ∈ wd_G ∧ Cond.static mm.1 ∈ wd_G ∧ Cond.initialized mm.1.cls ∈ wd_G ∧ Cond.code mm.1 mm.2.1 mm.2.2.1 mm.2.2.2.1 ∈ wd_G ∧ (mm.1.cls ≠ "java/lang/invoke/MethodHandle" ∧ mm.1.cls ≠ "java/lang/invoke/VarHandle" ∧ (parseMethodDescriptor mm.1.desc).map (fun d => d.parameters.length) = some n) ∧ mm.2.2.2.2.cells = 0 ∧ mm.2.2.2.2.slots = 0
/-- the callee's room fits -/
def RF (R : Room) (mm : MI) : Prop := mm.2.2.2.2.frames + 1 ≤ R.frames ∧ 8 + (mm.2.2.1 + 11) + mm.2.2.2.2.locals ≤ R.locals
theorem wp_invV {x : CT} {L : List Nat} {cc : ByteArray} {own : String} {R : Room} {pc : Nat} {lo : List (Option Value)} {st : List Value} {M : Mem} (X : BS x L cc lo.length own R) {idx n ci : Nat} {mm : MI} {ty : FieldType} (hs : SV own idx mm n ci) {i n0 : Nat} (hi : AC L i ci n0) (h9 : ci < 9) (hret : mm.2.2.2.1 = some ty) (hr : RF R mm) {As : List Value} {stk : List Value} (hst : stk = As.reverse ++ .ref i :: st) (hn : As.length = n) (hw : (st.map fun v => v.category).sum ≤ 8) (hd : decode cc pc = .ok (.invokevirtual idx, 3)) (h : CM mm L (.ref i :: As) M (fun r M' => WP x L (pc + 3) lo (.int r :: st) M')) : WP x L pc lo stk M := by
  obtain ⟨p, l, e, R', s, m, args, below, meth, c, A, QQ, D, cs, ad, kc, ks⟩ := x
  obtain ⟨hR, hx, hb, hml, hown, hts, hnw, hlk, hA, hK, hnd, hkc, hks⟩ := X
  intro H locs ls hP hD hS hl
  obtain ⟨y, bytes, maxL, ret, rm⟩ := mm
  dsimp only at hret
  subst hret
  obtain ⟨Q0, hmono, hM⟩ := h
  subst hR
  subst hst
  have hFc := wl_free hD hS hA
  have hwc : ((st.map (CV ad)).map fun v => v.category).sum ≤ 8 := by
    have e : ((st.map (CV ad)).map fun v => v.category) = (st.map fun v => v.category) := by rw [List.map_map]; exact List.map_congr_left (fun v _ => CV_cat ad v)
    rw [e]; exact hw
  obtain ⟨k1, k2, k3, k3b, k4, k5, ⟨T, N, hcl⟩, k6, k7⟩ := hs
  have hG : GoodIn wd_G (wsV own idx y.cls y (.code y bytes maxL (some ty) :: wd_G)) := CM_good (mm := (y, bytes, maxL, some ty, rm)) k4 (fun w hw => by
    rcases List.mem_cons.mp hw with rfl | hw; · exact k1
    rcases List.mem_cons.mp hw with rfl | hw; · exact k2
    rcases List.mem_cons.mp hw with rfl | hw; · exact k3
    rw [List.mem_singleton] at hw; rw [hw]; exact k3b)
  obtain ⟨q, -, hq⟩ := WL_get (ad := ad) (cs := cs) (M := M) hi.1
  rw [EA_o hi.2.1 h9] at hq
  refine va_calli (va_runV (As := As.map (CV ad)) (rest := st.map (CV ad)) (b := ad i) ⟨hx, hb, hml, hown, hts⟩ (hM l D cs ad H.size) (cwV n hts hG rfl k6 k7 ⟨rfl, k5⟩ hr) ⟨PR_blind, va_recv hK hP hcl hq, fun U hU hW => ⟨rfl, by rw [hU], by rw [hU]; exact hP, va_K.moved hW.alike hK, hD.weaken (fun _ _ _ _ => trivial), fun w hw => nw_warm hW w hw (hnw w hw)⟩⟩ rfl (by rw [List.length_map]; exact hn) (hl.1) (by simp [List.map_reverse, CV]) (lv_room hwc) hd ⟨hkc, hks⟩) hS (fun q _ h => hFc q h) hFc (fun r M1 t H1 locs1 ht hvm hw1 hB hz1 hk1 hS1 => ?_)
  obtain ⟨hP1, hK1, hD1⟩ := hB
  rw [ht] at hP1
  exact hmono r M1 hw1 H1 locs1 ls hP1 (hD1.weaken (fun _ q _ h => hFc q.1 h)) hS1 hl
theorem wp_invVv {x : CT} {L : List Nat} {cc : ByteArray} {own : String} {R : Room} {pc : Nat} {lo : List (Option Value)} {st : List Value} {M : Mem} (X : BS x L cc lo.length own R) {idx n ci : Nat} {mm : MI} (hs : SV own idx mm n ci) {i n0 : Nat} (hi : AC L i ci n0) (h9 : ci < 9) (hret : mm.2.2.2.1 = none) (hr : RF R mm) {As : List Value} {stk : List Value} (hst : stk = As.reverse ++ .ref i :: st) (hn : As.length = n) (hw : (st.map fun v => v.category).sum ≤ 8) (hd : decode cc pc = .ok (.invokevirtual idx, 3)) (h : CM mm L (.ref i :: As) M (fun _ M' => WP x L (pc + 3) lo st M')) : WP x L pc lo stk M := by
  obtain ⟨p, l, e, R', s, m, args, below, meth, c, A, QQ, D, cs, ad, kc, ks⟩ := x
  obtain ⟨hR, hx, hb, hml, hown, hts, hnw, hlk, hA, hK, hnd, hkc, hks⟩ := X
  intro H locs ls hP hD hS hl
  obtain ⟨y, bytes, maxL, ret, rm⟩ := mm
  dsimp only at hret
  subst hret
  obtain ⟨Q0, hmono, hM⟩ := h
  subst hR
  subst hst
  have hFc := wl_free hD hS hA
  have hwc : ((st.map (CV ad)).map fun v => v.category).sum ≤ 8 := by
    have e : ((st.map (CV ad)).map fun v => v.category) = (st.map fun v => v.category) := by rw [List.map_map]; exact List.map_congr_left (fun v _ => CV_cat ad v)
    rw [e]; exact hw
  obtain ⟨k1, k2, k3, k3b, k4, k5, ⟨T, N, hcl⟩, k6, k7⟩ := hs
  have hG : GoodIn wd_G (wsV own idx y.cls y (.code y bytes maxL none :: wd_G)) := CM_good (mm := (y, bytes, maxL, none, rm)) k4 (fun w hw => by
    rcases List.mem_cons.mp hw with rfl | hw; · exact k1
    rcases List.mem_cons.mp hw with rfl | hw; · exact k2
    rcases List.mem_cons.mp hw with rfl | hw; · exact k3
    rw [List.mem_singleton] at hw; rw [hw]; exact k3b)
  obtain ⟨q, -, hq⟩ := WL_get (ad := ad) (cs := cs) (M := M) hi.1
  rw [EA_o hi.2.1 h9] at hq
  refine va_callv (va_runV (As := As.map (CV ad)) (rest := st.map (CV ad)) (b := ad i) ⟨hx, hb, hml, hown, hts⟩ (hM l D cs ad H.size) (cwV n hts hG rfl k6 k7 ⟨rfl, k5⟩ hr) ⟨PR_blind, va_recv hK hP hcl hq, fun U hU hW => ⟨rfl, by rw [hU], by rw [hU]; exact hP, va_K.moved hW.alike hK, hD.weaken (fun _ _ _ _ => trivial), fun w hw => nw_warm hW w hw (hnw w hw)⟩⟩ rfl (by rw [List.length_map]; exact hn) (hl.1) (by simp [List.map_reverse, CV]) (lv_room hwc) hd ⟨hkc, hks⟩) hS (fun q _ h => hFc q h) hFc (fun M1 t H1 locs1 ht hvm hw1 hB hz1 hk1 hS1 => ?_)
  obtain ⟨hP1, hK1, hD1⟩ := hB
  rw [ht] at hP1
  exact hmono 0 M1 hw1 H1 locs1 ls hP1 (hD1.weaken (fun _ q _ h => hFc q.1 h)) hS1 hl
theorem wp_invS {x : CT} {L : List Nat} {cc : ByteArray} {own : String} {R : Room} {pc : Nat} {lo : List (Option Value)} {st : List Value} {M : Mem} (X : BS x L cc lo.length own R) {idx n : Nat} {mm : MI} {ty : FieldType} (hs : SS own idx mm n) (hret : mm.2.2.2.1 = some ty) (hr : RF R mm) {As : List Value} {stk : List Value} (hst : stk = As.reverse ++ st) (hn : As.length = n) (hw : (st.map fun v => v.category).sum ≤ 8) (hd : decode cc pc = .ok (.invokestatic idx, 3)) (h : CM mm L As M (fun r M' => WP x L (pc + 3) lo (.int r :: st) M')) : WP x L pc lo stk M := by
  obtain ⟨p, l, e, R', s, m, args, below, meth, c, A, QQ, D, cs, ad, kc, ks⟩ := x
  obtain ⟨hR, hx, hb, hml, hown, hts, hnw, hlk, hA, hK, hnd, hkc, hks⟩ := X
  intro H locs ls hP hD hS hl
  obtain ⟨y, bytes, maxL, ret, rm⟩ := mm
  dsimp only at hret
  subst hret
  obtain ⟨Q0, hmono, hM⟩ := h
  subst hR
  subst hst
  have hFc := wl_free hD hS hA
  have hwc : ((st.map (CV ad)).map fun v => v.category).sum ≤ 8 := by
    have e : ((st.map (CV ad)).map fun v => v.category) = (st.map fun v => v.category) := by rw [List.map_map]; exact List.map_congr_left (fun v _ => CV_cat ad v)
    rw [e]; exact hw
  obtain ⟨k1, k2, k3, k4, k5, k6, k7⟩ := hs
  have hG : GoodIn wd_G (va_wsS own idx y (.code y bytes maxL (some ty) :: wd_G)) := CM_good (mm := (y, bytes, maxL, some ty, rm)) k4 (fun w hw => by
    rcases List.mem_cons.mp hw with rfl | hw; · exact k1
    rcases List.mem_cons.mp hw with rfl | hw; · exact k2
    rw [List.mem_singleton] at hw; rw [hw]; exact k3)
  refine va_calli (va_runS (As := As.map (CV ad)) (rest := st.map (CV ad)) ⟨hx, hb, hml, hown, hts⟩ (hM l D cs ad H.size) (va_cwS n hts hG rfl k6 k7 k5 hr) ⟨PR_blind, fun U hU hW => ⟨rfl, by rw [hU], by rw [hU]; exact hP, va_K.moved hW.alike hK, hD.weaken (fun _ _ _ _ => trivial), fun w hw => nw_warm hW w hw (hnw w hw)⟩⟩ rfl (by rw [List.length_map]; exact hn) (hl.1) (by simp [List.map_reverse]) (lv_room hwc) hd ⟨hkc, hks⟩) hS (fun q _ h => hFc q h) hFc (fun r M1 t H1 locs1 ht hvm hw1 hB hz1 hk1 hS1 => ?_)
  obtain ⟨hP1, hK1, hD1⟩ := hB
  rw [ht] at hP1
  exact hmono r M1 hw1 H1 locs1 ls hP1 (hD1.weaken (fun _ q _ h => hFc q.1 h)) hS1 hl
theorem wp_max {x : CT} {L : List Nat} {cc : ByteArray} {own : String} {R : Room} {pc : Nat} {lo : List (Option Value)} {st : List Value} {M : Mem} (X : BS x L cc lo.length own R) {idx : Nat} (h1 : Cond.methodLink own idx Lib.Math.max.name ∈ wd_G) (h2 : Cond.static Lib.Math.max.name ∈ wd_G) (h3 : Cond.initialized "java/lang/Math" ∈ wd_G) (h4 : Cond.code Lib.Math.max.name Lib.Math.max.code 2 (some .int) ∈ wd_G) {a b : Int32} (hf : 1 ≤ R.frames) (hw : (st.map fun v => v.category).sum + 13 ≤ R.locals) (hd : decode cc pc = .ok (.invokestatic idx, 3)) (kk : WP x L (pc + 3) lo (.int (if a < b then b else a) :: st) M) : WP x L pc lo (.int b :: .int a :: st) M := by
  obtain ⟨p, l, e, R', s, m, args, below, meth, c, A, QQ, D, cs, ad, kc, ks⟩ := x
  obtain ⟨hR, hx, hb, hml, hown, hts, hnw, hlk, hA, hK, hnd, hkc, hks⟩ := X
  intro H locs ls hP hD hS hl
  subst hR
  have hwc : ((st.map (CV ad)).map fun v => v.category).sum + 13 ≤ R'.locals := by
    have e : ((st.map (CV ad)).map fun v => v.category) = (st.map fun v => v.category) := by rw [List.map_map]; exact List.map_congr_left (fun v _ => CV_cat ad v)
    rw [e]; exact hw
  exact va_mmax hx hb (hml.trans hl.1.symm) hown (hts _ h1) (hts _ h2) (hts _ h3) (hts _ h4) hf hwc hkc hks hd (kk H locs ls hP hD hS hl)
theorem wp_min {x : CT} {L : List Nat} {cc : ByteArray} {own : String} {R : Room} {pc : Nat} {lo : List (Option Value)} {st : List Value} {M : Mem} (X : BS x L cc lo.length own R) {idx : Nat} (h1 : Cond.methodLink own idx Lib.Math.min.name ∈ wd_G) (h2 : Cond.static Lib.Math.min.name ∈ wd_G) (h3 : Cond.initialized "java/lang/Math" ∈ wd_G) (h4 : Cond.code Lib.Math.min.name Lib.Math.min.code 2 (some .int) ∈ wd_G) {a b : Int32} (hf : 1 ≤ R.frames) (hw : (st.map fun v => v.category).sum + 13 ≤ R.locals) (hd : decode cc pc = .ok (.invokestatic idx, 3)) (kk : WP x L (pc + 3) lo (.int (if b < a then b else a) :: st) M) : WP x L pc lo (.int b :: .int a :: st) M := by
  obtain ⟨p, l, e, R', s, m, args, below, meth, c, A, QQ, D, cs, ad, kc, ks⟩ := x
  obtain ⟨hR, hx, hb, hml, hown, hts, hnw, hlk, hA, hK, hnd, hkc, hks⟩ := X
  intro H locs ls hP hD hS hl
  subst hR
  have hwc : ((st.map (CV ad)).map fun v => v.category).sum + 13 ≤ R'.locals := by
    have e : ((st.map (CV ad)).map fun v => v.category) = (st.map fun v => v.category) := by rw [List.map_map]; exact List.map_congr_left (fun v _ => CV_cat ad v)
    rw [e]; exact hw
  exact va_mmin hx hb (hml.trans hl.1.symm) hown (hts _ h1) (hts _ h2) (hts _ h3) (hts _ h4) hf hwc hkc hks hd (kk H locs ls hP hD hS hl)
theorem wp_f2raw {x : CT} {L : List Nat} {cc : ByteArray} {own : String} {R : Room} {pc : Nat} {lo : List (Option Value)} {st : List Value} {M : Mem} (X : BS x L cc lo.length own R) {idx : Nat} (h1 : Cond.methodLink own idx ⟨"java/lang/Float", "floatToRawIntBits", "(F)I"⟩ ∈ wd_G) (h2 : Cond.native ⟨"java/lang/Float", "floatToRawIntBits", "(F)I"⟩ ∈ wd_G) (h3 : Cond.static ⟨"java/lang/Float", "floatToRawIntBits", "(F)I"⟩ ∈ wd_G) (h4 : Cond.initialized "java/lang/Float" ∈ wd_G) {b : UInt32} (hf : 1 ≤ R.frames) (hw : (st.map fun v => v.category).sum + 15 ≤ R.locals) (hd : decode cc pc = .ok (.invokestatic idx, 3)) (kk : WP x L (pc + 3) lo (.int b.toInt32 :: st) M) : WP x L pc lo (.float b :: st) M := by
  obtain ⟨p, l, e, R', s, m, args, below, meth, c, A, QQ, D, cs, ad, kc, ks⟩ := x
  obtain ⟨hR, hx, hb, hml, hown, hts, hnw, hlk, hA, hK, hnd, hkc, hks⟩ := X
  intro H locs ls hP hD hS hl
  subst hR
  have hwc : ((st.map (CV ad)).map fun v => v.category).sum + 15 ≤ R'.locals := by
    have e : ((st.map (CV ad)).map fun v => v.category) = (st.map fun v => v.category) := by rw [List.map_map]; exact List.map_congr_left (fun v _ => CV_cat ad v)
    rw [e]; exact hw
  exact vn_f2i hx hb (hml.trans hl.1.symm) hown (hts _ h1) (hts _ h2) (hts _ h3) (hts _ h4) hf hwc hd (kk H locs ls hP hD hS hl)
/-- a row is copied over another one -/
def MC (M : Mem) (i j n : Nat) : Mem := fun k => if k = j then (fun t => if t < n then M i t else M j t) else M k
theorem cpy_0 (f g : Nat → Int32) (n : Nat) : va_cpy f g 0 0 n = fun t => if t < n then f t else g t := by
  funext t
  unfold va_cpy
  by_cases h : t < n
  · rw [if_pos ⟨Nat.zero_le _, by omega⟩, if_pos h, Nat.zero_add, Nat.sub_zero]
  · rw [if_neg (by omega), if_neg h]
theorem wp_copy {x : CT} {L : List Nat} {cc : ByteArray} {own : String} {R : Room} {pc : Nat} {lo : List (Option Value)} {st : List Value} {M : Mem} (X : BS x L cc lo.length own R) {idx : Nat} (h1 : Cond.methodLink own idx arraycopyName ∈ wd_G) (h2 : Cond.native arraycopyName ∈ wd_G) (h3 : Cond.static arraycopyName ∈ wd_G) (h4 : Cond.initialized "java/lang/System" ∈ wd_G) {i j n0 n1 n : Nat} (hi : AC L i 9 n0) (hj : AC L j 9 n1) (hn0 : n ≤ n0) (hn1 : n ≤ n1) (hn : n < 2 ^ 31) (hf : 1 ≤ R.frames) (hw : (st.map fun v => v.category).sum + (nativeFrameWords "java/lang/System" "arraycopy" 5 + 11) ≤ R.locals) (hd : decode cc pc = .ok (.invokestatic idx, 3)) (kk : WP x L (pc + 3) lo st (MC M i j n)) : WP x L pc lo (.int (nI n) :: .int (nI 0) :: .ref j :: .int (nI 0) :: .ref i :: st) M := by
  obtain ⟨p, l, e, R', s, m, args, below, meth, c, A, QQ, D, cs, ad, kc, ks⟩ := x
  obtain ⟨hR, hx, hb, hml, hown, hts, hnw, hlk, hA, hK, hnd, hkc, hks⟩ := X
  intro H locs ls hP hD hS hl
  subst hR
  have hwc : ((st.map (CV ad)).map fun v => v.category).sum + (nativeFrameWords "java/lang/System" "arraycopy" 5 + 11) ≤ R'.locals := by
    have e : ((st.map (CV ad)).map fun v => v.category) = (st.map fun v => v.category) := by rw [List.map_map]; exact List.map_congr_left (fun v _ => CV_cat ad v)
    rw [e]; exact hw
  obtain ⟨q0, -, hq0⟩ := WL_get (ad := ad) (cs := cs) (M := M) hi.1
  obtain ⟨q1, hLq, hq1⟩ := WL_get (ad := ad) (cs := cs) (M := M) hj.1
  rw [EA_i hi.2.1, hi.2.2] at hq0
  rw [EA_i hj.2.1, hj.2.2] at hq1
  have hset : (WL ad cs L M).set q1 (ad j, .inl (cs.1, n1, .inl (va_cpy (M i) (M j) (nI 0).toNatClampNeg (nI 0).toNatClampNeg (nI n).toNatClampNeg))) = WL ad cs L (MC M i j n) := by
    rw [nI_clamp (by decide), nI_clamp hn, cpy_0, ← hj.2.2, ← EA_i (ad := ad) (cs := cs) hj.2.1]
    exact WL_set hnd hLq _
  refine va_copyi hx hb (hml.trans hl.1.symm) hown (hts _ h1) (hts _ h2) (hts _ h3) (hts _ h4) hK hP hD hS q0 q1 0 0 hq0 hq1 rfl rfl rfl (nI_pos (by decide)) (nI_pos (by decide)) (nI_pos hn) (by rw [nI_clamp (by decide), nI_clamp hn]; omega) (by rw [nI_clamp (by decide), nI_clamp hn]; omega) (fun _ _ => rfl) hf hwc hd ?_
  rw [hset]
  exact fun H1 locs1 a1 a2 a3 => kk H1 locs1 ls a1 a2 a3 hl
