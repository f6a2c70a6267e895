/-! the law: its start -/
theorem kk_37 : (.initialized RX7 : Cond) ∈ wd_G := wd_in 37 (by decide +kernel) rfl
theorem kk_46 : (.initialized RX8 : Cond) ∈ wd_G := wd_in 46 (by decide +kernel) rfl
theorem kk_50 : (.classLink RL 7 RX7 : Cond) ∈ wd_G := wd_in 50 (by decide +kernel) rfl
theorem kk_51 : (.instantiable RX7 6 : Cond) ∈ wd_G := wd_in 51 (by decide +kernel) rfl
theorem kk_52 : (.methodLink RL 9 yX7_init : Cond) ∈ wd_G := wd_in 52 (by decide +kernel) rfl
theorem kk_53 : (.instanceMethod yX7_init : Cond) ∈ wd_G := wd_in 53 (by decide +kernel) rfl
theorem kk_600 : (.classLink RL 10 RX8 : Cond) ∈ wd_G := wd_in 600 (by decide +kernel) rfl
theorem kk_601 : (.instantiable RX8 9 : Cond) ∈ wd_G := wd_in 601 (by decide +kernel) rfl
theorem kk_602 : (.methodLink RL 12 yX8_init : Cond) ∈ wd_G := wd_in 602 (by decide +kernel) rfl
theorem kk_603 : (.instanceMethod yX8_init : Cond) ∈ wd_G := wd_in 603 (by decide +kernel) rfl
theorem nc_9_7 : NC RL 7 7 6 [.null, .null, .null, .null, .null, .null] := ⟨RX7, TX7, tyX7, rfl, in_X7, tyX7_ok, kk_50, kk_51, kk_37, by decide +kernel⟩
theorem nc_9_10 : NC RL 10 8 9 [.null, .int 0, .null, .int 0, .null, .int 0, .int 0, .int 0, .int 0] := ⟨RX8, TX8, tyX8, rfl, in_X8, tyX8_ok, kk_600, kk_601, kk_46, by decide +kernel⟩
theorem si_9_9 : SI RL 9 mi_7 0 := ⟨kk_53, kk_37, wd_in 54 (by decide +kernel) rfl, rfl, ⟨by decide +kernel, by decide +kernel, by decide +kernel⟩, rfl, Or.inl kk_52⟩
theorem si_9_12 : SI RL 12 mi_8 0 := ⟨kk_603, kk_46, wd_in 604 (by decide +kernel) rfl, rfl, ⟨by decide +kernel, by decide +kernel, by decide +kernel⟩, rfl, Or.inl kk_602⟩
abbrev L139 : List Nat := [0, 1, 2, 3, 4, 5, 6, 7, 8, 9, 10, 11, 12, 13, 14, 15, 16, 17, 18, 19, 20, 21, 22, 23, 24, 25, 26, 27, 28, 29, 30, 31, 32, 33, 34, 35, 36, 37, 38, 39, 40, 41, 42, 43, 44, 45, 46, 47, 48, 49, 50, 51, 52, 53, 54, 55, 56, 57, 58, 59, 60, 61, 62, 63, 64, 65, 66, 67, 68, 69, 70, 71, 72, 73, 74, 75, 76, 77, 78, 79, 80, 81, 82, 83, 84, 85, 86, 87, 88, 89, 90, 91, 92, 93, 94, 95, 96, 97, 98, 99, 100, 101, 102, 103, 104, 105, 106, 107, 108, 109, 110, 111, 112, 113, 114, 115, 116, 117, 118, 119, 120, 121, 122, 123, 124, 125, 126, 127, 128, 129, 130, 131, 132, 133, 134, 135, 136, 137, 138]
theorem wq_astore_n {x : CT} {cc : ByteArray} {nL : Nat} {own : String} {R : Room} {ad : Nat → Nat} {kc ks : Nat} {Z : List (Nat × XE)} {pc : Nat} {lo : List (Option Value)} {st : List Value} (X : BS x [] cc nL own R) {k4 : Fin 4} {i v : Nat} {lo' : List (Option Value)} (hd : decode cc pc = .ok (.astore_n k4, 1)) (hi : (k4 : Nat) = i) (hi2 : i < lo.length) (hn : noL lo i = true) (he : lo.set i (some (.ref v)) = lo') (k : WQ x ad kc ks Z (pc + 1) lo' st) : WQ x ad kc ks Z pc lo (.ref v :: st) := by
  obtain ⟨p, l, e, R', s, m, args, below, meth, c, A, QQ, D, cs, ad0, kc0, ks0⟩ := x
  obtain ⟨hR, hx, hb, hml, hown, hts, hnw, hlk, hA, hK, hnd, hkc, hks⟩ := X
  intro H locs ls hP hD hS hl
  exact lv_astore_n hx hb hd hi hl hi2 rfl (fun ls' hl' => k H locs ls' hP hD hS (LO_st1 he hn hl'))
theorem rfs_D (i : Nat) (r r' : Nat → Int32) : rfs (xD i r) = rfs (xD i r') := by
  unfold rfs
  dsimp only
  have : rvs (FA i r) = rvs (FA i r') := by
    unfold FA
    repeat' split
    all_goals rfl
  rw [this]
theorem nz_ZL (N L : List Nat) (M M' : Mem) : nz N (ZL L M) = nz N (ZL L M') := by
  unfold nz ZL
  rw [List.all_map, List.all_map]
  congr 1
  funext i
  show (!(N.contains i) && (rfs (xD i (M i))).all _) = (!(N.contains i) && (rfs (xD i (M' i))).all _)
  rw [rfs_D i (M i) (M' i)]
def MT (M M2 : Mem) : Mem := fun j => if j < 139 then M j else M2 j
theorem ZL_T (M M2 : Mem) : ZL L139 M ++ ZL L4 M2 = ZL LF (MT M M2) := by
  have e : LF = L139 ++ L4 := by decide +kernel
  rw [e]
  unfold ZL
  rw [List.map_append]
  congr 1
theorem nuC_ok : ∀ l, l < 4 → (KD (11 + 1 + 10 + 3 * l) = 1 ∧ nuC (11 + 1 + 10 + 3 * l) = l) := by decide +kernel
theorem nuC_k : ∀ j, j < 4 → ∀ l, l < 4 → (KD (35 + 1 + 23 * j + 1 + 10 + 3 * l) = 1 ∧ nuC (35 + 1 + 23 * j + 1 + 10 + 3 * l) = l) := by decide +kernel
theorem MB_27 {i : Nat} (h : 11 ≤ i) : MB i = M0 i := by unfold MB; rw [if_neg (by omega)]
theorem Rel_0 {M M2 : Mem} (hc : IC M) (hm : IM M2) : Rel (MT M M2) 0 := by
  obtain ⟨M1, rfl, e1, e2, e3, e4⟩ := hc
  obtain ⟨m1, m2, m3⟩ := hm
  have lo : ∀ i, i < 139 → MT (MF M1) M2 i = MF M1 i := fun i hi => by unfold MT; rw [if_pos hi]
  have hi : ∀ i, ¬ i < 139 → MT (MF M1) M2 i = M2 i := fun i hi => by unfold MT; rw [if_neg hi]
  have f1 : ∀ i, 7 ≤ i → i ≤ 33 → MT (MF M1) M2 i = M1 i := fun i h1 h2 => by rw [lo i (by omega)]; unfold MF; rw [if_pos ⟨h1, h2⟩]
  have f0 : ∀ i, i < 139 → (i < 7 ∨ 33 < i) → MT (MF M1) M2 i = M0 i := fun i h1 h2 => by rw [lo i h1]; unfold MF; rw [if_neg (by omega)]
  have p7 : ∀ i, 7 ≤ i → i < 11 → MT (MF M1) M2 i = MA4 i := fun i h1 h2 => by rw [f1 i h1 (by omega), e4 i (by omega)]; unfold MB; rw [if_pos h2]
  have n0 : ∀ i : Nat, KD i = 1 → M0 i 1 = nI (nuC i) := fun i h => by unfold M0; rw [if_pos ⟨h, rfl⟩]
  refine ⟨st3.1, st3.2.1, st3.2.2.1, (fun k => (st3.2.2.2 k).1), (fun k => (st3.2.2.2 k).2.1), 0, 0, (fun _ => 0), (fun _ => 0), 0, 0, 0, ?_, by rw [hi 139 (by decide)]; exact m2⟩
  rw [hi 140 (by decide), m1]
  refine RG_mk ⟨?_, ?_, ?_, fun f hf => ?_⟩ (bg_RR st3_v (by decide) (fun k hk => ?_) (fun k hk => ?_) ?_ ?_) (by omega) (fun l hl => ?_) (fun j hj l hl => ?_) ?_ (Nat.le_refl _) ?_ (by omega) (Nat.le_refl _) (fun j hj => absurd hj (Nat.not_lt_zero _)) ⟨?_, ?_, by omega, fun j hj => absurd hj (Nat.not_lt_zero _)⟩
  · rw [p7 7 (by omega) (by omega)]; rfl
  · rw [p7 7 (by omega) (by omega)]; rfl
  · rw [p7 7 (by omega) (by omega)]; rfl
  · rw [p7 8 (by omega) (by omega), p7 9 (by omega) (by omega)]
    have : f = 0 ∨ f = 1 ∨ f = 2 := by have : f < 3 := hf; omega
    rcases this with rfl | rfl | rfl <;> exact ⟨rfl, rfl⟩
  · rw [f1 14 (by omega) (by omega)]
    have h3 : k < 3 := hk
    refine ((e1 k (by omega)).1).trans ?_
    have : k = 0 ∨ k = 1 ∨ k = 2 := by omega
    rcases this with rfl | rfl | rfl <;> rfl
  · rw [f1 15 (by omega) (by omega), f1 16 (by omega) (by omega), f1 17 (by omega) (by omega), f1 18 (by omega) (by omega)]
    exact (e1 k hk).2
  · rw [f1 13 (by omega) (by omega)]; exact e2
  · rw [f1 11 (by omega) (by omega)]; exact e3
  · obtain ⟨a, b⟩ := nuC_ok l hl
    rw [f1 _ (by omega) (by omega), e4 _ (by omega), MB_27 (by omega), n0 _ a, b]
  · obtain ⟨a, b⟩ := nuC_k j hj l hl
    rw [f0 _ (by omega) (by omega), n0 _ a, b]
  · rw [f0 34 (by omega) (by omega)]; rfl
  · rw [f0 34 (by omega) (by omega)]; rfl
  · rw [f0 1 (by omega) (by omega)]; rfl
  · rw [hi 139 (by decide)]; exact m3
set_option maxRecDepth 100000 in
theorem law_start {x : CT} (X : BS x [] cL_law 4 RL room_1) (O : OV x) {N : Nat} {xs : Nat → Int32} (hN : N ≤ 2048) (hB : ∀ ad : Nat → Nat, ad 143 = AX x 143 → XB (CS x ad 143 2782) N xs) (hE : ∀ (ad : Nat → Nat) (M : Mem) (lo : List (Option Value)), WP (CS x ad 143 2782) LF 574 lo [.int 1] M) : WQ x (AX x) 0 0 [] 0 [some (.ref 143), none, none, none] [] := by
  refine wq_new (pc := 0) (i := 0) (kc' := 1) (ks' := 6) X nc_9_7 rfl rfl rfl rfl rfl rfl (Nat.le_of_ble_eq_true rfl) (Nat.le_of_ble_eq_true rfl) dL_law_0 (fun q1 => ?_)
  refine wq_dup (pc := 3) X dL_law_3 rfl ?_
  refine wq_init (pc := 4) (Zr := []) (st := [.ref 0]) (kc' := 139) (ks' := 1635) X O si_9_9 ⟨by decide, by decide⟩ cn_0 rfl rfl rfl rfl rfl rfl rfl (Nat.le_of_ble_eq_true rfl) rfl rfl (Nat.le_of_ble_eq_true rfl) (Nat.le_of_ble_eq_true rfl) dL_law_4 (fun ad1 M hn1 hc => ?_)
  refine wq_astore_n (pc := 7) X dL_law_7 rfl (by decide) rfl rfl ?_
  show WQ x ad1 139 1635 (ZL L139 M) 8 [some (.ref 143), some (.ref 0), none, none] []
  refine wq_new (pc := 8) (i := 139) (kc' := 140) (ks' := 1644) X nc_9_10 rfl ((nz_ZL _ _ M (fun _ _ => 0)).trans (by decide +kernel)) rfl rfl rfl rfl (Nat.le_of_ble_eq_true rfl) (Nat.le_of_ble_eq_true rfl) dL_law_8 (fun q2 => ?_)
  refine wq_dup (pc := 11) X dL_law_11 rfl ?_
  refine wq_init (pc := 12) (Zr := ZL L139 M) (st := [.ref 139]) (kc' := 143) (ks' := 2782) X O si_9_12 ⟨by decide, by decide⟩ cn_139 rfl ((nz_ZL _ _ M (fun _ _ => 0)).trans (by decide +kernel)) rfl rfl rfl rfl rfl (Nat.le_of_ble_eq_true rfl) rfl rfl (Nat.le_of_ble_eq_true rfl) (Nat.le_of_ble_eq_true rfl) dL_law_12 (fun ad2 M2 hn2 hm => ?_)
  refine wq_astore_n (pc := 15) X dL_law_15 rfl (by decide) rfl rfl ?_
  refine wq_iconst (pc := 16) (v := nI 0) X dL_law_16 (by decide) ?_
  refine wq_istore_n (pc := 17) X dL_law_17 rfl (by decide) rfl rfl ?_
  show WQ x ad2 143 2782 (ZL L139 M ++ ZL L4 M2) 18 [some (.ref 143), some (.ref 0), some (.ref 139), some (.int (nI 0))] []
  rw [ZL_T]
  refine to_wp ?_
  have e143 : ad2 143 = AX x 143 := by
    rw [hn2 143 (by decide), sa_ne (by decide), hn1 143 (by decide +kernel), sa_ne (by decide)]
  exact lw_loop (BS_CS X LF_nd (Nat.le_of_ble_eq_true rfl) (Nat.le_of_ble_eq_true rfl)) (hB ad2 e143) hN (hE ad2) 513 0 0 _ (by omega) (by omega) (Nat.le_refl _) (Rel_0 hc hm)
/-! THE CLAIM OUT OF ONE WALK OF THE LAW'S BODY. Your part is whole_start (and what it stands on); all else here is the same for every law, but numbers. -/
def R_law : String := "FileRoundsLaw"
def lw_P (b : Addr) (xs : List Int32) (args : Array Value) (s : State) : Prop := args = #[.ref b] ∧ s.IntsAt b xs ∧ xs.length ≤ 2048 ∧ (Jvm.Cond.and given_1 narrow_1).before args s = true
/-- what a walk over the start with the record d0 says of its end, said of the start itself -/
theorem lw_closed {s t : State} {o : Outcome} {d0 : Drawn} {L : List Loc} {k n : Nat} (hd0 : s.drawn.sameBut d0 lw_cs) (hv : ∃ v, o = .returned v) (hW : (s.setDrawn d0).WarmedH t.vm) (hs : (s.setDrawn d0).sameButNew ({ t with vm := s.vm } : State) L k n) : State.butDraws s t lw_cs (fun t1 => Framed s o t1 L k n) := by
  have h2 : t.drawn = d0 := congrArg State.drawn hs.1
  refine ⟨⟨hv, hW, State.sameButNew.setDrawn hs s.drawn⟩, ?_, by decide⟩
  rw [h2]
  exact hd0
def lw_Q (_ : Array Value) (s : State) (o : Outcome) (t : State) : Prop := o = .returned (some (.int 1)) ∧ State.butDraws s t lw_cs (fun t1 => Framed s o t1 [] 600000 7302250)
def lw_Z (below : List Frame) (a : Array Value) (s : State) : State → Prop := fun t => ∃ o, t.status = .running ∧ Ended t below o ∧ lw_Q a s o t
/-- the law's own end, with 1 on the stack, nothing written that was there before, its room as the claim has it; d0: the record of draws at this point (at the entry s.drawn: begin with 'refine W.base ?_' and 'have hd0 := Drawn.sameBut.refl s.drawn lw_cs') -/
theorem lw_ret {p : Program} {l : Launch} {e : Env} {s : State} {m : MethodId} {below : List Frame} {meth : Method} {c : Code} {b : Nat} {d0 : Drawn} (hd0 : s.drawn.sameBut d0 lw_cs) (hx : p.tables.exec = Jvm.exec) (hb : c.code = code) (hr : meth.sig.returnType = ret) (hlocks : meth.locks = false) {pc : Nat} {H : Heap} {ls : Array Slot} (hdg : decode code pc = .ok (.ireturn, 1)) : W p l e room_1 (s.setDrawn d0) m #[Value.ref b] below meth c H [] 600000 7302250 (lw_Z below #[Value.ref b] s) (F0 m pc ls [.int 1]) := by
  intro T hT X
  obtain ⟨fs, hret, hrun, hended, hW, hframe⟩ := X.leave (v := some (.int 1)) (hlocks := hlocks) (fun h => by rw [hr] at h; cases h)
  have hmeth' : T.vm.method? m = some meth := X.method'
  refine ⟨T.setFrames fs, ?_, .returned (some (.int 1)), hrun, hended, rfl, lw_closed hd0 ⟨_, rfl⟩ hW hframe⟩
  jvm_step X.here [X.here.top, hx, hb, hdg, hmeth', hr, ret, narrow_b1]
  (try refine ⟨rfl, ?_⟩); (try refine ⟨rfl, ?_⟩)
  first | (intro acts; rw [hret _ acts rfl rfl rfl]) | rw [hret _ _ rfl rfl rfl]
  exact Steps.refl _
/-- what holds at the law's entry: the machine, the code, the tables' words (any of lw_tbl by 'hts w (by decide +kernel)'), the script of L ints xs at the cell b, what the Statement gives of the start (any of its parts by flat_of_before) -/
def lw_At (p : Program) (s : State) (m : MethodId) (meth : Method) (c : Code) (b L : Nat) (xs : Nat → Int32) : Prop :=
  p.tables.exec = Jvm.exec ∧ c.code = code ∧ meth.sig.returnType = ret ∧ c.maxLocals = 4 ∧ s.vm.findClass R_law = some m.cls ∧ (∀ w ∈ lw_tbl, w.before #[Value.ref b] s = true) ∧ va_X b L xs s s.heap ∧ b < s.heap.size ∧ meth.locks = false ∧ (Jvm.Cond.and given_1 narrow_1).before #[Value.ref b] s = true
theorem whole_start {p : Program} {e : Env} {s : State} {m : MethodId} {below : List Frame} {meth : Method} {c : Code} (l : Launch) (hflags : l.flags = flags0) {b L : Nat} {xs : Nat → Int32} (hL : L ≤ 2048) (C0 : lw_At p s m meth c b L xs) : W p l e room_1 s m #[Value.ref b] below meth c s.heap [] 0 0 (lw_Z below #[Value.ref b] s) (entryFrame m ([Value.ref b] : List Value).toArray 4) := by
  obtain ⟨hx, hb, hr, hml, hown, hts, hX, hbl, hlocks, hgv⟩ := id C0
  have hts2 : ∀ w ∈ wd_G, w.before #[Value.ref b] s = true := fun w h => hts w (wd_tbl w h)
  obtain ⟨c0, i0, h0⟩ := u_known (C := RX0) (T := TX0) (N := 5) (n := 5) hts2 in_X0 (hts2 (.instantiable RX0 5) (wd_in 264 (by decide +kernel) rfl))
  obtain ⟨c1, i1, h1⟩ := u_known (C := RX1) (T := TX1) (N := 8) (n := 8) hts2 in_X1 (hts2 (.instantiable RX1 8) (wd_in 183 (by decide +kernel) rfl))
  obtain ⟨c2, i2, h2⟩ := u_known (C := RX2) (T := TX2) (N := 3) (n := 3) hts2 in_X2 (hts2 (.instantiable RX2 3) (wd_in 244 (by decide +kernel) rfl))
  obtain ⟨c3, i3, h3⟩ := u_known (C := RX3) (T := TX3) (N := 6) (n := 6) hts2 in_X3 (hts2 (.instantiable RX3 6) (wd_in 77 (by decide +kernel) rfl))
  obtain ⟨c4, i4, h4⟩ := u_known (C := RX4) (T := TX4) (N := 3) (n := 3) hts2 in_X4 (hts2 (.instantiable RX4 3) (wd_in 122 (by decide +kernel) rfl))
  obtain ⟨c5, i5, h5⟩ := u_known (C := RX5) (T := TX5) (N := 3) (n := 3) hts2 in_X5 (hts2 (.instantiable RX5 3) (wd_in 59 (by decide +kernel) rfl))
  obtain ⟨c6, i6, h6⟩ := u_known (C := RX6) (T := TX6) (N := 12) (n := 12) hts2 in_X6 (hts2 (.instantiable RX6 12) (wd_in 130 (by decide +kernel) rfl))
  obtain ⟨c7, i7, h7⟩ := u_known (C := RX7) (T := TX7) (N := 6) (n := 6) hts2 in_X7 (hts2 (.instantiable RX7 6) (wd_in 51 (by decide +kernel) rfl))
  obtain ⟨c8, i8, h8⟩ := u_known (C := RX8) (T := TX8) (N := 9) (n := 9) hts2 in_X8 (hts2 (.instantiable RX8 9) (wd_in 601 (by decide +kernel) rfl))
  obtain ⟨dC, dI, hKc⟩ : ∃ (dC : Nat → ClassId) (dI : Nat → Nat → Nat), ∀ (k : Nat) (q : vw_C), vwCl[k]? = some q → u_Kn s q.1 q.2.1 q.2.2 (dC k) (dI k) := by
    refine ⟨fun k => if k = 0 then c0 else (if k = 1 then c1 else (if k = 2 then c2 else (if k = 3 then c3 else (if k = 4 then c4 else (if k = 5 then c5 else (if k = 6 then c6 else (if k = 7 then c7 else (c8)))))))), fun k => if k = 0 then i0 else (if k = 1 then i1 else (if k = 2 then i2 else (if k = 3 then i3 else (if k = 4 then i4 else (if k = 5 then i5 else (if k = 6 then i6 else (if k = 7 then i7 else (i8)))))))), ?_⟩
    intro k q hq
    match k, hq with
    | 0, hq => cases hq; exact h0
    | 1, hq => cases hq; exact h1
    | 2, hq => cases hq; exact h2
    | 3, hq => cases hq; exact h3
    | 4, hq => cases hq; exact h4
    | 5, hq => cases hq; exact h5
    | 6, hq => cases hq; exact h6
    | 7, hq => cases hq; exact h7
    | 8, hq => cases hq; exact h8
    | k + 9, hq => simp [vwCl] at hq
  obtain ⟨cI, kI, pI, f1, f2, f3⟩ := Cond.arrayClass_spec (hts2 _ kk_arr)
  have w1 : Cond.arrayOver (.object "FileRounds$Listener") ∈ lw_tbl := List.mem_of_getElem? (i := 128) (by decide +kernel)
  have w2 : Cond.arrayOver (.object "FileRounds$Rounds") ∈ lw_tbl := List.mem_of_getElem? (i := 250) (by decide +kernel)
  obtain ⟨pA, cA, kA, a1, a2, a3, a4, a5⟩ := Cond.arrayOver_spec (hts _ w1)
  obtain ⟨pB, cB, kB, b1, b2, b3, b4, b5⟩ := Cond.arrayOver_spec (hts _ w2)
  have hK : va_K (dC, dI) vwCl (TY (cI, cA, cB)) s := by
    refine ⟨hKc, fun k q h => ?_⟩
    match k, h with
    | 0, h => cases h; exact ⟨fun n z => ⟨fun k h => (by cases h), kI, f2, pI, f3⟩, f1⟩
    | 1, h => cases h; exact ⟨fun n z => ⟨fun k h => (by cases h), kA, a3, pA, a4⟩, kA, pA, a3, a4, a1, a5⟩
    | 2, h => cases h; exact ⟨fun n z => ⟨fun k h => (by cases h), kB, b3, pB, b4⟩, kB, pB, b3, b4, b1, b5⟩
    | k + 3, h => simp at h
  have hnw : ∀ w ∈ wd_N, va_Nw w s := fun w hw => va_tabs (nw_tab w hw) rfl (hts w (wd_N_tbl w hw))
  rw [lg_entry_eq]
  have hl := EL_LO (ad := fun j => if j = 143 then b else 0) (av := [.ref 143]) (nL := 4) (by decide) (by decide)
  refine law_start (x := (p, l, e, room_1, s, m, #[Value.ref b], below, meth, c, (fun q => s.heap.size ≤ q), lw_Z below #[Value.ref b] s, (dC, dI), (cI, cA, cB), (fun j => if j = 143 then b else 0), 0, 0)) ⟨rfl, hx, hb, hml, hown, hts2, hnw, hlocks, fun _ h => h, hK, List.nodup_nil, Nat.zero_le _, Nat.zero_le _⟩ ⟨va_AO.of (hts _ w1), va_AO.of (hts _ w2)⟩ (N := L) (xs := xs) hL (fun ad had => ?_) (fun ad M lo => ?_) s.heap [] _ ?_ ?_ va_S.rf hl
  · have eb : ad 143 = b := had
    show va_X (ad 143) L xs s s.heap ∧ ad 143 < s.heap.size ∧ ¬ s.heap.size ≤ ad 143
    rw [eb]
    exact ⟨hX, hbl, Nat.not_le.mpr hbl⟩
  · intro H locs ls hP hD hS hl
    refine va_forget (fun q hq => hS.2.2 q hq) ?_
    refine W.widen (k := 600000) (n := 7302250) (Nat.le_of_ble_eq_true rfl) (Nat.le_of_ble_eq_true rfl) ?_
    exact lw_ret (d0 := s.drawn) (Drawn.sameBut.refl s.drawn lw_cs) hx hb hr hlocks dL_law_574
  · intro k q h; simp [WX] at h
  · exact ⟨fun i j p q h => by simp [WX] at h, fun k q h => by simp [WX] at h⟩
set_option maxHeartbeats 4000000 in
theorem lw_walk (l : Launch) (hflags : l.flags = flags0) (b : Addr) (xs : List Int32) : MetFree l x (headSpec (Jvm.Cond.code x code maxLocals ret :: tables_1) room_1) (lw_P b xs) (fun _ _ _ _ _ => True) lw_Q := by
  refine MetFree.of_bodyS (code := code) (maxLocals := maxLocals) (ret := ret) (by decide) ?_ ?_
  · intro args s m h hn
    obtain ⟨meth, c, h1, h2, h3, h4, h5, h6, -, -⟩ := Cond.code_spec hn (atoms_spec (ws := Jvm.Cond.code x code maxLocals ret :: tables_1) h _ List.mem_cons_self)
    exact ⟨meth, c, h1, h2, h3, h4, h5, h6⟩
  · intro p e s m args below meth c s₁ B hml0 hP _
    obtain ⟨rfl, hx, hbd, hgv⟩ := hP
    obtain ⟨scr, harrAt, hlist, hof, hsmall⟩ := hx
    obtain ⟨hcb, hkn, -, -⟩ := State.arrayAt?_spec harrAt
    have hown : s.vm.findClass R_law = some m.cls := findClass_of_methodNamed B.named
    have hts0 : ∀ c ∈ (Jvm.Cond.code x code maxLocals ret :: tables_1), c.before #[Value.ref b] s = true := atoms_spec (ws := Jvm.Cond.code x code maxLocals ret :: tables_1) B.pre
    have hts : ∀ w ∈ lw_tbl, w.before #[Value.ref b] s = true := k2_hts_sels lw_privs (fun w hw => hts0 w (List.mem_cons_of_mem _ hw)) lw_privs_ok
    have hml : c.maxLocals = 4 := B.maxLocals_eq (hts0 _ List.mem_cons_self)
    have X₀ : Stand p l e room_1 s m #[Value.ref b] below meth c s₁ [] 0 0 := Stand.of_body B
    have hh0 : s₁.heap = s.heap := by rw [B.state]; rfl
    have hsz : scr.slots.size = xs.length := by rw [← Array.length_toList, hlist, List.length_map]
    have hval : ∀ j : Nat, j < xs.length → scr.slots[j]? = some (.int (xs.getD j 0)) := fun j hj => by
      rw [← Array.getElem?_toList, hlist]
      simp [hj]
    have hbl : b < s.heap.size := (Array.getElem?_eq_some_iff.mp hcb).1
    have hX : va_X b xs.length (fun j => xs.getD j 0) s s.heap := ⟨scr, hcb, hof, hkn, hsz, hval⟩
    have K : W p l e room_1 s m #[Value.ref b] below meth c s₁.heap [] 0 0 (lw_Z below #[Value.ref b] s) (entryFrame m ([Value.ref b] : List Value).toArray 4) := by
      rw [hh0]
      exact whole_start l hflags hbd ⟨B.exec, B.bytes, B.returns, hml, hown, hts, hX, hbl, B.notSynchronized, hgv⟩
    obtain ⟨t, a1, o, b1, b2, b3⟩ := K s₁ rfl X₀
    exact ⟨t, o, a1, b1, b2, b3⟩
theorem lw_pre_spec {args : Array Value} {s : State} (h : (Jvm.Cond.and given_1 narrow_1).before args s = true) (hr : rest_1_c.before args s = true) : ∃ (b : Addr) (xs : List Int32), lw_P b xs args s := by
  have hs := flat_of_before _ h
  have hq := flat_of_before _ hr
  have hc : (Cond.count 1).before args s = true := hs _ (by decide +kernel)
  have harr : (Cond.arrayOf (.arg 0) .int).before args s = true := hs _ (by decide +kernel)
  have hle : (Cond.le (.length (.arg 0)) (.int 2048)).before args s = true := hs _ (by decide +kernel)
  have hlen : (Cond.isInt (.length (.arg 0))).before args s = true := hq _ (by decide +kernel)
  have hall : (Cond.all (.arg 0) (.isInt (.elem (.arg 0) (.index 0)))).before args s = true := hq _ (by decide +kernel)
  obtain ⟨b, xs, hb, hx⟩ := State.ints_of_pre rfl harr hlen hall
  have hsm : xs.length < 2 ^ 31 := hx.choose_spec.2.2.2
  have hev : (Term.length (.arg 0)).eval args s none [] s = some (.int xs.length.toInt32) := hx.length_eval hb
  have hv := Cond.le_ints hev (show (Term.int 2048).eval args s none [] s = some (.int 2048) from rfl)
  have hd : xs.length.toInt32 ≤ 2048 := by
    simpa [Cond.before, Cond.holds, hv] using hle
  have hN : xs.length ≤ 2048 := (Int32.ofNat_le_ofNat hsm (by decide)).mp (show Int32.ofNat xs.length ≤ Int32.ofNat 2048 from hd)
  exact ⟨b, xs, Cond.one_arg hc (show args[0]? = some (.ref b) from hb), hx, hN, h⟩
theorem lw_comes (l : Launch) (hflags : l.flags = flags0) : Comes l x (Jvm.Cond.code x code maxLocals ret :: tables_1) room_1 (fun tb e args s => Calls_1 tb e args s ∧ rest_1 tb e args s ∧ Pre_1 tb e args s)
    (fun _ _ args s o t => lw_Q args s o t) := by
  intro p e ha hc hk s m args below hf hfit hheap happ hpre
  obtain ⟨b, xs, hP⟩ := lw_pre_spec hpre.2.2 hpre.2.1
  obtain ⟨k, o, h1, h2, h3, hQ⟩ := lw_walk l hflags b xs p e ha hc hk s m args below hf ((Spec.applies_iff_loose hf).mp happ).1 hP trivial
  exact ⟨k, o, h1, h2, h3, hQ⟩
theorem lw_frame {s t : State} {o : Outcome} {args : Array Value} (h : State.butDraws s t lw_cs (fun t1 => Framed s o t1 [] 600000 7302250)) :
    State.butDraws s t [Jvm.Choice.named "NaN.bits"] (fun t1 => Framed s o t1 (fieldLocs frame_1_writes args s ++ arrayLocs frame_1_arrays args s ++ staticLocs frame_1_statics s) 600000 7302250) := h
theorem lw_limb (L : Cond) (hL : ∀ (args : Array Value) (s t : State), L.after args s (.returned (some (.int 1))) t = true) :
    ArmFor flags0 classFile x code maxLocals ret World_1 tables_1 room_1 Calls_1 rest_1 Pre_1
      (fun tb e a s o t => postC L tb e a s o t ∧ State.butDraws s t [Jvm.Choice.named "NaN.bits"] (fun t1 => Framed s o t1 (fieldLocs frame_1_writes a s ++ arrayLocs frame_1_arrays a s ++ staticLocs frame_1_statics s) 600000 7302250)) := by
  intro l hflags _ _ p e ha hc hk s m args below hf hfit hheap happ hpre
  obtain ⟨k, o, h1, h2, h3, rfl, hF⟩ := lw_comes l hflags p e ha hc hk s m args below hf hfit hheap happ hpre
  exact ⟨k, _, h1, h2, h3, hL args s _, lw_frame hF⟩
theorem i_vc : Claimed_1_1 ∧ Claimed_1_2 := ⟨lw_limb limb_1_1 (fun args s t => by simp [limb_1_1, Cond.after, Cond.holds, Cond.value]), lw_limb limb_1_2 (fun args s t => Cond.after_iff.mpr (by
  first | (rw [show limb_1_2 = Cond.eq .result (.int 1) from rfl, Cond.eq_ints (x := 1) (y := 1) rfl rfl]; simp; done) | (simp [limb_1_2, Cond.value, Term.eval]; done)))⟩
