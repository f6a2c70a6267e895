theorem wp_iconst {x : CT} {L : List Nat} {cc : ByteArray} {nL : Nat} {own : String} {R : Room} {pc : Nat} {lo : List (Option Value)} {st : List Value} {M : Mem} (X : BS x L cc nL own R) {n : Int} {v : Int32} (hd : decode cc pc = .ok (.iconst n, 1)) (hv : Int32.ofInt n = v) (k : WP x L (pc + 1) lo (.int v :: st) M) : WP x L pc lo (st) M := by
  obtain ⟨p, l, e, R', s, m, args, below, meth, c, A, QQ, D, cs, ad, kc, ks⟩ := x
  obtain ⟨hR, hx, hb, hml, hown, hts, hnw, hlk, hA, hK, hnd, hkc, hks⟩ := X
  intro H locs ls hP hD hS hl
  exact lv_iconst hx hb hd hv (k H locs ls hP hD hS hl)
theorem wp_bipush {x : CT} {L : List Nat} {cc : ByteArray} {nL : Nat} {own : String} {R : Room} {pc : Nat} {lo : List (Option Value)} {st : List Value} {M : Mem} (X : BS x L cc nL own R) {n : Int} {v : Int32} (hd : decode cc pc = .ok (.bipush n, 2)) (hv : (Int8.ofInt n).toInt32 = v) (k : WP x L (pc + 2) lo (.int v :: st) M) : WP x L pc lo (st) M := by
  obtain ⟨p, l, e, R', s, m, args, below, meth, c, A, QQ, D, cs, ad, kc, ks⟩ := x
  obtain ⟨hR, hx, hb, hml, hown, hts, hnw, hlk, hA, hK, hnd, hkc, hks⟩ := X
  intro H locs ls hP hD hS hl
  exact lv_bipush hx hb hd hv (k H locs ls hP hD hS hl)
theorem wp_sipush {x : CT} {L : List Nat} {cc : ByteArray} {nL : Nat} {own : String} {R : Room} {pc : Nat} {lo : List (Option Value)} {st : List Value} {M : Mem} (X : BS x L cc nL own R) {n : Int} {v : Int32} (hd : decode cc pc = .ok (.sipush n, 3)) (hv : (Int16.ofInt n).toInt32 = v) (k : WP x L (pc + 3) lo (.int v :: st) M) : WP x L pc lo (st) M := by
  obtain ⟨p, l, e, R', s, m, args, below, meth, c, A, QQ, D, cs, ad, kc, ks⟩ := x
  obtain ⟨hR, hx, hb, hml, hown, hts, hnw, hlk, hA, hK, hnd, hkc, hks⟩ := X
  intro H locs ls hP hD hS hl
  exact lv_sipush hx hb hd hv (k H locs ls hP hD hS hl)
theorem wp_lconst {x : CT} {L : List Nat} {cc : ByteArray} {nL : Nat} {own : String} {R : Room} {pc : Nat} {lo : List (Option Value)} {st : List Value} {M : Mem} (X : BS x L cc nL own R) {n : Fin 2} {v : Int64} (hd : decode cc pc = .ok (.lconst n, 1)) (hv : Int64.ofNat (n : Nat) = v) (k : WP x L (pc + 1) lo (.long v :: st) M) : WP x L pc lo (st) M := by
  obtain ⟨p, l, e, R', s, m, args, below, meth, c, A, QQ, D, cs, ad, kc, ks⟩ := x
  obtain ⟨hR, hx, hb, hml, hown, hts, hnw, hlk, hA, hK, hnd, hkc, hks⟩ := X
  intro H locs ls hP hD hS hl
  exact lv_lconst hx hb hd hv (k H locs ls hP hD hS hl)
theorem wp_iload_n {x : CT} {L : List Nat} {cc : ByteArray} {nL : Nat} {own : String} {R : Room} {pc : Nat} {lo : List (Option Value)} {st : List Value} {M : Mem} (X : BS x L cc nL own R) {k4 : Fin 4} {i : Nat} {v : Int32} (hd : decode cc pc = .ok (.iload_n k4, 1)) (hi : (k4 : Nat) = i) (hv : lo[i]? = some (some (.int v))) (k : WP x L (pc + 1) lo (.int v :: st) M) : WP x L pc lo (st) M := by
  obtain ⟨p, l, e, R', s, m, args, below, meth, c, A, QQ, D, cs, ad, kc, ks⟩ := x
  obtain ⟨hR, hx, hb, hml, hown, hts, hnw, hlk, hA, hK, hnd, hkc, hks⟩ := X
  intro H locs ls hP hD hS hl
  exact lv_iload_n hx hb hd hi (LO_at hl hv) (k H locs ls hP hD hS hl)
theorem wp_iload {x : CT} {L : List Nat} {cc : ByteArray} {nL : Nat} {own : String} {R : Room} {pc : Nat} {lo : List (Option Value)} {st : List Value} {M : Mem} (X : BS x L cc nL own R) {i : Nat} {v : Int32} (hd : decode cc pc = .ok (.iload i, 2)) (hv : lo[i]? = some (some (.int v))) (k : WP x L (pc + 2) lo (.int v :: st) M) : WP x L pc lo (st) M := by
  obtain ⟨p, l, e, R', s, m, args, below, meth, c, A, QQ, D, cs, ad, kc, ks⟩ := x
  obtain ⟨hR, hx, hb, hml, hown, hts, hnw, hlk, hA, hK, hnd, hkc, hks⟩ := X
  intro H locs ls hP hD hS hl
  exact lv_iload hx hb hd (LO_at hl hv) (k H locs ls hP hD hS hl)
theorem wp_lload_n {x : CT} {L : List Nat} {cc : ByteArray} {nL : Nat} {own : String} {R : Room} {pc : Nat} {lo : List (Option Value)} {st : List Value} {M : Mem} (X : BS x L cc nL own R) {k4 : Fin 4} {i : Nat} {v : Int64} (hd : decode cc pc = .ok (.lload_n k4, 1)) (hi : (k4 : Nat) = i) (hv : lo[i]? = some (some (.long v))) (k : WP x L (pc + 1) lo (.long v :: st) M) : WP x L pc lo (st) M := by
  obtain ⟨p, l, e, R', s, m, args, below, meth, c, A, QQ, D, cs, ad, kc, ks⟩ := x
  obtain ⟨hR, hx, hb, hml, hown, hts, hnw, hlk, hA, hK, hnd, hkc, hks⟩ := X
  intro H locs ls hP hD hS hl
  exact lv_lload_n hx hb hd hi (LO_at hl hv) (k H locs ls hP hD hS hl)
theorem wp_lload {x : CT} {L : List Nat} {cc : ByteArray} {nL : Nat} {own : String} {R : Room} {pc : Nat} {lo : List (Option Value)} {st : List Value} {M : Mem} (X : BS x L cc nL own R) {i : Nat} {v : Int64} (hd : decode cc pc = .ok (.lload i, 2)) (hv : lo[i]? = some (some (.long v))) (k : WP x L (pc + 2) lo (.long v :: st) M) : WP x L pc lo (st) M := by
  obtain ⟨p, l, e, R', s, m, args, below, meth, c, A, QQ, D, cs, ad, kc, ks⟩ := x
  obtain ⟨hR, hx, hb, hml, hown, hts, hnw, hlk, hA, hK, hnd, hkc, hks⟩ := X
  intro H locs ls hP hD hS hl
  exact lv_lload hx hb hd (LO_at hl hv) (k H locs ls hP hD hS hl)
theorem wp_fload_n {x : CT} {L : List Nat} {cc : ByteArray} {nL : Nat} {own : String} {R : Room} {pc : Nat} {lo : List (Option Value)} {st : List Value} {M : Mem} (X : BS x L cc nL own R) {k4 : Fin 4} {i : Nat} {v : UInt32} (hd : decode cc pc = .ok (.fload_n k4, 1)) (hi : (k4 : Nat) = i) (hv : lo[i]? = some (some (.float v))) (k : WP x L (pc + 1) lo (.float v :: st) M) : WP x L pc lo (st) M := by
  obtain ⟨p, l, e, R', s, m, args, below, meth, c, A, QQ, D, cs, ad, kc, ks⟩ := x
  obtain ⟨hR, hx, hb, hml, hown, hts, hnw, hlk, hA, hK, hnd, hkc, hks⟩ := X
  intro H locs ls hP hD hS hl
  exact lv_fload_n hx hb hd hi (LO_at hl hv) (k H locs ls hP hD hS hl)
theorem wp_fload {x : CT} {L : List Nat} {cc : ByteArray} {nL : Nat} {own : String} {R : Room} {pc : Nat} {lo : List (Option Value)} {st : List Value} {M : Mem} (X : BS x L cc nL own R) {i : Nat} {v : UInt32} (hd : decode cc pc = .ok (.fload i, 2)) (hv : lo[i]? = some (some (.float v))) (k : WP x L (pc + 2) lo (.float v :: st) M) : WP x L pc lo (st) M := by
  obtain ⟨p, l, e, R', s, m, args, below, meth, c, A, QQ, D, cs, ad, kc, ks⟩ := x
  obtain ⟨hR, hx, hb, hml, hown, hts, hnw, hlk, hA, hK, hnd, hkc, hks⟩ := X
  intro H locs ls hP hD hS hl
  exact lv_fload hx hb hd (LO_at hl hv) (k H locs ls hP hD hS hl)
theorem wp_aload_n {x : CT} {L : List Nat} {cc : ByteArray} {nL : Nat} {own : String} {R : Room} {pc : Nat} {lo : List (Option Value)} {st : List Value} {M : Mem} (X : BS x L cc nL own R) {k4 : Fin 4} {i : Nat} {v : Nat} (hd : decode cc pc = .ok (.aload_n k4, 1)) (hi : (k4 : Nat) = i) (hv : lo[i]? = some (some (.ref v))) (k : WP x L (pc + 1) lo (.ref v :: st) M) : WP x L pc lo (st) M := by
  obtain ⟨p, l, e, R', s, m, args, below, meth, c, A, QQ, D, cs, ad, kc, ks⟩ := x
  obtain ⟨hR, hx, hb, hml, hown, hts, hnw, hlk, hA, hK, hnd, hkc, hks⟩ := X
  intro H locs ls hP hD hS hl
  exact lv_aload_n hx hb hd hi (LO_at hl hv) (k H locs ls hP hD hS hl)
theorem wp_aload {x : CT} {L : List Nat} {cc : ByteArray} {nL : Nat} {own : String} {R : Room} {pc : Nat} {lo : List (Option Value)} {st : List Value} {M : Mem} (X : BS x L cc nL own R) {i : Nat} {v : Nat} (hd : decode cc pc = .ok (.aload i, 2)) (hv : lo[i]? = some (some (.ref v))) (k : WP x L (pc + 2) lo (.ref v :: st) M) : WP x L pc lo (st) M := by
  obtain ⟨p, l, e, R', s, m, args, below, meth, c, A, QQ, D, cs, ad, kc, ks⟩ := x
  obtain ⟨hR, hx, hb, hml, hown, hts, hnw, hlk, hA, hK, hnd, hkc, hks⟩ := X
  intro H locs ls hP hD hS hl
  exact lv_aload hx hb hd (LO_at hl hv) (k H locs ls hP hD hS hl)
theorem wp_iadd {x : CT} {L : List Nat} {cc : ByteArray} {nL : Nat} {own : String} {R : Room} {pc : Nat} {lo : List (Option Value)} {st : List Value} {M : Mem} (X : BS x L cc nL own R) {a b : Int32} (hd : decode cc pc = .ok (.iadd, 1))  (k : WP x L (pc + 1) lo (.int (a + b) :: st) M) : WP x L pc lo (.int b :: .int a :: st) M := by
  obtain ⟨p, l, e, R', s, m, args, below, meth, c, A, QQ, D, cs, ad, kc, ks⟩ := x
  obtain ⟨hR, hx, hb, hml, hown, hts, hnw, hlk, hA, hK, hnd, hkc, hks⟩ := X
  intro H locs ls hP hD hS hl
  exact lv_iadd hx hb hd (k H locs ls hP hD hS hl)
theorem wp_isub {x : CT} {L : List Nat} {cc : ByteArray} {nL : Nat} {own : String} {R : Room} {pc : Nat} {lo : List (Option Value)} {st : List Value} {M : Mem} (X : BS x L cc nL own R) {a b : Int32} (hd : decode cc pc = .ok (.isub, 1))  (k : WP x L (pc + 1) lo (.int (a - b) :: st) M) : WP x L pc lo (.int b :: .int a :: st) M := by
  obtain ⟨p, l, e, R', s, m, args, below, meth, c, A, QQ, D, cs, ad, kc, ks⟩ := x
  obtain ⟨hR, hx, hb, hml, hown, hts, hnw, hlk, hA, hK, hnd, hkc, hks⟩ := X
  intro H locs ls hP hD hS hl
  exact lv_isub hx hb hd (k H locs ls hP hD hS hl)
theorem wp_imul {x : CT} {L : List Nat} {cc : ByteArray} {nL : Nat} {own : String} {R : Room} {pc : Nat} {lo : List (Option Value)} {st : List Value} {M : Mem} (X : BS x L cc nL own R) {a b : Int32} (hd : decode cc pc = .ok (.imul, 1))  (k : WP x L (pc + 1) lo (.int (a * b) :: st) M) : WP x L pc lo (.int b :: .int a :: st) M := by
  obtain ⟨p, l, e, R', s, m, args, below, meth, c, A, QQ, D, cs, ad, kc, ks⟩ := x
  obtain ⟨hR, hx, hb, hml, hown, hts, hnw, hlk, hA, hK, hnd, hkc, hks⟩ := X
  intro H locs ls hP hD hS hl
  exact lv_imul hx hb hd (k H locs ls hP hD hS hl)
theorem wp_iand {x : CT} {L : List Nat} {cc : ByteArray} {nL : Nat} {own : String} {R : Room} {pc : Nat} {lo : List (Option Value)} {st : List Value} {M : Mem} (X : BS x L cc nL own R) {a b : Int32} (hd : decode cc pc = .ok (.iand, 1))  (k : WP x L (pc + 1) lo (.int (a &&& b) :: st) M) : WP x L pc lo (.int b :: .int a :: st) M := by
  obtain ⟨p, l, e, R', s, m, args, below, meth, c, A, QQ, D, cs, ad, kc, ks⟩ := x
  obtain ⟨hR, hx, hb, hml, hown, hts, hnw, hlk, hA, hK, hnd, hkc, hks⟩ := X
  intro H locs ls hP hD hS hl
  exact lv_iand hx hb hd (k H locs ls hP hD hS hl)
theorem wp_ior {x : CT} {L : List Nat} {cc : ByteArray} {nL : Nat} {own : String} {R : Room} {pc : Nat} {lo : List (Option Value)} {st : List Value} {M : Mem} (X : BS x L cc nL own R) {a b : Int32} (hd : decode cc pc = .ok (.ior, 1))  (k : WP x L (pc + 1) lo (.int (a ||| b) :: st) M) : WP x L pc lo (.int b :: .int a :: st) M := by
  obtain ⟨p, l, e, R', s, m, args, below, meth, c, A, QQ, D, cs, ad, kc, ks⟩ := x
  obtain ⟨hR, hx, hb, hml, hown, hts, hnw, hlk, hA, hK, hnd, hkc, hks⟩ := X
  intro H locs ls hP hD hS hl
  exact lv_ior hx hb hd (k H locs ls hP hD hS hl)
theorem wp_ixor {x : CT} {L : List Nat} {cc : ByteArray} {nL : Nat} {own : String} {R : Room} {pc : Nat} {lo : List (Option Value)} {st : List Value} {M : Mem} (X : BS x L cc nL own R) {a b : Int32} (hd : decode cc pc = .ok (.ixor, 1))  (k : WP x L (pc + 1) lo (.int (a ^^^ b) :: st) M) : WP x L pc lo (.int b :: .int a :: st) M := by
  obtain ⟨p, l, e, R', s, m, args, below, meth, c, A, QQ, D, cs, ad, kc, ks⟩ := x
  obtain ⟨hR, hx, hb, hml, hown, hts, hnw, hlk, hA, hK, hnd, hkc, hks⟩ := X
  intro H locs ls hP hD hS hl
  exact lv_ixor hx hb hd (k H locs ls hP hD hS hl)
theorem wp_ishl {x : CT} {L : List Nat} {cc : ByteArray} {nL : Nat} {own : String} {R : Room} {pc : Nat} {lo : List (Option Value)} {st : List Value} {M : Mem} (X : BS x L cc nL own R) {a b : Int32} (hd : decode cc pc = .ok (.ishl, 1))  (k : WP x L (pc + 1) lo (.int (a <<< (b &&& 31)) :: st) M) : WP x L pc lo (.int b :: .int a :: st) M := by
  obtain ⟨p, l, e, R', s, m, args, below, meth, c, A, QQ, D, cs, ad, kc, ks⟩ := x
  obtain ⟨hR, hx, hb, hml, hown, hts, hnw, hlk, hA, hK, hnd, hkc, hks⟩ := X
  intro H locs ls hP hD hS hl
  exact lv_ishl hx hb hd (k H locs ls hP hD hS hl)
theorem wp_ishr {x : CT} {L : List Nat} {cc : ByteArray} {nL : Nat} {own : String} {R : Room} {pc : Nat} {lo : List (Option Value)} {st : List Value} {M : Mem} (X : BS x L cc nL own R) {a b : Int32} (hd : decode cc pc = .ok (.ishr, 1))  (k : WP x L (pc + 1) lo (.int (a >>> (b &&& 31)) :: st) M) : WP x L pc lo (.int b :: .int a :: st) M := by
  obtain ⟨p, l, e, R', s, m, args, below, meth, c, A, QQ, D, cs, ad, kc, ks⟩ := x
  obtain ⟨hR, hx, hb, hml, hown, hts, hnw, hlk, hA, hK, hnd, hkc, hks⟩ := X
  intro H locs ls hP hD hS hl
  exact lv_ishr hx hb hd (k H locs ls hP hD hS hl)
theorem wp_irem {x : CT} {L : List Nat} {cc : ByteArray} {nL : Nat} {own : String} {R : Room} {pc : Nat} {lo : List (Option Value)} {st : List Value} {M : Mem} (X : BS x L cc nL own R) {a b : Int32} (hd : decode cc pc = .ok (.irem, 1)) (hne : ¬ b = 0) (k : WP x L (pc + 1) lo (.int (a - a / b * b) :: st) M) : WP x L pc lo (.int b :: .int a :: st) M := by
  obtain ⟨p, l, e, R', s, m, args, below, meth, c, A, QQ, D, cs, ad, kc, ks⟩ := x
  obtain ⟨hR, hx, hb, hml, hown, hts, hnw, hlk, hA, hK, hnd, hkc, hks⟩ := X
  intro H locs ls hP hD hS hl
  exact lv_irem hx hb hd hne (k H locs ls hP hD hS hl)
theorem wp_iushr {x : CT} {L : List Nat} {cc : ByteArray} {nL : Nat} {own : String} {R : Room} {pc : Nat} {lo : List (Option Value)} {st : List Value} {M : Mem} (X : BS x L cc nL own R) {a b : Int32} (hd : decode cc pc = .ok (.iushr, 1))  (k : WP x L (pc + 1) lo (.int (a.toUInt32 >>> (b.toUInt32 &&& Int32.toUInt32 31)).toInt32 :: st) M) : WP x L pc lo (.int b :: .int a :: st) M := by
  obtain ⟨p, l, e, R', s, m, args, below, meth, c, A, QQ, D, cs, ad, kc, ks⟩ := x
  obtain ⟨hR, hx, hb, hml, hown, hts, hnw, hlk, hA, hK, hnd, hkc, hks⟩ := X
  intro H locs ls hP hD hS hl
  exact lv_iushr hx hb hd rfl (k H locs ls hP hD hS hl)
theorem wp_ladd {x : CT} {L : List Nat} {cc : ByteArray} {nL : Nat} {own : String} {R : Room} {pc : Nat} {lo : List (Option Value)} {st : List Value} {M : Mem} (X : BS x L cc nL own R) {a b : Int64} (hd : decode cc pc = .ok (.ladd, 1))  (k : WP x L (pc + 1) lo (.long (a + b) :: st) M) : WP x L pc lo (.long b :: .long a :: st) M := by
  obtain ⟨p, l, e, R', s, m, args, below, meth, c, A, QQ, D, cs, ad, kc, ks⟩ := x
  obtain ⟨hR, hx, hb, hml, hown, hts, hnw, hlk, hA, hK, hnd, hkc, hks⟩ := X
  intro H locs ls hP hD hS hl
  exact lv_ladd hx hb hd (k H locs ls hP hD hS hl)
theorem wp_lmul {x : CT} {L : List Nat} {cc : ByteArray} {nL : Nat} {own : String} {R : Room} {pc : Nat} {lo : List (Option Value)} {st : List Value} {M : Mem} (X : BS x L cc nL own R) {a b : Int64} (hd : decode cc pc = .ok (.lmul, 1))  (k : WP x L (pc + 1) lo (.long (a * b) :: st) M) : WP x L pc lo (.long b :: .long a :: st) M := by
  obtain ⟨p, l, e, R', s, m, args, below, meth, c, A, QQ, D, cs, ad, kc, ks⟩ := x
  obtain ⟨hR, hx, hb, hml, hown, hts, hnw, hlk, hA, hK, hnd, hkc, hks⟩ := X
  intro H locs ls hP hD hS hl
  exact lv_lmul hx hb hd (k H locs ls hP hD hS hl)
theorem wp_lrem {x : CT} {L : List Nat} {cc : ByteArray} {nL : Nat} {own : String} {R : Room} {pc : Nat} {lo : List (Option Value)} {st : List Value} {M : Mem} (X : BS x L cc nL own R) {a b : Int64} (hd : decode cc pc = .ok (.lrem, 1)) (hne : ¬ b = 0) (k : WP x L (pc + 1) lo (.long (a - a / b * b) :: st) M) : WP x L pc lo (.long b :: .long a :: st) M := by
  obtain ⟨p, l, e, R', s, m, args, below, meth, c, A, QQ, D, cs, ad, kc, ks⟩ := x
  obtain ⟨hR, hx, hb, hml, hown, hts, hnw, hlk, hA, hK, hnd, hkc, hks⟩ := X
  intro H locs ls hP hD hS hl
  exact lv_lrem hx hb hd hne (k H locs ls hP hD hS hl)
theorem wp_lcmp {x : CT} {L : List Nat} {cc : ByteArray} {nL : Nat} {own : String} {R : Room} {pc : Nat} {lo : List (Option Value)} {st : List Value} {M : Mem} (X : BS x L cc nL own R) {a b : Int64} (hd : decode cc pc = .ok (.lcmp, 1))  (k : WP x L (pc + 1) lo (.int (lg_cmp a b) :: st) M) : WP x L pc lo (.long b :: .long a :: st) M := by
  obtain ⟨p, l, e, R', s, m, args, below, meth, c, A, QQ, D, cs, ad, kc, ks⟩ := x
  obtain ⟨hR, hx, hb, hml, hown, hts, hnw, hlk, hA, hK, hnd, hkc, hks⟩ := X
  intro H locs ls hP hD hS hl
  exact W.lcmp hx hb hd (k H locs ls hP hD hS hl)
theorem wp_i2l {x : CT} {L : List Nat} {cc : ByteArray} {nL : Nat} {own : String} {R : Room} {pc : Nat} {lo : List (Option Value)} {st : List Value} {M : Mem} (X : BS x L cc nL own R) {a : Int32} (hd : decode cc pc = .ok (.i2l, 1))  (k : WP x L (pc + 1) lo (.long a.toInt64 :: st) M) : WP x L pc lo (.int a :: st) M := by
  obtain ⟨p, l, e, R', s, m, args, below, meth, c, A, QQ, D, cs, ad, kc, ks⟩ := x
  obtain ⟨hR, hx, hb, hml, hown, hts, hnw, hlk, hA, hK, hnd, hkc, hks⟩ := X
  intro H locs ls hP hD hS hl
  exact lv_i2l hx hb hd rfl (k H locs ls hP hD hS hl)
theorem wp_i2f {x : CT} {L : List Nat} {cc : ByteArray} {nL : Nat} {own : String} {R : Room} {pc : Nat} {lo : List (Option Value)} {st : List Value} {M : Mem} (X : BS x L cc nL own R) {a : Int32} (hd : decode cc pc = .ok (.i2f, 1))  (k : WP x L (pc + 1) lo (.float (FP.i2f a) :: st) M) : WP x L pc lo (.int a :: st) M := by
  obtain ⟨p, l, e, R', s, m, args, below, meth, c, A, QQ, D, cs, ad, kc, ks⟩ := x
  obtain ⟨hR, hx, hb, hml, hown, hts, hnw, hlk, hA, hK, hnd, hkc, hks⟩ := X
  intro H locs ls hP hD hS hl
  exact lv_i2f hx hb hd (k H locs ls hP hD hS hl)
theorem wp_f2i {x : CT} {L : List Nat} {cc : ByteArray} {nL : Nat} {own : String} {R : Room} {pc : Nat} {lo : List (Option Value)} {st : List Value} {M : Mem} (X : BS x L cc nL own R) {a : UInt32} (hd : decode cc pc = .ok (.f2i, 1))  (k : WP x L (pc + 1) lo (.int (FP.f2i a) :: st) M) : WP x L pc lo (.float a :: st) M := by
  obtain ⟨p, l, e, R', s, m, args, below, meth, c, A, QQ, D, cs, ad, kc, ks⟩ := x
  obtain ⟨hR, hx, hb, hml, hown, hts, hnw, hlk, hA, hK, hnd, hkc, hks⟩ := X
  intro H locs ls hP hD hS hl
  exact lv_f2i hx hb hd (k H locs ls hP hD hS hl)
theorem wp_fdiv {x : CT} {L : List Nat} {cc : ByteArray} {nL : Nat} {own : String} {R : Room} {pc : Nat} {lo : List (Option Value)} {st : List Value} {M : Mem} (X : BS x L cc nL own R) {a b : UInt32} (hd : decode cc pc = .ok (.fdiv, 1)) (hne : vf_n32 (FP.fdiv a b)) (k : WP x L (pc + 1) lo (.float (FP.fdiv a b) :: st) M) : WP x L pc lo (.float b :: .float a :: st) M := by
  obtain ⟨p, l, e, R', s, m, args, below, meth, c, A, QQ, D, cs, ad, kc, ks⟩ := x
  obtain ⟨hR, hx, hb, hml, hown, hts, hnw, hlk, hA, hK, hnd, hkc, hks⟩ := X
  intro H locs ls hP hD hS hl
  exact lv_fdiv hx hb hd hne (k H locs ls hP hD hS hl)
theorem wp_fmul {x : CT} {L : List Nat} {cc : ByteArray} {nL : Nat} {own : String} {R : Room} {pc : Nat} {lo : List (Option Value)} {st : List Value} {M : Mem} (X : BS x L cc nL own R) {a b : UInt32} (hd : decode cc pc = .ok (.fmul, 1)) (hne : vf_n32 (FP.fmul a b)) (k : WP x L (pc + 1) lo (.float (FP.fmul a b) :: st) M) : WP x L pc lo (.float b :: .float a :: st) M := by
  obtain ⟨p, l, e, R', s, m, args, below, meth, c, A, QQ, D, cs, ad, kc, ks⟩ := x
  obtain ⟨hR, hx, hb, hml, hown, hts, hnw, hlk, hA, hK, hnd, hkc, hks⟩ := X
  intro H locs ls hP hD hS hl
  exact lv_fmul hx hb hd hne (k H locs ls hP hD hS hl)
theorem wp_fsub {x : CT} {L : List Nat} {cc : ByteArray} {nL : Nat} {own : String} {R : Room} {pc : Nat} {lo : List (Option Value)} {st : List Value} {M : Mem} (X : BS x L cc nL own R) {a b : UInt32} (hd : decode cc pc = .ok (.fsub, 1)) (hne : vf_n32 (FP.fsub a b)) (k : WP x L (pc + 1) lo (.float (FP.fsub a b) :: st) M) : WP x L pc lo (.float b :: .float a :: st) M := by
  obtain ⟨p, l, e, R', s, m, args, below, meth, c, A, QQ, D, cs, ad, kc, ks⟩ := x
  obtain ⟨hR, hx, hb, hml, hown, hts, hnw, hlk, hA, hK, hnd, hkc, hks⟩ := X
  intro H locs ls hP hD hS hl
  exact lv_fsub hx hb hd hne (k H locs ls hP hD hS hl)
theorem wp_fcmp {x : CT} {L : List Nat} {cc : ByteArray} {nL : Nat} {own : String} {R : Room} {pc : Nat} {lo : List (Option Value)} {st : List Value} {M : Mem} (X : BS x L cc nL own R) {a b : UInt32} {op : CmpOp} (hd : decode cc pc = .ok (.fcmp op, 1))  (k : WP x L (pc + 1) lo (.int (Op.cmpValue (FP.fcmp a b) op) :: st) M) : WP x L pc lo (.float b :: .float a :: st) M := by
  obtain ⟨p, l, e, R', s, m, args, below, meth, c, A, QQ, D, cs, ad, kc, ks⟩ := x
  obtain ⟨hR, hx, hb, hml, hown, hts, hnw, hlk, hA, hK, hnd, hkc, hks⟩ := X
  intro H locs ls hP hD hS hl
  exact lv_fcmp hx hb hd (k H locs ls hP hD hS hl)
theorem wp_fconst0 {x : CT} {L : List Nat} {cc : ByteArray} {nL : Nat} {own : String} {R : Room} {pc : Nat} {lo : List (Option Value)} {st : List Value} {M : Mem} (X : BS x L cc nL own R)  (hd : decode cc pc = .ok (.fconst 0, 1))  (k : WP x L (pc + 1) lo (.float FP.fconst0 :: st) M) : WP x L pc lo (st) M := by
  obtain ⟨p, l, e, R', s, m, args, below, meth, c, A, QQ, D, cs, ad, kc, ks⟩ := x
  obtain ⟨hR, hx, hb, hml, hown, hts, hnw, hlk, hA, hK, hnd, hkc, hks⟩ := X
  intro H locs ls hP hD hS hl
  exact lv_fconst0 hx hb hd (k H locs ls hP hD hS hl)
theorem wp_fconst1 {x : CT} {L : List Nat} {cc : ByteArray} {nL : Nat} {own : String} {R : Room} {pc : Nat} {lo : List (Option Value)} {st : List Value} {M : Mem} (X : BS x L cc nL own R)  (hd : decode cc pc = .ok (.fconst 1, 1))  (k : WP x L (pc + 1) lo (.float FP.fconst1 :: st) M) : WP x L pc lo (st) M := by
  obtain ⟨p, l, e, R', s, m, args, below, meth, c, A, QQ, D, cs, ad, kc, ks⟩ := x
  obtain ⟨hR, hx, hb, hml, hown, hts, hnw, hlk, hA, hK, hnd, hkc, hks⟩ := X
  intro H locs ls hP hD hS hl
  exact lv_fconst1 hx hb hd (k H locs ls hP hD hS hl)
theorem wp_fconst2 {x : CT} {L : List Nat} {cc : ByteArray} {nL : Nat} {own : String} {R : Room} {pc : Nat} {lo : List (Option Value)} {st : List Value} {M : Mem} (X : BS x L cc nL own R)  (hd : decode cc pc = .ok (.fconst 2, 1))  (k : WP x L (pc + 1) lo (.float FP.fconst2 :: st) M) : WP x L pc lo (st) M := by
  obtain ⟨p, l, e, R', s, m, args, below, meth, c, A, QQ, D, cs, ad, kc, ks⟩ := x
  obtain ⟨hR, hx, hb, hml, hown, hts, hnw, hlk, hA, hK, hnd, hkc, hks⟩ := X
  intro H locs ls hP hD hS hl
  exact lv_fconst2 hx hb hd (k H locs ls hP hD hS hl)
theorem wp_dup {x : CT} {L : List Nat} {cc : ByteArray} {nL : Nat} {own : String} {R : Room} {pc : Nat} {lo : List (Option Value)} {st : List Value} {M : Mem} (X : BS x L cc nL own R) {va : Value} (hd : decode cc pc = .ok (.dup, 1)) (hva : va.category = 1) (k : WP x L (pc + 1) lo (va :: va :: st) M) : WP x L pc lo (va :: st) M := by
  obtain ⟨p, l, e, R', s, m, args, below, meth, c, A, QQ, D, cs, ad, kc, ks⟩ := x
  obtain ⟨hR, hx, hb, hml, hown, hts, hnw, hlk, hA, hK, hnd, hkc, hks⟩ := X
  intro H locs ls hP hD hS hl
  exact lv_dup hx hb hd (by rw [CV_cat]; exact hva) (k H locs ls hP hD hS hl)
theorem wp_pop {x : CT} {L : List Nat} {cc : ByteArray} {nL : Nat} {own : String} {R : Room} {pc : Nat} {lo : List (Option Value)} {st : List Value} {M : Mem} (X : BS x L cc nL own R) {va : Value} (hd : decode cc pc = .ok (.pop, 1)) (hva : va.category = 1) (k : WP x L (pc + 1) lo (st) M) : WP x L pc lo (va :: st) M := by
  obtain ⟨p, l, e, R', s, m, args, below, meth, c, A, QQ, D, cs, ad, kc, ks⟩ := x
  obtain ⟨hR, hx, hb, hml, hown, hts, hnw, hlk, hA, hK, hnd, hkc, hks⟩ := X
  intro H locs ls hP hD hS hl
  exact lv_pop hx hb hd (by rw [CV_cat]; exact hva) (k H locs ls hP hD hS hl)
theorem wp_dup2 {x : CT} {L : List Nat} {cc : ByteArray} {nL : Nat} {own : String} {R : Room} {pc : Nat} {lo : List (Option Value)} {st : List Value} {M : Mem} (X : BS x L cc nL own R) {va vb : Value} (hd : decode cc pc = .ok (.dup2, 1)) (hva : va.category = 1) (hvb : vb.category = 1) (k : WP x L (pc + 1) lo (va :: vb :: va :: vb :: st) M) : WP x L pc lo (va :: vb :: st) M := by
  obtain ⟨p, l, e, R', s, m, args, below, meth, c, A, QQ, D, cs, ad, kc, ks⟩ := x
  obtain ⟨hR, hx, hb, hml, hown, hts, hnw, hlk, hA, hK, hnd, hkc, hks⟩ := X
  intro H locs ls hP hD hS hl
  exact lv_dup2_11 hx hb hd (by rw [CV_cat]; exact hva) (by rw [CV_cat]; exact hvb) (k H locs ls hP hD hS hl)
theorem wp_ldc {x : CT} {L : List Nat} {cc : ByteArray} {nL : Nat} {own : String} {R : Room} {pc : Nat} {lo : List (Option Value)} {st : List Value} {M : Mem} (X : BS x L cc nL own R) {idx : Nat} {v : Int32} (hd : decode cc pc = .ok (.ldc idx, 2)) (hw : Cond.constant own idx v ∈ wd_G) (k : WP x L (pc + 2) lo (.int v :: st) M) : WP x L pc lo (st) M := by
  obtain ⟨p, l, e, R', s, m, args, below, meth, c, A, QQ, D, cs, ad, kc, ks⟩ := x
  obtain ⟨hR, hx, hb, hml, hown, hts, hnw, hlk, hA, hK, hnd, hkc, hks⟩ := X
  intro H locs ls hP hD hS hl
  exact lv_ldc hx hb hown (hts _ hw) hd (k H locs ls hP hD hS hl)
theorem wp_ldcw {x : CT} {L : List Nat} {cc : ByteArray} {nL : Nat} {own : String} {R : Room} {pc : Nat} {lo : List (Option Value)} {st : List Value} {M : Mem} (X : BS x L cc nL own R) {idx : Nat} {v : Int32} (hd : decode cc pc = .ok (.ldc_w idx, 3)) (hw : Cond.constant own idx v ∈ wd_G) (k : WP x L (pc + 3) lo (.int v :: st) M) : WP x L pc lo (st) M := by
  obtain ⟨p, l, e, R', s, m, args, below, meth, c, A, QQ, D, cs, ad, kc, ks⟩ := x
  obtain ⟨hR, hx, hb, hml, hown, hts, hnw, hlk, hA, hK, hnd, hkc, hks⟩ := X
  intro H locs ls hP hD hS hl
  exact lv_ldcw hx hb hown (hts _ hw) hd (k H locs ls hP hD hS hl)
theorem wp_ldcf {x : CT} {L : List Nat} {cc : ByteArray} {nL : Nat} {own : String} {R : Room} {pc : Nat} {lo : List (Option Value)} {st : List Value} {M : Mem} (X : BS x L cc nL own R) {idx : Nat} {v : UInt32} (hd : decode cc pc = .ok (.ldc idx, 2)) (hw : Cond.constantFloat own idx v ∈ wd_G) (k : WP x L (pc + 2) lo (.float v :: st) M) : WP x L pc lo (st) M := by
  obtain ⟨p, l, e, R', s, m, args, below, meth, c, A, QQ, D, cs, ad, kc, ks⟩ := x
  obtain ⟨hR, hx, hb, hml, hown, hts, hnw, hlk, hA, hK, hnd, hkc, hks⟩ := X
  intro H locs ls hP hD hS hl
  exact lv_ldcf hx hb hown (hts _ hw) hd (k H locs ls hP hD hS hl)
theorem wp_ldc2 {x : CT} {L : List Nat} {cc : ByteArray} {nL : Nat} {own : String} {R : Room} {pc : Nat} {lo : List (Option Value)} {st : List Value} {M : Mem} (X : BS x L cc nL own R) {idx : Nat} {v : Int64} (hd : decode cc pc = .ok (.ldc2_w idx, 3)) (hw : Cond.constantLong own idx v ∈ wd_G) (k : WP x L (pc + 3) lo (.long v :: st) M) : WP x L pc lo (st) M := by
  obtain ⟨p, l, e, R', s, m, args, below, meth, c, A, QQ, D, cs, ad, kc, ks⟩ := x
  obtain ⟨hR, hx, hb, hml, hown, hts, hnw, hlk, hA, hK, hnd, hkc, hks⟩ := X
  intro H locs ls hP hD hS hl
  exact lv_ldc2 hx hb hown (hts _ hw) hd (k H locs ls hP hD hS hl)
theorem wp_istore_n {x : CT} {L : List Nat} {cc : ByteArray} {nL : Nat} {own : String} {R : Room} {pc : Nat} {lo : List (Option Value)} {st : List Value} {M : Mem} (X : BS x L cc nL own R) {k4 : Fin 4} {i : Nat} {v : Int32} {lo' : List (Option Value)} (hd : decode cc pc = .ok (.istore_n k4, 1)) (hi : (k4 : Nat) = i) (hi2 : i < lo.length) (hn : noL lo i = true) (he : lo.set i (some (.int v)) = lo') (k : WP x L (pc + 1) lo' st M) : WP x L pc lo (.int v :: st) M := by
  obtain ⟨p, l, e, R', s, m, args, below, meth, c, A, QQ, D, cs, ad, kc, ks⟩ := x
  obtain ⟨hR, hx, hb, hml, hown, hts, hnw, hlk, hA, hK, hnd, hkc, hks⟩ := X
  intro H locs ls hP hD hS hl
  exact lv_istore_n hx hb hd hi hl hi2 rfl (fun ls' hl' => k H locs ls' hP hD hS (LO_st1 he hn hl'))
theorem wp_istore {x : CT} {L : List Nat} {cc : ByteArray} {nL : Nat} {own : String} {R : Room} {pc : Nat} {lo : List (Option Value)} {st : List Value} {M : Mem} (X : BS x L cc nL own R) {i : Nat} {v : Int32} {lo' : List (Option Value)} (hd : decode cc pc = .ok (.istore i, 2)) (hi2 : i < lo.length) (hn : noL lo i = true) (he : lo.set i (some (.int v)) = lo') (k : WP x L (pc + 2) lo' st M) : WP x L pc lo (.int v :: st) M := by
  obtain ⟨p, l, e, R', s, m, args, below, meth, c, A, QQ, D, cs, ad, kc, ks⟩ := x
  obtain ⟨hR, hx, hb, hml, hown, hts, hnw, hlk, hA, hK, hnd, hkc, hks⟩ := X
  intro H locs ls hP hD hS hl
  exact lv_istore hx hb hd hl hi2 rfl (fun ls' hl' => k H locs ls' hP hD hS (LO_st1 he hn hl'))
theorem wp_fstore_n {x : CT} {L : List Nat} {cc : ByteArray} {nL : Nat} {own : String} {R : Room} {pc : Nat} {lo : List (Option Value)} {st : List Value} {M : Mem} (X : BS x L cc nL own R) {k4 : Fin 4} {i : Nat} {v : UInt32} {lo' : List (Option Value)} (hd : decode cc pc = .ok (.fstore_n k4, 1)) (hi : (k4 : Nat) = i) (hi2 : i < lo.length) (hn : noL lo i = true) (he : lo.set i (some (.float v)) = lo') (k : WP x L (pc + 1) lo' st M) : WP x L pc lo (.float v :: st) M := by
  obtain ⟨p, l, e, R', s, m, args, below, meth, c, A, QQ, D, cs, ad, kc, ks⟩ := x
  obtain ⟨hR, hx, hb, hml, hown, hts, hnw, hlk, hA, hK, hnd, hkc, hks⟩ := X
  intro H locs ls hP hD hS hl
  exact lv_fstore_n hx hb hd hi hl hi2 rfl (fun ls' hl' => k H locs ls' hP hD hS (LO_st1 he hn hl'))
theorem wp_fstore {x : CT} {L : List Nat} {cc : ByteArray} {nL : Nat} {own : String} {R : Room} {pc : Nat} {lo : List (Option Value)} {st : List Value} {M : Mem} (X : BS x L cc nL own R) {i : Nat} {v : UInt32} {lo' : List (Option Value)} (hd : decode cc pc = .ok (.fstore i, 2)) (hi2 : i < lo.length) (hn : noL lo i = true) (he : lo.set i (some (.float v)) = lo') (k : WP x L (pc + 2) lo' st M) : WP x L pc lo (.float v :: st) M := by
  obtain ⟨p, l, e, R', s, m, args, below, meth, c, A, QQ, D, cs, ad, kc, ks⟩ := x
  obtain ⟨hR, hx, hb, hml, hown, hts, hnw, hlk, hA, hK, hnd, hkc, hks⟩ := X
  intro H locs ls hP hD hS hl
  exact lv_fstore hx hb hd hl hi2 rfl (fun ls' hl' => k H locs ls' hP hD hS (LO_st1 he hn hl'))
theorem wp_astore_n {x : CT} {L : List Nat} {cc : ByteArray} {nL : Nat} {own : String} {R : Room} {pc : Nat} {lo : List (Option Value)} {st : List Value} {M : Mem} (X : BS x L cc nL own R) {k4 : Fin 4} {i : Nat} {v : Nat} {lo' : List (Option Value)} (hd : decode cc pc = .ok (.astore_n k4, 1)) (hi : (k4 : Nat) = i) (hi2 : i < lo.length) (hn : noL lo i = true) (he : lo.set i (some (.ref v)) = lo') (k : WP x L (pc + 1) lo' st M) : WP x L pc lo (.ref v :: st) M := by
  obtain ⟨p, l, e, R', s, m, args, below, meth, c, A, QQ, D, cs, ad, kc, ks⟩ := x
  obtain ⟨hR, hx, hb, hml, hown, hts, hnw, hlk, hA, hK, hnd, hkc, hks⟩ := X
  intro H locs ls hP hD hS hl
  exact lv_astore_n hx hb hd hi hl hi2 rfl (fun ls' hl' => k H locs ls' hP hD hS (LO_st1 he hn hl'))
theorem wp_astore {x : CT} {L : List Nat} {cc : ByteArray} {nL : Nat} {own : String} {R : Room} {pc : Nat} {lo : List (Option Value)} {st : List Value} {M : Mem} (X : BS x L cc nL own R) {i : Nat} {v : Nat} {lo' : List (Option Value)} (hd : decode cc pc = .ok (.astore i, 2)) (hi2 : i < lo.length) (hn : noL lo i = true) (he : lo.set i (some (.ref v)) = lo') (k : WP x L (pc + 2) lo' st M) : WP x L pc lo (.ref v :: st) M := by
  obtain ⟨p, l, e, R', s, m, args, below, meth, c, A, QQ, D, cs, ad, kc, ks⟩ := x
  obtain ⟨hR, hx, hb, hml, hown, hts, hnw, hlk, hA, hK, hnd, hkc, hks⟩ := X
  intro H locs ls hP hD hS hl
  exact lv_astore hx hb hd hl hi2 rfl (fun ls' hl' => k H locs ls' hP hD hS (LO_st1 he hn hl'))
theorem wp_lstore_n {x : CT} {L : List Nat} {cc : ByteArray} {nL : Nat} {own : String} {R : Room} {pc : Nat} {lo : List (Option Value)} {st : List Value} {M : Mem} (X : BS x L cc nL own R) {k4 : Fin 4} {i : Nat} {v : Int64} {lo' : List (Option Value)} (hd : decode cc pc = .ok (.lstore_n k4, 1)) (hi : (k4 : Nat) = i) (hi2 : i + 1 < lo.length) (hn : noL lo i = true) (he : (lo.set i (some (.long v))).set (i + 1) none = lo') (k : WP x L (pc + 1) lo' st M) : WP x L pc lo (.long v :: st) M := by
  obtain ⟨p, l, e, R', s, m, args, below, meth, c, A, QQ, D, cs, ad, kc, ks⟩ := x
  obtain ⟨hR, hx, hb, hml, hown, hts, hnw, hlk, hA, hK, hnd, hkc, hks⟩ := X
  intro H locs ls hP hD hS hl
  exact lv_lstore_n hx hb hd hi hl hi2 rfl (fun ls' hl' => k H locs ls' hP hD hS (LO_st2 he hn hl'))
theorem wp_iinc {x : CT} {L : List Nat} {cc : ByteArray} {nL : Nat} {own : String} {R : Room} {pc : Nat} {lo : List (Option Value)} {st : List Value} {M : Mem} (X : BS x L cc nL own R) {i : Nat} {n : Int} {a v : Int32} {lo' : List (Option Value)} (hd : decode cc pc = .ok (.iinc i n, 3)) (ha : lo[i]? = some (some (.int a))) (hv : a + Int32.ofInt n = v) (hn : noL lo i = true) (he : lo.set i (some (.int v)) = lo') (k : WP x L (pc + 3) lo' st M) : WP x L pc lo st M := by
  obtain ⟨p, l, e, R', s, m, args, below, meth, c, A, QQ, D, cs, ad, kc, ks⟩ := x
  obtain ⟨hR, hx, hb, hml, hown, hts, hnw, hlk, hA, hK, hnd, hkc, hks⟩ := X
  intro H locs ls hP hD hS hl
  obtain ⟨q, hq⟩ := List.getElem?_of_mem (lvl_mem (ad := ad) (lo := lo) (q := (i, .int a)).mpr ⟨_, ha, rfl⟩)
  exact lv_iinc hx hb hd hl hq hv (List.getElem?_eq_some_iff.mp ha).1 rfl (fun ls' hl' => k H locs ls' hP hD hS (LO_st1 he hn hl'))
theorem wp_icmp_eq {x : CT} {L : List Nat} {cc : ByteArray} {nL : Nat} {own : String} {R : Room} {pc : Nat} {lo : List (Option Value)} {st : List Value} {M : Mem} (X : BS x L cc nL own R) {a b : Int32} {off : Int} {tgt : Nat} (hd : decode cc pc = .ok (.if_icmp .eq off, 3)) (ht : (pc : Int) + off = (tgt : Int)) (kt : a = b → WP x L tgt lo st M) (kf : ¬ a = b → WP x L (pc + 3) lo st M) : WP x L pc lo (.int b :: .int a :: st) M := by
  obtain ⟨p, l, e, R', s, m, args, below, meth, c, A, QQ, D, cs, ad, kc, ks⟩ := x
  obtain ⟨hR, hx, hb, hml, hown, hts, hnw, hlk, hA, hK, hnd, hkc, hks⟩ := X
  intro H locs ls hP hD hS hl
  exact lv_icmp_eq hx hb hd ht (fun h => kt h H locs ls hP hD hS hl) (fun h => kf h H locs ls hP hD hS hl)
theorem wp_if_eq {x : CT} {L : List Nat} {cc : ByteArray} {nL : Nat} {own : String} {R : Room} {pc : Nat} {lo : List (Option Value)} {st : List Value} {M : Mem} (X : BS x L cc nL own R) {a : Int32} {off : Int} {tgt : Nat} (hd : decode cc pc = .ok (.ifCond .eq off, 3)) (ht : (pc : Int) + off = (tgt : Int)) (kt : a = 0 → WP x L tgt lo st M) (kf : ¬ a = 0 → WP x L (pc + 3) lo st M) : WP x L pc lo (.int a :: st) M := by
  obtain ⟨p, l, e, R', s, m, args, below, meth, c, A, QQ, D, cs, ad, kc, ks⟩ := x
  obtain ⟨hR, hx, hb, hml, hown, hts, hnw, hlk, hA, hK, hnd, hkc, hks⟩ := X
  intro H locs ls hP hD hS hl
  exact lv_if_eq hx hb hd ht (fun h => kt h H locs ls hP hD hS hl) (fun h => kf h H locs ls hP hD hS hl)
theorem wp_icmp_ne {x : CT} {L : List Nat} {cc : ByteArray} {nL : Nat} {own : String} {R : Room} {pc : Nat} {lo : List (Option Value)} {st : List Value} {M : Mem} (X : BS x L cc nL own R) {a b : Int32} {off : Int} {tgt : Nat} (hd : decode cc pc = .ok (.if_icmp .ne off, 3)) (ht : (pc : Int) + off = (tgt : Int)) (kt : ¬ a = b → WP x L tgt lo st M) (kf : a = b → WP x L (pc + 3) lo st M) : WP x L pc lo (.int b :: .int a :: st) M := by
  obtain ⟨p, l, e, R', s, m, args, below, meth, c, A, QQ, D, cs, ad, kc, ks⟩ := x
  obtain ⟨hR, hx, hb, hml, hown, hts, hnw, hlk, hA, hK, hnd, hkc, hks⟩ := X
  intro H locs ls hP hD hS hl
  exact lv_icmp_ne hx hb hd ht (fun h => kt h H locs ls hP hD hS hl) (fun h => kf h H locs ls hP hD hS hl)
theorem wp_if_ne {x : CT} {L : List Nat} {cc : ByteArray} {nL : Nat} {own : String} {R : Room} {pc : Nat} {lo : List (Option Value)} {st : List Value} {M : Mem} (X : BS x L cc nL own R) {a : Int32} {off : Int} {tgt : Nat} (hd : decode cc pc = .ok (.ifCond .ne off, 3)) (ht : (pc : Int) + off = (tgt : Int)) (kt : ¬ a = 0 → WP x L tgt lo st M) (kf : a = 0 → WP x L (pc + 3) lo st M) : WP x L pc lo (.int a :: st) M := by
  obtain ⟨p, l, e, R', s, m, args, below, meth, c, A, QQ, D, cs, ad, kc, ks⟩ := x
  obtain ⟨hR, hx, hb, hml, hown, hts, hnw, hlk, hA, hK, hnd, hkc, hks⟩ := X
  intro H locs ls hP hD hS hl
  exact lv_if_ne hx hb hd ht (fun h => kt h H locs ls hP hD hS hl) (fun h => kf h H locs ls hP hD hS hl)
theorem wp_icmp_lt {x : CT} {L : List Nat} {cc : ByteArray} {nL : Nat} {own : String} {R : Room} {pc : Nat} {lo : List (Option Value)} {st : List Value} {M : Mem} (X : BS x L cc nL own R) {a b : Int32} {off : Int} {tgt : Nat} (hd : decode cc pc = .ok (.if_icmp .lt off, 3)) (ht : (pc : Int) + off = (tgt : Int)) (kt : a < b → WP x L tgt lo st M) (kf : ¬ a < b → WP x L (pc + 3) lo st M) : WP x L pc lo (.int b :: .int a :: st) M := by
  obtain ⟨p, l, e, R', s, m, args, below, meth, c, A, QQ, D, cs, ad, kc, ks⟩ := x
  obtain ⟨hR, hx, hb, hml, hown, hts, hnw, hlk, hA, hK, hnd, hkc, hks⟩ := X
  intro H locs ls hP hD hS hl
  exact lv_icmp_lt hx hb hd ht (fun h => kt h H locs ls hP hD hS hl) (fun h => kf h H locs ls hP hD hS hl)
theorem wp_if_lt {x : CT} {L : List Nat} {cc : ByteArray} {nL : Nat} {own : String} {R : Room} {pc : Nat} {lo : List (Option Value)} {st : List Value} {M : Mem} (X : BS x L cc nL own R) {a : Int32} {off : Int} {tgt : Nat} (hd : decode cc pc = .ok (.ifCond .lt off, 3)) (ht : (pc : Int) + off = (tgt : Int)) (kt : a < 0 → WP x L tgt lo st M) (kf : ¬ a < 0 → WP x L (pc + 3) lo st M) : WP x L pc lo (.int a :: st) M := by
  obtain ⟨p, l, e, R', s, m, args, below, meth, c, A, QQ, D, cs, ad, kc, ks⟩ := x
  obtain ⟨hR, hx, hb, hml, hown, hts, hnw, hlk, hA, hK, hnd, hkc, hks⟩ := X
  intro H locs ls hP hD hS hl
  exact lv_if_lt hx hb hd ht (fun h => kt h H locs ls hP hD hS hl) (fun h => kf h H locs ls hP hD hS hl)
theorem wp_icmp_ge {x : CT} {L : List Nat} {cc : ByteArray} {nL : Nat} {own : String} {R : Room} {pc : Nat} {lo : List (Option Value)} {st : List Value} {M : Mem} (X : BS x L cc nL own R) {a b : Int32} {off : Int} {tgt : Nat} (hd : decode cc pc = .ok (.if_icmp .ge off, 3)) (ht : (pc : Int) + off = (tgt : Int)) (kt : b ≤ a → WP x L tgt lo st M) (kf : ¬ b ≤ a → WP x L (pc + 3) lo st M) : WP x L pc lo (.int b :: .int a :: st) M := by
  obtain ⟨p, l, e, R', s, m, args, below, meth, c, A, QQ, D, cs, ad, kc, ks⟩ := x
  obtain ⟨hR, hx, hb, hml, hown, hts, hnw, hlk, hA, hK, hnd, hkc, hks⟩ := X
  intro H locs ls hP hD hS hl
  exact lv_icmp_ge hx hb hd ht (fun h => kt h H locs ls hP hD hS hl) (fun h => kf h H locs ls hP hD hS hl)
theorem wp_if_ge {x : CT} {L : List Nat} {cc : ByteArray} {nL : Nat} {own : String} {R : Room} {pc : Nat} {lo : List (Option Value)} {st : List Value} {M : Mem} (X : BS x L cc nL own R) {a : Int32} {off : Int} {tgt : Nat} (hd : decode cc pc = .ok (.ifCond .ge off, 3)) (ht : (pc : Int) + off = (tgt : Int)) (kt : 0 ≤ a → WP x L tgt lo st M) (kf : ¬ 0 ≤ a → WP x L (pc + 3) lo st M) : WP x L pc lo (.int a :: st) M := by
  obtain ⟨p, l, e, R', s, m, args, below, meth, c, A, QQ, D, cs, ad, kc, ks⟩ := x
  obtain ⟨hR, hx, hb, hml, hown, hts, hnw, hlk, hA, hK, hnd, hkc, hks⟩ := X
  intro H locs ls hP hD hS hl
  exact lv_if_ge hx hb hd ht (fun h => kt h H locs ls hP hD hS hl) (fun h => kf h H locs ls hP hD hS hl)
theorem wp_icmp_gt {x : CT} {L : List Nat} {cc : ByteArray} {nL : Nat} {own : String} {R : Room} {pc : Nat} {lo : List (Option Value)} {st : List Value} {M : Mem} (X : BS x L cc nL own R) {a b : Int32} {off : Int} {tgt : Nat} (hd : decode cc pc = .ok (.if_icmp .gt off, 3)) (ht : (pc : Int) + off = (tgt : Int)) (kt : b < a → WP x L tgt lo st M) (kf : ¬ b < a → WP x L (pc + 3) lo st M) : WP x L pc lo (.int b :: .int a :: st) M := by
  obtain ⟨p, l, e, R', s, m, args, below, meth, c, A, QQ, D, cs, ad, kc, ks⟩ := x
  obtain ⟨hR, hx, hb, hml, hown, hts, hnw, hlk, hA, hK, hnd, hkc, hks⟩ := X
  intro H locs ls hP hD hS hl
  exact lv_icmp_gt hx hb hd ht (fun h => kt h H locs ls hP hD hS hl) (fun h => kf h H locs ls hP hD hS hl)
theorem wp_if_gt {x : CT} {L : List Nat} {cc : ByteArray} {nL : Nat} {own : String} {R : Room} {pc : Nat} {lo : List (Option Value)} {st : List Value} {M : Mem} (X : BS x L cc nL own R) {a : Int32} {off : Int} {tgt : Nat} (hd : decode cc pc = .ok (.ifCond .gt off, 3)) (ht : (pc : Int) + off = (tgt : Int)) (kt : 0 < a → WP x L tgt lo st M) (kf : ¬ 0 < a → WP x L (pc + 3) lo st M) : WP x L pc lo (.int a :: st) M := by
  obtain ⟨p, l, e, R', s, m, args, below, meth, c, A, QQ, D, cs, ad, kc, ks⟩ := x
  obtain ⟨hR, hx, hb, hml, hown, hts, hnw, hlk, hA, hK, hnd, hkc, hks⟩ := X
  intro H locs ls hP hD hS hl
  exact lv_if_gt hx hb hd ht (fun h => kt h H locs ls hP hD hS hl) (fun h => kf h H locs ls hP hD hS hl)
theorem wp_icmp_le {x : CT} {L : List Nat} {cc : ByteArray} {nL : Nat} {own : String} {R : Room} {pc : Nat} {lo : List (Option Value)} {st : List Value} {M : Mem} (X : BS x L cc nL own R) {a b : Int32} {off : Int} {tgt : Nat} (hd : decode cc pc = .ok (.if_icmp .le off, 3)) (ht : (pc : Int) + off = (tgt : Int)) (kt : a ≤ b → WP x L tgt lo st M) (kf : ¬ a ≤ b → WP x L (pc + 3) lo st M) : WP x L pc lo (.int b :: .int a :: st) M := by
  obtain ⟨p, l, e, R', s, m, args, below, meth, c, A, QQ, D, cs, ad, kc, ks⟩ := x
  obtain ⟨hR, hx, hb, hml, hown, hts, hnw, hlk, hA, hK, hnd, hkc, hks⟩ := X
  intro H locs ls hP hD hS hl
  exact lv_icmp_le hx hb hd ht (fun h => kt h H locs ls hP hD hS hl) (fun h => kf h H locs ls hP hD hS hl)
theorem wp_if_le {x : CT} {L : List Nat} {cc : ByteArray} {nL : Nat} {own : String} {R : Room} {pc : Nat} {lo : List (Option Value)} {st : List Value} {M : Mem} (X : BS x L cc nL own R) {a : Int32} {off : Int} {tgt : Nat} (hd : decode cc pc = .ok (.ifCond .le off, 3)) (ht : (pc : Int) + off = (tgt : Int)) (kt : a ≤ 0 → WP x L tgt lo st M) (kf : ¬ a ≤ 0 → WP x L (pc + 3) lo st M) : WP x L pc lo (.int a :: st) M := by
  obtain ⟨p, l, e, R', s, m, args, below, meth, c, A, QQ, D, cs, ad, kc, ks⟩ := x
  obtain ⟨hR, hx, hb, hml, hown, hts, hnw, hlk, hA, hK, hnd, hkc, hks⟩ := X
  intro H locs ls hP hD hS hl
  exact lv_if_le hx hb hd ht (fun h => kt h H locs ls hP hD hS hl) (fun h => kf h H locs ls hP hD hS hl)
theorem wn_icmp_eq {x : CT} {L : List Nat} {cc : ByteArray} {nL : Nat} {own : String} {R : Room} {pc : Nat} {lo : List (Option Value)} {st : List Value} {M : Mem} (X : BS x L cc nL own R) {a b : Nat} {off : Int} {tgt : Nat} (hd : decode cc pc = .ok (.if_icmp .eq off, 3)) (ht : (pc : Int) + off = (tgt : Int)) (ha2 : a < 2 ^ 31) (hb2 : b < 2 ^ 31) (kt : a = b → WP x L tgt lo st M) (kf : ¬ a = b → WP x L (pc + 3) lo st M) : WP x L pc lo (.int (nI b) :: .int (nI a) :: st) M := wp_icmp_eq X hd ht (fun h => kt ((nI_eq ha2 hb2).mp h)) (fun h => kf (fun q => h ((nI_eq ha2 hb2).mpr q)))
theorem wn_icmp_ne {x : CT} {L : List Nat} {cc : ByteArray} {nL : Nat} {own : String} {R : Room} {pc : Nat} {lo : List (Option Value)} {st : List Value} {M : Mem} (X : BS x L cc nL own R) {a b : Nat} {off : Int} {tgt : Nat} (hd : decode cc pc = .ok (.if_icmp .ne off, 3)) (ht : (pc : Int) + off = (tgt : Int)) (ha2 : a < 2 ^ 31) (hb2 : b < 2 ^ 31) (kt : ¬ a = b → WP x L tgt lo st M) (kf : a = b → WP x L (pc + 3) lo st M) : WP x L pc lo (.int (nI b) :: .int (nI a) :: st) M := wp_icmp_ne X hd ht (fun h => kt (fun q => h ((nI_eq ha2 hb2).mpr q))) (fun h => kf ((nI_eq ha2 hb2).mp h))
theorem wn_icmp_lt {x : CT} {L : List Nat} {cc : ByteArray} {nL : Nat} {own : String} {R : Room} {pc : Nat} {lo : List (Option Value)} {st : List Value} {M : Mem} (X : BS x L cc nL own R) {a b : Nat} {off : Int} {tgt : Nat} (hd : decode cc pc = .ok (.if_icmp .lt off, 3)) (ht : (pc : Int) + off = (tgt : Int)) (ha2 : a < 2 ^ 31) (hb2 : b < 2 ^ 31) (kt : a < b → WP x L tgt lo st M) (kf : b ≤ a → WP x L (pc + 3) lo st M) : WP x L pc lo (.int (nI b) :: .int (nI a) :: st) M := wp_icmp_lt X hd ht (fun h => kt ((nI_ltI ha2 hb2).mp h)) (fun h => kf (Nat.not_lt.mp (fun q => h ((nI_ltI ha2 hb2).mpr q))))
theorem wn_icmp_ge {x : CT} {L : List Nat} {cc : ByteArray} {nL : Nat} {own : String} {R : Room} {pc : Nat} {lo : List (Option Value)} {st : List Value} {M : Mem} (X : BS x L cc nL own R) {a b : Nat} {off : Int} {tgt : Nat} (hd : decode cc pc = .ok (.if_icmp .ge off, 3)) (ht : (pc : Int) + off = (tgt : Int)) (ha2 : a < 2 ^ 31) (hb2 : b < 2 ^ 31) (kt : b ≤ a → WP x L tgt lo st M) (kf : a < b → WP x L (pc + 3) lo st M) : WP x L pc lo (.int (nI b) :: .int (nI a) :: st) M := wp_icmp_ge X hd ht (fun h => kt ((nI_leI hb2 ha2).mp h)) (fun h => kf (Nat.not_le.mp (fun q => h ((nI_leI hb2 ha2).mpr q))))
theorem wn_icmp_gt {x : CT} {L : List Nat} {cc : ByteArray} {nL : Nat} {own : String} {R : Room} {pc : Nat} {lo : List (Option Value)} {st : List Value} {M : Mem} (X : BS x L cc nL own R) {a b : Nat} {off : Int} {tgt : Nat} (hd : decode cc pc = .ok (.if_icmp .gt off, 3)) (ht : (pc : Int) + off = (tgt : Int)) (ha2 : a < 2 ^ 31) (hb2 : b < 2 ^ 31) (kt : b < a → WP x L tgt lo st M) (kf : a ≤ b → WP x L (pc + 3) lo st M) : WP x L pc lo (.int (nI b) :: .int (nI a) :: st) M := wp_icmp_gt X hd ht (fun h => kt ((nI_ltI hb2 ha2).mp h)) (fun h => kf (Nat.not_lt.mp (fun q => h ((nI_ltI hb2 ha2).mpr q))))
theorem wn_icmp_le {x : CT} {L : List Nat} {cc : ByteArray} {nL : Nat} {own : String} {R : Room} {pc : Nat} {lo : List (Option Value)} {st : List Value} {M : Mem} (X : BS x L cc nL own R) {a b : Nat} {off : Int} {tgt : Nat} (hd : decode cc pc = .ok (.if_icmp .le off, 3)) (ht : (pc : Int) + off = (tgt : Int)) (ha2 : a < 2 ^ 31) (hb2 : b < 2 ^ 31) (kt : a ≤ b → WP x L tgt lo st M) (kf : b < a → WP x L (pc + 3) lo st M) : WP x L pc lo (.int (nI b) :: .int (nI a) :: st) M := wp_icmp_le X hd ht (fun h => kt ((nI_leI ha2 hb2).mp h)) (fun h => kf (Nat.not_le.mp (fun q => h ((nI_leI ha2 hb2).mpr q))))
theorem wp_goto {x : CT} {L : List Nat} {cc : ByteArray} {nL : Nat} {own : String} {R : Room} {pc : Nat} {lo : List (Option Value)} {st : List Value} {M : Mem} (X : BS x L cc nL own R) {off : Int} {tgt : Nat} (hd : decode cc pc = .ok (.goto off, 3)) (ht : (pc : Int) + off = (tgt : Int)) (k : WP x L tgt lo st M) : WP x L pc lo st M := by
  obtain ⟨p, l, e, R', s, m, args, below, meth, c, A, QQ, D, cs, ad, kc, ks⟩ := x
  obtain ⟨hR, hx, hb, hml, hown, hts, hnw, hlk, hA, hK, hnd, hkc, hks⟩ := X
  intro H locs ls hP hD hS hl
  exact lv_goto hx hb hd ht (k H locs ls hP hD hS hl)
theorem wp_tabIn {x : CT} {L : List Nat} {cc : ByteArray} {nL : Nat} {own : String} {R : Room} {pc : Nat} {lo : List (Option Value)} {st : List Value} {M : Mem} (X : BS x L cc nL own R) {dflt l0 h0 : Int} {offs : Array Int} {len : Nat} {a : Int32} {off : Int} {tgt : Nat} (hd : decode cc pc = .ok (.tableswitch dflt l0 h0 offs, len)) (h1 : ¬ a.toInt < l0) (h2 : ¬ h0 < a.toInt) (ho : offs[(a.toInt - l0).toNat]? = some off) (ht : (pc : Int) + off = (tgt : Int)) (k : WP x L tgt lo st M) : WP x L pc lo (.int a :: st) M := by
  obtain ⟨p, l, e, R', s, m, args, below, meth, c, A, QQ, D, cs, ad, kc, ks⟩ := x
  obtain ⟨hR, hx, hb, hml, hown, hts, hnw, hlk, hA, hK, hnd, hkc, hks⟩ := X
  intro H locs ls hP hD hS hl
  exact lv_tableIn hx hb hd h1 h2 ho ht (k H locs ls hP hD hS hl)
theorem wp_tabOut {x : CT} {L : List Nat} {cc : ByteArray} {nL : Nat} {own : String} {R : Room} {pc : Nat} {lo : List (Option Value)} {st : List Value} {M : Mem} (X : BS x L cc nL own R) {dflt l0 h0 : Int} {offs : Array Int} {len : Nat} {a : Int32} {tgt : Nat} (hd : decode cc pc = .ok (.tableswitch dflt l0 h0 offs, len)) (h : a.toInt < l0 ∨ h0 < a.toInt) (ht : (pc : Int) + dflt = (tgt : Int)) (k : WP x L tgt lo st M) : WP x L pc lo (.int a :: st) M := by
  obtain ⟨p, l, e, R', s, m, args, below, meth, c, A, QQ, D, cs, ad, kc, ks⟩ := x
  obtain ⟨hR, hx, hb, hml, hown, hts, hnw, hlk, hA, hK, hnd, hkc, hks⟩ := X
  intro H locs ls hP hD hS hl
  exact lv_tableOut hx hb hd h ht (k H locs ls hP hD hS hl)
theorem wp_look {x : CT} {L : List Nat} {cc : ByteArray} {nL : Nat} {own : String} {R : Room} {pc : Nat} {lo : List (Option Value)} {st : List Value} {M : Mem} (X : BS x L cc nL own R) {dflt : Int} {ps : Array (Int × Int)} {len : Nat} {a : Int32} {off : Int} {tgt : Nat} (hd : decode cc pc = .ok (.lookupswitch dflt ps, len)) (hp : (ps.toList.zip (ps.toList.drop 1)).all (fun (a, next) => a.1 < next.1) = true) (ho : Op.lookupswitch.offset ps.toList dflt a.toInt = off) (ht : (pc : Int) + off = (tgt : Int)) (k : WP x L tgt lo st M) : WP x L pc lo (.int a :: st) M := by
  obtain ⟨p, l, e, R', s, m, args, below, meth, c, A, QQ, D, cs, ad, kc, ks⟩ := x
  obtain ⟨hR, hx, hb, hml, hown, hts, hnw, hlk, hA, hK, hnd, hkc, hks⟩ := X
  intro H locs ls hP hD hS hl
  exact lv_lookup hx hb hd hp ho ht (k H locs ls hP hD hS hl)
theorem wn_iadd {x : CT} {L : List Nat} {cc : ByteArray} {nL : Nat} {own : String} {R : Room} {pc : Nat} {lo : List (Option Value)} {st : List Value} {M : Mem} (X : BS x L cc nL own R) {a b : Nat} (hd : decode cc pc = .ok (.iadd, 1)) (k : WP x L (pc + 1) lo (.int (nI (a + b)) :: st) M) : WP x L pc lo (.int (nI b) :: .int (nI a) :: st) M := wp_iadd X hd (by rw [nI_add]; exact k)
theorem wn_isub {x : CT} {L : List Nat} {cc : ByteArray} {nL : Nat} {own : String} {R : Room} {pc : Nat} {lo : List (Option Value)} {st : List Value} {M : Mem} (X : BS x L cc nL own R) {a b : Nat} (hd : decode cc pc = .ok (.isub, 1)) (h : b ≤ a) (k : WP x L (pc + 1) lo (.int (nI (a - b)) :: st) M) : WP x L pc lo (.int (nI b) :: .int (nI a) :: st) M := wp_isub X hd (by rw [pk_sub h]; exact k)
theorem wn_imul {x : CT} {L : List Nat} {cc : ByteArray} {nL : Nat} {own : String} {R : Room} {pc : Nat} {lo : List (Option Value)} {st : List Value} {M : Mem} (X : BS x L cc nL own R) {a b : Nat} (hd : decode cc pc = .ok (.imul, 1)) (k : WP x L (pc + 1) lo (.int (nI (a * b)) :: st) M) : WP x L pc lo (.int (nI b) :: .int (nI a) :: st) M := wp_imul X hd (by rw [pk_mul]; exact k)
theorem wn_irem {x : CT} {L : List Nat} {cc : ByteArray} {nL : Nat} {own : String} {R : Room} {pc : Nat} {lo : List (Option Value)} {st : List Value} {M : Mem} (X : BS x L cc nL own R) {a b : Nat} (hd : decode cc pc = .ok (.irem, 1)) (ha : a < 2 ^ 31) (h0 : 0 < b) (hb2 : b < 2 ^ 31) (k : WP x L (pc + 1) lo (.int (nI (a % b)) :: st) M) : WP x L pc lo (.int (nI b) :: .int (nI a) :: st) M := wp_irem X hd (nI_ne0 h0 hb2) (by rw [pk_rem ha h0 hb2]; exact k)
theorem wn_iinc {x : CT} {L : List Nat} {cc : ByteArray} {nL : Nat} {own : String} {R : Room} {pc : Nat} {lo : List (Option Value)} {st : List Value} {M : Mem} (X : BS x L cc nL own R) {i : Nat} {n : Int} {a d : Nat} {lo' : List (Option Value)} (hd : decode cc pc = .ok (.iinc i n, 3)) (ha : lo[i]? = some (some (.int (nI a)))) (hv : Int32.ofInt n = nI d) (hn : noL lo i = true) (he : lo.set i (some (.int (nI (a + d)))) = lo') (k : WP x L (pc + 3) lo' st M) : WP x L pc lo st M := wp_iinc X hd ha (by rw [hv, nI_add]) hn he k
/-- a field's site: constant idx of class own names field k of class ci -/
def FL (own : String) (idx ci k : Nat) : Prop := ∃ (C : String) (T : u_T) (N : Nat), vwCl[ci]? = some (C, T, N) ∧ k < N ∧ (T k).1 = C ∧ (∀ w ∈ u_ws C T N, w ∈ wd_G) ∧ (Cond.fieldLink own idx C (T k).2.1 (T k).2.2.1 ∈ wd_G ∨ ∃ host : String, Cond.fieldLinkNest own idx C (T k).2.1 (T k).2.2.1 host ∈ wd_N)
/-- .. an int that may be written -/
def FP' (ci k : Nat) : Prop := ∃ (C : String) (T : u_T) (N : Nat) (ty0 : Nat → FieldType), vwCl[ci]? = some (C, T, N) ∧ (T k).2.2.2 = false ∧ parseFieldDescriptor (T k).2.2.1 = some .int ∧ (∀ j, j < N → parseFieldDescriptor (T j).2.2.1 = some (ty0 j)) ∧ (∀ a, a < N → ∀ b, b < N → a ≠ b → (T a).2.1 ≠ (T b).2.1)
theorem EA_o {ad : Nat → Nat} {cs : ClassId × ClassId × ClassId} {i ci : Nat} {r : Nat → Int32} (h : KD i = ci) (h9 : ci < 9) : EA ad cs i r = .inr (ci, (FA i r).map (CV ad)) := by
  unfold EA
  rw [if_neg (by omega), if_neg (by omega), if_neg (by omega), h]
theorem EA_i {ad : Nat → Nat} {cs : ClassId × ClassId × ClassId} {i : Nat} {r : Nat → Int32} (h : KD i = 9) : EA ad cs i r = .inl (cs.1, LN i, .inl r) := by
  unfold EA
  rw [if_pos h]
theorem wp_get {x : CT} {L : List Nat} {cc : ByteArray} {nL : Nat} {own : String} {R : Room} {pc : Nat} {lo : List (Option Value)} {st : List Value} {M : Mem} (X : BS x L cc nL own R) {idx ci k : Nat} (hF : FL own idx ci k) {i n : Nat} (hi : AC L i ci n) (h9 : ci < 9) {v : Value} (hv : (FA i (M i))[k]? = some v) (hd : decode cc pc = .ok (.getfield idx, 3)) (kk : WP x L (pc + 3) lo (v :: st) M) : WP x L pc lo (.ref i :: st) M := by
  obtain ⟨p, l, e, R', s, m, args, below, meth, c, A, QQ, D, cs, ad, kc, ks⟩ := x
  obtain ⟨hR, hx, hb, hml, hown, hts, hnw, hlk, hA, hK, hnd, hkc, hks⟩ := X
  intro H locs ls hP hD hS hl
  obtain ⟨C, T, N, hc, hk, hT, hin, hlk2⟩ := hF
  obtain ⟨q, -, hq⟩ := WL_get (ad := ad) (cs := cs) (M := M) hi.1
  rw [EA_o hi.2.1 h9] at hq
  have hv' : ((FA i (M i)).map (CV ad))[k]? = some (CV ad v) := by rw [List.getElem?_map, hv]; rfl
  rcases hlk2 with h | ⟨host, h⟩
  · exact va_get hx hb hts hin hown hK hP q hq hc k hk (hts _ h) (fun _ h9 => by rw [hT] at h9; exact h9) hv' hd (kk H locs ls hP hD hS hl)
  · exact va_getN hx hb hts hin hown hK hP q hq hc k hk (va_Nw.use rfl (hnw _ h)) (fun _ h9 => by rw [hT] at h9; exact h9) hv' hd (kk H locs ls hP hD hS hl)
theorem wp_put {x : CT} {L : List Nat} {cc : ByteArray} {nL : Nat} {own : String} {R : Room} {pc : Nat} {lo : List (Option Value)} {st : List Value} {M : Mem} (X : BS x L cc nL own R) {idx ci k : Nat} (hF : FL own idx ci k) (hF2 : FP' ci k) {i n : Nat} (hi : AC L i ci n) (h9 : ci < 9) {v : Int32} (hl2 : k < (FA i (M i)).length) (hv : (FA i (M i)).set k (.int v) = FA i (upd (M i) k v)) (hd : decode cc pc = .ok (.putfield idx, 3)) (kk : WP x L (pc + 3) lo st (MU M i k v)) : WP x L pc lo (.int v :: .ref i :: st) M := by
  obtain ⟨p, l, e, R', s, m, args, below, meth, c, A, QQ, D, cs, ad, kc, ks⟩ := x
  obtain ⟨hR, hx, hb, hml, hown, hts, hnw, hlk, hA, hK, hnd, hkc, hks⟩ := X
  intro H locs ls hP hD hS hl
  obtain ⟨C, T, N, hc, hk, hT, hin, hlk2⟩ := hF
  obtain ⟨C2, T2, N2, ty0, hc2, hfin, hde, hty, hnm⟩ := hF2
  rw [hc] at hc2
  cases hc2
  obtain ⟨q, hLq, hq⟩ := WL_get (ad := ad) (cs := cs) (M := M) hi.1
  rw [EA_o hi.2.1 h9] at hq
  have hset : (WL ad cs L M).set q (ad i, .inr (ci, ((FA i (M i)).map (CV ad)).set k (.int v))) = WL ad cs L (MU M i k v) := by
    have e1 : ((FA i (M i)).map (CV ad)).set k (.int v) = (FA i (upd (M i) k v)).map (CV ad) := by rw [← hv, List.map_set]; rfl
    rw [e1, ← EA_o (cs := cs) hi.2.1 h9]
    exact WL_set hnd hLq _
  have kk2 : ∀ (H1 : Heap) (locs1 : List Loc), va_P D vwCl ((WL ad cs L M).set q (ad i, .inr (ci, ((FA i (M i)).map (CV ad)).set k (.int v)))) H1 → va_D A ((WL ad cs L M).set q (ad i, .inr (ci, ((FA i (M i)).map (CV ad)).set k (.int v)))) → va_S A s.heap H1 locs1 → W p l e R' s m args below meth c H1 locs1 kc ks QQ (F0 m (pc + 3) ls (st.map (CV ad))) := by
    rw [hset]
    exact fun H1 locs1 a1 a2 a3 => kk H1 locs1 ls a1 a2 a3 hl
  rcases hlk2 with h | ⟨host, h⟩
  · exact va_put hx hb hts hin ty0 hty hnm hown hK hP hD hS q hq hc k hk (hts _ h) (fun _ h9 => by rw [hT] at h9; exact h9) hfin hde rfl rfl (by simpa using hl2) hd kk2
  · exact va_putN hx hb hts hin ty0 hty hnm hown hK hP hD hS q hq hc k hk (va_Nw.use rfl (hnw _ h)) (fun _ h9 => by rw [hT] at h9; exact h9) hfin hde rfl rfl (by simpa using hl2) hd kk2
theorem wp_iald {x : CT} {L : List Nat} {cc : ByteArray} {nL : Nat} {own : String} {R : Room} {pc : Nat} {lo : List (Option Value)} {st : List Value} {M : Mem} (X : BS x L cc nL own R) {i n : Nat} (hi : AC L i 9 n) {j : Int32} (hj : vp_in j n) (hd : decode cc pc = .ok (.iaload, 1)) (kk : WP x L (pc + 1) lo (.int (M i j.toNatClampNeg) :: st) M) : WP x L pc lo (.int j :: .ref i :: st) M := by
  obtain ⟨p, l, e, R', s, m, args, below, meth, c, A, QQ, D, cs, ad, kc, ks⟩ := x
  obtain ⟨hR, hx, hb, hml, hown, hts, hnw, hlk, hA, hK, hnd, hkc, hks⟩ := X
  intro H locs ls hP hD hS hl
  obtain ⟨q, -, hq⟩ := WL_get (ad := ad) (cs := cs) (M := M) hi.1
  rw [EA_i hi.2.1, hi.2.2] at hq
  exact va_iald hx hb hK hP q 0 hq rfl hj hd (kk H locs ls hP hD hS hl)
theorem wp_iast {x : CT} {L : List Nat} {cc : ByteArray} {nL : Nat} {own : String} {R : Room} {pc : Nat} {lo : List (Option Value)} {st : List Value} {M : Mem} (X : BS x L cc nL own R) {i n : Nat} (hi : AC L i 9 n) {j v : Int32} (hj : vp_in j n) (hd : decode cc pc = .ok (.iastore, 1)) (kk : WP x L (pc + 1) lo st (MU M i j.toNatClampNeg v)) : WP x L pc lo (.int v :: .int j :: .ref i :: st) M := by
  obtain ⟨p, l, e, R', s, m, args, below, meth, c, A, QQ, D, cs, ad, kc, ks⟩ := x
  obtain ⟨hR, hx, hb, hml, hown, hts, hnw, hlk, hA, hK, hnd, hkc, hks⟩ := X
  intro H locs ls hP hD hS hl
  obtain ⟨q, hLq, hq⟩ := WL_get (ad := ad) (cs := cs) (M := M) hi.1
  rw [EA_i hi.2.1, hi.2.2] at hq
  have hset : (WL ad cs L M).set q (ad i, .inl (cs.1, n, .inl (upd (M i) j.toNatClampNeg v))) = WL ad cs L (MU M i j.toNatClampNeg v) := by
    rw [← hi.2.2, ← EA_i (ad := ad) (cs := cs) hi.2.1]
    exact WL_set hnd hLq _
  refine va_iast hx hb hK hP hD hS q 0 hq rfl hj hd ?_
  rw [hset]
  exact fun H1 locs1 a1 a2 a3 => kk H1 locs1 ls a1 a2 a3 hl
theorem wn_iald {x : CT} {L : List Nat} {cc : ByteArray} {nL : Nat} {own : String} {R : Room} {pc : Nat} {lo : List (Option Value)} {st : List Value} {M : Mem} (X : BS x L cc nL own R) {i n : Nat} (hi : AC L i 9 n) {j : Nat} (hj : j < n) (hn : n < 2 ^ 31) (hd : decode cc pc = .ok (.iaload, 1)) (kk : WP x L (pc + 1) lo (.int (M i j) :: st) M) : WP x L pc lo (.int (nI j) :: .ref i :: st) M := wp_iald X hi (vp_in_nI hj hn) hd (by rw [nI_clamp (Nat.lt_trans hj hn)]; exact kk)
theorem wn_iast {x : CT} {L : List Nat} {cc : ByteArray} {nL : Nat} {own : String} {R : Room} {pc : Nat} {lo : List (Option Value)} {st : List Value} {M : Mem} (X : BS x L cc nL own R) {i n : Nat} (hi : AC L i 9 n) {j : Nat} {v : Int32} (hj : j < n) (hn : n < 2 ^ 31) (hd : decode cc pc = .ok (.iastore, 1)) (kk : WP x L (pc + 1) lo st (MU M i j v)) : WP x L pc lo (.int v :: .int (nI j) :: .ref i :: st) M := wp_iast X hi (vp_in_nI hj hn) hd (by rw [nI_clamp (Nat.lt_trans hj hn)]; exact kk)
theorem EA_l {ad : Nat → Nat} {cs : ClassId × ClassId × ClassId} {i : Nat} {r : Nat → Int32} (h : KD i = 10) : EA ad cs i r = .inl (cs.2.1, 4, .inr (.inr (.inr (.inr (fun l => some (ad (i + 10 + 3 * l))))))) := by
  unfold EA
  rw [if_neg (by omega), if_pos h]
theorem EA_r {ad : Nat → Nat} {cs : ClassId × ClassId × ClassId} {i : Nat} {r : Nat → Int32} (h : KD i = 11) : EA ad cs i r = .inl (cs.2.2, 4, .inr (.inr (.inr (.inr (fun l => some (ad (i + 1 + 23 * l))))))) := by
  unfold EA
  rw [if_neg (by omega), if_neg (by omega), if_pos h]
theorem wn_aaldl {x : CT} {L : List Nat} {cc : ByteArray} {nL : Nat} {own : String} {R : Room} {pc : Nat} {lo : List (Option Value)} {st : List Value} {M : Mem} (X : BS x L cc nL own R) {i n : Nat} (hi : AC L i 10 n) {j : Nat} (hj : j < 4) (hd : decode cc pc = .ok (.aaload, 1)) (kk : WP x L (pc + 1) lo (.ref (i + 10 + 3 * j) :: st) M) : WP x L pc lo (.int (nI j) :: .ref i :: st) M := by
  obtain ⟨p, l, e, R', s, m, args, below, meth, c, A, QQ, D, cs, ad, kc, ks⟩ := x
  obtain ⟨hR, hx, hb, hml, hown, hts, hnw, hlk, hA, hK, hnd, hkc, hks⟩ := X
  intro H locs ls hP hD hS hl
  obtain ⟨q, -, hq⟩ := WL_get (ad := ad) (cs := cs) (M := M) hi.1
  rw [EA_l hi.2.1] at hq
  refine va_aldq hx hb hK hP q 1 hq rfl (vp_in_nI hj (by decide)) hd ?_
  rw [nI_clamp (by omega)]
  exact kk H locs ls hP hD hS hl
theorem wn_aaldr {x : CT} {L : List Nat} {cc : ByteArray} {nL : Nat} {own : String} {R : Room} {pc : Nat} {lo : List (Option Value)} {st : List Value} {M : Mem} (X : BS x L cc nL own R) {i n : Nat} (hi : AC L i 11 n) {j : Nat} (hj : j < 4) (hd : decode cc pc = .ok (.aaload, 1)) (kk : WP x L (pc + 1) lo (.ref (i + 1 + 23 * j) :: st) M) : WP x L pc lo (.int (nI j) :: .ref i :: st) M := by
  obtain ⟨p, l, e, R', s, m, args, below, meth, c, A, QQ, D, cs, ad, kc, ks⟩ := x
  obtain ⟨hR, hx, hb, hml, hown, hts, hnw, hlk, hA, hK, hnd, hkc, hks⟩ := X
  intro H locs ls hP hD hS hl
  obtain ⟨q, -, hq⟩ := WL_get (ad := ad) (cs := cs) (M := M) hi.1
  rw [EA_r hi.2.1] at hq
  refine va_aldq hx hb hK hP q 2 hq rfl (vp_in_nI hj (by decide)) hd ?_
  rw [nI_clamp (by omega)]
  exact kk H locs ls hP hD hS hl
theorem wp_iret {x : CT} {L : List Nat} {cc : ByteArray} {nL : Nat} {own : String} {R : Room} {pc : Nat} {lo : List (Option Value)} {M : Mem} (X : BS x L cc nL own R) {Q : Int32 → Mem → Prop} (T : RT x L (some .int) Q) {v : Int32} (hd : decode cc pc = .ok (.ireturn, 1)) (h : Q v M) : WP x L pc lo [.int v] M := by
  obtain ⟨p, l, e, R', s, m, args, below, meth, c, A, QQ, D, cs, ad, kc, ks⟩ := x
  obtain ⟨hR, hx, hb, hml, hown, hts, hnw, hlk, hA, hK, hnd, hkc, hks⟩ := X
  intro H locs ls hP hD hS hl
  obtain ⟨hr, rfl, rfl, rfl⟩ := T
  exact W.iret hx hb hr (fun t ht hW => ⟨⟨v, M, rfl, h, by rw [ht]; exact hP, va_K.moved hW.alike hK, hD⟩, hS.F ht⟩) hS.2.2 hd hlk
theorem wp_zret {x : CT} {L : List Nat} {cc : ByteArray} {nL : Nat} {own : String} {R : Room} {pc : Nat} {lo : List (Option Value)} {M : Mem} (X : BS x L cc nL own R) {Q : Int32 → Mem → Prop} (T : RT x L (some .boolean) Q) {v : Int32} (hv : v = 0 ∨ v = 1) (hd : decode cc pc = .ok (.ireturn, 1)) (h : Q v M) : WP x L pc lo [.int v] M := by
  obtain ⟨p, l, e, R', s, m, args, below, meth, c, A, QQ, D, cs, ad, kc, ks⟩ := x
  obtain ⟨hR, hx, hb, hml, hown, hts, hnw, hlk, hA, hK, hnd, hkc, hks⟩ := X
  intro H locs ls hP hD hS hl
  obtain ⟨hr, rfl, rfl, rfl⟩ := T
  exact W.zret hx hb hr (by rcases hv with rfl | rfl <;> rfl) (fun t ht hW => ⟨⟨v, M, rfl, h, by rw [ht]; exact hP, va_K.moved hW.alike hK, hD⟩, hS.F ht⟩) hS.2.2 hd hlk
theorem wp_ret {x : CT} {L : List Nat} {cc : ByteArray} {nL : Nat} {own : String} {R : Room} {pc : Nat} {lo : List (Option Value)} {M : Mem} (X : BS x L cc nL own R) {Q : Int32 → Mem → Prop} (T : RT x L none Q) (hd : decode cc pc = .ok (.return_, 1)) (h : Q 0 M) : WP x L pc lo [] M := by
  obtain ⟨p, l, e, R', s, m, args, below, meth, c, A, QQ, D, cs, ad, kc, ks⟩ := x
  obtain ⟨hR, hx, hb, hml, hown, hts, hnw, hlk, hA, hK, hnd, hkc, hks⟩ := X
  intro H locs ls hP hD hS hl
  obtain ⟨hr, rfl, rfl, rfl⟩ := T
  exact W.vret hx hb hr (fun t ht hW => ⟨⟨M, rfl, h, by rw [ht]; exact hP, va_K.moved hW.alike hK, hD⟩, hS.F ht⟩) hS.2.2 hd hlk
