/-! the law: its loop -/
def XB (x : CT) (N : Nat) (xs : Nat → Int32) : Prop := match x with
  | (_, _, _, _, s, _, _, _, _, _, A, _, _, _, ad, _, _) => va_X (ad 143) N xs s s.heap ∧ ad 143 < s.heap.size ∧ ¬ A (ad 143)
theorem wp_sld {x : CT} {L : List Nat} {cc : ByteArray} {nL : Nat} {own : String} {R : Room} {pc : Nat} {lo : List (Option Value)} {st : List Value} {M : Mem} (X : BS x L cc nL own R) {N : Nat} {xs : Nat → Int32} (B : XB x N xs) {j : Nat} (hj : j < N) (hN : N < 2 ^ 31) (hd : decode cc pc = .ok (.iaload, 1)) (kk : WP x L (pc + 1) lo (.int (xs j) :: st) M) : WP x L pc lo (.int (nI j) :: .ref 143 :: st) M := by
  obtain ⟨p, l, e, R', s, m, args, below, meth, c, A, QQ, D, cs, ad, kc, ks⟩ := x
  obtain ⟨hR, hx, hb, hml, hown, hts, hnw, hlk, hA, hK, hnd, hkc, hks⟩ := X
  obtain ⟨b1, b2, b3⟩ := B
  intro H locs ls hP hD hS hl
  refine va_sld hx hb b1 b2 b3 hS (vp_in_nI hj hN) hd ?_
  rw [nI_clamp (Nat.lt_trans hj hN)]
  exact kk H locs ls hP hD hS hl
theorem wp_slen {x : CT} {L : List Nat} {cc : ByteArray} {nL : Nat} {own : String} {R : Room} {pc : Nat} {lo : List (Option Value)} {st : List Value} {M : Mem} (X : BS x L cc nL own R) {N : Nat} {xs : Nat → Int32} (B : XB x N xs) (hd : decode cc pc = .ok (.arraylength, 1)) (kk : WP x L (pc + 1) lo (.int (nI N) :: st) M) : WP x L pc lo (.ref 143 :: st) M := by
  obtain ⟨p, l, e, R', s, m, args, below, meth, c, A, QQ, D, cs, ad, kc, ks⟩ := x
  obtain ⟨hR, hx, hb, hml, hown, hts, hnw, hlk, hA, hK, hnd, hkc, hks⟩ := X
  obtain ⟨b1, b2, b3⟩ := B
  intro H locs ls hP hD hS hl
  exact va_slen hx hb b1 b2 b3 hS hd (kk H locs ls hP hD hS hl)
theorem lw_write {x : CT} {N : Nat} {xs : Nat → Int32} (X : BS x LF cL_law 4 RL room_1) (B : XB x N xs) (hN : N ≤ 2048) {k cn : Nat} {M : Mem} (hk : k + 4 ≤ N) (hcn : cn < 2 ^ 29) (hR : Rel M cn) (next : ∀ M2, Rel M2 (cn + 1) → WP x LF 567 [some (.ref 143), some (.ref 0), some (.ref 139), some (.int (nI k))] [] M2) : WP x LF 116 [some (.ref 143), some (.ref 0), some (.ref 139), some (.int (nI k))] [] M := by
  refine wp_aload_n (pc := 116) X dL_law_116 rfl rfl ?_
  refine wp_aload_n (pc := 117) X dL_law_117 rfl rfl ?_
  refine wp_iload_n (pc := 118) X dL_law_118 rfl rfl ?_
  refine wp_iconst (pc := 119) (v := nI 1) X dL_law_119 (by decide) ?_
  refine wn_iadd (pc := 120) X dL_law_120 ?_
  refine wp_sld (pc := 121) X B (by omega) (by omega) dL_law_121 ?_
  refine wp_invV (pc := 122) X sv_L_13 ac_0 (by decide) rfl ⟨by decide, by decide⟩ (As := [.int (xs (k + 1))]) (st := []) rfl rfl (Nat.le_of_ble_eq_true rfl) dL_law_122 ?_
  refine CM.mono (A_write (xs (k + 1)) M cn hcn hR) (fun r1 M1 h => ?_)
  refine wp_aload_n (pc := 125) X dL_law_125 rfl rfl ?_
  refine wp_aload_n (pc := 126) X dL_law_126 rfl rfl ?_
  refine wp_iload_n (pc := 127) X dL_law_127 rfl rfl ?_
  refine wp_iconst (pc := 128) (v := nI 1) X dL_law_128 (by decide) ?_
  refine wn_iadd (pc := 129) X dL_law_129 ?_
  refine wp_sld (pc := 130) X B (by omega) (by omega) dL_law_130 ?_
  refine wp_invV (pc := 131) X sv_L_17 ac_139 (by decide) rfl ⟨by decide, by decide⟩ (As := [.int (xs (k + 1))]) (st := [.int r1]) rfl rfl (Nat.le_of_ble_eq_true rfl) dL_law_131 ?_
  refine CM.mono h (fun r2 M2 h => ?_)
  obtain ⟨h, hR2⟩ := h
  exact wp_icmp_eq (pc := 134) (tgt := 567) X dL_law_134 (by decide) (fun _ => next M2 hR2) (fun q => absurd h q)
theorem lw_wipe {x : CT} {N : Nat} {xs : Nat → Int32} (X : BS x LF cL_law 4 RL room_1) (B : XB x N xs) (hN : N ≤ 2048) {k cn : Nat} {M : Mem} (hk : k + 4 ≤ N) (hcn : cn < 2 ^ 29) (hR : Rel M cn) (next : ∀ M2, Rel M2 (cn + 1) → WP x LF 567 [some (.ref 143), some (.ref 0), some (.ref 139), some (.int (nI k))] [] M2) : WP x LF 139 [some (.ref 143), some (.ref 0), some (.ref 139), some (.int (nI k))] [] M := by
  refine wp_aload_n (pc := 139) X dL_law_139 rfl rfl ?_
  refine wp_invV (pc := 140) X sv_L_18 ac_0 (by decide) rfl ⟨by decide, by decide⟩ (As := []) (st := []) rfl rfl (Nat.le_of_ble_eq_true rfl) dL_law_140 ?_
  refine CM.mono (A_wipe  M cn hcn hR) (fun r1 M1 h => ?_)
  refine wp_aload_n (pc := 143) X dL_law_143 rfl rfl ?_
  refine wp_invV (pc := 144) X sv_L_22 ac_139 (by decide) rfl ⟨by decide, by decide⟩ (As := []) (st := [.int r1]) rfl rfl (Nat.le_of_ble_eq_true rfl) dL_law_144 ?_
  refine CM.mono h (fun r2 M2 h => ?_)
  obtain ⟨h, hR2⟩ := h
  exact wp_icmp_eq (pc := 147) (tgt := 567) X dL_law_147 (by decide) (fun _ => next M2 hR2) (fun q => absurd h q)
theorem lw_fault {x : CT} {N : Nat} {xs : Nat → Int32} (X : BS x LF cL_law 4 RL room_1) (B : XB x N xs) (hN : N ≤ 2048) {k cn : Nat} {M : Mem} (hk : k + 4 ≤ N) (hcn : cn < 2 ^ 29) (hR : Rel M cn) (next : ∀ M2, Rel M2 (cn + 1) → WP x LF 567 [some (.ref 143), some (.ref 0), some (.ref 139), some (.int (nI k))] [] M2) : WP x LF 152 [some (.ref 143), some (.ref 0), some (.ref 139), some (.int (nI k))] [] M := by
  refine wp_aload_n (pc := 152) X dL_law_152 rfl rfl ?_
  refine wp_invV (pc := 153) X sv_L_23 ac_0 (by decide) rfl ⟨by decide, by decide⟩ (As := []) (st := []) rfl rfl (Nat.le_of_ble_eq_true rfl) dL_law_153 ?_
  refine CM.mono (A_fault  M cn hcn hR) (fun r1 M1 h => ?_)
  refine wp_aload_n (pc := 156) X dL_law_156 rfl rfl ?_
  refine wp_invV (pc := 157) X sv_L_26 ac_139 (by decide) rfl ⟨by decide, by decide⟩ (As := []) (st := [.int r1]) rfl rfl (Nat.le_of_ble_eq_true rfl) dL_law_157 ?_
  refine CM.mono h (fun r2 M2 h => ?_)
  obtain ⟨h, hR2⟩ := h
  exact wp_icmp_eq (pc := 160) (tgt := 567) X dL_law_160 (by decide) (fun _ => next M2 hR2) (fun q => absurd h q)
theorem lw_lay {x : CT} {N : Nat} {xs : Nat → Int32} (X : BS x LF cL_law 4 RL room_1) (B : XB x N xs) (hN : N ≤ 2048) {k cn : Nat} {M : Mem} (hk : k + 4 ≤ N) (hcn : cn < 2 ^ 29) (hR : Rel M cn) (next : ∀ M2, Rel M2 (cn + 1) → WP x LF 567 [some (.ref 143), some (.ref 0), some (.ref 139), some (.int (nI k))] [] M2) : WP x LF 165 [some (.ref 143), some (.ref 0), some (.ref 139), some (.int (nI k))] [] M := by
  refine wp_aload_n (pc := 165) X dL_law_165 rfl rfl ?_
  refine wp_invV (pc := 166) X sv_L_27 ac_0 (by decide) rfl ⟨by decide, by decide⟩ (As := []) (st := []) rfl rfl (Nat.le_of_ble_eq_true rfl) dL_law_166 ?_
  refine CM.mono (A_lay  M cn hcn hR) (fun r1 M1 h => ?_)
  refine wp_aload_n (pc := 169) X dL_law_169 rfl rfl ?_
  refine wp_invV (pc := 170) X sv_L_30 ac_139 (by decide) rfl ⟨by decide, by decide⟩ (As := []) (st := [.int r1]) rfl rfl (Nat.le_of_ble_eq_true rfl) dL_law_170 ?_
  refine CM.mono h (fun r2 M2 h => ?_)
  obtain ⟨h, hR2⟩ := h
  exact wp_icmp_eq (pc := 173) (tgt := 567) X dL_law_173 (by decide) (fun _ => next M2 hR2) (fun q => absurd h q)
theorem lw_tick {x : CT} {N : Nat} {xs : Nat → Int32} (X : BS x LF cL_law 4 RL room_1) (B : XB x N xs) (hN : N ≤ 2048) {k cn : Nat} {M : Mem} (hk : k + 4 ≤ N) (hcn : cn < 2 ^ 29) (hR : Rel M cn) (next : ∀ M2, Rel M2 (cn + 1) → WP x LF 567 [some (.ref 143), some (.ref 0), some (.ref 139), some (.int (nI k))] [] M2) : WP x LF 178 [some (.ref 143), some (.ref 0), some (.ref 139), some (.int (nI k))] [] M := by
  refine wp_aload_n (pc := 178) X dL_law_178 rfl rfl ?_
  refine wp_aload_n (pc := 179) X dL_law_179 rfl rfl ?_
  refine wp_iload_n (pc := 180) X dL_law_180 rfl rfl ?_
  refine wp_iconst (pc := 181) (v := nI 1) X dL_law_181 (by decide) ?_
  refine wn_iadd (pc := 182) X dL_law_182 ?_
  refine wp_sld (pc := 183) X B (by omega) (by omega) dL_law_183 ?_
  refine wp_invV (pc := 184) X sv_L_31 ac_0 (by decide) rfl ⟨by decide, by decide⟩ (As := [.int (xs (k + 1))]) (st := []) rfl rfl (Nat.le_of_ble_eq_true rfl) dL_law_184 ?_
  refine CM.mono (A_tick (xs (k + 1)) M cn hcn hR) (fun r1 M1 h => ?_)
  refine wp_aload_n (pc := 187) X dL_law_187 rfl rfl ?_
  refine wp_aload_n (pc := 188) X dL_law_188 rfl rfl ?_
  refine wp_iload_n (pc := 189) X dL_law_189 rfl rfl ?_
  refine wp_iconst (pc := 190) (v := nI 1) X dL_law_190 (by decide) ?_
  refine wn_iadd (pc := 191) X dL_law_191 ?_
  refine wp_sld (pc := 192) X B (by omega) (by omega) dL_law_192 ?_
  refine wp_invV (pc := 193) X sv_L_34 ac_139 (by decide) rfl ⟨by decide, by decide⟩ (As := [.int (xs (k + 1))]) (st := [.int r1]) rfl rfl (Nat.le_of_ble_eq_true rfl) dL_law_193 ?_
  refine CM.mono h (fun r2 M2 h => ?_)
  obtain ⟨h, hR2⟩ := h
  exact wp_icmp_eq (pc := 196) (tgt := 567) X dL_law_196 (by decide) (fun _ => next M2 hR2) (fun q => absurd h q)
theorem lw_renew {x : CT} {N : Nat} {xs : Nat → Int32} (X : BS x LF cL_law 4 RL room_1) (B : XB x N xs) (hN : N ≤ 2048) {k cn : Nat} {M : Mem} (hk : k + 4 ≤ N) (hcn : cn < 2 ^ 29) (hR : Rel M cn) (next : ∀ M2, Rel M2 (cn + 1) → WP x LF 567 [some (.ref 143), some (.ref 0), some (.ref 139), some (.int (nI k))] [] M2) : WP x LF 201 [some (.ref 143), some (.ref 0), some (.ref 139), some (.int (nI k))] [] M := by
  refine wp_aload_n (pc := 201) X dL_law_201 rfl rfl ?_
  refine wp_aload_n (pc := 202) X dL_law_202 rfl rfl ?_
  refine wp_iload_n (pc := 203) X dL_law_203 rfl rfl ?_
  refine wp_iconst (pc := 204) (v := nI 1) X dL_law_204 (by decide) ?_
  refine wn_iadd (pc := 205) X dL_law_205 ?_
  refine wp_sld (pc := 206) X B (by omega) (by omega) dL_law_206 ?_
  refine wp_invV (pc := 207) X sv_L_35 ac_0 (by decide) rfl ⟨by decide, by decide⟩ (As := [.int (xs (k + 1))]) (st := []) rfl rfl (Nat.le_of_ble_eq_true rfl) dL_law_207 ?_
  refine CM.mono (A_renew (xs (k + 1)) M cn hcn hR) (fun r1 M1 h => ?_)
  refine wp_aload_n (pc := 210) X dL_law_210 rfl rfl ?_
  refine wp_aload_n (pc := 211) X dL_law_211 rfl rfl ?_
  refine wp_iload_n (pc := 212) X dL_law_212 rfl rfl ?_
  refine wp_iconst (pc := 213) (v := nI 1) X dL_law_213 (by decide) ?_
  refine wn_iadd (pc := 214) X dL_law_214 ?_
  refine wp_sld (pc := 215) X B (by omega) (by omega) dL_law_215 ?_
  refine wp_invV (pc := 216) X sv_L_38 ac_139 (by decide) rfl ⟨by decide, by decide⟩ (As := [.int (xs (k + 1))]) (st := [.int r1]) rfl rfl (Nat.le_of_ble_eq_true rfl) dL_law_216 ?_
  refine CM.mono h (fun r2 M2 h => ?_)
  obtain ⟨h, hR2⟩ := h
  exact wp_icmp_eq (pc := 219) (tgt := 567) X dL_law_219 (by decide) (fun _ => next M2 hR2) (fun q => absurd h q)
theorem lw_weigh {x : CT} {N : Nat} {xs : Nat → Int32} (X : BS x LF cL_law 4 RL room_1) (B : XB x N xs) (hN : N ≤ 2048) {k cn : Nat} {M : Mem} (hk : k + 4 ≤ N) (hcn : cn < 2 ^ 29) (hR : Rel M cn) (next : ∀ M2, Rel M2 (cn + 1) → WP x LF 567 [some (.ref 143), some (.ref 0), some (.ref 139), some (.int (nI k))] [] M2) : WP x LF 224 [some (.ref 143), some (.ref 0), some (.ref 139), some (.int (nI k))] [] M := by
  refine wp_aload_n (pc := 224) X dL_law_224 rfl rfl ?_
  refine wp_aload_n (pc := 225) X dL_law_225 rfl rfl ?_
  refine wp_iload_n (pc := 226) X dL_law_226 rfl rfl ?_
  refine wp_iconst (pc := 227) (v := nI 1) X dL_law_227 (by decide) ?_
  refine wn_iadd (pc := 228) X dL_law_228 ?_
  refine wp_sld (pc := 229) X B (by omega) (by omega) dL_law_229 ?_
  refine wp_aload_n (pc := 230) X dL_law_230 rfl rfl ?_
  refine wp_iload_n (pc := 231) X dL_law_231 rfl rfl ?_
  refine wp_iconst (pc := 232) (v := nI 2) X dL_law_232 (by decide) ?_
  refine wn_iadd (pc := 233) X dL_law_233 ?_
  refine wp_sld (pc := 234) X B (by omega) (by omega) dL_law_234 ?_
  refine wp_invV (pc := 235) X sv_L_39 ac_0 (by decide) rfl ⟨by decide, by decide⟩ (As := [.int (xs (k + 1)), .int (xs (k + 2))]) (st := []) rfl rfl (Nat.le_of_ble_eq_true rfl) dL_law_235 ?_
  refine CM.mono (A_weigh (xs (k + 1)) (xs (k + 2)) M cn hcn hR) (fun r1 M1 h => ?_)
  refine wp_aload_n (pc := 238) X dL_law_238 rfl rfl ?_
  refine wp_aload_n (pc := 239) X dL_law_239 rfl rfl ?_
  refine wp_iload_n (pc := 240) X dL_law_240 rfl rfl ?_
  refine wp_iconst (pc := 241) (v := nI 1) X dL_law_241 (by decide) ?_
  refine wn_iadd (pc := 242) X dL_law_242 ?_
  refine wp_sld (pc := 243) X B (by omega) (by omega) dL_law_243 ?_
  refine wp_aload_n (pc := 244) X dL_law_244 rfl rfl ?_
  refine wp_iload_n (pc := 245) X dL_law_245 rfl rfl ?_
  refine wp_iconst (pc := 246) (v := nI 2) X dL_law_246 (by decide) ?_
  refine wn_iadd (pc := 247) X dL_law_247 ?_
  refine wp_sld (pc := 248) X B (by omega) (by omega) dL_law_248 ?_
  refine wp_invV (pc := 249) X sv_L_43 ac_139 (by decide) rfl ⟨by decide, by decide⟩ (As := [.int (xs (k + 1)), .int (xs (k + 2))]) (st := [.int r1]) rfl rfl (Nat.le_of_ble_eq_true rfl) dL_law_249 ?_
  refine CM.mono h (fun r2 M2 h => ?_)
  obtain ⟨h, hR2⟩ := h
  exact wp_icmp_eq (pc := 252) (tgt := 567) X dL_law_252 (by decide) (fun _ => next M2 hR2) (fun q => absurd h q)
theorem lw_join {x : CT} {N : Nat} {xs : Nat → Int32} (X : BS x LF cL_law 4 RL room_1) (B : XB x N xs) (hN : N ≤ 2048) {k cn : Nat} {M : Mem} (hk : k + 4 ≤ N) (hcn : cn < 2 ^ 29) (hR : Rel M cn) (next : ∀ M2, Rel M2 (cn + 1) → WP x LF 567 [some (.ref 143), some (.ref 0), some (.ref 139), some (.int (nI k))] [] M2) : WP x LF 257 [some (.ref 143), some (.ref 0), some (.ref 139), some (.int (nI k))] [] M := by
  refine wp_aload_n (pc := 257) X dL_law_257 rfl rfl ?_
  refine wp_aload_n (pc := 258) X dL_law_258 rfl rfl ?_
  refine wp_iload_n (pc := 259) X dL_law_259 rfl rfl ?_
  refine wp_iconst (pc := 260) (v := nI 1) X dL_law_260 (by decide) ?_
  refine wn_iadd (pc := 261) X dL_law_261 ?_
  refine wp_sld (pc := 262) X B (by omega) (by omega) dL_law_262 ?_
  refine wp_invV (pc := 263) X sv_L_44 ac_0 (by decide) rfl ⟨by decide, by decide⟩ (As := [.int (xs (k + 1))]) (st := []) rfl rfl (Nat.le_of_ble_eq_true rfl) dL_law_263 ?_
  refine CM.mono (A_join (xs (k + 1)) M cn hcn hR) (fun r1 M1 h => ?_)
  refine wp_aload_n (pc := 266) X dL_law_266 rfl rfl ?_
  refine wp_aload_n (pc := 267) X dL_law_267 rfl rfl ?_
  refine wp_iload_n (pc := 268) X dL_law_268 rfl rfl ?_
  refine wp_iconst (pc := 269) (v := nI 1) X dL_law_269 (by decide) ?_
  refine wn_iadd (pc := 270) X dL_law_270 ?_
  refine wp_sld (pc := 271) X B (by omega) (by omega) dL_law_271 ?_
  refine wp_invV (pc := 272) X sv_L_47 ac_139 (by decide) rfl ⟨by decide, by decide⟩ (As := [.int (xs (k + 1))]) (st := [.int r1]) rfl rfl (Nat.le_of_ble_eq_true rfl) dL_law_272 ?_
  refine CM.mono h (fun r2 M2 h => ?_)
  obtain ⟨h, hR2⟩ := h
  exact wp_icmp_eq (pc := 275) (tgt := 567) X dL_law_275 (by decide) (fun _ => next M2 hR2) (fun q => absurd h q)
theorem lw_repair {x : CT} {N : Nat} {xs : Nat → Int32} (X : BS x LF cL_law 4 RL room_1) (B : XB x N xs) (hN : N ≤ 2048) {k cn : Nat} {M : Mem} (hk : k + 4 ≤ N) (hcn : cn < 2 ^ 29) (hR : Rel M cn) (next : ∀ M2, Rel M2 (cn + 1) → WP x LF 567 [some (.ref 143), some (.ref 0), some (.ref 139), some (.int (nI k))] [] M2) : WP x LF 280 [some (.ref 143), some (.ref 0), some (.ref 139), some (.int (nI k))] [] M := by
  refine wp_aload_n (pc := 280) X dL_law_280 rfl rfl ?_
  refine wp_aload_n (pc := 281) X dL_law_281 rfl rfl ?_
  refine wp_iload_n (pc := 282) X dL_law_282 rfl rfl ?_
  refine wp_iconst (pc := 283) (v := nI 1) X dL_law_283 (by decide) ?_
  refine wn_iadd (pc := 284) X dL_law_284 ?_
  refine wp_sld (pc := 285) X B (by omega) (by omega) dL_law_285 ?_
  refine wp_aload_n (pc := 286) X dL_law_286 rfl rfl ?_
  refine wp_iload_n (pc := 287) X dL_law_287 rfl rfl ?_
  refine wp_iconst (pc := 288) (v := nI 2) X dL_law_288 (by decide) ?_
  refine wn_iadd (pc := 289) X dL_law_289 ?_
  refine wp_sld (pc := 290) X B (by omega) (by omega) dL_law_290 ?_
  refine wp_invV (pc := 291) X sv_L_48 ac_0 (by decide) rfl ⟨by decide, by decide⟩ (As := [.int (xs (k + 1)), .int (xs (k + 2))]) (st := []) rfl rfl (Nat.le_of_ble_eq_true rfl) dL_law_291 ?_
  refine CM.mono (A_repair (xs (k + 1)) (xs (k + 2)) M cn hcn hR) (fun r1 M1 h => ?_)
  refine wp_aload_n (pc := 294) X dL_law_294 rfl rfl ?_
  refine wp_aload_n (pc := 295) X dL_law_295 rfl rfl ?_
  refine wp_iload_n (pc := 296) X dL_law_296 rfl rfl ?_
  refine wp_iconst (pc := 297) (v := nI 1) X dL_law_297 (by decide) ?_
  refine wn_iadd (pc := 298) X dL_law_298 ?_
  refine wp_sld (pc := 299) X B (by omega) (by omega) dL_law_299 ?_
  refine wp_aload_n (pc := 300) X dL_law_300 rfl rfl ?_
  refine wp_iload_n (pc := 301) X dL_law_301 rfl rfl ?_
  refine wp_iconst (pc := 302) (v := nI 2) X dL_law_302 (by decide) ?_
  refine wn_iadd (pc := 303) X dL_law_303 ?_
  refine wp_sld (pc := 304) X B (by omega) (by omega) dL_law_304 ?_
  refine wp_invV (pc := 305) X sv_L_51 ac_139 (by decide) rfl ⟨by decide, by decide⟩ (As := [.int (xs (k + 1)), .int (xs (k + 2))]) (st := [.int r1]) rfl rfl (Nat.le_of_ble_eq_true rfl) dL_law_305 ?_
  refine CM.mono h (fun r2 M2 h => ?_)
  obtain ⟨h, hR2⟩ := h
  exact wp_icmp_eq (pc := 308) (tgt := 567) X dL_law_308 (by decide) (fun _ => next M2 hR2) (fun q => absurd h q)
theorem lw_undo {x : CT} {N : Nat} {xs : Nat → Int32} (X : BS x LF cL_law 4 RL room_1) (B : XB x N xs) (hN : N ≤ 2048) {k cn : Nat} {M : Mem} (hk : k + 4 ≤ N) (hcn : cn < 2 ^ 29) (hR : Rel M cn) (next : ∀ M2, Rel M2 (cn + 1) → WP x LF 567 [some (.ref 143), some (.ref 0), some (.ref 139), some (.int (nI k))] [] M2) : WP x LF 313 [some (.ref 143), some (.ref 0), some (.ref 139), some (.int (nI k))] [] M := by
  refine wp_aload_n (pc := 313) X dL_law_313 rfl rfl ?_
  refine wp_invV (pc := 314) X sv_L_52 ac_0 (by decide) rfl ⟨by decide, by decide⟩ (As := []) (st := []) rfl rfl (Nat.le_of_ble_eq_true rfl) dL_law_314 ?_
  refine CM.mono (A_undo  M cn hcn hR) (fun r1 M1 h => ?_)
  refine wp_aload_n (pc := 317) X dL_law_317 rfl rfl ?_
  refine wp_invV (pc := 318) X sv_L_55 ac_139 (by decide) rfl ⟨by decide, by decide⟩ (As := []) (st := [.int r1]) rfl rfl (Nat.le_of_ble_eq_true rfl) dL_law_318 ?_
  refine CM.mono h (fun r2 M2 h => ?_)
  obtain ⟨h, hR2⟩ := h
  exact wp_icmp_eq (pc := 321) (tgt := 567) X dL_law_321 (by decide) (fun _ => next M2 hR2) (fun q => absurd h q)
theorem lw_file {x : CT} {N : Nat} {xs : Nat → Int32} (X : BS x LF cL_law 4 RL room_1) (B : XB x N xs) (hN : N ≤ 2048) {k cn : Nat} {M : Mem} (hk : k + 4 ≤ N) (hcn : cn < 2 ^ 29) (hR : Rel M cn) (next : ∀ M2, Rel M2 (cn + 1) → WP x LF 567 [some (.ref 143), some (.ref 0), some (.ref 139), some (.int (nI k))] [] M2) : WP x LF 326 [some (.ref 143), some (.ref 0), some (.ref 139), some (.int (nI k))] [] M := by
  refine wp_aload_n (pc := 326) X dL_law_326 rfl rfl ?_
  refine wp_aload_n (pc := 327) X dL_law_327 rfl rfl ?_
  refine wp_iload_n (pc := 328) X dL_law_328 rfl rfl ?_
  refine wp_iconst (pc := 329) (v := nI 1) X dL_law_329 (by decide) ?_
  refine wn_iadd (pc := 330) X dL_law_330 ?_
  refine wp_sld (pc := 331) X B (by omega) (by omega) dL_law_331 ?_
  refine wp_aload_n (pc := 332) X dL_law_332 rfl rfl ?_
  refine wp_iload_n (pc := 333) X dL_law_333 rfl rfl ?_
  refine wp_iconst (pc := 334) (v := nI 2) X dL_law_334 (by decide) ?_
  refine wn_iadd (pc := 335) X dL_law_335 ?_
  refine wp_sld (pc := 336) X B (by omega) (by omega) dL_law_336 ?_
  refine wp_invV (pc := 337) X sv_L_56 ac_0 (by decide) rfl ⟨by decide, by decide⟩ (As := [.int (xs (k + 1)), .int (xs (k + 2))]) (st := []) rfl rfl (Nat.le_of_ble_eq_true rfl) dL_law_337 ?_
  refine CM.mono (A_file (xs (k + 1)) (xs (k + 2)) M cn hcn hR) (fun r1 M1 h => ?_)
  refine wp_aload_n (pc := 340) X dL_law_340 rfl rfl ?_
  refine wp_aload_n (pc := 341) X dL_law_341 rfl rfl ?_
  refine wp_iload_n (pc := 342) X dL_law_342 rfl rfl ?_
  refine wp_iconst (pc := 343) (v := nI 1) X dL_law_343 (by decide) ?_
  refine wn_iadd (pc := 344) X dL_law_344 ?_
  refine wp_sld (pc := 345) X B (by omega) (by omega) dL_law_345 ?_
  refine wp_aload_n (pc := 346) X dL_law_346 rfl rfl ?_
  refine wp_iload_n (pc := 347) X dL_law_347 rfl rfl ?_
  refine wp_iconst (pc := 348) (v := nI 2) X dL_law_348 (by decide) ?_
  refine wn_iadd (pc := 349) X dL_law_349 ?_
  refine wp_sld (pc := 350) X B (by omega) (by omega) dL_law_350 ?_
  refine wp_invV (pc := 351) X sv_L_59 ac_139 (by decide) rfl ⟨by decide, by decide⟩ (As := [.int (xs (k + 1)), .int (xs (k + 2))]) (st := [.int r1]) rfl rfl (Nat.le_of_ble_eq_true rfl) dL_law_351 ?_
  refine CM.mono h (fun r2 M2 h => ?_)
  obtain ⟨h, hR2⟩ := h
  exact wp_icmp_eq (pc := 354) (tgt := 567) X dL_law_354 (by decide) (fun _ => next M2 hR2) (fun q => absurd h q)
theorem lw_sent {x : CT} {N : Nat} {xs : Nat → Int32} (X : BS x LF cL_law 4 RL room_1) (B : XB x N xs) (hN : N ≤ 2048) {k cn : Nat} {M : Mem} (hk : k + 4 ≤ N) (hcn : cn < 2 ^ 29) (hR : Rel M cn) (next : ∀ M2, Rel M2 (cn + 1) → WP x LF 567 [some (.ref 143), some (.ref 0), some (.ref 139), some (.int (nI k))] [] M2) : WP x LF 359 [some (.ref 143), some (.ref 0), some (.ref 139), some (.int (nI k))] [] M := by
  refine wp_aload_n (pc := 359) X dL_law_359 rfl rfl ?_
  refine wp_aload_n (pc := 360) X dL_law_360 rfl rfl ?_
  refine wp_iload_n (pc := 361) X dL_law_361 rfl rfl ?_
  refine wp_iconst (pc := 362) (v := nI 1) X dL_law_362 (by decide) ?_
  refine wn_iadd (pc := 363) X dL_law_363 ?_
  refine wp_sld (pc := 364) X B (by omega) (by omega) dL_law_364 ?_
  refine wp_aload_n (pc := 365) X dL_law_365 rfl rfl ?_
  refine wp_iload_n (pc := 366) X dL_law_366 rfl rfl ?_
  refine wp_iconst (pc := 367) (v := nI 2) X dL_law_367 (by decide) ?_
  refine wn_iadd (pc := 368) X dL_law_368 ?_
  refine wp_sld (pc := 369) X B (by omega) (by omega) dL_law_369 ?_
  refine wp_invV (pc := 370) X sv_L_60 ac_0 (by decide) rfl ⟨by decide, by decide⟩ (As := [.int (xs (k + 1)), .int (xs (k + 2))]) (st := []) rfl rfl (Nat.le_of_ble_eq_true rfl) dL_law_370 ?_
  refine CM.mono (A_sent (xs (k + 1)) (xs (k + 2)) M cn hcn hR) (fun r1 M1 h => ?_)
  refine wp_aload_n (pc := 373) X dL_law_373 rfl rfl ?_
  refine wp_aload_n (pc := 374) X dL_law_374 rfl rfl ?_
  refine wp_iload_n (pc := 375) X dL_law_375 rfl rfl ?_
  refine wp_iconst (pc := 376) (v := nI 1) X dL_law_376 (by decide) ?_
  refine wn_iadd (pc := 377) X dL_law_377 ?_
  refine wp_sld (pc := 378) X B (by omega) (by omega) dL_law_378 ?_
  refine wp_aload_n (pc := 379) X dL_law_379 rfl rfl ?_
  refine wp_iload_n (pc := 380) X dL_law_380 rfl rfl ?_
  refine wp_iconst (pc := 381) (v := nI 2) X dL_law_381 (by decide) ?_
  refine wn_iadd (pc := 382) X dL_law_382 ?_
  refine wp_sld (pc := 383) X B (by omega) (by omega) dL_law_383 ?_
  refine wp_invV (pc := 384) X sv_L_63 ac_139 (by decide) rfl ⟨by decide, by decide⟩ (As := [.int (xs (k + 1)), .int (xs (k + 2))]) (st := [.int r1]) rfl rfl (Nat.le_of_ble_eq_true rfl) dL_law_384 ?_
  refine CM.mono h (fun r2 M2 h => ?_)
  obtain ⟨h, hR2⟩ := h
  exact wp_icmp_eq (pc := 387) (tgt := 567) X dL_law_387 (by decide) (fun _ => next M2 hR2) (fun q => absurd h q)
theorem lw_listener {x : CT} {N : Nat} {xs : Nat → Int32} (X : BS x LF cL_law 4 RL room_1) (B : XB x N xs) (hN : N ≤ 2048) {k cn : Nat} {M : Mem} (hk : k + 4 ≤ N) (hcn : cn < 2 ^ 29) (hR : Rel M cn) (next : ∀ M2, Rel M2 (cn + 1) → WP x LF 567 [some (.ref 143), some (.ref 0), some (.ref 139), some (.int (nI k))] [] M2) : WP x LF 392 [some (.ref 143), some (.ref 0), some (.ref 139), some (.int (nI k))] [] M := by
  refine wp_aload_n (pc := 392) X dL_law_392 rfl rfl ?_
  refine wp_aload_n (pc := 393) X dL_law_393 rfl rfl ?_
  refine wp_iload_n (pc := 394) X dL_law_394 rfl rfl ?_
  refine wp_iconst (pc := 395) (v := nI 1) X dL_law_395 (by decide) ?_
  refine wn_iadd (pc := 396) X dL_law_396 ?_
  refine wp_sld (pc := 397) X B (by omega) (by omega) dL_law_397 ?_
  refine wp_aload_n (pc := 398) X dL_law_398 rfl rfl ?_
  refine wp_iload_n (pc := 399) X dL_law_399 rfl rfl ?_
  refine wp_iconst (pc := 400) (v := nI 2) X dL_law_400 (by decide) ?_
  refine wn_iadd (pc := 401) X dL_law_401 ?_
  refine wp_sld (pc := 402) X B (by omega) (by omega) dL_law_402 ?_
  refine wp_invV (pc := 403) X sv_L_64 ac_0 (by decide) rfl ⟨by decide, by decide⟩ (As := [.int (xs (k + 1)), .int (xs (k + 2))]) (st := []) rfl rfl (Nat.le_of_ble_eq_true rfl) dL_law_403 ?_
  refine CM.mono (A_listener (xs (k + 1)) (xs (k + 2)) M cn hcn hR) (fun r1 M1 h => ?_)
  refine wp_aload_n (pc := 406) X dL_law_406 rfl rfl ?_
  refine wp_aload_n (pc := 407) X dL_law_407 rfl rfl ?_
  refine wp_iload_n (pc := 408) X dL_law_408 rfl rfl ?_
  refine wp_iconst (pc := 409) (v := nI 1) X dL_law_409 (by decide) ?_
  refine wn_iadd (pc := 410) X dL_law_410 ?_
  refine wp_sld (pc := 411) X B (by omega) (by omega) dL_law_411 ?_
  refine wp_aload_n (pc := 412) X dL_law_412 rfl rfl ?_
  refine wp_iload_n (pc := 413) X dL_law_413 rfl rfl ?_
  refine wp_iconst (pc := 414) (v := nI 2) X dL_law_414 (by decide) ?_
  refine wn_iadd (pc := 415) X dL_law_415 ?_
  refine wp_sld (pc := 416) X B (by omega) (by omega) dL_law_416 ?_
  refine wp_invV (pc := 417) X sv_L_67 ac_139 (by decide) rfl ⟨by decide, by decide⟩ (As := [.int (xs (k + 1)), .int (xs (k + 2))]) (st := [.int r1]) rfl rfl (Nat.le_of_ble_eq_true rfl) dL_law_417 ?_
  refine CM.mono h (fun r2 M2 h => ?_)
  obtain ⟨h, hR2⟩ := h
  exact wp_icmp_eq (pc := 420) (tgt := 567) X dL_law_420 (by decide) (fun _ => next M2 hR2) (fun q => absurd h q)
theorem lw_holds {x : CT} {N : Nat} {xs : Nat → Int32} (X : BS x LF cL_law 4 RL room_1) (B : XB x N xs) (hN : N ≤ 2048) {k cn : Nat} {M : Mem} (hk : k + 4 ≤ N) (hcn : cn < 2 ^ 29) (hR : Rel M cn) (next : ∀ M2, Rel M2 (cn + 1) → WP x LF 567 [some (.ref 143), some (.ref 0), some (.ref 139), some (.int (nI k))] [] M2) : WP x LF 425 [some (.ref 143), some (.ref 0), some (.ref 139), some (.int (nI k))] [] M := by
  refine wp_aload_n (pc := 425) X dL_law_425 rfl rfl ?_
  refine wp_aload_n (pc := 426) X dL_law_426 rfl rfl ?_
  refine wp_iload_n (pc := 427) X dL_law_427 rfl rfl ?_
  refine wp_iconst (pc := 428) (v := nI 1) X dL_law_428 (by decide) ?_
  refine wn_iadd (pc := 429) X dL_law_429 ?_
  refine wp_sld (pc := 430) X B (by omega) (by omega) dL_law_430 ?_
  refine wp_aload_n (pc := 431) X dL_law_431 rfl rfl ?_
  refine wp_iload_n (pc := 432) X dL_law_432 rfl rfl ?_
  refine wp_iconst (pc := 433) (v := nI 2) X dL_law_433 (by decide) ?_
  refine wn_iadd (pc := 434) X dL_law_434 ?_
  refine wp_sld (pc := 435) X B (by omega) (by omega) dL_law_435 ?_
  refine wp_aload_n (pc := 436) X dL_law_436 rfl rfl ?_
  refine wp_iload_n (pc := 437) X dL_law_437 rfl rfl ?_
  refine wp_iconst (pc := 438) (v := nI 3) X dL_law_438 (by decide) ?_
  refine wn_iadd (pc := 439) X dL_law_439 ?_
  refine wp_sld (pc := 440) X B (by omega) (by omega) dL_law_440 ?_
  refine wp_invV (pc := 441) X sv_L_68 ac_0 (by decide) rfl ⟨by decide, by decide⟩ (As := [.int (xs (k + 1)), .int (xs (k + 2)), .int (xs (k + 3))]) (st := []) rfl rfl (Nat.le_of_ble_eq_true rfl) dL_law_441 ?_
  refine CM.mono (A_holds (xs (k + 1)) (xs (k + 2)) (xs (k + 3)) M cn hcn hR) (fun r1 M1 h => ?_)
  refine wp_aload_n (pc := 444) X dL_law_444 rfl rfl ?_
  refine wp_aload_n (pc := 445) X dL_law_445 rfl rfl ?_
  refine wp_iload_n (pc := 446) X dL_law_446 rfl rfl ?_
  refine wp_iconst (pc := 447) (v := nI 1) X dL_law_447 (by decide) ?_
  refine wn_iadd (pc := 448) X dL_law_448 ?_
  refine wp_sld (pc := 449) X B (by omega) (by omega) dL_law_449 ?_
  refine wp_aload_n (pc := 450) X dL_law_450 rfl rfl ?_
  refine wp_iload_n (pc := 451) X dL_law_451 rfl rfl ?_
  refine wp_iconst (pc := 452) (v := nI 2) X dL_law_452 (by decide) ?_
  refine wn_iadd (pc := 453) X dL_law_453 ?_
  refine wp_sld (pc := 454) X B (by omega) (by omega) dL_law_454 ?_
  refine wp_aload_n (pc := 455) X dL_law_455 rfl rfl ?_
  refine wp_iload_n (pc := 456) X dL_law_456 rfl rfl ?_
  refine wp_iconst (pc := 457) (v := nI 3) X dL_law_457 (by decide) ?_
  refine wn_iadd (pc := 458) X dL_law_458 ?_
  refine wp_sld (pc := 459) X B (by omega) (by omega) dL_law_459 ?_
  refine wp_invV (pc := 460) X sv_L_72 ac_139 (by decide) rfl ⟨by decide, by decide⟩ (As := [.int (xs (k + 1)), .int (xs (k + 2)), .int (xs (k + 3))]) (st := [.int r1]) rfl rfl (Nat.le_of_ble_eq_true rfl) dL_law_460 ?_
  refine CM.mono h (fun r2 M2 h => ?_)
  obtain ⟨h, hR2⟩ := h
  exact wp_icmp_eq (pc := 463) (tgt := 567) X dL_law_463 (by decide) (fun _ => next M2 hR2) (fun q => absurd h q)
theorem lw_waits {x : CT} {N : Nat} {xs : Nat → Int32} (X : BS x LF cL_law 4 RL room_1) (B : XB x N xs) (hN : N ≤ 2048) {k cn : Nat} {M : Mem} (hk : k + 4 ≤ N) (hcn : cn < 2 ^ 29) (hR : Rel M cn) (next : ∀ M2, Rel M2 (cn + 1) → WP x LF 567 [some (.ref 143), some (.ref 0), some (.ref 139), some (.int (nI k))] [] M2) : WP x LF 468 [some (.ref 143), some (.ref 0), some (.ref 139), some (.int (nI k))] [] M := by
  refine wp_aload_n (pc := 468) X dL_law_468 rfl rfl ?_
  refine wp_aload_n (pc := 469) X dL_law_469 rfl rfl ?_
  refine wp_iload_n (pc := 470) X dL_law_470 rfl rfl ?_
  refine wp_iconst (pc := 471) (v := nI 1) X dL_law_471 (by decide) ?_
  refine wn_iadd (pc := 472) X dL_law_472 ?_
  refine wp_sld (pc := 473) X B (by omega) (by omega) dL_law_473 ?_
  refine wp_aload_n (pc := 474) X dL_law_474 rfl rfl ?_
  refine wp_iload_n (pc := 475) X dL_law_475 rfl rfl ?_
  refine wp_iconst (pc := 476) (v := nI 2) X dL_law_476 (by decide) ?_
  refine wn_iadd (pc := 477) X dL_law_477 ?_
  refine wp_sld (pc := 478) X B (by omega) (by omega) dL_law_478 ?_
  refine wp_invV (pc := 479) X sv_L_73 ac_0 (by decide) rfl ⟨by decide, by decide⟩ (As := [.int (xs (k + 1)), .int (xs (k + 2))]) (st := []) rfl rfl (Nat.le_of_ble_eq_true rfl) dL_law_479 ?_
  refine CM.mono (A_waits (xs (k + 1)) (xs (k + 2)) M cn hcn hR) (fun r1 M1 h => ?_)
  refine wp_aload_n (pc := 482) X dL_law_482 rfl rfl ?_
  refine wp_aload_n (pc := 483) X dL_law_483 rfl rfl ?_
  refine wp_iload_n (pc := 484) X dL_law_484 rfl rfl ?_
  refine wp_iconst (pc := 485) (v := nI 1) X dL_law_485 (by decide) ?_
  refine wn_iadd (pc := 486) X dL_law_486 ?_
  refine wp_sld (pc := 487) X B (by omega) (by omega) dL_law_487 ?_
  refine wp_aload_n (pc := 488) X dL_law_488 rfl rfl ?_
  refine wp_iload_n (pc := 489) X dL_law_489 rfl rfl ?_
  refine wp_iconst (pc := 490) (v := nI 2) X dL_law_490 (by decide) ?_
  refine wn_iadd (pc := 491) X dL_law_491 ?_
  refine wp_sld (pc := 492) X B (by omega) (by omega) dL_law_492 ?_
  refine wp_invV (pc := 493) X sv_L_76 ac_139 (by decide) rfl ⟨by decide, by decide⟩ (As := [.int (xs (k + 1)), .int (xs (k + 2))]) (st := [.int r1]) rfl rfl (Nat.le_of_ble_eq_true rfl) dL_law_493 ?_
  refine CM.mono h (fun r2 M2 h => ?_)
  obtain ⟨h, hR2⟩ := h
  exact wp_icmp_eq (pc := 496) (tgt := 567) X dL_law_496 (by decide) (fun _ => next M2 hR2) (fun q => absurd h q)
theorem lw_mean {x : CT} {N : Nat} {xs : Nat → Int32} (X : BS x LF cL_law 4 RL room_1) (B : XB x N xs) (hN : N ≤ 2048) {k cn : Nat} {M : Mem} (hk : k + 4 ≤ N) (hcn : cn < 2 ^ 29) (hR : Rel M cn) (next : ∀ M2, Rel M2 (cn + 1) → WP x LF 567 [some (.ref 143), some (.ref 0), some (.ref 139), some (.int (nI k))] [] M2) : WP x LF 501 [some (.ref 143), some (.ref 0), some (.ref 139), some (.int (nI k))] [] M := by
  refine wp_aload_n (pc := 501) X dL_law_501 rfl rfl ?_
  refine wp_aload_n (pc := 502) X dL_law_502 rfl rfl ?_
  refine wp_iload_n (pc := 503) X dL_law_503 rfl rfl ?_
  refine wp_iconst (pc := 504) (v := nI 1) X dL_law_504 (by decide) ?_
  refine wn_iadd (pc := 505) X dL_law_505 ?_
  refine wp_sld (pc := 506) X B (by omega) (by omega) dL_law_506 ?_
  refine wp_aload_n (pc := 507) X dL_law_507 rfl rfl ?_
  refine wp_iload_n (pc := 508) X dL_law_508 rfl rfl ?_
  refine wp_iconst (pc := 509) (v := nI 2) X dL_law_509 (by decide) ?_
  refine wn_iadd (pc := 510) X dL_law_510 ?_
  refine wp_sld (pc := 511) X B (by omega) (by omega) dL_law_511 ?_
  refine wp_aload_n (pc := 512) X dL_law_512 rfl rfl ?_
  refine wp_iload_n (pc := 513) X dL_law_513 rfl rfl ?_
  refine wp_iconst (pc := 514) (v := nI 3) X dL_law_514 (by decide) ?_
  refine wn_iadd (pc := 515) X dL_law_515 ?_
  refine wp_sld (pc := 516) X B (by omega) (by omega) dL_law_516 ?_
  refine wp_invV (pc := 517) X sv_L_77 ac_0 (by decide) rfl ⟨by decide, by decide⟩ (As := [.int (xs (k + 1)), .int (xs (k + 2)), .int (xs (k + 3))]) (st := []) rfl rfl (Nat.le_of_ble_eq_true rfl) dL_law_517 ?_
  refine CM.mono (A_mean (xs (k + 1)) (xs (k + 2)) (xs (k + 3)) M cn hcn hR) (fun r1 M1 h => ?_)
  refine wp_aload_n (pc := 520) X dL_law_520 rfl rfl ?_
  refine wp_aload_n (pc := 521) X dL_law_521 rfl rfl ?_
  refine wp_iload_n (pc := 522) X dL_law_522 rfl rfl ?_
  refine wp_iconst (pc := 523) (v := nI 1) X dL_law_523 (by decide) ?_
  refine wn_iadd (pc := 524) X dL_law_524 ?_
  refine wp_sld (pc := 525) X B (by omega) (by omega) dL_law_525 ?_
  refine wp_aload_n (pc := 526) X dL_law_526 rfl rfl ?_
  refine wp_iload_n (pc := 527) X dL_law_527 rfl rfl ?_
  refine wp_iconst (pc := 528) (v := nI 2) X dL_law_528 (by decide) ?_
  refine wn_iadd (pc := 529) X dL_law_529 ?_
  refine wp_sld (pc := 530) X B (by omega) (by omega) dL_law_530 ?_
  refine wp_aload_n (pc := 531) X dL_law_531 rfl rfl ?_
  refine wp_iload_n (pc := 532) X dL_law_532 rfl rfl ?_
  refine wp_iconst (pc := 533) (v := nI 3) X dL_law_533 (by decide) ?_
  refine wn_iadd (pc := 534) X dL_law_534 ?_
  refine wp_sld (pc := 535) X B (by omega) (by omega) dL_law_535 ?_
  refine wp_invV (pc := 536) X sv_L_80 ac_139 (by decide) rfl ⟨by decide, by decide⟩ (As := [.int (xs (k + 1)), .int (xs (k + 2)), .int (xs (k + 3))]) (st := [.int r1]) rfl rfl (Nat.le_of_ble_eq_true rfl) dL_law_536 ?_
  refine CM.mono h (fun r2 M2 h => ?_)
  obtain ⟨h, hR2⟩ := h
  exact wp_icmp_eq (pc := 539) (tgt := 567) X dL_law_539 (by decide) (fun _ => next M2 hR2) (fun q => absurd h q)
theorem lw_count {x : CT} {N : Nat} {xs : Nat → Int32} (X : BS x LF cL_law 4 RL room_1) (B : XB x N xs) (hN : N ≤ 2048) {k cn : Nat} {M : Mem} (hk : k + 4 ≤ N) (hcn : cn < 2 ^ 29) (hR : Rel M cn) (next : ∀ M2, Rel M2 (cn + 1) → WP x LF 567 [some (.ref 143), some (.ref 0), some (.ref 139), some (.int (nI k))] [] M2) : WP x LF 544 [some (.ref 143), some (.ref 0), some (.ref 139), some (.int (nI k))] [] M := by
  refine wp_aload_n (pc := 544) X dL_law_544 rfl rfl ?_
  refine wp_aload_n (pc := 545) X dL_law_545 rfl rfl ?_
  refine wp_iload_n (pc := 546) X dL_law_546 rfl rfl ?_
  refine wp_iconst (pc := 547) (v := nI 1) X dL_law_547 (by decide) ?_
  refine wn_iadd (pc := 548) X dL_law_548 ?_
  refine wp_sld (pc := 549) X B (by omega) (by omega) dL_law_549 ?_
  refine wp_invV (pc := 550) X sv_L_81 ac_0 (by decide) rfl ⟨by decide, by decide⟩ (As := [.int (xs (k + 1))]) (st := []) rfl rfl (Nat.le_of_ble_eq_true rfl) dL_law_550 ?_
  refine CM.mono (A_count (xs (k + 1)) M cn hcn hR) (fun r1 M1 h => ?_)
  refine wp_aload_n (pc := 553) X dL_law_553 rfl rfl ?_
  refine wp_aload_n (pc := 554) X dL_law_554 rfl rfl ?_
  refine wp_iload_n (pc := 555) X dL_law_555 rfl rfl ?_
  refine wp_iconst (pc := 556) (v := nI 1) X dL_law_556 (by decide) ?_
  refine wn_iadd (pc := 557) X dL_law_557 ?_
  refine wp_sld (pc := 558) X B (by omega) (by omega) dL_law_558 ?_
  refine wp_invV (pc := 559) X sv_L_84 ac_139 (by decide) rfl ⟨by decide, by decide⟩ (As := [.int (xs (k + 1))]) (st := [.int r1]) rfl rfl (Nat.le_of_ble_eq_true rfl) dL_law_559 ?_
  refine CM.mono h (fun r2 M2 h => ?_)
  obtain ⟨h, hR2⟩ := h
  exact wp_icmp_eq (pc := 562) (tgt := 567) X dL_law_562 (by decide) (fun _ => next M2 hR2) (fun q => absurd h q)
theorem lw_loop {x : CT} {N : Nat} {xs : Nat → Int32} (X : BS x LF cL_law 4 RL room_1) (B : XB x N xs) (hN : N ≤ 2048) (hE : ∀ (M : Mem) (lo : List (Option Value)), WP x LF 574 lo [.int 1] M) : ∀ c k cn M, N < k + 4 * c + 4 → k ≤ N → cn ≤ k → Rel M cn → WP x LF 18 [some (.ref 143), some (.ref 0), some (.ref 139), some (.int (nI k))] [] M := by
  intro c
  have out : ∀ k (M : Mem), N < k + 4 → k ≤ N → WP x LF 18 [some (.ref 143), some (.ref 0), some (.ref 139), some (.int (nI k))] [] M := by
    intro k M h1 h2
    refine wp_iload_n (pc := 18) X dL_law_18 rfl rfl ?_
    refine wp_aload_n (pc := 19) X dL_law_19 rfl rfl ?_
    refine wp_slen (pc := 20) X B dL_law_20 ?_
    refine wp_iconst (pc := 21) (v := nI 4) X dL_law_21 (by decide) ?_
    refine wp_isub (pc := 22) X dL_law_22 ?_
    refine wp_icmp_gt (pc := 23) (tgt := 573) X dL_law_23 (by decide) (fun _ => ?_) (fun q => absurd ?_ q)
    · refine wp_iconst (pc := 573) (v := 1) X dL_law_573 (by decide) ?_
      exact hE M _
    · rw [Int32.lt_iff_toInt_lt, pk_sub_toInt (by omega) (by decide), nI_toInt (by omega)]; omega
  induction c with
  | zero =>
    intro k cn M h1 h2 h3 hR
    exact out k M (by omega) h2
  | succ c ih =>
    intro k cn M h1 h2 h3 hR
    by_cases hk : N < k + 4
    · exact out k M hk h2
    · have next : ∀ cn2, cn2 ≤ k + 4 → ∀ M2, Rel M2 cn2 → WP x LF 567 [some (.ref 143), some (.ref 0), some (.ref 139), some (.int (nI k))] [] M2 := by
        intro cn2 hc2 M2 hR2
        refine wn_iinc (pc := 567) (d := 4) X dL_law_567 rfl (by decide) rfl rfl ?_
        refine wp_goto (pc := 570) (tgt := 18) X dL_law_570 (by decide) ?_
        exact ih (k + 4) cn2 M2 (by omega) (by omega) hc2 hR2
      refine wp_iload_n (pc := 18) X dL_law_18 rfl rfl ?_
      refine wp_aload_n (pc := 19) X dL_law_19 rfl rfl ?_
      refine wp_slen (pc := 20) X B dL_law_20 ?_
      refine wp_iconst (pc := 21) (v := nI 4) X dL_law_21 (by decide) ?_
      refine wp_isub (pc := 22) X dL_law_22 ?_
      refine wp_icmp_gt (pc := 23) (tgt := 573) X dL_law_23 (by decide) (fun q => absurd q ?_) (fun _ => ?_)
      · rw [Int32.lt_iff_toInt_lt, pk_sub_toInt (by omega) (by decide), nI_toInt (by omega)]; omega
      · refine wp_aload_n (pc := 26) X dL_law_26 rfl rfl ?_
        refine wp_iload_n (pc := 27) X dL_law_27 rfl rfl ?_
        refine wp_sld (pc := 28) X B (by omega) (by omega) dL_law_28 ?_
        refine wp_bipush (pc := 29) (v := nI 31) X dL_law_29 (by decide) ?_
        refine wp_iand (pc := 31) X dL_law_31 ?_
        generalize xs k &&& nI 31 = a
        rcases ix_cases a (n := 17) (by decide) with ⟨j, hj, rfl⟩ | hno
        · have : j = 0 ∨ j = 1 ∨ j = 2 ∨ j = 3 ∨ j = 4 ∨ j = 5 ∨ j = 6 ∨ j = 7 ∨ j = 8 ∨ j = 9 ∨ j = 10 ∨ j = 11 ∨ j = 12 ∨ j = 13 ∨ j = 14 ∨ j = 15 ∨ j = 16 := by omega
          rcases this with rfl | rfl | rfl | rfl | rfl | rfl | rfl | rfl | rfl | rfl | rfl | rfl | rfl | rfl | rfl | rfl | rfl
          · refine wp_tabIn (pc := 32) (off := 84) (tgt := 116) X dL_law_32 (by decide) (by decide) (by decide) (by decide) ?_
            exact lw_write X B hN (by omega) (by omega) hR (next (cn + 1) (by omega))
          · refine wp_tabIn (pc := 32) (off := 107) (tgt := 139) X dL_law_32 (by decide) (by decide) (by decide) (by decide) ?_
            exact lw_wipe X B hN (by omega) (by omega) hR (next (cn + 1) (by omega))
          · refine wp_tabIn (pc := 32) (off := 120) (tgt := 152) X dL_law_32 (by decide) (by decide) (by decide) (by decide) ?_
            exact lw_fault X B hN (by omega) (by omega) hR (next (cn + 1) (by omega))
          · refine wp_tabIn (pc := 32) (off := 133) (tgt := 165) X dL_law_32 (by decide) (by decide) (by decide) (by decide) ?_
            exact lw_lay X B hN (by omega) (by omega) hR (next (cn + 1) (by omega))
          · refine wp_tabIn (pc := 32) (off := 146) (tgt := 178) X dL_law_32 (by decide) (by decide) (by decide) (by decide) ?_
            exact lw_tick X B hN (by omega) (by omega) hR (next (cn + 1) (by omega))
          · refine wp_tabIn (pc := 32) (off := 169) (tgt := 201) X dL_law_32 (by decide) (by decide) (by decide) (by decide) ?_
            exact lw_renew X B hN (by omega) (by omega) hR (next (cn + 1) (by omega))
          · refine wp_tabIn (pc := 32) (off := 192) (tgt := 224) X dL_law_32 (by decide) (by decide) (by decide) (by decide) ?_
            exact lw_weigh X B hN (by omega) (by omega) hR (next (cn + 1) (by omega))
          · refine wp_tabIn (pc := 32) (off := 225) (tgt := 257) X dL_law_32 (by decide) (by decide) (by decide) (by decide) ?_
            exact lw_join X B hN (by omega) (by omega) hR (next (cn + 1) (by omega))
          · refine wp_tabIn (pc := 32) (off := 248) (tgt := 280) X dL_law_32 (by decide) (by decide) (by decide) (by decide) ?_
            exact lw_repair X B hN (by omega) (by omega) hR (next (cn + 1) (by omega))
          · refine wp_tabIn (pc := 32) (off := 281) (tgt := 313) X dL_law_32 (by decide) (by decide) (by decide) (by decide) ?_
            exact lw_undo X B hN (by omega) (by omega) hR (next (cn + 1) (by omega))
          · refine wp_tabIn (pc := 32) (off := 294) (tgt := 326) X dL_law_32 (by decide) (by decide) (by decide) (by decide) ?_
            exact lw_file X B hN (by omega) (by omega) hR (next (cn + 1) (by omega))
          · refine wp_tabIn (pc := 32) (off := 327) (tgt := 359) X dL_law_32 (by decide) (by decide) (by decide) (by decide) ?_
            exact lw_sent X B hN (by omega) (by omega) hR (next (cn + 1) (by omega))
          · refine wp_tabIn (pc := 32) (off := 360) (tgt := 392) X dL_law_32 (by decide) (by decide) (by decide) (by decide) ?_
            exact lw_listener X B hN (by omega) (by omega) hR (next (cn + 1) (by omega))
          · refine wp_tabIn (pc := 32) (off := 393) (tgt := 425) X dL_law_32 (by decide) (by decide) (by decide) (by decide) ?_
            exact lw_holds X B hN (by omega) (by omega) hR (next (cn + 1) (by omega))
          · refine wp_tabIn (pc := 32) (off := 436) (tgt := 468) X dL_law_32 (by decide) (by decide) (by decide) (by decide) ?_
            exact lw_waits X B hN (by omega) (by omega) hR (next (cn + 1) (by omega))
          · refine wp_tabIn (pc := 32) (off := 469) (tgt := 501) X dL_law_32 (by decide) (by decide) (by decide) (by decide) ?_
            exact lw_mean X B hN (by omega) (by omega) hR (next (cn + 1) (by omega))
          · refine wp_tabIn (pc := 32) (off := 512) (tgt := 544) X dL_law_32 (by decide) (by decide) (by decide) (by decide) ?_
            exact lw_count X B hN (by omega) (by omega) hR (next (cn + 1) (by omega))
        · refine wp_tabOut (pc := 32) (tgt := 567) X dL_law_32 (by omega) (by decide) ?_
          exact next cn (by omega) M hR
