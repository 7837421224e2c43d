/-! The cases of the law's switch. LV: the law's locals at i. -/
section LC
variable {g : XG} {p : Program} {l : Launch} {e : Env} {R : Room} {s : State} {m : MethodId} {args : Array Value} {below : List Frame} {meth : Method} {c : Code} {Q : State → Prop} {cc : ByteArray} {own : String} {nL k n : Nat} {Ts : List Cond} {h : Hp} {pc pc' : Nat} {lv : List (Option XV)} {st : List XV} {tr su i : Nat}
abbrev LV (i : Nat) : List (Option XV) := [some (vR 1), some (vR 4), some (vR 20), some (vR 43), some (vI (nI i)), none, none]
theorem x_scr (C : x_C g p s m args c cc own nL Ts) {t : Nat} (ht : t < g.2.2.1) (hL : g.2.2.1 ≤ 3072) (d : decode cc pc = .ok (.iaload, 1)) (e1 : pc + 1 = pc') (K : XW g p l e R s m args below meth c Q nL k n h pc' lv (vI (g.2.2.2 t) :: st)) : XW g p l e R s m args below meth c Q nL k n h pc lv (vI (nI t) :: vR 1 :: st) := by
  intro H locs ls cells slots hS hl hc hn
  have e0 : h[1]? = some (aC 0 g.2.2.1 g.2.2.2) := (x_old (by decide) hS.1.1).trans rfl
  exact x_iaload C (F := some) (res := g.2.2.2 t) (by rw [aI_of e0 ht (by omega)]; rfl) d e1 (fun x _ hx => by cases hx; exact K) H locs ls cells slots hS hl hc hn
theorem x_arg (C : x_C g p s m args c cc own nL Ts) {t : Nat} {z : Int} (hz : Int32.ofInt z = nI t) (ht : i + t < g.2.2.1) (hL : g.2.2.1 ≤ 3072) (d0 : decode cc pc = .ok (.aload_n 0, 1)) (d1 : decode cc (pc + 1) = .ok (.iload 4, 2)) (d3 : decode cc (pc + 3) = .ok (.iconst z, 1)) (d4 : decode cc (pc + 4) = .ok (.iadd, 1)) (d5 : decode cc (pc + 5) = .ok (.iaload, 1)) (e1 : pc + 6 = pc') (h0 : lv[0]? = some (some (vR 1))) (h4 : lv[4]? = some (some (vI (nI i)))) (K : XW g p l e R s m args below meth c Q nL k n h pc' lv (vI (g.2.2.2 (i + t)) :: st)) : XW g p l e R s m args below meth c Q nL k n h pc lv st := by
  refine x_aload_n C d0 (pc' := pc + 1) rfl rfl h0 ?_
  refine x_iload C d1 (pc' := pc + 3) rfl h4 ?_
  refine x_iconst C hz d3 (pc' := pc + 4) rfl ?_
  refine x_iadd C d4 (pc' := pc + 5) rfl ?_
  rw [show nI i + nI t = nI (i + t) from (Int32.ofNat_add i t).symm]
  exact x_scr C ht hL d5 e1 K
theorem lg_self (x : Int64) : lg_cmp x x = 0 := by
  unfold lg_cmp
  simp
set_option maxHeartbeats 4000000 in
set_option maxRecDepth 100000 in
theorem lc_feed (C : x_C g p s m args c cL_law RL 7 lw_tbl) (hi : i + 5 < g.2.2.1) (hL : g.2.2.1 ≤ 3072) (L : LI h tr su) (K : ∀ h', LI h' tr su → XW g p l e room_1 s m args below meth c Q 7 k n h' 878 (LV i) []) : XW g p l e room_1 s m args below meth c Q 7 (k + 0) (n + 0) h 140 (LV i) [] := by
  obtain ⟨v, h1, h2, q1, q2, o20, L2⟩ := s_feed L (g.2.2.2 (i + 1)) (g.2.2.2 (i + 2)) (g.2.2.2 (i + 3)) (g.2.2.2 (i + 4)) (g.2.2.2 (i + 5))
  refine x_aload_n C dL_law_140 (pc' := 141) rfl rfl rfl ?_
  refine x_arg C (t := 1) (by decide) (by omega) hL dL_law_141 dL_law_142 dL_law_144 dL_law_145 dL_law_146 (pc' := 147) rfl rfl rfl ?_
  refine x_arg C (t := 2) (by decide) (by omega) hL dL_law_147 dL_law_148 dL_law_150 dL_law_151 dL_law_152 (pc' := 153) rfl rfl rfl ?_
  refine x_arg C (t := 3) (by decide) (by omega) hL dL_law_153 dL_law_154 dL_law_156 dL_law_157 dL_law_158 (pc' := 159) rfl rfl rfl ?_
  refine x_arg C (t := 4) (by decide) (by omega) hL dL_law_159 dL_law_160 dL_law_162 dL_law_163 dL_law_164 (pc' := 165) rfl rfl rfl ?_
  refine x_arg C (t := 5) (by decide) (by omega) hL dL_law_165 dL_law_166 dL_law_168 dL_law_169 dL_law_170 (pc' := 171) rfl rfl rfl ?_
  refine x_callV C (As := [vI (g.2.2.2 (i + 1)), vI (g.2.2.2 (i + 2)), vI (g.2.2.2 (i + 3)), vI (g.2.2.2 (i + 4)), vI (g.2.2.2 (i + 5))]) (st := []) (r := (some (vI v))) (h' := h1) (mc := 0) (ms := 0) (k := k) (n := n) (mX6_feed q1) L.o4 (ci := 6) rfl (cwV 5 C.1.2.2.2.2 gl_X6_feed rfl rfl rfl (by decide +kernel) ⟨Nat.le_of_ble_eq_true rfl, Nat.le_of_ble_eq_true rfl⟩) rfl rfl (Nat.le_of_ble_eq_true rfl) dL_law_171 (pc' := 174) rfl ?_
  refine x_aload_n C dL_law_174 (pc' := 175) rfl rfl rfl ?_
  refine x_arg C (t := 1) (by decide) (by omega) hL dL_law_175 dL_law_176 dL_law_178 dL_law_179 dL_law_180 (pc' := 181) rfl rfl rfl ?_
  refine x_arg C (t := 2) (by decide) (by omega) hL dL_law_181 dL_law_182 dL_law_184 dL_law_185 dL_law_186 (pc' := 187) rfl rfl rfl ?_
  refine x_arg C (t := 3) (by decide) (by omega) hL dL_law_187 dL_law_188 dL_law_190 dL_law_191 dL_law_192 (pc' := 193) rfl rfl rfl ?_
  refine x_arg C (t := 4) (by decide) (by omega) hL dL_law_193 dL_law_194 dL_law_196 dL_law_197 dL_law_198 (pc' := 199) rfl rfl rfl ?_
  refine x_arg C (t := 5) (by decide) (by omega) hL dL_law_199 dL_law_200 dL_law_202 dL_law_203 dL_law_204 (pc' := 205) rfl rfl rfl ?_
  refine x_callV C (As := [vI (g.2.2.2 (i + 1)), vI (g.2.2.2 (i + 2)), vI (g.2.2.2 (i + 3)), vI (g.2.2.2 (i + 4)), vI (g.2.2.2 (i + 5))]) (st := [vI v]) (r := (some (vI v))) (h' := h2) (mc := 0) (ms := 0) (k := k) (n := n) (mX7_feed q2) o20 (ci := 7) rfl (cwV 5 C.1.2.2.2.2 gl_X7_feed rfl rfl rfl (by decide +kernel) ⟨Nat.le_of_ble_eq_true rfl, Nat.le_of_ble_eq_true rfl⟩) rfl rfl (Nat.le_of_ble_eq_true rfl) dL_law_205 (pc' := 208) rfl ?_
  exact x_icmp_eq C (A := some ()) (B := none) (res := ()) (if_pos rfl) dL_law_208 (pc' := 211) rfl (tgt := 878) (by decide) (fun _ _ => K h2 L2) (fun q _ => absurd rfl q)
set_option maxHeartbeats 4000000 in
set_option maxRecDepth 100000 in
theorem lc_end (C : x_C g p s m args c cL_law RL 7 lw_tbl) (hi : i + 5 < g.2.2.1) (hL : g.2.2.1 ≤ 3072) (L : LI h tr su) (K : ∀ h', LI h' tr su → XW g p l e room_1 s m args below meth c Q 7 k n h' 878 (LV i) []) : XW g p l e room_1 s m args below meth c Q 7 (k + 0) (n + 0) h 213 (LV i) [] := by
  obtain ⟨v, h1, h2, q1, q2, o20, L2⟩ := s_end L (g.2.2.2 (i + 1))
  refine x_aload_n C dL_law_213 (pc' := 214) rfl rfl rfl ?_
  refine x_arg C (t := 1) (by decide) (by omega) hL dL_law_214 dL_law_215 dL_law_217 dL_law_218 dL_law_219 (pc' := 220) rfl rfl rfl ?_
  refine x_callV C (As := [vI (g.2.2.2 (i + 1))]) (st := []) (r := (some (vI v))) (h' := h1) (mc := 0) (ms := 0) (k := k) (n := n) (mX6_end q1) L.o4 (ci := 6) rfl (cwV 1 C.1.2.2.2.2 gl_X6_end rfl rfl rfl (by decide +kernel) ⟨Nat.le_of_ble_eq_true rfl, Nat.le_of_ble_eq_true rfl⟩) rfl rfl (Nat.le_of_ble_eq_true rfl) dL_law_220 (pc' := 223) rfl ?_
  refine x_aload_n C dL_law_223 (pc' := 224) rfl rfl rfl ?_
  refine x_arg C (t := 1) (by decide) (by omega) hL dL_law_224 dL_law_225 dL_law_227 dL_law_228 dL_law_229 (pc' := 230) rfl rfl rfl ?_
  refine x_callV C (As := [vI (g.2.2.2 (i + 1))]) (st := [vI v]) (r := (some (vI v))) (h' := h2) (mc := 0) (ms := 0) (k := k) (n := n) (mX7_end q2) o20 (ci := 7) rfl (cwV 1 C.1.2.2.2.2 gl_X7_end rfl rfl rfl (by decide +kernel) ⟨Nat.le_of_ble_eq_true rfl, Nat.le_of_ble_eq_true rfl⟩) rfl rfl (Nat.le_of_ble_eq_true rfl) dL_law_230 (pc' := 233) rfl ?_
  exact x_icmp_eq C (A := some ()) (B := none) (res := ()) (if_pos rfl) dL_law_233 (pc' := 236) rfl (tgt := 878) (by decide) (fun _ _ => K h2 L2) (fun q _ => absurd rfl q)
set_option maxHeartbeats 4000000 in
set_option maxRecDepth 100000 in
theorem lc_rule (C : x_C g p s m args c cL_law RL 7 lw_tbl) (hi : i + 5 < g.2.2.1) (hL : g.2.2.1 ≤ 3072) (L : LI h tr su) (K : ∀ h', LI h' tr su → XW g p l e room_1 s m args below meth c Q 7 k n h' 878 (LV i) []) : XW g p l e room_1 s m args below meth c Q 7 (k + 2) (n + 32) h 238 (LV i) [] := by
  obtain ⟨v, h1, h2, q1, q2, o20, L2⟩ := s_rule L (g.2.2.2 (i + 1)) (g.2.2.2 (i + 2)) (g.2.2.2 (i + 3))
  refine x_aload_n C dL_law_238 (pc' := 239) rfl rfl rfl ?_
  refine x_arg C (t := 1) (by decide) (by omega) hL dL_law_239 dL_law_240 dL_law_242 dL_law_243 dL_law_244 (pc' := 245) rfl rfl rfl ?_
  refine x_arg C (t := 2) (by decide) (by omega) hL dL_law_245 dL_law_246 dL_law_248 dL_law_249 dL_law_250 (pc' := 251) rfl rfl rfl ?_
  refine x_arg C (t := 3) (by decide) (by omega) hL dL_law_251 dL_law_252 dL_law_254 dL_law_255 dL_law_256 (pc' := 257) rfl rfl rfl ?_
  refine x_callV C (As := [vI (g.2.2.2 (i + 1)), vI (g.2.2.2 (i + 2)), vI (g.2.2.2 (i + 3))]) (st := []) (r := (some (vI v))) (h' := h1) (mc := 2) (ms := 32) (k := k) (n := n) (mX6_rule q1) L.o4 (ci := 6) rfl (cwV 3 C.1.2.2.2.2 gl_X6_rule rfl rfl rfl (by decide +kernel) ⟨Nat.le_of_ble_eq_true rfl, Nat.le_of_ble_eq_true rfl⟩) rfl rfl (Nat.le_of_ble_eq_true rfl) dL_law_257 (pc' := 260) rfl ?_
  refine x_aload_n C dL_law_260 (pc' := 261) rfl rfl rfl ?_
  refine x_arg C (t := 1) (by decide) (by omega) hL dL_law_261 dL_law_262 dL_law_264 dL_law_265 dL_law_266 (pc' := 267) rfl rfl rfl ?_
  refine x_arg C (t := 2) (by decide) (by omega) hL dL_law_267 dL_law_268 dL_law_270 dL_law_271 dL_law_272 (pc' := 273) rfl rfl rfl ?_
  refine x_arg C (t := 3) (by decide) (by omega) hL dL_law_273 dL_law_274 dL_law_276 dL_law_277 dL_law_278 (pc' := 279) rfl rfl rfl ?_
  refine x_callV C (As := [vI (g.2.2.2 (i + 1)), vI (g.2.2.2 (i + 2)), vI (g.2.2.2 (i + 3))]) (st := [vI v]) (r := (some (vI v))) (h' := h2) (mc := 0) (ms := 0) (k := k) (n := n) (mX7_rule q2) o20 (ci := 7) rfl (cwV 3 C.1.2.2.2.2 gl_X7_rule rfl rfl rfl (by decide +kernel) ⟨Nat.le_of_ble_eq_true rfl, Nat.le_of_ble_eq_true rfl⟩) rfl rfl (Nat.le_of_ble_eq_true rfl) dL_law_279 (pc' := 282) rfl ?_
  exact x_icmp_eq C (A := some ()) (B := none) (res := ()) (if_pos rfl) dL_law_282 (pc' := 285) rfl (tgt := 878) (by decide) (fun _ _ => K h2 L2) (fun q _ => absurd rfl q)
set_option maxHeartbeats 4000000 in
set_option maxRecDepth 100000 in
theorem lc_about (C : x_C g p s m args c cL_law RL 7 lw_tbl) (hi : i + 5 < g.2.2.1) (hL : g.2.2.1 ≤ 3072) (L : LI h tr su) (K : ∀ h', LI h' tr su → XW g p l e room_1 s m args below meth c Q 7 k n h' 878 (LV i) []) : XW g p l e room_1 s m args below meth c Q 7 (k + 0) (n + 0) h 287 (LV i) [] := by
  obtain ⟨v, h1, h2, q1, q2, o20, L2⟩ := s_about L (g.2.2.2 (i + 1)) (g.2.2.2 (i + 2))
  refine x_aload_n C dL_law_287 (pc' := 288) rfl rfl rfl ?_
  refine x_arg C (t := 1) (by decide) (by omega) hL dL_law_288 dL_law_289 dL_law_291 dL_law_292 dL_law_293 (pc' := 294) rfl rfl rfl ?_
  refine x_arg C (t := 2) (by decide) (by omega) hL dL_law_294 dL_law_295 dL_law_297 dL_law_298 dL_law_299 (pc' := 300) rfl rfl rfl ?_
  refine x_callV C (As := [vI (g.2.2.2 (i + 1)), vI (g.2.2.2 (i + 2))]) (st := []) (r := (some (vI v))) (h' := h1) (mc := 0) (ms := 0) (k := k) (n := n) (mX6_about q1) L.o4 (ci := 6) rfl (cwV 2 C.1.2.2.2.2 gl_X6_about rfl rfl rfl (by decide +kernel) ⟨Nat.le_of_ble_eq_true rfl, Nat.le_of_ble_eq_true rfl⟩) rfl rfl (Nat.le_of_ble_eq_true rfl) dL_law_300 (pc' := 303) rfl ?_
  refine x_aload_n C dL_law_303 (pc' := 304) rfl rfl rfl ?_
  refine x_arg C (t := 1) (by decide) (by omega) hL dL_law_304 dL_law_305 dL_law_307 dL_law_308 dL_law_309 (pc' := 310) rfl rfl rfl ?_
  refine x_arg C (t := 2) (by decide) (by omega) hL dL_law_310 dL_law_311 dL_law_313 dL_law_314 dL_law_315 (pc' := 316) rfl rfl rfl ?_
  refine x_callV C (As := [vI (g.2.2.2 (i + 1)), vI (g.2.2.2 (i + 2))]) (st := [vI v]) (r := (some (vI v))) (h' := h2) (mc := 0) (ms := 0) (k := k) (n := n) (mX7_about q2) o20 (ci := 7) rfl (cwV 2 C.1.2.2.2.2 gl_X7_about rfl rfl rfl (by decide +kernel) ⟨Nat.le_of_ble_eq_true rfl, Nat.le_of_ble_eq_true rfl⟩) rfl rfl (Nat.le_of_ble_eq_true rfl) dL_law_316 (pc' := 319) rfl ?_
  exact x_icmp_eq C (A := some ()) (B := none) (res := ()) (if_pos rfl) dL_law_319 (pc' := 322) rfl (tgt := 878) (by decide) (fun _ _ => K h2 L2) (fun q _ => absurd rfl q)
set_option maxHeartbeats 4000000 in
set_option maxRecDepth 100000 in
theorem lc_table (C : x_C g p s m args c cL_law RL 7 lw_tbl) (hi : i + 5 < g.2.2.1) (hL : g.2.2.1 ≤ 3072) (L : LI h tr su) (K : ∀ h', LI h' tr su → XW g p l e room_1 s m args below meth c Q 7 k n h' 878 (LV i) []) : XW g p l e room_1 s m args below meth c Q 7 (k + 0) (n + 0) h 324 (LV i) [] := by
  obtain ⟨v, h1, h2, q1, q2, o20, L2⟩ := s_table L (g.2.2.2 (i + 1))
  refine x_aload_n C dL_law_324 (pc' := 325) rfl rfl rfl ?_
  refine x_arg C (t := 1) (by decide) (by omega) hL dL_law_325 dL_law_326 dL_law_328 dL_law_329 dL_law_330 (pc' := 331) rfl rfl rfl ?_
  refine x_callV C (As := [vI (g.2.2.2 (i + 1))]) (st := []) (r := (some (vI v))) (h' := h1) (mc := 0) (ms := 0) (k := k) (n := n) (mX6_table q1) L.o4 (ci := 6) rfl (cwV 1 C.1.2.2.2.2 gl_X6_table rfl rfl rfl (by decide +kernel) ⟨Nat.le_of_ble_eq_true rfl, Nat.le_of_ble_eq_true rfl⟩) rfl rfl (Nat.le_of_ble_eq_true rfl) dL_law_331 (pc' := 334) rfl ?_
  refine x_aload_n C dL_law_334 (pc' := 335) rfl rfl rfl ?_
  refine x_arg C (t := 1) (by decide) (by omega) hL dL_law_335 dL_law_336 dL_law_338 dL_law_339 dL_law_340 (pc' := 341) rfl rfl rfl ?_
  refine x_callV C (As := [vI (g.2.2.2 (i + 1))]) (st := [vI v]) (r := (some (vI v))) (h' := h2) (mc := 0) (ms := 0) (k := k) (n := n) (mX7_table q2) o20 (ci := 7) rfl (cwV 1 C.1.2.2.2.2 gl_X7_table rfl rfl rfl (by decide +kernel) ⟨Nat.le_of_ble_eq_true rfl, Nat.le_of_ble_eq_true rfl⟩) rfl rfl (Nat.le_of_ble_eq_true rfl) dL_law_341 (pc' := 344) rfl ?_
  exact x_icmp_eq C (A := some ()) (B := none) (res := ()) (if_pos rfl) dL_law_344 (pc' := 347) rfl (tgt := 878) (by decide) (fun _ _ => K h2 L2) (fun q _ => absurd rfl q)
set_option maxHeartbeats 4000000 in
set_option maxRecDepth 100000 in
theorem lc_row (C : x_C g p s m args c cL_law RL 7 lw_tbl) (hi : i + 5 < g.2.2.1) (hL : g.2.2.1 ≤ 3072) (L : LI h tr su) (K : ∀ h', LI h' tr su → XW g p l e room_1 s m args below meth c Q 7 k n h' 878 (LV i) []) : XW g p l e room_1 s m args below meth c Q 7 (k + 0) (n + 0) h 349 (LV i) [] := by
  obtain ⟨v, h1, h2, q1, q2, o20, L2⟩ := s_row L (g.2.2.2 (i + 1))
  refine x_aload_n C dL_law_349 (pc' := 350) rfl rfl rfl ?_
  refine x_arg C (t := 1) (by decide) (by omega) hL dL_law_350 dL_law_351 dL_law_353 dL_law_354 dL_law_355 (pc' := 356) rfl rfl rfl ?_
  refine x_callV C (As := [vI (g.2.2.2 (i + 1))]) (st := []) (r := (some (vI v))) (h' := h1) (mc := 0) (ms := 0) (k := k) (n := n) (mX6_row q1) L.o4 (ci := 6) rfl (cwV 1 C.1.2.2.2.2 gl_X6_row rfl rfl rfl (by decide +kernel) ⟨Nat.le_of_ble_eq_true rfl, Nat.le_of_ble_eq_true rfl⟩) rfl rfl (Nat.le_of_ble_eq_true rfl) dL_law_356 (pc' := 359) rfl ?_
  refine x_aload_n C dL_law_359 (pc' := 360) rfl rfl rfl ?_
  refine x_arg C (t := 1) (by decide) (by omega) hL dL_law_360 dL_law_361 dL_law_363 dL_law_364 dL_law_365 (pc' := 366) rfl rfl rfl ?_
  refine x_callV C (As := [vI (g.2.2.2 (i + 1))]) (st := [vI v]) (r := (some (vI v))) (h' := h2) (mc := 0) (ms := 0) (k := k) (n := n) (mX7_row q2) o20 (ci := 7) rfl (cwV 1 C.1.2.2.2.2 gl_X7_row rfl rfl rfl (by decide +kernel) ⟨Nat.le_of_ble_eq_true rfl, Nat.le_of_ble_eq_true rfl⟩) rfl rfl (Nat.le_of_ble_eq_true rfl) dL_law_366 (pc' := 369) rfl ?_
  exact x_icmp_eq C (A := some ()) (B := none) (res := ()) (if_pos rfl) dL_law_369 (pc' := 372) rfl (tgt := 878) (by decide) (fun _ _ => K h2 L2) (fun q _ => absurd rfl q)
set_option maxHeartbeats 4000000 in
set_option maxRecDepth 100000 in
theorem lc_ring (C : x_C g p s m args c cL_law RL 7 lw_tbl) (hi : i + 5 < g.2.2.1) (hL : g.2.2.1 ≤ 3072) (L : LI h tr su) (K : ∀ h', LI h' tr su → XW g p l e room_1 s m args below meth c Q 7 k n h' 878 (LV i) []) : XW g p l e room_1 s m args below meth c Q 7 (k + 0) (n + 0) h 374 (LV i) [] := by
  obtain ⟨v, h1, h2, q1, q2, o20, L2⟩ := s_ring L (g.2.2.2 (i + 1)) (g.2.2.2 (i + 2))
  refine x_aload_n C dL_law_374 (pc' := 375) rfl rfl rfl ?_
  refine x_arg C (t := 1) (by decide) (by omega) hL dL_law_375 dL_law_376 dL_law_378 dL_law_379 dL_law_380 (pc' := 381) rfl rfl rfl ?_
  refine x_arg C (t := 2) (by decide) (by omega) hL dL_law_381 dL_law_382 dL_law_384 dL_law_385 dL_law_386 (pc' := 387) rfl rfl rfl ?_
  refine x_callV C (As := [vI (g.2.2.2 (i + 1)), vI (g.2.2.2 (i + 2))]) (st := []) (r := (some (vI v))) (h' := h1) (mc := 0) (ms := 0) (k := k) (n := n) (mX6_ring q1) L.o4 (ci := 6) rfl (cwV 2 C.1.2.2.2.2 gl_X6_ring rfl rfl rfl (by decide +kernel) ⟨Nat.le_of_ble_eq_true rfl, Nat.le_of_ble_eq_true rfl⟩) rfl rfl (Nat.le_of_ble_eq_true rfl) dL_law_387 (pc' := 390) rfl ?_
  refine x_aload_n C dL_law_390 (pc' := 391) rfl rfl rfl ?_
  refine x_arg C (t := 1) (by decide) (by omega) hL dL_law_391 dL_law_392 dL_law_394 dL_law_395 dL_law_396 (pc' := 397) rfl rfl rfl ?_
  refine x_arg C (t := 2) (by decide) (by omega) hL dL_law_397 dL_law_398 dL_law_400 dL_law_401 dL_law_402 (pc' := 403) rfl rfl rfl ?_
  refine x_callV C (As := [vI (g.2.2.2 (i + 1)), vI (g.2.2.2 (i + 2))]) (st := [vI v]) (r := (some (vI v))) (h' := h2) (mc := 0) (ms := 0) (k := k) (n := n) (mX7_ring q2) o20 (ci := 7) rfl (cwV 2 C.1.2.2.2.2 gl_X7_ring rfl rfl rfl (by decide +kernel) ⟨Nat.le_of_ble_eq_true rfl, Nat.le_of_ble_eq_true rfl⟩) rfl rfl (Nat.le_of_ble_eq_true rfl) dL_law_403 (pc' := 406) rfl ?_
  exact x_icmp_eq C (A := some ()) (B := none) (res := ()) (if_pos rfl) dL_law_406 (pc' := 409) rfl (tgt := 878) (by decide) (fun _ _ => K h2 L2) (fun q _ => absurd rfl q)
set_option maxHeartbeats 4000000 in
set_option maxRecDepth 100000 in
theorem lc_behind (C : x_C g p s m args c cL_law RL 7 lw_tbl) (hi : i + 5 < g.2.2.1) (hL : g.2.2.1 ≤ 3072) (L : LI h tr su) (K : ∀ h', LI h' tr su → XW g p l e room_1 s m args below meth c Q 7 k n h' 878 (LV i) []) : XW g p l e room_1 s m args below meth c Q 7 (k + 0) (n + 0) h 411 (LV i) [] := by
  obtain ⟨v, h1, h2, q1, q2, o20, L2⟩ := s_behind L (g.2.2.2 (i + 1))
  refine x_aload_n C dL_law_411 (pc' := 412) rfl rfl rfl ?_
  refine x_arg C (t := 1) (by decide) (by omega) hL dL_law_412 dL_law_413 dL_law_415 dL_law_416 dL_law_417 (pc' := 418) rfl rfl rfl ?_
  refine x_callV C (As := [vI (g.2.2.2 (i + 1))]) (st := []) (r := (some (vL v))) (h' := h1) (mc := 0) (ms := 0) (k := k) (n := n) (mX6_behind q1) L.o4 (ci := 6) rfl (cwV 1 C.1.2.2.2.2 gl_X6_behind rfl rfl rfl (by decide +kernel) ⟨Nat.le_of_ble_eq_true rfl, Nat.le_of_ble_eq_true rfl⟩) rfl rfl (Nat.le_of_ble_eq_true rfl) dL_law_418 (pc' := 421) rfl ?_
  refine x_aload_n C dL_law_421 (pc' := 422) rfl rfl rfl ?_
  refine x_arg C (t := 1) (by decide) (by omega) hL dL_law_422 dL_law_423 dL_law_425 dL_law_426 dL_law_427 (pc' := 428) rfl rfl rfl ?_
  refine x_callV C (As := [vI (g.2.2.2 (i + 1))]) (st := [vL v]) (r := (some (vL v))) (h' := h2) (mc := 0) (ms := 0) (k := k) (n := n) (mX7_behind q2) o20 (ci := 7) rfl (cwV 1 C.1.2.2.2.2 gl_X7_behind rfl rfl rfl (by decide +kernel) ⟨Nat.le_of_ble_eq_true rfl, Nat.le_of_ble_eq_true rfl⟩) rfl rfl (Nat.le_of_ble_eq_true rfl) dL_law_428 (pc' := 431) rfl ?_
  refine x_lcmp C dL_law_431 (pc' := 432) rfl ?_
  exact x_if_eq C (A := some ()) (B := none) (res := ()) (if_pos (lg_self v)) dL_law_432 (pc' := 435) rfl (tgt := 878) (by decide) (fun _ _ => K h2 L2) (fun q _ => absurd (lg_self v) q)
set_option maxHeartbeats 4000000 in
set_option maxRecDepth 100000 in
theorem lc_ringsBehind (C : x_C g p s m args c cL_law RL 7 lw_tbl) (hi : i + 5 < g.2.2.1) (hL : g.2.2.1 ≤ 3072) (L : LI h tr su) (K : ∀ h', LI h' tr su → XW g p l e room_1 s m args below meth c Q 7 k n h' 878 (LV i) []) : XW g p l e room_1 s m args below meth c Q 7 (k + 0) (n + 0) h 437 (LV i) [] := by
  obtain ⟨v, h1, h2, q1, q2, o20, L2⟩ := s_ringsBehind L (g.2.2.2 (i + 1))
  refine x_aload_n C dL_law_437 (pc' := 438) rfl rfl rfl ?_
  refine x_arg C (t := 1) (by decide) (by omega) hL dL_law_438 dL_law_439 dL_law_441 dL_law_442 dL_law_443 (pc' := 444) rfl rfl rfl ?_
  refine x_callV C (As := [vI (g.2.2.2 (i + 1))]) (st := []) (r := (some (vL v))) (h' := h1) (mc := 0) (ms := 0) (k := k) (n := n) (mX6_ringsBehind q1) L.o4 (ci := 6) rfl (cwV 1 C.1.2.2.2.2 gl_X6_ringsBehind rfl rfl rfl (by decide +kernel) ⟨Nat.le_of_ble_eq_true rfl, Nat.le_of_ble_eq_true rfl⟩) rfl rfl (Nat.le_of_ble_eq_true rfl) dL_law_444 (pc' := 447) rfl ?_
  refine x_aload_n C dL_law_447 (pc' := 448) rfl rfl rfl ?_
  refine x_arg C (t := 1) (by decide) (by omega) hL dL_law_448 dL_law_449 dL_law_451 dL_law_452 dL_law_453 (pc' := 454) rfl rfl rfl ?_
  refine x_callV C (As := [vI (g.2.2.2 (i + 1))]) (st := [vL v]) (r := (some (vL v))) (h' := h2) (mc := 0) (ms := 0) (k := k) (n := n) (mX7_ringsBehind q2) o20 (ci := 7) rfl (cwV 1 C.1.2.2.2.2 gl_X7_ringsBehind rfl rfl rfl (by decide +kernel) ⟨Nat.le_of_ble_eq_true rfl, Nat.le_of_ble_eq_true rfl⟩) rfl rfl (Nat.le_of_ble_eq_true rfl) dL_law_454 (pc' := 457) rfl ?_
  refine x_lcmp C dL_law_457 (pc' := 458) rfl ?_
  exact x_if_eq C (A := some ()) (B := none) (res := ()) (if_pos (lg_self v)) dL_law_458 (pc' := 461) rfl (tgt := 878) (by decide) (fun _ _ => K h2 L2) (fun q _ => absurd (lg_self v) q)
set_option maxHeartbeats 4000000 in
set_option maxRecDepth 100000 in
theorem lc_missed (C : x_C g p s m args c cL_law RL 7 lw_tbl) (hi : i + 5 < g.2.2.1) (hL : g.2.2.1 ≤ 3072) (L : LI h tr su) (K : ∀ h', LI h' tr su → XW g p l e room_1 s m args below meth c Q 7 k n h' 878 (LV i) []) : XW g p l e room_1 s m args below meth c Q 7 (k + 0) (n + 0) h 463 (LV i) [] := by
  obtain ⟨v, h1, h2, q1, q2, o20, L2⟩ := s_missed L (g.2.2.2 (i + 1))
  refine x_aload_n C dL_law_463 (pc' := 464) rfl rfl rfl ?_
  refine x_arg C (t := 1) (by decide) (by omega) hL dL_law_464 dL_law_465 dL_law_467 dL_law_468 dL_law_469 (pc' := 470) rfl rfl rfl ?_
  refine x_callV C (As := [vI (g.2.2.2 (i + 1))]) (st := []) (r := (some (vI v))) (h' := h1) (mc := 0) (ms := 0) (k := k) (n := n) (mX6_missed q1) L.o4 (ci := 6) rfl (cwV 1 C.1.2.2.2.2 gl_X6_missed rfl rfl rfl (by decide +kernel) ⟨Nat.le_of_ble_eq_true rfl, Nat.le_of_ble_eq_true rfl⟩) rfl rfl (Nat.le_of_ble_eq_true rfl) dL_law_470 (pc' := 473) rfl ?_
  refine x_aload_n C dL_law_473 (pc' := 474) rfl rfl rfl ?_
  refine x_arg C (t := 1) (by decide) (by omega) hL dL_law_474 dL_law_475 dL_law_477 dL_law_478 dL_law_479 (pc' := 480) rfl rfl rfl ?_
  refine x_callV C (As := [vI (g.2.2.2 (i + 1))]) (st := [vI v]) (r := (some (vI v))) (h' := h2) (mc := 0) (ms := 0) (k := k) (n := n) (mX7_missed q2) o20 (ci := 7) rfl (cwV 1 C.1.2.2.2.2 gl_X7_missed rfl rfl rfl (by decide +kernel) ⟨Nat.le_of_ble_eq_true rfl, Nat.le_of_ble_eq_true rfl⟩) rfl rfl (Nat.le_of_ble_eq_true rfl) dL_law_480 (pc' := 483) rfl ?_
  exact x_icmp_eq C (A := some ()) (B := none) (res := ()) (if_pos rfl) dL_law_483 (pc' := 486) rfl (tgt := 878) (by decide) (fun _ _ => K h2 L2) (fun q _ => absurd rfl q)
set_option maxHeartbeats 4000000 in
set_option maxRecDepth 100000 in
theorem lc_back (C : x_C g p s m args c cL_law RL 7 lw_tbl) (hi : i + 5 < g.2.2.1) (hL : g.2.2.1 ≤ 3072) (L : LI h tr su) (K : ∀ h', LI h' tr su → XW g p l e room_1 s m args below meth c Q 7 k n h' 878 (LV i) []) : XW g p l e room_1 s m args below meth c Q 7 (k + 2) (n + 32) h 488 (LV i) [] := by
  obtain ⟨v, h1, h2, q1, q2, o20, L2⟩ := s_back L (g.2.2.2 (i + 1)) (g.2.2.2 (i + 2))
  refine x_aload_n C dL_law_488 (pc' := 489) rfl rfl rfl ?_
  refine x_arg C (t := 1) (by decide) (by omega) hL dL_law_489 dL_law_490 dL_law_492 dL_law_493 dL_law_494 (pc' := 495) rfl rfl rfl ?_
  refine x_arg C (t := 2) (by decide) (by omega) hL dL_law_495 dL_law_496 dL_law_498 dL_law_499 dL_law_500 (pc' := 501) rfl rfl rfl ?_
  refine x_callV C (As := [vI (g.2.2.2 (i + 1)), vI (g.2.2.2 (i + 2))]) (st := []) (r := (some (vI v))) (h' := h1) (mc := 2) (ms := 32) (k := k) (n := n) (mX6_back q1) L.o4 (ci := 6) rfl (cwV 2 C.1.2.2.2.2 gl_X6_back rfl rfl rfl (by decide +kernel) ⟨Nat.le_of_ble_eq_true rfl, Nat.le_of_ble_eq_true rfl⟩) rfl rfl (Nat.le_of_ble_eq_true rfl) dL_law_501 (pc' := 504) rfl ?_
  refine x_aload_n C dL_law_504 (pc' := 505) rfl rfl rfl ?_
  refine x_arg C (t := 1) (by decide) (by omega) hL dL_law_505 dL_law_506 dL_law_508 dL_law_509 dL_law_510 (pc' := 511) rfl rfl rfl ?_
  refine x_arg C (t := 2) (by decide) (by omega) hL dL_law_511 dL_law_512 dL_law_514 dL_law_515 dL_law_516 (pc' := 517) rfl rfl rfl ?_
  refine x_callV C (As := [vI (g.2.2.2 (i + 1)), vI (g.2.2.2 (i + 2))]) (st := [vI v]) (r := (some (vI v))) (h' := h2) (mc := 0) (ms := 0) (k := k) (n := n) (mX7_back q2) o20 (ci := 7) rfl (cwV 2 C.1.2.2.2.2 gl_X7_back rfl rfl rfl (by decide +kernel) ⟨Nat.le_of_ble_eq_true rfl, Nat.le_of_ble_eq_true rfl⟩) rfl rfl (Nat.le_of_ble_eq_true rfl) dL_law_517 (pc' := 520) rfl ?_
  exact x_icmp_eq C (A := some ()) (B := none) (res := ()) (if_pos rfl) dL_law_520 (pc' := 523) rfl (tgt := 878) (by decide) (fun _ _ => K h2 L2) (fun q _ => absurd rfl q)
set_option maxHeartbeats 4000000 in
set_option maxRecDepth 100000 in
theorem lc_height_v2 (C : x_C g p s m args c cL_law RL 7 lw_tbl) (hi : i + 5 < g.2.2.1) (hL : g.2.2.1 ≤ 3072) {tr' su' : Nat} (L : LI h tr su) {v : Int32} {h1 h2 : Hp} (q1 : fX6_height_v2 h 4 (g.2.2.2 (i + 1)) = some (v, h1)) (q2 : fX7_height h1 20 (g.2.2.2 (i + 1)) = some (v, h2)) (o20 : O20 h1) (L2 : LI h2 tr' su') (K : ∀ h', LI h' tr' su' → XW g p l e room_1 s m args below meth c Q 7 k n h' 878 (LV i) []) : XW g p l e room_1 s m args below meth c Q 7 (k + 0) (n + 0) h 525 (LV i) [] := by
  refine x_aload_n C dL_law_525 (pc' := 526) rfl rfl rfl ?_
  refine x_arg C (t := 1) (by decide) (by omega) hL dL_law_526 dL_law_527 dL_law_529 dL_law_530 dL_law_531 (pc' := 532) rfl rfl rfl ?_
  refine x_callV C (As := [vI (g.2.2.2 (i + 1))]) (st := []) (r := (some (vI v))) (h' := h1) (mc := 0) (ms := 0) (k := k) (n := n) (mX6_height_v2 q1) L.o4 (ci := 6) rfl (cwV 1 C.1.2.2.2.2 gl_X6_height rfl rfl rfl (by decide +kernel) ⟨Nat.le_of_ble_eq_true rfl, Nat.le_of_ble_eq_true rfl⟩) rfl rfl (Nat.le_of_ble_eq_true rfl) dL_law_532 (pc' := 535) rfl ?_
  refine x_aload_n C dL_law_535 (pc' := 536) rfl rfl rfl ?_
  refine x_arg C (t := 1) (by decide) (by omega) hL dL_law_536 dL_law_537 dL_law_539 dL_law_540 dL_law_541 (pc' := 542) rfl rfl rfl ?_
  refine x_callV C (As := [vI (g.2.2.2 (i + 1))]) (st := [vI v]) (r := (some (vI v))) (h' := h2) (mc := 0) (ms := 0) (k := k) (n := n) (mX7_height q2) o20 (ci := 7) rfl (cwV 1 C.1.2.2.2.2 gl_X7_height rfl rfl rfl (by decide +kernel) ⟨Nat.le_of_ble_eq_true rfl, Nat.le_of_ble_eq_true rfl⟩) rfl rfl (Nat.le_of_ble_eq_true rfl) dL_law_542 (pc' := 545) rfl ?_
  exact x_icmp_eq C (A := some ()) (B := none) (res := ()) (if_pos rfl) dL_law_545 (pc' := 548) rfl (tgt := 878) (by decide) (fun _ _ => K h2 L2) (fun q _ => absurd rfl q)
set_option maxHeartbeats 4000000 in
set_option maxRecDepth 100000 in
theorem lc_height_new (C : x_C g p s m args c cL_law RL 7 lw_tbl) (hi : i + 5 < g.2.2.1) (hL : g.2.2.1 ≤ 3072) {tr' su' : Nat} (L : LI h tr su) {v : Int32} {h1 h2 : Hp} (q1 : fX6_height h 4 (g.2.2.2 (i + 1)) = some (v, h1)) (q2 : fX7_height h1 20 (g.2.2.2 (i + 1)) = some (v, h2)) (o20 : O20 h1) (L2 : LI h2 tr' su') (K : ∀ h', LI h' tr' su' → XW g p l e room_1 s m args below meth c Q 7 k n h' 878 (LV i) []) : XW g p l e room_1 s m args below meth c Q 7 (k + 4) (n + 20045) h 525 (LV i) [] := by
  refine x_aload_n C dL_law_525 (pc' := 526) rfl rfl rfl ?_
  refine x_arg C (t := 1) (by decide) (by omega) hL dL_law_526 dL_law_527 dL_law_529 dL_law_530 dL_law_531 (pc' := 532) rfl rfl rfl ?_
  refine x_callV C (As := [vI (g.2.2.2 (i + 1))]) (st := []) (r := (some (vI v))) (h' := h1) (mc := 4) (ms := 20045) (k := k) (n := n) (mX6_height q1) L.o4 (ci := 6) rfl (cwV 1 C.1.2.2.2.2 gl_X6_height rfl rfl rfl (by decide +kernel) ⟨Nat.le_of_ble_eq_true rfl, Nat.le_of_ble_eq_true rfl⟩) rfl rfl (Nat.le_of_ble_eq_true rfl) dL_law_532 (pc' := 535) rfl ?_
  refine x_aload_n C dL_law_535 (pc' := 536) rfl rfl rfl ?_
  refine x_arg C (t := 1) (by decide) (by omega) hL dL_law_536 dL_law_537 dL_law_539 dL_law_540 dL_law_541 (pc' := 542) rfl rfl rfl ?_
  refine x_callV C (As := [vI (g.2.2.2 (i + 1))]) (st := [vI v]) (r := (some (vI v))) (h' := h2) (mc := 0) (ms := 0) (k := k) (n := n) (mX7_height q2) o20 (ci := 7) rfl (cwV 1 C.1.2.2.2.2 gl_X7_height rfl rfl rfl (by decide +kernel) ⟨Nat.le_of_ble_eq_true rfl, Nat.le_of_ble_eq_true rfl⟩) rfl rfl (Nat.le_of_ble_eq_true rfl) dL_law_542 (pc' := 545) rfl ?_
  exact x_icmp_eq C (A := some ()) (B := none) (res := ()) (if_pos rfl) dL_law_545 (pc' := 548) rfl (tgt := 878) (by decide) (fun _ _ => K h2 L2) (fun q _ => absurd rfl q)
set_option maxHeartbeats 4000000 in
set_option maxRecDepth 100000 in
theorem lc_round (C : x_C g p s m args c cL_law RL 7 lw_tbl) (hi : i + 5 < g.2.2.1) (hL : g.2.2.1 ≤ 3072) (L : LI h tr su) (K : ∀ h', LI h' tr su → XW g p l e room_1 s m args below meth c Q 7 k n h' 878 (LV i) []) : XW g p l e room_1 s m args below meth c Q 7 (k + 0) (n + 0) h 550 (LV i) [] := by
  obtain ⟨v, h1, h2, q1, q2, o20, L2⟩ := s_round L
  refine x_aload_n C dL_law_550 (pc' := 551) rfl rfl rfl ?_
  refine x_callV C (As := []) (st := []) (r := (some (vI v))) (h' := h1) (mc := 0) (ms := 0) (k := k) (n := n) (mX6_round q1) L.o4 (ci := 6) rfl (cwV 0 C.1.2.2.2.2 gl_X6_round rfl rfl rfl (by decide +kernel) ⟨Nat.le_of_ble_eq_true rfl, Nat.le_of_ble_eq_true rfl⟩) rfl rfl (Nat.le_of_ble_eq_true rfl) dL_law_551 (pc' := 554) rfl ?_
  refine x_aload_n C dL_law_554 (pc' := 555) rfl rfl rfl ?_
  refine x_callV C (As := []) (st := [vI v]) (r := (some (vI v))) (h' := h2) (mc := 0) (ms := 0) (k := k) (n := n) (mX7_round q2) o20 (ci := 7) rfl (cwV 0 C.1.2.2.2.2 gl_X7_round rfl rfl rfl (by decide +kernel) ⟨Nat.le_of_ble_eq_true rfl, Nat.le_of_ble_eq_true rfl⟩) rfl rfl (Nat.le_of_ble_eq_true rfl) dL_law_555 (pc' := 558) rfl ?_
  exact x_icmp_eq C (A := some ()) (B := none) (res := ()) (if_pos rfl) dL_law_558 (pc' := 561) rfl (tgt := 878) (by decide) (fun _ _ => K h2 L2) (fun q _ => absurd rfl q)
set_option maxHeartbeats 4000000 in
set_option maxRecDepth 100000 in
theorem lc_all_v2 (C : x_C g p s m args c cL_law RL 7 lw_tbl) (hi : i + 5 < g.2.2.1) (hL : g.2.2.1 ≤ 3072) {tr' su' : Nat} (L : LI h tr su) {v : Int32} {h1 h2 : Hp} (q1 : fX6_all_v2 h 4 (g.2.2.2 (i + 1)) (g.2.2.2 (i + 2)) (g.2.2.2 (i + 3)) = some (v, h1)) (q2 : fX7_all h1 20 (g.2.2.2 (i + 1)) (g.2.2.2 (i + 2)) (g.2.2.2 (i + 3)) = some (v, h2)) (o20 : O20 h1) (L2 : LI h2 tr' su') (K : ∀ h', LI h' tr' su' → XW g p l e room_1 s m args below meth c Q 7 k n h' 878 (LV i) []) : XW g p l e room_1 s m args below meth c Q 7 (k + 0) (n + 0) h 563 (LV i) [] := by
  refine x_aload_n C dL_law_563 (pc' := 564) rfl rfl rfl ?_
  refine x_arg C (t := 1) (by decide) (by omega) hL dL_law_564 dL_law_565 dL_law_567 dL_law_568 dL_law_569 (pc' := 570) rfl rfl rfl ?_
  refine x_arg C (t := 2) (by decide) (by omega) hL dL_law_570 dL_law_571 dL_law_573 dL_law_574 dL_law_575 (pc' := 576) rfl rfl rfl ?_
  refine x_arg C (t := 3) (by decide) (by omega) hL dL_law_576 dL_law_577 dL_law_579 dL_law_580 dL_law_581 (pc' := 582) rfl rfl rfl ?_
  refine x_callV C (As := [vI (g.2.2.2 (i + 1)), vI (g.2.2.2 (i + 2)), vI (g.2.2.2 (i + 3))]) (st := []) (r := (some (vI v))) (h' := h1) (mc := 0) (ms := 0) (k := k) (n := n) (mX6_all_v2 q1) L.o4 (ci := 6) rfl (cwV 3 C.1.2.2.2.2 gl_X6_all rfl rfl rfl (by decide +kernel) ⟨Nat.le_of_ble_eq_true rfl, Nat.le_of_ble_eq_true rfl⟩) rfl rfl (Nat.le_of_ble_eq_true rfl) dL_law_582 (pc' := 585) rfl ?_
  refine x_aload_n C dL_law_585 (pc' := 586) rfl rfl rfl ?_
  refine x_arg C (t := 1) (by decide) (by omega) hL dL_law_586 dL_law_587 dL_law_589 dL_law_590 dL_law_591 (pc' := 592) rfl rfl rfl ?_
  refine x_arg C (t := 2) (by decide) (by omega) hL dL_law_592 dL_law_593 dL_law_595 dL_law_596 dL_law_597 (pc' := 598) rfl rfl rfl ?_
  refine x_arg C (t := 3) (by decide) (by omega) hL dL_law_598 dL_law_599 dL_law_601 dL_law_602 dL_law_603 (pc' := 604) rfl rfl rfl ?_
  refine x_callV C (As := [vI (g.2.2.2 (i + 1)), vI (g.2.2.2 (i + 2)), vI (g.2.2.2 (i + 3))]) (st := [vI v]) (r := (some (vI v))) (h' := h2) (mc := 0) (ms := 0) (k := k) (n := n) (mX7_all q2) o20 (ci := 7) rfl (cwV 3 C.1.2.2.2.2 gl_X7_all rfl rfl rfl (by decide +kernel) ⟨Nat.le_of_ble_eq_true rfl, Nat.le_of_ble_eq_true rfl⟩) rfl rfl (Nat.le_of_ble_eq_true rfl) dL_law_604 (pc' := 607) rfl ?_
  exact x_icmp_eq C (A := some ()) (B := none) (res := ()) (if_pos rfl) dL_law_607 (pc' := 610) rfl (tgt := 878) (by decide) (fun _ _ => K h2 L2) (fun q _ => absurd rfl q)
set_option maxHeartbeats 4000000 in
set_option maxRecDepth 100000 in
theorem lc_all_new (C : x_C g p s m args c cL_law RL 7 lw_tbl) (hi : i + 5 < g.2.2.1) (hL : g.2.2.1 ≤ 3072) {tr' su' : Nat} (L : LI h tr su) {v : Int32} {h1 h2 : Hp} (q1 : fX6_all h 4 (g.2.2.2 (i + 1)) (g.2.2.2 (i + 2)) (g.2.2.2 (i + 3)) = some (v, h1)) (q2 : fX7_all h1 20 (g.2.2.2 (i + 1)) (g.2.2.2 (i + 2)) (g.2.2.2 (i + 3)) = some (v, h2)) (o20 : O20 h1) (L2 : LI h2 tr' su') (K : ∀ h', LI h' tr' su' → XW g p l e room_1 s m args below meth c Q 7 k n h' 878 (LV i) []) : XW g p l e room_1 s m args below meth c Q 7 (k + 7) (n + 16437) h 563 (LV i) [] := by
  refine x_aload_n C dL_law_563 (pc' := 564) rfl rfl rfl ?_
  refine x_arg C (t := 1) (by decide) (by omega) hL dL_law_564 dL_law_565 dL_law_567 dL_law_568 dL_law_569 (pc' := 570) rfl rfl rfl ?_
  refine x_arg C (t := 2) (by decide) (by omega) hL dL_law_570 dL_law_571 dL_law_573 dL_law_574 dL_law_575 (pc' := 576) rfl rfl rfl ?_
  refine x_arg C (t := 3) (by decide) (by omega) hL dL_law_576 dL_law_577 dL_law_579 dL_law_580 dL_law_581 (pc' := 582) rfl rfl rfl ?_
  refine x_callV C (As := [vI (g.2.2.2 (i + 1)), vI (g.2.2.2 (i + 2)), vI (g.2.2.2 (i + 3))]) (st := []) (r := (some (vI v))) (h' := h1) (mc := 7) (ms := 16437) (k := k) (n := n) (mX6_all q1) L.o4 (ci := 6) rfl (cwV 3 C.1.2.2.2.2 gl_X6_all rfl rfl rfl (by decide +kernel) ⟨Nat.le_of_ble_eq_true rfl, Nat.le_of_ble_eq_true rfl⟩) rfl rfl (Nat.le_of_ble_eq_true rfl) dL_law_582 (pc' := 585) rfl ?_
  refine x_aload_n C dL_law_585 (pc' := 586) rfl rfl rfl ?_
  refine x_arg C (t := 1) (by decide) (by omega) hL dL_law_586 dL_law_587 dL_law_589 dL_law_590 dL_law_591 (pc' := 592) rfl rfl rfl ?_
  refine x_arg C (t := 2) (by decide) (by omega) hL dL_law_592 dL_law_593 dL_law_595 dL_law_596 dL_law_597 (pc' := 598) rfl rfl rfl ?_
  refine x_arg C (t := 3) (by decide) (by omega) hL dL_law_598 dL_law_599 dL_law_601 dL_law_602 dL_law_603 (pc' := 604) rfl rfl rfl ?_
  refine x_callV C (As := [vI (g.2.2.2 (i + 1)), vI (g.2.2.2 (i + 2)), vI (g.2.2.2 (i + 3))]) (st := [vI v]) (r := (some (vI v))) (h' := h2) (mc := 0) (ms := 0) (k := k) (n := n) (mX7_all q2) o20 (ci := 7) rfl (cwV 3 C.1.2.2.2.2 gl_X7_all rfl rfl rfl (by decide +kernel) ⟨Nat.le_of_ble_eq_true rfl, Nat.le_of_ble_eq_true rfl⟩) rfl rfl (Nat.le_of_ble_eq_true rfl) dL_law_604 (pc' := 607) rfl ?_
  exact x_icmp_eq C (A := some ()) (B := none) (res := ()) (if_pos rfl) dL_law_607 (pc' := 610) rfl (tgt := 878) (by decide) (fun _ _ => K h2 L2) (fun q _ => absurd rfl q)
set_option maxHeartbeats 4000000 in
set_option maxRecDepth 100000 in
theorem lc_keeps (C : x_C g p s m args c cL_law RL 7 lw_tbl) (hi : i + 5 < g.2.2.1) (hL : g.2.2.1 ≤ 3072) (L : LI h tr su) (K : ∀ h', LI h' tr su → XW g p l e room_1 s m args below meth c Q 7 k n h' 878 (LV i) []) : XW g p l e room_1 s m args below meth c Q 7 (k + 0) (n + 0) h 612 (LV i) [] := by
  obtain ⟨v, h1, h2, q1, q2, o20, L2⟩ := s_keeps L (g.2.2.2 (i + 1))
  refine x_aload_n C dL_law_612 (pc' := 613) rfl rfl rfl ?_
  refine x_arg C (t := 1) (by decide) (by omega) hL dL_law_613 dL_law_614 dL_law_616 dL_law_617 dL_law_618 (pc' := 619) rfl rfl rfl ?_
  refine x_callV C (As := [vI (g.2.2.2 (i + 1))]) (st := []) (r := (some (vI v))) (h' := h1) (mc := 0) (ms := 0) (k := k) (n := n) (mX6_keeps q1) L.o4 (ci := 6) rfl (cwV 1 C.1.2.2.2.2 gl_X6_keeps rfl rfl rfl (by decide +kernel) ⟨Nat.le_of_ble_eq_true rfl, Nat.le_of_ble_eq_true rfl⟩) rfl rfl (Nat.le_of_ble_eq_true rfl) dL_law_619 (pc' := 622) rfl ?_
  refine x_aload_n C dL_law_622 (pc' := 623) rfl rfl rfl ?_
  refine x_arg C (t := 1) (by decide) (by omega) hL dL_law_623 dL_law_624 dL_law_626 dL_law_627 dL_law_628 (pc' := 629) rfl rfl rfl ?_
  refine x_callV C (As := [vI (g.2.2.2 (i + 1))]) (st := [vI v]) (r := (some (vI v))) (h' := h2) (mc := 0) (ms := 0) (k := k) (n := n) (mX7_keeps q2) o20 (ci := 7) rfl (cwV 1 C.1.2.2.2.2 gl_X7_keeps rfl rfl rfl (by decide +kernel) ⟨Nat.le_of_ble_eq_true rfl, Nat.le_of_ble_eq_true rfl⟩) rfl rfl (Nat.le_of_ble_eq_true rfl) dL_law_629 (pc' := 632) rfl ?_
  exact x_icmp_eq C (A := some ()) (B := none) (res := ()) (if_pos rfl) dL_law_632 (pc' := 635) rfl (tgt := 878) (by decide) (fun _ _ => K h2 L2) (fun q _ => absurd rfl q)
set_option maxHeartbeats 4000000 in
set_option maxRecDepth 100000 in
theorem lc_join (C : x_C g p s m args c cL_law RL 7 lw_tbl) (hi : i + 5 < g.2.2.1) (hL : g.2.2.1 ≤ 3072) (L : LI h tr su) (K : ∀ h', LI h' tr su → XW g p l e room_1 s m args below meth c Q 7 k n h' 878 (LV i) []) : XW g p l e room_1 s m args below meth c Q 7 (k + 2) (n + 32) h 637 (LV i) [] := by
  obtain ⟨v, h1, h2, q1, q2, o20, L2⟩ := s_join L (g.2.2.2 (i + 1)) (g.2.2.2 (i + 2)) (g.2.2.2 (i + 3))
  refine x_aload_n C dL_law_637 (pc' := 638) rfl rfl rfl ?_
  refine x_arg C (t := 1) (by decide) (by omega) hL dL_law_638 dL_law_639 dL_law_641 dL_law_642 dL_law_643 (pc' := 644) rfl rfl rfl ?_
  refine x_arg C (t := 2) (by decide) (by omega) hL dL_law_644 dL_law_645 dL_law_647 dL_law_648 dL_law_649 (pc' := 650) rfl rfl rfl ?_
  refine x_arg C (t := 3) (by decide) (by omega) hL dL_law_650 dL_law_651 dL_law_653 dL_law_654 dL_law_655 (pc' := 656) rfl rfl rfl ?_
  refine x_callV C (As := [vI (g.2.2.2 (i + 1)), vI (g.2.2.2 (i + 2)), vI (g.2.2.2 (i + 3))]) (st := []) (r := (some (vI v))) (h' := h1) (mc := 2) (ms := 32) (k := k) (n := n) (mX6_join q1) L.o4 (ci := 6) rfl (cwV 3 C.1.2.2.2.2 gl_X6_join rfl rfl rfl (by decide +kernel) ⟨Nat.le_of_ble_eq_true rfl, Nat.le_of_ble_eq_true rfl⟩) rfl rfl (Nat.le_of_ble_eq_true rfl) dL_law_656 (pc' := 659) rfl ?_
  refine x_aload_n C dL_law_659 (pc' := 660) rfl rfl rfl ?_
  refine x_arg C (t := 1) (by decide) (by omega) hL dL_law_660 dL_law_661 dL_law_663 dL_law_664 dL_law_665 (pc' := 666) rfl rfl rfl ?_
  refine x_arg C (t := 2) (by decide) (by omega) hL dL_law_666 dL_law_667 dL_law_669 dL_law_670 dL_law_671 (pc' := 672) rfl rfl rfl ?_
  refine x_arg C (t := 3) (by decide) (by omega) hL dL_law_672 dL_law_673 dL_law_675 dL_law_676 dL_law_677 (pc' := 678) rfl rfl rfl ?_
  refine x_callV C (As := [vI (g.2.2.2 (i + 1)), vI (g.2.2.2 (i + 2)), vI (g.2.2.2 (i + 3))]) (st := [vI v]) (r := (some (vI v))) (h' := h2) (mc := 0) (ms := 0) (k := k) (n := n) (mX7_join q2) o20 (ci := 7) rfl (cwV 3 C.1.2.2.2.2 gl_X7_join rfl rfl rfl (by decide +kernel) ⟨Nat.le_of_ble_eq_true rfl, Nat.le_of_ble_eq_true rfl⟩) rfl rfl (Nat.le_of_ble_eq_true rfl) dL_law_678 (pc' := 681) rfl ?_
  exact x_icmp_eq C (A := some ()) (B := none) (res := ()) (if_pos rfl) dL_law_681 (pc' := 684) rfl (tgt := 878) (by decide) (fun _ _ => K h2 L2) (fun q _ => absurd rfl q)
set_option maxHeartbeats 4000000 in
set_option maxRecDepth 100000 in
theorem lc_mirror (C : x_C g p s m args c cL_law RL 7 lw_tbl) (hi : i + 5 < g.2.2.1) (hL : g.2.2.1 ≤ 3072) (L : LI h tr su) (K : ∀ h', LI h' tr su → XW g p l e room_1 s m args below meth c Q 7 k n h' 878 (LV i) []) : XW g p l e room_1 s m args below meth c Q 7 (k + 2) (n + 32) h 686 (LV i) [] := by
  obtain ⟨v, h1, h2, q1, q2, o20, L2⟩ := s_mirror L (g.2.2.2 (i + 1)) (g.2.2.2 (i + 2))
  refine x_aload_n C dL_law_686 (pc' := 687) rfl rfl rfl ?_
  refine x_arg C (t := 1) (by decide) (by omega) hL dL_law_687 dL_law_688 dL_law_690 dL_law_691 dL_law_692 (pc' := 693) rfl rfl rfl ?_
  refine x_arg C (t := 2) (by decide) (by omega) hL dL_law_693 dL_law_694 dL_law_696 dL_law_697 dL_law_698 (pc' := 699) rfl rfl rfl ?_
  refine x_callV C (As := [vI (g.2.2.2 (i + 1)), vI (g.2.2.2 (i + 2))]) (st := []) (r := (some (vI v))) (h' := h1) (mc := 2) (ms := 32) (k := k) (n := n) (mX6_mirror q1) L.o4 (ci := 6) rfl (cwV 2 C.1.2.2.2.2 gl_X6_mirror rfl rfl rfl (by decide +kernel) ⟨Nat.le_of_ble_eq_true rfl, Nat.le_of_ble_eq_true rfl⟩) rfl rfl (Nat.le_of_ble_eq_true rfl) dL_law_699 (pc' := 702) rfl ?_
  refine x_aload_n C dL_law_702 (pc' := 703) rfl rfl rfl ?_
  refine x_arg C (t := 1) (by decide) (by omega) hL dL_law_703 dL_law_704 dL_law_706 dL_law_707 dL_law_708 (pc' := 709) rfl rfl rfl ?_
  refine x_arg C (t := 2) (by decide) (by omega) hL dL_law_709 dL_law_710 dL_law_712 dL_law_713 dL_law_714 (pc' := 715) rfl rfl rfl ?_
  refine x_callV C (As := [vI (g.2.2.2 (i + 1)), vI (g.2.2.2 (i + 2))]) (st := [vI v]) (r := (some (vI v))) (h' := h2) (mc := 0) (ms := 0) (k := k) (n := n) (mX7_mirror q2) o20 (ci := 7) rfl (cwV 2 C.1.2.2.2.2 gl_X7_mirror rfl rfl rfl (by decide +kernel) ⟨Nat.le_of_ble_eq_true rfl, Nat.le_of_ble_eq_true rfl⟩) rfl rfl (Nat.le_of_ble_eq_true rfl) dL_law_715 (pc' := 718) rfl ?_
  exact x_icmp_eq C (A := some ()) (B := none) (res := ()) (if_pos rfl) dL_law_718 (pc' := 721) rfl (tgt := 878) (by decide) (fun _ _ => K h2 L2) (fun q _ => absurd rfl q)
set_option maxHeartbeats 4000000 in
set_option maxRecDepth 100000 in
theorem lc_rename (C : x_C g p s m args c cL_law RL 7 lw_tbl) (hi : i + 5 < g.2.2.1) (hL : g.2.2.1 ≤ 3072) (L : LI h tr su) (K : ∀ h', LI h' tr su → XW g p l e room_1 s m args below meth c Q 7 k n h' 878 (LV i) []) : XW g p l e room_1 s m args below meth c Q 7 (k + 2) (n + 32) h 723 (LV i) [] := by
  obtain ⟨v, h1, h2, q1, q2, o20, L2⟩ := s_rename L (g.2.2.2 (i + 1)) (g.2.2.2 (i + 2))
  refine x_aload_n C dL_law_723 (pc' := 724) rfl rfl rfl ?_
  refine x_arg C (t := 1) (by decide) (by omega) hL dL_law_724 dL_law_725 dL_law_727 dL_law_728 dL_law_729 (pc' := 730) rfl rfl rfl ?_
  refine x_arg C (t := 2) (by decide) (by omega) hL dL_law_730 dL_law_731 dL_law_733 dL_law_734 dL_law_735 (pc' := 736) rfl rfl rfl ?_
  refine x_callV C (As := [vI (g.2.2.2 (i + 1)), vI (g.2.2.2 (i + 2))]) (st := []) (r := (some (vI v))) (h' := h1) (mc := 2) (ms := 32) (k := k) (n := n) (mX6_rename q1) L.o4 (ci := 6) rfl (cwV 2 C.1.2.2.2.2 gl_X6_rename rfl rfl rfl (by decide +kernel) ⟨Nat.le_of_ble_eq_true rfl, Nat.le_of_ble_eq_true rfl⟩) rfl rfl (Nat.le_of_ble_eq_true rfl) dL_law_736 (pc' := 739) rfl ?_
  refine x_aload_n C dL_law_739 (pc' := 740) rfl rfl rfl ?_
  refine x_arg C (t := 1) (by decide) (by omega) hL dL_law_740 dL_law_741 dL_law_743 dL_law_744 dL_law_745 (pc' := 746) rfl rfl rfl ?_
  refine x_arg C (t := 2) (by decide) (by omega) hL dL_law_746 dL_law_747 dL_law_749 dL_law_750 dL_law_751 (pc' := 752) rfl rfl rfl ?_
  refine x_callV C (As := [vI (g.2.2.2 (i + 1)), vI (g.2.2.2 (i + 2))]) (st := [vI v]) (r := (some (vI v))) (h' := h2) (mc := 0) (ms := 0) (k := k) (n := n) (mX7_rename q2) o20 (ci := 7) rfl (cwV 2 C.1.2.2.2.2 gl_X7_rename rfl rfl rfl (by decide +kernel) ⟨Nat.le_of_ble_eq_true rfl, Nat.le_of_ble_eq_true rfl⟩) rfl rfl (Nat.le_of_ble_eq_true rfl) dL_law_752 (pc' := 755) rfl ?_
  exact x_icmp_eq C (A := some ()) (B := none) (res := ()) (if_pos rfl) dL_law_755 (pc' := 758) rfl (tgt := 878) (by decide) (fun _ _ => K h2 L2) (fun q _ => absurd rfl q)
set_option maxHeartbeats 4000000 in
set_option maxRecDepth 100000 in
theorem lc_trim (C : x_C g p s m args c cL_law RL 7 lw_tbl) (hi : i + 5 < g.2.2.1) (hL : g.2.2.1 ≤ 3072) (L : LI h tr su) (K : ∀ h', LI h' tr su → XW g p l e room_1 s m args below meth c Q 7 k n h' 878 (LV i) []) : XW g p l e room_1 s m args below meth c Q 7 (k + 20) (n + 364) h 760 (LV i) [] := by
  obtain ⟨v, h1, h2, q1, q2, o20, L2⟩ := s_trim L (g.2.2.2 (i + 1)) (g.2.2.2 (i + 2))
  refine x_aload_n C dL_law_760 (pc' := 761) rfl rfl rfl ?_
  refine x_arg C (t := 1) (by decide) (by omega) hL dL_law_761 dL_law_762 dL_law_764 dL_law_765 dL_law_766 (pc' := 767) rfl rfl rfl ?_
  refine x_arg C (t := 2) (by decide) (by omega) hL dL_law_767 dL_law_768 dL_law_770 dL_law_771 dL_law_772 (pc' := 773) rfl rfl rfl ?_
  refine x_callV C (As := [vI (g.2.2.2 (i + 1)), vI (g.2.2.2 (i + 2))]) (st := []) (r := (some (vI v))) (h' := h1) (mc := 20) (ms := 364) (k := k) (n := n) (mX6_trim q1) L.o4 (ci := 6) rfl (cwV 2 C.1.2.2.2.2 gl_X6_trim rfl rfl rfl (by decide +kernel) ⟨Nat.le_of_ble_eq_true rfl, Nat.le_of_ble_eq_true rfl⟩) rfl rfl (Nat.le_of_ble_eq_true rfl) dL_law_773 (pc' := 776) rfl ?_
  refine x_aload_n C dL_law_776 (pc' := 777) rfl rfl rfl ?_
  refine x_arg C (t := 1) (by decide) (by omega) hL dL_law_777 dL_law_778 dL_law_780 dL_law_781 dL_law_782 (pc' := 783) rfl rfl rfl ?_
  refine x_arg C (t := 2) (by decide) (by omega) hL dL_law_783 dL_law_784 dL_law_786 dL_law_787 dL_law_788 (pc' := 789) rfl rfl rfl ?_
  refine x_callV C (As := [vI (g.2.2.2 (i + 1)), vI (g.2.2.2 (i + 2))]) (st := [vI v]) (r := (some (vI v))) (h' := h2) (mc := 0) (ms := 0) (k := k) (n := n) (mX7_trim q2) o20 (ci := 7) rfl (cwV 2 C.1.2.2.2.2 gl_X7_trim rfl rfl rfl (by decide +kernel) ⟨Nat.le_of_ble_eq_true rfl, Nat.le_of_ble_eq_true rfl⟩) rfl rfl (Nat.le_of_ble_eq_true rfl) dL_law_789 (pc' := 792) rfl ?_
  exact x_icmp_eq C (A := some ()) (B := none) (res := ()) (if_pos rfl) dL_law_792 (pc' := 795) rfl (tgt := 878) (by decide) (fun _ _ => K h2 L2) (fun q _ => absurd rfl q)
set_option maxHeartbeats 4000000 in
set_option maxRecDepth 100000 in
theorem lc_count (C : x_C g p s m args c cL_law RL 7 lw_tbl) (hi : i + 5 < g.2.2.1) (hL : g.2.2.1 ≤ 3072) (L : LI h tr su) (K : ∀ h', LI h' tr su → XW g p l e room_1 s m args below meth c Q 7 k n h' 878 (LV i) []) : XW g p l e room_1 s m args below meth c Q 7 (k + 0) (n + 0) h 853 (LV i) [] := by
  obtain ⟨v, h1, h2, q1, q2, o20, L2⟩ := s_count L (g.2.2.2 (i + 1))
  refine x_aload_n C dL_law_853 (pc' := 854) rfl rfl rfl ?_
  refine x_arg C (t := 1) (by decide) (by omega) hL dL_law_854 dL_law_855 dL_law_857 dL_law_858 dL_law_859 (pc' := 860) rfl rfl rfl ?_
  refine x_callV C (As := [vI (g.2.2.2 (i + 1))]) (st := []) (r := (some (vI v))) (h' := h1) (mc := 0) (ms := 0) (k := k) (n := n) (mX6_count q1) L.o4 (ci := 6) rfl (cwV 1 C.1.2.2.2.2 gl_X6_count rfl rfl rfl (by decide +kernel) ⟨Nat.le_of_ble_eq_true rfl, Nat.le_of_ble_eq_true rfl⟩) rfl rfl (Nat.le_of_ble_eq_true rfl) dL_law_860 (pc' := 863) rfl ?_
  refine x_aload_n C dL_law_863 (pc' := 864) rfl rfl rfl ?_
  refine x_arg C (t := 1) (by decide) (by omega) hL dL_law_864 dL_law_865 dL_law_867 dL_law_868 dL_law_869 (pc' := 870) rfl rfl rfl ?_
  refine x_callV C (As := [vI (g.2.2.2 (i + 1))]) (st := [vI v]) (r := (some (vI v))) (h' := h2) (mc := 0) (ms := 0) (k := k) (n := n) (mX7_count_ q2) o20 (ci := 7) rfl (cwV 1 C.1.2.2.2.2 gl_X7_count_ rfl rfl rfl (by decide +kernel) ⟨Nat.le_of_ble_eq_true rfl, Nat.le_of_ble_eq_true rfl⟩) rfl rfl (Nat.le_of_ble_eq_true rfl) dL_law_870 (pc' := 873) rfl ?_
  exact x_icmp_eq C (A := some ()) (B := none) (res := ()) (if_pos rfl) dL_law_873 (pc' := 876) rfl (tgt := 878) (by decide) (fun _ _ => K h2 L2) (fun q _ => absurd rfl q)
end LC
