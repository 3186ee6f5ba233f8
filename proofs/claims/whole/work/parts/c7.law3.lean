theorem zw_202 : Cond.code yX5_pop cX5_pop 1 (some .int) ∈ TBL := tk_3 7 (by decide +kernel) (by decide +kernel)
theorem zw_203 : Cond.methodLink RL 48 yX5_pop ∈ TBL := tk_3 4 (by decide +kernel) (by decide +kernel)
theorem zw_204 : Cond.instanceMethod yX5_pop ∈ TBL := tk_3 5 (by decide +kernel) (by decide +kernel)
theorem zw_205 : Cond.selects RX5 yX5_pop yX5_pop ∈ TBL := tk_3 6 (by decide +kernel) (by decide +kernel)
theorem zw_206 : Cond.code yX6_pop cX6_pop 1 (some .int) ∈ TBL := tk_4 230 (by decide +kernel) (by decide +kernel)
theorem zw_207 : Cond.methodLink RL 51 yX6_pop ∈ TBL := tk_4 227 (by decide +kernel) (by decide +kernel)
theorem zw_208 : Cond.instanceMethod yX6_pop ∈ TBL := tk_4 228 (by decide +kernel) (by decide +kernel)
theorem zw_209 : Cond.selects RX6 yX6_pop yX6_pop ∈ TBL := tk_4 229 (by decide +kernel) (by decide +kernel)
theorem zw_210 : Cond.code yX5_step cX5_step 2 (some .int) ∈ TBL := tk_3 15 (by decide +kernel) (by decide +kernel)
theorem zw_211 : Cond.methodLink RL 52 yX5_step ∈ TBL := tk_3 12 (by decide +kernel) (by decide +kernel)
theorem zw_212 : Cond.instanceMethod yX5_step ∈ TBL := tk_3 13 (by decide +kernel) (by decide +kernel)
theorem zw_213 : Cond.selects RX5 yX5_step yX5_step ∈ TBL := tk_3 14 (by decide +kernel) (by decide +kernel)
theorem zw_214 : Cond.code yX6_step cX6_step 2 (some .int) ∈ TBL := tk_4 234 (by decide +kernel) (by decide +kernel)
theorem zw_215 : Cond.methodLink RL 55 yX6_step ∈ TBL := tk_4 231 (by decide +kernel) (by decide +kernel)
theorem zw_216 : Cond.instanceMethod yX6_step ∈ TBL := tk_4 232 (by decide +kernel) (by decide +kernel)
theorem zw_217 : Cond.selects RX6 yX6_step yX6_step ∈ TBL := tk_4 233 (by decide +kernel) (by decide +kernel)
theorem zw_218 : Cond.code yX5_go cX5_go 3 (some .int) ∈ TBL := tk_3 36 (by decide +kernel) (by decide +kernel)
theorem zw_219 : Cond.methodLink RL 56 yX5_go ∈ TBL := tk_3 33 (by decide +kernel) (by decide +kernel)
theorem zw_220 : Cond.instanceMethod yX5_go ∈ TBL := tk_3 34 (by decide +kernel) (by decide +kernel)
theorem zw_221 : Cond.selects RX5 yX5_go yX5_go ∈ TBL := tk_3 35 (by decide +kernel) (by decide +kernel)
theorem zw_222 : Cond.code yX6_go cX6_go 3 (some .int) ∈ TBL := tk_5 6 (by decide +kernel) (by decide +kernel)
theorem zw_223 : Cond.methodLink RL 59 yX6_go ∈ TBL := tk_5 3 (by decide +kernel) (by decide +kernel)
theorem zw_224 : Cond.instanceMethod yX6_go ∈ TBL := tk_5 4 (by decide +kernel) (by decide +kernel)
theorem zw_225 : Cond.selects RX6 yX6_go yX6_go ∈ TBL := tk_5 5 (by decide +kernel) (by decide +kernel)
theorem zw_226 : Cond.code yX5_enter cX5_enter 6 (some .int) ∈ TBL := tk_3 44 (by decide +kernel) (by decide +kernel)
theorem zw_227 : Cond.methodLink RL 60 yX5_enter ∈ TBL := tk_3 41 (by decide +kernel) (by decide +kernel)
theorem zw_228 : Cond.instanceMethod yX5_enter ∈ TBL := tk_3 42 (by decide +kernel) (by decide +kernel)
theorem zw_229 : Cond.selects RX5 yX5_enter yX5_enter ∈ TBL := tk_3 43 (by decide +kernel) (by decide +kernel)
theorem zw_230 : Cond.code yX6_enter cX6_enter 6 (some .int) ∈ TBL := tk_5 14 (by decide +kernel) (by decide +kernel)
theorem zw_231 : Cond.methodLink RL 64 yX6_enter ∈ TBL := tk_5 11 (by decide +kernel) (by decide +kernel)
theorem zw_232 : Cond.instanceMethod yX6_enter ∈ TBL := tk_5 12 (by decide +kernel) (by decide +kernel)
theorem zw_233 : Cond.selects RX6 yX6_enter yX6_enter ∈ TBL := tk_5 13 (by decide +kernel) (by decide +kernel)
theorem zw_234 : Cond.code yX5_drop cX5_drop 2 (some .int) ∈ TBL := tk_3 52 (by decide +kernel) (by decide +kernel)
theorem zw_235 : Cond.methodLink RL 65 yX5_drop ∈ TBL := tk_3 49 (by decide +kernel) (by decide +kernel)
theorem zw_236 : Cond.instanceMethod yX5_drop ∈ TBL := tk_3 50 (by decide +kernel) (by decide +kernel)
theorem zw_237 : Cond.selects RX5 yX5_drop yX5_drop ∈ TBL := tk_3 51 (by decide +kernel) (by decide +kernel)
theorem zw_238 : Cond.code yX6_drop cX6_drop 3 (some .int) ∈ TBL := tk_5 22 (by decide +kernel) (by decide +kernel)
theorem zw_239 : Cond.methodLink RL 68 yX6_drop ∈ TBL := tk_5 19 (by decide +kernel) (by decide +kernel)
theorem zw_240 : Cond.instanceMethod yX6_drop ∈ TBL := tk_5 20 (by decide +kernel) (by decide +kernel)
theorem zw_241 : Cond.selects RX6 yX6_drop yX6_drop ∈ TBL := tk_5 21 (by decide +kernel) (by decide +kernel)
theorem zw_242 : Cond.code yX5_weigh cX5_weigh 4 (some .int) ∈ TBL := tk_3 60 (by decide +kernel) (by decide +kernel)
theorem zw_243 : Cond.methodLink RL 69 yX5_weigh ∈ TBL := tk_3 57 (by decide +kernel) (by decide +kernel)
theorem zw_244 : Cond.instanceMethod yX5_weigh ∈ TBL := tk_3 58 (by decide +kernel) (by decide +kernel)
theorem zw_245 : Cond.selects RX5 yX5_weigh yX5_weigh ∈ TBL := tk_3 59 (by decide +kernel) (by decide +kernel)
theorem zw_246 : Cond.code yX6_weigh cX6_weigh 4 (some .int) ∈ TBL := tk_5 26 (by decide +kernel) (by decide +kernel)
theorem zw_247 : Cond.methodLink RL 72 yX6_weigh ∈ TBL := tk_5 23 (by decide +kernel) (by decide +kernel)
theorem zw_248 : Cond.instanceMethod yX6_weigh ∈ TBL := tk_5 24 (by decide +kernel) (by decide +kernel)
theorem zw_249 : Cond.selects RX6 yX6_weigh yX6_weigh ∈ TBL := tk_5 25 (by decide +kernel) (by decide +kernel)
theorem zw_250 : Cond.code yX5_mode cX5_mode 3 (some .int) ∈ TBL := tk_3 64 (by decide +kernel) (by decide +kernel)
theorem zw_251 : Cond.methodLink RL 73 yX5_mode ∈ TBL := tk_3 61 (by decide +kernel) (by decide +kernel)
theorem zw_252 : Cond.instanceMethod yX5_mode ∈ TBL := tk_3 62 (by decide +kernel) (by decide +kernel)
theorem zw_253 : Cond.selects RX5 yX5_mode yX5_mode ∈ TBL := tk_3 63 (by decide +kernel) (by decide +kernel)
theorem zw_254 : Cond.code yX6_mode cX6_mode 3 (some .int) ∈ TBL := tk_5 30 (by decide +kernel) (by decide +kernel)
theorem zw_255 : Cond.methodLink RL 76 yX6_mode ∈ TBL := tk_5 27 (by decide +kernel) (by decide +kernel)
theorem zw_256 : Cond.instanceMethod yX6_mode ∈ TBL := tk_5 28 (by decide +kernel) (by decide +kernel)
theorem zw_257 : Cond.selects RX6 yX6_mode yX6_mode ∈ TBL := tk_5 29 (by decide +kernel) (by decide +kernel)
theorem zw_258 : Cond.code yX5_undo cX5_undo 1 (some .int) ∈ TBL := tk_3 68 (by decide +kernel) (by decide +kernel)
theorem zw_259 : Cond.methodLink RL 77 yX5_undo ∈ TBL := tk_3 65 (by decide +kernel) (by decide +kernel)
theorem zw_260 : Cond.instanceMethod yX5_undo ∈ TBL := tk_3 66 (by decide +kernel) (by decide +kernel)
theorem zw_261 : Cond.selects RX5 yX5_undo yX5_undo ∈ TBL := tk_3 67 (by decide +kernel) (by decide +kernel)
theorem zw_262 : Cond.code yX6_undo cX6_undo 1 (some .int) ∈ TBL := tk_4 180 (by decide +kernel) (by decide +kernel)
theorem zw_263 : Cond.methodLink RL 80 yX6_undo ∈ TBL := tk_4 177 (by decide +kernel) (by decide +kernel)
theorem zw_264 : Cond.instanceMethod yX6_undo ∈ TBL := tk_4 178 (by decide +kernel) (by decide +kernel)
theorem zw_265 : Cond.selects RX6 yX6_undo yX6_undo ∈ TBL := tk_4 179 (by decide +kernel) (by decide +kernel)
section LAW3
variable {p : Program} {l : Launch} {e : Env} {s : State} {mi : MethodId} {b : Nat} {below : List Frame} {meth : Method} {c : Code} {Q : State → Prop} {D : va_G} {K : Nat → ClassId} {L : Nat} {xs : Nat → Int32} {aa : Nat → Nat → Nat} {am : Nat → Nat} {cells slots : Nat}
set_option maxRecDepth 100000 in
set_option maxHeartbeats 4000000 in
theorem lc_pop (F : FX p s mi #[Value.ref b] meth c code RL 4 ret D K) (hX : va_X b L xs s s.heap) (hbl : b < s.heap.size) (hL : L ≤ 3072) {i : Nat} (hi : i + 6 ≤ L) (hcs : cells ≤ room_1.cells ∧ slots ≤ room_1.slots) (NX : NXT p l e s mi b below meth c Q D K aa am i cells slots)
    {x sc now draft : ob} {past saved : Nat → ob} {net paces trial route reach m : ob} {g : nb} {H : Heap} {locs : List Loc} {ls : Array Slot} (HG : RG rok x sc now draft past saved net paces route m g) (h : WD D (fun q => s.heap.size ≤ q) s.heap H locs (SL K aa am x sc now draft past saved net paces trial route reach m)) (hl : lv_has ls 4 [(0, .ref b), (1, .ref (aa 0 0)), (2, .ref (am 0)), (3, .int (nI i))]) :
    W p l e room_1 s mi #[Value.ref b] below meth c H locs cells slots Q (F0 mi 338 ls []) := by
  have hx := F.1
  have hb := F.2.1
  have hbA : ¬ (fun q => s.heap.size ≤ q) b := Nat.not_le.mpr hbl
  obtain ⟨ans, x', now', past', m', g', e5, e6, H'⟩ := eq_pop HG
  have h : WD D (fun q => s.heap.size ≤ q) s.heap H locs [wX5 K aa x, wX3 K (aa 1) sc, wX4 K (aa 2) now, wX4 K (aa 3) draft, wF K 8 (fun i => aa (9 + i)) past, wF K 2 (fun i => aa (17 + i)) saved, wX0 K (aa 4) net, wX0 K (aa 5) paces, wX0 K (aa 6) trial, wX2 K (aa 7) route, wX1 K (aa 8) reach, wX6 K am m] := h
  refine lv_aload_n hx hb dL_law_338 rfl (lv_at hl 1 rfl) ?_
  refine r_callVi (As := []) (rest := []) (C0 := [wX5 K aa x, wX4 K (aa 2) now, wF K 8 (fun i => aa (9 + i)) past]) (C1 := [wX5 K aa x', wX4 K (aa 2) now', wF K 8 (fun i => aa (9 + i)) past']) (Rr := [wX3 K (aa 1) sc, wX4 K (aa 3) draft, wF K 2 (fun i => aa (17 + i)) saved, wX0 K (aa 4) net, wX0 K (aa 5) paces, wX0 K (aa 6) trial, wX2 K (aa 7) route, wX1 K (aa 8) reach, wX6 K am m]) (S' := [wX5 K aa x', wX3 K (aa 1) sc, wX4 K (aa 2) now', wX4 K (aa 3) draft, wF K 8 (fun i => aa (9 + i)) past', wF K 2 (fun i => aa (17 + i)) saved, wX0 K (aa 4) net, wX0 K (aa 5) paces, wX0 K (aa 6) trial, wX2 K (aa 7) route, wX1 K (aa 8) reach, wX6 K am m]) F h hl (c5_pop l D K aa x now past (ans, x', now', past') e5) [0, 2, 4, 1, 3, 5, 6, 7, 8, 9, 10, 11] pk_0_2_4p (pk_0_2_4 _ _ _ _ _ _ _ _ _ _ _ _) (pk_0_2_4 _ _ _ _ _ _ _ _ _ _ _ _) rfl rfl (i := 0) rfl rfl zw_202 ⟨zw_203, zw_204, zw_205, zw_140⟩ hsl5_pop ⟨Nat.le_of_ble_eq_true rfl, Nat.le_of_ble_eq_true rfl⟩ hcs (Nat.le_of_ble_eq_true rfl) dL_law_339 (fun H locs h => ?_)
  refine lv_aload_n hx hb dL_law_342 rfl (lv_at hl 2 rfl) ?_
  refine r_callVi (As := []) (rest := [.int ans]) (C0 := [wX6 K am m]) (C1 := [wX6 K am m']) (Rr := [wX5 K aa x', wX3 K (aa 1) sc, wX4 K (aa 2) now', wX4 K (aa 3) draft, wF K 8 (fun i => aa (9 + i)) past', wF K 2 (fun i => aa (17 + i)) saved, wX0 K (aa 4) net, wX0 K (aa 5) paces, wX0 K (aa 6) trial, wX2 K (aa 7) route, wX1 K (aa 8) reach]) (S' := [wX5 K aa x', wX3 K (aa 1) sc, wX4 K (aa 2) now', wX4 K (aa 3) draft, wF K 8 (fun i => aa (9 + i)) past', wF K 2 (fun i => aa (17 + i)) saved, wX0 K (aa 4) net, wX0 K (aa 5) paces, wX0 K (aa 6) trial, wX2 K (aa 7) route, wX1 K (aa 8) reach, wX6 K am m']) F h hl (c6_pop l D K am m (ans, m') e6) [11, 0, 1, 2, 3, 4, 5, 6, 7, 8, 9, 10] pk_11p (pk_11 _ _ _ _ _ _ _ _ _ _ _ _) (pk_11 _ _ _ _ _ _ _ _ _ _ _ _) rfl rfl (i := 11) rfl rfl zw_206 ⟨zw_207, zw_208, zw_209, zw_145⟩ hsl6_pop ⟨Nat.le_of_ble_eq_true rfl, Nat.le_of_ble_eq_true rfl⟩ hcs (Nat.le_of_ble_eq_true rfl) dL_law_343 (fun H locs h => ?_)
  refine lv_icmp_eq (tgt := 851) hx hb dL_law_346 (by decide) (fun _ => ?_) (fun c1 => absurd rfl c1)
  exact NX _ _ _ _ _ _ _ _ _ _ _ _ _ _ _ ls H' h hl
set_option maxRecDepth 100000 in
set_option maxHeartbeats 4000000 in
theorem lc_step (F : FX p s mi #[Value.ref b] meth c code RL 4 ret D K) (hX : va_X b L xs s s.heap) (hbl : b < s.heap.size) (hL : L ≤ 3072) {i : Nat} (hi : i + 6 ≤ L) (hcs : cells ≤ room_1.cells ∧ slots ≤ room_1.slots) (NX : NXT p l e s mi b below meth c Q D K aa am i cells slots)
    {x sc now draft : ob} {past saved : Nat → ob} {net paces trial route reach m : ob} {g : nb} {H : Heap} {locs : List Loc} {ls : Array Slot} (HG : RG rok x sc now draft past saved net paces route m g) (h : WD D (fun q => s.heap.size ≤ q) s.heap H locs (SL K aa am x sc now draft past saved net paces trial route reach m)) (hl : lv_has ls 4 [(0, .ref b), (1, .ref (aa 0 0)), (2, .ref (am 0)), (3, .int (nI i))]) :
    W p l e room_1 s mi #[Value.ref b] below meth c H locs cells slots Q (F0 mi 351 ls []) := by
  have hx := F.1
  have hb := F.2.1
  have hbA : ¬ (fun q => s.heap.size ≤ q) b := Nat.not_le.mpr hbl
  obtain ⟨ans, x', now', past', m', g', e5, e6, H'⟩ := eq_step HG (xs (nI i + 1).toNatClampNeg)
  have h : WD D (fun q => s.heap.size ≤ q) s.heap H locs [wX5 K aa x, wX3 K (aa 1) sc, wX4 K (aa 2) now, wX4 K (aa 3) draft, wF K 8 (fun i => aa (9 + i)) past, wF K 2 (fun i => aa (17 + i)) saved, wX0 K (aa 4) net, wX0 K (aa 5) paces, wX0 K (aa 6) trial, wX2 K (aa 7) route, wX1 K (aa 8) reach, wX6 K am m] := h
  refine lv_aload_n hx hb dL_law_351 rfl (lv_at hl 1 rfl) ?_
  refine lv_aload_n hx hb dL_law_352 rfl (lv_at hl 0 rfl) ?_
  refine lv_iload_n hx hb dL_law_353 rfl (lv_at hl 3 rfl) ?_
  refine lv_iconst (v := 1) hx hb dL_law_354 (by decide) ?_
  refine lv_iadd hx hb dL_law_355 ?_
  refine va_sld hx hb hX hbl hbA h.2.2.1 (vpi 1 hi hL (by decide)) dL_law_356 ?_
  refine r_callVi (As := [.int (xs (nI i + 1).toNatClampNeg)]) (rest := []) (C0 := [wX5 K aa x, wX4 K (aa 2) now, wF K 8 (fun i => aa (9 + i)) past]) (C1 := [wX5 K aa x', wX4 K (aa 2) now', wF K 8 (fun i => aa (9 + i)) past']) (Rr := [wX3 K (aa 1) sc, wX4 K (aa 3) draft, wF K 2 (fun i => aa (17 + i)) saved, wX0 K (aa 4) net, wX0 K (aa 5) paces, wX0 K (aa 6) trial, wX2 K (aa 7) route, wX1 K (aa 8) reach, wX6 K am m]) (S' := [wX5 K aa x', wX3 K (aa 1) sc, wX4 K (aa 2) now', wX4 K (aa 3) draft, wF K 8 (fun i => aa (9 + i)) past', wF K 2 (fun i => aa (17 + i)) saved, wX0 K (aa 4) net, wX0 K (aa 5) paces, wX0 K (aa 6) trial, wX2 K (aa 7) route, wX1 K (aa 8) reach, wX6 K am m]) F h hl (c5_step l D K aa (xs (nI i + 1).toNatClampNeg) x now past (ans, x', now', past') e5) [0, 2, 4, 1, 3, 5, 6, 7, 8, 9, 10, 11] pk_0_2_4p (pk_0_2_4 _ _ _ _ _ _ _ _ _ _ _ _) (pk_0_2_4 _ _ _ _ _ _ _ _ _ _ _ _) rfl rfl (i := 0) rfl rfl zw_210 ⟨zw_211, zw_212, zw_213, zw_140⟩ hsl5_step ⟨Nat.le_of_ble_eq_true rfl, Nat.le_of_ble_eq_true rfl⟩ hcs (Nat.le_of_ble_eq_true rfl) dL_law_357 (fun H locs h => ?_)
  refine lv_aload_n hx hb dL_law_360 rfl (lv_at hl 2 rfl) ?_
  refine lv_aload_n hx hb dL_law_361 rfl (lv_at hl 0 rfl) ?_
  refine lv_iload_n hx hb dL_law_362 rfl (lv_at hl 3 rfl) ?_
  refine lv_iconst (v := 1) hx hb dL_law_363 (by decide) ?_
  refine lv_iadd hx hb dL_law_364 ?_
  refine va_sld hx hb hX hbl hbA h.2.2.1 (vpi 1 hi hL (by decide)) dL_law_365 ?_
  refine r_callVi (As := [.int (xs (nI i + 1).toNatClampNeg)]) (rest := [.int ans]) (C0 := [wX6 K am m]) (C1 := [wX6 K am m']) (Rr := [wX5 K aa x', wX3 K (aa 1) sc, wX4 K (aa 2) now', wX4 K (aa 3) draft, wF K 8 (fun i => aa (9 + i)) past', wF K 2 (fun i => aa (17 + i)) saved, wX0 K (aa 4) net, wX0 K (aa 5) paces, wX0 K (aa 6) trial, wX2 K (aa 7) route, wX1 K (aa 8) reach]) (S' := [wX5 K aa x', wX3 K (aa 1) sc, wX4 K (aa 2) now', wX4 K (aa 3) draft, wF K 8 (fun i => aa (9 + i)) past', wF K 2 (fun i => aa (17 + i)) saved, wX0 K (aa 4) net, wX0 K (aa 5) paces, wX0 K (aa 6) trial, wX2 K (aa 7) route, wX1 K (aa 8) reach, wX6 K am m']) F h hl (c6_step l D K am (xs (nI i + 1).toNatClampNeg) m (ans, m') e6) [11, 0, 1, 2, 3, 4, 5, 6, 7, 8, 9, 10] pk_11p (pk_11 _ _ _ _ _ _ _ _ _ _ _ _) (pk_11 _ _ _ _ _ _ _ _ _ _ _ _) rfl rfl (i := 11) rfl rfl zw_214 ⟨zw_215, zw_216, zw_217, zw_145⟩ hsl6_step ⟨Nat.le_of_ble_eq_true rfl, Nat.le_of_ble_eq_true rfl⟩ hcs (Nat.le_of_ble_eq_true rfl) dL_law_366 (fun H locs h => ?_)
  refine lv_icmp_eq (tgt := 851) hx hb dL_law_369 (by decide) (fun _ => ?_) (fun c1 => absurd rfl c1)
  exact NX _ _ _ _ _ _ _ _ _ _ _ _ _ _ _ ls H' h hl
set_option maxRecDepth 100000 in
set_option maxHeartbeats 4000000 in
theorem lc_go (F : FX p s mi #[Value.ref b] meth c code RL 4 ret D K) (hX : va_X b L xs s s.heap) (hbl : b < s.heap.size) (hL : L ≤ 3072) {i : Nat} (hi : i + 6 ≤ L) (hcs : cells ≤ room_1.cells ∧ slots ≤ room_1.slots) (NX : NXT p l e s mi b below meth c Q D K aa am i cells slots)
    {x sc now draft : ob} {past saved : Nat → ob} {net paces trial route reach m : ob} {g : nb} {H : Heap} {locs : List Loc} {ls : Array Slot} (HG : RG rok x sc now draft past saved net paces route m g) (h : WD D (fun q => s.heap.size ≤ q) s.heap H locs (SL K aa am x sc now draft past saved net paces trial route reach m)) (hl : lv_has ls 4 [(0, .ref b), (1, .ref (aa 0 0)), (2, .ref (am 0)), (3, .int (nI i))]) :
    W p l e room_1 s mi #[Value.ref b] below meth c H locs cells slots Q (F0 mi 374 ls []) := by
  have hx := F.1
  have hb := F.2.1
  have hbA : ¬ (fun q => s.heap.size ≤ q) b := Nat.not_le.mpr hbl
  obtain ⟨ans, x', now', past', m', g', e5, e6, H'⟩ := eq_go HG (xs (nI i + 1).toNatClampNeg)
  have h : WD D (fun q => s.heap.size ≤ q) s.heap H locs [wX5 K aa x, wX3 K (aa 1) sc, wX4 K (aa 2) now, wX4 K (aa 3) draft, wF K 8 (fun i => aa (9 + i)) past, wF K 2 (fun i => aa (17 + i)) saved, wX0 K (aa 4) net, wX0 K (aa 5) paces, wX0 K (aa 6) trial, wX2 K (aa 7) route, wX1 K (aa 8) reach, wX6 K am m] := h
  refine lv_aload_n hx hb dL_law_374 rfl (lv_at hl 1 rfl) ?_
  refine lv_aload_n hx hb dL_law_375 rfl (lv_at hl 0 rfl) ?_
  refine lv_iload_n hx hb dL_law_376 rfl (lv_at hl 3 rfl) ?_
  refine lv_iconst (v := 1) hx hb dL_law_377 (by decide) ?_
  refine lv_iadd hx hb dL_law_378 ?_
  refine va_sld hx hb hX hbl hbA h.2.2.1 (vpi 1 hi hL (by decide)) dL_law_379 ?_
  refine r_callVi (As := [.int (xs (nI i + 1).toNatClampNeg)]) (rest := []) (C0 := [wX5 K aa x, wX4 K (aa 2) now, wF K 8 (fun i => aa (9 + i)) past]) (C1 := [wX5 K aa x', wX4 K (aa 2) now', wF K 8 (fun i => aa (9 + i)) past']) (Rr := [wX3 K (aa 1) sc, wX4 K (aa 3) draft, wF K 2 (fun i => aa (17 + i)) saved, wX0 K (aa 4) net, wX0 K (aa 5) paces, wX0 K (aa 6) trial, wX2 K (aa 7) route, wX1 K (aa 8) reach, wX6 K am m]) (S' := [wX5 K aa x', wX3 K (aa 1) sc, wX4 K (aa 2) now', wX4 K (aa 3) draft, wF K 8 (fun i => aa (9 + i)) past', wF K 2 (fun i => aa (17 + i)) saved, wX0 K (aa 4) net, wX0 K (aa 5) paces, wX0 K (aa 6) trial, wX2 K (aa 7) route, wX1 K (aa 8) reach, wX6 K am m]) F h hl (c5_go l D K aa (xs (nI i + 1).toNatClampNeg) x now past (ans, x', now', past') e5) [0, 2, 4, 1, 3, 5, 6, 7, 8, 9, 10, 11] pk_0_2_4p (pk_0_2_4 _ _ _ _ _ _ _ _ _ _ _ _) (pk_0_2_4 _ _ _ _ _ _ _ _ _ _ _ _) rfl rfl (i := 0) rfl rfl zw_218 ⟨zw_219, zw_220, zw_221, zw_140⟩ hsl5_go ⟨Nat.le_of_ble_eq_true rfl, Nat.le_of_ble_eq_true rfl⟩ hcs (Nat.le_of_ble_eq_true rfl) dL_law_380 (fun H locs h => ?_)
  refine lv_aload_n hx hb dL_law_383 rfl (lv_at hl 2 rfl) ?_
  refine lv_aload_n hx hb dL_law_384 rfl (lv_at hl 0 rfl) ?_
  refine lv_iload_n hx hb dL_law_385 rfl (lv_at hl 3 rfl) ?_
  refine lv_iconst (v := 1) hx hb dL_law_386 (by decide) ?_
  refine lv_iadd hx hb dL_law_387 ?_
  refine va_sld hx hb hX hbl hbA h.2.2.1 (vpi 1 hi hL (by decide)) dL_law_388 ?_
  refine r_callVi (As := [.int (xs (nI i + 1).toNatClampNeg)]) (rest := [.int ans]) (C0 := [wX6 K am m]) (C1 := [wX6 K am m']) (Rr := [wX5 K aa x', wX3 K (aa 1) sc, wX4 K (aa 2) now', wX4 K (aa 3) draft, wF K 8 (fun i => aa (9 + i)) past', wF K 2 (fun i => aa (17 + i)) saved, wX0 K (aa 4) net, wX0 K (aa 5) paces, wX0 K (aa 6) trial, wX2 K (aa 7) route, wX1 K (aa 8) reach]) (S' := [wX5 K aa x', wX3 K (aa 1) sc, wX4 K (aa 2) now', wX4 K (aa 3) draft, wF K 8 (fun i => aa (9 + i)) past', wF K 2 (fun i => aa (17 + i)) saved, wX0 K (aa 4) net, wX0 K (aa 5) paces, wX0 K (aa 6) trial, wX2 K (aa 7) route, wX1 K (aa 8) reach, wX6 K am m']) F h hl (c6_go l D K am (xs (nI i + 1).toNatClampNeg) m (ans, m') e6) [11, 0, 1, 2, 3, 4, 5, 6, 7, 8, 9, 10] pk_11p (pk_11 _ _ _ _ _ _ _ _ _ _ _ _) (pk_11 _ _ _ _ _ _ _ _ _ _ _ _) rfl rfl (i := 11) rfl rfl zw_222 ⟨zw_223, zw_224, zw_225, zw_145⟩ hsl6_go ⟨Nat.le_of_ble_eq_true rfl, Nat.le_of_ble_eq_true rfl⟩ hcs (Nat.le_of_ble_eq_true rfl) dL_law_389 (fun H locs h => ?_)
  refine lv_icmp_eq (tgt := 851) hx hb dL_law_392 (by decide) (fun _ => ?_) (fun c1 => absurd rfl c1)
  exact NX _ _ _ _ _ _ _ _ _ _ _ _ _ _ _ ls H' h hl
set_option maxRecDepth 100000 in
set_option maxHeartbeats 4000000 in
theorem lc_enter (F : FX p s mi #[Value.ref b] meth c code RL 4 ret D K) (hX : va_X b L xs s s.heap) (hbl : b < s.heap.size) (hL : L ≤ 3072) {i : Nat} (hi : i + 6 ≤ L) (hcs : cells ≤ room_1.cells ∧ slots ≤ room_1.slots) (NX : NXT p l e s mi b below meth c Q D K aa am i cells slots)
    {x sc now draft : ob} {past saved : Nat → ob} {net paces trial route reach m : ob} {g : nb} {H : Heap} {locs : List Loc} {ls : Array Slot} (HG : RG rok x sc now draft past saved net paces route m g) (h : WD D (fun q => s.heap.size ≤ q) s.heap H locs (SL K aa am x sc now draft past saved net paces trial route reach m)) (hl : lv_has ls 4 [(0, .ref b), (1, .ref (aa 0 0)), (2, .ref (am 0)), (3, .int (nI i))]) :
    W p l e room_1 s mi #[Value.ref b] below meth c H locs cells slots Q (F0 mi 397 ls []) := by
  have hx := F.1
  have hb := F.2.1
  have hbA : ¬ (fun q => s.heap.size ≤ q) b := Nat.not_le.mpr hbl
  obtain ⟨ans, x', now', past', m', g', e5, e6, H'⟩ := eq_enter HG (xs (nI i + 1).toNatClampNeg) (xs (nI i + 2).toNatClampNeg) (xs (nI i + 3).toNatClampNeg) (xs (nI i + 4).toNatClampNeg) (xs (nI i + 5).toNatClampNeg)
  have h : WD D (fun q => s.heap.size ≤ q) s.heap H locs [wX5 K aa x, wX3 K (aa 1) sc, wX4 K (aa 2) now, wX4 K (aa 3) draft, wF K 8 (fun i => aa (9 + i)) past, wF K 2 (fun i => aa (17 + i)) saved, wX0 K (aa 4) net, wX0 K (aa 5) paces, wX0 K (aa 6) trial, wX2 K (aa 7) route, wX1 K (aa 8) reach, wX6 K am m] := h
  refine lv_aload_n hx hb dL_law_397 rfl (lv_at hl 1 rfl) ?_
  refine lv_aload_n hx hb dL_law_398 rfl (lv_at hl 0 rfl) ?_
  refine lv_iload_n hx hb dL_law_399 rfl (lv_at hl 3 rfl) ?_
  refine lv_iconst (v := 1) hx hb dL_law_400 (by decide) ?_
  refine lv_iadd hx hb dL_law_401 ?_
  refine va_sld hx hb hX hbl hbA h.2.2.1 (vpi 1 hi hL (by decide)) dL_law_402 ?_
  refine lv_aload_n hx hb dL_law_403 rfl (lv_at hl 0 rfl) ?_
  refine lv_iload_n hx hb dL_law_404 rfl (lv_at hl 3 rfl) ?_
  refine lv_iconst (v := 2) hx hb dL_law_405 (by decide) ?_
  refine lv_iadd hx hb dL_law_406 ?_
  refine va_sld hx hb hX hbl hbA h.2.2.1 (vpi 2 hi hL (by decide)) dL_law_407 ?_
  refine lv_aload_n hx hb dL_law_408 rfl (lv_at hl 0 rfl) ?_
  refine lv_iload_n hx hb dL_law_409 rfl (lv_at hl 3 rfl) ?_
  refine lv_iconst (v := 3) hx hb dL_law_410 (by decide) ?_
  refine lv_iadd hx hb dL_law_411 ?_
  refine va_sld hx hb hX hbl hbA h.2.2.1 (vpi 3 hi hL (by decide)) dL_law_412 ?_
  refine lv_aload_n hx hb dL_law_413 rfl (lv_at hl 0 rfl) ?_
  refine lv_iload_n hx hb dL_law_414 rfl (lv_at hl 3 rfl) ?_
  refine lv_iconst (v := 4) hx hb dL_law_415 (by decide) ?_
  refine lv_iadd hx hb dL_law_416 ?_
  refine va_sld hx hb hX hbl hbA h.2.2.1 (vpi 4 hi hL (by decide)) dL_law_417 ?_
  refine lv_aload_n hx hb dL_law_418 rfl (lv_at hl 0 rfl) ?_
  refine lv_iload_n hx hb dL_law_419 rfl (lv_at hl 3 rfl) ?_
  refine lv_iconst (v := 5) hx hb dL_law_420 (by decide) ?_
  refine lv_iadd hx hb dL_law_421 ?_
  refine va_sld hx hb hX hbl hbA h.2.2.1 (vpi 5 hi hL (by decide)) dL_law_422 ?_
  refine r_callVi (As := [.int (xs (nI i + 1).toNatClampNeg), .int (xs (nI i + 2).toNatClampNeg), .int (xs (nI i + 3).toNatClampNeg), .int (xs (nI i + 4).toNatClampNeg), .int (xs (nI i + 5).toNatClampNeg)]) (rest := []) (C0 := [wX5 K aa x, wX4 K (aa 2) now, wF K 8 (fun i => aa (9 + i)) past]) (C1 := [wX5 K aa x', wX4 K (aa 2) now', wF K 8 (fun i => aa (9 + i)) past']) (Rr := [wX3 K (aa 1) sc, wX4 K (aa 3) draft, wF K 2 (fun i => aa (17 + i)) saved, wX0 K (aa 4) net, wX0 K (aa 5) paces, wX0 K (aa 6) trial, wX2 K (aa 7) route, wX1 K (aa 8) reach, wX6 K am m]) (S' := [wX5 K aa x', wX3 K (aa 1) sc, wX4 K (aa 2) now', wX4 K (aa 3) draft, wF K 8 (fun i => aa (9 + i)) past', wF K 2 (fun i => aa (17 + i)) saved, wX0 K (aa 4) net, wX0 K (aa 5) paces, wX0 K (aa 6) trial, wX2 K (aa 7) route, wX1 K (aa 8) reach, wX6 K am m]) F h hl (c5_enter l D K aa (xs (nI i + 1).toNatClampNeg) (xs (nI i + 2).toNatClampNeg) (xs (nI i + 3).toNatClampNeg) (xs (nI i + 4).toNatClampNeg) (xs (nI i + 5).toNatClampNeg) x now past (ans, x', now', past') e5) [0, 2, 4, 1, 3, 5, 6, 7, 8, 9, 10, 11] pk_0_2_4p (pk_0_2_4 _ _ _ _ _ _ _ _ _ _ _ _) (pk_0_2_4 _ _ _ _ _ _ _ _ _ _ _ _) rfl rfl (i := 0) rfl rfl zw_226 ⟨zw_227, zw_228, zw_229, zw_140⟩ hsl5_enter ⟨Nat.le_of_ble_eq_true rfl, Nat.le_of_ble_eq_true rfl⟩ hcs (Nat.le_of_ble_eq_true rfl) dL_law_423 (fun H locs h => ?_)
  refine lv_aload_n hx hb dL_law_426 rfl (lv_at hl 2 rfl) ?_
  refine lv_aload_n hx hb dL_law_427 rfl (lv_at hl 0 rfl) ?_
  refine lv_iload_n hx hb dL_law_428 rfl (lv_at hl 3 rfl) ?_
  refine lv_iconst (v := 1) hx hb dL_law_429 (by decide) ?_
  refine lv_iadd hx hb dL_law_430 ?_
  refine va_sld hx hb hX hbl hbA h.2.2.1 (vpi 1 hi hL (by decide)) dL_law_431 ?_
  refine lv_aload_n hx hb dL_law_432 rfl (lv_at hl 0 rfl) ?_
  refine lv_iload_n hx hb dL_law_433 rfl (lv_at hl 3 rfl) ?_
  refine lv_iconst (v := 2) hx hb dL_law_434 (by decide) ?_
  refine lv_iadd hx hb dL_law_435 ?_
  refine va_sld hx hb hX hbl hbA h.2.2.1 (vpi 2 hi hL (by decide)) dL_law_436 ?_
  refine lv_aload_n hx hb dL_law_437 rfl (lv_at hl 0 rfl) ?_
  refine lv_iload_n hx hb dL_law_438 rfl (lv_at hl 3 rfl) ?_
  refine lv_iconst (v := 3) hx hb dL_law_439 (by decide) ?_
  refine lv_iadd hx hb dL_law_440 ?_
  refine va_sld hx hb hX hbl hbA h.2.2.1 (vpi 3 hi hL (by decide)) dL_law_441 ?_
  refine lv_aload_n hx hb dL_law_442 rfl (lv_at hl 0 rfl) ?_
  refine lv_iload_n hx hb dL_law_443 rfl (lv_at hl 3 rfl) ?_
  refine lv_iconst (v := 4) hx hb dL_law_444 (by decide) ?_
  refine lv_iadd hx hb dL_law_445 ?_
  refine va_sld hx hb hX hbl hbA h.2.2.1 (vpi 4 hi hL (by decide)) dL_law_446 ?_
  refine lv_aload_n hx hb dL_law_447 rfl (lv_at hl 0 rfl) ?_
  refine lv_iload_n hx hb dL_law_448 rfl (lv_at hl 3 rfl) ?_
  refine lv_iconst (v := 5) hx hb dL_law_449 (by decide) ?_
  refine lv_iadd hx hb dL_law_450 ?_
  refine va_sld hx hb hX hbl hbA h.2.2.1 (vpi 5 hi hL (by decide)) dL_law_451 ?_
  refine r_callVi (As := [.int (xs (nI i + 1).toNatClampNeg), .int (xs (nI i + 2).toNatClampNeg), .int (xs (nI i + 3).toNatClampNeg), .int (xs (nI i + 4).toNatClampNeg), .int (xs (nI i + 5).toNatClampNeg)]) (rest := [.int ans]) (C0 := [wX6 K am m]) (C1 := [wX6 K am m']) (Rr := [wX5 K aa x', wX3 K (aa 1) sc, wX4 K (aa 2) now', wX4 K (aa 3) draft, wF K 8 (fun i => aa (9 + i)) past', wF K 2 (fun i => aa (17 + i)) saved, wX0 K (aa 4) net, wX0 K (aa 5) paces, wX0 K (aa 6) trial, wX2 K (aa 7) route, wX1 K (aa 8) reach]) (S' := [wX5 K aa x', wX3 K (aa 1) sc, wX4 K (aa 2) now', wX4 K (aa 3) draft, wF K 8 (fun i => aa (9 + i)) past', wF K 2 (fun i => aa (17 + i)) saved, wX0 K (aa 4) net, wX0 K (aa 5) paces, wX0 K (aa 6) trial, wX2 K (aa 7) route, wX1 K (aa 8) reach, wX6 K am m']) F h hl (c6_enter l D K am (xs (nI i + 1).toNatClampNeg) (xs (nI i + 2).toNatClampNeg) (xs (nI i + 3).toNatClampNeg) (xs (nI i + 4).toNatClampNeg) (xs (nI i + 5).toNatClampNeg) m (ans, m') e6) [11, 0, 1, 2, 3, 4, 5, 6, 7, 8, 9, 10] pk_11p (pk_11 _ _ _ _ _ _ _ _ _ _ _ _) (pk_11 _ _ _ _ _ _ _ _ _ _ _ _) rfl rfl (i := 11) rfl rfl zw_230 ⟨zw_231, zw_232, zw_233, zw_145⟩ hsl6_enter ⟨Nat.le_of_ble_eq_true rfl, Nat.le_of_ble_eq_true rfl⟩ hcs (Nat.le_of_ble_eq_true rfl) dL_law_452 (fun H locs h => ?_)
  refine lv_icmp_eq (tgt := 851) hx hb dL_law_455 (by decide) (fun _ => ?_) (fun c1 => absurd rfl c1)
  exact NX _ _ _ _ _ _ _ _ _ _ _ _ _ _ _ ls H' h hl
set_option maxRecDepth 100000 in
set_option maxHeartbeats 4000000 in
theorem lc_drop (F : FX p s mi #[Value.ref b] meth c code RL 4 ret D K) (hX : va_X b L xs s s.heap) (hbl : b < s.heap.size) (hL : L ≤ 3072) {i : Nat} (hi : i + 6 ≤ L) (hcs : cells ≤ room_1.cells ∧ slots ≤ room_1.slots) (NX : NXT p l e s mi b below meth c Q D K aa am i cells slots)
    {x sc now draft : ob} {past saved : Nat → ob} {net paces trial route reach m : ob} {g : nb} {H : Heap} {locs : List Loc} {ls : Array Slot} (HG : RG rok x sc now draft past saved net paces route m g) (h : WD D (fun q => s.heap.size ≤ q) s.heap H locs (SL K aa am x sc now draft past saved net paces trial route reach m)) (hl : lv_has ls 4 [(0, .ref b), (1, .ref (aa 0 0)), (2, .ref (am 0)), (3, .int (nI i))]) :
    W p l e room_1 s mi #[Value.ref b] below meth c H locs cells slots Q (F0 mi 460 ls []) := by
  have hx := F.1
  have hb := F.2.1
  have hbA : ¬ (fun q => s.heap.size ≤ q) b := Nat.not_le.mpr hbl
  obtain ⟨ans, x', now', past', m', g', e5, e6, H'⟩ := eq_drop HG (xs (nI i + 1).toNatClampNeg)
  have h : WD D (fun q => s.heap.size ≤ q) s.heap H locs [wX5 K aa x, wX3 K (aa 1) sc, wX4 K (aa 2) now, wX4 K (aa 3) draft, wF K 8 (fun i => aa (9 + i)) past, wF K 2 (fun i => aa (17 + i)) saved, wX0 K (aa 4) net, wX0 K (aa 5) paces, wX0 K (aa 6) trial, wX2 K (aa 7) route, wX1 K (aa 8) reach, wX6 K am m] := h
  refine lv_aload_n hx hb dL_law_460 rfl (lv_at hl 1 rfl) ?_
  refine lv_aload_n hx hb dL_law_461 rfl (lv_at hl 0 rfl) ?_
  refine lv_iload_n hx hb dL_law_462 rfl (lv_at hl 3 rfl) ?_
  refine lv_iconst (v := 1) hx hb dL_law_463 (by decide) ?_
  refine lv_iadd hx hb dL_law_464 ?_
  refine va_sld hx hb hX hbl hbA h.2.2.1 (vpi 1 hi hL (by decide)) dL_law_465 ?_
  refine r_callVi (As := [.int (xs (nI i + 1).toNatClampNeg)]) (rest := []) (C0 := [wX5 K aa x, wX4 K (aa 2) now, wF K 8 (fun i => aa (9 + i)) past]) (C1 := [wX5 K aa x', wX4 K (aa 2) now', wF K 8 (fun i => aa (9 + i)) past']) (Rr := [wX3 K (aa 1) sc, wX4 K (aa 3) draft, wF K 2 (fun i => aa (17 + i)) saved, wX0 K (aa 4) net, wX0 K (aa 5) paces, wX0 K (aa 6) trial, wX2 K (aa 7) route, wX1 K (aa 8) reach, wX6 K am m]) (S' := [wX5 K aa x', wX3 K (aa 1) sc, wX4 K (aa 2) now', wX4 K (aa 3) draft, wF K 8 (fun i => aa (9 + i)) past', wF K 2 (fun i => aa (17 + i)) saved, wX0 K (aa 4) net, wX0 K (aa 5) paces, wX0 K (aa 6) trial, wX2 K (aa 7) route, wX1 K (aa 8) reach, wX6 K am m]) F h hl (c5_drop l D K aa (xs (nI i + 1).toNatClampNeg) x now past (ans, x', now', past') e5) [0, 2, 4, 1, 3, 5, 6, 7, 8, 9, 10, 11] pk_0_2_4p (pk_0_2_4 _ _ _ _ _ _ _ _ _ _ _ _) (pk_0_2_4 _ _ _ _ _ _ _ _ _ _ _ _) rfl rfl (i := 0) rfl rfl zw_234 ⟨zw_235, zw_236, zw_237, zw_140⟩ hsl5_drop ⟨Nat.le_of_ble_eq_true rfl, Nat.le_of_ble_eq_true rfl⟩ hcs (Nat.le_of_ble_eq_true rfl) dL_law_466 (fun H locs h => ?_)
  refine lv_aload_n hx hb dL_law_469 rfl (lv_at hl 2 rfl) ?_
  refine lv_aload_n hx hb dL_law_470 rfl (lv_at hl 0 rfl) ?_
  refine lv_iload_n hx hb dL_law_471 rfl (lv_at hl 3 rfl) ?_
  refine lv_iconst (v := 1) hx hb dL_law_472 (by decide) ?_
  refine lv_iadd hx hb dL_law_473 ?_
  refine va_sld hx hb hX hbl hbA h.2.2.1 (vpi 1 hi hL (by decide)) dL_law_474 ?_
  refine r_callVi (As := [.int (xs (nI i + 1).toNatClampNeg)]) (rest := [.int ans]) (C0 := [wX6 K am m]) (C1 := [wX6 K am m']) (Rr := [wX5 K aa x', wX3 K (aa 1) sc, wX4 K (aa 2) now', wX4 K (aa 3) draft, wF K 8 (fun i => aa (9 + i)) past', wF K 2 (fun i => aa (17 + i)) saved, wX0 K (aa 4) net, wX0 K (aa 5) paces, wX0 K (aa 6) trial, wX2 K (aa 7) route, wX1 K (aa 8) reach]) (S' := [wX5 K aa x', wX3 K (aa 1) sc, wX4 K (aa 2) now', wX4 K (aa 3) draft, wF K 8 (fun i => aa (9 + i)) past', wF K 2 (fun i => aa (17 + i)) saved, wX0 K (aa 4) net, wX0 K (aa 5) paces, wX0 K (aa 6) trial, wX2 K (aa 7) route, wX1 K (aa 8) reach, wX6 K am m']) F h hl (c6_drop l D K am (xs (nI i + 1).toNatClampNeg) m (ans, m') e6) [11, 0, 1, 2, 3, 4, 5, 6, 7, 8, 9, 10] pk_11p (pk_11 _ _ _ _ _ _ _ _ _ _ _ _) (pk_11 _ _ _ _ _ _ _ _ _ _ _ _) rfl rfl (i := 11) rfl rfl zw_238 ⟨zw_239, zw_240, zw_241, zw_145⟩ hsl6_drop ⟨Nat.le_of_ble_eq_true rfl, Nat.le_of_ble_eq_true rfl⟩ hcs (Nat.le_of_ble_eq_true rfl) dL_law_475 (fun H locs h => ?_)
  refine lv_icmp_eq (tgt := 851) hx hb dL_law_478 (by decide) (fun _ => ?_) (fun c1 => absurd rfl c1)
  exact NX _ _ _ _ _ _ _ _ _ _ _ _ _ _ _ ls H' h hl
set_option maxRecDepth 100000 in
set_option maxHeartbeats 4000000 in
theorem lc_weigh (F : FX p s mi #[Value.ref b] meth c code RL 4 ret D K) (hX : va_X b L xs s s.heap) (hbl : b < s.heap.size) (hL : L ≤ 3072) {i : Nat} (hi : i + 6 ≤ L) (hcs : cells ≤ room_1.cells ∧ slots ≤ room_1.slots) (NX : NXT p l e s mi b below meth c Q D K aa am i cells slots)
    {x sc now draft : ob} {past saved : Nat → ob} {net paces trial route reach m : ob} {g : nb} {H : Heap} {locs : List Loc} {ls : Array Slot} (HG : RG rok x sc now draft past saved net paces route m g) (h : WD D (fun q => s.heap.size ≤ q) s.heap H locs (SL K aa am x sc now draft past saved net paces trial route reach m)) (hl : lv_has ls 4 [(0, .ref b), (1, .ref (aa 0 0)), (2, .ref (am 0)), (3, .int (nI i))]) :
    W p l e room_1 s mi #[Value.ref b] below meth c H locs cells slots Q (F0 mi 483 ls []) := by
  have hx := F.1
  have hb := F.2.1
  have hbA : ¬ (fun q => s.heap.size ≤ q) b := Nat.not_le.mpr hbl
  obtain ⟨ans, x', now', past', m', g', e5, e6, H'⟩ := eq_weigh HG (xs (nI i + 1).toNatClampNeg) (xs (nI i + 2).toNatClampNeg)
  have h : WD D (fun q => s.heap.size ≤ q) s.heap H locs [wX5 K aa x, wX3 K (aa 1) sc, wX4 K (aa 2) now, wX4 K (aa 3) draft, wF K 8 (fun i => aa (9 + i)) past, wF K 2 (fun i => aa (17 + i)) saved, wX0 K (aa 4) net, wX0 K (aa 5) paces, wX0 K (aa 6) trial, wX2 K (aa 7) route, wX1 K (aa 8) reach, wX6 K am m] := h
  refine lv_aload_n hx hb dL_law_483 rfl (lv_at hl 1 rfl) ?_
  refine lv_aload_n hx hb dL_law_484 rfl (lv_at hl 0 rfl) ?_
  refine lv_iload_n hx hb dL_law_485 rfl (lv_at hl 3 rfl) ?_
  refine lv_iconst (v := 1) hx hb dL_law_486 (by decide) ?_
  refine lv_iadd hx hb dL_law_487 ?_
  refine va_sld hx hb hX hbl hbA h.2.2.1 (vpi 1 hi hL (by decide)) dL_law_488 ?_
  refine lv_aload_n hx hb dL_law_489 rfl (lv_at hl 0 rfl) ?_
  refine lv_iload_n hx hb dL_law_490 rfl (lv_at hl 3 rfl) ?_
  refine lv_iconst (v := 2) hx hb dL_law_491 (by decide) ?_
  refine lv_iadd hx hb dL_law_492 ?_
  refine va_sld hx hb hX hbl hbA h.2.2.1 (vpi 2 hi hL (by decide)) dL_law_493 ?_
  refine r_callVi (As := [.int (xs (nI i + 1).toNatClampNeg), .int (xs (nI i + 2).toNatClampNeg)]) (rest := []) (C0 := [wX5 K aa x, wX4 K (aa 2) now, wF K 8 (fun i => aa (9 + i)) past]) (C1 := [wX5 K aa x', wX4 K (aa 2) now', wF K 8 (fun i => aa (9 + i)) past']) (Rr := [wX3 K (aa 1) sc, wX4 K (aa 3) draft, wF K 2 (fun i => aa (17 + i)) saved, wX0 K (aa 4) net, wX0 K (aa 5) paces, wX0 K (aa 6) trial, wX2 K (aa 7) route, wX1 K (aa 8) reach, wX6 K am m]) (S' := [wX5 K aa x', wX3 K (aa 1) sc, wX4 K (aa 2) now', wX4 K (aa 3) draft, wF K 8 (fun i => aa (9 + i)) past', wF K 2 (fun i => aa (17 + i)) saved, wX0 K (aa 4) net, wX0 K (aa 5) paces, wX0 K (aa 6) trial, wX2 K (aa 7) route, wX1 K (aa 8) reach, wX6 K am m]) F h hl (c5_weigh l D K aa (xs (nI i + 1).toNatClampNeg) (xs (nI i + 2).toNatClampNeg) x now past (ans, x', now', past') e5) [0, 2, 4, 1, 3, 5, 6, 7, 8, 9, 10, 11] pk_0_2_4p (pk_0_2_4 _ _ _ _ _ _ _ _ _ _ _ _) (pk_0_2_4 _ _ _ _ _ _ _ _ _ _ _ _) rfl rfl (i := 0) rfl rfl zw_242 ⟨zw_243, zw_244, zw_245, zw_140⟩ hsl5_weigh ⟨Nat.le_of_ble_eq_true rfl, Nat.le_of_ble_eq_true rfl⟩ hcs (Nat.le_of_ble_eq_true rfl) dL_law_494 (fun H locs h => ?_)
  refine lv_aload_n hx hb dL_law_497 rfl (lv_at hl 2 rfl) ?_
  refine lv_aload_n hx hb dL_law_498 rfl (lv_at hl 0 rfl) ?_
  refine lv_iload_n hx hb dL_law_499 rfl (lv_at hl 3 rfl) ?_
  refine lv_iconst (v := 1) hx hb dL_law_500 (by decide) ?_
  refine lv_iadd hx hb dL_law_501 ?_
  refine va_sld hx hb hX hbl hbA h.2.2.1 (vpi 1 hi hL (by decide)) dL_law_502 ?_
  refine lv_aload_n hx hb dL_law_503 rfl (lv_at hl 0 rfl) ?_
  refine lv_iload_n hx hb dL_law_504 rfl (lv_at hl 3 rfl) ?_
  refine lv_iconst (v := 2) hx hb dL_law_505 (by decide) ?_
  refine lv_iadd hx hb dL_law_506 ?_
  refine va_sld hx hb hX hbl hbA h.2.2.1 (vpi 2 hi hL (by decide)) dL_law_507 ?_
  refine r_callVi (As := [.int (xs (nI i + 1).toNatClampNeg), .int (xs (nI i + 2).toNatClampNeg)]) (rest := [.int ans]) (C0 := [wX6 K am m]) (C1 := [wX6 K am m']) (Rr := [wX5 K aa x', wX3 K (aa 1) sc, wX4 K (aa 2) now', wX4 K (aa 3) draft, wF K 8 (fun i => aa (9 + i)) past', wF K 2 (fun i => aa (17 + i)) saved, wX0 K (aa 4) net, wX0 K (aa 5) paces, wX0 K (aa 6) trial, wX2 K (aa 7) route, wX1 K (aa 8) reach]) (S' := [wX5 K aa x', wX3 K (aa 1) sc, wX4 K (aa 2) now', wX4 K (aa 3) draft, wF K 8 (fun i => aa (9 + i)) past', wF K 2 (fun i => aa (17 + i)) saved, wX0 K (aa 4) net, wX0 K (aa 5) paces, wX0 K (aa 6) trial, wX2 K (aa 7) route, wX1 K (aa 8) reach, wX6 K am m']) F h hl (c6_weigh l D K am (xs (nI i + 1).toNatClampNeg) (xs (nI i + 2).toNatClampNeg) m (ans, m') e6) [11, 0, 1, 2, 3, 4, 5, 6, 7, 8, 9, 10] pk_11p (pk_11 _ _ _ _ _ _ _ _ _ _ _ _) (pk_11 _ _ _ _ _ _ _ _ _ _ _ _) rfl rfl (i := 11) rfl rfl zw_246 ⟨zw_247, zw_248, zw_249, zw_145⟩ hsl6_weigh ⟨Nat.le_of_ble_eq_true rfl, Nat.le_of_ble_eq_true rfl⟩ hcs (Nat.le_of_ble_eq_true rfl) dL_law_508 (fun H locs h => ?_)
  refine lv_icmp_eq (tgt := 851) hx hb dL_law_511 (by decide) (fun _ => ?_) (fun c1 => absurd rfl c1)
  exact NX _ _ _ _ _ _ _ _ _ _ _ _ _ _ _ ls H' h hl
set_option maxRecDepth 100000 in
set_option maxHeartbeats 4000000 in
theorem lc_mode (F : FX p s mi #[Value.ref b] meth c code RL 4 ret D K) (hX : va_X b L xs s s.heap) (hbl : b < s.heap.size) (hL : L ≤ 3072) {i : Nat} (hi : i + 6 ≤ L) (hcs : cells ≤ room_1.cells ∧ slots ≤ room_1.slots) (NX : NXT p l e s mi b below meth c Q D K aa am i cells slots)
    {x sc now draft : ob} {past saved : Nat → ob} {net paces trial route reach m : ob} {g : nb} {H : Heap} {locs : List Loc} {ls : Array Slot} (HG : RG rok x sc now draft past saved net paces route m g) (h : WD D (fun q => s.heap.size ≤ q) s.heap H locs (SL K aa am x sc now draft past saved net paces trial route reach m)) (hl : lv_has ls 4 [(0, .ref b), (1, .ref (aa 0 0)), (2, .ref (am 0)), (3, .int (nI i))]) :
    W p l e room_1 s mi #[Value.ref b] below meth c H locs cells slots Q (F0 mi 516 ls []) := by
  have hx := F.1
  have hb := F.2.1
  have hbA : ¬ (fun q => s.heap.size ≤ q) b := Nat.not_le.mpr hbl
  obtain ⟨ans, x', now', past', m', g', e5, e6, H'⟩ := eq_mode HG (xs (nI i + 1).toNatClampNeg)
  have h : WD D (fun q => s.heap.size ≤ q) s.heap H locs [wX5 K aa x, wX3 K (aa 1) sc, wX4 K (aa 2) now, wX4 K (aa 3) draft, wF K 8 (fun i => aa (9 + i)) past, wF K 2 (fun i => aa (17 + i)) saved, wX0 K (aa 4) net, wX0 K (aa 5) paces, wX0 K (aa 6) trial, wX2 K (aa 7) route, wX1 K (aa 8) reach, wX6 K am m] := h
  refine lv_aload_n hx hb dL_law_516 rfl (lv_at hl 1 rfl) ?_
  refine lv_aload_n hx hb dL_law_517 rfl (lv_at hl 0 rfl) ?_
  refine lv_iload_n hx hb dL_law_518 rfl (lv_at hl 3 rfl) ?_
  refine lv_iconst (v := 1) hx hb dL_law_519 (by decide) ?_
  refine lv_iadd hx hb dL_law_520 ?_
  refine va_sld hx hb hX hbl hbA h.2.2.1 (vpi 1 hi hL (by decide)) dL_law_521 ?_
  refine r_callVi (As := [.int (xs (nI i + 1).toNatClampNeg)]) (rest := []) (C0 := [wX5 K aa x, wX4 K (aa 2) now, wF K 8 (fun i => aa (9 + i)) past]) (C1 := [wX5 K aa x', wX4 K (aa 2) now', wF K 8 (fun i => aa (9 + i)) past']) (Rr := [wX3 K (aa 1) sc, wX4 K (aa 3) draft, wF K 2 (fun i => aa (17 + i)) saved, wX0 K (aa 4) net, wX0 K (aa 5) paces, wX0 K (aa 6) trial, wX2 K (aa 7) route, wX1 K (aa 8) reach, wX6 K am m]) (S' := [wX5 K aa x', wX3 K (aa 1) sc, wX4 K (aa 2) now', wX4 K (aa 3) draft, wF K 8 (fun i => aa (9 + i)) past', wF K 2 (fun i => aa (17 + i)) saved, wX0 K (aa 4) net, wX0 K (aa 5) paces, wX0 K (aa 6) trial, wX2 K (aa 7) route, wX1 K (aa 8) reach, wX6 K am m]) F h hl (c5_mode l D K aa (xs (nI i + 1).toNatClampNeg) x now past (ans, x', now', past') e5) [0, 2, 4, 1, 3, 5, 6, 7, 8, 9, 10, 11] pk_0_2_4p (pk_0_2_4 _ _ _ _ _ _ _ _ _ _ _ _) (pk_0_2_4 _ _ _ _ _ _ _ _ _ _ _ _) rfl rfl (i := 0) rfl rfl zw_250 ⟨zw_251, zw_252, zw_253, zw_140⟩ hsl5_mode ⟨Nat.le_of_ble_eq_true rfl, Nat.le_of_ble_eq_true rfl⟩ hcs (Nat.le_of_ble_eq_true rfl) dL_law_522 (fun H locs h => ?_)
  refine lv_aload_n hx hb dL_law_525 rfl (lv_at hl 2 rfl) ?_
  refine lv_aload_n hx hb dL_law_526 rfl (lv_at hl 0 rfl) ?_
  refine lv_iload_n hx hb dL_law_527 rfl (lv_at hl 3 rfl) ?_
  refine lv_iconst (v := 1) hx hb dL_law_528 (by decide) ?_
  refine lv_iadd hx hb dL_law_529 ?_
  refine va_sld hx hb hX hbl hbA h.2.2.1 (vpi 1 hi hL (by decide)) dL_law_530 ?_
  refine r_callVi (As := [.int (xs (nI i + 1).toNatClampNeg)]) (rest := [.int ans]) (C0 := [wX6 K am m]) (C1 := [wX6 K am m']) (Rr := [wX5 K aa x', wX3 K (aa 1) sc, wX4 K (aa 2) now', wX4 K (aa 3) draft, wF K 8 (fun i => aa (9 + i)) past', wF K 2 (fun i => aa (17 + i)) saved, wX0 K (aa 4) net, wX0 K (aa 5) paces, wX0 K (aa 6) trial, wX2 K (aa 7) route, wX1 K (aa 8) reach]) (S' := [wX5 K aa x', wX3 K (aa 1) sc, wX4 K (aa 2) now', wX4 K (aa 3) draft, wF K 8 (fun i => aa (9 + i)) past', wF K 2 (fun i => aa (17 + i)) saved, wX0 K (aa 4) net, wX0 K (aa 5) paces, wX0 K (aa 6) trial, wX2 K (aa 7) route, wX1 K (aa 8) reach, wX6 K am m']) F h hl (c6_mode l D K am (xs (nI i + 1).toNatClampNeg) m (ans, m') e6) [11, 0, 1, 2, 3, 4, 5, 6, 7, 8, 9, 10] pk_11p (pk_11 _ _ _ _ _ _ _ _ _ _ _ _) (pk_11 _ _ _ _ _ _ _ _ _ _ _ _) rfl rfl (i := 11) rfl rfl zw_254 ⟨zw_255, zw_256, zw_257, zw_145⟩ hsl6_mode ⟨Nat.le_of_ble_eq_true rfl, Nat.le_of_ble_eq_true rfl⟩ hcs (Nat.le_of_ble_eq_true rfl) dL_law_531 (fun H locs h => ?_)
  refine lv_icmp_eq (tgt := 851) hx hb dL_law_534 (by decide) (fun _ => ?_) (fun c1 => absurd rfl c1)
  exact NX _ _ _ _ _ _ _ _ _ _ _ _ _ _ _ ls H' h hl
set_option maxRecDepth 100000 in
set_option maxHeartbeats 4000000 in
theorem lc_undo (F : FX p s mi #[Value.ref b] meth c code RL 4 ret D K) (hX : va_X b L xs s s.heap) (hbl : b < s.heap.size) (hL : L ≤ 3072) {i : Nat} (hi : i + 6 ≤ L) (hcs : cells ≤ room_1.cells ∧ slots ≤ room_1.slots) (NX : NXT p l e s mi b below meth c Q D K aa am i cells slots)
    {x sc now draft : ob} {past saved : Nat → ob} {net paces trial route reach m : ob} {g : nb} {H : Heap} {locs : List Loc} {ls : Array Slot} (HG : RG rok x sc now draft past saved net paces route m g) (h : WD D (fun q => s.heap.size ≤ q) s.heap H locs (SL K aa am x sc now draft past saved net paces trial route reach m)) (hl : lv_has ls 4 [(0, .ref b), (1, .ref (aa 0 0)), (2, .ref (am 0)), (3, .int (nI i))]) :
    W p l e room_1 s mi #[Value.ref b] below meth c H locs cells slots Q (F0 mi 539 ls []) := by
  have hx := F.1
  have hb := F.2.1
  have hbA : ¬ (fun q => s.heap.size ≤ q) b := Nat.not_le.mpr hbl
  obtain ⟨ans, x', now', m', g', e5, e6, H'⟩ := eq_undo HG
  have h : WD D (fun q => s.heap.size ≤ q) s.heap H locs [wX5 K aa x, wX3 K (aa 1) sc, wX4 K (aa 2) now, wX4 K (aa 3) draft, wF K 8 (fun i => aa (9 + i)) past, wF K 2 (fun i => aa (17 + i)) saved, wX0 K (aa 4) net, wX0 K (aa 5) paces, wX0 K (aa 6) trial, wX2 K (aa 7) route, wX1 K (aa 8) reach, wX6 K am m] := h
  refine lv_aload_n hx hb dL_law_539 rfl (lv_at hl 1 rfl) ?_
  refine r_callVi (As := []) (rest := []) (C0 := [wX5 K aa x, wX4 K (aa 2) now, wF K 8 (fun i => aa (9 + i)) past]) (C1 := [wX5 K aa x', wX4 K (aa 2) now', wF K 8 (fun i => aa (9 + i)) past]) (Rr := [wX3 K (aa 1) sc, wX4 K (aa 3) draft, wF K 2 (fun i => aa (17 + i)) saved, wX0 K (aa 4) net, wX0 K (aa 5) paces, wX0 K (aa 6) trial, wX2 K (aa 7) route, wX1 K (aa 8) reach, wX6 K am m]) (S' := [wX5 K aa x', wX3 K (aa 1) sc, wX4 K (aa 2) now', wX4 K (aa 3) draft, wF K 8 (fun i => aa (9 + i)) past, wF K 2 (fun i => aa (17 + i)) saved, wX0 K (aa 4) net, wX0 K (aa 5) paces, wX0 K (aa 6) trial, wX2 K (aa 7) route, wX1 K (aa 8) reach, wX6 K am m]) F h hl (c5_undo l D K aa x now past (ans, x', now') e5) [0, 2, 4, 1, 3, 5, 6, 7, 8, 9, 10, 11] pk_0_2_4p (pk_0_2_4 _ _ _ _ _ _ _ _ _ _ _ _) (pk_0_2_4 _ _ _ _ _ _ _ _ _ _ _ _) rfl rfl (i := 0) rfl rfl zw_258 ⟨zw_259, zw_260, zw_261, zw_140⟩ hsl5_undo ⟨Nat.le_of_ble_eq_true rfl, Nat.le_of_ble_eq_true rfl⟩ hcs (Nat.le_of_ble_eq_true rfl) dL_law_540 (fun H locs h => ?_)
  refine lv_aload_n hx hb dL_law_543 rfl (lv_at hl 2 rfl) ?_
  refine r_callVi (As := []) (rest := [.int ans]) (C0 := [wX6 K am m]) (C1 := [wX6 K am m']) (Rr := [wX5 K aa x', wX3 K (aa 1) sc, wX4 K (aa 2) now', wX4 K (aa 3) draft, wF K 8 (fun i => aa (9 + i)) past, wF K 2 (fun i => aa (17 + i)) saved, wX0 K (aa 4) net, wX0 K (aa 5) paces, wX0 K (aa 6) trial, wX2 K (aa 7) route, wX1 K (aa 8) reach]) (S' := [wX5 K aa x', wX3 K (aa 1) sc, wX4 K (aa 2) now', wX4 K (aa 3) draft, wF K 8 (fun i => aa (9 + i)) past, wF K 2 (fun i => aa (17 + i)) saved, wX0 K (aa 4) net, wX0 K (aa 5) paces, wX0 K (aa 6) trial, wX2 K (aa 7) route, wX1 K (aa 8) reach, wX6 K am m']) F h hl (c6_undo l D K am m (ans, m') e6) [11, 0, 1, 2, 3, 4, 5, 6, 7, 8, 9, 10] pk_11p (pk_11 _ _ _ _ _ _ _ _ _ _ _ _) (pk_11 _ _ _ _ _ _ _ _ _ _ _ _) rfl rfl (i := 11) rfl rfl zw_262 ⟨zw_263, zw_264, zw_265, zw_145⟩ hsl6_undo ⟨Nat.le_of_ble_eq_true rfl, Nat.le_of_ble_eq_true rfl⟩ hcs (Nat.le_of_ble_eq_true rfl) dL_law_544 (fun H locs h => ?_)
  refine lv_icmp_eq (tgt := 851) hx hb dL_law_547 (by decide) (fun _ => ?_) (fun c1 => absurd rfl c1)
  exact NX _ _ _ _ _ _ _ _ _ _ _ _ _ _ _ ls H' h hl
end LAW3
