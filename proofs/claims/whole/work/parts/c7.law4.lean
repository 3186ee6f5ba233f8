theorem zw_266 : Cond.code yX5_price cX5_price 1 (some .int) ∈ TBL := tk_3 72 (by decide +kernel) (by decide +kernel)
theorem zw_267 : Cond.methodLink RL 81 yX5_price ∈ TBL := tk_3 69 (by decide +kernel) (by decide +kernel)
theorem zw_268 : Cond.instanceMethod yX5_price ∈ TBL := tk_3 70 (by decide +kernel) (by decide +kernel)
theorem zw_269 : Cond.selects RX5 yX5_price yX5_price ∈ TBL := tk_3 71 (by decide +kernel) (by decide +kernel)
theorem zw_270 : Cond.code yX6_price cX6_price 1 (some .int) ∈ TBL := tk_5 34 (by decide +kernel) (by decide +kernel)
theorem zw_271 : Cond.methodLink RL 84 yX6_price ∈ TBL := tk_5 31 (by decide +kernel) (by decide +kernel)
theorem zw_272 : Cond.instanceMethod yX6_price ∈ TBL := tk_5 32 (by decide +kernel) (by decide +kernel)
theorem zw_273 : Cond.selects RX6 yX6_price yX6_price ∈ TBL := tk_5 33 (by decide +kernel) (by decide +kernel)
theorem zw_274 : Cond.code yX5_run cX5_run 3 (some .int) ∈ TBL := tk_3 134 (by decide +kernel) (by decide +kernel)
theorem zw_275 : Cond.methodLink RL 85 yX5_run ∈ TBL := tk_3 131 (by decide +kernel) (by decide +kernel)
theorem zw_276 : Cond.instanceMethod yX5_run ∈ TBL := tk_3 132 (by decide +kernel) (by decide +kernel)
theorem zw_277 : Cond.selects RX5 yX5_run yX5_run ∈ TBL := tk_3 133 (by decide +kernel) (by decide +kernel)
theorem zw_278 : Cond.code yX6_run cX6_run 6 (some .int) ∈ TBL := tk_5 104 (by decide +kernel) (by decide +kernel)
theorem zw_279 : Cond.methodLink RL 88 yX6_run ∈ TBL := tk_5 101 (by decide +kernel) (by decide +kernel)
theorem zw_280 : Cond.instanceMethod yX6_run ∈ TBL := tk_5 102 (by decide +kernel) (by decide +kernel)
theorem zw_281 : Cond.selects RX6 yX6_run yX6_run ∈ TBL := tk_5 103 (by decide +kernel) (by decide +kernel)
theorem zw_282 : Cond.code yX5_heads cX5_heads 3 (some .int) ∈ TBL := tk_3 187 (by decide +kernel) (by decide +kernel)
theorem zw_283 : Cond.methodLink RL 89 yX5_heads ∈ TBL := tk_3 184 (by decide +kernel) (by decide +kernel)
theorem zw_284 : Cond.instanceMethod yX5_heads ∈ TBL := tk_3 185 (by decide +kernel) (by decide +kernel)
theorem zw_285 : Cond.selects RX5 yX5_heads yX5_heads ∈ TBL := tk_3 186 (by decide +kernel) (by decide +kernel)
theorem zw_286 : Cond.code yX6_heads cX6_heads 3 (some .int) ∈ TBL := tk_5 136 (by decide +kernel) (by decide +kernel)
theorem zw_287 : Cond.methodLink RL 92 yX6_heads ∈ TBL := tk_5 133 (by decide +kernel) (by decide +kernel)
theorem zw_288 : Cond.instanceMethod yX6_heads ∈ TBL := tk_5 134 (by decide +kernel) (by decide +kernel)
theorem zw_289 : Cond.selects RX6 yX6_heads yX6_heads ∈ TBL := tk_5 135 (by decide +kernel) (by decide +kernel)
theorem zw_290 : Cond.code yX5_empty cX5_empty 2 (some .int) ∈ TBL := tk_3 226 (by decide +kernel) (by decide +kernel)
theorem zw_291 : Cond.methodLink RL 93 yX5_empty ∈ TBL := tk_3 223 (by decide +kernel) (by decide +kernel)
theorem zw_292 : Cond.instanceMethod yX5_empty ∈ TBL := tk_3 224 (by decide +kernel) (by decide +kernel)
theorem zw_293 : Cond.selects RX5 yX5_empty yX5_empty ∈ TBL := tk_3 225 (by decide +kernel) (by decide +kernel)
theorem zw_294 : Cond.code yX6_empty cX6_empty 2 (some .int) ∈ TBL := tk_5 168 (by decide +kernel) (by decide +kernel)
theorem zw_295 : Cond.methodLink RL 96 yX6_empty ∈ TBL := tk_5 165 (by decide +kernel) (by decide +kernel)
theorem zw_296 : Cond.instanceMethod yX6_empty ∈ TBL := tk_5 166 (by decide +kernel) (by decide +kernel)
theorem zw_297 : Cond.selects RX6 yX6_empty yX6_empty ∈ TBL := tk_5 167 (by decide +kernel) (by decide +kernel)
theorem zw_298 : Cond.code yX5_stuck cX5_stuck 4 (some .int) ∈ TBL := tk_3 230 (by decide +kernel) (by decide +kernel)
theorem zw_299 : Cond.methodLink RL 97 yX5_stuck ∈ TBL := tk_3 227 (by decide +kernel) (by decide +kernel)
theorem zw_300 : Cond.instanceMethod yX5_stuck ∈ TBL := tk_3 228 (by decide +kernel) (by decide +kernel)
theorem zw_301 : Cond.selects RX5 yX5_stuck yX5_stuck ∈ TBL := tk_3 229 (by decide +kernel) (by decide +kernel)
theorem zw_302 : Cond.code yX6_stuck cX6_stuck 5 (some .int) ∈ TBL := tk_5 172 (by decide +kernel) (by decide +kernel)
theorem zw_303 : Cond.methodLink RL 100 yX6_stuck ∈ TBL := tk_5 169 (by decide +kernel) (by decide +kernel)
theorem zw_304 : Cond.instanceMethod yX6_stuck ∈ TBL := tk_5 170 (by decide +kernel) (by decide +kernel)
theorem zw_305 : Cond.selects RX6 yX6_stuck yX6_stuck ∈ TBL := tk_5 171 (by decide +kernel) (by decide +kernel)
theorem zw_306 : Cond.code yX5_edge cX5_edge 6 (some .int) ∈ TBL := tk_4 4 (by decide +kernel) (by decide +kernel)
theorem zw_307 : Cond.methodLink RL 101 yX5_edge ∈ TBL := tk_4 1 (by decide +kernel) (by decide +kernel)
theorem zw_308 : Cond.instanceMethod yX5_edge ∈ TBL := tk_4 2 (by decide +kernel) (by decide +kernel)
theorem zw_309 : Cond.selects RX5 yX5_edge yX5_edge ∈ TBL := tk_4 3 (by decide +kernel) (by decide +kernel)
theorem zw_310 : Cond.code yX6_edge cX6_edge 5 (some .int) ∈ TBL := tk_5 87 (by decide +kernel) (by decide +kernel)
theorem zw_311 : Cond.methodLink RL 105 yX6_edge ∈ TBL := tk_5 84 (by decide +kernel) (by decide +kernel)
theorem zw_312 : Cond.instanceMethod yX6_edge ∈ TBL := tk_5 85 (by decide +kernel) (by decide +kernel)
theorem zw_313 : Cond.selects RX6 yX6_edge yX6_edge ∈ TBL := tk_5 86 (by decide +kernel) (by decide +kernel)
theorem zw_314 : Cond.code yX5_automaton cX5_automaton 2 (some .int) ∈ TBL := tk_4 14 (by decide +kernel) (by decide +kernel)
theorem zw_315 : Cond.methodLink RL 106 yX5_automaton ∈ TBL := tk_4 11 (by decide +kernel) (by decide +kernel)
theorem zw_316 : Cond.instanceMethod yX5_automaton ∈ TBL := tk_4 12 (by decide +kernel) (by decide +kernel)
theorem zw_317 : Cond.selects RX5 yX5_automaton yX5_automaton ∈ TBL := tk_4 13 (by decide +kernel) (by decide +kernel)
theorem zw_318 : Cond.code yX6_automaton cX6_automaton 2 (some .int) ∈ TBL := tk_5 91 (by decide +kernel) (by decide +kernel)
theorem zw_319 : Cond.methodLink RL 109 yX6_automaton ∈ TBL := tk_5 88 (by decide +kernel) (by decide +kernel)
theorem zw_320 : Cond.instanceMethod yX6_automaton ∈ TBL := tk_5 89 (by decide +kernel) (by decide +kernel)
theorem zw_321 : Cond.selects RX6 yX6_automaton yX6_automaton ∈ TBL := tk_5 90 (by decide +kernel) (by decide +kernel)
theorem zw_322 : Cond.code yX5_needed cX5_needed 3 (some .int) ∈ TBL := tk_4 18 (by decide +kernel) (by decide +kernel)
theorem zw_323 : Cond.methodLink RL 110 yX5_needed ∈ TBL := tk_4 15 (by decide +kernel) (by decide +kernel)
theorem zw_324 : Cond.instanceMethod yX5_needed ∈ TBL := tk_4 16 (by decide +kernel) (by decide +kernel)
theorem zw_325 : Cond.selects RX5 yX5_needed yX5_needed ∈ TBL := tk_4 17 (by decide +kernel) (by decide +kernel)
theorem zw_326 : Cond.code yX6_needed cX6_needed 3 (some .int) ∈ TBL := tk_5 95 (by decide +kernel) (by decide +kernel)
theorem zw_327 : Cond.methodLink RL 113 yX6_needed ∈ TBL := tk_5 92 (by decide +kernel) (by decide +kernel)
theorem zw_328 : Cond.instanceMethod yX6_needed ∈ TBL := tk_5 93 (by decide +kernel) (by decide +kernel)
theorem zw_329 : Cond.selects RX6 yX6_needed yX6_needed ∈ TBL := tk_5 94 (by decide +kernel) (by decide +kernel)
section LAW4
variable {p : Program} {l : Launch} {e : Env} {s : State} {mi : MethodId} {b : Nat} {below : List Frame} {meth : Method} {c : Code} {Q : State → Prop} {D : va_G} {K : Nat → ClassId} {L : Nat} {xs : Nat → Int32} {aa : Nat → Nat → Nat} {am : Nat → Nat} {cells slots : Nat}
set_option maxRecDepth 100000 in
set_option maxHeartbeats 4000000 in
theorem lc_price (F : FX p s mi #[Value.ref b] meth c code RL 4 ret D K) (hX : va_X b L xs s s.heap) (hbl : b < s.heap.size) (hL : L ≤ 3072) {i : Nat} (hi : i + 6 ≤ L) (hcs : cells ≤ room_1.cells ∧ slots ≤ room_1.slots) (NX : NXT p l e s mi b below meth c Q D K aa am i cells slots)
    {x sc now draft : ob} {past saved : Nat → ob} {net paces trial route reach m : ob} {g : nb} {H : Heap} {locs : List Loc} {ls : Array Slot} (HG : RG rok x sc now draft past saved net paces route m g) (h : WD D (fun q => s.heap.size ≤ q) s.heap H locs (SL K aa am x sc now draft past saved net paces trial route reach m)) (hl : lv_has ls 4 [(0, .ref b), (1, .ref (aa 0 0)), (2, .ref (am 0)), (3, .int (nI i))]) :
    W p l e room_1 s mi #[Value.ref b] below meth c H locs cells slots Q (F0 mi 552 ls []) := by
  have hx := F.1
  have hb := F.2.1
  have hbA : ¬ (fun q => s.heap.size ≤ q) b := Nat.not_le.mpr hbl
  obtain ⟨ans, x', net', m', e5, e6, H'⟩ := rq_price HG
  have h : WD D (fun q => s.heap.size ≤ q) s.heap H locs [wX5 K aa x, wX3 K (aa 1) sc, wX4 K (aa 2) now, wX4 K (aa 3) draft, wF K 8 (fun i => aa (9 + i)) past, wF K 2 (fun i => aa (17 + i)) saved, wX0 K (aa 4) net, wX0 K (aa 5) paces, wX0 K (aa 6) trial, wX2 K (aa 7) route, wX1 K (aa 8) reach, wX6 K am m] := h
  refine lv_aload_n hx hb dL_law_552 rfl (lv_at hl 1 rfl) ?_
  refine r_callVi (As := []) (rest := []) (C0 := [wX5 K aa x, wX4 K (aa 2) now, wX0 K (aa 4) net]) (C1 := [wX5 K aa x', wX4 K (aa 2) now, wX0 K (aa 4) net']) (Rr := [wX3 K (aa 1) sc, wX4 K (aa 3) draft, wF K 8 (fun i => aa (9 + i)) past, wF K 2 (fun i => aa (17 + i)) saved, wX0 K (aa 5) paces, wX0 K (aa 6) trial, wX2 K (aa 7) route, wX1 K (aa 8) reach, wX6 K am m]) (S' := [wX5 K aa x', wX3 K (aa 1) sc, wX4 K (aa 2) now, wX4 K (aa 3) draft, wF K 8 (fun i => aa (9 + i)) past, wF K 2 (fun i => aa (17 + i)) saved, wX0 K (aa 4) net', wX0 K (aa 5) paces, wX0 K (aa 6) trial, wX2 K (aa 7) route, wX1 K (aa 8) reach, wX6 K am m]) F h hl (c5_price l D K aa x now net (ans, x', net') e5) [0, 2, 6, 1, 3, 4, 5, 7, 8, 9, 10, 11] pk_0_2_6p (pk_0_2_6 _ _ _ _ _ _ _ _ _ _ _ _) (pk_0_2_6 _ _ _ _ _ _ _ _ _ _ _ _) rfl rfl (i := 0) rfl rfl zw_266 ⟨zw_267, zw_268, zw_269, zw_140⟩ hsl5_price ⟨Nat.le_of_ble_eq_true rfl, Nat.le_of_ble_eq_true rfl⟩ hcs (Nat.le_of_ble_eq_true rfl) dL_law_553 (fun H locs h => ?_)
  refine lv_aload_n hx hb dL_law_556 rfl (lv_at hl 2 rfl) ?_
  refine r_callVi (As := []) (rest := [.int ans]) (C0 := [wX6 K am m]) (C1 := [wX6 K am m']) (Rr := [wX5 K aa x', wX3 K (aa 1) sc, wX4 K (aa 2) now, wX4 K (aa 3) draft, wF K 8 (fun i => aa (9 + i)) past, wF K 2 (fun i => aa (17 + i)) saved, wX0 K (aa 4) net', wX0 K (aa 5) paces, wX0 K (aa 6) trial, wX2 K (aa 7) route, wX1 K (aa 8) reach]) (S' := [wX5 K aa x', wX3 K (aa 1) sc, wX4 K (aa 2) now, wX4 K (aa 3) draft, wF K 8 (fun i => aa (9 + i)) past, wF K 2 (fun i => aa (17 + i)) saved, wX0 K (aa 4) net', wX0 K (aa 5) paces, wX0 K (aa 6) trial, wX2 K (aa 7) route, wX1 K (aa 8) reach, wX6 K am m']) F h hl (c6_price l D K am m (ans, m') e6) [11, 0, 1, 2, 3, 4, 5, 6, 7, 8, 9, 10] pk_11p (pk_11 _ _ _ _ _ _ _ _ _ _ _ _) (pk_11 _ _ _ _ _ _ _ _ _ _ _ _) rfl rfl (i := 11) rfl rfl zw_270 ⟨zw_271, zw_272, zw_273, zw_145⟩ hsl6_price ⟨Nat.le_of_ble_eq_true rfl, Nat.le_of_ble_eq_true rfl⟩ hcs (Nat.le_of_ble_eq_true rfl) dL_law_557 (fun H locs h => ?_)
  refine lv_icmp_eq (tgt := 851) hx hb dL_law_560 (by decide) (fun _ => ?_) (fun c1 => absurd rfl c1)
  exact NX _ _ _ _ _ _ _ _ _ _ _ _ _ _ _ ls H' h hl
set_option maxRecDepth 100000 in
set_option maxHeartbeats 4000000 in
theorem lc_run (F : FX p s mi #[Value.ref b] meth c code RL 4 ret D K) (hX : va_X b L xs s s.heap) (hbl : b < s.heap.size) (hL : L ≤ 3072) {i : Nat} (hi : i + 6 ≤ L) (hcs : cells ≤ room_1.cells ∧ slots ≤ room_1.slots) (NX : NXT p l e s mi b below meth c Q D K aa am i cells slots)
    {x sc now draft : ob} {past saved : Nat → ob} {net paces trial route reach m : ob} {g : nb} {H : Heap} {locs : List Loc} {ls : Array Slot} (HG : RG rok x sc now draft past saved net paces route m g) (h : WD D (fun q => s.heap.size ≤ q) s.heap H locs (SL K aa am x sc now draft past saved net paces trial route reach m)) (hl : lv_has ls 4 [(0, .ref b), (1, .ref (aa 0 0)), (2, .ref (am 0)), (3, .int (nI i))]) :
    W p l e room_1 s mi #[Value.ref b] below meth c H locs cells slots Q (F0 mi 565 ls []) := by
  have hx := F.1
  have hb := F.2.1
  have hbA : ¬ (fun q => s.heap.size ≤ q) b := Nat.not_le.mpr hbl
  obtain ⟨ans, x', paces', route', m', e5, e6, H'⟩ := rq_run HG (xs (nI i + 1).toNatClampNeg)
  have h : WD D (fun q => s.heap.size ≤ q) s.heap H locs [wX5 K aa x, wX3 K (aa 1) sc, wX4 K (aa 2) now, wX4 K (aa 3) draft, wF K 8 (fun i => aa (9 + i)) past, wF K 2 (fun i => aa (17 + i)) saved, wX0 K (aa 4) net, wX0 K (aa 5) paces, wX0 K (aa 6) trial, wX2 K (aa 7) route, wX1 K (aa 8) reach, wX6 K am m] := h
  refine lv_aload_n hx hb dL_law_565 rfl (lv_at hl 1 rfl) ?_
  refine lv_aload_n hx hb dL_law_566 rfl (lv_at hl 0 rfl) ?_
  refine lv_iload_n hx hb dL_law_567 rfl (lv_at hl 3 rfl) ?_
  refine lv_iconst (v := 1) hx hb dL_law_568 (by decide) ?_
  refine lv_iadd hx hb dL_law_569 ?_
  refine va_sld hx hb hX hbl hbA h.2.2.1 (vpi 1 hi hL (by decide)) dL_law_570 ?_
  refine r_callVi (As := [.int (xs (nI i + 1).toNatClampNeg)]) (rest := []) (C0 := [wX5 K aa x, wX4 K (aa 2) now, wX0 K (aa 5) paces, wX2 K (aa 7) route]) (C1 := [wX5 K aa x', wX4 K (aa 2) now, wX0 K (aa 5) paces', wX2 K (aa 7) route']) (Rr := [wX3 K (aa 1) sc, wX4 K (aa 3) draft, wF K 8 (fun i => aa (9 + i)) past, wF K 2 (fun i => aa (17 + i)) saved, wX0 K (aa 4) net, wX0 K (aa 6) trial, wX1 K (aa 8) reach, wX6 K am m]) (S' := [wX5 K aa x', wX3 K (aa 1) sc, wX4 K (aa 2) now, wX4 K (aa 3) draft, wF K 8 (fun i => aa (9 + i)) past, wF K 2 (fun i => aa (17 + i)) saved, wX0 K (aa 4) net, wX0 K (aa 5) paces', wX0 K (aa 6) trial, wX2 K (aa 7) route', wX1 K (aa 8) reach, wX6 K am m]) F h hl (c5_run l D K aa (xs (nI i + 1).toNatClampNeg) x now paces route (ans, x', paces', route') e5) [0, 2, 7, 9, 1, 3, 4, 5, 6, 8, 10, 11] pk_0_2_7_9p (pk_0_2_7_9 _ _ _ _ _ _ _ _ _ _ _ _) (pk_0_2_7_9 _ _ _ _ _ _ _ _ _ _ _ _) rfl rfl (i := 0) rfl rfl zw_274 ⟨zw_275, zw_276, zw_277, zw_140⟩ hsl5_run ⟨Nat.le_of_ble_eq_true rfl, Nat.le_of_ble_eq_true rfl⟩ hcs (Nat.le_of_ble_eq_true rfl) dL_law_571 (fun H locs h => ?_)
  refine lv_aload_n hx hb dL_law_574 rfl (lv_at hl 2 rfl) ?_
  refine lv_aload_n hx hb dL_law_575 rfl (lv_at hl 0 rfl) ?_
  refine lv_iload_n hx hb dL_law_576 rfl (lv_at hl 3 rfl) ?_
  refine lv_iconst (v := 1) hx hb dL_law_577 (by decide) ?_
  refine lv_iadd hx hb dL_law_578 ?_
  refine va_sld hx hb hX hbl hbA h.2.2.1 (vpi 1 hi hL (by decide)) dL_law_579 ?_
  refine r_callVi (As := [.int (xs (nI i + 1).toNatClampNeg)]) (rest := [.int ans]) (C0 := [wX6 K am m]) (C1 := [wX6 K am m']) (Rr := [wX5 K aa x', wX3 K (aa 1) sc, wX4 K (aa 2) now, wX4 K (aa 3) draft, wF K 8 (fun i => aa (9 + i)) past, wF K 2 (fun i => aa (17 + i)) saved, wX0 K (aa 4) net, wX0 K (aa 5) paces', wX0 K (aa 6) trial, wX2 K (aa 7) route', wX1 K (aa 8) reach]) (S' := [wX5 K aa x', wX3 K (aa 1) sc, wX4 K (aa 2) now, wX4 K (aa 3) draft, wF K 8 (fun i => aa (9 + i)) past, wF K 2 (fun i => aa (17 + i)) saved, wX0 K (aa 4) net, wX0 K (aa 5) paces', wX0 K (aa 6) trial, wX2 K (aa 7) route', wX1 K (aa 8) reach, wX6 K am m']) F h hl (c6_run l D K am (xs (nI i + 1).toNatClampNeg) m (ans, m') e6) [11, 0, 1, 2, 3, 4, 5, 6, 7, 8, 9, 10] pk_11p (pk_11 _ _ _ _ _ _ _ _ _ _ _ _) (pk_11 _ _ _ _ _ _ _ _ _ _ _ _) rfl rfl (i := 11) rfl rfl zw_278 ⟨zw_279, zw_280, zw_281, zw_145⟩ hsl6_run ⟨Nat.le_of_ble_eq_true rfl, Nat.le_of_ble_eq_true rfl⟩ hcs (Nat.le_of_ble_eq_true rfl) dL_law_580 (fun H locs h => ?_)
  refine lv_icmp_eq (tgt := 851) hx hb dL_law_583 (by decide) (fun _ => ?_) (fun c1 => absurd rfl c1)
  exact NX _ _ _ _ _ _ _ _ _ _ _ _ _ _ _ ls H' h hl
set_option maxRecDepth 100000 in
set_option maxHeartbeats 4000000 in
theorem lc_heads (F : FX p s mi #[Value.ref b] meth c code RL 4 ret D K) (hX : va_X b L xs s s.heap) (hbl : b < s.heap.size) (hL : L ≤ 3072) {i : Nat} (hi : i + 6 ≤ L) (hcs : cells ≤ room_1.cells ∧ slots ≤ room_1.slots) (NX : NXT p l e s mi b below meth c Q D K aa am i cells slots)
    {x sc now draft : ob} {past saved : Nat → ob} {net paces trial route reach m : ob} {g : nb} {H : Heap} {locs : List Loc} {ls : Array Slot} (HG : RG rok x sc now draft past saved net paces route m g) (h : WD D (fun q => s.heap.size ≤ q) s.heap H locs (SL K aa am x sc now draft past saved net paces trial route reach m)) (hl : lv_has ls 4 [(0, .ref b), (1, .ref (aa 0 0)), (2, .ref (am 0)), (3, .int (nI i))]) :
    W p l e room_1 s mi #[Value.ref b] below meth c H locs cells slots Q (F0 mi 588 ls []) := by
  have hx := F.1
  have hb := F.2.1
  have hbA : ¬ (fun q => s.heap.size ≤ q) b := Nat.not_le.mpr hbl
  obtain ⟨ans, reach', m', e5, e6, H'⟩ := rq_heads HG (xs (nI i + 1).toNatClampNeg) (xs (nI i + 2).toNatClampNeg) reach
  have h : WD D (fun q => s.heap.size ≤ q) s.heap H locs [wX5 K aa x, wX3 K (aa 1) sc, wX4 K (aa 2) now, wX4 K (aa 3) draft, wF K 8 (fun i => aa (9 + i)) past, wF K 2 (fun i => aa (17 + i)) saved, wX0 K (aa 4) net, wX0 K (aa 5) paces, wX0 K (aa 6) trial, wX2 K (aa 7) route, wX1 K (aa 8) reach, wX6 K am m] := h
  refine lv_aload_n hx hb dL_law_588 rfl (lv_at hl 1 rfl) ?_
  refine lv_aload_n hx hb dL_law_589 rfl (lv_at hl 0 rfl) ?_
  refine lv_iload_n hx hb dL_law_590 rfl (lv_at hl 3 rfl) ?_
  refine lv_iconst (v := 1) hx hb dL_law_591 (by decide) ?_
  refine lv_iadd hx hb dL_law_592 ?_
  refine va_sld hx hb hX hbl hbA h.2.2.1 (vpi 1 hi hL (by decide)) dL_law_593 ?_
  refine lv_aload_n hx hb dL_law_594 rfl (lv_at hl 0 rfl) ?_
  refine lv_iload_n hx hb dL_law_595 rfl (lv_at hl 3 rfl) ?_
  refine lv_iconst (v := 2) hx hb dL_law_596 (by decide) ?_
  refine lv_iadd hx hb dL_law_597 ?_
  refine va_sld hx hb hX hbl hbA h.2.2.1 (vpi 2 hi hL (by decide)) dL_law_598 ?_
  refine r_callVi (As := [.int (xs (nI i + 1).toNatClampNeg), .int (xs (nI i + 2).toNatClampNeg)]) (rest := []) (C0 := [wX5 K aa x, wX4 K (aa 2) now, wX1 K (aa 8) reach]) (C1 := [wX5 K aa x, wX4 K (aa 2) now, wX1 K (aa 8) reach']) (Rr := [wX3 K (aa 1) sc, wX4 K (aa 3) draft, wF K 8 (fun i => aa (9 + i)) past, wF K 2 (fun i => aa (17 + i)) saved, wX0 K (aa 4) net, wX0 K (aa 5) paces, wX0 K (aa 6) trial, wX2 K (aa 7) route, wX6 K am m]) (S' := [wX5 K aa x, wX3 K (aa 1) sc, wX4 K (aa 2) now, wX4 K (aa 3) draft, wF K 8 (fun i => aa (9 + i)) past, wF K 2 (fun i => aa (17 + i)) saved, wX0 K (aa 4) net, wX0 K (aa 5) paces, wX0 K (aa 6) trial, wX2 K (aa 7) route, wX1 K (aa 8) reach', wX6 K am m]) F h hl (c5_heads l D K aa (xs (nI i + 1).toNatClampNeg) (xs (nI i + 2).toNatClampNeg) x now reach (ans, reach') e5) [0, 2, 10, 1, 3, 4, 5, 6, 7, 8, 9, 11] pk_0_2_10p (pk_0_2_10 _ _ _ _ _ _ _ _ _ _ _ _) (pk_0_2_10 _ _ _ _ _ _ _ _ _ _ _ _) rfl rfl (i := 0) rfl rfl zw_282 ⟨zw_283, zw_284, zw_285, zw_140⟩ hsl5_heads ⟨Nat.le_of_ble_eq_true rfl, Nat.le_of_ble_eq_true rfl⟩ hcs (Nat.le_of_ble_eq_true rfl) dL_law_599 (fun H locs h => ?_)
  refine lv_aload_n hx hb dL_law_602 rfl (lv_at hl 2 rfl) ?_
  refine lv_aload_n hx hb dL_law_603 rfl (lv_at hl 0 rfl) ?_
  refine lv_iload_n hx hb dL_law_604 rfl (lv_at hl 3 rfl) ?_
  refine lv_iconst (v := 1) hx hb dL_law_605 (by decide) ?_
  refine lv_iadd hx hb dL_law_606 ?_
  refine va_sld hx hb hX hbl hbA h.2.2.1 (vpi 1 hi hL (by decide)) dL_law_607 ?_
  refine lv_aload_n hx hb dL_law_608 rfl (lv_at hl 0 rfl) ?_
  refine lv_iload_n hx hb dL_law_609 rfl (lv_at hl 3 rfl) ?_
  refine lv_iconst (v := 2) hx hb dL_law_610 (by decide) ?_
  refine lv_iadd hx hb dL_law_611 ?_
  refine va_sld hx hb hX hbl hbA h.2.2.1 (vpi 2 hi hL (by decide)) dL_law_612 ?_
  refine r_callVi (As := [.int (xs (nI i + 1).toNatClampNeg), .int (xs (nI i + 2).toNatClampNeg)]) (rest := [.int ans]) (C0 := [wX6 K am m]) (C1 := [wX6 K am m']) (Rr := [wX5 K aa x, wX3 K (aa 1) sc, wX4 K (aa 2) now, wX4 K (aa 3) draft, wF K 8 (fun i => aa (9 + i)) past, wF K 2 (fun i => aa (17 + i)) saved, wX0 K (aa 4) net, wX0 K (aa 5) paces, wX0 K (aa 6) trial, wX2 K (aa 7) route, wX1 K (aa 8) reach']) (S' := [wX5 K aa x, wX3 K (aa 1) sc, wX4 K (aa 2) now, wX4 K (aa 3) draft, wF K 8 (fun i => aa (9 + i)) past, wF K 2 (fun i => aa (17 + i)) saved, wX0 K (aa 4) net, wX0 K (aa 5) paces, wX0 K (aa 6) trial, wX2 K (aa 7) route, wX1 K (aa 8) reach', wX6 K am m']) F h hl (c6_heads l D K am (xs (nI i + 1).toNatClampNeg) (xs (nI i + 2).toNatClampNeg) m (ans, m') e6) [11, 0, 1, 2, 3, 4, 5, 6, 7, 8, 9, 10] pk_11p (pk_11 _ _ _ _ _ _ _ _ _ _ _ _) (pk_11 _ _ _ _ _ _ _ _ _ _ _ _) rfl rfl (i := 11) rfl rfl zw_286 ⟨zw_287, zw_288, zw_289, zw_145⟩ hsl6_heads ⟨Nat.le_of_ble_eq_true rfl, Nat.le_of_ble_eq_true rfl⟩ hcs (Nat.le_of_ble_eq_true rfl) dL_law_613 (fun H locs h => ?_)
  refine lv_icmp_eq (tgt := 851) hx hb dL_law_616 (by decide) (fun _ => ?_) (fun c1 => absurd rfl c1)
  exact NX _ _ _ _ _ _ _ _ _ _ _ _ _ _ _ ls H' h hl
set_option maxRecDepth 100000 in
set_option maxHeartbeats 4000000 in
theorem lc_empty (F : FX p s mi #[Value.ref b] meth c code RL 4 ret D K) (hX : va_X b L xs s s.heap) (hbl : b < s.heap.size) (hL : L ≤ 3072) {i : Nat} (hi : i + 6 ≤ L) (hcs : cells ≤ room_1.cells ∧ slots ≤ room_1.slots) (NX : NXT p l e s mi b below meth c Q D K aa am i cells slots)
    {x sc now draft : ob} {past saved : Nat → ob} {net paces trial route reach m : ob} {g : nb} {H : Heap} {locs : List Loc} {ls : Array Slot} (HG : RG rok x sc now draft past saved net paces route m g) (h : WD D (fun q => s.heap.size ≤ q) s.heap H locs (SL K aa am x sc now draft past saved net paces trial route reach m)) (hl : lv_has ls 4 [(0, .ref b), (1, .ref (aa 0 0)), (2, .ref (am 0)), (3, .int (nI i))]) :
    W p l e room_1 s mi #[Value.ref b] below meth c H locs cells slots Q (F0 mi 621 ls []) := by
  have hx := F.1
  have hb := F.2.1
  have hbA : ¬ (fun q => s.heap.size ≤ q) b := Nat.not_le.mpr hbl
  obtain ⟨ans, reach', m', e5, e6, H'⟩ := rq_empty HG (xs (nI i + 1).toNatClampNeg) reach
  have h : WD D (fun q => s.heap.size ≤ q) s.heap H locs [wX5 K aa x, wX3 K (aa 1) sc, wX4 K (aa 2) now, wX4 K (aa 3) draft, wF K 8 (fun i => aa (9 + i)) past, wF K 2 (fun i => aa (17 + i)) saved, wX0 K (aa 4) net, wX0 K (aa 5) paces, wX0 K (aa 6) trial, wX2 K (aa 7) route, wX1 K (aa 8) reach, wX6 K am m] := h
  refine lv_aload_n hx hb dL_law_621 rfl (lv_at hl 1 rfl) ?_
  refine lv_aload_n hx hb dL_law_622 rfl (lv_at hl 0 rfl) ?_
  refine lv_iload_n hx hb dL_law_623 rfl (lv_at hl 3 rfl) ?_
  refine lv_iconst (v := 1) hx hb dL_law_624 (by decide) ?_
  refine lv_iadd hx hb dL_law_625 ?_
  refine va_sld hx hb hX hbl hbA h.2.2.1 (vpi 1 hi hL (by decide)) dL_law_626 ?_
  refine r_callVi (As := [.int (xs (nI i + 1).toNatClampNeg)]) (rest := []) (C0 := [wX5 K aa x, wX4 K (aa 2) now, wX1 K (aa 8) reach]) (C1 := [wX5 K aa x, wX4 K (aa 2) now, wX1 K (aa 8) reach']) (Rr := [wX3 K (aa 1) sc, wX4 K (aa 3) draft, wF K 8 (fun i => aa (9 + i)) past, wF K 2 (fun i => aa (17 + i)) saved, wX0 K (aa 4) net, wX0 K (aa 5) paces, wX0 K (aa 6) trial, wX2 K (aa 7) route, wX6 K am m]) (S' := [wX5 K aa x, wX3 K (aa 1) sc, wX4 K (aa 2) now, wX4 K (aa 3) draft, wF K 8 (fun i => aa (9 + i)) past, wF K 2 (fun i => aa (17 + i)) saved, wX0 K (aa 4) net, wX0 K (aa 5) paces, wX0 K (aa 6) trial, wX2 K (aa 7) route, wX1 K (aa 8) reach', wX6 K am m]) F h hl (c5_empty l D K aa (xs (nI i + 1).toNatClampNeg) x now reach (ans, reach') e5) [0, 2, 10, 1, 3, 4, 5, 6, 7, 8, 9, 11] pk_0_2_10p (pk_0_2_10 _ _ _ _ _ _ _ _ _ _ _ _) (pk_0_2_10 _ _ _ _ _ _ _ _ _ _ _ _) rfl rfl (i := 0) rfl rfl zw_290 ⟨zw_291, zw_292, zw_293, zw_140⟩ hsl5_empty ⟨Nat.le_of_ble_eq_true rfl, Nat.le_of_ble_eq_true rfl⟩ hcs (Nat.le_of_ble_eq_true rfl) dL_law_627 (fun H locs h => ?_)
  refine lv_aload_n hx hb dL_law_630 rfl (lv_at hl 2 rfl) ?_
  refine lv_aload_n hx hb dL_law_631 rfl (lv_at hl 0 rfl) ?_
  refine lv_iload_n hx hb dL_law_632 rfl (lv_at hl 3 rfl) ?_
  refine lv_iconst (v := 1) hx hb dL_law_633 (by decide) ?_
  refine lv_iadd hx hb dL_law_634 ?_
  refine va_sld hx hb hX hbl hbA h.2.2.1 (vpi 1 hi hL (by decide)) dL_law_635 ?_
  refine r_callVi (As := [.int (xs (nI i + 1).toNatClampNeg)]) (rest := [.int ans]) (C0 := [wX6 K am m]) (C1 := [wX6 K am m']) (Rr := [wX5 K aa x, wX3 K (aa 1) sc, wX4 K (aa 2) now, wX4 K (aa 3) draft, wF K 8 (fun i => aa (9 + i)) past, wF K 2 (fun i => aa (17 + i)) saved, wX0 K (aa 4) net, wX0 K (aa 5) paces, wX0 K (aa 6) trial, wX2 K (aa 7) route, wX1 K (aa 8) reach']) (S' := [wX5 K aa x, wX3 K (aa 1) sc, wX4 K (aa 2) now, wX4 K (aa 3) draft, wF K 8 (fun i => aa (9 + i)) past, wF K 2 (fun i => aa (17 + i)) saved, wX0 K (aa 4) net, wX0 K (aa 5) paces, wX0 K (aa 6) trial, wX2 K (aa 7) route, wX1 K (aa 8) reach', wX6 K am m']) F h hl (c6_empty l D K am (xs (nI i + 1).toNatClampNeg) m (ans, m') e6) [11, 0, 1, 2, 3, 4, 5, 6, 7, 8, 9, 10] pk_11p (pk_11 _ _ _ _ _ _ _ _ _ _ _ _) (pk_11 _ _ _ _ _ _ _ _ _ _ _ _) rfl rfl (i := 11) rfl rfl zw_294 ⟨zw_295, zw_296, zw_297, zw_145⟩ hsl6_empty ⟨Nat.le_of_ble_eq_true rfl, Nat.le_of_ble_eq_true rfl⟩ hcs (Nat.le_of_ble_eq_true rfl) dL_law_636 (fun H locs h => ?_)
  refine lv_icmp_eq (tgt := 851) hx hb dL_law_639 (by decide) (fun _ => ?_) (fun c1 => absurd rfl c1)
  exact NX _ _ _ _ _ _ _ _ _ _ _ _ _ _ _ ls H' h hl
set_option maxRecDepth 100000 in
set_option maxHeartbeats 4000000 in
theorem lc_stuck (F : FX p s mi #[Value.ref b] meth c code RL 4 ret D K) (hX : va_X b L xs s s.heap) (hbl : b < s.heap.size) (hL : L ≤ 3072) {i : Nat} (hi : i + 6 ≤ L) (hcs : cells ≤ room_1.cells ∧ slots ≤ room_1.slots) (NX : NXT p l e s mi b below meth c Q D K aa am i cells slots)
    {x sc now draft : ob} {past saved : Nat → ob} {net paces trial route reach m : ob} {g : nb} {H : Heap} {locs : List Loc} {ls : Array Slot} (HG : RG rok x sc now draft past saved net paces route m g) (h : WD D (fun q => s.heap.size ≤ q) s.heap H locs (SL K aa am x sc now draft past saved net paces trial route reach m)) (hl : lv_has ls 4 [(0, .ref b), (1, .ref (aa 0 0)), (2, .ref (am 0)), (3, .int (nI i))]) :
    W p l e room_1 s mi #[Value.ref b] below meth c H locs cells slots Q (F0 mi 644 ls []) := by
  have hx := F.1
  have hb := F.2.1
  have hbA : ¬ (fun q => s.heap.size ≤ q) b := Nat.not_le.mpr hbl
  obtain ⟨ans, reach', m', e5, e6, H'⟩ := rq_stuck HG reach
  have h : WD D (fun q => s.heap.size ≤ q) s.heap H locs [wX5 K aa x, wX3 K (aa 1) sc, wX4 K (aa 2) now, wX4 K (aa 3) draft, wF K 8 (fun i => aa (9 + i)) past, wF K 2 (fun i => aa (17 + i)) saved, wX0 K (aa 4) net, wX0 K (aa 5) paces, wX0 K (aa 6) trial, wX2 K (aa 7) route, wX1 K (aa 8) reach, wX6 K am m] := h
  refine lv_aload_n hx hb dL_law_644 rfl (lv_at hl 1 rfl) ?_
  refine r_callVi (As := []) (rest := []) (C0 := [wX5 K aa x, wX4 K (aa 2) now, wX1 K (aa 8) reach]) (C1 := [wX5 K aa x, wX4 K (aa 2) now, wX1 K (aa 8) reach']) (Rr := [wX3 K (aa 1) sc, wX4 K (aa 3) draft, wF K 8 (fun i => aa (9 + i)) past, wF K 2 (fun i => aa (17 + i)) saved, wX0 K (aa 4) net, wX0 K (aa 5) paces, wX0 K (aa 6) trial, wX2 K (aa 7) route, wX6 K am m]) (S' := [wX5 K aa x, wX3 K (aa 1) sc, wX4 K (aa 2) now, wX4 K (aa 3) draft, wF K 8 (fun i => aa (9 + i)) past, wF K 2 (fun i => aa (17 + i)) saved, wX0 K (aa 4) net, wX0 K (aa 5) paces, wX0 K (aa 6) trial, wX2 K (aa 7) route, wX1 K (aa 8) reach', wX6 K am m]) F h hl (c5_stuck l D K aa x now reach (ans, reach') e5) [0, 2, 10, 1, 3, 4, 5, 6, 7, 8, 9, 11] pk_0_2_10p (pk_0_2_10 _ _ _ _ _ _ _ _ _ _ _ _) (pk_0_2_10 _ _ _ _ _ _ _ _ _ _ _ _) rfl rfl (i := 0) rfl rfl zw_298 ⟨zw_299, zw_300, zw_301, zw_140⟩ hsl5_stuck ⟨Nat.le_of_ble_eq_true rfl, Nat.le_of_ble_eq_true rfl⟩ hcs (Nat.le_of_ble_eq_true rfl) dL_law_645 (fun H locs h => ?_)
  refine lv_aload_n hx hb dL_law_648 rfl (lv_at hl 2 rfl) ?_
  refine r_callVi (As := []) (rest := [.int ans]) (C0 := [wX6 K am m]) (C1 := [wX6 K am m']) (Rr := [wX5 K aa x, wX3 K (aa 1) sc, wX4 K (aa 2) now, wX4 K (aa 3) draft, wF K 8 (fun i => aa (9 + i)) past, wF K 2 (fun i => aa (17 + i)) saved, wX0 K (aa 4) net, wX0 K (aa 5) paces, wX0 K (aa 6) trial, wX2 K (aa 7) route, wX1 K (aa 8) reach']) (S' := [wX5 K aa x, wX3 K (aa 1) sc, wX4 K (aa 2) now, wX4 K (aa 3) draft, wF K 8 (fun i => aa (9 + i)) past, wF K 2 (fun i => aa (17 + i)) saved, wX0 K (aa 4) net, wX0 K (aa 5) paces, wX0 K (aa 6) trial, wX2 K (aa 7) route, wX1 K (aa 8) reach', wX6 K am m']) F h hl (c6_stuck l D K am m (ans, m') e6) [11, 0, 1, 2, 3, 4, 5, 6, 7, 8, 9, 10] pk_11p (pk_11 _ _ _ _ _ _ _ _ _ _ _ _) (pk_11 _ _ _ _ _ _ _ _ _ _ _ _) rfl rfl (i := 11) rfl rfl zw_302 ⟨zw_303, zw_304, zw_305, zw_145⟩ hsl6_stuck ⟨Nat.le_of_ble_eq_true rfl, Nat.le_of_ble_eq_true rfl⟩ hcs (Nat.le_of_ble_eq_true rfl) dL_law_649 (fun H locs h => ?_)
  refine lv_icmp_eq (tgt := 851) hx hb dL_law_652 (by decide) (fun _ => ?_) (fun c1 => absurd rfl c1)
  exact NX _ _ _ _ _ _ _ _ _ _ _ _ _ _ _ ls H' h hl
set_option maxRecDepth 100000 in
set_option maxHeartbeats 4000000 in
theorem lc_edge (F : FX p s mi #[Value.ref b] meth c code RL 4 ret D K) (hX : va_X b L xs s s.heap) (hbl : b < s.heap.size) (hL : L ≤ 3072) {i : Nat} (hi : i + 6 ≤ L) (hcs : cells ≤ room_1.cells ∧ slots ≤ room_1.slots) (NX : NXT p l e s mi b below meth c Q D K aa am i cells slots)
    {x sc now draft : ob} {past saved : Nat → ob} {net paces trial route reach m : ob} {g : nb} {H : Heap} {locs : List Loc} {ls : Array Slot} (HG : RG rok x sc now draft past saved net paces route m g) (h : WD D (fun q => s.heap.size ≤ q) s.heap H locs (SL K aa am x sc now draft past saved net paces trial route reach m)) (hl : lv_has ls 4 [(0, .ref b), (1, .ref (aa 0 0)), (2, .ref (am 0)), (3, .int (nI i))]) :
    W p l e room_1 s mi #[Value.ref b] below meth c H locs cells slots Q (F0 mi 657 ls []) := by
  have hx := F.1
  have hb := F.2.1
  have hbA : ¬ (fun q => s.heap.size ≤ q) b := Nat.not_le.mpr hbl
  obtain ⟨ans, x', net', m', e5, e6, H'⟩ := rq_edge HG (xs (nI i + 1).toNatClampNeg) (xs (nI i + 2).toNatClampNeg) (xs (nI i + 3).toNatClampNeg)
  have h : WD D (fun q => s.heap.size ≤ q) s.heap H locs [wX5 K aa x, wX3 K (aa 1) sc, wX4 K (aa 2) now, wX4 K (aa 3) draft, wF K 8 (fun i => aa (9 + i)) past, wF K 2 (fun i => aa (17 + i)) saved, wX0 K (aa 4) net, wX0 K (aa 5) paces, wX0 K (aa 6) trial, wX2 K (aa 7) route, wX1 K (aa 8) reach, wX6 K am m] := h
  refine lv_aload_n hx hb dL_law_657 rfl (lv_at hl 1 rfl) ?_
  refine lv_aload_n hx hb dL_law_658 rfl (lv_at hl 0 rfl) ?_
  refine lv_iload_n hx hb dL_law_659 rfl (lv_at hl 3 rfl) ?_
  refine lv_iconst (v := 1) hx hb dL_law_660 (by decide) ?_
  refine lv_iadd hx hb dL_law_661 ?_
  refine va_sld hx hb hX hbl hbA h.2.2.1 (vpi 1 hi hL (by decide)) dL_law_662 ?_
  refine lv_aload_n hx hb dL_law_663 rfl (lv_at hl 0 rfl) ?_
  refine lv_iload_n hx hb dL_law_664 rfl (lv_at hl 3 rfl) ?_
  refine lv_iconst (v := 2) hx hb dL_law_665 (by decide) ?_
  refine lv_iadd hx hb dL_law_666 ?_
  refine va_sld hx hb hX hbl hbA h.2.2.1 (vpi 2 hi hL (by decide)) dL_law_667 ?_
  refine lv_aload_n hx hb dL_law_668 rfl (lv_at hl 0 rfl) ?_
  refine lv_iload_n hx hb dL_law_669 rfl (lv_at hl 3 rfl) ?_
  refine lv_iconst (v := 3) hx hb dL_law_670 (by decide) ?_
  refine lv_iadd hx hb dL_law_671 ?_
  refine va_sld hx hb hX hbl hbA h.2.2.1 (vpi 3 hi hL (by decide)) dL_law_672 ?_
  refine r_callVi (As := [.int (xs (nI i + 1).toNatClampNeg), .int (xs (nI i + 2).toNatClampNeg), .int (xs (nI i + 3).toNatClampNeg)]) (rest := []) (C0 := [wX5 K aa x, wX4 K (aa 2) now, wX0 K (aa 4) net]) (C1 := [wX5 K aa x', wX4 K (aa 2) now, wX0 K (aa 4) net']) (Rr := [wX3 K (aa 1) sc, wX4 K (aa 3) draft, wF K 8 (fun i => aa (9 + i)) past, wF K 2 (fun i => aa (17 + i)) saved, wX0 K (aa 5) paces, wX0 K (aa 6) trial, wX2 K (aa 7) route, wX1 K (aa 8) reach, wX6 K am m]) (S' := [wX5 K aa x', wX3 K (aa 1) sc, wX4 K (aa 2) now, wX4 K (aa 3) draft, wF K 8 (fun i => aa (9 + i)) past, wF K 2 (fun i => aa (17 + i)) saved, wX0 K (aa 4) net', wX0 K (aa 5) paces, wX0 K (aa 6) trial, wX2 K (aa 7) route, wX1 K (aa 8) reach, wX6 K am m]) F h hl (c5_edge l D K aa (xs (nI i + 1).toNatClampNeg) (xs (nI i + 2).toNatClampNeg) (xs (nI i + 3).toNatClampNeg) x now net (ans, x', net') e5) [0, 2, 6, 1, 3, 4, 5, 7, 8, 9, 10, 11] pk_0_2_6p (pk_0_2_6 _ _ _ _ _ _ _ _ _ _ _ _) (pk_0_2_6 _ _ _ _ _ _ _ _ _ _ _ _) rfl rfl (i := 0) rfl rfl zw_306 ⟨zw_307, zw_308, zw_309, zw_140⟩ hsl5_edge ⟨Nat.le_of_ble_eq_true rfl, Nat.le_of_ble_eq_true rfl⟩ hcs (Nat.le_of_ble_eq_true rfl) dL_law_673 (fun H locs h => ?_)
  refine lv_aload_n hx hb dL_law_676 rfl (lv_at hl 2 rfl) ?_
  refine lv_aload_n hx hb dL_law_677 rfl (lv_at hl 0 rfl) ?_
  refine lv_iload_n hx hb dL_law_678 rfl (lv_at hl 3 rfl) ?_
  refine lv_iconst (v := 1) hx hb dL_law_679 (by decide) ?_
  refine lv_iadd hx hb dL_law_680 ?_
  refine va_sld hx hb hX hbl hbA h.2.2.1 (vpi 1 hi hL (by decide)) dL_law_681 ?_
  refine lv_aload_n hx hb dL_law_682 rfl (lv_at hl 0 rfl) ?_
  refine lv_iload_n hx hb dL_law_683 rfl (lv_at hl 3 rfl) ?_
  refine lv_iconst (v := 2) hx hb dL_law_684 (by decide) ?_
  refine lv_iadd hx hb dL_law_685 ?_
  refine va_sld hx hb hX hbl hbA h.2.2.1 (vpi 2 hi hL (by decide)) dL_law_686 ?_
  refine lv_aload_n hx hb dL_law_687 rfl (lv_at hl 0 rfl) ?_
  refine lv_iload_n hx hb dL_law_688 rfl (lv_at hl 3 rfl) ?_
  refine lv_iconst (v := 3) hx hb dL_law_689 (by decide) ?_
  refine lv_iadd hx hb dL_law_690 ?_
  refine va_sld hx hb hX hbl hbA h.2.2.1 (vpi 3 hi hL (by decide)) dL_law_691 ?_
  refine r_callVi (As := [.int (xs (nI i + 1).toNatClampNeg), .int (xs (nI i + 2).toNatClampNeg), .int (xs (nI i + 3).toNatClampNeg)]) (rest := [.int ans]) (C0 := [wX6 K am m]) (C1 := [wX6 K am m']) (Rr := [wX5 K aa x', wX3 K (aa 1) sc, wX4 K (aa 2) now, wX4 K (aa 3) draft, wF K 8 (fun i => aa (9 + i)) past, wF K 2 (fun i => aa (17 + i)) saved, wX0 K (aa 4) net', wX0 K (aa 5) paces, wX0 K (aa 6) trial, wX2 K (aa 7) route, wX1 K (aa 8) reach]) (S' := [wX5 K aa x', wX3 K (aa 1) sc, wX4 K (aa 2) now, wX4 K (aa 3) draft, wF K 8 (fun i => aa (9 + i)) past, wF K 2 (fun i => aa (17 + i)) saved, wX0 K (aa 4) net', wX0 K (aa 5) paces, wX0 K (aa 6) trial, wX2 K (aa 7) route, wX1 K (aa 8) reach, wX6 K am m']) F h hl (c6_edge l D K am (xs (nI i + 1).toNatClampNeg) (xs (nI i + 2).toNatClampNeg) (xs (nI i + 3).toNatClampNeg) m (ans, m') e6) [11, 0, 1, 2, 3, 4, 5, 6, 7, 8, 9, 10] pk_11p (pk_11 _ _ _ _ _ _ _ _ _ _ _ _) (pk_11 _ _ _ _ _ _ _ _ _ _ _ _) rfl rfl (i := 11) rfl rfl zw_310 ⟨zw_311, zw_312, zw_313, zw_145⟩ hsl6_edge ⟨Nat.le_of_ble_eq_true rfl, Nat.le_of_ble_eq_true rfl⟩ hcs (Nat.le_of_ble_eq_true rfl) dL_law_692 (fun H locs h => ?_)
  refine lv_icmp_eq (tgt := 851) hx hb dL_law_695 (by decide) (fun _ => ?_) (fun c1 => absurd rfl c1)
  exact NX _ _ _ _ _ _ _ _ _ _ _ _ _ _ _ ls H' h hl
set_option maxRecDepth 100000 in
set_option maxHeartbeats 4000000 in
theorem lc_automaton (F : FX p s mi #[Value.ref b] meth c code RL 4 ret D K) (hX : va_X b L xs s s.heap) (hbl : b < s.heap.size) (hL : L ≤ 3072) {i : Nat} (hi : i + 6 ≤ L) (hcs : cells ≤ room_1.cells ∧ slots ≤ room_1.slots) (NX : NXT p l e s mi b below meth c Q D K aa am i cells slots)
    {x sc now draft : ob} {past saved : Nat → ob} {net paces trial route reach m : ob} {g : nb} {H : Heap} {locs : List Loc} {ls : Array Slot} (HG : RG rok x sc now draft past saved net paces route m g) (h : WD D (fun q => s.heap.size ≤ q) s.heap H locs (SL K aa am x sc now draft past saved net paces trial route reach m)) (hl : lv_has ls 4 [(0, .ref b), (1, .ref (aa 0 0)), (2, .ref (am 0)), (3, .int (nI i))]) :
    W p l e room_1 s mi #[Value.ref b] below meth c H locs cells slots Q (F0 mi 700 ls []) := by
  have hx := F.1
  have hb := F.2.1
  have hbA : ¬ (fun q => s.heap.size ≤ q) b := Nat.not_le.mpr hbl
  obtain ⟨ans, x', net', m', e5, e6, H'⟩ := rq_automaton HG (xs (nI i + 1).toNatClampNeg)
  have h : WD D (fun q => s.heap.size ≤ q) s.heap H locs [wX5 K aa x, wX3 K (aa 1) sc, wX4 K (aa 2) now, wX4 K (aa 3) draft, wF K 8 (fun i => aa (9 + i)) past, wF K 2 (fun i => aa (17 + i)) saved, wX0 K (aa 4) net, wX0 K (aa 5) paces, wX0 K (aa 6) trial, wX2 K (aa 7) route, wX1 K (aa 8) reach, wX6 K am m] := h
  refine lv_aload_n hx hb dL_law_700 rfl (lv_at hl 1 rfl) ?_
  refine lv_aload_n hx hb dL_law_701 rfl (lv_at hl 0 rfl) ?_
  refine lv_iload_n hx hb dL_law_702 rfl (lv_at hl 3 rfl) ?_
  refine lv_iconst (v := 1) hx hb dL_law_703 (by decide) ?_
  refine lv_iadd hx hb dL_law_704 ?_
  refine va_sld hx hb hX hbl hbA h.2.2.1 (vpi 1 hi hL (by decide)) dL_law_705 ?_
  refine r_callVi (As := [.int (xs (nI i + 1).toNatClampNeg)]) (rest := []) (C0 := [wX5 K aa x, wX4 K (aa 2) now, wX0 K (aa 4) net]) (C1 := [wX5 K aa x', wX4 K (aa 2) now, wX0 K (aa 4) net']) (Rr := [wX3 K (aa 1) sc, wX4 K (aa 3) draft, wF K 8 (fun i => aa (9 + i)) past, wF K 2 (fun i => aa (17 + i)) saved, wX0 K (aa 5) paces, wX0 K (aa 6) trial, wX2 K (aa 7) route, wX1 K (aa 8) reach, wX6 K am m]) (S' := [wX5 K aa x', wX3 K (aa 1) sc, wX4 K (aa 2) now, wX4 K (aa 3) draft, wF K 8 (fun i => aa (9 + i)) past, wF K 2 (fun i => aa (17 + i)) saved, wX0 K (aa 4) net', wX0 K (aa 5) paces, wX0 K (aa 6) trial, wX2 K (aa 7) route, wX1 K (aa 8) reach, wX6 K am m]) F h hl (c5_automaton l D K aa (xs (nI i + 1).toNatClampNeg) x now net (ans, x', net') e5) [0, 2, 6, 1, 3, 4, 5, 7, 8, 9, 10, 11] pk_0_2_6p (pk_0_2_6 _ _ _ _ _ _ _ _ _ _ _ _) (pk_0_2_6 _ _ _ _ _ _ _ _ _ _ _ _) rfl rfl (i := 0) rfl rfl zw_314 ⟨zw_315, zw_316, zw_317, zw_140⟩ hsl5_automaton ⟨Nat.le_of_ble_eq_true rfl, Nat.le_of_ble_eq_true rfl⟩ hcs (Nat.le_of_ble_eq_true rfl) dL_law_706 (fun H locs h => ?_)
  refine lv_aload_n hx hb dL_law_709 rfl (lv_at hl 2 rfl) ?_
  refine lv_aload_n hx hb dL_law_710 rfl (lv_at hl 0 rfl) ?_
  refine lv_iload_n hx hb dL_law_711 rfl (lv_at hl 3 rfl) ?_
  refine lv_iconst (v := 1) hx hb dL_law_712 (by decide) ?_
  refine lv_iadd hx hb dL_law_713 ?_
  refine va_sld hx hb hX hbl hbA h.2.2.1 (vpi 1 hi hL (by decide)) dL_law_714 ?_
  refine r_callVi (As := [.int (xs (nI i + 1).toNatClampNeg)]) (rest := [.int ans]) (C0 := [wX6 K am m]) (C1 := [wX6 K am m']) (Rr := [wX5 K aa x', wX3 K (aa 1) sc, wX4 K (aa 2) now, wX4 K (aa 3) draft, wF K 8 (fun i => aa (9 + i)) past, wF K 2 (fun i => aa (17 + i)) saved, wX0 K (aa 4) net', wX0 K (aa 5) paces, wX0 K (aa 6) trial, wX2 K (aa 7) route, wX1 K (aa 8) reach]) (S' := [wX5 K aa x', wX3 K (aa 1) sc, wX4 K (aa 2) now, wX4 K (aa 3) draft, wF K 8 (fun i => aa (9 + i)) past, wF K 2 (fun i => aa (17 + i)) saved, wX0 K (aa 4) net', wX0 K (aa 5) paces, wX0 K (aa 6) trial, wX2 K (aa 7) route, wX1 K (aa 8) reach, wX6 K am m']) F h hl (c6_automaton l D K am (xs (nI i + 1).toNatClampNeg) m (ans, m') e6) [11, 0, 1, 2, 3, 4, 5, 6, 7, 8, 9, 10] pk_11p (pk_11 _ _ _ _ _ _ _ _ _ _ _ _) (pk_11 _ _ _ _ _ _ _ _ _ _ _ _) rfl rfl (i := 11) rfl rfl zw_318 ⟨zw_319, zw_320, zw_321, zw_145⟩ hsl6_automaton ⟨Nat.le_of_ble_eq_true rfl, Nat.le_of_ble_eq_true rfl⟩ hcs (Nat.le_of_ble_eq_true rfl) dL_law_715 (fun H locs h => ?_)
  refine lv_icmp_eq (tgt := 851) hx hb dL_law_718 (by decide) (fun _ => ?_) (fun c1 => absurd rfl c1)
  exact NX _ _ _ _ _ _ _ _ _ _ _ _ _ _ _ ls H' h hl
set_option maxRecDepth 100000 in
set_option maxHeartbeats 4000000 in
theorem lc_needed (F : FX p s mi #[Value.ref b] meth c code RL 4 ret D K) (hX : va_X b L xs s s.heap) (hbl : b < s.heap.size) (hL : L ≤ 3072) {i : Nat} (hi : i + 6 ≤ L) (hcs : cells ≤ room_1.cells ∧ slots ≤ room_1.slots) (NX : NXT p l e s mi b below meth c Q D K aa am i cells slots)
    {x sc now draft : ob} {past saved : Nat → ob} {net paces trial route reach m : ob} {g : nb} {H : Heap} {locs : List Loc} {ls : Array Slot} (HG : RG rok x sc now draft past saved net paces route m g) (h : WD D (fun q => s.heap.size ≤ q) s.heap H locs (SL K aa am x sc now draft past saved net paces trial route reach m)) (hl : lv_has ls 4 [(0, .ref b), (1, .ref (aa 0 0)), (2, .ref (am 0)), (3, .int (nI i))]) :
    W p l e room_1 s mi #[Value.ref b] below meth c H locs cells slots Q (F0 mi 723 ls []) := by
  have hx := F.1
  have hb := F.2.1
  have hbA : ¬ (fun q => s.heap.size ≤ q) b := Nat.not_le.mpr hbl
  obtain ⟨ans, x', net', trial', m', e5, e6, H'⟩ := rq_needed HG trial
  have h : WD D (fun q => s.heap.size ≤ q) s.heap H locs [wX5 K aa x, wX3 K (aa 1) sc, wX4 K (aa 2) now, wX4 K (aa 3) draft, wF K 8 (fun i => aa (9 + i)) past, wF K 2 (fun i => aa (17 + i)) saved, wX0 K (aa 4) net, wX0 K (aa 5) paces, wX0 K (aa 6) trial, wX2 K (aa 7) route, wX1 K (aa 8) reach, wX6 K am m] := h
  refine lv_aload_n hx hb dL_law_723 rfl (lv_at hl 1 rfl) ?_
  refine r_callVi (As := []) (rest := []) (C0 := [wX5 K aa x, wX4 K (aa 2) now, wX0 K (aa 4) net, wX0 K (aa 6) trial]) (C1 := [wX5 K aa x', wX4 K (aa 2) now, wX0 K (aa 4) net', wX0 K (aa 6) trial']) (Rr := [wX3 K (aa 1) sc, wX4 K (aa 3) draft, wF K 8 (fun i => aa (9 + i)) past, wF K 2 (fun i => aa (17 + i)) saved, wX0 K (aa 5) paces, wX2 K (aa 7) route, wX1 K (aa 8) reach, wX6 K am m]) (S' := [wX5 K aa x', wX3 K (aa 1) sc, wX4 K (aa 2) now, wX4 K (aa 3) draft, wF K 8 (fun i => aa (9 + i)) past, wF K 2 (fun i => aa (17 + i)) saved, wX0 K (aa 4) net', wX0 K (aa 5) paces, wX0 K (aa 6) trial', wX2 K (aa 7) route, wX1 K (aa 8) reach, wX6 K am m]) F h hl (c5_needed l D K aa x now net trial (ans, x', net', trial') e5) [0, 2, 6, 8, 1, 3, 4, 5, 7, 9, 10, 11] pk_0_2_6_8p (pk_0_2_6_8 _ _ _ _ _ _ _ _ _ _ _ _) (pk_0_2_6_8 _ _ _ _ _ _ _ _ _ _ _ _) rfl rfl (i := 0) rfl rfl zw_322 ⟨zw_323, zw_324, zw_325, zw_140⟩ hsl5_needed ⟨Nat.le_of_ble_eq_true rfl, Nat.le_of_ble_eq_true rfl⟩ hcs (Nat.le_of_ble_eq_true rfl) dL_law_724 (fun H locs h => ?_)
  refine lv_aload_n hx hb dL_law_727 rfl (lv_at hl 2 rfl) ?_
  refine r_callVi (As := []) (rest := [.int ans]) (C0 := [wX6 K am m]) (C1 := [wX6 K am m']) (Rr := [wX5 K aa x', wX3 K (aa 1) sc, wX4 K (aa 2) now, wX4 K (aa 3) draft, wF K 8 (fun i => aa (9 + i)) past, wF K 2 (fun i => aa (17 + i)) saved, wX0 K (aa 4) net', wX0 K (aa 5) paces, wX0 K (aa 6) trial', wX2 K (aa 7) route, wX1 K (aa 8) reach]) (S' := [wX5 K aa x', wX3 K (aa 1) sc, wX4 K (aa 2) now, wX4 K (aa 3) draft, wF K 8 (fun i => aa (9 + i)) past, wF K 2 (fun i => aa (17 + i)) saved, wX0 K (aa 4) net', wX0 K (aa 5) paces, wX0 K (aa 6) trial', wX2 K (aa 7) route, wX1 K (aa 8) reach, wX6 K am m']) F h hl (c6_needed l D K am m (ans, m') e6) [11, 0, 1, 2, 3, 4, 5, 6, 7, 8, 9, 10] pk_11p (pk_11 _ _ _ _ _ _ _ _ _ _ _ _) (pk_11 _ _ _ _ _ _ _ _ _ _ _ _) rfl rfl (i := 11) rfl rfl zw_326 ⟨zw_327, zw_328, zw_329, zw_145⟩ hsl6_needed ⟨Nat.le_of_ble_eq_true rfl, Nat.le_of_ble_eq_true rfl⟩ hcs (Nat.le_of_ble_eq_true rfl) dL_law_728 (fun H locs h => ?_)
  refine lv_icmp_eq (tgt := 851) hx hb dL_law_731 (by decide) (fun _ => ?_) (fun c1 => absurd rfl c1)
  exact NX _ _ _ _ _ _ _ _ _ _ _ _ _ _ _ ls H' h hl
end LAW4
