theorem zw_330 : Cond.code yX5_dear cX5_dear 4 (some .int) ∈ TBL := tk_4 23 (by decide +kernel) (by decide +kernel)
theorem zw_331 : Cond.methodLink RL 114 yX5_dear ∈ TBL := tk_4 20 (by decide +kernel) (by decide +kernel)
theorem zw_332 : Cond.instanceMethod yX5_dear ∈ TBL := tk_4 21 (by decide +kernel) (by decide +kernel)
theorem zw_333 : Cond.selects RX5 yX5_dear yX5_dear ∈ TBL := tk_4 22 (by decide +kernel) (by decide +kernel)
theorem zw_334 : Cond.code yX6_dear cX6_dear 5 (some .int) ∈ TBL := tk_5 100 (by decide +kernel) (by decide +kernel)
theorem zw_335 : Cond.methodLink RL 117 yX6_dear ∈ TBL := tk_5 97 (by decide +kernel) (by decide +kernel)
theorem zw_336 : Cond.instanceMethod yX6_dear ∈ TBL := tk_5 98 (by decide +kernel) (by decide +kernel)
theorem zw_337 : Cond.selects RX6 yX6_dear yX6_dear ∈ TBL := tk_5 99 (by decide +kernel) (by decide +kernel)
theorem zw_338 : Cond.code yX5_walk cX5_walk 7 (some .int) ∈ TBL := tk_4 31 (by decide +kernel) (by decide +kernel)
theorem zw_339 : Cond.methodLink RL 118 yX5_walk ∈ TBL := tk_4 28 (by decide +kernel) (by decide +kernel)
theorem zw_340 : Cond.instanceMethod yX5_walk ∈ TBL := tk_4 29 (by decide +kernel) (by decide +kernel)
theorem zw_341 : Cond.selects RX5 yX5_walk yX5_walk ∈ TBL := tk_4 30 (by decide +kernel) (by decide +kernel)
theorem zw_342 : Cond.code yX6_walk cX6_walk 6 (some .int) ∈ TBL := tk_5 176 (by decide +kernel) (by decide +kernel)
theorem zw_343 : Cond.methodLink RL 121 yX6_walk ∈ TBL := tk_5 173 (by decide +kernel) (by decide +kernel)
theorem zw_344 : Cond.instanceMethod yX6_walk ∈ TBL := tk_5 174 (by decide +kernel) (by decide +kernel)
theorem zw_345 : Cond.selects RX6 yX6_walk yX6_walk ∈ TBL := tk_5 175 (by decide +kernel) (by decide +kernel)
theorem zw_346 : Cond.code yX5_keep cX5_keep 1 (some .int) ∈ TBL := tk_4 47 (by decide +kernel) (by decide +kernel)
theorem zw_347 : Cond.methodLink RL 122 yX5_keep ∈ TBL := tk_4 44 (by decide +kernel) (by decide +kernel)
theorem zw_348 : Cond.instanceMethod yX5_keep ∈ TBL := tk_4 45 (by decide +kernel) (by decide +kernel)
theorem zw_349 : Cond.selects RX5 yX5_keep yX5_keep ∈ TBL := tk_4 46 (by decide +kernel) (by decide +kernel)
theorem zw_350 : Cond.code yX6_keep cX6_keep 1 (some .int) ∈ TBL := tk_4 188 (by decide +kernel) (by decide +kernel)
theorem zw_351 : Cond.methodLink RL 125 yX6_keep ∈ TBL := tk_4 185 (by decide +kernel) (by decide +kernel)
theorem zw_352 : Cond.instanceMethod yX6_keep ∈ TBL := tk_4 186 (by decide +kernel) (by decide +kernel)
theorem zw_353 : Cond.selects RX6 yX6_keep yX6_keep ∈ TBL := tk_4 187 (by decide +kernel) (by decide +kernel)
theorem zw_354 : Cond.code yX5_back cX5_back 1 (some .int) ∈ TBL := tk_4 51 (by decide +kernel) (by decide +kernel)
theorem zw_355 : Cond.methodLink RL 126 yX5_back ∈ TBL := tk_4 48 (by decide +kernel) (by decide +kernel)
theorem zw_356 : Cond.instanceMethod yX5_back ∈ TBL := tk_4 49 (by decide +kernel) (by decide +kernel)
theorem zw_357 : Cond.selects RX5 yX5_back yX5_back ∈ TBL := tk_4 50 (by decide +kernel) (by decide +kernel)
theorem zw_358 : Cond.code yX6_back cX6_back 1 (some .int) ∈ TBL := tk_4 196 (by decide +kernel) (by decide +kernel)
theorem zw_359 : Cond.methodLink RL 129 yX6_back ∈ TBL := tk_4 193 (by decide +kernel) (by decide +kernel)
theorem zw_360 : Cond.instanceMethod yX6_back ∈ TBL := tk_4 194 (by decide +kernel) (by decide +kernel)
theorem zw_361 : Cond.selects RX6 yX6_back yX6_back ∈ TBL := tk_4 195 (by decide +kernel) (by decide +kernel)
theorem zw_362 : Cond.code yX5_count cX5_count 2 (some .int) ∈ TBL := tk_4 55 (by decide +kernel) (by decide +kernel)
theorem zw_363 : Cond.methodLink RL 130 yX5_count ∈ TBL := tk_4 52 (by decide +kernel) (by decide +kernel)
theorem zw_364 : Cond.instanceMethod yX5_count ∈ TBL := tk_4 53 (by decide +kernel) (by decide +kernel)
theorem zw_365 : Cond.selects RX5 yX5_count yX5_count ∈ TBL := tk_4 54 (by decide +kernel) (by decide +kernel)
theorem zw_366 : Cond.code yX6_count cX6_count 2 (some .int) ∈ TBL := tk_6 12 (by decide +kernel) (by decide +kernel)
theorem zw_367 : Cond.methodLink RL 133 yX6_count ∈ TBL := tk_6 9 (by decide +kernel) (by decide +kernel)
theorem zw_368 : Cond.instanceMethod yX6_count ∈ TBL := tk_6 10 (by decide +kernel) (by decide +kernel)
theorem zw_369 : Cond.selects RX6 yX6_count yX6_count ∈ TBL := tk_6 11 (by decide +kernel) (by decide +kernel)
section LAW5
variable {p : Program} {l : Launch} {e : Env} {s : State} {mi : MethodId} {b : Nat} {below : List Frame} {meth : Method} {c : Code} {Q : State → Prop} {D : va_G} {K : Nat → ClassId} {L : Nat} {xs : Nat → Int32} {aa : Nat → Nat → Nat} {am : Nat → Nat} {cells slots : Nat}
set_option maxRecDepth 100000 in
set_option maxHeartbeats 4000000 in
theorem lc_dear (F : FX p s mi #[Value.ref b] meth c code RL 4 ret D K) (hX : va_X b L xs s s.heap) (hbl : b < s.heap.size) (hL : L ≤ 3072) {i : Nat} (hi : i + 6 ≤ L) (hcs : cells ≤ room_1.cells ∧ slots ≤ room_1.slots) (NX : NXT p l e s mi b below meth c Q D K aa am i cells slots)
    {x sc now draft : ob} {past saved : Nat → ob} {net paces trial route reach m : ob} {g : nb} {H : Heap} {locs : List Loc} {ls : Array Slot} (HG : RG rok x sc now draft past saved net paces route m g) (h : WD D (fun q => s.heap.size ≤ q) s.heap H locs (SL K aa am x sc now draft past saved net paces trial route reach m)) (hl : lv_has ls 4 [(0, .ref b), (1, .ref (aa 0 0)), (2, .ref (am 0)), (3, .int (nI i))]) :
    W p l e room_1 s mi #[Value.ref b] below meth c H locs cells slots Q (F0 mi 736 ls []) := by
  have hx := F.1
  have hb := F.2.1
  have hbA : ¬ (fun q => s.heap.size ≤ q) b := Nat.not_le.mpr hbl
  obtain ⟨ans, x', net', trial', m', e5, e6, H'⟩ := rq_dear HG (xs (nI i + 1).toNatClampNeg) trial
  have h : WD D (fun q => s.heap.size ≤ q) s.heap H locs [wX5 K aa x, wX3 K (aa 1) sc, wX4 K (aa 2) now, wX4 K (aa 3) draft, wF K 8 (fun i => aa (9 + i)) past, wF K 2 (fun i => aa (17 + i)) saved, wX0 K (aa 4) net, wX0 K (aa 5) paces, wX0 K (aa 6) trial, wX2 K (aa 7) route, wX1 K (aa 8) reach, wX6 K am m] := h
  refine lv_aload_n hx hb dL_law_736 rfl (lv_at hl 1 rfl) ?_
  refine lv_aload_n hx hb dL_law_737 rfl (lv_at hl 0 rfl) ?_
  refine lv_iload_n hx hb dL_law_738 rfl (lv_at hl 3 rfl) ?_
  refine lv_iconst (v := 1) hx hb dL_law_739 (by decide) ?_
  refine lv_iadd hx hb dL_law_740 ?_
  refine va_sld hx hb hX hbl hbA h.2.2.1 (vpi 1 hi hL (by decide)) dL_law_741 ?_
  refine r_callVi (As := [.int (xs (nI i + 1).toNatClampNeg)]) (rest := []) (C0 := [wX5 K aa x, wX4 K (aa 2) now, wX0 K (aa 4) net, wX0 K (aa 6) trial]) (C1 := [wX5 K aa x', wX4 K (aa 2) now, wX0 K (aa 4) net', wX0 K (aa 6) trial']) (Rr := [wX3 K (aa 1) sc, wX4 K (aa 3) draft, wF K 8 (fun i => aa (9 + i)) past, wF K 2 (fun i => aa (17 + i)) saved, wX0 K (aa 5) paces, wX2 K (aa 7) route, wX1 K (aa 8) reach, wX6 K am m]) (S' := [wX5 K aa x', wX3 K (aa 1) sc, wX4 K (aa 2) now, wX4 K (aa 3) draft, wF K 8 (fun i => aa (9 + i)) past, wF K 2 (fun i => aa (17 + i)) saved, wX0 K (aa 4) net', wX0 K (aa 5) paces, wX0 K (aa 6) trial', wX2 K (aa 7) route, wX1 K (aa 8) reach, wX6 K am m]) F h hl (c5_dear l D K aa (xs (nI i + 1).toNatClampNeg) x now net trial (ans, x', net', trial') e5) [0, 2, 6, 8, 1, 3, 4, 5, 7, 9, 10, 11] pk_0_2_6_8p (pk_0_2_6_8 _ _ _ _ _ _ _ _ _ _ _ _) (pk_0_2_6_8 _ _ _ _ _ _ _ _ _ _ _ _) rfl rfl (i := 0) rfl rfl zw_330 ⟨zw_331, zw_332, zw_333, zw_140⟩ hsl5_dear ⟨Nat.le_of_ble_eq_true rfl, Nat.le_of_ble_eq_true rfl⟩ hcs (Nat.le_of_ble_eq_true rfl) dL_law_742 (fun H locs h => ?_)
  refine lv_aload_n hx hb dL_law_745 rfl (lv_at hl 2 rfl) ?_
  refine lv_aload_n hx hb dL_law_746 rfl (lv_at hl 0 rfl) ?_
  refine lv_iload_n hx hb dL_law_747 rfl (lv_at hl 3 rfl) ?_
  refine lv_iconst (v := 1) hx hb dL_law_748 (by decide) ?_
  refine lv_iadd hx hb dL_law_749 ?_
  refine va_sld hx hb hX hbl hbA h.2.2.1 (vpi 1 hi hL (by decide)) dL_law_750 ?_
  refine r_callVi (As := [.int (xs (nI i + 1).toNatClampNeg)]) (rest := [.int ans]) (C0 := [wX6 K am m]) (C1 := [wX6 K am m']) (Rr := [wX5 K aa x', wX3 K (aa 1) sc, wX4 K (aa 2) now, wX4 K (aa 3) draft, wF K 8 (fun i => aa (9 + i)) past, wF K 2 (fun i => aa (17 + i)) saved, wX0 K (aa 4) net', wX0 K (aa 5) paces, wX0 K (aa 6) trial', wX2 K (aa 7) route, wX1 K (aa 8) reach]) (S' := [wX5 K aa x', wX3 K (aa 1) sc, wX4 K (aa 2) now, wX4 K (aa 3) draft, wF K 8 (fun i => aa (9 + i)) past, wF K 2 (fun i => aa (17 + i)) saved, wX0 K (aa 4) net', wX0 K (aa 5) paces, wX0 K (aa 6) trial', wX2 K (aa 7) route, wX1 K (aa 8) reach, wX6 K am m']) F h hl (c6_dear l D K am (xs (nI i + 1).toNatClampNeg) m (ans, m') e6) [11, 0, 1, 2, 3, 4, 5, 6, 7, 8, 9, 10] pk_11p (pk_11 _ _ _ _ _ _ _ _ _ _ _ _) (pk_11 _ _ _ _ _ _ _ _ _ _ _ _) rfl rfl (i := 11) rfl rfl zw_334 ⟨zw_335, zw_336, zw_337, zw_145⟩ hsl6_dear ⟨Nat.le_of_ble_eq_true rfl, Nat.le_of_ble_eq_true rfl⟩ hcs (Nat.le_of_ble_eq_true rfl) dL_law_751 (fun H locs h => ?_)
  refine lv_icmp_eq (tgt := 851) hx hb dL_law_754 (by decide) (fun _ => ?_) (fun c1 => absurd rfl c1)
  exact NX _ _ _ _ _ _ _ _ _ _ _ _ _ _ _ ls H' h hl
set_option maxRecDepth 100000 in
set_option maxHeartbeats 4000000 in
theorem lc_walk (F : FX p s mi #[Value.ref b] meth c code RL 4 ret D K) (hX : va_X b L xs s s.heap) (hbl : b < s.heap.size) (hL : L ≤ 3072) {i : Nat} (hi : i + 6 ≤ L) (hcs : cells ≤ room_1.cells ∧ slots ≤ room_1.slots) (NX : NXT p l e s mi b below meth c Q D K aa am i cells slots)
    {x sc now draft : ob} {past saved : Nat → ob} {net paces trial route reach m : ob} {g : nb} {H : Heap} {locs : List Loc} {ls : Array Slot} (HG : RG rok x sc now draft past saved net paces route m g) (h : WD D (fun q => s.heap.size ≤ q) s.heap H locs (SL K aa am x sc now draft past saved net paces trial route reach m)) (hl : lv_has ls 4 [(0, .ref b), (1, .ref (aa 0 0)), (2, .ref (am 0)), (3, .int (nI i))]) :
    W p l e room_1 s mi #[Value.ref b] below meth c H locs cells slots Q (F0 mi 759 ls []) := by
  have hx := F.1
  have hb := F.2.1
  have hbA : ¬ (fun q => s.heap.size ≤ q) b := Nat.not_le.mpr hbl
  obtain ⟨ans, draft', m', e5, e6, H'⟩ := rq_walk HG (xs (nI i + 1).toNatClampNeg) (xs (nI i + 2).toNatClampNeg) (xs (nI i + 3).toNatClampNeg)
  have h : WD D (fun q => s.heap.size ≤ q) s.heap H locs [wX5 K aa x, wX3 K (aa 1) sc, wX4 K (aa 2) now, wX4 K (aa 3) draft, wF K 8 (fun i => aa (9 + i)) past, wF K 2 (fun i => aa (17 + i)) saved, wX0 K (aa 4) net, wX0 K (aa 5) paces, wX0 K (aa 6) trial, wX2 K (aa 7) route, wX1 K (aa 8) reach, wX6 K am m] := h
  refine lv_aload_n hx hb dL_law_759 rfl (lv_at hl 1 rfl) ?_
  refine lv_aload_n hx hb dL_law_760 rfl (lv_at hl 0 rfl) ?_
  refine lv_iload_n hx hb dL_law_761 rfl (lv_at hl 3 rfl) ?_
  refine lv_iconst (v := 1) hx hb dL_law_762 (by decide) ?_
  refine lv_iadd hx hb dL_law_763 ?_
  refine va_sld hx hb hX hbl hbA h.2.2.1 (vpi 1 hi hL (by decide)) dL_law_764 ?_
  refine lv_aload_n hx hb dL_law_765 rfl (lv_at hl 0 rfl) ?_
  refine lv_iload_n hx hb dL_law_766 rfl (lv_at hl 3 rfl) ?_
  refine lv_iconst (v := 2) hx hb dL_law_767 (by decide) ?_
  refine lv_iadd hx hb dL_law_768 ?_
  refine va_sld hx hb hX hbl hbA h.2.2.1 (vpi 2 hi hL (by decide)) dL_law_769 ?_
  refine lv_aload_n hx hb dL_law_770 rfl (lv_at hl 0 rfl) ?_
  refine lv_iload_n hx hb dL_law_771 rfl (lv_at hl 3 rfl) ?_
  refine lv_iconst (v := 3) hx hb dL_law_772 (by decide) ?_
  refine lv_iadd hx hb dL_law_773 ?_
  refine va_sld hx hb hX hbl hbA h.2.2.1 (vpi 3 hi hL (by decide)) dL_law_774 ?_
  refine r_callVi (As := [.int (xs (nI i + 1).toNatClampNeg), .int (xs (nI i + 2).toNatClampNeg), .int (xs (nI i + 3).toNatClampNeg)]) (rest := []) (C0 := [wX5 K aa x, wX4 K (aa 2) now, wX4 K (aa 3) draft]) (C1 := [wX5 K aa x, wX4 K (aa 2) now, wX4 K (aa 3) draft']) (Rr := [wX3 K (aa 1) sc, wF K 8 (fun i => aa (9 + i)) past, wF K 2 (fun i => aa (17 + i)) saved, wX0 K (aa 4) net, wX0 K (aa 5) paces, wX0 K (aa 6) trial, wX2 K (aa 7) route, wX1 K (aa 8) reach, wX6 K am m]) (S' := [wX5 K aa x, wX3 K (aa 1) sc, wX4 K (aa 2) now, wX4 K (aa 3) draft', wF K 8 (fun i => aa (9 + i)) past, wF K 2 (fun i => aa (17 + i)) saved, wX0 K (aa 4) net, wX0 K (aa 5) paces, wX0 K (aa 6) trial, wX2 K (aa 7) route, wX1 K (aa 8) reach, wX6 K am m]) F h hl (c5_walk l D K aa (xs (nI i + 1).toNatClampNeg) (xs (nI i + 2).toNatClampNeg) (xs (nI i + 3).toNatClampNeg) x now draft (ans, draft') e5) [0, 2, 3, 1, 4, 5, 6, 7, 8, 9, 10, 11] pk_0_2_3p (pk_0_2_3 _ _ _ _ _ _ _ _ _ _ _ _) (pk_0_2_3 _ _ _ _ _ _ _ _ _ _ _ _) rfl rfl (i := 0) rfl rfl zw_338 ⟨zw_339, zw_340, zw_341, zw_140⟩ hsl5_walk ⟨Nat.le_of_ble_eq_true rfl, Nat.le_of_ble_eq_true rfl⟩ hcs (Nat.le_of_ble_eq_true rfl) dL_law_775 (fun H locs h => ?_)
  refine lv_aload_n hx hb dL_law_778 rfl (lv_at hl 2 rfl) ?_
  refine lv_aload_n hx hb dL_law_779 rfl (lv_at hl 0 rfl) ?_
  refine lv_iload_n hx hb dL_law_780 rfl (lv_at hl 3 rfl) ?_
  refine lv_iconst (v := 1) hx hb dL_law_781 (by decide) ?_
  refine lv_iadd hx hb dL_law_782 ?_
  refine va_sld hx hb hX hbl hbA h.2.2.1 (vpi 1 hi hL (by decide)) dL_law_783 ?_
  refine lv_aload_n hx hb dL_law_784 rfl (lv_at hl 0 rfl) ?_
  refine lv_iload_n hx hb dL_law_785 rfl (lv_at hl 3 rfl) ?_
  refine lv_iconst (v := 2) hx hb dL_law_786 (by decide) ?_
  refine lv_iadd hx hb dL_law_787 ?_
  refine va_sld hx hb hX hbl hbA h.2.2.1 (vpi 2 hi hL (by decide)) dL_law_788 ?_
  refine lv_aload_n hx hb dL_law_789 rfl (lv_at hl 0 rfl) ?_
  refine lv_iload_n hx hb dL_law_790 rfl (lv_at hl 3 rfl) ?_
  refine lv_iconst (v := 3) hx hb dL_law_791 (by decide) ?_
  refine lv_iadd hx hb dL_law_792 ?_
  refine va_sld hx hb hX hbl hbA h.2.2.1 (vpi 3 hi hL (by decide)) dL_law_793 ?_
  refine r_callVi (As := [.int (xs (nI i + 1).toNatClampNeg), .int (xs (nI i + 2).toNatClampNeg), .int (xs (nI i + 3).toNatClampNeg)]) (rest := [.int ans]) (C0 := [wX6 K am m]) (C1 := [wX6 K am m']) (Rr := [wX5 K aa x, wX3 K (aa 1) sc, wX4 K (aa 2) now, wX4 K (aa 3) draft', wF K 8 (fun i => aa (9 + i)) past, wF K 2 (fun i => aa (17 + i)) saved, wX0 K (aa 4) net, wX0 K (aa 5) paces, wX0 K (aa 6) trial, wX2 K (aa 7) route, wX1 K (aa 8) reach]) (S' := [wX5 K aa x, wX3 K (aa 1) sc, wX4 K (aa 2) now, wX4 K (aa 3) draft', wF K 8 (fun i => aa (9 + i)) past, wF K 2 (fun i => aa (17 + i)) saved, wX0 K (aa 4) net, wX0 K (aa 5) paces, wX0 K (aa 6) trial, wX2 K (aa 7) route, wX1 K (aa 8) reach, wX6 K am m']) F h hl (c6_walk l D K am (xs (nI i + 1).toNatClampNeg) (xs (nI i + 2).toNatClampNeg) (xs (nI i + 3).toNatClampNeg) m (ans, m') e6) [11, 0, 1, 2, 3, 4, 5, 6, 7, 8, 9, 10] pk_11p (pk_11 _ _ _ _ _ _ _ _ _ _ _ _) (pk_11 _ _ _ _ _ _ _ _ _ _ _ _) rfl rfl (i := 11) rfl rfl zw_342 ⟨zw_343, zw_344, zw_345, zw_145⟩ hsl6_walk ⟨Nat.le_of_ble_eq_true rfl, Nat.le_of_ble_eq_true rfl⟩ hcs (Nat.le_of_ble_eq_true rfl) dL_law_794 (fun H locs h => ?_)
  refine lv_icmp_eq (tgt := 851) hx hb dL_law_797 (by decide) (fun _ => ?_) (fun c1 => absurd rfl c1)
  exact NX _ _ _ _ _ _ _ _ _ _ _ _ _ _ _ ls H' h hl
set_option maxRecDepth 100000 in
set_option maxHeartbeats 4000000 in
theorem lc_keep (F : FX p s mi #[Value.ref b] meth c code RL 4 ret D K) (hX : va_X b L xs s s.heap) (hbl : b < s.heap.size) (hL : L ≤ 3072) {i : Nat} (hi : i + 6 ≤ L) (hcs : cells ≤ room_1.cells ∧ slots ≤ room_1.slots) (NX : NXT p l e s mi b below meth c Q D K aa am i cells slots)
    {x sc now draft : ob} {past saved : Nat → ob} {net paces trial route reach m : ob} {g : nb} {H : Heap} {locs : List Loc} {ls : Array Slot} (HG : RG rok x sc now draft past saved net paces route m g) (h : WD D (fun q => s.heap.size ≤ q) s.heap H locs (SL K aa am x sc now draft past saved net paces trial route reach m)) (hl : lv_has ls 4 [(0, .ref b), (1, .ref (aa 0 0)), (2, .ref (am 0)), (3, .int (nI i))]) :
    W p l e room_1 s mi #[Value.ref b] below meth c H locs cells slots Q (F0 mi 802 ls []) := by
  have hx := F.1
  have hb := F.2.1
  have hbA : ¬ (fun q => s.heap.size ≤ q) b := Nat.not_le.mpr hbl
  obtain ⟨ans, x', saved', m', e5, e6, H'⟩ := eq_keep HG
  have h : WD D (fun q => s.heap.size ≤ q) s.heap H locs [wX5 K aa x, wX3 K (aa 1) sc, wX4 K (aa 2) now, wX4 K (aa 3) draft, wF K 8 (fun i => aa (9 + i)) past, wF K 2 (fun i => aa (17 + i)) saved, wX0 K (aa 4) net, wX0 K (aa 5) paces, wX0 K (aa 6) trial, wX2 K (aa 7) route, wX1 K (aa 8) reach, wX6 K am m] := h
  refine lv_aload_n hx hb dL_law_802 rfl (lv_at hl 1 rfl) ?_
  refine r_callVi (As := []) (rest := []) (C0 := [wX5 K aa x, wX4 K (aa 2) now, wF K 2 (fun i => aa (17 + i)) saved]) (C1 := [wX5 K aa x', wX4 K (aa 2) now, wF K 2 (fun i => aa (17 + i)) saved']) (Rr := [wX3 K (aa 1) sc, wX4 K (aa 3) draft, wF K 8 (fun i => aa (9 + i)) past, wX0 K (aa 4) net, wX0 K (aa 5) paces, wX0 K (aa 6) trial, wX2 K (aa 7) route, wX1 K (aa 8) reach, wX6 K am m]) (S' := [wX5 K aa x', wX3 K (aa 1) sc, wX4 K (aa 2) now, wX4 K (aa 3) draft, wF K 8 (fun i => aa (9 + i)) past, wF K 2 (fun i => aa (17 + i)) saved', wX0 K (aa 4) net, wX0 K (aa 5) paces, wX0 K (aa 6) trial, wX2 K (aa 7) route, wX1 K (aa 8) reach, wX6 K am m]) F h hl (c5_keep l D K aa x now saved (ans, x', saved') e5) [0, 2, 5, 1, 3, 4, 6, 7, 8, 9, 10, 11] pk_0_2_5p (pk_0_2_5 _ _ _ _ _ _ _ _ _ _ _ _) (pk_0_2_5 _ _ _ _ _ _ _ _ _ _ _ _) rfl rfl (i := 0) rfl rfl zw_346 ⟨zw_347, zw_348, zw_349, zw_140⟩ hsl5_keep ⟨Nat.le_of_ble_eq_true rfl, Nat.le_of_ble_eq_true rfl⟩ hcs (Nat.le_of_ble_eq_true rfl) dL_law_803 (fun H locs h => ?_)
  refine lv_aload_n hx hb dL_law_806 rfl (lv_at hl 2 rfl) ?_
  refine r_callVi (As := []) (rest := [.int ans]) (C0 := [wX6 K am m]) (C1 := [wX6 K am m']) (Rr := [wX5 K aa x', wX3 K (aa 1) sc, wX4 K (aa 2) now, wX4 K (aa 3) draft, wF K 8 (fun i => aa (9 + i)) past, wF K 2 (fun i => aa (17 + i)) saved', wX0 K (aa 4) net, wX0 K (aa 5) paces, wX0 K (aa 6) trial, wX2 K (aa 7) route, wX1 K (aa 8) reach]) (S' := [wX5 K aa x', wX3 K (aa 1) sc, wX4 K (aa 2) now, wX4 K (aa 3) draft, wF K 8 (fun i => aa (9 + i)) past, wF K 2 (fun i => aa (17 + i)) saved', wX0 K (aa 4) net, wX0 K (aa 5) paces, wX0 K (aa 6) trial, wX2 K (aa 7) route, wX1 K (aa 8) reach, wX6 K am m']) F h hl (c6_keep l D K am m (ans, m') e6) [11, 0, 1, 2, 3, 4, 5, 6, 7, 8, 9, 10] pk_11p (pk_11 _ _ _ _ _ _ _ _ _ _ _ _) (pk_11 _ _ _ _ _ _ _ _ _ _ _ _) rfl rfl (i := 11) rfl rfl zw_350 ⟨zw_351, zw_352, zw_353, zw_145⟩ hsl6_keep ⟨Nat.le_of_ble_eq_true rfl, Nat.le_of_ble_eq_true rfl⟩ hcs (Nat.le_of_ble_eq_true rfl) dL_law_807 (fun H locs h => ?_)
  refine lv_icmp_eq (tgt := 851) hx hb dL_law_810 (by decide) (fun _ => ?_) (fun c1 => absurd rfl c1)
  exact NX _ _ _ _ _ _ _ _ _ _ _ _ _ _ _ ls H' h hl
set_option maxRecDepth 100000 in
set_option maxHeartbeats 4000000 in
theorem lc_back (F : FX p s mi #[Value.ref b] meth c code RL 4 ret D K) (hX : va_X b L xs s s.heap) (hbl : b < s.heap.size) (hL : L ≤ 3072) {i : Nat} (hi : i + 6 ≤ L) (hcs : cells ≤ room_1.cells ∧ slots ≤ room_1.slots) (NX : NXT p l e s mi b below meth c Q D K aa am i cells slots)
    {x sc now draft : ob} {past saved : Nat → ob} {net paces trial route reach m : ob} {g : nb} {H : Heap} {locs : List Loc} {ls : Array Slot} (HG : RG rok x sc now draft past saved net paces route m g) (h : WD D (fun q => s.heap.size ≤ q) s.heap H locs (SL K aa am x sc now draft past saved net paces trial route reach m)) (hl : lv_has ls 4 [(0, .ref b), (1, .ref (aa 0 0)), (2, .ref (am 0)), (3, .int (nI i))]) :
    W p l e room_1 s mi #[Value.ref b] below meth c H locs cells slots Q (F0 mi 815 ls []) := by
  have hx := F.1
  have hb := F.2.1
  have hbA : ¬ (fun q => s.heap.size ≤ q) b := Nat.not_le.mpr hbl
  obtain ⟨ans, x', now', m', g', e5, e6, H'⟩ := eq_back HG
  have h : WD D (fun q => s.heap.size ≤ q) s.heap H locs [wX5 K aa x, wX3 K (aa 1) sc, wX4 K (aa 2) now, wX4 K (aa 3) draft, wF K 8 (fun i => aa (9 + i)) past, wF K 2 (fun i => aa (17 + i)) saved, wX0 K (aa 4) net, wX0 K (aa 5) paces, wX0 K (aa 6) trial, wX2 K (aa 7) route, wX1 K (aa 8) reach, wX6 K am m] := h
  refine lv_aload_n hx hb dL_law_815 rfl (lv_at hl 1 rfl) ?_
  refine r_callVi (As := []) (rest := []) (C0 := [wX5 K aa x, wX4 K (aa 2) now, wF K 2 (fun i => aa (17 + i)) saved]) (C1 := [wX5 K aa x', wX4 K (aa 2) now', wF K 2 (fun i => aa (17 + i)) saved]) (Rr := [wX3 K (aa 1) sc, wX4 K (aa 3) draft, wF K 8 (fun i => aa (9 + i)) past, wX0 K (aa 4) net, wX0 K (aa 5) paces, wX0 K (aa 6) trial, wX2 K (aa 7) route, wX1 K (aa 8) reach, wX6 K am m]) (S' := [wX5 K aa x', wX3 K (aa 1) sc, wX4 K (aa 2) now', wX4 K (aa 3) draft, wF K 8 (fun i => aa (9 + i)) past, wF K 2 (fun i => aa (17 + i)) saved, wX0 K (aa 4) net, wX0 K (aa 5) paces, wX0 K (aa 6) trial, wX2 K (aa 7) route, wX1 K (aa 8) reach, wX6 K am m]) F h hl (c5_back l D K aa x now saved (ans, x', now') e5) [0, 2, 5, 1, 3, 4, 6, 7, 8, 9, 10, 11] pk_0_2_5p (pk_0_2_5 _ _ _ _ _ _ _ _ _ _ _ _) (pk_0_2_5 _ _ _ _ _ _ _ _ _ _ _ _) rfl rfl (i := 0) rfl rfl zw_354 ⟨zw_355, zw_356, zw_357, zw_140⟩ hsl5_back ⟨Nat.le_of_ble_eq_true rfl, Nat.le_of_ble_eq_true rfl⟩ hcs (Nat.le_of_ble_eq_true rfl) dL_law_816 (fun H locs h => ?_)
  refine lv_aload_n hx hb dL_law_819 rfl (lv_at hl 2 rfl) ?_
  refine r_callVi (As := []) (rest := [.int ans]) (C0 := [wX6 K am m]) (C1 := [wX6 K am m']) (Rr := [wX5 K aa x', wX3 K (aa 1) sc, wX4 K (aa 2) now', wX4 K (aa 3) draft, wF K 8 (fun i => aa (9 + i)) past, wF K 2 (fun i => aa (17 + i)) saved, wX0 K (aa 4) net, wX0 K (aa 5) paces, wX0 K (aa 6) trial, wX2 K (aa 7) route, wX1 K (aa 8) reach]) (S' := [wX5 K aa x', wX3 K (aa 1) sc, wX4 K (aa 2) now', wX4 K (aa 3) draft, wF K 8 (fun i => aa (9 + i)) past, wF K 2 (fun i => aa (17 + i)) saved, wX0 K (aa 4) net, wX0 K (aa 5) paces, wX0 K (aa 6) trial, wX2 K (aa 7) route, wX1 K (aa 8) reach, wX6 K am m']) F h hl (c6_back l D K am m (ans, m') e6) [11, 0, 1, 2, 3, 4, 5, 6, 7, 8, 9, 10] pk_11p (pk_11 _ _ _ _ _ _ _ _ _ _ _ _) (pk_11 _ _ _ _ _ _ _ _ _ _ _ _) rfl rfl (i := 11) rfl rfl zw_358 ⟨zw_359, zw_360, zw_361, zw_145⟩ hsl6_back ⟨Nat.le_of_ble_eq_true rfl, Nat.le_of_ble_eq_true rfl⟩ hcs (Nat.le_of_ble_eq_true rfl) dL_law_820 (fun H locs h => ?_)
  refine lv_icmp_eq (tgt := 851) hx hb dL_law_823 (by decide) (fun _ => ?_) (fun c1 => absurd rfl c1)
  exact NX _ _ _ _ _ _ _ _ _ _ _ _ _ _ _ ls H' h hl
set_option maxRecDepth 100000 in
set_option maxHeartbeats 4000000 in
theorem lc_count (F : FX p s mi #[Value.ref b] meth c code RL 4 ret D K) (hX : va_X b L xs s s.heap) (hbl : b < s.heap.size) (hL : L ≤ 3072) {i : Nat} (hi : i + 6 ≤ L) (hcs : cells ≤ room_1.cells ∧ slots ≤ room_1.slots) (NX : NXT p l e s mi b below meth c Q D K aa am i cells slots)
    {x sc now draft : ob} {past saved : Nat → ob} {net paces trial route reach m : ob} {g : nb} {H : Heap} {locs : List Loc} {ls : Array Slot} (HG : RG rok x sc now draft past saved net paces route m g) (h : WD D (fun q => s.heap.size ≤ q) s.heap H locs (SL K aa am x sc now draft past saved net paces trial route reach m)) (hl : lv_has ls 4 [(0, .ref b), (1, .ref (aa 0 0)), (2, .ref (am 0)), (3, .int (nI i))]) :
    W p l e room_1 s mi #[Value.ref b] below meth c H locs cells slots Q (F0 mi 828 ls []) := by
  have hx := F.1
  have hb := F.2.1
  have hbA : ¬ (fun q => s.heap.size ≤ q) b := Nat.not_le.mpr hbl
  obtain ⟨ans, e5, e6⟩ := eq_count HG (xs (nI i + 1).toNatClampNeg)
  have H' := HG
  have h : WD D (fun q => s.heap.size ≤ q) s.heap H locs [wX5 K aa x, wX3 K (aa 1) sc, wX4 K (aa 2) now, wX4 K (aa 3) draft, wF K 8 (fun i => aa (9 + i)) past, wF K 2 (fun i => aa (17 + i)) saved, wX0 K (aa 4) net, wX0 K (aa 5) paces, wX0 K (aa 6) trial, wX2 K (aa 7) route, wX1 K (aa 8) reach, wX6 K am m] := h
  refine lv_aload_n hx hb dL_law_828 rfl (lv_at hl 1 rfl) ?_
  refine lv_aload_n hx hb dL_law_829 rfl (lv_at hl 0 rfl) ?_
  refine lv_iload_n hx hb dL_law_830 rfl (lv_at hl 3 rfl) ?_
  refine lv_iconst (v := 1) hx hb dL_law_831 (by decide) ?_
  refine lv_iadd hx hb dL_law_832 ?_
  refine va_sld hx hb hX hbl hbA h.2.2.1 (vpi 1 hi hL (by decide)) dL_law_833 ?_
  refine r_callVi (As := [.int (xs (nI i + 1).toNatClampNeg)]) (rest := []) (C0 := [wX5 K aa x, wX3 K (aa 1) sc, wX4 K (aa 2) now]) (C1 := [wX5 K aa x, wX3 K (aa 1) sc, wX4 K (aa 2) now]) (Rr := [wX4 K (aa 3) draft, wF K 8 (fun i => aa (9 + i)) past, wF K 2 (fun i => aa (17 + i)) saved, wX0 K (aa 4) net, wX0 K (aa 5) paces, wX0 K (aa 6) trial, wX2 K (aa 7) route, wX1 K (aa 8) reach, wX6 K am m]) (S' := [wX5 K aa x, wX3 K (aa 1) sc, wX4 K (aa 2) now, wX4 K (aa 3) draft, wF K 8 (fun i => aa (9 + i)) past, wF K 2 (fun i => aa (17 + i)) saved, wX0 K (aa 4) net, wX0 K (aa 5) paces, wX0 K (aa 6) trial, wX2 K (aa 7) route, wX1 K (aa 8) reach, wX6 K am m]) F h hl (c5_count l D K aa (xs (nI i + 1).toNatClampNeg) x sc now ans e5) [0, 1, 2, 3, 4, 5, 6, 7, 8, 9, 10, 11] pk_0_1_2p (pk_0_1_2 _ _ _ _ _ _ _ _ _ _ _ _) (pk_0_1_2 _ _ _ _ _ _ _ _ _ _ _ _) rfl rfl (i := 0) rfl rfl zw_362 ⟨zw_363, zw_364, zw_365, zw_140⟩ hsl5_count ⟨Nat.le_of_ble_eq_true rfl, Nat.le_of_ble_eq_true rfl⟩ hcs (Nat.le_of_ble_eq_true rfl) dL_law_834 (fun H locs h => ?_)
  refine lv_aload_n hx hb dL_law_837 rfl (lv_at hl 2 rfl) ?_
  refine lv_aload_n hx hb dL_law_838 rfl (lv_at hl 0 rfl) ?_
  refine lv_iload_n hx hb dL_law_839 rfl (lv_at hl 3 rfl) ?_
  refine lv_iconst (v := 1) hx hb dL_law_840 (by decide) ?_
  refine lv_iadd hx hb dL_law_841 ?_
  refine va_sld hx hb hX hbl hbA h.2.2.1 (vpi 1 hi hL (by decide)) dL_law_842 ?_
  refine r_callVi (As := [.int (xs (nI i + 1).toNatClampNeg)]) (rest := [.int ans]) (C0 := [wX6 K am m]) (C1 := [wX6 K am m]) (Rr := [wX5 K aa x, wX3 K (aa 1) sc, wX4 K (aa 2) now, wX4 K (aa 3) draft, wF K 8 (fun i => aa (9 + i)) past, wF K 2 (fun i => aa (17 + i)) saved, wX0 K (aa 4) net, wX0 K (aa 5) paces, wX0 K (aa 6) trial, wX2 K (aa 7) route, wX1 K (aa 8) reach]) (S' := [wX5 K aa x, wX3 K (aa 1) sc, wX4 K (aa 2) now, wX4 K (aa 3) draft, wF K 8 (fun i => aa (9 + i)) past, wF K 2 (fun i => aa (17 + i)) saved, wX0 K (aa 4) net, wX0 K (aa 5) paces, wX0 K (aa 6) trial, wX2 K (aa 7) route, wX1 K (aa 8) reach, wX6 K am m]) F h hl (c6_count l D K am (xs (nI i + 1).toNatClampNeg) m ans e6) [11, 0, 1, 2, 3, 4, 5, 6, 7, 8, 9, 10] pk_11p (pk_11 _ _ _ _ _ _ _ _ _ _ _ _) (pk_11 _ _ _ _ _ _ _ _ _ _ _ _) rfl rfl (i := 11) rfl rfl zw_366 ⟨zw_367, zw_368, zw_369, zw_145⟩ hsl6_count ⟨Nat.le_of_ble_eq_true rfl, Nat.le_of_ble_eq_true rfl⟩ hcs (Nat.le_of_ble_eq_true rfl) dL_law_843 (fun H locs h => ?_)
  refine lv_icmp_eq (tgt := 851) hx hb dL_law_846 (by decide) (fun _ => ?_) (fun c1 => absurd rfl c1)
  exact NX _ _ _ _ _ _ _ _ _ _ _ _ _ _ _ ls H' h hl
end LAW5
