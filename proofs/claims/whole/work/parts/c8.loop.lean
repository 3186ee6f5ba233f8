/-! the law's loop -/
theorem nat29 {P : Nat → Prop} (h0 : P 0) (h1 : P 1) (h2 : P 2) (h3 : P 3) (h4 : P 4) (h5 : P 5) (h6 : P 6) (h7 : P 7) (h8 : P 8) (h9 : P 9) (h10 : P 10) (h11 : P 11) (h12 : P 12) (h13 : P 13) (h14 : P 14) (h15 : P 15) (h16 : P 16) (h17 : P 17) (h18 : P 18) (h19 : P 19) (h20 : P 20) (h21 : P 21) (h22 : P 22) (h23 : P 23) (h24 : P 24) (h25 : P 25) (h26 : P 26) (h27 : P 27) (h28 : P 28) : ∀ n, n < 29 → P n
  | 0, _ => h0
  | 1, _ => h1
  | 2, _ => h2
  | 3, _ => h3
  | 4, _ => h4
  | 5, _ => h5
  | 6, _ => h6
  | 7, _ => h7
  | 8, _ => h8
  | 9, _ => h9
  | 10, _ => h10
  | 11, _ => h11
  | 12, _ => h12
  | 13, _ => h13
  | 14, _ => h14
  | 15, _ => h15
  | 16, _ => h16
  | 17, _ => h17
  | 18, _ => h18
  | 19, _ => h19
  | 20, _ => h20
  | 21, _ => h21
  | 22, _ => h22
  | 23, _ => h23
  | 24, _ => h24
  | 25, _ => h25
  | 26, _ => h26
  | 27, _ => h27
  | 28, _ => h28
  | n + 29, h => absurd h (by omega)
section LAWLOOP
variable {p : Program} {l : Launch} {e : Env} {s : State} {mi : MethodId} {b : Nat} {below : List Frame} {meth : Method} {c : Code} {Q : State → Prop} {D : va_G} {K : Nat → ClassId} {L : Nat} {xs : Nat → Int32} {aa : Nat → Nat → Nat} {am : Nat → Nat} {cells slots : Nat}
theorem law_head (F : FX p s mi #[Value.ref b] meth c code RL 4 ret D K) (hX : va_X b L xs s s.heap) (hbl : b < s.heap.size) (hL : L ≤ 3072) (END : ∀ (H : Heap) (locs : List Loc) (ls : Array Slot), va_S (fun q => s.heap.size ≤ q) s.heap H locs → W p l e room_1 s mi #[Value.ref b] below meth c H locs cells slots Q (F0 mi 857 ls [])) {i : Nat} (hi : i ≤ L) {S : List va_W} {H : Heap} {locs : List Loc} {ls : Array Slot} {v1 v2 : Value} (h : WD D (fun q => s.heap.size ≤ q) s.heap H locs S) (hl : lv_has ls 4 [(0, .ref b), (1, v1), (2, v2), (3, .int (nI i))]) (kk : i + 6 ≤ L → W p l e room_1 s mi #[Value.ref b] below meth c H locs cells slots Q (F0 mi 27 ls [])) : W p l e room_1 s mi #[Value.ref b] below meth c H locs cells slots Q (F0 mi 18 ls []) := by
  have hx := F.1
  have hb := F.2.1
  have hbA : ¬ (fun q => s.heap.size ≤ q) b := Nat.not_le.mpr hbl
  refine lv_iload_n hx hb dL_law_18 rfl (lv_at hl 3 rfl) ?_
  refine lv_aload_n hx hb dL_law_19 rfl (lv_at hl 0 rfl) ?_
  refine va_slen hx hb hX hbl hbA h.2.2.1 dL_law_20 ?_
  refine lv_bipush (v := 6) hx hb dL_law_21 (by decide) ?_
  refine lv_isub hx hb dL_law_23 ?_
  refine lv_icmp_gt (tgt := 857) hx hb dL_law_24 (by decide) (fun _ => END _ _ _ h.2.2.1) (fun c1 => kk ?_)
  by_cases q : 6 ≤ L
  · have e : Int32.ofNat L - 6 = nI (L - 6) := nI_sub q
    rw [e, Int32.lt_iff_toInt_lt, nI_toInt (by omega), nI_toInt (by omega)] at c1
    omega
  · have e : Int32.ofNat L - 6 = -(nI (6 - L)) := sub_ng (a := L) (b := 6) (by omega) (by decide)
    rw [e] at c1
    exact absurd (nI_neg_lt (by omega) (by omega) (by omega)) c1
set_option maxRecDepth 100000 in
set_option maxHeartbeats 4000000 in
theorem law_body (F : FX p s mi #[Value.ref b] meth c code RL 4 ret D K) (hX : va_X b L xs s s.heap) (hbl : b < s.heap.size) (hL : L ≤ 3072) (hcs : cells ≤ room_1.cells ∧ slots ≤ room_1.slots) {i : Nat} (hi : i + 6 ≤ L) (NX : NXT p l e s mi b below meth c Q D K aa am i cells slots)
    {x sc now draft : ob} {past saved : Nat → ob} {net paces trial route reach m : ob} {g : nb} {H : Heap} {locs : List Loc} {ls : Array Slot} (HG : RG rok x sc now draft past saved net paces route m g) (h : WD D (fun q => s.heap.size ≤ q) s.heap H locs (SL K aa am x sc now draft past saved net paces trial route reach m)) (hl : lv_has ls 4 [(0, .ref b), (1, .ref (aa 0 0)), (2, .ref (am 0)), (3, .int (nI i))]) :
    W p l e room_1 s mi #[Value.ref b] below meth c H locs cells slots Q (F0 mi 27 ls []) := by
  have hx := F.1
  have hb := F.2.1
  have hbA : ¬ (fun q => s.heap.size ≤ q) b := Nat.not_le.mpr hbl
  refine lv_aload_n hx hb dL_law_27 rfl (lv_at hl 0 rfl) ?_
  refine lv_iload_n hx hb dL_law_28 rfl (lv_at hl 3 rfl) ?_
  refine va_sld hx hb hX hbl hbA h.2.2.1 (vp_in_nI (by omega) (by omega)) dL_law_29 ?_
  refine lv_bipush (v := 31) hx hb dL_law_30 (by decide) ?_
  refine lv_iand hx hb dL_law_32 ?_
  generalize (xs (nI i).toNatClampNeg &&& 31) = y
  by_cases u0 : y.toInt < 0
  · refine lv_tableOut (tgt := 851) hx hb dL_law_33 (Or.inl u0) (by decide) ?_
    exact NX _ _ _ _ _ _ _ _ _ _ _ _ _ _ _ ls HG h hl
  by_cases u1 : 28 < y.toInt
  · refine lv_tableOut (tgt := 851) hx hb dL_law_33 (Or.inr u1) (by decide) ?_
    exact NX _ _ _ _ _ _ _ _ _ _ _ _ _ _ _ ls HG h hl
  obtain ⟨n, hn⟩ : ∃ n : Nat, y.toInt = (n : Int) := ⟨y.toInt.toNat, by omega⟩
  have hn29 : n < 29 := by omega
  refine nat29 (P := fun n => y.toInt = (n : Int) → W p l e room_1 s mi #[Value.ref b] below meth c H locs cells slots Q (F0 mi 33 ls [.int y])) (fun r => ?_) (fun r => ?_) (fun r => ?_) (fun r => ?_) (fun r => ?_) (fun r => ?_) (fun r => ?_) (fun r => ?_) (fun r => ?_) (fun r => ?_) (fun r => ?_) (fun r => ?_) (fun r => ?_) (fun r => ?_) (fun r => ?_) (fun r => ?_) (fun r => ?_) (fun r => ?_) (fun r => ?_) (fun r => ?_) (fun r => ?_) (fun r => ?_) (fun r => ?_) (fun r => ?_) (fun r => ?_) (fun r => ?_) (fun r => ?_) (fun r => ?_) (fun r => ?_) n hn29 hn
  · exact lv_tableIn (tgt := 164) hx hb dL_law_33 (by rw [r]; decide) (by rw [r]; decide) (by rw [r]; rfl) (by decide) (lc_write F hX hbl hL hi hcs NX HG h hl)
  · exact lv_tableIn (tgt := 187) hx hb dL_law_33 (by rw [r]; decide) (by rw [r]; decide) (by rw [r]; rfl) (by decide) (lc_wipe F hX hbl hL hi hcs NX HG h hl)
  · exact lv_tableIn (tgt := 200) hx hb dL_law_33 (by rw [r]; decide) (by rw [r]; decide) (by rw [r]; rfl) (by decide) (lc_fault F hX hbl hL hi hcs NX HG h hl)
  · exact lv_tableIn (tgt := 213) hx hb dL_law_33 (by rw [r]; decide) (by rw [r]; decide) (by rw [r]; rfl) (by decide) (lc_lay F hX hbl hL hi hcs NX HG h hl)
  · exact lv_tableIn (tgt := 226) hx hb dL_law_33 (by rw [r]; decide) (by rw [r]; decide) (by rw [r]; rfl) (by decide) (lc_rule F hX hbl hL hi hcs NX HG h hl)
  · exact lv_tableIn (tgt := 259) hx hb dL_law_33 (by rw [r]; decide) (by rw [r]; decide) (by rw [r]; rfl) (by decide) (lc_target F hX hbl hL hi hcs NX HG h hl)
  · exact lv_tableIn (tgt := 292) hx hb dL_law_33 (by rw [r]; decide) (by rw [r]; decide) (by rw [r]; rfl) (by decide) (lc_stack F hX hbl hL hi hcs NX HG h hl)
  · exact lv_tableIn (tgt := 315) hx hb dL_law_33 (by rw [r]; decide) (by rw [r]; decide) (by rw [r]; rfl) (by decide) (lc_push F hX hbl hL hi hcs NX HG h hl)
  · exact lv_tableIn (tgt := 338) hx hb dL_law_33 (by rw [r]; decide) (by rw [r]; decide) (by rw [r]; rfl) (by decide) (lc_pop F hX hbl hL hi hcs NX HG h hl)
  · exact lv_tableIn (tgt := 351) hx hb dL_law_33 (by rw [r]; decide) (by rw [r]; decide) (by rw [r]; rfl) (by decide) (lc_step F hX hbl hL hi hcs NX HG h hl)
  · exact lv_tableIn (tgt := 374) hx hb dL_law_33 (by rw [r]; decide) (by rw [r]; decide) (by rw [r]; rfl) (by decide) (lc_go F hX hbl hL hi hcs NX HG h hl)
  · exact lv_tableIn (tgt := 397) hx hb dL_law_33 (by rw [r]; decide) (by rw [r]; decide) (by rw [r]; rfl) (by decide) (lc_enter F hX hbl hL hi hcs NX HG h hl)
  · exact lv_tableIn (tgt := 460) hx hb dL_law_33 (by rw [r]; decide) (by rw [r]; decide) (by rw [r]; rfl) (by decide) (lc_drop F hX hbl hL hi hcs NX HG h hl)
  · exact lv_tableIn (tgt := 483) hx hb dL_law_33 (by rw [r]; decide) (by rw [r]; decide) (by rw [r]; rfl) (by decide) (lc_weigh F hX hbl hL hi hcs NX HG h hl)
  · exact lv_tableIn (tgt := 516) hx hb dL_law_33 (by rw [r]; decide) (by rw [r]; decide) (by rw [r]; rfl) (by decide) (lc_mode F hX hbl hL hi hcs NX HG h hl)
  · exact lv_tableIn (tgt := 539) hx hb dL_law_33 (by rw [r]; decide) (by rw [r]; decide) (by rw [r]; rfl) (by decide) (lc_undo F hX hbl hL hi hcs NX HG h hl)
  · exact lv_tableIn (tgt := 552) hx hb dL_law_33 (by rw [r]; decide) (by rw [r]; decide) (by rw [r]; rfl) (by decide) (lc_price F hX hbl hL hi hcs NX HG h hl)
  · exact lv_tableIn (tgt := 565) hx hb dL_law_33 (by rw [r]; decide) (by rw [r]; decide) (by rw [r]; rfl) (by decide) (lc_run F hX hbl hL hi hcs NX HG h hl)
  · exact lv_tableIn (tgt := 588) hx hb dL_law_33 (by rw [r]; decide) (by rw [r]; decide) (by rw [r]; rfl) (by decide) (lc_heads F hX hbl hL hi hcs NX HG h hl)
  · exact lv_tableIn (tgt := 621) hx hb dL_law_33 (by rw [r]; decide) (by rw [r]; decide) (by rw [r]; rfl) (by decide) (lc_empty F hX hbl hL hi hcs NX HG h hl)
  · exact lv_tableIn (tgt := 644) hx hb dL_law_33 (by rw [r]; decide) (by rw [r]; decide) (by rw [r]; rfl) (by decide) (lc_stuck F hX hbl hL hi hcs NX HG h hl)
  · exact lv_tableIn (tgt := 657) hx hb dL_law_33 (by rw [r]; decide) (by rw [r]; decide) (by rw [r]; rfl) (by decide) (lc_edge F hX hbl hL hi hcs NX HG h hl)
  · exact lv_tableIn (tgt := 700) hx hb dL_law_33 (by rw [r]; decide) (by rw [r]; decide) (by rw [r]; rfl) (by decide) (lc_automaton F hX hbl hL hi hcs NX HG h hl)
  · exact lv_tableIn (tgt := 723) hx hb dL_law_33 (by rw [r]; decide) (by rw [r]; decide) (by rw [r]; rfl) (by decide) (lc_needed F hX hbl hL hi hcs NX HG h hl)
  · exact lv_tableIn (tgt := 736) hx hb dL_law_33 (by rw [r]; decide) (by rw [r]; decide) (by rw [r]; rfl) (by decide) (lc_dear F hX hbl hL hi hcs NX HG h hl)
  · exact lv_tableIn (tgt := 759) hx hb dL_law_33 (by rw [r]; decide) (by rw [r]; decide) (by rw [r]; rfl) (by decide) (lc_walk F hX hbl hL hi hcs NX HG h hl)
  · exact lv_tableIn (tgt := 802) hx hb dL_law_33 (by rw [r]; decide) (by rw [r]; decide) (by rw [r]; rfl) (by decide) (lc_keep F hX hbl hL hi hcs NX HG h hl)
  · exact lv_tableIn (tgt := 815) hx hb dL_law_33 (by rw [r]; decide) (by rw [r]; decide) (by rw [r]; rfl) (by decide) (lc_back F hX hbl hL hi hcs NX HG h hl)
  · exact lv_tableIn (tgt := 828) hx hb dL_law_33 (by rw [r]; decide) (by rw [r]; decide) (by rw [r]; rfl) (by decide) (lc_count F hX hbl hL hi hcs NX HG h hl)
theorem law_loop (F : FX p s mi #[Value.ref b] meth c code RL 4 ret D K) (hX : va_X b L xs s s.heap) (hbl : b < s.heap.size) (hL : L ≤ 3072) (hcs : cells ≤ room_1.cells ∧ slots ≤ room_1.slots) (END : ∀ (H : Heap) (locs : List Loc) (ls : Array Slot), va_S (fun q => s.heap.size ≤ q) s.heap H locs → W p l e room_1 s mi #[Value.ref b] below meth c H locs cells slots Q (F0 mi 857 ls [])) : ∀ (n i : Nat), L ≤ i + n → i ≤ L → ∀ (x sc now draft : ob) (past saved : Nat → ob) (net paces trial route reach m : ob) (g : nb) (H : Heap) (locs : List Loc) (ls : Array Slot), RG rok x sc now draft past saved net paces route m g → WD D (fun q => s.heap.size ≤ q) s.heap H locs (SL K aa am x sc now draft past saved net paces trial route reach m) → lv_has ls 4 [(0, .ref b), (1, .ref (aa 0 0)), (2, .ref (am 0)), (3, .int (nI i))] → W p l e room_1 s mi #[Value.ref b] below meth c H locs cells slots Q (F0 mi 18 ls []) := by
  have hx := F.1
  have hb := F.2.1
  intro n
  induction n with
  | zero =>
    intro i hn hi x sc now draft past saved net paces trial route reach m g H locs ls HG h hl
    exact law_head F hX hbl hL END hi h hl (fun h6 => absurd h6 (by omega))
  | succ n ih =>
    intro i hn hi x sc now draft past saved net paces trial route reach m g H locs ls HG h hl
    refine law_head F hX hbl hL END hi h hl (fun h6 => ?_)
    refine law_body F hX hbl hL hcs h6 (fun x sc now draft past saved net paces trial route reach m g H locs ls HG h hl => ?_) HG h hl
    refine lv_iinc (v := nI (i + 6)) (lv' := [(3, .int (nI (i + 6))), (0, .ref b), (1, .ref (aa 0 0)), (2, .ref (am 0))]) hx hb dL_law_851 hl (k := 3) rfl (by rw [show Int32.ofInt 6 = nI 6 by decide, nI_add]) (by decide) rfl (fun ls hl => ?_)
    refine lv_goto (tgt := 18) hx hb dL_law_854 (by decide) ?_
    exact ih (i + 6) (by omega) (by omega) _ _ _ _ _ _ _ _ _ _ _ _ _ _ _ ls HG h (lv_sub hl [1, 2, 3, 0] rfl)
end LAWLOOP
