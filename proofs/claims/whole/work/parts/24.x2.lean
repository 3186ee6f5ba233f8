def f2_steps (o_this : ob) : Option (Int32) :=
  (if 1000000000000 ≤ (rL (o_this.2 4) 0) then (some (-4)) else (some ((((o_this.1 6).toInt64) + (rL (o_this.2 4) 0)).toInt32)))
set_option maxRecDepth 100000 in
set_option maxHeartbeats 4000000 in
theorem c2_steps (l : Launch) (D : va_G) (K : Nat → ClassId) (a0 : Nat → Nat) (o_this : ob) (r : Int32) (hf : f2_steps o_this = some r) : CTi l yX2_steps cX2_steps 1 (some .int) 0 0 D K [.ref (a0 0)] [wX2 K a0 o_this] [wX2 K a0 o_this] r := by
  unfold f2_steps at hf
  have hf := tob hf
  refine entI (by decide) (Nat.le_of_ble_eq_true rfl) (fun P e s m args below meth c A ls F h hl hin => ?_)
  have hx := F.1
  have hb := F.2.1
  have hl : lv_has ls 1 [(0, .ref (a0 0))] := hl
  refine lv_aload_n hx hb dX2_steps_0 rfl (lv_at hl 0 rfl) ?_
  refine r_get F h (i := 0) (k := 4) (.long (rL (o_this.2 4) 0)) inX2 rfl (by decide) w431 rfl rfl rfl dX2_steps_1 ?_
  refine r_ldc2 F 1000000000000 w432 dX2_steps_4 ?_
  refine W.lcmp hx hb dX2_steps_7 ?_
  refine lv_if_ge (tgt := 25) hx hb dX2_steps_8 (by decide) (fun c1 => ?_) (fun c1 => ?_)
  · have hf := ifp hf ((lg_cmp_ge (rL (o_this.2 4) 0) 1000000000000).mp c1)
    refine lv_bipush (v := (-4)) hx hb dX2_steps_25 (by decide) ?_
    obtain rfl := sor hf
    exact r_reti F h dX2_steps_27
  · have hf := ifn hf (fun z => c1 ((lg_cmp_ge (rL (o_this.2 4) 0) 1000000000000).mpr z))
    refine lv_aload_n hx hb dX2_steps_11 rfl (lv_at hl 0 rfl) ?_
    refine r_get F h (i := 0) (k := 6) (.int (o_this.1 6)) inX2 rfl (by decide) w433 rfl rfl rfl dX2_steps_12 ?_
    refine lv_i2l hx hb dX2_steps_15 rfl ?_
    refine lv_aload_n hx hb dX2_steps_16 rfl (lv_at hl 0 rfl) ?_
    refine r_get F h (i := 0) (k := 4) (.long (rL (o_this.2 4) 0)) inX2 rfl (by decide) w431 rfl rfl rfl dX2_steps_17 ?_
    refine lv_ladd hx hb dX2_steps_20 ?_
    refine lv_l2i hx hb dX2_steps_21 rfl ?_
    refine lv_goto (tgt := 27) hx hb dX2_steps_22 (by decide) ?_
    obtain rfl := sor hf
    exact r_reti F h dX2_steps_27
noncomputable def f2_fillTail_L2 (g0 : Int32) (g2 : ob) (z1 : Int32 × ob) : Option (Nat × (Int32 × ob)) :=
  (if (g2.1 0) ≤ z1.1 then (some (1, (z1.1, z1.2))) else (gd (vin g0 200) <| (f0_stepsOver z1.1 (z1.2.2 0 g0.toNatClampNeg) g0 g2 z1.2).bind fun q4 => gd (vin (((g0 + 1) * 13) + z1.1) 2600) <| lt (sL z1.2 1 (((g0 + 1) * 13) + z1.1).toNatClampNeg q4) fun t6 => lt (z1.1 + 1) fun y7 => some (0, (y7, t6))))
noncomputable def f2_fillTail (x0 : Int32) (o_this : ob) (o_p1 : ob) : Option (ob) :=
  (wh (f2_fillTail_L2 x0 o_p1) (0, o_this)).bind fun q1 => some q1.2.2
set_option maxRecDepth 100000 in
set_option maxHeartbeats 4000000 in
theorem c2_fillTail (l : Launch) (D : va_G) (K : Nat → ClassId) (a0 : Nat → Nat) (a2 : Nat → Nat) (x0 : Int32) (o_this : ob) (o_p1 : ob) (r : ob) (hf : f2_fillTail x0 o_this o_p1 = some r) : CTv l yX2_fillTail cX2_fillTail 4 2 53 D K [.ref (a0 0), .int x0, .ref (a2 0)] [wX2 K a0 o_this, wX0 K a2 o_p1] [wX2 K a0 r, wX0 K a2 o_p1] := by
  unfold f2_fillTail at hf
  have hf := tob hf
  refine entV (by decide) (Nat.le_of_ble_eq_true rfl) (fun P e s m args below meth c A ls F h hl hin => ?_)
  have hx := F.1
  have hb := F.2.1
  have hl : lv_has ls 4 [(0, .ref (a0 0)), (1, .int x0), (2, .ref (a2 0))] := hl
  refine lv_iconst (v := 0) hx hb dX2_fillTail_0 (by decide) ?_
  refine lv_istore_n (lv' := [(3, .int 0), (0, .ref (a0 0)), (1, .int x0), (2, .ref (a2 0))]) hx hb dX2_fillTail_1 rfl hl (by decide) rfl (fun ls hl => ?_)
  obtain ⟨q1, hq1, hf⟩ := asb hf
  obtain ⟨nq1, hq1⟩ := wh_out hq1
  have Xq1_1 : ∀ (z1 : Int32 × ob) (H : Heap) (locs : List Loc) (ls : Array Slot), q1 = (1, z1) → WD D A s.heap H locs [wX2 K a0 z1.2, wX0 K a2 o_p1] → lv_has ls 4 [] → W P l e (rmS 2 53) s m args below meth c H locs 0 0 (MQ below (QvS D A [wX2 K a0 r, wX0 K a2 o_p1]) args s 0 0 A) (F0 m 45 ls []) := by
    intro z1 H locs ls eq1 h hl
    obtain rfl : z1 = q1.2 := by rw [eq1]
    obtain rfl := sor hf
    exact r_retv F h dX2_fillTail_45
  have Lq1 : ∀ (n : Nat) (z1 : Int32 × ob) (H : Heap) (locs : List Loc) (ls : Array Slot), iter (f2_fillTail_L2 x0 o_p1) n z1 = some q1 → WD D A s.heap H locs [wX2 K a0 z1.2, wX0 K a2 o_p1] → lv_has ls 4 [(0, .ref (a0 0)), (1, .int x0), (2, .ref (a2 0)), (3, .int z1.1)] → W P l e (rmS 2 53) s m args below meth c H locs 0 0 (MQ below (QvS D A [wX2 K a0 r, wX0 K a2 o_p1]) args s 0 0 A) (F0 m 2 ls []) := by
    intro n
    induction n with
    | zero => intro z1 H locs ls hi; exact (iter_0 hi).elim
    | succ n ihq1 =>
      intro z1 H locs ls hi h hl
      obtain ⟨uq1, hf, huq1⟩ := iter_s hi
      unfold f2_fillTail_L2 at hf
      have hf := tob hf
      refine lv_iload_n hx hb dX2_fillTail_2 rfl (lv_at hl 3 rfl) ?_
      refine lv_aload_n hx hb dX2_fillTail_3 rfl (lv_at hl 2 rfl) ?_
      refine r_get F h (i := 1) (k := 0) (.int (o_p1.1 0)) inX0 rfl (by decide) w434 rfl rfl rfl dX2_fillTail_4 ?_
      refine lv_icmp_ge (tgt := 45) hx hb dX2_fillTail_7 (by decide) (fun c2 => ?_) (fun c2 => ?_)
      · have hf := ifp hf c2
        exact Xq1_1 _ _ _ _ (itr_x huq1 (sor hf)) h (lv_sub hl [] rfl)
      · have hf := ifn hf c2
        refine lv_aload_n hx hb dX2_fillTail_10 rfl (lv_at hl 0 rfl) ?_
        refine r_get F h (i := 0) (k := 1) (.ref (a0 2)) inX2 rfl (by decide) w435 rfl rfl rfl dX2_fillTail_11 ?_
        refine lv_iload_n hx hb dX2_fillTail_14 rfl (lv_at hl 1 rfl) ?_
        refine lv_iconst (v := 1) hx hb dX2_fillTail_15 (by decide) ?_
        refine lv_iadd hx hb dX2_fillTail_16 ?_
        refine lv_bipush (v := 13) hx hb dX2_fillTail_17 (by decide) ?_
        refine lv_imul hx hb dX2_fillTail_19 ?_
        refine lv_iload_n hx hb dX2_fillTail_20 rfl (lv_at hl 3 rfl) ?_
        refine lv_iadd hx hb dX2_fillTail_21 ?_
        refine lv_aload_n hx hb dX2_fillTail_22 rfl (lv_at hl 2 rfl) ?_
        refine lv_iload_n hx hb dX2_fillTail_23 rfl (lv_at hl 3 rfl) ?_
        refine lv_aload_n hx hb dX2_fillTail_24 rfl (lv_at hl 0 rfl) ?_
        refine r_get F h (i := 0) (k := 0) (.ref (a0 1)) inX2 rfl (by decide) w436 rfl rfl rfl dX2_fillTail_25 ?_
        refine lv_iload_n hx hb dX2_fillTail_28 rfl (lv_at hl 1 rfl) ?_
        obtain ⟨g3, hf⟩ := gdb hf
        refine r_iald F h (i := 0) (j := 1) rfl rfl (vin_ok g3) dX2_fillTail_29 ?_
        refine lv_aload_n hx hb dX2_fillTail_30 rfl (lv_at hl 0 rfl) ?_
        refine r_get F h (i := 0) (k := 1) (.ref (a0 2)) inX2 rfl (by decide) w435 rfl rfl rfl dX2_fillTail_31 ?_
        refine lv_iload_n hx hb dX2_fillTail_34 rfl (lv_at hl 1 rfl) ?_
        obtain ⟨q4, h4, hf⟩ := asb hf
        refine r_callVl (As := [.int z1.1, .int (z1.2.2 0 x0.toNatClampNeg), .ref (a0 2), .int x0]) (rest := [.int (((x0 + 1) * 13) + z1.1), .ref (a0 2)]) (C0 := [wX0 K a2 o_p1, wX2 K a0 z1.2]) (C1 := [wX0 K a2 o_p1, wX2 K a0 z1.2]) (Rr := []) (S' := [wX2 K a0 z1.2, wX0 K a2 o_p1]) F h hl (c0_stepsOver l D K a2 a0 z1.1 (z1.2.2 0 x0.toNatClampNeg) x0 o_p1 z1.2 q4 h4) [1, 0] rfl rfl rfl rfl rfl (i := 1) rfl rfl w427 ⟨w437, w429, w430, w376⟩ hsc0_stepsOver ⟨Nat.le_of_ble_eq_true rfl, Nat.le_of_ble_eq_true rfl⟩ ⟨Nat.le_refl 0, Nat.le_refl 0⟩ (Nat.le_of_ble_eq_true rfl) dX2_fillTail_35 (fun H locs h => ?_)
        obtain ⟨g5, hf⟩ := gdb hf
        refine r_last (g := rL ((sL z1.2 1 (((x0 + 1) * 13) + z1.1).toNatClampNeg q4).2 1)) (o1 := sL z1.2 1 (((x0 + 1) * 13) + z1.1).toNatClampNeg q4) (w := fun t6 => wX2 K a0 t6) (S' := fun t6 => [wX2 K a0 t6, wX0 K a2 o_p1]) F h (i := 0) (j := 2) rfl rfl (vin_ok g5) (sL_g z1.2 1 (((x0 + 1) * 13) + z1.1).toNatClampNeg q4) rfl (fun _ => rfl) dX2_fillTail_38 (fun t6 e6 H locs h => ?_)
        have hf := ltb hf e6
        obtain ⟨y7, e7⟩ : ∃ y : Int32, y = z1.1 + 1 := ⟨_, rfl⟩
        have hf := ltb hf e7
        refine lv_iinc (v := y7) (lv' := [(3, .int y7), (0, .ref (a0 0)), (1, .int x0), (2, .ref (a2 0))]) hx hb dX2_fillTail_39 hl (k := 3) rfl (by rw [e7]; rfl) (by decide) rfl (fun ls hl => ?_)
        refine lv_goto (tgt := 2) hx hb dX2_fillTail_42 (by decide) ?_
        exact ihq1 _ _ _ _ (itr_c huq1 (sor hf)) h (lv_sub hl [1, 2, 3, 0] rfl)
  exact Lq1 _ _ _ _ _ hq1 h (lv_sub hl [1, 2, 3, 0] rfl)
noncomputable def f2_begin_L37 (g1 : ob) (g2 : ob) (z6 : Int32 × ob) : Option (Nat × (Int32 × ob)) :=
  (if (z6.2.1 2) ≤ z6.1 then (some (1, (z6.1, z6.2))) else (gd (vin z6.1 12) <| gd (vin z6.1 200) <| lt (sA z6.2 0 z6.1.toNatClampNeg (g1.2 15 z6.1.toNatClampNeg)) fun t12 => (f2_fillTail z6.1 t12 g2).bind fun q13 => lt (z6.1 + 1) fun y14 => some (0, (y14, q13))))
noncomputable def f2_begin (o_this : ob) (o_p0 : ob) (o_p1 : ob) : Option (ob) :=
  lt (sI o_this 2 (o_p0.1 14)) fun t1 => lt (sI t1 3 (o_p0.1 13)) fun t2 => lt (sI t2 6 0) fun t3 => lt (sI t3 5 (-4)) fun t4 => (f0_fillBottom o_p1 t4).bind fun q5 => (wh (f2_begin_L37 o_p0 o_p1) (0, q5)).bind fun q6 => gd (vin (((q6.2.2.1 2) * 13) + (q6.2.2.1 3)) 2600) <| lt (sF q6.2.2 4 (rL (q6.2.2.2 1) (((q6.2.2.1 2) * 13) + (q6.2.2.1 3)).toNatClampNeg)) fun t8 => some t8
set_option maxRecDepth 100000 in
set_option maxHeartbeats 4000000 in
theorem c2_begin (l : Launch) (D : va_G) (K : Nat → ClassId) (a0 : Nat → Nat) (a1 : Nat → Nat) (a2 : Nat → Nat) (o_this : ob) (o_p0 : ob) (o_p1 : ob) (r : ob) (hf : f2_begin o_this o_p0 o_p1 = some r) : CTv l yX2_begin cX2_begin 4 3 76 D K [.ref (a0 0), .ref (a1 0), .ref (a2 0)] [wX2 K a0 o_this, wX4 K a1 o_p0, wX0 K a2 o_p1] [wX2 K a0 r, wX4 K a1 o_p0, wX0 K a2 o_p1] := by
  unfold f2_begin at hf
  have hf := tob hf
  refine entV (by decide) (Nat.le_of_ble_eq_true rfl) (fun P e s m args below meth c A ls F h hl hin => ?_)
  have hx := F.1
  have hb := F.2.1
  have hl : lv_has ls 4 [(0, .ref (a0 0)), (1, .ref (a1 0)), (2, .ref (a2 0))] := hl
  refine lv_aload_n hx hb dX2_begin_0 rfl (lv_at hl 0 rfl) ?_
  refine lv_aload_n hx hb dX2_begin_1 rfl (lv_at hl 1 rfl) ?_
  refine r_get F h (i := 1) (k := 14) (.int (o_p0.1 14)) inX4 rfl (by decide) w438 rfl rfl rfl dX2_begin_2 ?_
  refine r_put (o1 := sI o_this 2 (o_p0.1 14)) (w := fun t1 => wX2 K a0 t1) (S' := fun t1 => [wX2 K a0 t1, wX4 K a1 o_p0, wX0 K a2 o_p1]) F h (i := 0) (k := 2) inX2 tyX2_ok nmX2 rfl (by decide) w439 rfl rfl rfl rfl rfl (Nat.le_of_ble_eq_true rfl) rfl (fun _ => rfl) dX2_begin_5 (fun t1 e1 H locs h => ?_)
  have hf := ltb hf e1
  refine lv_aload_n hx hb dX2_begin_8 rfl (lv_at hl 0 rfl) ?_
  refine lv_aload_n hx hb dX2_begin_9 rfl (lv_at hl 1 rfl) ?_
  refine r_get F h (i := 1) (k := 13) (.int (o_p0.1 13)) inX4 rfl (by decide) w440 rfl rfl rfl dX2_begin_10 ?_
  refine r_put (o1 := sI t1 3 (o_p0.1 13)) (w := fun t2 => wX2 K a0 t2) (S' := fun t2 => [wX2 K a0 t2, wX4 K a1 o_p0, wX0 K a2 o_p1]) F h (i := 0) (k := 3) inX2 tyX2_ok nmX2 rfl (by decide) w441 rfl rfl rfl rfl rfl (Nat.le_of_ble_eq_true rfl) rfl (fun _ => rfl) dX2_begin_13 (fun t2 e2 H locs h => ?_)
  have hf := ltb hf e2
  refine lv_aload_n hx hb dX2_begin_16 rfl (lv_at hl 0 rfl) ?_
  refine lv_iconst (v := 0) hx hb dX2_begin_17 (by decide) ?_
  refine r_put (o1 := sI t2 6 0) (w := fun t3 => wX2 K a0 t3) (S' := fun t3 => [wX2 K a0 t3, wX4 K a1 o_p0, wX0 K a2 o_p1]) F h (i := 0) (k := 6) inX2 tyX2_ok nmX2 rfl (by decide) w433 rfl rfl rfl rfl rfl (Nat.le_of_ble_eq_true rfl) rfl (fun _ => rfl) dX2_begin_18 (fun t3 e3 H locs h => ?_)
  have hf := ltb hf e3
  refine lv_aload_n hx hb dX2_begin_21 rfl (lv_at hl 0 rfl) ?_
  refine lv_bipush (v := (-4)) hx hb dX2_begin_22 (by decide) ?_
  refine r_put (o1 := sI t3 5 (-4)) (w := fun t4 => wX2 K a0 t4) (S' := fun t4 => [wX2 K a0 t4, wX4 K a1 o_p0, wX0 K a2 o_p1]) F h (i := 0) (k := 5) inX2 tyX2_ok nmX2 rfl (by decide) w442 rfl rfl rfl rfl rfl (Nat.le_of_ble_eq_true rfl) rfl (fun _ => rfl) dX2_begin_24 (fun t4 e4 H locs h => ?_)
  have hf := ltb hf e4
  refine lv_aload_n hx hb dX2_begin_27 rfl (lv_at hl 2 rfl) ?_
  refine lv_aload_n hx hb dX2_begin_28 rfl (lv_at hl 0 rfl) ?_
  refine r_get F h (i := 0) (k := 1) (.ref (a0 2)) inX2 rfl (by decide) w435 rfl rfl rfl dX2_begin_29 ?_
  obtain ⟨q5, h5, hf⟩ := asb hf
  refine r_callVv (As := [.ref (a0 2)]) (rest := []) (C0 := [wX0 K a2 o_p1, wX2 K a0 t4]) (C1 := [wX0 K a2 o_p1, wX2 K a0 q5]) (Rr := [wX4 K a1 o_p0]) (S' := [wX2 K a0 q5, wX4 K a1 o_p0, wX0 K a2 o_p1]) F h hl (c0_fillBottom l D K a2 a0 o_p1 t4 q5 h5) [2, 0, 1] rfl rfl rfl rfl rfl (i := 2) rfl rfl w444 ⟨w445, w446, w447, w376⟩ hsc0_fillBottom ⟨Nat.le_of_ble_eq_true rfl, Nat.le_of_ble_eq_true rfl⟩ ⟨Nat.le_refl 0, Nat.le_refl 0⟩ (Nat.le_of_ble_eq_true rfl) dX2_begin_32 (fun H locs h => ?_)
  refine lv_iconst (v := 0) hx hb dX2_begin_35 (by decide) ?_
  refine lv_istore_n (lv' := [(3, .int 0), (0, .ref (a0 0)), (1, .ref (a1 0)), (2, .ref (a2 0))]) hx hb dX2_begin_36 rfl hl (by decide) rfl (fun ls hl => ?_)
  obtain ⟨q6, hq6, hf⟩ := asb hf
  obtain ⟨nq6, hq6⟩ := wh_out hq6
  have Xq6_1 : ∀ (z6 : Int32 × ob) (H : Heap) (locs : List Loc) (ls : Array Slot), q6 = (1, z6) → WD D A s.heap H locs [wX2 K a0 z6.2, wX4 K a1 o_p0, wX0 K a2 o_p1] → lv_has ls 4 [(0, .ref (a0 0))] → W P l e (rmS 3 76) s m args below meth c H locs 0 0 (MQ below (QvS D A [wX2 K a0 r, wX4 K a1 o_p0, wX0 K a2 o_p1]) args s 0 0 A) (F0 m 69 ls []) := by
    intro z6 H locs ls eq6 h hl
    obtain rfl : z6 = q6.2 := by rw [eq6]
    refine lv_aload_n hx hb dX2_begin_69 rfl (lv_at hl 0 rfl) ?_
    refine lv_aload_n hx hb dX2_begin_70 rfl (lv_at hl 0 rfl) ?_
    refine r_get F h (i := 0) (k := 1) (.ref (a0 2)) inX2 rfl (by decide) w435 rfl rfl rfl dX2_begin_71 ?_
    refine lv_aload_n hx hb dX2_begin_74 rfl (lv_at hl 0 rfl) ?_
    refine r_get F h (i := 0) (k := 2) (.int (q6.2.2.1 2)) inX2 rfl (by decide) w439 rfl rfl rfl dX2_begin_75 ?_
    refine lv_bipush (v := 13) hx hb dX2_begin_78 (by decide) ?_
    refine lv_imul hx hb dX2_begin_80 ?_
    refine lv_aload_n hx hb dX2_begin_81 rfl (lv_at hl 0 rfl) ?_
    refine r_get F h (i := 0) (k := 3) (.int (q6.2.2.1 3)) inX2 rfl (by decide) w441 rfl rfl rfl dX2_begin_82 ?_
    refine lv_iadd hx hb dX2_begin_85 ?_
    obtain ⟨g7, hf⟩ := gdb hf
    refine r_lald F h (i := 0) (j := 2) rfl rfl (vin_ok g7) dX2_begin_86 ?_
    refine r_putl (v := .long (rL ((sF q6.2.2 4 (rL (q6.2.2.2 1) (((q6.2.2.1 2) * 13) + (q6.2.2.1 3)).toNatClampNeg)).2 4) 0)) (congrArg Value.long (rL_sF q6.2.2 4 (rL (q6.2.2.2 1) (((q6.2.2.1 2) * 13) + (q6.2.2.1 3)).toNatClampNeg)).symm) (o1 := sF q6.2.2 4 (rL (q6.2.2.2 1) (((q6.2.2.1 2) * 13) + (q6.2.2.1 3)).toNatClampNeg)) (w := fun t8 => wX2 K a0 t8) (S' := fun t8 => [wX2 K a0 t8, wX4 K a1 o_p0, wX0 K a2 o_p1]) F h (i := 0) (k := 4) inX2 tyX2_ok nmX2 rfl (by decide) w431 rfl rfl rfl rfl rfl (Nat.le_of_ble_eq_true rfl) rfl (fun _ => rfl) dX2_begin_87 (fun t8 e8 H locs h => ?_)
    have hf := ltb hf e8
    obtain rfl := sor hf
    exact r_retv F h dX2_begin_90
  have Lq6 : ∀ (n : Nat) (z6 : Int32 × ob) (H : Heap) (locs : List Loc) (ls : Array Slot), iter (f2_begin_L37 o_p0 o_p1) n z6 = some q6 → WD D A s.heap H locs [wX2 K a0 z6.2, wX4 K a1 o_p0, wX0 K a2 o_p1] → lv_has ls 4 [(0, .ref (a0 0)), (1, .ref (a1 0)), (2, .ref (a2 0)), (3, .int z6.1)] → W P l e (rmS 3 76) s m args below meth c H locs 0 0 (MQ below (QvS D A [wX2 K a0 r, wX4 K a1 o_p0, wX0 K a2 o_p1]) args s 0 0 A) (F0 m 37 ls []) := by
    intro n
    induction n with
    | zero => intro z6 H locs ls hi; exact (iter_0 hi).elim
    | succ n ihq6 =>
      intro z6 H locs ls hi h hl
      obtain ⟨uq6, hf, huq6⟩ := iter_s hi
      unfold f2_begin_L37 at hf
      have hf := tob hf
      refine lv_iload_n hx hb dX2_begin_37 rfl (lv_at hl 3 rfl) ?_
      refine lv_aload_n hx hb dX2_begin_38 rfl (lv_at hl 0 rfl) ?_
      refine r_get F h (i := 0) (k := 2) (.int (z6.2.1 2)) inX2 rfl (by decide) w439 rfl rfl rfl dX2_begin_39 ?_
      refine lv_icmp_ge (tgt := 69) hx hb dX2_begin_42 (by decide) (fun c9 => ?_) (fun c9 => ?_)
      · have hf := ifp hf c9
        exact Xq6_1 _ _ _ _ (itr_x huq6 (sor hf)) h (lv_sub hl [0] rfl)
      · have hf := ifn hf c9
        refine lv_aload_n hx hb dX2_begin_45 rfl (lv_at hl 0 rfl) ?_
        refine r_get F h (i := 0) (k := 0) (.ref (a0 1)) inX2 rfl (by decide) w436 rfl rfl rfl dX2_begin_46 ?_
        refine lv_iload_n hx hb dX2_begin_49 rfl (lv_at hl 3 rfl) ?_
        refine lv_aload_n hx hb dX2_begin_50 rfl (lv_at hl 1 rfl) ?_
        refine r_get F h (i := 1) (k := 15) (.ref (a1 16)) inX4 rfl (by decide) w443 rfl rfl rfl dX2_begin_51 ?_
        refine lv_iload_n hx hb dX2_begin_54 rfl (lv_at hl 3 rfl) ?_
        obtain ⟨g10, hf⟩ := gdb hf
        refine r_iald F h (i := 1) (j := 10) rfl rfl (vin_ok g10) dX2_begin_55 ?_
        obtain ⟨g11, hf⟩ := gdb hf
        refine r_iast (o1 := sA z6.2 0 z6.1.toNatClampNeg (o_p0.2 15 z6.1.toNatClampNeg)) (w := fun t12 => wX2 K a0 t12) (S' := fun t12 => [wX2 K a0 t12, wX4 K a1 o_p0, wX0 K a2 o_p1]) F h (i := 0) (j := 1) rfl rfl (vin_ok g11) rfl (fun _ => rfl) dX2_begin_56 (fun t12 e12 H locs h => ?_)
        have hf := ltb hf e12
        refine lv_aload_n hx hb dX2_begin_57 rfl (lv_at hl 0 rfl) ?_
        refine lv_iload_n hx hb dX2_begin_58 rfl (lv_at hl 3 rfl) ?_
        refine lv_aload_n hx hb dX2_begin_59 rfl (lv_at hl 2 rfl) ?_
        obtain ⟨q13, h13, hf⟩ := asb hf
        refine r_callVv (As := [.int z6.1, .ref (a2 0)]) (rest := []) (C0 := [wX2 K a0 t12, wX0 K a2 o_p1]) (C1 := [wX2 K a0 q13, wX0 K a2 o_p1]) (Rr := [wX4 K a1 o_p0]) (S' := [wX2 K a0 q13, wX4 K a1 o_p0, wX0 K a2 o_p1]) F h hl (c2_fillTail l D K a0 a2 z6.1 t12 o_p1 q13 h13) [0, 2, 1] rfl rfl rfl rfl rfl (i := 0) rfl rfl w448 ⟨w449, w450, w451, w452⟩ hsc2_fillTail ⟨Nat.le_of_ble_eq_true rfl, Nat.le_of_ble_eq_true rfl⟩ ⟨Nat.le_refl 0, Nat.le_refl 0⟩ (Nat.le_of_ble_eq_true rfl) dX2_begin_60 (fun H locs h => ?_)
        obtain ⟨y14, e14⟩ : ∃ y : Int32, y = z6.1 + 1 := ⟨_, rfl⟩
        have hf := ltb hf e14
        refine lv_iinc (v := y14) (lv' := [(3, .int y14), (0, .ref (a0 0)), (1, .ref (a1 0)), (2, .ref (a2 0))]) hx hb dX2_begin_63 hl (k := 3) rfl (by rw [e14]; rfl) (by decide) rfl (fun ls hl => ?_)
        refine lv_goto (tgt := 37) hx hb dX2_begin_66 (by decide) ?_
        exact ihq6 _ _ _ _ (itr_c huq6 (sor hf)) h (lv_sub hl [1, 2, 3, 0] rfl)
  exact Lq6 _ _ _ _ _ hq6 h (lv_sub hl [1, 2, 3, 0] rfl)
noncomputable def f2_stepsAfter (x0 : Int32) (x1 : Int32) (o_this : ob) (o_p2 : ob) : Option (Int64) :=
  lt ((o_this.1 2) - 1) fun y1 => (f5_lettersIn x1).bind fun q2 => (if q2 = 0 then (gd (vin ((y1 * 13) + x0) 2600) <| some (rL (o_this.2 1) ((y1 * 13) + x0).toNatClampNeg)) else (if q2 = 1 then ((f5_firstLetter x1).bind fun q5 => (f0_stepsOver x0 q5 y1 o_p2 o_this).bind fun q6 => some q6) else ((f5_firstLetter x1).bind fun q7 => (f5_secondLetter x1).bind fun q8 => (f0_stepsOverTwo x0 q7 q8 y1 o_p2 o_this).bind fun q9 => some q9)))
set_option maxRecDepth 100000 in
set_option maxHeartbeats 4000000 in
theorem c2_stepsAfter (l : Launch) (D : va_G) (K : Nat → ClassId) (a0 : Nat → Nat) (a3 : Nat → Nat) (x0 : Int32) (x1 : Int32) (o_this : ob) (o_p2 : ob) (r : Int64) (hf : f2_stepsAfter x0 x1 o_this o_p2 = some r) : CTl l yX2_stepsAfter cX2_stepsAfter 5 (some .long) 3 84 D K [.ref (a0 0), .int x0, .int x1, .ref (a3 0)] [wX2 K a0 o_this, wX0 K a3 o_p2] [wX2 K a0 o_this, wX0 K a3 o_p2] r := by
  unfold f2_stepsAfter at hf
  have hf := tob hf
  refine entL (by decide) (Nat.le_of_ble_eq_true rfl) (fun P e s m args below meth c A ls F h hl hin => ?_)
  have hx := F.1
  have hb := F.2.1
  have hl : lv_has ls 5 [(0, .ref (a0 0)), (1, .int x0), (2, .int x1), (3, .ref (a3 0))] := hl
  refine lv_aload_n hx hb dX2_stepsAfter_0 rfl (lv_at hl 0 rfl) ?_
  refine r_get F h (i := 0) (k := 2) (.int (o_this.1 2)) inX2 rfl (by decide) w439 rfl rfl rfl dX2_stepsAfter_1 ?_
  refine lv_iconst (v := 1) hx hb dX2_stepsAfter_4 (by decide) ?_
  refine lv_isub hx hb dX2_stepsAfter_5 ?_
  refine lv_topi (fun y1 e1 => ?_)
  have hf := ltb hf e1
  refine lv_istore (lv' := [(4, .int y1), (0, .ref (a0 0)), (1, .int x0), (2, .int x1), (3, .ref (a3 0))]) hx hb dX2_stepsAfter_6 hl (by decide) rfl (fun ls hl => ?_)
  refine lv_iload_n hx hb dX2_stepsAfter_8 rfl (lv_at hl 3 rfl) ?_
  obtain ⟨q2, h2, hf⟩ := asb hf
  refine r_callN (As := [.int x1]) (rest := []) F h hl (c5_lettersIn l D K x1 q2 h2) w267 ⟨by decide +kernel, w265, w266⟩ hsc5_lettersIn ⟨Nat.le_of_ble_eq_true rfl, Nat.le_of_ble_eq_true rfl⟩ ⟨Nat.le_refl 0, Nat.le_refl 0⟩ (Nat.le_of_ble_eq_true rfl) dX2_stepsAfter_9 (fun H locs h => ?_)
  by_cases c3_0 : q2 = 0
  · have hf := ifp hf c3_0
    refine lv_lookup (tgt := 40) hx hb dX2_stepsAfter_12 (by decide) (by first | (rw [c3_0]; done) | (rw [c3_0]; rfl)) (by decide) ?_
    refine lv_aload_n hx hb dX2_stepsAfter_40 rfl (lv_at hl 1 rfl) ?_
    refine r_get F h (i := 0) (k := 1) (.ref (a0 2)) inX2 rfl (by decide) w435 rfl rfl rfl dX2_stepsAfter_41 ?_
    refine lv_iload hx hb dX2_stepsAfter_44 (lv_at hl 0 rfl) ?_
    refine lv_bipush (v := 13) hx hb dX2_stepsAfter_46 (by decide) ?_
    refine lv_imul hx hb dX2_stepsAfter_48 ?_
    refine lv_iload_n hx hb dX2_stepsAfter_49 rfl (lv_at hl 2 rfl) ?_
    refine lv_iadd hx hb dX2_stepsAfter_50 ?_
    obtain ⟨g4, hf⟩ := gdb hf
    refine r_lald F h (i := 0) (j := 2) rfl rfl (vin_ok g4) dX2_stepsAfter_51 ?_
    obtain rfl := sor hf
    exact r_retl F h dX2_stepsAfter_52
  have hf := ifn hf c3_0
  by_cases c3_1 : q2 = 1
  · have hf := ifp hf c3_1
    refine lv_lookup (tgt := 53) hx hb dX2_stepsAfter_12 (by decide) (by first | (rw [c3_1]; done) | (rw [c3_1]; rfl)) (by decide) ?_
    refine lv_aload_n hx hb dX2_stepsAfter_53 rfl (lv_at hl 4 rfl) ?_
    refine lv_iload_n hx hb dX2_stepsAfter_54 rfl (lv_at hl 2 rfl) ?_
    refine lv_iload_n hx hb dX2_stepsAfter_55 rfl (lv_at hl 3 rfl) ?_
    obtain ⟨q5, h5, hf⟩ := asb hf
    refine r_callN (As := [.int x1]) (rest := [.int x0, .ref (a3 0)]) F h hl (c5_firstLetter l D K x1 q5 h5) w269 ⟨by decide +kernel, w268, w266⟩ hsc5_firstLetter ⟨Nat.le_of_ble_eq_true rfl, Nat.le_of_ble_eq_true rfl⟩ ⟨Nat.le_refl 0, Nat.le_refl 0⟩ (Nat.le_of_ble_eq_true rfl) dX2_stepsAfter_56 (fun H locs h => ?_)
    refine lv_aload_n hx hb dX2_stepsAfter_59 rfl (lv_at hl 1 rfl) ?_
    refine r_get F h (i := 0) (k := 1) (.ref (a0 2)) inX2 rfl (by decide) w435 rfl rfl rfl dX2_stepsAfter_60 ?_
    refine lv_iload hx hb dX2_stepsAfter_63 (lv_at hl 0 rfl) ?_
    obtain ⟨q6, h6, hf⟩ := asb hf
    refine r_callVl (As := [.int x0, .int q5, .ref (a0 2), .int y1]) (rest := []) (C0 := [wX0 K a3 o_p2, wX2 K a0 o_this]) (C1 := [wX0 K a3 o_p2, wX2 K a0 o_this]) (Rr := []) (S' := [wX2 K a0 o_this, wX0 K a3 o_p2]) F h hl (c0_stepsOver l D K a3 a0 x0 q5 y1 o_p2 o_this q6 h6) [1, 0] rfl rfl rfl rfl rfl (i := 1) rfl rfl w427 ⟨w437, w429, w430, w376⟩ hsc0_stepsOver ⟨Nat.le_of_ble_eq_true rfl, Nat.le_of_ble_eq_true rfl⟩ ⟨Nat.le_refl 0, Nat.le_refl 0⟩ (Nat.le_of_ble_eq_true rfl) dX2_stepsAfter_65 (fun H locs h => ?_)
    obtain rfl := sor hf
    exact r_retl F h dX2_stepsAfter_68
  have hf := ifn hf c3_1
  refine lv_lookup (tgt := 69) hx hb dX2_stepsAfter_12 (by decide) (lk_cons rfl c3_0 (lk_cons rfl c3_1 lk_nil)) (by decide) ?_
  refine lv_aload_n hx hb dX2_stepsAfter_69 rfl (lv_at hl 4 rfl) ?_
  refine lv_iload_n hx hb dX2_stepsAfter_70 rfl (lv_at hl 2 rfl) ?_
  refine lv_iload_n hx hb dX2_stepsAfter_71 rfl (lv_at hl 3 rfl) ?_
  obtain ⟨q7, h7, hf⟩ := asb hf
  refine r_callN (As := [.int x1]) (rest := [.int x0, .ref (a3 0)]) F h hl (c5_firstLetter l D K x1 q7 h7) w269 ⟨by decide +kernel, w268, w266⟩ hsc5_firstLetter ⟨Nat.le_of_ble_eq_true rfl, Nat.le_of_ble_eq_true rfl⟩ ⟨Nat.le_refl 0, Nat.le_refl 0⟩ (Nat.le_of_ble_eq_true rfl) dX2_stepsAfter_72 (fun H locs h => ?_)
  refine lv_iload_n hx hb dX2_stepsAfter_75 rfl (lv_at hl 3 rfl) ?_
  obtain ⟨q8, h8, hf⟩ := asb hf
  refine r_callN (As := [.int x1]) (rest := [.int q7, .int x0, .ref (a3 0)]) F h hl (c5_secondLetter l D K x1 q8 h8) w271 ⟨by decide +kernel, w270, w266⟩ hsc5_secondLetter ⟨Nat.le_of_ble_eq_true rfl, Nat.le_of_ble_eq_true rfl⟩ ⟨Nat.le_refl 0, Nat.le_refl 0⟩ (Nat.le_of_ble_eq_true rfl) dX2_stepsAfter_76 (fun H locs h => ?_)
  refine lv_aload_n hx hb dX2_stepsAfter_79 rfl (lv_at hl 1 rfl) ?_
  refine r_get F h (i := 0) (k := 1) (.ref (a0 2)) inX2 rfl (by decide) w435 rfl rfl rfl dX2_stepsAfter_80 ?_
  refine lv_iload hx hb dX2_stepsAfter_83 (lv_at hl 0 rfl) ?_
  obtain ⟨q9, h9, hf⟩ := asb hf
  refine r_callVl (As := [.int x0, .int q7, .int q8, .ref (a0 2), .int y1]) (rest := []) (C0 := [wX0 K a3 o_p2, wX2 K a0 o_this]) (C1 := [wX0 K a3 o_p2, wX2 K a0 o_this]) (Rr := []) (S' := [wX2 K a0 o_this, wX0 K a3 o_p2]) F h hl (c0_stepsOverTwo l D K a3 a0 x0 q7 q8 y1 o_p2 o_this q9 h9) [1, 0] rfl rfl rfl rfl rfl (i := 1) rfl rfl w453 ⟨w454, w455, w456, w376⟩ hsc0_stepsOverTwo ⟨Nat.le_of_ble_eq_true rfl, Nat.le_of_ble_eq_true rfl⟩ ⟨Nat.le_refl 0, Nat.le_refl 0⟩ (Nat.le_of_ble_eq_true rfl) dX2_stepsAfter_85 (fun H locs h => ?_)
  obtain rfl := sor hf
  exact r_retl F h dX2_stepsAfter_88
noncomputable def f2_replaceTop (x0 : Int32) (o_this : ob) (o_p1 : ob) : Option (ob) :=
  lt (sI o_this 2 ((o_this.1 2) - 1)) fun t1 => (f5_lettersIn x0).bind fun q2 => ((if q2 = 2 then ((f5_secondLetter x0).bind fun q11 => gd (vin (t1.1 2) 200) <| lt (sA t1 0 (t1.1 2).toNatClampNeg q11) fun t13 => (f2_fillTail (t13.1 2) t13 o_p1).bind fun q14 => lt (sI q14 2 ((q14.1 2) + 1)) fun t15 => some t15) else (some t1))).bind fun v3 => (f5_lettersIn x0).bind fun q4 => (if q4 ≤ 0 then (some v3) else ((f5_firstLetter x0).bind fun q6 => gd (vin (v3.1 2) 200) <| lt (sA v3 0 (v3.1 2).toNatClampNeg q6) fun t8 => lt (sI t8 2 ((t8.1 2) + 1)) fun t9 => some t9))
set_option maxRecDepth 100000 in
set_option maxHeartbeats 4000000 in
theorem c2_replaceTop (l : Launch) (D : va_G) (K : Nat → ClassId) (a0 : Nat → Nat) (a2 : Nat → Nat) (x0 : Int32) (o_this : ob) (o_p1 : ob) (r : ob) (hf : f2_replaceTop x0 o_this o_p1 = some r) : CTv l yX2_replaceTop cX2_replaceTop 3 3 76 D K [.ref (a0 0), .int x0, .ref (a2 0)] [wX2 K a0 o_this, wX0 K a2 o_p1] [wX2 K a0 r, wX0 K a2 o_p1] := by
  unfold f2_replaceTop at hf
  have hf := tob hf
  refine entV (by decide) (Nat.le_of_ble_eq_true rfl) (fun P e s m args below meth c A ls F h hl hin => ?_)
  have hx := F.1
  have hb := F.2.1
  have hl : lv_has ls 3 [(0, .ref (a0 0)), (1, .int x0), (2, .ref (a2 0))] := hl
  refine lv_aload_n hx hb dX2_replaceTop_0 rfl (lv_at hl 0 rfl) ?_
  refine lv_dup hx hb dX2_replaceTop_1 rfl ?_
  refine r_get F h (i := 0) (k := 2) (.int (o_this.1 2)) inX2 rfl (by decide) w439 rfl rfl rfl dX2_replaceTop_2 ?_
  refine lv_iconst (v := 1) hx hb dX2_replaceTop_5 (by decide) ?_
  refine lv_isub hx hb dX2_replaceTop_6 ?_
  refine r_put (o1 := sI o_this 2 ((o_this.1 2) - 1)) (w := fun t1 => wX2 K a0 t1) (S' := fun t1 => [wX2 K a0 t1, wX0 K a2 o_p1]) F h (i := 0) (k := 2) inX2 tyX2_ok nmX2 rfl (by decide) w439 rfl rfl rfl rfl rfl (Nat.le_of_ble_eq_true rfl) rfl (fun _ => rfl) dX2_replaceTop_7 (fun t1 e1 H locs h => ?_)
  have hf := ltb hf e1
  refine lv_iload_n hx hb dX2_replaceTop_10 rfl (lv_at hl 1 rfl) ?_
  obtain ⟨q2, h2, hf⟩ := asb hf
  refine r_callN (As := [.int x0]) (rest := []) F h hl (c5_lettersIn l D K x0 q2 h2) w267 ⟨by decide +kernel, w265, w266⟩ hsc5_lettersIn ⟨Nat.le_of_ble_eq_true rfl, Nat.le_of_ble_eq_true rfl⟩ ⟨Nat.le_refl 0, Nat.le_refl 0⟩ (Nat.le_of_ble_eq_true rfl) dX2_replaceTop_11 (fun H locs h => ?_)
  refine lv_iconst (v := 2) hx hb dX2_replaceTop_14 (by decide) ?_
  obtain ⟨J3, eJ3, hf⟩ := rgn hf
  have JW3 : ∀ (v3 : ob) (H : Heap) (locs : List Loc) (ls : Array Slot), WD D A s.heap H locs [wX2 K a0 v3, wX0 K a2 o_p1] → lv_has ls 3 [(0, .ref (a0 0)), (1, .int x0)] → J3 v3 = some r → W P l e (rmS 3 76) s m args below meth c H locs 0 0 (MQ below (QvS D A [wX2 K a0 r, wX0 K a2 o_p1]) args s 0 0 A) (F0 m 50 ls []) := by
    intro v3 H locs ls h hl hf
    have hf := jof eJ3 hf
    refine lv_iload_n hx hb dX2_replaceTop_50 rfl (lv_at hl 1 rfl) ?_
    obtain ⟨q4, h4, hf⟩ := asb hf
    refine r_callN (As := [.int x0]) (rest := []) F h hl (c5_lettersIn l D K x0 q4 h4) w267 ⟨by decide +kernel, w265, w266⟩ hsc5_lettersIn ⟨Nat.le_of_ble_eq_true rfl, Nat.le_of_ble_eq_true rfl⟩ ⟨Nat.le_refl 0, Nat.le_refl 0⟩ (Nat.le_of_ble_eq_true rfl) dX2_replaceTop_51 (fun H locs h => ?_)
    refine lv_if_le (tgt := 80) hx hb dX2_replaceTop_54 (by decide) (fun c5 => ?_) (fun c5 => ?_)
    · have hf := ifp hf c5
      obtain rfl := sor hf
      exact r_retv F h dX2_replaceTop_80
    · have hf := ifn hf c5
      refine lv_aload_n hx hb dX2_replaceTop_57 rfl (lv_at hl 0 rfl) ?_
      refine r_get F h (i := 0) (k := 0) (.ref (a0 1)) inX2 rfl (by decide) w436 rfl rfl rfl dX2_replaceTop_58 ?_
      refine lv_aload_n hx hb dX2_replaceTop_61 rfl (lv_at hl 0 rfl) ?_
      refine r_get F h (i := 0) (k := 2) (.int (v3.1 2)) inX2 rfl (by decide) w439 rfl rfl rfl dX2_replaceTop_62 ?_
      refine lv_iload_n hx hb dX2_replaceTop_65 rfl (lv_at hl 1 rfl) ?_
      obtain ⟨q6, h6, hf⟩ := asb hf
      refine r_callN (As := [.int x0]) (rest := [.int (v3.1 2), .ref (a0 1)]) F h hl (c5_firstLetter l D K x0 q6 h6) w269 ⟨by decide +kernel, w268, w266⟩ hsc5_firstLetter ⟨Nat.le_of_ble_eq_true rfl, Nat.le_of_ble_eq_true rfl⟩ ⟨Nat.le_refl 0, Nat.le_refl 0⟩ (Nat.le_of_ble_eq_true rfl) dX2_replaceTop_66 (fun H locs h => ?_)
      obtain ⟨g7, hf⟩ := gdb hf
      refine r_iast (o1 := sA v3 0 (v3.1 2).toNatClampNeg q6) (w := fun t8 => wX2 K a0 t8) (S' := fun t8 => [wX2 K a0 t8, wX0 K a2 o_p1]) F h (i := 0) (j := 1) rfl rfl (vin_ok g7) rfl (fun _ => rfl) dX2_replaceTop_69 (fun t8 e8 H locs h => ?_)
      have hf := ltb hf e8
      refine lv_aload_n hx hb dX2_replaceTop_70 rfl (lv_at hl 0 rfl) ?_
      refine lv_dup hx hb dX2_replaceTop_71 rfl ?_
      refine r_get F h (i := 0) (k := 2) (.int (t8.1 2)) inX2 rfl (by decide) w439 rfl rfl rfl dX2_replaceTop_72 ?_
      refine lv_iconst (v := 1) hx hb dX2_replaceTop_75 (by decide) ?_
      refine lv_iadd hx hb dX2_replaceTop_76 ?_
      refine r_put (o1 := sI t8 2 ((t8.1 2) + 1)) (w := fun t9 => wX2 K a0 t9) (S' := fun t9 => [wX2 K a0 t9, wX0 K a2 o_p1]) F h (i := 0) (k := 2) inX2 tyX2_ok nmX2 rfl (by decide) w439 rfl rfl rfl rfl rfl (Nat.le_of_ble_eq_true rfl) rfl (fun _ => rfl) dX2_replaceTop_77 (fun t9 e9 H locs h => ?_)
      have hf := ltb hf e9
      obtain rfl := sor hf
      exact r_retv F h dX2_replaceTop_80
  refine lv_icmp_ne (tgt := 50) hx hb dX2_replaceTop_15 (by decide) (fun c10 => ?_) (fun c10 => ?_)
  · have hf := ifn hf c10
    exact JW3 t1 _ _ _ h (lv_sub hl [0, 1] rfl) (sob hf)
  · have hf := ifp hf c10
    refine lv_aload_n hx hb dX2_replaceTop_18 rfl (lv_at hl 0 rfl) ?_
    refine r_get F h (i := 0) (k := 0) (.ref (a0 1)) inX2 rfl (by decide) w436 rfl rfl rfl dX2_replaceTop_19 ?_
    refine lv_aload_n hx hb dX2_replaceTop_22 rfl (lv_at hl 0 rfl) ?_
    refine r_get F h (i := 0) (k := 2) (.int (t1.1 2)) inX2 rfl (by decide) w439 rfl rfl rfl dX2_replaceTop_23 ?_
    refine lv_iload_n hx hb dX2_replaceTop_26 rfl (lv_at hl 1 rfl) ?_
    obtain ⟨q11, h11, hf⟩ := asb hf
    refine r_callN (As := [.int x0]) (rest := [.int (t1.1 2), .ref (a0 1)]) F h hl (c5_secondLetter l D K x0 q11 h11) w271 ⟨by decide +kernel, w270, w266⟩ hsc5_secondLetter ⟨Nat.le_of_ble_eq_true rfl, Nat.le_of_ble_eq_true rfl⟩ ⟨Nat.le_refl 0, Nat.le_refl 0⟩ (Nat.le_of_ble_eq_true rfl) dX2_replaceTop_27 (fun H locs h => ?_)
    obtain ⟨g12, hf⟩ := gdb hf
    refine r_iast (o1 := sA t1 0 (t1.1 2).toNatClampNeg q11) (w := fun t13 => wX2 K a0 t13) (S' := fun t13 => [wX2 K a0 t13, wX0 K a2 o_p1]) F h (i := 0) (j := 1) rfl rfl (vin_ok g12) rfl (fun _ => rfl) dX2_replaceTop_30 (fun t13 e13 H locs h => ?_)
    have hf := ltb hf e13
    refine lv_aload_n hx hb dX2_replaceTop_31 rfl (lv_at hl 0 rfl) ?_
    refine lv_aload_n hx hb dX2_replaceTop_32 rfl (lv_at hl 0 rfl) ?_
    refine r_get F h (i := 0) (k := 2) (.int (t13.1 2)) inX2 rfl (by decide) w439 rfl rfl rfl dX2_replaceTop_33 ?_
    refine lv_aload_n hx hb dX2_replaceTop_36 rfl (lv_at hl 2 rfl) ?_
    obtain ⟨q14, h14, hf⟩ := asb hf
    refine r_callVv (As := [.int (t13.1 2), .ref (a2 0)]) (rest := []) (C0 := [wX2 K a0 t13, wX0 K a2 o_p1]) (C1 := [wX2 K a0 q14, wX0 K a2 o_p1]) (Rr := []) (S' := [wX2 K a0 q14, wX0 K a2 o_p1]) F h hl (c2_fillTail l D K a0 a2 (t13.1 2) t13 o_p1 q14 h14) [0, 1] rfl rfl rfl rfl rfl (i := 0) rfl rfl w448 ⟨w449, w450, w451, w452⟩ hsc2_fillTail ⟨Nat.le_of_ble_eq_true rfl, Nat.le_of_ble_eq_true rfl⟩ ⟨Nat.le_refl 0, Nat.le_refl 0⟩ (Nat.le_of_ble_eq_true rfl) dX2_replaceTop_37 (fun H locs h => ?_)
    refine lv_aload_n hx hb dX2_replaceTop_40 rfl (lv_at hl 0 rfl) ?_
    refine lv_dup hx hb dX2_replaceTop_41 rfl ?_
    refine r_get F h (i := 0) (k := 2) (.int (q14.1 2)) inX2 rfl (by decide) w439 rfl rfl rfl dX2_replaceTop_42 ?_
    refine lv_iconst (v := 1) hx hb dX2_replaceTop_45 (by decide) ?_
    refine lv_iadd hx hb dX2_replaceTop_46 ?_
    refine r_put (o1 := sI q14 2 ((q14.1 2) + 1)) (w := fun t15 => wX2 K a0 t15) (S' := fun t15 => [wX2 K a0 t15, wX0 K a2 o_p1]) F h (i := 0) (k := 2) inX2 tyX2_ok nmX2 rfl (by decide) w439 rfl rfl rfl rfl rfl (Nat.le_of_ble_eq_true rfl) rfl (fun _ => rfl) dX2_replaceTop_47 (fun t15 e15 H locs h => ?_)
    have hf := ltb hf e15
    exact JW3 t15 _ _ _ h (lv_sub hl [0, 1] rfl) (sob hf)
noncomputable def f2_advance_L24 (g0 : ob) (g1 : ob) (g2 : ob) (z3 : Int32) : Option (Nat × (Int32)) :=
  (if (g1.1 1) ≤ z3 then (some (2, z3)) else (gd (vin z3 10) <| (if (g1.2 2 z3.toNatClampNeg) = (g0.1 3) then (gd (vin z3 10) <| gd (vin ((g0.1 2) - 1) 200) <| (if (g1.2 3 z3.toNatClampNeg) = (g0.2 0 ((g0.1 2) - 1).toNatClampNeg) then (gd (vin z3 10) <| gd (vin z3 10) <| (f2_stepsAfter (g1.2 4 z3.toNatClampNeg) (g1.2 5 z3.toNatClampNeg) g0 g2).bind fun q20 => (if q20 = ((rL (g0.2 4) 0) - 1) then (some (1, z3)) else (lt (z3 + 1) fun y22 => some (0, y22)))) else (lt (z3 + 1) fun y17 => some (0, y17)))) else (lt (z3 + 1) fun y13 => some (0, y13)))))
noncomputable def f2_advance (o_this : ob) (o_p0 : ob) (o_p1 : ob) : Option (Int32 × ob) :=
  (if (o_this.1 2) = 0 then (some ((-4), o_this)) else ((if ((o_this.1 2) + 2) < 200 then ((wh (f2_advance_L24 o_this o_p0 o_p1) 0).bind fun q3 => (if q3.1 = 1 then (gd (vin q3.2 10) <| (f2_replaceTop (o_p0.2 5 q3.2.toNatClampNeg) o_this o_p1).bind fun q5 => gd (vin q3.2 10) <| lt (sI q5 3 (o_p0.2 4 q3.2.toNatClampNeg)) fun t7 => lt (sF t7 4 ((rL (t7.2 4) 0) - 1)) fun t8 => lt (sI t8 6 ((t8.1 6) + 1)) fun t9 => some (q3.2, t9)) else (some ((-4), o_this)))) else (some ((-4), o_this)))))
set_option maxRecDepth 100000 in
set_option maxHeartbeats 4000000 in
theorem c2_advance (l : Launch) (D : va_G) (K : Nat → ClassId) (a0 : Nat → Nat) (a1 : Nat → Nat) (a2 : Nat → Nat) (o_this : ob) (o_p0 : ob) (o_p1 : ob) (r : Int32 × ob) (hf : f2_advance o_this o_p0 o_p1 = some r) : CTi l yX2_advance cX2_advance 4 (some .int) 4 108 D K [.ref (a0 0), .ref (a1 0), .ref (a2 0)] [wX2 K a0 o_this, wX4 K a1 o_p0, wX0 K a2 o_p1] [wX2 K a0 r.2, wX4 K a1 o_p0, wX0 K a2 o_p1] r.1 := by
  unfold f2_advance at hf
  have hf := tob hf
  refine entI (by decide) (Nat.le_of_ble_eq_true rfl) (fun P e s m args below meth c A ls F h hl hin => ?_)
  have hx := F.1
  have hb := F.2.1
  have hl : lv_has ls 4 [(0, .ref (a0 0)), (1, .ref (a1 0)), (2, .ref (a2 0))] := hl
  refine lv_aload_n hx hb dX2_advance_0 rfl (lv_at hl 0 rfl) ?_
  refine r_get F h (i := 0) (k := 2) (.int (o_this.1 2)) inX2 rfl (by decide) w439 rfl rfl rfl dX2_advance_1 ?_
  refine lv_if_eq (tgt := 19) hx hb dX2_advance_4 (by decide) (fun c1 => ?_) (fun c1 => ?_)
  · have hf := ifp hf c1
    refine lv_bipush (v := (-4)) hx hb dX2_advance_19 (by decide) ?_
    obtain rfl := sor hf
    exact r_reti F h dX2_advance_21
  · have hf := ifn hf c1
    refine lv_aload_n hx hb dX2_advance_7 rfl (lv_at hl 0 rfl) ?_
    refine r_get F h (i := 0) (k := 2) (.int (o_this.1 2)) inX2 rfl (by decide) w439 rfl rfl rfl dX2_advance_8 ?_
    refine lv_iconst (v := 2) hx hb dX2_advance_11 (by decide) ?_
    refine lv_iadd hx hb dX2_advance_12 ?_
    refine lv_sipush (v := 200) hx hb dX2_advance_13 (by decide) ?_
    refine lv_icmp_lt (tgt := 22) hx hb dX2_advance_16 (by decide) (fun c2 => ?_) (fun c2 => ?_)
    · have hf := ifp hf c2
      refine lv_iconst (v := 0) hx hb dX2_advance_22 (by decide) ?_
      refine lv_istore_n (lv' := [(3, .int 0), (0, .ref (a0 0)), (1, .ref (a1 0)), (2, .ref (a2 0))]) hx hb dX2_advance_23 rfl hl (by decide) rfl (fun ls hl => ?_)
      obtain ⟨q3, hq3, hf⟩ := asb hf
      obtain ⟨nq3, hq3⟩ := wh_out hq3
      have Xq3_1 : ∀ (z3 : Int32) (H : Heap) (locs : List Loc) (ls : Array Slot), q3 = (1, z3) → WD D A s.heap H locs [wX2 K a0 o_this, wX4 K a1 o_p0, wX0 K a2 o_p1] → lv_has ls 4 [(0, .ref (a0 0)), (1, .ref (a1 0)), (2, .ref (a2 0)), (3, .int z3)] → W P l e (rmS 4 108) s m args below meth c H locs 0 0 (MQ below (QiS D A [wX2 K a0 r.2, wX4 K a1 o_p0, wX0 K a2 o_p1] r.1) args s 0 0 A) (F0 m 92 ls []) := by
        intro z3 H locs ls eq3 h hl
        obtain rfl : z3 = q3.2 := by rw [eq3]
        have hf := ifp hf (show q3.1 = 1 by rw [eq3])
        refine lv_aload_n hx hb dX2_advance_92 rfl (lv_at hl 0 rfl) ?_
        refine lv_aload_n hx hb dX2_advance_93 rfl (lv_at hl 1 rfl) ?_
        refine r_get F h (i := 1) (k := 5) (.ref (a1 6)) inX4 rfl (by decide) w461 rfl rfl rfl dX2_advance_94 ?_
        refine lv_iload_n hx hb dX2_advance_97 rfl (lv_at hl 3 rfl) ?_
        obtain ⟨g4, hf⟩ := gdb hf
        refine r_iald F h (i := 1) (j := 4) rfl rfl (vin_ok g4) dX2_advance_98 ?_
        refine lv_aload_n hx hb dX2_advance_99 rfl (lv_at hl 2 rfl) ?_
        obtain ⟨q5, h5, hf⟩ := asb hf
        refine r_callVv (As := [.int (o_p0.2 5 q3.2.toNatClampNeg), .ref (a2 0)]) (rest := []) (C0 := [wX2 K a0 o_this, wX0 K a2 o_p1]) (C1 := [wX2 K a0 q5, wX0 K a2 o_p1]) (Rr := [wX4 K a1 o_p0]) (S' := [wX2 K a0 q5, wX4 K a1 o_p0, wX0 K a2 o_p1]) F h hl (c2_replaceTop l D K a0 a2 (o_p0.2 5 q3.2.toNatClampNeg) o_this o_p1 q5 h5) [0, 2, 1] rfl rfl rfl rfl rfl (i := 0) rfl rfl w462 ⟨w463, w464, w465, w452⟩ hsc2_replaceTop ⟨Nat.le_of_ble_eq_true rfl, Nat.le_of_ble_eq_true rfl⟩ ⟨Nat.le_refl 0, Nat.le_refl 0⟩ (Nat.le_of_ble_eq_true rfl) dX2_advance_100 (fun H locs h => ?_)
        refine lv_aload_n hx hb dX2_advance_103 rfl (lv_at hl 0 rfl) ?_
        refine lv_aload_n hx hb dX2_advance_104 rfl (lv_at hl 1 rfl) ?_
        refine r_get F h (i := 1) (k := 4) (.ref (a1 5)) inX4 rfl (by decide) w460 rfl rfl rfl dX2_advance_105 ?_
        refine lv_iload_n hx hb dX2_advance_108 rfl (lv_at hl 3 rfl) ?_
        obtain ⟨g6, hf⟩ := gdb hf
        refine r_iald F h (i := 1) (j := 3) rfl rfl (vin_ok g6) dX2_advance_109 ?_
        refine r_put (o1 := sI q5 3 (o_p0.2 4 q3.2.toNatClampNeg)) (w := fun t7 => wX2 K a0 t7) (S' := fun t7 => [wX2 K a0 t7, wX4 K a1 o_p0, wX0 K a2 o_p1]) F h (i := 0) (k := 3) inX2 tyX2_ok nmX2 rfl (by decide) w441 rfl rfl rfl rfl rfl (Nat.le_of_ble_eq_true rfl) rfl (fun _ => rfl) dX2_advance_110 (fun t7 e7 H locs h => ?_)
        have hf := ltb hf e7
        refine lv_aload_n hx hb dX2_advance_113 rfl (lv_at hl 0 rfl) ?_
        refine lv_dup hx hb dX2_advance_114 rfl ?_
        refine r_get F h (i := 0) (k := 4) (.long (rL (t7.2 4) 0)) inX2 rfl (by decide) w431 rfl rfl rfl dX2_advance_115 ?_
        refine lv_lconst (v := 1) hx hb dX2_advance_118 (by decide) ?_
        refine lv_lsub hx hb dX2_advance_119 ?_
        refine r_putl (v := .long (rL ((sF t7 4 ((rL (t7.2 4) 0) - 1)).2 4) 0)) (congrArg Value.long (rL_sF t7 4 ((rL (t7.2 4) 0) - 1)).symm) (o1 := sF t7 4 ((rL (t7.2 4) 0) - 1)) (w := fun t8 => wX2 K a0 t8) (S' := fun t8 => [wX2 K a0 t8, wX4 K a1 o_p0, wX0 K a2 o_p1]) F h (i := 0) (k := 4) inX2 tyX2_ok nmX2 rfl (by decide) w431 rfl rfl rfl rfl rfl (Nat.le_of_ble_eq_true rfl) rfl (fun _ => rfl) dX2_advance_120 (fun t8 e8 H locs h => ?_)
        have hf := ltb hf e8
        refine lv_aload_n hx hb dX2_advance_123 rfl (lv_at hl 0 rfl) ?_
        refine lv_dup hx hb dX2_advance_124 rfl ?_
        refine r_get F h (i := 0) (k := 6) (.int (t8.1 6)) inX2 rfl (by decide) w433 rfl rfl rfl dX2_advance_125 ?_
        refine lv_iconst (v := 1) hx hb dX2_advance_128 (by decide) ?_
        refine lv_iadd hx hb dX2_advance_129 ?_
        refine r_put (o1 := sI t8 6 ((t8.1 6) + 1)) (w := fun t9 => wX2 K a0 t9) (S' := fun t9 => [wX2 K a0 t9, wX4 K a1 o_p0, wX0 K a2 o_p1]) F h (i := 0) (k := 6) inX2 tyX2_ok nmX2 rfl (by decide) w433 rfl rfl rfl rfl rfl (Nat.le_of_ble_eq_true rfl) rfl (fun _ => rfl) dX2_advance_130 (fun t9 e9 H locs h => ?_)
        have hf := ltb hf e9
        refine lv_iload_n hx hb dX2_advance_133 rfl (lv_at hl 3 rfl) ?_
        obtain rfl := sor hf
        exact r_reti F h dX2_advance_134
      have Xq3_2 : ∀ (z3 : Int32) (H : Heap) (locs : List Loc) (ls : Array Slot), q3 = (2, z3) → WD D A s.heap H locs [wX2 K a0 o_this, wX4 K a1 o_p0, wX0 K a2 o_p1] → lv_has ls 4 [] → W P l e (rmS 4 108) s m args below meth c H locs 0 0 (MQ below (QiS D A [wX2 K a0 r.2, wX4 K a1 o_p0, wX0 K a2 o_p1] r.1) args s 0 0 A) (F0 m 141 ls []) := by
        intro z3 H locs ls eq3 h hl
        obtain rfl : z3 = q3.2 := by rw [eq3]
        have hf := ifn hf (show ¬ q3.1 = 1 by rw [show q3.1 = 2 by rw [eq3]]; decide)
        refine lv_bipush (v := (-4)) hx hb dX2_advance_141 (by decide) ?_
        obtain rfl := sor hf
        exact r_reti F h dX2_advance_143
      have Lq3 : ∀ (n : Nat) (z3 : Int32) (H : Heap) (locs : List Loc) (ls : Array Slot), iter (f2_advance_L24 o_this o_p0 o_p1) n z3 = some q3 → WD D A s.heap H locs [wX2 K a0 o_this, wX4 K a1 o_p0, wX0 K a2 o_p1] → lv_has ls 4 [(0, .ref (a0 0)), (1, .ref (a1 0)), (2, .ref (a2 0)), (3, .int z3)] → W P l e (rmS 4 108) s m args below meth c H locs 0 0 (MQ below (QiS D A [wX2 K a0 r.2, wX4 K a1 o_p0, wX0 K a2 o_p1] r.1) args s 0 0 A) (F0 m 24 ls []) := by
        intro n
        induction n with
        | zero => intro z3 H locs ls hi; exact (iter_0 hi).elim
        | succ n ihq3 =>
          intro z3 H locs ls hi h hl
          obtain ⟨uq3, hf, huq3⟩ := iter_s hi
          unfold f2_advance_L24 at hf
          have hf := tob hf
          refine lv_iload_n hx hb dX2_advance_24 rfl (lv_at hl 3 rfl) ?_
          refine lv_aload_n hx hb dX2_advance_25 rfl (lv_at hl 1 rfl) ?_
          refine r_get F h (i := 1) (k := 1) (.int (o_p0.1 1)) inX4 rfl (by decide) w457 rfl rfl rfl dX2_advance_26 ?_
          refine lv_icmp_ge (tgt := 141) hx hb dX2_advance_29 (by decide) (fun c10 => ?_) (fun c10 => ?_)
          · have hf := ifp hf c10
            exact Xq3_2 _ _ _ _ (itr_x huq3 (sor hf)) h (lv_sub hl [] rfl)
          · have hf := ifn hf c10
            refine lv_aload_n hx hb dX2_advance_32 rfl (lv_at hl 1 rfl) ?_
            refine r_get F h (i := 1) (k := 2) (.ref (a1 3)) inX4 rfl (by decide) w458 rfl rfl rfl dX2_advance_33 ?_
            refine lv_iload_n hx hb dX2_advance_36 rfl (lv_at hl 3 rfl) ?_
            obtain ⟨g11, hf⟩ := gdb hf
            refine r_iald F h (i := 1) (j := 1) rfl rfl (vin_ok g11) dX2_advance_37 ?_
            refine lv_aload_n hx hb dX2_advance_38 rfl (lv_at hl 0 rfl) ?_
            refine r_get F h (i := 0) (k := 3) (.int (o_this.1 3)) inX2 rfl (by decide) w441 rfl rfl rfl dX2_advance_39 ?_
            refine lv_icmp_ne (tgt := 135) hx hb dX2_advance_42 (by decide) (fun c12 => ?_) (fun c12 => ?_)
            · have hf := ifn hf c12
              obtain ⟨y13, e13⟩ : ∃ y : Int32, y = z3 + 1 := ⟨_, rfl⟩
              have hf := ltb hf e13
              refine lv_iinc (v := y13) (lv' := [(3, .int y13), (0, .ref (a0 0)), (1, .ref (a1 0)), (2, .ref (a2 0))]) hx hb dX2_advance_135 hl (k := 3) rfl (by rw [e13]; rfl) (by decide) rfl (fun ls hl => ?_)
              refine lv_goto (tgt := 24) hx hb dX2_advance_138 (by decide) ?_
              exact ihq3 _ _ _ _ (itr_c huq3 (sor hf)) h (lv_sub hl [1, 2, 3, 0] rfl)
            · have hf := ifp hf c12
              refine lv_aload_n hx hb dX2_advance_45 rfl (lv_at hl 1 rfl) ?_
              refine r_get F h (i := 1) (k := 3) (.ref (a1 4)) inX4 rfl (by decide) w459 rfl rfl rfl dX2_advance_46 ?_
              refine lv_iload_n hx hb dX2_advance_49 rfl (lv_at hl 3 rfl) ?_
              obtain ⟨g14, hf⟩ := gdb hf
              refine r_iald F h (i := 1) (j := 2) rfl rfl (vin_ok g14) dX2_advance_50 ?_
              refine lv_aload_n hx hb dX2_advance_51 rfl (lv_at hl 0 rfl) ?_
              refine r_get F h (i := 0) (k := 0) (.ref (a0 1)) inX2 rfl (by decide) w436 rfl rfl rfl dX2_advance_52 ?_
              refine lv_aload_n hx hb dX2_advance_55 rfl (lv_at hl 0 rfl) ?_
              refine r_get F h (i := 0) (k := 2) (.int (o_this.1 2)) inX2 rfl (by decide) w439 rfl rfl rfl dX2_advance_56 ?_
              refine lv_iconst (v := 1) hx hb dX2_advance_59 (by decide) ?_
              refine lv_isub hx hb dX2_advance_60 ?_
              obtain ⟨g15, hf⟩ := gdb hf
              refine r_iald F h (i := 0) (j := 1) rfl rfl (vin_ok g15) dX2_advance_61 ?_
              refine lv_icmp_ne (tgt := 135) hx hb dX2_advance_62 (by decide) (fun c16 => ?_) (fun c16 => ?_)
              · have hf := ifn hf c16
                obtain ⟨y17, e17⟩ : ∃ y : Int32, y = z3 + 1 := ⟨_, rfl⟩
                have hf := ltb hf e17
                refine lv_iinc (v := y17) (lv' := [(3, .int y17), (0, .ref (a0 0)), (1, .ref (a1 0)), (2, .ref (a2 0))]) hx hb dX2_advance_135 hl (k := 3) rfl (by rw [e17]; rfl) (by decide) rfl (fun ls hl => ?_)
                refine lv_goto (tgt := 24) hx hb dX2_advance_138 (by decide) ?_
                exact ihq3 _ _ _ _ (itr_c huq3 (sor hf)) h (lv_sub hl [1, 2, 3, 0] rfl)
              · have hf := ifp hf c16
                refine lv_aload_n hx hb dX2_advance_65 rfl (lv_at hl 0 rfl) ?_
                refine lv_aload_n hx hb dX2_advance_66 rfl (lv_at hl 1 rfl) ?_
                refine r_get F h (i := 1) (k := 4) (.ref (a1 5)) inX4 rfl (by decide) w460 rfl rfl rfl dX2_advance_67 ?_
                refine lv_iload_n hx hb dX2_advance_70 rfl (lv_at hl 3 rfl) ?_
                obtain ⟨g18, hf⟩ := gdb hf
                refine r_iald F h (i := 1) (j := 3) rfl rfl (vin_ok g18) dX2_advance_71 ?_
                refine lv_aload_n hx hb dX2_advance_72 rfl (lv_at hl 1 rfl) ?_
                refine r_get F h (i := 1) (k := 5) (.ref (a1 6)) inX4 rfl (by decide) w461 rfl rfl rfl dX2_advance_73 ?_
                refine lv_iload_n hx hb dX2_advance_76 rfl (lv_at hl 3 rfl) ?_
                obtain ⟨g19, hf⟩ := gdb hf
                refine r_iald F h (i := 1) (j := 4) rfl rfl (vin_ok g19) dX2_advance_77 ?_
                refine lv_aload_n hx hb dX2_advance_78 rfl (lv_at hl 2 rfl) ?_
                obtain ⟨q20, h20, hf⟩ := asb hf
                refine r_callVl (As := [.int (o_p0.2 4 z3.toNatClampNeg), .int (o_p0.2 5 z3.toNatClampNeg), .ref (a2 0)]) (rest := []) (C0 := [wX2 K a0 o_this, wX0 K a2 o_p1]) (C1 := [wX2 K a0 o_this, wX0 K a2 o_p1]) (Rr := [wX4 K a1 o_p0]) (S' := [wX2 K a0 o_this, wX4 K a1 o_p0, wX0 K a2 o_p1]) F h hl (c2_stepsAfter l D K a0 a2 (o_p0.2 4 z3.toNatClampNeg) (o_p0.2 5 z3.toNatClampNeg) o_this o_p1 q20 h20) [0, 2, 1] rfl rfl rfl rfl rfl (i := 0) rfl rfl w466 ⟨w467, w468, w469, w452⟩ hsc2_stepsAfter ⟨Nat.le_of_ble_eq_true rfl, Nat.le_of_ble_eq_true rfl⟩ ⟨Nat.le_refl 0, Nat.le_refl 0⟩ (Nat.le_of_ble_eq_true rfl) dX2_advance_79 (fun H locs h => ?_)
                refine lv_aload_n hx hb dX2_advance_82 rfl (lv_at hl 0 rfl) ?_
                refine r_get F h (i := 0) (k := 4) (.long (rL (o_this.2 4) 0)) inX2 rfl (by decide) w431 rfl rfl rfl dX2_advance_83 ?_
                refine lv_lconst (v := 1) hx hb dX2_advance_86 (by decide) ?_
                refine lv_lsub hx hb dX2_advance_87 ?_
                refine W.lcmp hx hb dX2_advance_88 ?_
                refine lv_if_ne (tgt := 135) hx hb dX2_advance_89 (by decide) (fun c21 => ?_) (fun c21 => ?_)
                · have hf := ifn hf (fun z => c21 ((lg_cmp_eq q20 ((rL (o_this.2 4) 0) - 1)).mpr z))
                  obtain ⟨y22, e22⟩ : ∃ y : Int32, y = z3 + 1 := ⟨_, rfl⟩
                  have hf := ltb hf e22
                  refine lv_iinc (v := y22) (lv' := [(3, .int y22), (0, .ref (a0 0)), (1, .ref (a1 0)), (2, .ref (a2 0))]) hx hb dX2_advance_135 hl (k := 3) rfl (by rw [e22]; rfl) (by decide) rfl (fun ls hl => ?_)
                  refine lv_goto (tgt := 24) hx hb dX2_advance_138 (by decide) ?_
                  exact ihq3 _ _ _ _ (itr_c huq3 (sor hf)) h (lv_sub hl [1, 2, 3, 0] rfl)
                · have hf := ifp hf ((lg_cmp_eq q20 ((rL (o_this.2 4) 0) - 1)).mp c21)
                  exact Xq3_1 _ _ _ _ (itr_x huq3 (sor hf)) h (lv_sub hl [0, 1, 2, 3] rfl)
      exact Lq3 _ _ _ _ _ hq3 h (lv_sub hl [1, 2, 3, 0] rfl)
    · have hf := ifn hf c2
      refine lv_bipush (v := (-4)) hx hb dX2_advance_19 (by decide) ?_
      obtain rfl := sor hf
      exact r_reti F h dX2_advance_21
noncomputable def f2_ruleAt_L6 (g0 : Int32) (g2 : ob) (g3 : ob) (z2 : Int32 × ob) : Option (Nat × (Int32 × ob)) :=
  (if g0 < z2.1 then (some (1, (z2.1, z2.2))) else ((f2_advance z2.2 g2 g3).bind fun q4 => lt (sI q4.2 5 q4.1) fun t5 => lt (z2.1 + 1) fun y6 => some (0, (y6, t5))))
noncomputable def f2_ruleAt (x0 : Int32) (o_this : ob) (o_p1 : ob) (o_p2 : ob) : Option (Int32 × ob) :=
  lt (o_this.1 6) fun y1 => (wh (f2_ruleAt_L6 x0 o_p1 o_p2) (y1, o_this)).bind fun q2 => some (q2.2.2.1 5, q2.2.2)
set_option maxRecDepth 100000 in
set_option maxHeartbeats 4000000 in
theorem c2_ruleAt (l : Launch) (D : va_G) (K : Nat → ClassId) (a0 : Nat → Nat) (a2 : Nat → Nat) (a3 : Nat → Nat) (x0 : Int32) (o_this : ob) (o_p1 : ob) (o_p2 : ob) (r : Int32 × ob) (hf : f2_ruleAt x0 o_this o_p1 o_p2 = some r) : CTi l yX2_ruleAt cX2_ruleAt 5 (some .int) 5 131 D K [.ref (a0 0), .int x0, .ref (a2 0), .ref (a3 0)] [wX2 K a0 o_this, wX4 K a2 o_p1, wX0 K a3 o_p2] [wX2 K a0 r.2, wX4 K a2 o_p1, wX0 K a3 o_p2] r.1 := by
  unfold f2_ruleAt at hf
  have hf := tob hf
  refine entI (by decide) (Nat.le_of_ble_eq_true rfl) (fun P e s m args below meth c A ls F h hl hin => ?_)
  have hx := F.1
  have hb := F.2.1
  have hl : lv_has ls 5 [(0, .ref (a0 0)), (1, .int x0), (2, .ref (a2 0)), (3, .ref (a3 0))] := hl
  refine lv_aload_n hx hb dX2_ruleAt_0 rfl (lv_at hl 0 rfl) ?_
  refine r_get F h (i := 0) (k := 6) (.int (o_this.1 6)) inX2 rfl (by decide) w433 rfl rfl rfl dX2_ruleAt_1 ?_
  refine lv_topi (fun y1 e1 => ?_)
  have hf := ltb hf e1
  refine lv_istore (lv' := [(4, .int y1), (0, .ref (a0 0)), (1, .int x0), (2, .ref (a2 0)), (3, .ref (a3 0))]) hx hb dX2_ruleAt_4 hl (by decide) rfl (fun ls hl => ?_)
  obtain ⟨q2, hq2, hf⟩ := asb hf
  obtain ⟨nq2, hq2⟩ := wh_out hq2
  have Xq2_1 : ∀ (z2 : Int32 × ob) (H : Heap) (locs : List Loc) (ls : Array Slot), q2 = (1, z2) → WD D A s.heap H locs [wX2 K a0 z2.2, wX4 K a2 o_p1, wX0 K a3 o_p2] → lv_has ls 5 [(0, .ref (a0 0))] → W P l e (rmS 5 131) s m args below meth c H locs 0 0 (MQ below (QiS D A [wX2 K a0 r.2, wX4 K a2 o_p1, wX0 K a3 o_p2] r.1) args s 0 0 A) (F0 m 28 ls []) := by
    intro z2 H locs ls eq2 h hl
    obtain rfl : z2 = q2.2 := by rw [eq2]
    refine lv_aload_n hx hb dX2_ruleAt_28 rfl (lv_at hl 0 rfl) ?_
    refine r_get F h (i := 0) (k := 5) (.int (q2.2.2.1 5)) inX2 rfl (by decide) w442 rfl rfl rfl dX2_ruleAt_29 ?_
    obtain rfl := sor hf
    exact r_reti F h dX2_ruleAt_32
  have Lq2 : ∀ (n : Nat) (z2 : Int32 × ob) (H : Heap) (locs : List Loc) (ls : Array Slot), iter (f2_ruleAt_L6 x0 o_p1 o_p2) n z2 = some q2 → WD D A s.heap H locs [wX2 K a0 z2.2, wX4 K a2 o_p1, wX0 K a3 o_p2] → lv_has ls 5 [(0, .ref (a0 0)), (1, .int x0), (2, .ref (a2 0)), (3, .ref (a3 0)), (4, .int z2.1)] → W P l e (rmS 5 131) s m args below meth c H locs 0 0 (MQ below (QiS D A [wX2 K a0 r.2, wX4 K a2 o_p1, wX0 K a3 o_p2] r.1) args s 0 0 A) (F0 m 6 ls []) := by
    intro n
    induction n with
    | zero => intro z2 H locs ls hi; exact (iter_0 hi).elim
    | succ n ihq2 =>
      intro z2 H locs ls hi h hl
      obtain ⟨uq2, hf, huq2⟩ := iter_s hi
      unfold f2_ruleAt_L6 at hf
      have hf := tob hf
      refine lv_iload hx hb dX2_ruleAt_6 (lv_at hl 4 rfl) ?_
      refine lv_iload_n hx hb dX2_ruleAt_8 rfl (lv_at hl 1 rfl) ?_
      refine lv_icmp_gt (tgt := 28) hx hb dX2_ruleAt_9 (by decide) (fun c3 => ?_) (fun c3 => ?_)
      · have hf := ifp hf c3
        exact Xq2_1 _ _ _ _ (itr_x huq2 (sor hf)) h (lv_sub hl [0] rfl)
      · have hf := ifn hf c3
        refine lv_aload_n hx hb dX2_ruleAt_12 rfl (lv_at hl 0 rfl) ?_
        refine lv_aload_n hx hb dX2_ruleAt_13 rfl (lv_at hl 0 rfl) ?_
        refine lv_aload_n hx hb dX2_ruleAt_14 rfl (lv_at hl 2 rfl) ?_
        refine lv_aload_n hx hb dX2_ruleAt_15 rfl (lv_at hl 3 rfl) ?_
        obtain ⟨q4, h4, hf⟩ := asb hf
        refine r_callVi (As := [.ref (a2 0), .ref (a3 0)]) (rest := [.ref (a0 0)]) (C0 := [wX2 K a0 z2.2, wX4 K a2 o_p1, wX0 K a3 o_p2]) (C1 := [wX2 K a0 q4.2, wX4 K a2 o_p1, wX0 K a3 o_p2]) (Rr := []) (S' := [wX2 K a0 q4.2, wX4 K a2 o_p1, wX0 K a3 o_p2]) F h hl (c2_advance l D K a0 a2 a3 z2.2 o_p1 o_p2 q4 h4) [0, 1, 2] rfl rfl rfl rfl rfl (i := 0) rfl rfl w470 ⟨w471, w472, w473, w452⟩ hsc2_advance ⟨Nat.le_of_ble_eq_true rfl, Nat.le_of_ble_eq_true rfl⟩ ⟨Nat.le_refl 0, Nat.le_refl 0⟩ (Nat.le_of_ble_eq_true rfl) dX2_ruleAt_16 (fun H locs h => ?_)
        refine r_put (o1 := sI q4.2 5 q4.1) (w := fun t5 => wX2 K a0 t5) (S' := fun t5 => [wX2 K a0 t5, wX4 K a2 o_p1, wX0 K a3 o_p2]) F h (i := 0) (k := 5) inX2 tyX2_ok nmX2 rfl (by decide) w442 rfl rfl rfl rfl rfl (Nat.le_of_ble_eq_true rfl) rfl (fun _ => rfl) dX2_ruleAt_19 (fun t5 e5 H locs h => ?_)
        have hf := ltb hf e5
        obtain ⟨y6, e6⟩ : ∃ y : Int32, y = z2.1 + 1 := ⟨_, rfl⟩
        have hf := ltb hf e6
        refine lv_iinc (v := y6) (lv' := [(4, .int y6), (0, .ref (a0 0)), (1, .int x0), (2, .ref (a2 0)), (3, .ref (a3 0))]) hx hb dX2_ruleAt_22 hl (k := 4) rfl (by rw [e6]; rfl) (by decide) rfl (fun ls hl => ?_)
        refine lv_goto (tgt := 6) hx hb dX2_ruleAt_25 (by decide) ?_
        exact ihq2 _ _ _ _ (itr_c huq2 (sor hf)) h (lv_sub hl [1, 2, 3, 4, 0] rfl)
  exact Lq2 _ _ _ _ _ hq2 h (lv_sub hl [1, 2, 3, 4, 0] rfl)
