def f4_clear (o_this : ob) : Option (ob) :=
  lt (sI o_this 0 2) fun t1 => lt (sI t1 1 0) fun t2 => lt (sI t2 7 0) fun t3 => lt (sI t3 12 0) fun t4 => lt (sI t4 13 0) fun t5 => lt (sI t5 14 0) fun t6 => some t6
set_option maxRecDepth 100000 in
set_option maxHeartbeats 4000000 in
theorem c4_clear (l : Launch) (D : va_G) (K : Nat → ClassId) (a0 : Nat → Nat) (o_this : ob) (r : ob) (hf : f4_clear o_this = some r) : CTv l yX4_clear cX4_clear 1 0 0 D K [.ref (a0 0)] [wX4 K a0 o_this] [wX4 K a0 r] := by
  unfold f4_clear at hf
  have hf := tob hf
  refine entV (by decide) (Nat.le_of_ble_eq_true rfl) (fun P e s m args below meth c A ls F h hl hin => ?_)
  have hx := F.1
  have hb := F.2.1
  have hl : lv_has ls 1 [(0, .ref (a0 0))] := hl
  refine lv_aload_n hx hb dX4_clear_0 rfl (lv_at hl 0 rfl) ?_
  refine lv_iconst (v := 2) hx hb dX4_clear_1 (by decide) ?_
  refine r_put (o1 := sI o_this 0 2) (w := fun t1 => wX4 K a0 t1) (S' := fun t1 => [wX4 K a0 t1]) F h (i := 0) (k := 0) inX4 tyX4_ok nmX4 rfl (by decide) w245 rfl rfl rfl rfl rfl (Nat.le_of_ble_eq_true rfl) rfl (fun _ => rfl) dX4_clear_2 (fun t1 e1 H locs h => ?_)
  have hf := ltb hf e1
  refine lv_aload_n hx hb dX4_clear_5 rfl (lv_at hl 0 rfl) ?_
  refine lv_iconst (v := 0) hx hb dX4_clear_6 (by decide) ?_
  refine r_put (o1 := sI t1 1 0) (w := fun t2 => wX4 K a0 t2) (S' := fun t2 => [wX4 K a0 t2]) F h (i := 0) (k := 1) inX4 tyX4_ok nmX4 rfl (by decide) w246 rfl rfl rfl rfl rfl (Nat.le_of_ble_eq_true rfl) rfl (fun _ => rfl) dX4_clear_7 (fun t2 e2 H locs h => ?_)
  have hf := ltb hf e2
  refine lv_aload_n hx hb dX4_clear_10 rfl (lv_at hl 0 rfl) ?_
  refine lv_iconst (v := 0) hx hb dX4_clear_11 (by decide) ?_
  refine r_put (o1 := sI t2 7 0) (w := fun t3 => wX4 K a0 t3) (S' := fun t3 => [wX4 K a0 t3]) F h (i := 0) (k := 7) inX4 tyX4_ok nmX4 rfl (by decide) w247 rfl rfl rfl rfl rfl (Nat.le_of_ble_eq_true rfl) rfl (fun _ => rfl) dX4_clear_12 (fun t3 e3 H locs h => ?_)
  have hf := ltb hf e3
  refine lv_aload_n hx hb dX4_clear_15 rfl (lv_at hl 0 rfl) ?_
  refine lv_iconst (v := 0) hx hb dX4_clear_16 (by decide) ?_
  refine r_put (o1 := sI t3 12 0) (w := fun t4 => wX4 K a0 t4) (S' := fun t4 => [wX4 K a0 t4]) F h (i := 0) (k := 12) inX4 tyX4_ok nmX4 rfl (by decide) w248 rfl rfl rfl rfl rfl (Nat.le_of_ble_eq_true rfl) rfl (fun _ => rfl) dX4_clear_17 (fun t4 e4 H locs h => ?_)
  have hf := ltb hf e4
  refine lv_aload_n hx hb dX4_clear_20 rfl (lv_at hl 0 rfl) ?_
  refine lv_iconst (v := 0) hx hb dX4_clear_21 (by decide) ?_
  refine r_put (o1 := sI t4 13 0) (w := fun t5 => wX4 K a0 t5) (S' := fun t5 => [wX4 K a0 t5]) F h (i := 0) (k := 13) inX4 tyX4_ok nmX4 rfl (by decide) w249 rfl rfl rfl rfl rfl (Nat.le_of_ble_eq_true rfl) rfl (fun _ => rfl) dX4_clear_22 (fun t5 e5 H locs h => ?_)
  have hf := ltb hf e5
  refine lv_aload_n hx hb dX4_clear_25 rfl (lv_at hl 0 rfl) ?_
  refine lv_iconst (v := 0) hx hb dX4_clear_26 (by decide) ?_
  refine r_put (o1 := sI t5 14 0) (w := fun t6 => wX4 K a0 t6) (S' := fun t6 => [wX4 K a0 t6]) F h (i := 0) (k := 14) inX4 tyX4_ok nmX4 rfl (by decide) w250 rfl rfl rfl rfl rfl (Nat.le_of_ble_eq_true rfl) rfl (fun _ => rfl) dX4_clear_27 (fun t6 e6 H locs h => ?_)
  have hf := ltb hf e6
  obtain rfl := sor hf
  exact r_retv F h dX4_clear_30
def f4_copyFrom_L101 (g1 : ob) (z14 : Int32 × ob) : Option (Nat × (Int32 × ob)) :=
  (if 4 ≤ z14.1 then (some (1, (z14.1, z14.2))) else (gd (vin z14.1 4) <| gd (vin z14.1 4) <| lt (sA z14.2 8 z14.1.toNatClampNeg (g1.2 8 z14.1.toNatClampNeg)) fun t25 => gd (vin z14.1 4) <| gd (vin z14.1 4) <| lt (sA t25 9 z14.1.toNatClampNeg (g1.2 9 z14.1.toNatClampNeg)) fun t28 => gd (vin z14.1 4) <| gd (vin z14.1 4) <| gd (bz (g1.2 10 z14.1.toNatClampNeg)) <| lt (sA t28 10 z14.1.toNatClampNeg (g1.2 10 z14.1.toNatClampNeg)) fun t32 => lt (z14.1 + 1) fun y33 => some (0, (y33, t32))))
noncomputable def f4_copyFrom (o_this : ob) (o_p0 : ob) : Option (ob) :=
  lt (sI o_this 0 (o_p0.1 0)) fun t1 => lt (sI t1 1 (o_p0.1 1)) fun t2 => gd (cpk 0 0 10 10 10) <| lt (sR t2 2 (va_cpy (o_p0.2 2) (t2.2 2) (0 : Int32).toNatClampNeg (0 : Int32).toNatClampNeg (10 : Int32).toNatClampNeg)) fun t4 => gd (cpk 0 0 10 10 10) <| lt (sR t4 3 (va_cpy (o_p0.2 3) (t4.2 3) (0 : Int32).toNatClampNeg (0 : Int32).toNatClampNeg (10 : Int32).toNatClampNeg)) fun t6 => gd (cpk 0 0 10 10 10) <| lt (sR t6 4 (va_cpy (o_p0.2 4) (t6.2 4) (0 : Int32).toNatClampNeg (0 : Int32).toNatClampNeg (10 : Int32).toNatClampNeg)) fun t8 => gd (cpk 0 0 10 10 10) <| lt (sR t8 5 (va_cpy (o_p0.2 5) (t8.2 5) (0 : Int32).toNatClampNeg (0 : Int32).toNatClampNeg (10 : Int32).toNatClampNeg)) fun t10 => gd (cpk 0 0 10 10 10) <| lt (sR t10 6 (va_cpy (o_p0.2 6) (t10.2 6) (0 : Int32).toNatClampNeg (0 : Int32).toNatClampNeg (10 : Int32).toNatClampNeg)) fun t12 => lt (sI t12 7 (o_p0.1 7)) fun t13 => (wh (f4_copyFrom_L101 o_p0) (0, t13)).bind fun q14 => gd (cpk 0 0 12 12 12) <| lt (sR q14.2.2 11 (va_cpy (o_p0.2 11) (q14.2.2.2 11) (0 : Int32).toNatClampNeg (0 : Int32).toNatClampNeg (12 : Int32).toNatClampNeg)) fun t16 => lt (sI t16 12 (o_p0.1 12)) fun t17 => lt (sI t17 13 (o_p0.1 13)) fun t18 => lt (sI t18 14 (o_p0.1 14)) fun t19 => gd (cpk 0 0 12 12 12) <| lt (sR t19 15 (va_cpy (o_p0.2 15) (t19.2 15) (0 : Int32).toNatClampNeg (0 : Int32).toNatClampNeg (12 : Int32).toNatClampNeg)) fun t21 => some t21
set_option maxRecDepth 100000 in
set_option maxHeartbeats 4000000 in
theorem c4_copyFrom (l : Launch) (D : va_G) (K : Nat → ClassId) (a0 : Nat → Nat) (a1 : Nat → Nat) (o_this : ob) (o_p0 : ob) (r : ob) (hf : f4_copyFrom o_this o_p0 = some r) : CTv l yX4_copyFrom cX4_copyFrom 3 1 40 D K [.ref (a0 0), .ref (a1 0)] [wX4 K a0 o_this, wX4 K a1 o_p0] [wX4 K a0 r, wX4 K a1 o_p0] := by
  unfold f4_copyFrom at hf
  have hf := tob hf
  refine entV (by decide) (Nat.le_of_ble_eq_true rfl) (fun P e s m args below meth c A ls F h hl hin => ?_)
  have hx := F.1
  have hb := F.2.1
  have hl : lv_has ls 3 [(0, .ref (a0 0)), (1, .ref (a1 0))] := hl
  refine lv_aload_n hx hb dX4_copyFrom_0 rfl (lv_at hl 0 rfl) ?_
  refine lv_aload_n hx hb dX4_copyFrom_1 rfl (lv_at hl 1 rfl) ?_
  refine r_get F h (i := 1) (k := 0) (.int (o_p0.1 0)) inX4 rfl (by decide) w245 rfl rfl rfl dX4_copyFrom_2 ?_
  refine r_put (o1 := sI o_this 0 (o_p0.1 0)) (w := fun t1 => wX4 K a0 t1) (S' := fun t1 => [wX4 K a0 t1, wX4 K a1 o_p0]) F h (i := 0) (k := 0) inX4 tyX4_ok nmX4 rfl (by decide) w245 rfl rfl rfl rfl rfl (Nat.le_of_ble_eq_true rfl) rfl (fun _ => rfl) dX4_copyFrom_5 (fun t1 e1 H locs h => ?_)
  have hf := ltb hf e1
  refine lv_aload_n hx hb dX4_copyFrom_8 rfl (lv_at hl 0 rfl) ?_
  refine lv_aload_n hx hb dX4_copyFrom_9 rfl (lv_at hl 1 rfl) ?_
  refine r_get F h (i := 1) (k := 1) (.int (o_p0.1 1)) inX4 rfl (by decide) w246 rfl rfl rfl dX4_copyFrom_10 ?_
  refine r_put (o1 := sI t1 1 (o_p0.1 1)) (w := fun t2 => wX4 K a0 t2) (S' := fun t2 => [wX4 K a0 t2, wX4 K a1 o_p0]) F h (i := 0) (k := 1) inX4 tyX4_ok nmX4 rfl (by decide) w246 rfl rfl rfl rfl rfl (Nat.le_of_ble_eq_true rfl) rfl (fun _ => rfl) dX4_copyFrom_13 (fun t2 e2 H locs h => ?_)
  have hf := ltb hf e2
  refine lv_aload_n hx hb dX4_copyFrom_16 rfl (lv_at hl 1 rfl) ?_
  refine r_get F h (i := 1) (k := 2) (.ref (a1 3)) inX4 rfl (by decide) w251 rfl rfl rfl dX4_copyFrom_17 ?_
  refine lv_iconst (v := 0) hx hb dX4_copyFrom_20 (by decide) ?_
  refine lv_aload_n hx hb dX4_copyFrom_21 rfl (lv_at hl 0 rfl) ?_
  refine r_get F h (i := 0) (k := 2) (.ref (a0 3)) inX4 rfl (by decide) w251 rfl rfl rfl dX4_copyFrom_22 ?_
  refine lv_iconst (v := 0) hx hb dX4_copyFrom_25 (by decide) ?_
  refine lv_bipush (v := 10) hx hb dX4_copyFrom_26 (by decide) ?_
  obtain ⟨g3, hf⟩ := gdb hf
  refine r_copy (o1 := sR t2 2 (va_cpy (o_p0.2 2) (t2.2 2) (0 : Int32).toNatClampNeg (0 : Int32).toNatClampNeg (10 : Int32).toNatClampNeg)) (w := fun t4 => wX4 K a0 t4) (S' := fun t4 => [wX4 K a0 t4, wX4 K a1 o_p0]) F h hl ⟨w252, w253, w254, w255⟩ (i0 := 1) (j0 := 1) (i := 0) (j := 1) rfl rfl rfl rfl g3 rfl (fun _ => rfl) ⟨Nat.le_of_ble_eq_true rfl, Nat.le_of_ble_eq_true rfl⟩ dX4_copyFrom_28 (fun t4 e4 H locs h => ?_)
  have hf := ltb hf e4
  refine lv_aload_n hx hb dX4_copyFrom_31 rfl (lv_at hl 1 rfl) ?_
  refine r_get F h (i := 1) (k := 3) (.ref (a1 4)) inX4 rfl (by decide) w256 rfl rfl rfl dX4_copyFrom_32 ?_
  refine lv_iconst (v := 0) hx hb dX4_copyFrom_35 (by decide) ?_
  refine lv_aload_n hx hb dX4_copyFrom_36 rfl (lv_at hl 0 rfl) ?_
  refine r_get F h (i := 0) (k := 3) (.ref (a0 4)) inX4 rfl (by decide) w256 rfl rfl rfl dX4_copyFrom_37 ?_
  refine lv_iconst (v := 0) hx hb dX4_copyFrom_40 (by decide) ?_
  refine lv_bipush (v := 10) hx hb dX4_copyFrom_41 (by decide) ?_
  obtain ⟨g5, hf⟩ := gdb hf
  refine r_copy (o1 := sR t4 3 (va_cpy (o_p0.2 3) (t4.2 3) (0 : Int32).toNatClampNeg (0 : Int32).toNatClampNeg (10 : Int32).toNatClampNeg)) (w := fun t6 => wX4 K a0 t6) (S' := fun t6 => [wX4 K a0 t6, wX4 K a1 o_p0]) F h hl ⟨w252, w253, w254, w255⟩ (i0 := 1) (j0 := 2) (i := 0) (j := 2) rfl rfl rfl rfl g5 rfl (fun _ => rfl) ⟨Nat.le_of_ble_eq_true rfl, Nat.le_of_ble_eq_true rfl⟩ dX4_copyFrom_43 (fun t6 e6 H locs h => ?_)
  have hf := ltb hf e6
  refine lv_aload_n hx hb dX4_copyFrom_46 rfl (lv_at hl 1 rfl) ?_
  refine r_get F h (i := 1) (k := 4) (.ref (a1 5)) inX4 rfl (by decide) w257 rfl rfl rfl dX4_copyFrom_47 ?_
  refine lv_iconst (v := 0) hx hb dX4_copyFrom_50 (by decide) ?_
  refine lv_aload_n hx hb dX4_copyFrom_51 rfl (lv_at hl 0 rfl) ?_
  refine r_get F h (i := 0) (k := 4) (.ref (a0 5)) inX4 rfl (by decide) w257 rfl rfl rfl dX4_copyFrom_52 ?_
  refine lv_iconst (v := 0) hx hb dX4_copyFrom_55 (by decide) ?_
  refine lv_bipush (v := 10) hx hb dX4_copyFrom_56 (by decide) ?_
  obtain ⟨g7, hf⟩ := gdb hf
  refine r_copy (o1 := sR t6 4 (va_cpy (o_p0.2 4) (t6.2 4) (0 : Int32).toNatClampNeg (0 : Int32).toNatClampNeg (10 : Int32).toNatClampNeg)) (w := fun t8 => wX4 K a0 t8) (S' := fun t8 => [wX4 K a0 t8, wX4 K a1 o_p0]) F h hl ⟨w252, w253, w254, w255⟩ (i0 := 1) (j0 := 3) (i := 0) (j := 3) rfl rfl rfl rfl g7 rfl (fun _ => rfl) ⟨Nat.le_of_ble_eq_true rfl, Nat.le_of_ble_eq_true rfl⟩ dX4_copyFrom_58 (fun t8 e8 H locs h => ?_)
  have hf := ltb hf e8
  refine lv_aload_n hx hb dX4_copyFrom_61 rfl (lv_at hl 1 rfl) ?_
  refine r_get F h (i := 1) (k := 5) (.ref (a1 6)) inX4 rfl (by decide) w258 rfl rfl rfl dX4_copyFrom_62 ?_
  refine lv_iconst (v := 0) hx hb dX4_copyFrom_65 (by decide) ?_
  refine lv_aload_n hx hb dX4_copyFrom_66 rfl (lv_at hl 0 rfl) ?_
  refine r_get F h (i := 0) (k := 5) (.ref (a0 6)) inX4 rfl (by decide) w258 rfl rfl rfl dX4_copyFrom_67 ?_
  refine lv_iconst (v := 0) hx hb dX4_copyFrom_70 (by decide) ?_
  refine lv_bipush (v := 10) hx hb dX4_copyFrom_71 (by decide) ?_
  obtain ⟨g9, hf⟩ := gdb hf
  refine r_copy (o1 := sR t8 5 (va_cpy (o_p0.2 5) (t8.2 5) (0 : Int32).toNatClampNeg (0 : Int32).toNatClampNeg (10 : Int32).toNatClampNeg)) (w := fun t10 => wX4 K a0 t10) (S' := fun t10 => [wX4 K a0 t10, wX4 K a1 o_p0]) F h hl ⟨w252, w253, w254, w255⟩ (i0 := 1) (j0 := 4) (i := 0) (j := 4) rfl rfl rfl rfl g9 rfl (fun _ => rfl) ⟨Nat.le_of_ble_eq_true rfl, Nat.le_of_ble_eq_true rfl⟩ dX4_copyFrom_73 (fun t10 e10 H locs h => ?_)
  have hf := ltb hf e10
  refine lv_aload_n hx hb dX4_copyFrom_76 rfl (lv_at hl 1 rfl) ?_
  refine r_get F h (i := 1) (k := 6) (.ref (a1 7)) inX4 rfl (by decide) w259 rfl rfl rfl dX4_copyFrom_77 ?_
  refine lv_iconst (v := 0) hx hb dX4_copyFrom_80 (by decide) ?_
  refine lv_aload_n hx hb dX4_copyFrom_81 rfl (lv_at hl 0 rfl) ?_
  refine r_get F h (i := 0) (k := 6) (.ref (a0 7)) inX4 rfl (by decide) w259 rfl rfl rfl dX4_copyFrom_82 ?_
  refine lv_iconst (v := 0) hx hb dX4_copyFrom_85 (by decide) ?_
  refine lv_bipush (v := 10) hx hb dX4_copyFrom_86 (by decide) ?_
  obtain ⟨g11, hf⟩ := gdb hf
  refine r_copy (o1 := sR t10 6 (va_cpy (o_p0.2 6) (t10.2 6) (0 : Int32).toNatClampNeg (0 : Int32).toNatClampNeg (10 : Int32).toNatClampNeg)) (w := fun t12 => wX4 K a0 t12) (S' := fun t12 => [wX4 K a0 t12, wX4 K a1 o_p0]) F h hl ⟨w252, w253, w254, w255⟩ (i0 := 1) (j0 := 5) (i := 0) (j := 5) rfl rfl rfl rfl g11 rfl (fun _ => rfl) ⟨Nat.le_of_ble_eq_true rfl, Nat.le_of_ble_eq_true rfl⟩ dX4_copyFrom_88 (fun t12 e12 H locs h => ?_)
  have hf := ltb hf e12
  refine lv_aload_n hx hb dX4_copyFrom_91 rfl (lv_at hl 0 rfl) ?_
  refine lv_aload_n hx hb dX4_copyFrom_92 rfl (lv_at hl 1 rfl) ?_
  refine r_get F h (i := 1) (k := 7) (.int (o_p0.1 7)) inX4 rfl (by decide) w247 rfl rfl rfl dX4_copyFrom_93 ?_
  refine r_put (o1 := sI t12 7 (o_p0.1 7)) (w := fun t13 => wX4 K a0 t13) (S' := fun t13 => [wX4 K a0 t13, wX4 K a1 o_p0]) F h (i := 0) (k := 7) inX4 tyX4_ok nmX4 rfl (by decide) w247 rfl rfl rfl rfl rfl (Nat.le_of_ble_eq_true rfl) rfl (fun _ => rfl) dX4_copyFrom_96 (fun t13 e13 H locs h => ?_)
  have hf := ltb hf e13
  refine lv_iconst (v := 0) hx hb dX4_copyFrom_99 (by decide) ?_
  refine lv_istore_n (lv' := [(2, .int 0), (0, .ref (a0 0)), (1, .ref (a1 0))]) hx hb dX4_copyFrom_100 rfl hl (by decide) rfl (fun ls hl => ?_)
  obtain ⟨q14, hq14, hf⟩ := asb hf
  obtain ⟨nq14, hq14⟩ := wh_out hq14
  have Xq14_1 : ∀ (z14 : Int32 × ob) (H : Heap) (locs : List Loc) (ls : Array Slot), q14 = (1, z14) → WD D A s.heap H locs [wX4 K a0 z14.2, wX4 K a1 o_p0] → lv_has ls 3 [(0, .ref (a0 0)), (1, .ref (a1 0))] → W P l e (rmS 1 40) s m args below meth c H locs 0 0 (MQ below (QvS D A [wX4 K a0 r, wX4 K a1 o_p0]) args s 0 0 A) (F0 m 148 ls []) := by
    intro z14 H locs ls eq14 h hl
    obtain rfl : z14 = q14.2 := by rw [eq14]
    refine lv_aload_n hx hb dX4_copyFrom_148 rfl (lv_at hl 1 rfl) ?_
    refine r_get F h (i := 1) (k := 11) (.ref (a1 12)) inX4 rfl (by decide) w260 rfl rfl rfl dX4_copyFrom_149 ?_
    refine lv_iconst (v := 0) hx hb dX4_copyFrom_152 (by decide) ?_
    refine lv_aload_n hx hb dX4_copyFrom_153 rfl (lv_at hl 0 rfl) ?_
    refine r_get F h (i := 0) (k := 11) (.ref (a0 12)) inX4 rfl (by decide) w260 rfl rfl rfl dX4_copyFrom_154 ?_
    refine lv_iconst (v := 0) hx hb dX4_copyFrom_157 (by decide) ?_
    refine lv_bipush (v := 12) hx hb dX4_copyFrom_158 (by decide) ?_
    obtain ⟨g15, hf⟩ := gdb hf
    refine r_copy (o1 := sR q14.2.2 11 (va_cpy (o_p0.2 11) (q14.2.2.2 11) (0 : Int32).toNatClampNeg (0 : Int32).toNatClampNeg (12 : Int32).toNatClampNeg)) (w := fun t16 => wX4 K a0 t16) (S' := fun t16 => [wX4 K a0 t16, wX4 K a1 o_p0]) F h hl ⟨w252, w253, w254, w255⟩ (i0 := 1) (j0 := 9) (i := 0) (j := 9) rfl rfl rfl rfl g15 rfl (fun _ => rfl) ⟨Nat.le_of_ble_eq_true rfl, Nat.le_of_ble_eq_true rfl⟩ dX4_copyFrom_160 (fun t16 e16 H locs h => ?_)
    have hf := ltb hf e16
    refine lv_aload_n hx hb dX4_copyFrom_163 rfl (lv_at hl 0 rfl) ?_
    refine lv_aload_n hx hb dX4_copyFrom_164 rfl (lv_at hl 1 rfl) ?_
    refine r_get F h (i := 1) (k := 12) (.int (o_p0.1 12)) inX4 rfl (by decide) w248 rfl rfl rfl dX4_copyFrom_165 ?_
    refine r_put (o1 := sI t16 12 (o_p0.1 12)) (w := fun t17 => wX4 K a0 t17) (S' := fun t17 => [wX4 K a0 t17, wX4 K a1 o_p0]) F h (i := 0) (k := 12) inX4 tyX4_ok nmX4 rfl (by decide) w248 rfl rfl rfl rfl rfl (Nat.le_of_ble_eq_true rfl) rfl (fun _ => rfl) dX4_copyFrom_168 (fun t17 e17 H locs h => ?_)
    have hf := ltb hf e17
    refine lv_aload_n hx hb dX4_copyFrom_171 rfl (lv_at hl 0 rfl) ?_
    refine lv_aload_n hx hb dX4_copyFrom_172 rfl (lv_at hl 1 rfl) ?_
    refine r_get F h (i := 1) (k := 13) (.int (o_p0.1 13)) inX4 rfl (by decide) w249 rfl rfl rfl dX4_copyFrom_173 ?_
    refine r_put (o1 := sI t17 13 (o_p0.1 13)) (w := fun t18 => wX4 K a0 t18) (S' := fun t18 => [wX4 K a0 t18, wX4 K a1 o_p0]) F h (i := 0) (k := 13) inX4 tyX4_ok nmX4 rfl (by decide) w249 rfl rfl rfl rfl rfl (Nat.le_of_ble_eq_true rfl) rfl (fun _ => rfl) dX4_copyFrom_176 (fun t18 e18 H locs h => ?_)
    have hf := ltb hf e18
    refine lv_aload_n hx hb dX4_copyFrom_179 rfl (lv_at hl 0 rfl) ?_
    refine lv_aload_n hx hb dX4_copyFrom_180 rfl (lv_at hl 1 rfl) ?_
    refine r_get F h (i := 1) (k := 14) (.int (o_p0.1 14)) inX4 rfl (by decide) w250 rfl rfl rfl dX4_copyFrom_181 ?_
    refine r_put (o1 := sI t18 14 (o_p0.1 14)) (w := fun t19 => wX4 K a0 t19) (S' := fun t19 => [wX4 K a0 t19, wX4 K a1 o_p0]) F h (i := 0) (k := 14) inX4 tyX4_ok nmX4 rfl (by decide) w250 rfl rfl rfl rfl rfl (Nat.le_of_ble_eq_true rfl) rfl (fun _ => rfl) dX4_copyFrom_184 (fun t19 e19 H locs h => ?_)
    have hf := ltb hf e19
    refine lv_aload_n hx hb dX4_copyFrom_187 rfl (lv_at hl 1 rfl) ?_
    refine r_get F h (i := 1) (k := 15) (.ref (a1 16)) inX4 rfl (by decide) w261 rfl rfl rfl dX4_copyFrom_188 ?_
    refine lv_iconst (v := 0) hx hb dX4_copyFrom_191 (by decide) ?_
    refine lv_aload_n hx hb dX4_copyFrom_192 rfl (lv_at hl 0 rfl) ?_
    refine r_get F h (i := 0) (k := 15) (.ref (a0 16)) inX4 rfl (by decide) w261 rfl rfl rfl dX4_copyFrom_193 ?_
    refine lv_iconst (v := 0) hx hb dX4_copyFrom_196 (by decide) ?_
    refine lv_bipush (v := 12) hx hb dX4_copyFrom_197 (by decide) ?_
    obtain ⟨g20, hf⟩ := gdb hf
    refine r_copy (o1 := sR t19 15 (va_cpy (o_p0.2 15) (t19.2 15) (0 : Int32).toNatClampNeg (0 : Int32).toNatClampNeg (12 : Int32).toNatClampNeg)) (w := fun t21 => wX4 K a0 t21) (S' := fun t21 => [wX4 K a0 t21, wX4 K a1 o_p0]) F h hl ⟨w252, w253, w254, w255⟩ (i0 := 1) (j0 := 10) (i := 0) (j := 10) rfl rfl rfl rfl g20 rfl (fun _ => rfl) ⟨Nat.le_of_ble_eq_true rfl, Nat.le_of_ble_eq_true rfl⟩ dX4_copyFrom_199 (fun t21 e21 H locs h => ?_)
    have hf := ltb hf e21
    obtain rfl := sor hf
    exact r_retv F h dX4_copyFrom_202
  have Lq14 : ∀ (n : Nat) (z14 : Int32 × ob) (H : Heap) (locs : List Loc) (ls : Array Slot), iter (f4_copyFrom_L101 o_p0) n z14 = some q14 → WD D A s.heap H locs [wX4 K a0 z14.2, wX4 K a1 o_p0] → lv_has ls 3 [(0, .ref (a0 0)), (1, .ref (a1 0)), (2, .int z14.1)] → W P l e (rmS 1 40) s m args below meth c H locs 0 0 (MQ below (QvS D A [wX4 K a0 r, wX4 K a1 o_p0]) args s 0 0 A) (F0 m 101 ls []) := by
    intro n
    induction n with
    | zero => intro z14 H locs ls hi; exact (iter_0 hi).elim
    | succ n ihq14 =>
      intro z14 H locs ls hi h hl
      obtain ⟨uq14, hf, huq14⟩ := iter_s hi
      unfold f4_copyFrom_L101 at hf
      have hf := tob hf
      refine lv_iload_n hx hb dX4_copyFrom_101 rfl (lv_at hl 2 rfl) ?_
      refine lv_iconst (v := 4) hx hb dX4_copyFrom_102 (by decide) ?_
      refine lv_icmp_ge (tgt := 148) hx hb dX4_copyFrom_103 (by decide) (fun c22 => ?_) (fun c22 => ?_)
      · have hf := ifp hf c22
        exact Xq14_1 _ _ _ _ (itr_x huq14 (sor hf)) h (lv_sub hl [0, 1] rfl)
      · have hf := ifn hf c22
        refine lv_aload_n hx hb dX4_copyFrom_106 rfl (lv_at hl 0 rfl) ?_
        refine r_get F h (i := 0) (k := 8) (.ref (a0 9)) inX4 rfl (by decide) w262 rfl rfl rfl dX4_copyFrom_107 ?_
        refine lv_iload_n hx hb dX4_copyFrom_110 rfl (lv_at hl 2 rfl) ?_
        refine lv_aload_n hx hb dX4_copyFrom_111 rfl (lv_at hl 1 rfl) ?_
        refine r_get F h (i := 1) (k := 8) (.ref (a1 9)) inX4 rfl (by decide) w262 rfl rfl rfl dX4_copyFrom_112 ?_
        refine lv_iload_n hx hb dX4_copyFrom_115 rfl (lv_at hl 2 rfl) ?_
        obtain ⟨g23, hf⟩ := gdb hf
        refine r_iald F h (i := 1) (j := 6) rfl rfl (vin_ok g23) dX4_copyFrom_116 ?_
        obtain ⟨g24, hf⟩ := gdb hf
        refine r_iast (o1 := sA z14.2 8 z14.1.toNatClampNeg (o_p0.2 8 z14.1.toNatClampNeg)) (w := fun t25 => wX4 K a0 t25) (S' := fun t25 => [wX4 K a0 t25, wX4 K a1 o_p0]) F h (i := 0) (j := 6) rfl rfl (vin_ok g24) rfl (fun _ => rfl) dX4_copyFrom_117 (fun t25 e25 H locs h => ?_)
        have hf := ltb hf e25
        refine lv_aload_n hx hb dX4_copyFrom_118 rfl (lv_at hl 0 rfl) ?_
        refine r_get F h (i := 0) (k := 9) (.ref (a0 10)) inX4 rfl (by decide) w263 rfl rfl rfl dX4_copyFrom_119 ?_
        refine lv_iload_n hx hb dX4_copyFrom_122 rfl (lv_at hl 2 rfl) ?_
        refine lv_aload_n hx hb dX4_copyFrom_123 rfl (lv_at hl 1 rfl) ?_
        refine r_get F h (i := 1) (k := 9) (.ref (a1 10)) inX4 rfl (by decide) w263 rfl rfl rfl dX4_copyFrom_124 ?_
        refine lv_iload_n hx hb dX4_copyFrom_127 rfl (lv_at hl 2 rfl) ?_
        obtain ⟨g26, hf⟩ := gdb hf
        refine r_iald F h (i := 1) (j := 7) rfl rfl (vin_ok g26) dX4_copyFrom_128 ?_
        obtain ⟨g27, hf⟩ := gdb hf
        refine r_iast (o1 := sA t25 9 z14.1.toNatClampNeg (o_p0.2 9 z14.1.toNatClampNeg)) (w := fun t28 => wX4 K a0 t28) (S' := fun t28 => [wX4 K a0 t28, wX4 K a1 o_p0]) F h (i := 0) (j := 7) rfl rfl (vin_ok g27) rfl (fun _ => rfl) dX4_copyFrom_129 (fun t28 e28 H locs h => ?_)
        have hf := ltb hf e28
        refine lv_aload_n hx hb dX4_copyFrom_130 rfl (lv_at hl 0 rfl) ?_
        refine r_get F h (i := 0) (k := 10) (.ref (a0 11)) inX4 rfl (by decide) w264 rfl rfl rfl dX4_copyFrom_131 ?_
        refine lv_iload_n hx hb dX4_copyFrom_134 rfl (lv_at hl 2 rfl) ?_
        refine lv_aload_n hx hb dX4_copyFrom_135 rfl (lv_at hl 1 rfl) ?_
        refine r_get F h (i := 1) (k := 10) (.ref (a1 11)) inX4 rfl (by decide) w264 rfl rfl rfl dX4_copyFrom_136 ?_
        refine lv_iload_n hx hb dX4_copyFrom_139 rfl (lv_at hl 2 rfl) ?_
        obtain ⟨g29, hf⟩ := gdb hf
        refine r_zald F h (i := 1) (j := 8) rfl rfl (vin_ok g29) dX4_copyFrom_140 ?_
        obtain ⟨g30, hf⟩ := gdb hf
        obtain ⟨g31, hf⟩ := gdb hf
        refine r_zast (o1 := sA t28 10 z14.1.toNatClampNeg (o_p0.2 10 z14.1.toNatClampNeg)) (w := fun t32 => wX4 K a0 t32) (S' := fun t32 => [wX4 K a0 t32, wX4 K a1 o_p0]) F h (i := 0) (j := 8) rfl rfl (vin_ok g30) g31 rfl (fun _ => rfl) dX4_copyFrom_141 (fun t32 e32 H locs h => ?_)
        have hf := ltb hf e32
        obtain ⟨y33, e33⟩ : ∃ y : Int32, y = z14.1 + 1 := ⟨_, rfl⟩
        have hf := ltb hf e33
        refine lv_iinc (v := y33) (lv' := [(2, .int y33), (0, .ref (a0 0)), (1, .ref (a1 0))]) hx hb dX4_copyFrom_142 hl (k := 2) rfl (by rw [e33]; rfl) (by decide) rfl (fun ls hl => ?_)
        refine lv_goto (tgt := 101) hx hb dX4_copyFrom_145 (by decide) ?_
        exact ihq14 _ _ _ _ (itr_c huq14 (sor hf)) h (lv_sub hl [1, 2, 0] rfl)
  exact Lq14 _ _ _ _ _ hq14 h (lv_sub hl [1, 2, 0] rfl)
def f4_addRule (x0 : Int32) (x1 : Int32) (x2 : Int32) (x3 : Int32) (x4 : Int32) (o_this : ob) : Option (Int32 × ob) :=
  (if (o_this.1 1) < 10 then (gd (vin (o_this.1 1) 10) <| lt (sA o_this 2 (o_this.1 1).toNatClampNeg x0) fun t3 => gd (vin (t3.1 1) 10) <| lt (sA t3 3 (t3.1 1).toNatClampNeg x1) fun t5 => gd (vin (t5.1 1) 10) <| lt (sA t5 4 (t5.1 1).toNatClampNeg x2) fun t7 => gd (vin (t7.1 1) 10) <| lt (sA t7 5 (t7.1 1).toNatClampNeg x3) fun t9 => gd (vin (t9.1 1) 10) <| lt (sA t9 6 (t9.1 1).toNatClampNeg x4) fun t11 => lt (sI t11 1 ((t11.1 1) + 1)) fun t12 => some (1, t12)) else (some (0, o_this)))
set_option maxRecDepth 100000 in
set_option maxHeartbeats 4000000 in
theorem c4_addRule (l : Launch) (D : va_G) (K : Nat → ClassId) (a0 : Nat → Nat) (x0 : Int32) (x1 : Int32) (x2 : Int32) (x3 : Int32) (x4 : Int32) (o_this : ob) (r : Int32 × ob) (hf : f4_addRule x0 x1 x2 x3 x4 o_this = some r) : CTi l yX4_addRule cX4_addRule 6 (some .boolean) 0 0 D K [.ref (a0 0), .int x0, .int x1, .int x2, .int x3, .int x4] [wX4 K a0 o_this] [wX4 K a0 r.2] r.1 := by
  unfold f4_addRule at hf
  have hf := tob hf
  refine entI (by decide) (Nat.le_of_ble_eq_true rfl) (fun P e s m args below meth c A ls F h hl hin => ?_)
  have hx := F.1
  have hb := F.2.1
  have hl : lv_has ls 6 [(0, .ref (a0 0)), (1, .int x0), (2, .int x1), (3, .int x2), (4, .int x3), (5, .int x4)] := hl
  refine lv_aload_n hx hb dX4_addRule_0 rfl (lv_at hl 0 rfl) ?_
  refine r_get F h (i := 0) (k := 1) (.int (o_this.1 1)) inX4 rfl (by decide) w246 rfl rfl rfl dX4_addRule_1 ?_
  refine lv_bipush (v := 10) hx hb dX4_addRule_4 (by decide) ?_
  refine lv_icmp_lt (tgt := 11) hx hb dX4_addRule_6 (by decide) (fun c1 => ?_) (fun c1 => ?_)
  · have hf := ifp hf c1
    refine lv_aload_n hx hb dX4_addRule_11 rfl (lv_at hl 0 rfl) ?_
    refine r_get F h (i := 0) (k := 2) (.ref (a0 3)) inX4 rfl (by decide) w251 rfl rfl rfl dX4_addRule_12 ?_
    refine lv_aload_n hx hb dX4_addRule_15 rfl (lv_at hl 0 rfl) ?_
    refine r_get F h (i := 0) (k := 1) (.int (o_this.1 1)) inX4 rfl (by decide) w246 rfl rfl rfl dX4_addRule_16 ?_
    refine lv_iload_n hx hb dX4_addRule_19 rfl (lv_at hl 1 rfl) ?_
    obtain ⟨g2, hf⟩ := gdb hf
    refine r_iast (o1 := sA o_this 2 (o_this.1 1).toNatClampNeg x0) (w := fun t3 => wX4 K a0 t3) (S' := fun t3 => [wX4 K a0 t3]) F h (i := 0) (j := 1) rfl rfl (vin_ok g2) rfl (fun _ => rfl) dX4_addRule_20 (fun t3 e3 H locs h => ?_)
    have hf := ltb hf e3
    refine lv_aload_n hx hb dX4_addRule_21 rfl (lv_at hl 0 rfl) ?_
    refine r_get F h (i := 0) (k := 3) (.ref (a0 4)) inX4 rfl (by decide) w256 rfl rfl rfl dX4_addRule_22 ?_
    refine lv_aload_n hx hb dX4_addRule_25 rfl (lv_at hl 0 rfl) ?_
    refine r_get F h (i := 0) (k := 1) (.int (t3.1 1)) inX4 rfl (by decide) w246 rfl rfl rfl dX4_addRule_26 ?_
    refine lv_iload_n hx hb dX4_addRule_29 rfl (lv_at hl 2 rfl) ?_
    obtain ⟨g4, hf⟩ := gdb hf
    refine r_iast (o1 := sA t3 3 (t3.1 1).toNatClampNeg x1) (w := fun t5 => wX4 K a0 t5) (S' := fun t5 => [wX4 K a0 t5]) F h (i := 0) (j := 2) rfl rfl (vin_ok g4) rfl (fun _ => rfl) dX4_addRule_30 (fun t5 e5 H locs h => ?_)
    have hf := ltb hf e5
    refine lv_aload_n hx hb dX4_addRule_31 rfl (lv_at hl 0 rfl) ?_
    refine r_get F h (i := 0) (k := 4) (.ref (a0 5)) inX4 rfl (by decide) w257 rfl rfl rfl dX4_addRule_32 ?_
    refine lv_aload_n hx hb dX4_addRule_35 rfl (lv_at hl 0 rfl) ?_
    refine r_get F h (i := 0) (k := 1) (.int (t5.1 1)) inX4 rfl (by decide) w246 rfl rfl rfl dX4_addRule_36 ?_
    refine lv_iload_n hx hb dX4_addRule_39 rfl (lv_at hl 3 rfl) ?_
    obtain ⟨g6, hf⟩ := gdb hf
    refine r_iast (o1 := sA t5 4 (t5.1 1).toNatClampNeg x2) (w := fun t7 => wX4 K a0 t7) (S' := fun t7 => [wX4 K a0 t7]) F h (i := 0) (j := 3) rfl rfl (vin_ok g6) rfl (fun _ => rfl) dX4_addRule_40 (fun t7 e7 H locs h => ?_)
    have hf := ltb hf e7
    refine lv_aload_n hx hb dX4_addRule_41 rfl (lv_at hl 0 rfl) ?_
    refine r_get F h (i := 0) (k := 5) (.ref (a0 6)) inX4 rfl (by decide) w258 rfl rfl rfl dX4_addRule_42 ?_
    refine lv_aload_n hx hb dX4_addRule_45 rfl (lv_at hl 0 rfl) ?_
    refine r_get F h (i := 0) (k := 1) (.int (t7.1 1)) inX4 rfl (by decide) w246 rfl rfl rfl dX4_addRule_46 ?_
    refine lv_iload hx hb dX4_addRule_49 (lv_at hl 4 rfl) ?_
    obtain ⟨g8, hf⟩ := gdb hf
    refine r_iast (o1 := sA t7 5 (t7.1 1).toNatClampNeg x3) (w := fun t9 => wX4 K a0 t9) (S' := fun t9 => [wX4 K a0 t9]) F h (i := 0) (j := 4) rfl rfl (vin_ok g8) rfl (fun _ => rfl) dX4_addRule_51 (fun t9 e9 H locs h => ?_)
    have hf := ltb hf e9
    refine lv_aload_n hx hb dX4_addRule_52 rfl (lv_at hl 0 rfl) ?_
    refine r_get F h (i := 0) (k := 6) (.ref (a0 7)) inX4 rfl (by decide) w259 rfl rfl rfl dX4_addRule_53 ?_
    refine lv_aload_n hx hb dX4_addRule_56 rfl (lv_at hl 0 rfl) ?_
    refine r_get F h (i := 0) (k := 1) (.int (t9.1 1)) inX4 rfl (by decide) w246 rfl rfl rfl dX4_addRule_57 ?_
    refine lv_iload hx hb dX4_addRule_60 (lv_at hl 5 rfl) ?_
    obtain ⟨g10, hf⟩ := gdb hf
    refine r_iast (o1 := sA t9 6 (t9.1 1).toNatClampNeg x4) (w := fun t11 => wX4 K a0 t11) (S' := fun t11 => [wX4 K a0 t11]) F h (i := 0) (j := 5) rfl rfl (vin_ok g10) rfl (fun _ => rfl) dX4_addRule_62 (fun t11 e11 H locs h => ?_)
    have hf := ltb hf e11
    refine lv_aload_n hx hb dX4_addRule_63 rfl (lv_at hl 0 rfl) ?_
    refine lv_dup hx hb dX4_addRule_64 rfl ?_
    refine r_get F h (i := 0) (k := 1) (.int (t11.1 1)) inX4 rfl (by decide) w246 rfl rfl rfl dX4_addRule_65 ?_
    refine lv_iconst (v := 1) hx hb dX4_addRule_68 (by decide) ?_
    refine lv_iadd hx hb dX4_addRule_69 ?_
    refine r_put (o1 := sI t11 1 ((t11.1 1) + 1)) (w := fun t12 => wX4 K a0 t12) (S' := fun t12 => [wX4 K a0 t12]) F h (i := 0) (k := 1) inX4 tyX4_ok nmX4 rfl (by decide) w246 rfl rfl rfl rfl rfl (Nat.le_of_ble_eq_true rfl) rfl (fun _ => rfl) dX4_addRule_70 (fun t12 e12 H locs h => ?_)
    have hf := ltb hf e12
    refine lv_iconst (v := 1) hx hb dX4_addRule_73 (by decide) ?_
    obtain rfl := sor hf
    exact r_retz F h rfl dX4_addRule_74
  · have hf := ifn hf c1
    refine lv_iconst (v := 0) hx hb dX4_addRule_9 (by decide) ?_
    obtain rfl := sor hf
    exact r_retz F h rfl dX4_addRule_10
def f4_removeRule_L2 (z1 : Int32 × ob) : Option (Nat × (Int32 × ob)) :=
  (if (z1.2.1 1) ≤ (z1.1 + 1) then (some (1, (z1.1, z1.2))) else (gd (vin (z1.1 + 1) 10) <| gd (vin z1.1 10) <| lt (sA z1.2 2 z1.1.toNatClampNeg (z1.2.2 2 (z1.1 + 1).toNatClampNeg)) fun t6 => gd (vin (z1.1 + 1) 10) <| gd (vin z1.1 10) <| lt (sA t6 3 z1.1.toNatClampNeg (t6.2 3 (z1.1 + 1).toNatClampNeg)) fun t9 => gd (vin (z1.1 + 1) 10) <| gd (vin z1.1 10) <| lt (sA t9 4 z1.1.toNatClampNeg (t9.2 4 (z1.1 + 1).toNatClampNeg)) fun t12 => gd (vin (z1.1 + 1) 10) <| gd (vin z1.1 10) <| lt (sA t12 5 z1.1.toNatClampNeg (t12.2 5 (z1.1 + 1).toNatClampNeg)) fun t15 => gd (vin (z1.1 + 1) 10) <| gd (vin z1.1 10) <| lt (sA t15 6 z1.1.toNatClampNeg (t15.2 6 (z1.1 + 1).toNatClampNeg)) fun t18 => lt (z1.1 + 1) fun y19 => some (0, (y19, t18))))
noncomputable def f4_removeRule (x0 : Int32) (o_this : ob) : Option (ob) :=
  (wh f4_removeRule_L2 (x0, o_this)).bind fun q1 => lt (sI q1.2.2 1 ((q1.2.2.1 1) - 1)) fun t2 => some t2
set_option maxRecDepth 100000 in
set_option maxHeartbeats 4000000 in
theorem c4_removeRule (l : Launch) (D : va_G) (K : Nat → ClassId) (a0 : Nat → Nat) (x0 : Int32) (o_this : ob) (r : ob) (hf : f4_removeRule x0 o_this = some r) : CTv l yX4_removeRule cX4_removeRule 3 0 0 D K [.ref (a0 0), .int x0] [wX4 K a0 o_this] [wX4 K a0 r] := by
  unfold f4_removeRule at hf
  have hf := tob hf
  refine entV (by decide) (Nat.le_of_ble_eq_true rfl) (fun P e s m args below meth c A ls F h hl hin => ?_)
  have hx := F.1
  have hb := F.2.1
  have hl : lv_has ls 3 [(0, .ref (a0 0)), (1, .int x0)] := hl
  refine lv_iload_n hx hb dX4_removeRule_0 rfl (lv_at hl 1 rfl) ?_
  refine lv_istore_n (lv' := [(2, .int x0), (0, .ref (a0 0)), (1, .int x0)]) hx hb dX4_removeRule_1 rfl hl (by decide) rfl (fun ls hl => ?_)
  obtain ⟨q1, hq1, hf⟩ := asb hf
  obtain ⟨nq1, hq1⟩ := wh_out hq1
  have Xq1_1 : ∀ (z1 : Int32 × ob) (H : Heap) (locs : List Loc) (ls : Array Slot), q1 = (1, z1) → WD D A s.heap H locs [wX4 K a0 z1.2] → lv_has ls 3 [(0, .ref (a0 0))] → W P l e (rmS 0 0) s m args below meth c H locs 0 0 (MQ below (QvS D A [wX4 K a0 r]) args s 0 0 A) (F0 m 88 ls []) := by
    intro z1 H locs ls eq1 h hl
    obtain rfl : z1 = q1.2 := by rw [eq1]
    refine lv_aload_n hx hb dX4_removeRule_88 rfl (lv_at hl 0 rfl) ?_
    refine lv_dup hx hb dX4_removeRule_89 rfl ?_
    refine r_get F h (i := 0) (k := 1) (.int (q1.2.2.1 1)) inX4 rfl (by decide) w246 rfl rfl rfl dX4_removeRule_90 ?_
    refine lv_iconst (v := 1) hx hb dX4_removeRule_93 (by decide) ?_
    refine lv_isub hx hb dX4_removeRule_94 ?_
    refine r_put (o1 := sI q1.2.2 1 ((q1.2.2.1 1) - 1)) (w := fun t2 => wX4 K a0 t2) (S' := fun t2 => [wX4 K a0 t2]) F h (i := 0) (k := 1) inX4 tyX4_ok nmX4 rfl (by decide) w246 rfl rfl rfl rfl rfl (Nat.le_of_ble_eq_true rfl) rfl (fun _ => rfl) dX4_removeRule_95 (fun t2 e2 H locs h => ?_)
    have hf := ltb hf e2
    obtain rfl := sor hf
    exact r_retv F h dX4_removeRule_98
  have Lq1 : ∀ (n : Nat) (z1 : Int32 × ob) (H : Heap) (locs : List Loc) (ls : Array Slot), iter f4_removeRule_L2 n z1 = some q1 → WD D A s.heap H locs [wX4 K a0 z1.2] → lv_has ls 3 [(0, .ref (a0 0)), (2, .int z1.1)] → W P l e (rmS 0 0) s m args below meth c H locs 0 0 (MQ below (QvS D A [wX4 K a0 r]) args s 0 0 A) (F0 m 2 ls []) := by
    intro n
    induction n with
    | zero => intro z1 H locs ls hi; exact (iter_0 hi).elim
    | succ n ihq1 =>
      intro z1 H locs ls hi h hl
      obtain ⟨uq1, hf, huq1⟩ := iter_s hi
      unfold f4_removeRule_L2 at hf
      have hf := tob hf
      refine lv_iload_n hx hb dX4_removeRule_2 rfl (lv_at hl 1 rfl) ?_
      refine lv_iconst (v := 1) hx hb dX4_removeRule_3 (by decide) ?_
      refine lv_iadd hx hb dX4_removeRule_4 ?_
      refine lv_aload_n hx hb dX4_removeRule_5 rfl (lv_at hl 0 rfl) ?_
      refine r_get F h (i := 0) (k := 1) (.int (z1.2.1 1)) inX4 rfl (by decide) w246 rfl rfl rfl dX4_removeRule_6 ?_
      refine lv_icmp_ge (tgt := 88) hx hb dX4_removeRule_9 (by decide) (fun c3 => ?_) (fun c3 => ?_)
      · have hf := ifp hf c3
        exact Xq1_1 _ _ _ _ (itr_x huq1 (sor hf)) h (lv_sub hl [0] rfl)
      · have hf := ifn hf c3
        refine lv_aload_n hx hb dX4_removeRule_12 rfl (lv_at hl 0 rfl) ?_
        refine r_get F h (i := 0) (k := 2) (.ref (a0 3)) inX4 rfl (by decide) w251 rfl rfl rfl dX4_removeRule_13 ?_
        refine lv_iload_n hx hb dX4_removeRule_16 rfl (lv_at hl 1 rfl) ?_
        refine lv_aload_n hx hb dX4_removeRule_17 rfl (lv_at hl 0 rfl) ?_
        refine r_get F h (i := 0) (k := 2) (.ref (a0 3)) inX4 rfl (by decide) w251 rfl rfl rfl dX4_removeRule_18 ?_
        refine lv_iload_n hx hb dX4_removeRule_21 rfl (lv_at hl 1 rfl) ?_
        refine lv_iconst (v := 1) hx hb dX4_removeRule_22 (by decide) ?_
        refine lv_iadd hx hb dX4_removeRule_23 ?_
        obtain ⟨g4, hf⟩ := gdb hf
        refine r_iald F h (i := 0) (j := 1) rfl rfl (vin_ok g4) dX4_removeRule_24 ?_
        obtain ⟨g5, hf⟩ := gdb hf
        refine r_iast (o1 := sA z1.2 2 z1.1.toNatClampNeg (z1.2.2 2 (z1.1 + 1).toNatClampNeg)) (w := fun t6 => wX4 K a0 t6) (S' := fun t6 => [wX4 K a0 t6]) F h (i := 0) (j := 1) rfl rfl (vin_ok g5) rfl (fun _ => rfl) dX4_removeRule_25 (fun t6 e6 H locs h => ?_)
        have hf := ltb hf e6
        refine lv_aload_n hx hb dX4_removeRule_26 rfl (lv_at hl 0 rfl) ?_
        refine r_get F h (i := 0) (k := 3) (.ref (a0 4)) inX4 rfl (by decide) w256 rfl rfl rfl dX4_removeRule_27 ?_
        refine lv_iload_n hx hb dX4_removeRule_30 rfl (lv_at hl 1 rfl) ?_
        refine lv_aload_n hx hb dX4_removeRule_31 rfl (lv_at hl 0 rfl) ?_
        refine r_get F h (i := 0) (k := 3) (.ref (a0 4)) inX4 rfl (by decide) w256 rfl rfl rfl dX4_removeRule_32 ?_
        refine lv_iload_n hx hb dX4_removeRule_35 rfl (lv_at hl 1 rfl) ?_
        refine lv_iconst (v := 1) hx hb dX4_removeRule_36 (by decide) ?_
        refine lv_iadd hx hb dX4_removeRule_37 ?_
        obtain ⟨g7, hf⟩ := gdb hf
        refine r_iald F h (i := 0) (j := 2) rfl rfl (vin_ok g7) dX4_removeRule_38 ?_
        obtain ⟨g8, hf⟩ := gdb hf
        refine r_iast (o1 := sA t6 3 z1.1.toNatClampNeg (t6.2 3 (z1.1 + 1).toNatClampNeg)) (w := fun t9 => wX4 K a0 t9) (S' := fun t9 => [wX4 K a0 t9]) F h (i := 0) (j := 2) rfl rfl (vin_ok g8) rfl (fun _ => rfl) dX4_removeRule_39 (fun t9 e9 H locs h => ?_)
        have hf := ltb hf e9
        refine lv_aload_n hx hb dX4_removeRule_40 rfl (lv_at hl 0 rfl) ?_
        refine r_get F h (i := 0) (k := 4) (.ref (a0 5)) inX4 rfl (by decide) w257 rfl rfl rfl dX4_removeRule_41 ?_
        refine lv_iload_n hx hb dX4_removeRule_44 rfl (lv_at hl 1 rfl) ?_
        refine lv_aload_n hx hb dX4_removeRule_45 rfl (lv_at hl 0 rfl) ?_
        refine r_get F h (i := 0) (k := 4) (.ref (a0 5)) inX4 rfl (by decide) w257 rfl rfl rfl dX4_removeRule_46 ?_
        refine lv_iload_n hx hb dX4_removeRule_49 rfl (lv_at hl 1 rfl) ?_
        refine lv_iconst (v := 1) hx hb dX4_removeRule_50 (by decide) ?_
        refine lv_iadd hx hb dX4_removeRule_51 ?_
        obtain ⟨g10, hf⟩ := gdb hf
        refine r_iald F h (i := 0) (j := 3) rfl rfl (vin_ok g10) dX4_removeRule_52 ?_
        obtain ⟨g11, hf⟩ := gdb hf
        refine r_iast (o1 := sA t9 4 z1.1.toNatClampNeg (t9.2 4 (z1.1 + 1).toNatClampNeg)) (w := fun t12 => wX4 K a0 t12) (S' := fun t12 => [wX4 K a0 t12]) F h (i := 0) (j := 3) rfl rfl (vin_ok g11) rfl (fun _ => rfl) dX4_removeRule_53 (fun t12 e12 H locs h => ?_)
        have hf := ltb hf e12
        refine lv_aload_n hx hb dX4_removeRule_54 rfl (lv_at hl 0 rfl) ?_
        refine r_get F h (i := 0) (k := 5) (.ref (a0 6)) inX4 rfl (by decide) w258 rfl rfl rfl dX4_removeRule_55 ?_
        refine lv_iload_n hx hb dX4_removeRule_58 rfl (lv_at hl 1 rfl) ?_
        refine lv_aload_n hx hb dX4_removeRule_59 rfl (lv_at hl 0 rfl) ?_
        refine r_get F h (i := 0) (k := 5) (.ref (a0 6)) inX4 rfl (by decide) w258 rfl rfl rfl dX4_removeRule_60 ?_
        refine lv_iload_n hx hb dX4_removeRule_63 rfl (lv_at hl 1 rfl) ?_
        refine lv_iconst (v := 1) hx hb dX4_removeRule_64 (by decide) ?_
        refine lv_iadd hx hb dX4_removeRule_65 ?_
        obtain ⟨g13, hf⟩ := gdb hf
        refine r_iald F h (i := 0) (j := 4) rfl rfl (vin_ok g13) dX4_removeRule_66 ?_
        obtain ⟨g14, hf⟩ := gdb hf
        refine r_iast (o1 := sA t12 5 z1.1.toNatClampNeg (t12.2 5 (z1.1 + 1).toNatClampNeg)) (w := fun t15 => wX4 K a0 t15) (S' := fun t15 => [wX4 K a0 t15]) F h (i := 0) (j := 4) rfl rfl (vin_ok g14) rfl (fun _ => rfl) dX4_removeRule_67 (fun t15 e15 H locs h => ?_)
        have hf := ltb hf e15
        refine lv_aload_n hx hb dX4_removeRule_68 rfl (lv_at hl 0 rfl) ?_
        refine r_get F h (i := 0) (k := 6) (.ref (a0 7)) inX4 rfl (by decide) w259 rfl rfl rfl dX4_removeRule_69 ?_
        refine lv_iload_n hx hb dX4_removeRule_72 rfl (lv_at hl 1 rfl) ?_
        refine lv_aload_n hx hb dX4_removeRule_73 rfl (lv_at hl 0 rfl) ?_
        refine r_get F h (i := 0) (k := 6) (.ref (a0 7)) inX4 rfl (by decide) w259 rfl rfl rfl dX4_removeRule_74 ?_
        refine lv_iload_n hx hb dX4_removeRule_77 rfl (lv_at hl 1 rfl) ?_
        refine lv_iconst (v := 1) hx hb dX4_removeRule_78 (by decide) ?_
        refine lv_iadd hx hb dX4_removeRule_79 ?_
        obtain ⟨g16, hf⟩ := gdb hf
        refine r_iald F h (i := 0) (j := 5) rfl rfl (vin_ok g16) dX4_removeRule_80 ?_
        obtain ⟨g17, hf⟩ := gdb hf
        refine r_iast (o1 := sA t15 6 z1.1.toNatClampNeg (t15.2 6 (z1.1 + 1).toNatClampNeg)) (w := fun t18 => wX4 K a0 t18) (S' := fun t18 => [wX4 K a0 t18]) F h (i := 0) (j := 5) rfl rfl (vin_ok g17) rfl (fun _ => rfl) dX4_removeRule_81 (fun t18 e18 H locs h => ?_)
        have hf := ltb hf e18
        obtain ⟨y19, e19⟩ : ∃ y : Int32, y = z1.1 + 1 := ⟨_, rfl⟩
        have hf := ltb hf e19
        refine lv_iinc (v := y19) (lv' := [(2, .int y19), (0, .ref (a0 0))]) hx hb dX4_removeRule_82 hl (k := 1) rfl (by rw [e19]; rfl) (by decide) rfl (fun ls hl => ?_)
        refine lv_goto (tgt := 2) hx hb dX4_removeRule_85 (by decide) ?_
        exact ihq1 _ _ _ _ (itr_c huq1 (sor hf)) h (lv_sub hl [1, 0] rfl)
  exact Lq1 _ _ _ _ _ hq1 h (lv_sub hl [1, 0] rfl)
def f4_addTarget_L49 (g1 : Int32) (g4 : ob) (z10 : Int32 × ob) : Option (Nat × (Int32 × ob)) :=
  (if g1 ≤ z10.1 then (some (1, (z10.1, z10.2))) else (gd (vin z10.1 6) <| gd (vin (((z10.2.1 7) * 3) + z10.1) 12) <| lt (sA z10.2 11 (((z10.2.1 7) * 3) + z10.1).toNatClampNeg (g4.2 3 z10.1.toNatClampNeg)) fun t15 => lt (z10.1 + 1) fun y16 => some (0, (y16, t15))))
noncomputable def f4_addTarget (x0 : Int32) (x2 : Int32) (x3 : Int32) (o_this : ob) (o_q1 : ob) : Option (Int32 × ob) :=
  (if 4 ≤ (o_this.1 7) then (some (0, o_this)) else ((if x2 ≤ 3 then (gd (vin (o_this.1 7) 4) <| lt (sA o_this 8 (o_this.1 7).toNatClampNeg x0) fun t4 => gd (vin (t4.1 7) 4) <| lt (sA t4 9 (t4.1 7).toNatClampNeg x2) fun t6 => gd (vin (t6.1 7) 4) <| gd (bz x3) <| lt (sA t6 10 (t6.1 7).toNatClampNeg x3) fun t9 => (wh (f4_addTarget_L49 x2 o_q1) (0, t9)).bind fun q10 => lt (sI q10.2.2 7 ((q10.2.2.1 7) + 1)) fun t11 => some (1, t11)) else (some (0, o_this)))))
set_option maxRecDepth 100000 in
set_option maxHeartbeats 4000000 in
theorem c4_addTarget (l : Launch) (D : va_G) (K : Nat → ClassId) (a0 : Nat → Nat) (a2 : Nat → Nat) (x0 : Int32) (x2 : Int32) (x3 : Int32) (o_this : ob) (o_q1 : ob) (r : Int32 × ob) (hf : f4_addTarget x0 x2 x3 o_this o_q1 = some r) : CTi l yX4_addTarget cX4_addTarget 6 (some .boolean) 0 0 D K [.ref (a0 0), .int x0, .ref (a2 4), .int x2, .int x3] [wX4 K a0 o_this, wX3 K a2 o_q1] [wX4 K a0 r.2, wX3 K a2 o_q1] r.1 := by
  unfold f4_addTarget at hf
  have hf := tob hf
  refine entI (by decide) (Nat.le_of_ble_eq_true rfl) (fun P e s m args below meth c A ls F h hl hin => ?_)
  have hx := F.1
  have hb := F.2.1
  have hl : lv_has ls 6 [(0, .ref (a0 0)), (1, .int x0), (2, .ref (a2 4)), (3, .int x2), (4, .int x3)] := hl
  refine lv_aload_n hx hb dX4_addTarget_0 rfl (lv_at hl 0 rfl) ?_
  refine r_get F h (i := 0) (k := 7) (.int (o_this.1 7)) inX4 rfl (by decide) w247 rfl rfl rfl dX4_addTarget_1 ?_
  refine lv_iconst (v := 4) hx hb dX4_addTarget_4 (by decide) ?_
  refine lv_icmp_ge (tgt := 13) hx hb dX4_addTarget_5 (by decide) (fun c1 => ?_) (fun c1 => ?_)
  · have hf := ifp hf c1
    refine lv_iconst (v := 0) hx hb dX4_addTarget_13 (by decide) ?_
    obtain rfl := sor hf
    exact r_retz F h rfl dX4_addTarget_14
  · have hf := ifn hf c1
    refine lv_iload_n hx hb dX4_addTarget_8 rfl (lv_at hl 3 rfl) ?_
    refine lv_iconst (v := 3) hx hb dX4_addTarget_9 (by decide) ?_
    refine lv_icmp_le (tgt := 15) hx hb dX4_addTarget_10 (by decide) (fun c2 => ?_) (fun c2 => ?_)
    · have hf := ifp hf c2
      refine lv_aload_n hx hb dX4_addTarget_15 rfl (lv_at hl 0 rfl) ?_
      refine r_get F h (i := 0) (k := 8) (.ref (a0 9)) inX4 rfl (by decide) w262 rfl rfl rfl dX4_addTarget_16 ?_
      refine lv_aload_n hx hb dX4_addTarget_19 rfl (lv_at hl 0 rfl) ?_
      refine r_get F h (i := 0) (k := 7) (.int (o_this.1 7)) inX4 rfl (by decide) w247 rfl rfl rfl dX4_addTarget_20 ?_
      refine lv_iload_n hx hb dX4_addTarget_23 rfl (lv_at hl 1 rfl) ?_
      obtain ⟨g3, hf⟩ := gdb hf
      refine r_iast (o1 := sA o_this 8 (o_this.1 7).toNatClampNeg x0) (w := fun t4 => wX4 K a0 t4) (S' := fun t4 => [wX4 K a0 t4, wX3 K a2 o_q1]) F h (i := 0) (j := 6) rfl rfl (vin_ok g3) rfl (fun _ => rfl) dX4_addTarget_24 (fun t4 e4 H locs h => ?_)
      have hf := ltb hf e4
      refine lv_aload_n hx hb dX4_addTarget_25 rfl (lv_at hl 0 rfl) ?_
      refine r_get F h (i := 0) (k := 9) (.ref (a0 10)) inX4 rfl (by decide) w263 rfl rfl rfl dX4_addTarget_26 ?_
      refine lv_aload_n hx hb dX4_addTarget_29 rfl (lv_at hl 0 rfl) ?_
      refine r_get F h (i := 0) (k := 7) (.int (t4.1 7)) inX4 rfl (by decide) w247 rfl rfl rfl dX4_addTarget_30 ?_
      refine lv_iload_n hx hb dX4_addTarget_33 rfl (lv_at hl 3 rfl) ?_
      obtain ⟨g5, hf⟩ := gdb hf
      refine r_iast (o1 := sA t4 9 (t4.1 7).toNatClampNeg x2) (w := fun t6 => wX4 K a0 t6) (S' := fun t6 => [wX4 K a0 t6, wX3 K a2 o_q1]) F h (i := 0) (j := 7) rfl rfl (vin_ok g5) rfl (fun _ => rfl) dX4_addTarget_34 (fun t6 e6 H locs h => ?_)
      have hf := ltb hf e6
      refine lv_aload_n hx hb dX4_addTarget_35 rfl (lv_at hl 0 rfl) ?_
      refine r_get F h (i := 0) (k := 10) (.ref (a0 11)) inX4 rfl (by decide) w264 rfl rfl rfl dX4_addTarget_36 ?_
      refine lv_aload_n hx hb dX4_addTarget_39 rfl (lv_at hl 0 rfl) ?_
      refine r_get F h (i := 0) (k := 7) (.int (t6.1 7)) inX4 rfl (by decide) w247 rfl rfl rfl dX4_addTarget_40 ?_
      refine lv_iload hx hb dX4_addTarget_43 (lv_at hl 4 rfl) ?_
      obtain ⟨g7, hf⟩ := gdb hf
      obtain ⟨g8, hf⟩ := gdb hf
      refine r_zast (o1 := sA t6 10 (t6.1 7).toNatClampNeg x3) (w := fun t9 => wX4 K a0 t9) (S' := fun t9 => [wX4 K a0 t9, wX3 K a2 o_q1]) F h (i := 0) (j := 8) rfl rfl (vin_ok g7) g8 rfl (fun _ => rfl) dX4_addTarget_45 (fun t9 e9 H locs h => ?_)
      have hf := ltb hf e9
      refine lv_iconst (v := 0) hx hb dX4_addTarget_46 (by decide) ?_
      refine lv_istore (lv' := [(5, .int 0), (0, .ref (a0 0)), (1, .int x0), (2, .ref (a2 4)), (3, .int x2), (4, .int x3)]) hx hb dX4_addTarget_47 hl (by decide) rfl (fun ls hl => ?_)
      obtain ⟨q10, hq10, hf⟩ := asb hf
      obtain ⟨nq10, hq10⟩ := wh_out hq10
      have Xq10_1 : ∀ (z10 : Int32 × ob) (H : Heap) (locs : List Loc) (ls : Array Slot), q10 = (1, z10) → WD D A s.heap H locs [wX4 K a0 z10.2, wX3 K a2 o_q1] → lv_has ls 6 [(0, .ref (a0 0))] → W P l e (rmS 0 0) s m args below meth c H locs 0 0 (MQ below (QiS D A [wX4 K a0 r.2, wX3 K a2 o_q1] r.1) args s 0 0 A) (F0 m 79 ls []) := by
        intro z10 H locs ls eq10 h hl
        obtain rfl : z10 = q10.2 := by rw [eq10]
        refine lv_aload_n hx hb dX4_addTarget_79 rfl (lv_at hl 0 rfl) ?_
        refine lv_dup hx hb dX4_addTarget_80 rfl ?_
        refine r_get F h (i := 0) (k := 7) (.int (q10.2.2.1 7)) inX4 rfl (by decide) w247 rfl rfl rfl dX4_addTarget_81 ?_
        refine lv_iconst (v := 1) hx hb dX4_addTarget_84 (by decide) ?_
        refine lv_iadd hx hb dX4_addTarget_85 ?_
        refine r_put (o1 := sI q10.2.2 7 ((q10.2.2.1 7) + 1)) (w := fun t11 => wX4 K a0 t11) (S' := fun t11 => [wX4 K a0 t11, wX3 K a2 o_q1]) F h (i := 0) (k := 7) inX4 tyX4_ok nmX4 rfl (by decide) w247 rfl rfl rfl rfl rfl (Nat.le_of_ble_eq_true rfl) rfl (fun _ => rfl) dX4_addTarget_86 (fun t11 e11 H locs h => ?_)
        have hf := ltb hf e11
        refine lv_iconst (v := 1) hx hb dX4_addTarget_89 (by decide) ?_
        obtain rfl := sor hf
        exact r_retz F h rfl dX4_addTarget_90
      have Lq10 : ∀ (n : Nat) (z10 : Int32 × ob) (H : Heap) (locs : List Loc) (ls : Array Slot), iter (f4_addTarget_L49 x2 o_q1) n z10 = some q10 → WD D A s.heap H locs [wX4 K a0 z10.2, wX3 K a2 o_q1] → lv_has ls 6 [(0, .ref (a0 0)), (2, .ref (a2 4)), (3, .int x2), (5, .int z10.1)] → W P l e (rmS 0 0) s m args below meth c H locs 0 0 (MQ below (QiS D A [wX4 K a0 r.2, wX3 K a2 o_q1] r.1) args s 0 0 A) (F0 m 49 ls []) := by
        intro n
        induction n with
        | zero => intro z10 H locs ls hi; exact (iter_0 hi).elim
        | succ n ihq10 =>
          intro z10 H locs ls hi h hl
          obtain ⟨uq10, hf, huq10⟩ := iter_s hi
          unfold f4_addTarget_L49 at hf
          have hf := tob hf
          refine lv_iload hx hb dX4_addTarget_49 (lv_at hl 3 rfl) ?_
          refine lv_iload_n hx hb dX4_addTarget_51 rfl (lv_at hl 2 rfl) ?_
          refine lv_icmp_ge (tgt := 79) hx hb dX4_addTarget_52 (by decide) (fun c12 => ?_) (fun c12 => ?_)
          · have hf := ifp hf c12
            exact Xq10_1 _ _ _ _ (itr_x huq10 (sor hf)) h (lv_sub hl [0] rfl)
          · have hf := ifn hf c12
            refine lv_aload_n hx hb dX4_addTarget_55 rfl (lv_at hl 0 rfl) ?_
            refine r_get F h (i := 0) (k := 11) (.ref (a0 12)) inX4 rfl (by decide) w260 rfl rfl rfl dX4_addTarget_56 ?_
            refine lv_aload_n hx hb dX4_addTarget_59 rfl (lv_at hl 0 rfl) ?_
            refine r_get F h (i := 0) (k := 7) (.int (z10.2.1 7)) inX4 rfl (by decide) w247 rfl rfl rfl dX4_addTarget_60 ?_
            refine lv_iconst (v := 3) hx hb dX4_addTarget_63 (by decide) ?_
            refine lv_imul hx hb dX4_addTarget_64 ?_
            refine lv_iload hx hb dX4_addTarget_65 (lv_at hl 3 rfl) ?_
            refine lv_iadd hx hb dX4_addTarget_67 ?_
            refine lv_aload_n hx hb dX4_addTarget_68 rfl (lv_at hl 1 rfl) ?_
            refine lv_iload hx hb dX4_addTarget_69 (lv_at hl 3 rfl) ?_
            obtain ⟨g13, hf⟩ := gdb hf
            refine r_iald F h (i := 1) (j := 2) rfl rfl (vin_ok g13) dX4_addTarget_71 ?_
            obtain ⟨g14, hf⟩ := gdb hf
            refine r_iast (o1 := sA z10.2 11 (((z10.2.1 7) * 3) + z10.1).toNatClampNeg (o_q1.2 3 z10.1.toNatClampNeg)) (w := fun t15 => wX4 K a0 t15) (S' := fun t15 => [wX4 K a0 t15, wX3 K a2 o_q1]) F h (i := 0) (j := 9) rfl rfl (vin_ok g14) rfl (fun _ => rfl) dX4_addTarget_72 (fun t15 e15 H locs h => ?_)
            have hf := ltb hf e15
            obtain ⟨y16, e16⟩ : ∃ y : Int32, y = z10.1 + 1 := ⟨_, rfl⟩
            have hf := ltb hf e16
            refine lv_iinc (v := y16) (lv' := [(5, .int y16), (0, .ref (a0 0)), (2, .ref (a2 4)), (3, .int x2)]) hx hb dX4_addTarget_73 hl (k := 3) rfl (by rw [e16]; rfl) (by decide) rfl (fun ls hl => ?_)
            refine lv_goto (tgt := 49) hx hb dX4_addTarget_76 (by decide) ?_
            exact ihq10 _ _ _ _ (itr_c huq10 (sor hf)) h (lv_sub hl [1, 2, 3, 0] rfl)
      exact Lq10 _ _ _ _ _ hq10 h (lv_sub hl [1, 3, 4, 0] rfl)
    · have hf := ifn hf c2
      refine lv_iconst (v := 0) hx hb dX4_addTarget_13 (by decide) ?_
      obtain rfl := sor hf
      exact r_retz F h rfl dX4_addTarget_14
def f4_putLetter (x0 : Int32) (o_this : ob) : Option (ob) :=
  (if 12 ≤ (o_this.1 14) then (some o_this) else (gd (vin (o_this.1 14) 12) <| lt (sA o_this 15 (o_this.1 14).toNatClampNeg x0) fun t3 => lt (sI t3 14 ((t3.1 14) + 1)) fun t4 => some t4))
set_option maxRecDepth 100000 in
set_option maxHeartbeats 4000000 in
theorem c4_putLetter (l : Launch) (D : va_G) (K : Nat → ClassId) (a0 : Nat → Nat) (x0 : Int32) (o_this : ob) (r : ob) (hf : f4_putLetter x0 o_this = some r) : CTv l yX4_putLetter cX4_putLetter 2 0 0 D K [.ref (a0 0), .int x0] [wX4 K a0 o_this] [wX4 K a0 r] := by
  unfold f4_putLetter at hf
  have hf := tob hf
  refine entV (by decide) (Nat.le_of_ble_eq_true rfl) (fun P e s m args below meth c A ls F h hl hin => ?_)
  have hx := F.1
  have hb := F.2.1
  have hl : lv_has ls 2 [(0, .ref (a0 0)), (1, .int x0)] := hl
  refine lv_aload_n hx hb dX4_putLetter_0 rfl (lv_at hl 0 rfl) ?_
  refine r_get F h (i := 0) (k := 14) (.int (o_this.1 14)) inX4 rfl (by decide) w250 rfl rfl rfl dX4_putLetter_1 ?_
  refine lv_bipush (v := 12) hx hb dX4_putLetter_4 (by decide) ?_
  refine lv_icmp_ge (tgt := 29) hx hb dX4_putLetter_6 (by decide) (fun c1 => ?_) (fun c1 => ?_)
  · have hf := ifp hf c1
    obtain rfl := sor hf
    exact r_retv F h dX4_putLetter_29
  · have hf := ifn hf c1
    refine lv_aload_n hx hb dX4_putLetter_9 rfl (lv_at hl 0 rfl) ?_
    refine r_get F h (i := 0) (k := 15) (.ref (a0 16)) inX4 rfl (by decide) w261 rfl rfl rfl dX4_putLetter_10 ?_
    refine lv_aload_n hx hb dX4_putLetter_13 rfl (lv_at hl 0 rfl) ?_
    refine r_get F h (i := 0) (k := 14) (.int (o_this.1 14)) inX4 rfl (by decide) w250 rfl rfl rfl dX4_putLetter_14 ?_
    refine lv_iload_n hx hb dX4_putLetter_17 rfl (lv_at hl 1 rfl) ?_
    obtain ⟨g2, hf⟩ := gdb hf
    refine r_iast (o1 := sA o_this 15 (o_this.1 14).toNatClampNeg x0) (w := fun t3 => wX4 K a0 t3) (S' := fun t3 => [wX4 K a0 t3]) F h (i := 0) (j := 10) rfl rfl (vin_ok g2) rfl (fun _ => rfl) dX4_putLetter_18 (fun t3 e3 H locs h => ?_)
    have hf := ltb hf e3
    refine lv_aload_n hx hb dX4_putLetter_19 rfl (lv_at hl 0 rfl) ?_
    refine lv_dup hx hb dX4_putLetter_20 rfl ?_
    refine r_get F h (i := 0) (k := 14) (.int (t3.1 14)) inX4 rfl (by decide) w250 rfl rfl rfl dX4_putLetter_21 ?_
    refine lv_iconst (v := 1) hx hb dX4_putLetter_24 (by decide) ?_
    refine lv_iadd hx hb dX4_putLetter_25 ?_
    refine r_put (o1 := sI t3 14 ((t3.1 14) + 1)) (w := fun t4 => wX4 K a0 t4) (S' := fun t4 => [wX4 K a0 t4]) F h (i := 0) (k := 14) inX4 tyX4_ok nmX4 rfl (by decide) w250 rfl rfl rfl rfl rfl (Nat.le_of_ble_eq_true rfl) rfl (fun _ => rfl) dX4_putLetter_26 (fun t4 e4 H locs h => ?_)
    have hf := ltb hf e4
    obtain rfl := sor hf
    exact r_retv F h dX4_putLetter_29
def f4_takeLetter (o_this : ob) : Option (Int32 × ob) :=
  (if (o_this.1 14) = 0 then (some ((-4), o_this)) else (lt (sI o_this 14 ((o_this.1 14) - 1)) fun t2 => gd (vin (t2.1 14) 12) <| some (t2.2 15 (t2.1 14).toNatClampNeg, t2)))
set_option maxRecDepth 100000 in
set_option maxHeartbeats 4000000 in
theorem c4_takeLetter (l : Launch) (D : va_G) (K : Nat → ClassId) (a0 : Nat → Nat) (o_this : ob) (r : Int32 × ob) (hf : f4_takeLetter o_this = some r) : CTi l yX4_takeLetter cX4_takeLetter 1 (some .int) 0 0 D K [.ref (a0 0)] [wX4 K a0 o_this] [wX4 K a0 r.2] r.1 := by
  unfold f4_takeLetter at hf
  have hf := tob hf
  refine entI (by decide) (Nat.le_of_ble_eq_true rfl) (fun P e s m args below meth c A ls F h hl hin => ?_)
  have hx := F.1
  have hb := F.2.1
  have hl : lv_has ls 1 [(0, .ref (a0 0))] := hl
  refine lv_aload_n hx hb dX4_takeLetter_0 rfl (lv_at hl 0 rfl) ?_
  refine r_get F h (i := 0) (k := 14) (.int (o_this.1 14)) inX4 rfl (by decide) w250 rfl rfl rfl dX4_takeLetter_1 ?_
  refine lv_if_ne (tgt := 10) hx hb dX4_takeLetter_4 (by decide) (fun c1 => ?_) (fun c1 => ?_)
  · have hf := ifn hf c1
    refine lv_aload_n hx hb dX4_takeLetter_10 rfl (lv_at hl 0 rfl) ?_
    refine lv_dup hx hb dX4_takeLetter_11 rfl ?_
    refine r_get F h (i := 0) (k := 14) (.int (o_this.1 14)) inX4 rfl (by decide) w250 rfl rfl rfl dX4_takeLetter_12 ?_
    refine lv_iconst (v := 1) hx hb dX4_takeLetter_15 (by decide) ?_
    refine lv_isub hx hb dX4_takeLetter_16 ?_
    refine r_put (o1 := sI o_this 14 ((o_this.1 14) - 1)) (w := fun t2 => wX4 K a0 t2) (S' := fun t2 => [wX4 K a0 t2]) F h (i := 0) (k := 14) inX4 tyX4_ok nmX4 rfl (by decide) w250 rfl rfl rfl rfl rfl (Nat.le_of_ble_eq_true rfl) rfl (fun _ => rfl) dX4_takeLetter_17 (fun t2 e2 H locs h => ?_)
    have hf := ltb hf e2
    refine lv_aload_n hx hb dX4_takeLetter_20 rfl (lv_at hl 0 rfl) ?_
    refine r_get F h (i := 0) (k := 15) (.ref (a0 16)) inX4 rfl (by decide) w261 rfl rfl rfl dX4_takeLetter_21 ?_
    refine lv_aload_n hx hb dX4_takeLetter_24 rfl (lv_at hl 0 rfl) ?_
    refine r_get F h (i := 0) (k := 14) (.int (t2.1 14)) inX4 rfl (by decide) w250 rfl rfl rfl dX4_takeLetter_25 ?_
    obtain ⟨g3, hf⟩ := gdb hf
    refine r_iald F h (i := 0) (j := 10) rfl rfl (vin_ok g3) dX4_takeLetter_28 ?_
    obtain rfl := sor hf
    exact r_reti F h dX4_takeLetter_29
  · have hf := ifp hf c1
    refine lv_bipush (v := (-4)) hx hb dX4_takeLetter_7 (by decide) ?_
    obtain rfl := sor hf
    exact r_reti F h dX4_takeLetter_9
def f4_rulesFor_L5 (g0 : Int32) (g1 : Int32) (g2 : ob) (z1 : Int32 × Int32) : Option (Nat × (Int32 × Int32)) :=
  (if (g2.1 1) ≤ z1.2 then (some (1, (z1.1, z1.2))) else (gd (vin z1.2 10) <| ((if (g2.2 2 z1.2.toNatClampNeg) = g0 then (gd (vin z1.2 10) <| (if (g2.2 3 z1.2.toNatClampNeg) = g1 then (lt (z1.1 + 1) fun y9 => some y9) else (some z1.1))) else (some z1.1))).bind fun v4 => lt (z1.2 + 1) fun y5 => some (0, (v4, y5))))
noncomputable def f4_rulesFor (x0 : Int32) (x1 : Int32) (o_this : ob) : Option (Int32) :=
  (wh (f4_rulesFor_L5 x0 x1 o_this) (0, 0)).bind fun q1 => some q1.2.1
set_option maxRecDepth 100000 in
set_option maxHeartbeats 4000000 in
theorem c4_rulesFor (l : Launch) (D : va_G) (K : Nat → ClassId) (a0 : Nat → Nat) (x0 : Int32) (x1 : Int32) (o_this : ob) (r : Int32) (hf : f4_rulesFor x0 x1 o_this = some r) : CTi l yX4_rulesFor cX4_rulesFor 5 (some .int) 0 0 D K [.ref (a0 0), .int x0, .int x1] [wX4 K a0 o_this] [wX4 K a0 o_this] r := by
  unfold f4_rulesFor at hf
  have hf := tob hf
  refine entI (by decide) (Nat.le_of_ble_eq_true rfl) (fun P e s m args below meth c A ls F h hl hin => ?_)
  have hx := F.1
  have hb := F.2.1
  have hl : lv_has ls 5 [(0, .ref (a0 0)), (1, .int x0), (2, .int x1)] := hl
  refine lv_iconst (v := 0) hx hb dX4_rulesFor_0 (by decide) ?_
  refine lv_istore_n (lv' := [(3, .int 0), (0, .ref (a0 0)), (1, .int x0), (2, .int x1)]) hx hb dX4_rulesFor_1 rfl hl (by decide) rfl (fun ls hl => ?_)
  refine lv_iconst (v := 0) hx hb dX4_rulesFor_2 (by decide) ?_
  refine lv_istore (lv' := [(4, .int 0), (3, .int 0), (0, .ref (a0 0)), (1, .int x0), (2, .int x1)]) hx hb dX4_rulesFor_3 hl (by decide) rfl (fun ls hl => ?_)
  obtain ⟨q1, hq1, hf⟩ := asb hf
  obtain ⟨nq1, hq1⟩ := wh_out hq1
  have Xq1_1 : ∀ (z1 : Int32 × Int32) (H : Heap) (locs : List Loc) (ls : Array Slot), q1 = (1, z1) → WD D A s.heap H locs [wX4 K a0 o_this] → lv_has ls 5 [(3, .int z1.1)] → W P l e (rmS 0 0) s m args below meth c H locs 0 0 (MQ below (QiS D A [wX4 K a0 o_this] r) args s 0 0 A) (F0 m 45 ls []) := by
    intro z1 H locs ls eq1 h hl
    obtain rfl : z1 = q1.2 := by rw [eq1]
    refine lv_iload_n hx hb dX4_rulesFor_45 rfl (lv_at hl 0 rfl) ?_
    obtain rfl := sor hf
    exact r_reti F h dX4_rulesFor_46
  have Lq1 : ∀ (n : Nat) (z1 : Int32 × Int32) (H : Heap) (locs : List Loc) (ls : Array Slot), iter (f4_rulesFor_L5 x0 x1 o_this) n z1 = some q1 → WD D A s.heap H locs [wX4 K a0 o_this] → lv_has ls 5 [(0, .ref (a0 0)), (1, .int x0), (2, .int x1), (3, .int z1.1), (4, .int z1.2)] → W P l e (rmS 0 0) s m args below meth c H locs 0 0 (MQ below (QiS D A [wX4 K a0 o_this] r) args s 0 0 A) (F0 m 5 ls []) := by
    intro n
    induction n with
    | zero => intro z1 H locs ls hi; exact (iter_0 hi).elim
    | succ n ihq1 =>
      intro z1 H locs ls hi h hl
      obtain ⟨uq1, hf, huq1⟩ := iter_s hi
      unfold f4_rulesFor_L5 at hf
      have hf := tob hf
      refine lv_iload hx hb dX4_rulesFor_5 (lv_at hl 4 rfl) ?_
      refine lv_aload_n hx hb dX4_rulesFor_7 rfl (lv_at hl 0 rfl) ?_
      refine r_get F h (i := 0) (k := 1) (.int (o_this.1 1)) inX4 rfl (by decide) w246 rfl rfl rfl dX4_rulesFor_8 ?_
      refine lv_icmp_ge (tgt := 45) hx hb dX4_rulesFor_11 (by decide) (fun c2 => ?_) (fun c2 => ?_)
      · have hf := ifp hf c2
        exact Xq1_1 _ _ _ _ (itr_x huq1 (sor hf)) h (lv_sub hl [3] rfl)
      · have hf := ifn hf c2
        refine lv_aload_n hx hb dX4_rulesFor_14 rfl (lv_at hl 0 rfl) ?_
        refine r_get F h (i := 0) (k := 2) (.ref (a0 3)) inX4 rfl (by decide) w251 rfl rfl rfl dX4_rulesFor_15 ?_
        refine lv_iload hx hb dX4_rulesFor_18 (lv_at hl 4 rfl) ?_
        obtain ⟨g3, hf⟩ := gdb hf
        refine r_iald F h (i := 0) (j := 1) rfl rfl (vin_ok g3) dX4_rulesFor_20 ?_
        refine lv_iload_n hx hb dX4_rulesFor_21 rfl (lv_at hl 1 rfl) ?_
        obtain ⟨J4, eJ4, hf⟩ := rgn hf
        have JW4 : ∀ (v4 : Int32) (H : Heap) (locs : List Loc) (ls : Array Slot), WD D A s.heap H locs [wX4 K a0 o_this] → lv_has ls 5 [(0, .ref (a0 0)), (1, .int x0), (2, .int x1), (3, .int v4), (4, .int z1.2)] → J4 v4 = some uq1 → W P l e (rmS 0 0) s m args below meth c H locs 0 0 (MQ below (QiS D A [wX4 K a0 o_this] r) args s 0 0 A) (F0 m 39 ls []) := by
          intro v4 H locs ls h hl hf
          have hf := jof eJ4 hf
          obtain ⟨y5, e5⟩ : ∃ y : Int32, y = z1.2 + 1 := ⟨_, rfl⟩
          have hf := ltb hf e5
          refine lv_iinc (v := y5) (lv' := [(4, .int y5), (0, .ref (a0 0)), (1, .int x0), (2, .int x1), (3, .int v4)]) hx hb dX4_rulesFor_39 hl (k := 4) rfl (by rw [e5]; rfl) (by decide) rfl (fun ls hl => ?_)
          refine lv_goto (tgt := 5) hx hb dX4_rulesFor_42 (by decide) ?_
          exact ihq1 _ _ _ _ (itr_c huq1 (sor hf)) h (lv_sub hl [1, 2, 3, 4, 0] rfl)
        refine lv_icmp_ne (tgt := 39) hx hb dX4_rulesFor_22 (by decide) (fun c6 => ?_) (fun c6 => ?_)
        · have hf := ifn hf c6
          exact JW4 z1.1 _ _ _ h (lv_sub hl [0, 1, 2, 3, 4] rfl) (sob hf)
        · have hf := ifp hf c6
          refine lv_aload_n hx hb dX4_rulesFor_25 rfl (lv_at hl 0 rfl) ?_
          refine r_get F h (i := 0) (k := 3) (.ref (a0 4)) inX4 rfl (by decide) w256 rfl rfl rfl dX4_rulesFor_26 ?_
          refine lv_iload hx hb dX4_rulesFor_29 (lv_at hl 4 rfl) ?_
          obtain ⟨g7, hf⟩ := gdb hf
          refine r_iald F h (i := 0) (j := 2) rfl rfl (vin_ok g7) dX4_rulesFor_31 ?_
          refine lv_iload_n hx hb dX4_rulesFor_32 rfl (lv_at hl 2 rfl) ?_
          refine lv_icmp_ne (tgt := 39) hx hb dX4_rulesFor_33 (by decide) (fun c8 => ?_) (fun c8 => ?_)
          · have hf := ifn hf c8
            exact JW4 z1.1 _ _ _ h (lv_sub hl [0, 1, 2, 3, 4] rfl) (sob hf)
          · have hf := ifp hf c8
            obtain ⟨y9, e9⟩ : ∃ y : Int32, y = z1.1 + 1 := ⟨_, rfl⟩
            have hf := ltb hf e9
            refine lv_iinc (v := y9) (lv' := [(3, .int y9), (0, .ref (a0 0)), (1, .int x0), (2, .int x1), (4, .int z1.2)]) hx hb dX4_rulesFor_36 hl (k := 3) rfl (by rw [e9]; rfl) (by decide) rfl (fun ls hl => ?_)
            exact JW4 y9 _ _ _ h (lv_sub hl [1, 2, 3, 0, 4] rfl) (sob hf)
  exact Lq1 _ _ _ _ _ hq1 h (lv_sub hl [2, 3, 4, 1, 0] rfl)
def f4_applies (x0 : Int32) (o_this : ob) : Option (Int32) :=
  (if (o_this.1 14) ≤ 0 then (some 0) else (gd (vin x0 10) <| (if (o_this.2 2 x0.toNatClampNeg) = (o_this.1 13) then (gd (vin x0 10) <| gd (vin ((o_this.1 14) - 1) 12) <| (if (o_this.2 3 x0.toNatClampNeg) = (o_this.2 15 ((o_this.1 14) - 1).toNatClampNeg) then (some 1) else (some 0))) else (some 0))))
set_option maxRecDepth 100000 in
set_option maxHeartbeats 4000000 in
theorem c4_applies (l : Launch) (D : va_G) (K : Nat → ClassId) (a0 : Nat → Nat) (x0 : Int32) (o_this : ob) (r : Int32) (hf : f4_applies x0 o_this = some r) : CTi l yX4_applies cX4_applies 2 (some .boolean) 0 0 D K [.ref (a0 0), .int x0] [wX4 K a0 o_this] [wX4 K a0 o_this] r := by
  unfold f4_applies at hf
  have hf := tob hf
  refine entI (by decide) (Nat.le_of_ble_eq_true rfl) (fun P e s m args below meth c A ls F h hl hin => ?_)
  have hx := F.1
  have hb := F.2.1
  have hl : lv_has ls 2 [(0, .ref (a0 0)), (1, .int x0)] := hl
  refine lv_aload_n hx hb dX4_applies_0 rfl (lv_at hl 0 rfl) ?_
  refine r_get F h (i := 0) (k := 14) (.int (o_this.1 14)) inX4 rfl (by decide) w250 rfl rfl rfl dX4_applies_1 ?_
  refine lv_if_le (tgt := 44) hx hb dX4_applies_4 (by decide) (fun c1 => ?_) (fun c1 => ?_)
  · have hf := ifp hf c1
    refine lv_iconst (v := 0) hx hb dX4_applies_44 (by decide) ?_
    obtain rfl := sor hf
    exact r_retz F h rfl dX4_applies_45
  · have hf := ifn hf c1
    refine lv_aload_n hx hb dX4_applies_7 rfl (lv_at hl 0 rfl) ?_
    refine r_get F h (i := 0) (k := 2) (.ref (a0 3)) inX4 rfl (by decide) w251 rfl rfl rfl dX4_applies_8 ?_
    refine lv_iload_n hx hb dX4_applies_11 rfl (lv_at hl 1 rfl) ?_
    obtain ⟨g2, hf⟩ := gdb hf
    refine r_iald F h (i := 0) (j := 1) rfl rfl (vin_ok g2) dX4_applies_12 ?_
    refine lv_aload_n hx hb dX4_applies_13 rfl (lv_at hl 0 rfl) ?_
    refine r_get F h (i := 0) (k := 13) (.int (o_this.1 13)) inX4 rfl (by decide) w249 rfl rfl rfl dX4_applies_14 ?_
    refine lv_icmp_ne (tgt := 44) hx hb dX4_applies_17 (by decide) (fun c3 => ?_) (fun c3 => ?_)
    · have hf := ifn hf c3
      refine lv_iconst (v := 0) hx hb dX4_applies_44 (by decide) ?_
      obtain rfl := sor hf
      exact r_retz F h rfl dX4_applies_45
    · have hf := ifp hf c3
      refine lv_aload_n hx hb dX4_applies_20 rfl (lv_at hl 0 rfl) ?_
      refine r_get F h (i := 0) (k := 3) (.ref (a0 4)) inX4 rfl (by decide) w256 rfl rfl rfl dX4_applies_21 ?_
      refine lv_iload_n hx hb dX4_applies_24 rfl (lv_at hl 1 rfl) ?_
      obtain ⟨g4, hf⟩ := gdb hf
      refine r_iald F h (i := 0) (j := 2) rfl rfl (vin_ok g4) dX4_applies_25 ?_
      refine lv_aload_n hx hb dX4_applies_26 rfl (lv_at hl 0 rfl) ?_
      refine r_get F h (i := 0) (k := 15) (.ref (a0 16)) inX4 rfl (by decide) w261 rfl rfl rfl dX4_applies_27 ?_
      refine lv_aload_n hx hb dX4_applies_30 rfl (lv_at hl 0 rfl) ?_
      refine r_get F h (i := 0) (k := 14) (.int (o_this.1 14)) inX4 rfl (by decide) w250 rfl rfl rfl dX4_applies_31 ?_
      refine lv_iconst (v := 1) hx hb dX4_applies_34 (by decide) ?_
      refine lv_isub hx hb dX4_applies_35 ?_
      obtain ⟨g5, hf⟩ := gdb hf
      refine r_iald F h (i := 0) (j := 10) rfl rfl (vin_ok g5) dX4_applies_36 ?_
      refine lv_icmp_ne (tgt := 44) hx hb dX4_applies_37 (by decide) (fun c6 => ?_) (fun c6 => ?_)
      · have hf := ifn hf c6
        refine lv_iconst (v := 0) hx hb dX4_applies_44 (by decide) ?_
        obtain rfl := sor hf
        exact r_retz F h rfl dX4_applies_45
      · have hf := ifp hf c6
        refine lv_iconst (v := 1) hx hb dX4_applies_40 (by decide) ?_
        refine lv_goto (tgt := 45) hx hb dX4_applies_41 (by decide) ?_
        obtain rfl := sor hf
        exact r_retz F h rfl dX4_applies_45
def f4_heightAfter (x0 : Int32) (o_this : ob) : Option (Int32) :=
  gd (vin x0 10) <| (f5_lettersIn (o_this.2 5 x0.toNatClampNeg)).bind fun q2 => some (((o_this.1 14) - 1) + q2)
set_option maxRecDepth 100000 in
set_option maxHeartbeats 4000000 in
theorem c4_heightAfter (l : Launch) (D : va_G) (K : Nat → ClassId) (a0 : Nat → Nat) (x0 : Int32) (o_this : ob) (r : Int32) (hf : f4_heightAfter x0 o_this = some r) : CTi l yX4_heightAfter cX4_heightAfter 2 (some .int) 1 20 D K [.ref (a0 0), .int x0] [wX4 K a0 o_this] [wX4 K a0 o_this] r := by
  unfold f4_heightAfter at hf
  have hf := tob hf
  refine entI (by decide) (Nat.le_of_ble_eq_true rfl) (fun P e s m args below meth c A ls F h hl hin => ?_)
  have hx := F.1
  have hb := F.2.1
  have hl : lv_has ls 2 [(0, .ref (a0 0)), (1, .int x0)] := hl
  refine lv_aload_n hx hb dX4_heightAfter_0 rfl (lv_at hl 0 rfl) ?_
  refine r_get F h (i := 0) (k := 14) (.int (o_this.1 14)) inX4 rfl (by decide) w250 rfl rfl rfl dX4_heightAfter_1 ?_
  refine lv_iconst (v := 1) hx hb dX4_heightAfter_4 (by decide) ?_
  refine lv_isub hx hb dX4_heightAfter_5 ?_
  refine lv_aload_n hx hb dX4_heightAfter_6 rfl (lv_at hl 0 rfl) ?_
  refine r_get F h (i := 0) (k := 5) (.ref (a0 6)) inX4 rfl (by decide) w258 rfl rfl rfl dX4_heightAfter_7 ?_
  refine lv_iload_n hx hb dX4_heightAfter_10 rfl (lv_at hl 1 rfl) ?_
  obtain ⟨g1, hf⟩ := gdb hf
  refine r_iald F h (i := 0) (j := 4) rfl rfl (vin_ok g1) dX4_heightAfter_11 ?_
  obtain ⟨q2, h2, hf⟩ := asb hf
  refine r_callN (As := [.int (o_this.2 5 x0.toNatClampNeg)]) (rest := [.int ((o_this.1 14) - 1)]) F h hl (c5_lettersIn l D K (o_this.2 5 x0.toNatClampNeg) q2 h2) w267 ⟨by decide +kernel, w265, w266⟩ hsc5_lettersIn ⟨Nat.le_of_ble_eq_true rfl, Nat.le_of_ble_eq_true rfl⟩ ⟨Nat.le_refl 0, Nat.le_refl 0⟩ (Nat.le_of_ble_eq_true rfl) dX4_heightAfter_12 (fun H locs h => ?_)
  refine lv_iadd hx hb dX4_heightAfter_15 ?_
  obtain rfl := sor hf
  exact r_reti F h dX4_heightAfter_16
def f4_apply (x0 : Int32) (o_this : ob) : Option (ob) :=
  (f4_takeLetter o_this).bind fun q1 => gd (vin x0 10) <| lt (q1.2.2 5 x0.toNatClampNeg) fun y3 => (f5_lettersIn y3).bind fun q4 => ((if q4 = 2 then ((f5_secondLetter y3).bind fun q14 => (f4_putLetter q14 q1.2).bind fun q15 => some q15) else (some q1.2))).bind fun v5 => (f5_lettersIn y3).bind fun q6 => ((if q6 ≤ 0 then (some v5) else ((f5_firstLetter y3).bind fun q11 => (f4_putLetter q11 v5).bind fun q12 => some q12))).bind fun v7 => gd (vin x0 10) <| lt (sI v7 13 (v7.2 4 x0.toNatClampNeg)) fun t9 => some t9
set_option maxRecDepth 100000 in
set_option maxHeartbeats 4000000 in
theorem c4_apply (l : Launch) (D : va_G) (K : Nat → ClassId) (a0 : Nat → Nat) (x0 : Int32) (o_this : ob) (r : ob) (hf : f4_apply x0 o_this = some r) : CTv l yX4_apply cX4_apply 3 1 21 D K [.ref (a0 0), .int x0] [wX4 K a0 o_this] [wX4 K a0 r] := by
  unfold f4_apply at hf
  have hf := tob hf
  refine entV (by decide) (Nat.le_of_ble_eq_true rfl) (fun P e s m args below meth c A ls F h hl hin => ?_)
  have hx := F.1
  have hb := F.2.1
  have hl : lv_has ls 3 [(0, .ref (a0 0)), (1, .int x0)] := hl
  refine lv_aload_n hx hb dX4_apply_0 rfl (lv_at hl 0 rfl) ?_
  obtain ⟨q1, h1, hf⟩ := asb hf
  refine r_callVi (As := []) (rest := []) (C0 := [wX4 K a0 o_this]) (C1 := [wX4 K a0 q1.2]) (Rr := []) (S' := [wX4 K a0 q1.2]) F h hl (c4_takeLetter l D K a0 o_this q1 h1) [0] rfl rfl rfl rfl rfl (i := 0) rfl rfl w272 ⟨w273, w274, w275, w276⟩ hsc4_takeLetter ⟨Nat.le_of_ble_eq_true rfl, Nat.le_of_ble_eq_true rfl⟩ ⟨Nat.le_refl 0, Nat.le_refl 0⟩ (Nat.le_of_ble_eq_true rfl) dX4_apply_1 (fun H locs h => ?_)
  refine lv_pop hx hb dX4_apply_4 rfl ?_
  refine lv_aload_n hx hb dX4_apply_5 rfl (lv_at hl 0 rfl) ?_
  refine r_get F h (i := 0) (k := 5) (.ref (a0 6)) inX4 rfl (by decide) w258 rfl rfl rfl dX4_apply_6 ?_
  refine lv_iload_n hx hb dX4_apply_9 rfl (lv_at hl 1 rfl) ?_
  obtain ⟨g2, hf⟩ := gdb hf
  refine r_iald F h (i := 0) (j := 4) rfl rfl (vin_ok g2) dX4_apply_10 ?_
  refine lv_topi (fun y3 e3 => ?_)
  have hf := ltb hf e3
  refine lv_istore_n (lv' := [(2, .int y3), (0, .ref (a0 0)), (1, .int x0)]) hx hb dX4_apply_11 rfl hl (by decide) rfl (fun ls hl => ?_)
  refine lv_iload_n hx hb dX4_apply_12 rfl (lv_at hl 0 rfl) ?_
  obtain ⟨q4, h4, hf⟩ := asb hf
  refine r_callN (As := [.int y3]) (rest := []) F h hl (c5_lettersIn l D K y3 q4 h4) w267 ⟨by decide +kernel, w265, w266⟩ hsc5_lettersIn ⟨Nat.le_of_ble_eq_true rfl, Nat.le_of_ble_eq_true rfl⟩ ⟨Nat.le_refl 0, Nat.le_refl 0⟩ (Nat.le_of_ble_eq_true rfl) dX4_apply_13 (fun H locs h => ?_)
  refine lv_iconst (v := 2) hx hb dX4_apply_16 (by decide) ?_
  obtain ⟨J5, eJ5, hf⟩ := rgn hf
  have JW5 : ∀ (v5 : ob) (H : Heap) (locs : List Loc) (ls : Array Slot), WD D A s.heap H locs [wX4 K a0 v5] → lv_has ls 3 [(0, .ref (a0 0)), (1, .int x0), (2, .int y3)] → J5 v5 = some r → W P l e (rmS 1 21) s m args below meth c H locs 0 0 (MQ below (QvS D A [wX4 K a0 r]) args s 0 0 A) (F0 m 28 ls []) := by
    intro v5 H locs ls h hl hf
    have hf := jof eJ5 hf
    refine lv_iload_n hx hb dX4_apply_28 rfl (lv_at hl 2 rfl) ?_
    obtain ⟨q6, h6, hf⟩ := asb hf
    refine r_callN (As := [.int y3]) (rest := []) F h hl (c5_lettersIn l D K y3 q6 h6) w267 ⟨by decide +kernel, w265, w266⟩ hsc5_lettersIn ⟨Nat.le_of_ble_eq_true rfl, Nat.le_of_ble_eq_true rfl⟩ ⟨Nat.le_refl 0, Nat.le_refl 0⟩ (Nat.le_of_ble_eq_true rfl) dX4_apply_29 (fun H locs h => ?_)
    obtain ⟨J7, eJ7, hf⟩ := rgn hf
    have JW7 : ∀ (v7 : ob) (H : Heap) (locs : List Loc) (ls : Array Slot), WD D A s.heap H locs [wX4 K a0 v7] → lv_has ls 3 [(0, .ref (a0 0)), (1, .int x0)] → J7 v7 = some r → W P l e (rmS 1 21) s m args below meth c H locs 0 0 (MQ below (QvS D A [wX4 K a0 r]) args s 0 0 A) (F0 m 43 ls []) := by
      intro v7 H locs ls h hl hf
      have hf := jof eJ7 hf
      refine lv_aload_n hx hb dX4_apply_43 rfl (lv_at hl 0 rfl) ?_
      refine lv_aload_n hx hb dX4_apply_44 rfl (lv_at hl 0 rfl) ?_
      refine r_get F h (i := 0) (k := 4) (.ref (a0 5)) inX4 rfl (by decide) w257 rfl rfl rfl dX4_apply_45 ?_
      refine lv_iload_n hx hb dX4_apply_48 rfl (lv_at hl 1 rfl) ?_
      obtain ⟨g8, hf⟩ := gdb hf
      refine r_iald F h (i := 0) (j := 3) rfl rfl (vin_ok g8) dX4_apply_49 ?_
      refine r_put (o1 := sI v7 13 (v7.2 4 x0.toNatClampNeg)) (w := fun t9 => wX4 K a0 t9) (S' := fun t9 => [wX4 K a0 t9]) F h (i := 0) (k := 13) inX4 tyX4_ok nmX4 rfl (by decide) w249 rfl rfl rfl rfl rfl (Nat.le_of_ble_eq_true rfl) rfl (fun _ => rfl) dX4_apply_50 (fun t9 e9 H locs h => ?_)
      have hf := ltb hf e9
      obtain rfl := sor hf
      exact r_retv F h dX4_apply_53
    refine lv_if_le (tgt := 43) hx hb dX4_apply_32 (by decide) (fun c10 => ?_) (fun c10 => ?_)
    · have hf := ifp hf c10
      exact JW7 v5 _ _ _ h (lv_sub hl [0, 1] rfl) (sob hf)
    · have hf := ifn hf c10
      refine lv_aload_n hx hb dX4_apply_35 rfl (lv_at hl 0 rfl) ?_
      refine lv_iload_n hx hb dX4_apply_36 rfl (lv_at hl 2 rfl) ?_
      obtain ⟨q11, h11, hf⟩ := asb hf
      refine r_callN (As := [.int y3]) (rest := [.ref (a0 0)]) F h hl (c5_firstLetter l D K y3 q11 h11) w269 ⟨by decide +kernel, w268, w266⟩ hsc5_firstLetter ⟨Nat.le_of_ble_eq_true rfl, Nat.le_of_ble_eq_true rfl⟩ ⟨Nat.le_refl 0, Nat.le_refl 0⟩ (Nat.le_of_ble_eq_true rfl) dX4_apply_37 (fun H locs h => ?_)
      obtain ⟨q12, h12, hf⟩ := asb hf
      refine r_callVv (As := [.int q11]) (rest := []) (C0 := [wX4 K a0 v5]) (C1 := [wX4 K a0 q12]) (Rr := []) (S' := [wX4 K a0 q12]) F h hl (c4_putLetter l D K a0 q11 v5 q12 h12) [0] rfl rfl rfl rfl rfl (i := 0) rfl rfl w277 ⟨w278, w279, w280, w276⟩ hsc4_putLetter ⟨Nat.le_of_ble_eq_true rfl, Nat.le_of_ble_eq_true rfl⟩ ⟨Nat.le_refl 0, Nat.le_refl 0⟩ (Nat.le_of_ble_eq_true rfl) dX4_apply_40 (fun H locs h => ?_)
      exact JW7 q12 _ _ _ h (lv_sub hl [0, 1] rfl) (sob hf)
  refine lv_icmp_ne (tgt := 28) hx hb dX4_apply_17 (by decide) (fun c13 => ?_) (fun c13 => ?_)
  · have hf := ifn hf c13
    exact JW5 q1.2 _ _ _ h (lv_sub hl [1, 2, 0] rfl) (sob hf)
  · have hf := ifp hf c13
    refine lv_aload_n hx hb dX4_apply_20 rfl (lv_at hl 1 rfl) ?_
    refine lv_iload_n hx hb dX4_apply_21 rfl (lv_at hl 0 rfl) ?_
    obtain ⟨q14, h14, hf⟩ := asb hf
    refine r_callN (As := [.int y3]) (rest := [.ref (a0 0)]) F h hl (c5_secondLetter l D K y3 q14 h14) w271 ⟨by decide +kernel, w270, w266⟩ hsc5_secondLetter ⟨Nat.le_of_ble_eq_true rfl, Nat.le_of_ble_eq_true rfl⟩ ⟨Nat.le_refl 0, Nat.le_refl 0⟩ (Nat.le_of_ble_eq_true rfl) dX4_apply_22 (fun H locs h => ?_)
    obtain ⟨q15, h15, hf⟩ := asb hf
    refine r_callVv (As := [.int q14]) (rest := []) (C0 := [wX4 K a0 q1.2]) (C1 := [wX4 K a0 q15]) (Rr := []) (S' := [wX4 K a0 q15]) F h hl (c4_putLetter l D K a0 q14 q1.2 q15 h15) [0] rfl rfl rfl rfl rfl (i := 0) rfl rfl w277 ⟨w278, w279, w280, w276⟩ hsc4_putLetter ⟨Nat.le_of_ble_eq_true rfl, Nat.le_of_ble_eq_true rfl⟩ ⟨Nat.le_refl 0, Nat.le_refl 0⟩ (Nat.le_of_ble_eq_true rfl) dX4_apply_25 (fun H locs h => ?_)
    exact JW5 q15 _ _ _ h (lv_sub hl [1, 2, 0] rfl) (sob hf)
def f4_choose_L44 (g1 : ob) (z5 : Int32 × Int32) : Option (Nat × (Int32 × Int32)) :=
  (if (g1.1 1) ≤ z5.2 then (some (2, (z5.1, z5.2))) else ((f4_applies z5.2 g1).bind fun q7 => (if q7 = 0 then (lt (z5.2 + 1) fun y9 => some (0, (z5.1, y9))) else ((if z5.1 = 0 then (some (1, (z5.1, z5.2))) else (lt (z5.1 + (-1)) fun y11 => lt (z5.2 + 1) fun y12 => some (0, (y11, y12))))))))
noncomputable def f4_choose (x0 : Int32) (o_this : ob) : Option (Int32) :=
  ((if (o_this.1 14) ≤ 0 then (some 0) else (gd (vin ((o_this.1 14) - 1) 12) <| (f4_rulesFor (o_this.1 13) (o_this.2 15 ((o_this.1 14) - 1).toNatClampNeg) o_this).bind fun q15 => some q15))).bind fun v1 => (if v1 = 0 then (some (-1)) else (gd (nz v1) <| lt (x0 - x0 / v1 * v1) fun y4 => (wh (f4_choose_L44 o_this) (y4, 0)).bind fun q5 => (if q5.1 = 1 then (some q5.2.2) else (some (-1)))))
set_option maxRecDepth 100000 in
set_option maxHeartbeats 4000000 in
theorem c4_choose (l : Launch) (D : va_G) (K : Nat → ClassId) (a0 : Nat → Nat) (x0 : Int32) (o_this : ob) (r : Int32) (hf : f4_choose x0 o_this = some r) : CTi l yX4_choose cX4_choose 5 (some .int) 1 24 D K [.ref (a0 0), .int x0] [wX4 K a0 o_this] [wX4 K a0 o_this] r := by
  unfold f4_choose at hf
  have hf := tob hf
  refine entI (by decide) (Nat.le_of_ble_eq_true rfl) (fun P e s m args below meth c A ls F h hl hin => ?_)
  have hx := F.1
  have hb := F.2.1
  have hl : lv_has ls 5 [(0, .ref (a0 0)), (1, .int x0)] := hl
  refine lv_aload_n hx hb dX4_choose_0 rfl (lv_at hl 0 rfl) ?_
  refine r_get F h (i := 0) (k := 14) (.int (o_this.1 14)) inX4 rfl (by decide) w250 rfl rfl rfl dX4_choose_1 ?_
  obtain ⟨J1, eJ1, hf⟩ := rgn hf
  have JW1 : ∀ (v1 : Int32) (H : Heap) (locs : List Loc) (ls : Array Slot), WD D A s.heap H locs [wX4 K a0 o_this] → lv_has ls 5 [(0, .ref (a0 0)), (1, .int x0)] → J1 v1 = some r → W P l e (rmS 1 24) s m args below meth c H locs 0 0 (MQ below (QiS D A [wX4 K a0 o_this] r) args s 0 0 A) (F0 m 30 ls [.int v1]) := by
    intro v1 H locs ls h hl hf
    have hf := jof eJ1 hf
    refine lv_istore_n (lv' := [(2, .int v1), (0, .ref (a0 0)), (1, .int x0)]) hx hb dX4_choose_30 rfl hl (by decide) rfl (fun ls hl => ?_)
    refine lv_iload_n hx hb dX4_choose_31 rfl (lv_at hl 0 rfl) ?_
    refine lv_if_ne (tgt := 37) hx hb dX4_choose_32 (by decide) (fun c2 => ?_) (fun c2 => ?_)
    · have hf := ifn hf c2
      refine lv_iload_n hx hb dX4_choose_37 rfl (lv_at hl 2 rfl) ?_
      refine lv_iload_n hx hb dX4_choose_38 rfl (lv_at hl 0 rfl) ?_
      obtain ⟨g3, hf⟩ := gdb hf
      refine lv_irem hx hb dX4_choose_39 (nz_ok g3) ?_
      refine lv_topi (fun y4 e4 => ?_)
      have hf := ltb hf e4
      refine lv_istore_n (lv' := [(3, .int y4), (2, .int v1), (0, .ref (a0 0)), (1, .int x0)]) hx hb dX4_choose_40 rfl hl (by decide) rfl (fun ls hl => ?_)
      refine lv_iconst (v := 0) hx hb dX4_choose_41 (by decide) ?_
      refine lv_istore (lv' := [(4, .int 0), (3, .int y4), (2, .int v1), (0, .ref (a0 0)), (1, .int x0)]) hx hb dX4_choose_42 hl (by decide) rfl (fun ls hl => ?_)
      obtain ⟨q5, hq5, hf⟩ := asb hf
      obtain ⟨nq5, hq5⟩ := wh_out hq5
      have Xq5_1 : ∀ (z5 : Int32 × Int32) (H : Heap) (locs : List Loc) (ls : Array Slot), q5 = (1, z5) → WD D A s.heap H locs [wX4 K a0 o_this] → lv_has ls 5 [(4, .int z5.2)] → W P l e (rmS 1 24) s m args below meth c H locs 0 0 (MQ below (QiS D A [wX4 K a0 o_this] r) args s 0 0 A) (F0 m 66 ls []) := by
        intro z5 H locs ls eq5 h hl
        obtain rfl : z5 = q5.2 := by rw [eq5]
        have hf := ifp hf (show q5.1 = 1 by rw [eq5])
        refine lv_iload hx hb dX4_choose_66 (lv_at hl 0 rfl) ?_
        obtain rfl := sor hf
        exact r_reti F h dX4_choose_68
      have Xq5_2 : ∀ (z5 : Int32 × Int32) (H : Heap) (locs : List Loc) (ls : Array Slot), q5 = (2, z5) → WD D A s.heap H locs [wX4 K a0 o_this] → lv_has ls 5 [] → W P l e (rmS 1 24) s m args below meth c H locs 0 0 (MQ below (QiS D A [wX4 K a0 o_this] r) args s 0 0 A) (F0 m 78 ls []) := by
        intro z5 H locs ls eq5 h hl
        obtain rfl : z5 = q5.2 := by rw [eq5]
        have hf := ifn hf (show ¬ q5.1 = 1 by rw [show q5.1 = 2 by rw [eq5]]; decide)
        refine lv_iconst (v := (-1)) hx hb dX4_choose_78 (by decide) ?_
        obtain rfl := sor hf
        exact r_reti F h dX4_choose_79
      have Lq5 : ∀ (n : Nat) (z5 : Int32 × Int32) (H : Heap) (locs : List Loc) (ls : Array Slot), iter (f4_choose_L44 o_this) n z5 = some q5 → WD D A s.heap H locs [wX4 K a0 o_this] → lv_has ls 5 [(0, .ref (a0 0)), (3, .int z5.1), (4, .int z5.2)] → W P l e (rmS 1 24) s m args below meth c H locs 0 0 (MQ below (QiS D A [wX4 K a0 o_this] r) args s 0 0 A) (F0 m 44 ls []) := by
        intro n
        induction n with
        | zero => intro z5 H locs ls hi; exact (iter_0 hi).elim
        | succ n ihq5 =>
          intro z5 H locs ls hi h hl
          obtain ⟨uq5, hf, huq5⟩ := iter_s hi
          unfold f4_choose_L44 at hf
          have hf := tob hf
          refine lv_iload hx hb dX4_choose_44 (lv_at hl 2 rfl) ?_
          refine lv_aload_n hx hb dX4_choose_46 rfl (lv_at hl 0 rfl) ?_
          refine r_get F h (i := 0) (k := 1) (.int (o_this.1 1)) inX4 rfl (by decide) w246 rfl rfl rfl dX4_choose_47 ?_
          refine lv_icmp_ge (tgt := 78) hx hb dX4_choose_50 (by decide) (fun c6 => ?_) (fun c6 => ?_)
          · have hf := ifp hf c6
            exact Xq5_2 _ _ _ _ (itr_x huq5 (sor hf)) h (lv_sub hl [] rfl)
          · have hf := ifn hf c6
            refine lv_aload_n hx hb dX4_choose_53 rfl (lv_at hl 0 rfl) ?_
            refine lv_iload hx hb dX4_choose_54 (lv_at hl 2 rfl) ?_
            obtain ⟨q7, h7, hf⟩ := asb hf
            refine r_callVi (As := [.int z5.2]) (rest := []) (C0 := [wX4 K a0 o_this]) (C1 := [wX4 K a0 o_this]) (Rr := []) (S' := [wX4 K a0 o_this]) F h hl (c4_applies l D K a0 z5.2 o_this q7 h7) [0] rfl rfl rfl rfl rfl (i := 0) rfl rfl w281 ⟨w282, w283, w284, w276⟩ hsc4_applies ⟨Nat.le_of_ble_eq_true rfl, Nat.le_of_ble_eq_true rfl⟩ ⟨Nat.le_refl 0, Nat.le_refl 0⟩ (Nat.le_of_ble_eq_true rfl) dX4_choose_56 (fun H locs h => ?_)
            refine lv_if_eq (tgt := 72) hx hb dX4_choose_59 (by decide) (fun c8 => ?_) (fun c8 => ?_)
            · have hf := ifp hf c8
              obtain ⟨y9, e9⟩ : ∃ y : Int32, y = z5.2 + 1 := ⟨_, rfl⟩
              have hf := ltb hf e9
              refine lv_iinc (v := y9) (lv' := [(4, .int y9), (0, .ref (a0 0)), (3, .int z5.1)]) hx hb dX4_choose_72 hl (k := 2) rfl (by rw [e9]; rfl) (by decide) rfl (fun ls hl => ?_)
              refine lv_goto (tgt := 44) hx hb dX4_choose_75 (by decide) ?_
              exact ihq5 _ _ _ _ (itr_c huq5 (sor hf)) h (lv_sub hl [1, 2, 0] rfl)
            · have hf := ifn hf c8
              refine lv_iload_n hx hb dX4_choose_62 rfl (lv_at hl 1 rfl) ?_
              refine lv_if_ne (tgt := 69) hx hb dX4_choose_63 (by decide) (fun c10 => ?_) (fun c10 => ?_)
              · have hf := ifn hf c10
                obtain ⟨y11, e11⟩ : ∃ y : Int32, y = z5.1 + (-1) := ⟨_, rfl⟩
                have hf := ltb hf e11
                refine lv_iinc (v := y11) (lv' := [(3, .int y11), (0, .ref (a0 0)), (4, .int z5.2)]) hx hb dX4_choose_69 hl (k := 1) rfl (by rw [e11]; rfl) (by decide) rfl (fun ls hl => ?_)
                obtain ⟨y12, e12⟩ : ∃ y : Int32, y = z5.2 + 1 := ⟨_, rfl⟩
                have hf := ltb hf e12
                refine lv_iinc (v := y12) (lv' := [(4, .int y12), (3, .int y11), (0, .ref (a0 0))]) hx hb dX4_choose_72 hl (k := 2) rfl (by rw [e12]; rfl) (by decide) rfl (fun ls hl => ?_)
                refine lv_goto (tgt := 44) hx hb dX4_choose_75 (by decide) ?_
                exact ihq5 _ _ _ _ (itr_c huq5 (sor hf)) h (lv_sub hl [2, 1, 0] rfl)
              · have hf := ifp hf c10
                exact Xq5_1 _ _ _ _ (itr_x huq5 (sor hf)) h (lv_sub hl [2] rfl)
      exact Lq5 _ _ _ _ _ hq5 h (lv_sub hl [3, 1, 0] rfl)
    · have hf := ifp hf c2
      refine lv_iconst (v := (-1)) hx hb dX4_choose_35 (by decide) ?_
      obtain rfl := sor hf
      exact r_reti F h dX4_choose_36
  refine lv_if_le (tgt := 29) hx hb dX4_choose_4 (by decide) (fun c13 => ?_) (fun c13 => ?_)
  · have hf := ifp hf c13
    refine lv_iconst (v := 0) hx hb dX4_choose_29 (by decide) ?_
    exact JW1 0 _ _ _ h (lv_sub hl [0, 1] rfl) (sob hf)
  · have hf := ifn hf c13
    refine lv_aload_n hx hb dX4_choose_7 rfl (lv_at hl 0 rfl) ?_
    refine lv_aload_n hx hb dX4_choose_8 rfl (lv_at hl 0 rfl) ?_
    refine r_get F h (i := 0) (k := 13) (.int (o_this.1 13)) inX4 rfl (by decide) w249 rfl rfl rfl dX4_choose_9 ?_
    refine lv_aload_n hx hb dX4_choose_12 rfl (lv_at hl 0 rfl) ?_
    refine r_get F h (i := 0) (k := 15) (.ref (a0 16)) inX4 rfl (by decide) w261 rfl rfl rfl dX4_choose_13 ?_
    refine lv_aload_n hx hb dX4_choose_16 rfl (lv_at hl 0 rfl) ?_
    refine r_get F h (i := 0) (k := 14) (.int (o_this.1 14)) inX4 rfl (by decide) w250 rfl rfl rfl dX4_choose_17 ?_
    refine lv_iconst (v := 1) hx hb dX4_choose_20 (by decide) ?_
    refine lv_isub hx hb dX4_choose_21 ?_
    obtain ⟨g14, hf⟩ := gdb hf
    refine r_iald F h (i := 0) (j := 10) rfl rfl (vin_ok g14) dX4_choose_22 ?_
    obtain ⟨q15, h15, hf⟩ := asb hf
    refine r_callVi (As := [.int (o_this.1 13), .int (o_this.2 15 ((o_this.1 14) - 1).toNatClampNeg)]) (rest := []) (C0 := [wX4 K a0 o_this]) (C1 := [wX4 K a0 o_this]) (Rr := []) (S' := [wX4 K a0 o_this]) F h hl (c4_rulesFor l D K a0 (o_this.1 13) (o_this.2 15 ((o_this.1 14) - 1).toNatClampNeg) o_this q15 h15) [0] rfl rfl rfl rfl rfl (i := 0) rfl rfl w285 ⟨w286, w287, w288, w276⟩ hsc4_rulesFor ⟨Nat.le_of_ble_eq_true rfl, Nat.le_of_ble_eq_true rfl⟩ ⟨Nat.le_refl 0, Nat.le_refl 0⟩ (Nat.le_of_ble_eq_true rfl) dX4_choose_23 (fun H locs h => ?_)
    refine lv_goto (tgt := 30) hx hb dX4_choose_26 (by decide) ?_
    exact JW1 q15 _ _ _ h (lv_sub hl [0, 1] rfl) (sob hf)
