def f3_append (x0 : Int32) (o_this : ob) : Option (Int32 × ob) :=
  (if (o_this.1 1) < 200 then (gd (vin (o_this.1 1) 200) <| lt (sA o_this 0 (o_this.1 1).toNatClampNeg (vp_nar .char x0)) fun t3 => lt (sI t3 1 ((t3.1 1) + 1)) fun t4 => some (1, t4)) else (some (0, o_this)))
set_option maxRecDepth 100000 in
set_option maxHeartbeats 4000000 in
theorem c3_append (l : Launch) (D : va_G) (K : Nat → ClassId) (a0 : Nat → Nat) (x0 : Int32) (o_this : ob) (r : Int32 × ob) (hf : f3_append x0 o_this = some r) : CTi l yX3_append cX3_append 2 (some .boolean) 0 0 D K [.ref (a0 0), .int x0] [wX3 K a0 o_this] [wX3 K a0 r.2] r.1 := by
  unfold f3_append at hf
  have hf := tob hf
  refine entI (by decide) (Nat.le_of_ble_eq_true rfl) (fun P e s m args below meth c A ls F h hl hin => ?_)
  have hx := F.1
  have hb := F.2.1
  have hl : lv_has ls 2 [(0, .ref (a0 0)), (1, .int x0)] := hl
  refine lv_aload_n hx hb dX3_append_0 rfl (lv_at hl 0 rfl) ?_
  refine r_get F h (i := 0) (k := 1) (.int (o_this.1 1)) inX3 rfl (by decide) w289 rfl rfl rfl dX3_append_1 ?_
  refine lv_sipush (v := 200) hx hb dX3_append_4 (by decide) ?_
  refine lv_icmp_lt (tgt := 12) hx hb dX3_append_7 (by decide) (fun c1 => ?_) (fun c1 => ?_)
  · have hf := ifp hf c1
    refine lv_aload_n hx hb dX3_append_12 rfl (lv_at hl 0 rfl) ?_
    refine r_get F h (i := 0) (k := 0) (.ref (a0 1)) inX3 rfl (by decide) w290 rfl rfl rfl dX3_append_13 ?_
    refine lv_aload_n hx hb dX3_append_16 rfl (lv_at hl 0 rfl) ?_
    refine r_get F h (i := 0) (k := 1) (.int (o_this.1 1)) inX3 rfl (by decide) w289 rfl rfl rfl dX3_append_17 ?_
    refine lv_iload_n hx hb dX3_append_20 rfl (lv_at hl 1 rfl) ?_
    obtain ⟨g2, hf⟩ := gdb hf
    refine r_cast (o1 := sA o_this 0 (o_this.1 1).toNatClampNeg (vp_nar .char x0)) (w := fun t3 => wX3 K a0 t3) (S' := fun t3 => [wX3 K a0 t3]) F h (i := 0) (j := 1) rfl rfl (vin_ok g2) rfl (fun _ => rfl) dX3_append_21 (fun t3 e3 H locs h => ?_)
    have hf := ltb hf e3
    refine lv_aload_n hx hb dX3_append_22 rfl (lv_at hl 0 rfl) ?_
    refine lv_dup hx hb dX3_append_23 rfl ?_
    refine r_get F h (i := 0) (k := 1) (.int (t3.1 1)) inX3 rfl (by decide) w289 rfl rfl rfl dX3_append_24 ?_
    refine lv_iconst (v := 1) hx hb dX3_append_27 (by decide) ?_
    refine lv_iadd hx hb dX3_append_28 ?_
    refine r_put (o1 := sI t3 1 ((t3.1 1) + 1)) (w := fun t4 => wX3 K a0 t4) (S' := fun t4 => [wX3 K a0 t4]) F h (i := 0) (k := 1) inX3 tyX3_ok nmX3 rfl (by decide) w289 rfl rfl rfl rfl rfl (Nat.le_of_ble_eq_true rfl) rfl (fun _ => rfl) dX3_append_29 (fun t4 e4 H locs h => ?_)
    have hf := ltb hf e4
    refine lv_iconst (v := 1) hx hb dX3_append_32 (by decide) ?_
    obtain rfl := sor hf
    exact r_retz F h rfl dX3_append_33
  · have hf := ifn hf c1
    refine lv_iconst (v := 0) hx hb dX3_append_10 (by decide) ?_
    obtain rfl := sor hf
    exact r_retz F h rfl dX3_append_11
def f3_clear (o_this : ob) : Option (ob) :=
  lt (sI o_this 1 0) fun t1 => some t1
set_option maxRecDepth 100000 in
set_option maxHeartbeats 4000000 in
theorem c3_clear (l : Launch) (D : va_G) (K : Nat → ClassId) (a0 : Nat → Nat) (o_this : ob) (r : ob) (hf : f3_clear o_this = some r) : CTv l yX3_clear cX3_clear 1 0 0 D K [.ref (a0 0)] [wX3 K a0 o_this] [wX3 K a0 r] := by
  unfold f3_clear at hf
  have hf := tob hf
  refine entV (by decide) (Nat.le_of_ble_eq_true rfl) (fun P e s m args below meth c A ls F h hl hin => ?_)
  have hx := F.1
  have hb := F.2.1
  have hl : lv_has ls 1 [(0, .ref (a0 0))] := hl
  refine lv_aload_n hx hb dX3_clear_0 rfl (lv_at hl 0 rfl) ?_
  refine lv_iconst (v := 0) hx hb dX3_clear_1 (by decide) ?_
  refine r_put (o1 := sI o_this 1 0) (w := fun t1 => wX3 K a0 t1) (S' := fun t1 => [wX3 K a0 t1]) F h (i := 0) (k := 1) inX3 tyX3_ok nmX3 rfl (by decide) w289 rfl rfl rfl rfl rfl (Nat.le_of_ble_eq_true rfl) rfl (fun _ => rfl) dX3_clear_2 (fun t1 e1 H locs h => ?_)
  have hf := ltb hf e1
  obtain rfl := sor hf
  exact r_retv F h dX3_clear_5
def f3_readSign (x0 : Int32) (o_this : ob) : Option (Int32 × ob) :=
  (if (o_this.1 1) ≤ (o_this.1 2) then (some (0, o_this)) else (gd (vin (o_this.1 2) 200) <| (if (o_this.2 0 (o_this.1 2).toNatClampNeg) = x0 then (lt (sI o_this 2 ((o_this.1 2) + 1)) fun t4 => some (1, t4)) else (some (0, o_this)))))
set_option maxRecDepth 100000 in
set_option maxHeartbeats 4000000 in
theorem c3_readSign (l : Launch) (D : va_G) (K : Nat → ClassId) (a0 : Nat → Nat) (x0 : Int32) (o_this : ob) (r : Int32 × ob) (hf : f3_readSign x0 o_this = some r) : CTi l yX3_readSign cX3_readSign 2 (some .boolean) 0 0 D K [.ref (a0 0), .int x0] [wX3 K a0 o_this] [wX3 K a0 r.2] r.1 := by
  unfold f3_readSign at hf
  have hf := tob hf
  refine entI (by decide) (Nat.le_of_ble_eq_true rfl) (fun P e s m args below meth c A ls F h hl hin => ?_)
  have hx := F.1
  have hb := F.2.1
  have hl : lv_has ls 2 [(0, .ref (a0 0)), (1, .int x0)] := hl
  refine lv_aload_n hx hb dX3_readSign_0 rfl (lv_at hl 0 rfl) ?_
  refine r_get F h (i := 0) (k := 2) (.int (o_this.1 2)) inX3 rfl (by decide) w291 rfl rfl rfl dX3_readSign_1 ?_
  refine lv_aload_n hx hb dX3_readSign_4 rfl (lv_at hl 0 rfl) ?_
  refine r_get F h (i := 0) (k := 1) (.int (o_this.1 1)) inX3 rfl (by decide) w289 rfl rfl rfl dX3_readSign_5 ?_
  refine lv_icmp_ge (tgt := 24) hx hb dX3_readSign_8 (by decide) (fun c1 => ?_) (fun c1 => ?_)
  · have hf := ifp hf c1
    refine lv_iconst (v := 0) hx hb dX3_readSign_24 (by decide) ?_
    obtain rfl := sor hf
    exact r_retz F h rfl dX3_readSign_25
  · have hf := ifn hf c1
    refine lv_aload_n hx hb dX3_readSign_11 rfl (lv_at hl 0 rfl) ?_
    refine r_get F h (i := 0) (k := 0) (.ref (a0 1)) inX3 rfl (by decide) w290 rfl rfl rfl dX3_readSign_12 ?_
    refine lv_aload_n hx hb dX3_readSign_15 rfl (lv_at hl 0 rfl) ?_
    refine r_get F h (i := 0) (k := 2) (.int (o_this.1 2)) inX3 rfl (by decide) w291 rfl rfl rfl dX3_readSign_16 ?_
    obtain ⟨g2, hf⟩ := gdb hf
    refine r_cald F h (i := 0) (j := 1) rfl rfl (vin_ok g2) dX3_readSign_19 ?_
    refine lv_iload_n hx hb dX3_readSign_20 rfl (lv_at hl 1 rfl) ?_
    refine lv_icmp_eq (tgt := 26) hx hb dX3_readSign_21 (by decide) (fun c3 => ?_) (fun c3 => ?_)
    · have hf := ifp hf c3
      refine lv_aload_n hx hb dX3_readSign_26 rfl (lv_at hl 0 rfl) ?_
      refine lv_dup hx hb dX3_readSign_27 rfl ?_
      refine r_get F h (i := 0) (k := 2) (.int (o_this.1 2)) inX3 rfl (by decide) w291 rfl rfl rfl dX3_readSign_28 ?_
      refine lv_iconst (v := 1) hx hb dX3_readSign_31 (by decide) ?_
      refine lv_iadd hx hb dX3_readSign_32 ?_
      refine r_put (o1 := sI o_this 2 ((o_this.1 2) + 1)) (w := fun t4 => wX3 K a0 t4) (S' := fun t4 => [wX3 K a0 t4]) F h (i := 0) (k := 2) inX3 tyX3_ok nmX3 rfl (by decide) w291 rfl rfl rfl rfl rfl (Nat.le_of_ble_eq_true rfl) rfl (fun _ => rfl) dX3_readSign_33 (fun t4 e4 H locs h => ?_)
      have hf := ltb hf e4
      refine lv_iconst (v := 1) hx hb dX3_readSign_36 (by decide) ?_
      obtain rfl := sor hf
      exact r_retz F h rfl dX3_readSign_37
    · have hf := ifn hf c3
      refine lv_iconst (v := 0) hx hb dX3_readSign_24 (by decide) ?_
      obtain rfl := sor hf
      exact r_retz F h rfl dX3_readSign_25
def f3_readDigit (x0 : Int32) (o_this : ob) : Option (Int32 × ob) :=
  (if (o_this.1 1) ≤ (o_this.1 2) then (some ((-1), o_this)) else (gd (vin (o_this.1 2) 200) <| (if (o_this.2 0 (o_this.1 2).toNatClampNeg) < 48 then (some ((-1), o_this)) else (gd (vin (o_this.1 2) 200) <| (if ((o_this.2 0 (o_this.1 2).toNatClampNeg) - 48) < x0 then (gd (vin (o_this.1 2) 200) <| lt ((o_this.2 0 (o_this.1 2).toNatClampNeg) - 48) fun y7 => lt (sI o_this 2 ((o_this.1 2) + 1)) fun t8 => some (y7, t8)) else (some ((-1), o_this)))))))
set_option maxRecDepth 100000 in
set_option maxHeartbeats 4000000 in
theorem c3_readDigit (l : Launch) (D : va_G) (K : Nat → ClassId) (a0 : Nat → Nat) (x0 : Int32) (o_this : ob) (r : Int32 × ob) (hf : f3_readDigit x0 o_this = some r) : CTi l yX3_readDigit cX3_readDigit 3 (some .int) 0 0 D K [.ref (a0 0), .int x0] [wX3 K a0 o_this] [wX3 K a0 r.2] r.1 := by
  unfold f3_readDigit at hf
  have hf := tob hf
  refine entI (by decide) (Nat.le_of_ble_eq_true rfl) (fun P e s m args below meth c A ls F h hl hin => ?_)
  have hx := F.1
  have hb := F.2.1
  have hl : lv_has ls 3 [(0, .ref (a0 0)), (1, .int x0)] := hl
  refine lv_aload_n hx hb dX3_readDigit_0 rfl (lv_at hl 0 rfl) ?_
  refine r_get F h (i := 0) (k := 2) (.int (o_this.1 2)) inX3 rfl (by decide) w291 rfl rfl rfl dX3_readDigit_1 ?_
  refine lv_aload_n hx hb dX3_readDigit_4 rfl (lv_at hl 0 rfl) ?_
  refine r_get F h (i := 0) (k := 1) (.int (o_this.1 1)) inX3 rfl (by decide) w289 rfl rfl rfl dX3_readDigit_5 ?_
  refine lv_icmp_ge (tgt := 41) hx hb dX3_readDigit_8 (by decide) (fun c1 => ?_) (fun c1 => ?_)
  · have hf := ifp hf c1
    refine lv_iconst (v := (-1)) hx hb dX3_readDigit_41 (by decide) ?_
    obtain rfl := sor hf
    exact r_reti F h dX3_readDigit_42
  · have hf := ifn hf c1
    refine lv_aload_n hx hb dX3_readDigit_11 rfl (lv_at hl 0 rfl) ?_
    refine r_get F h (i := 0) (k := 0) (.ref (a0 1)) inX3 rfl (by decide) w290 rfl rfl rfl dX3_readDigit_12 ?_
    refine lv_aload_n hx hb dX3_readDigit_15 rfl (lv_at hl 0 rfl) ?_
    refine r_get F h (i := 0) (k := 2) (.int (o_this.1 2)) inX3 rfl (by decide) w291 rfl rfl rfl dX3_readDigit_16 ?_
    obtain ⟨g2, hf⟩ := gdb hf
    refine r_cald F h (i := 0) (j := 1) rfl rfl (vin_ok g2) dX3_readDigit_19 ?_
    refine lv_bipush (v := 48) hx hb dX3_readDigit_20 (by decide) ?_
    refine lv_icmp_lt (tgt := 41) hx hb dX3_readDigit_22 (by decide) (fun c3 => ?_) (fun c3 => ?_)
    · have hf := ifp hf c3
      refine lv_iconst (v := (-1)) hx hb dX3_readDigit_41 (by decide) ?_
      obtain rfl := sor hf
      exact r_reti F h dX3_readDigit_42
    · have hf := ifn hf c3
      refine lv_aload_n hx hb dX3_readDigit_25 rfl (lv_at hl 0 rfl) ?_
      refine r_get F h (i := 0) (k := 0) (.ref (a0 1)) inX3 rfl (by decide) w290 rfl rfl rfl dX3_readDigit_26 ?_
      refine lv_aload_n hx hb dX3_readDigit_29 rfl (lv_at hl 0 rfl) ?_
      refine r_get F h (i := 0) (k := 2) (.int (o_this.1 2)) inX3 rfl (by decide) w291 rfl rfl rfl dX3_readDigit_30 ?_
      obtain ⟨g4, hf⟩ := gdb hf
      refine r_cald F h (i := 0) (j := 1) rfl rfl (vin_ok g4) dX3_readDigit_33 ?_
      refine lv_bipush (v := 48) hx hb dX3_readDigit_34 (by decide) ?_
      refine lv_isub hx hb dX3_readDigit_36 ?_
      refine lv_iload_n hx hb dX3_readDigit_37 rfl (lv_at hl 1 rfl) ?_
      refine lv_icmp_lt (tgt := 43) hx hb dX3_readDigit_38 (by decide) (fun c5 => ?_) (fun c5 => ?_)
      · have hf := ifp hf c5
        refine lv_aload_n hx hb dX3_readDigit_43 rfl (lv_at hl 0 rfl) ?_
        refine r_get F h (i := 0) (k := 0) (.ref (a0 1)) inX3 rfl (by decide) w290 rfl rfl rfl dX3_readDigit_44 ?_
        refine lv_aload_n hx hb dX3_readDigit_47 rfl (lv_at hl 0 rfl) ?_
        refine r_get F h (i := 0) (k := 2) (.int (o_this.1 2)) inX3 rfl (by decide) w291 rfl rfl rfl dX3_readDigit_48 ?_
        obtain ⟨g6, hf⟩ := gdb hf
        refine r_cald F h (i := 0) (j := 1) rfl rfl (vin_ok g6) dX3_readDigit_51 ?_
        refine lv_bipush (v := 48) hx hb dX3_readDigit_52 (by decide) ?_
        refine lv_isub hx hb dX3_readDigit_54 ?_
        refine lv_topi (fun y7 e7 => ?_)
        have hf := ltb hf e7
        refine lv_istore_n (lv' := [(2, .int y7), (0, .ref (a0 0)), (1, .int x0)]) hx hb dX3_readDigit_55 rfl hl (by decide) rfl (fun ls hl => ?_)
        refine lv_aload_n hx hb dX3_readDigit_56 rfl (lv_at hl 1 rfl) ?_
        refine lv_dup hx hb dX3_readDigit_57 rfl ?_
        refine r_get F h (i := 0) (k := 2) (.int (o_this.1 2)) inX3 rfl (by decide) w291 rfl rfl rfl dX3_readDigit_58 ?_
        refine lv_iconst (v := 1) hx hb dX3_readDigit_61 (by decide) ?_
        refine lv_iadd hx hb dX3_readDigit_62 ?_
        refine r_put (o1 := sI o_this 2 ((o_this.1 2) + 1)) (w := fun t8 => wX3 K a0 t8) (S' := fun t8 => [wX3 K a0 t8]) F h (i := 0) (k := 2) inX3 tyX3_ok nmX3 rfl (by decide) w291 rfl rfl rfl rfl rfl (Nat.le_of_ble_eq_true rfl) rfl (fun _ => rfl) dX3_readDigit_63 (fun t8 e8 H locs h => ?_)
        have hf := ltb hf e8
        refine lv_iload_n hx hb dX3_readDigit_66 rfl (lv_at hl 0 rfl) ?_
        obtain rfl := sor hf
        exact r_reti F h dX3_readDigit_67
      · have hf := ifn hf c5
        refine lv_iconst (v := (-1)) hx hb dX3_readDigit_41 (by decide) ?_
        obtain rfl := sor hf
        exact r_reti F h dX3_readDigit_42
def f3_readLetter (o_this : ob) : Option (Int32 × ob) :=
  (if (o_this.1 1) ≤ (o_this.1 2) then (some ((-1), o_this)) else (gd (vin (o_this.1 2) 200) <| (if (o_this.2 0 (o_this.1 2).toNatClampNeg) < 97 then (some ((-1), o_this)) else (gd (vin (o_this.1 2) 200) <| (if ((o_this.2 0 (o_this.1 2).toNatClampNeg) - 97) < 4 then (gd (vin (o_this.1 2) 200) <| lt ((o_this.2 0 (o_this.1 2).toNatClampNeg) - 97) fun y7 => lt (sI o_this 2 ((o_this.1 2) + 1)) fun t8 => some (y7, t8)) else (some ((-1), o_this)))))))
set_option maxRecDepth 100000 in
set_option maxHeartbeats 4000000 in
theorem c3_readLetter (l : Launch) (D : va_G) (K : Nat → ClassId) (a0 : Nat → Nat) (o_this : ob) (r : Int32 × ob) (hf : f3_readLetter o_this = some r) : CTi l yX3_readLetter cX3_readLetter 2 (some .int) 0 0 D K [.ref (a0 0)] [wX3 K a0 o_this] [wX3 K a0 r.2] r.1 := by
  unfold f3_readLetter at hf
  have hf := tob hf
  refine entI (by decide) (Nat.le_of_ble_eq_true rfl) (fun P e s m args below meth c A ls F h hl hin => ?_)
  have hx := F.1
  have hb := F.2.1
  have hl : lv_has ls 2 [(0, .ref (a0 0))] := hl
  refine lv_aload_n hx hb dX3_readLetter_0 rfl (lv_at hl 0 rfl) ?_
  refine r_get F h (i := 0) (k := 2) (.int (o_this.1 2)) inX3 rfl (by decide) w291 rfl rfl rfl dX3_readLetter_1 ?_
  refine lv_aload_n hx hb dX3_readLetter_4 rfl (lv_at hl 0 rfl) ?_
  refine r_get F h (i := 0) (k := 1) (.int (o_this.1 1)) inX3 rfl (by decide) w289 rfl rfl rfl dX3_readLetter_5 ?_
  refine lv_icmp_ge (tgt := 41) hx hb dX3_readLetter_8 (by decide) (fun c1 => ?_) (fun c1 => ?_)
  · have hf := ifp hf c1
    refine lv_iconst (v := (-1)) hx hb dX3_readLetter_41 (by decide) ?_
    obtain rfl := sor hf
    exact r_reti F h dX3_readLetter_42
  · have hf := ifn hf c1
    refine lv_aload_n hx hb dX3_readLetter_11 rfl (lv_at hl 0 rfl) ?_
    refine r_get F h (i := 0) (k := 0) (.ref (a0 1)) inX3 rfl (by decide) w290 rfl rfl rfl dX3_readLetter_12 ?_
    refine lv_aload_n hx hb dX3_readLetter_15 rfl (lv_at hl 0 rfl) ?_
    refine r_get F h (i := 0) (k := 2) (.int (o_this.1 2)) inX3 rfl (by decide) w291 rfl rfl rfl dX3_readLetter_16 ?_
    obtain ⟨g2, hf⟩ := gdb hf
    refine r_cald F h (i := 0) (j := 1) rfl rfl (vin_ok g2) dX3_readLetter_19 ?_
    refine lv_bipush (v := 97) hx hb dX3_readLetter_20 (by decide) ?_
    refine lv_icmp_lt (tgt := 41) hx hb dX3_readLetter_22 (by decide) (fun c3 => ?_) (fun c3 => ?_)
    · have hf := ifp hf c3
      refine lv_iconst (v := (-1)) hx hb dX3_readLetter_41 (by decide) ?_
      obtain rfl := sor hf
      exact r_reti F h dX3_readLetter_42
    · have hf := ifn hf c3
      refine lv_aload_n hx hb dX3_readLetter_25 rfl (lv_at hl 0 rfl) ?_
      refine r_get F h (i := 0) (k := 0) (.ref (a0 1)) inX3 rfl (by decide) w290 rfl rfl rfl dX3_readLetter_26 ?_
      refine lv_aload_n hx hb dX3_readLetter_29 rfl (lv_at hl 0 rfl) ?_
      refine r_get F h (i := 0) (k := 2) (.int (o_this.1 2)) inX3 rfl (by decide) w291 rfl rfl rfl dX3_readLetter_30 ?_
      obtain ⟨g4, hf⟩ := gdb hf
      refine r_cald F h (i := 0) (j := 1) rfl rfl (vin_ok g4) dX3_readLetter_33 ?_
      refine lv_bipush (v := 97) hx hb dX3_readLetter_34 (by decide) ?_
      refine lv_isub hx hb dX3_readLetter_36 ?_
      refine lv_iconst (v := 4) hx hb dX3_readLetter_37 (by decide) ?_
      refine lv_icmp_lt (tgt := 43) hx hb dX3_readLetter_38 (by decide) (fun c5 => ?_) (fun c5 => ?_)
      · have hf := ifp hf c5
        refine lv_aload_n hx hb dX3_readLetter_43 rfl (lv_at hl 0 rfl) ?_
        refine r_get F h (i := 0) (k := 0) (.ref (a0 1)) inX3 rfl (by decide) w290 rfl rfl rfl dX3_readLetter_44 ?_
        refine lv_aload_n hx hb dX3_readLetter_47 rfl (lv_at hl 0 rfl) ?_
        refine r_get F h (i := 0) (k := 2) (.int (o_this.1 2)) inX3 rfl (by decide) w291 rfl rfl rfl dX3_readLetter_48 ?_
        obtain ⟨g6, hf⟩ := gdb hf
        refine r_cald F h (i := 0) (j := 1) rfl rfl (vin_ok g6) dX3_readLetter_51 ?_
        refine lv_bipush (v := 97) hx hb dX3_readLetter_52 (by decide) ?_
        refine lv_isub hx hb dX3_readLetter_54 ?_
        refine lv_topi (fun y7 e7 => ?_)
        have hf := ltb hf e7
        refine lv_istore_n (lv' := [(1, .int y7), (0, .ref (a0 0))]) hx hb dX3_readLetter_55 rfl hl (by decide) rfl (fun ls hl => ?_)
        refine lv_aload_n hx hb dX3_readLetter_56 rfl (lv_at hl 1 rfl) ?_
        refine lv_dup hx hb dX3_readLetter_57 rfl ?_
        refine r_get F h (i := 0) (k := 2) (.int (o_this.1 2)) inX3 rfl (by decide) w291 rfl rfl rfl dX3_readLetter_58 ?_
        refine lv_iconst (v := 1) hx hb dX3_readLetter_61 (by decide) ?_
        refine lv_iadd hx hb dX3_readLetter_62 ?_
        refine r_put (o1 := sI o_this 2 ((o_this.1 2) + 1)) (w := fun t8 => wX3 K a0 t8) (S' := fun t8 => [wX3 K a0 t8]) F h (i := 0) (k := 2) inX3 tyX3_ok nmX3 rfl (by decide) w291 rfl rfl rfl rfl rfl (Nat.le_of_ble_eq_true rfl) rfl (fun _ => rfl) dX3_readLetter_63 (fun t8 e8 H locs h => ?_)
        have hf := ltb hf e8
        refine lv_iload_n hx hb dX3_readLetter_66 rfl (lv_at hl 0 rfl) ?_
        obtain rfl := sor hf
        exact r_reti F h dX3_readLetter_67
      · have hf := ifn hf c5
        refine lv_iconst (v := (-1)) hx hb dX3_readLetter_41 (by decide) ?_
        obtain rfl := sor hf
        exact r_reti F h dX3_readLetter_42
def f3_readWord_L4 (g0 : Int32) (z1 : Int32 × Int32 × ob) : Option (Nat × (Int32 × Int32 × ob)) :=
  (if g0 ≤ z1.2.1 then (some (2, (z1.1, z1.2.1, z1.2.2))) else ((if 6 ≤ z1.2.1 then (some (2, (z1.1, z1.2.1, z1.2.2))) else ((f3_readLetter z1.2.2).bind fun q4 => (if 0 ≤ q4.1 then (gd (vin z1.2.1 6) <| lt (sA q4.2 3 z1.2.1.toNatClampNeg q4.1) fun t7 => lt (z1.1 + 1) fun y8 => lt (z1.2.1 + 1) fun y9 => some (0, (y8, y9, t7))) else (some (1, (z1.1, z1.2.1, q4.2))))))))
noncomputable def f3_readWord (x0 : Int32) (o_this : ob) : Option (Int32 × ob) :=
  (wh (f3_readWord_L4 x0) (0, 0, o_this)).bind fun q1 => (if q1.1 = 1 then (some (q1.2.1, q1.2.2.2)) else (some (q1.2.1, q1.2.2.2)))
set_option maxRecDepth 100000 in
set_option maxHeartbeats 4000000 in
theorem c3_readWord (l : Launch) (D : va_G) (K : Nat → ClassId) (a0 : Nat → Nat) (x0 : Int32) (o_this : ob) (r : Int32 × ob) (hf : f3_readWord x0 o_this = some r) : CTi l yX3_readWord cX3_readWord 5 (some .int) 1 21 D K [.ref (a0 0), .int x0] [wX3 K a0 o_this] [wX3 K a0 r.2] r.1 := by
  unfold f3_readWord at hf
  have hf := tob hf
  refine entI (by decide) (Nat.le_of_ble_eq_true rfl) (fun P e s m args below meth c A ls F h hl hin => ?_)
  have hx := F.1
  have hb := F.2.1
  have hl : lv_has ls 5 [(0, .ref (a0 0)), (1, .int x0)] := hl
  refine lv_iconst (v := 0) hx hb dX3_readWord_0 (by decide) ?_
  refine lv_istore_n (lv' := [(2, .int 0), (0, .ref (a0 0)), (1, .int x0)]) hx hb dX3_readWord_1 rfl hl (by decide) rfl (fun ls hl => ?_)
  refine lv_iconst (v := 0) hx hb dX3_readWord_2 (by decide) ?_
  refine lv_istore_n (lv' := [(3, .int 0), (2, .int 0), (0, .ref (a0 0)), (1, .int x0)]) hx hb dX3_readWord_3 rfl hl (by decide) rfl (fun ls hl => ?_)
  obtain ⟨q1, hq1, hf⟩ := asb hf
  obtain ⟨nq1, hq1⟩ := wh_out hq1
  have Xq1_1 : ∀ (z1 : Int32 × Int32 × ob) (H : Heap) (locs : List Loc) (ls : Array Slot), q1 = (1, z1) → WD D A s.heap H locs [wX3 K a0 z1.2.2] → lv_has ls 5 [(2, .int z1.1)] → W P l e (rmS 1 21) s m args below meth c H locs 0 0 (MQ below (QiS D A [wX3 K a0 r.2] r.1) args s 0 0 A) (F0 m 26 ls []) := by
    intro z1 H locs ls eq1 h hl
    obtain rfl : z1 = q1.2 := by rw [eq1]
    have hf := ifp hf (show q1.1 = 1 by rw [eq1])
    refine lv_goto (tgt := 46) hx hb dX3_readWord_26 (by decide) ?_
    refine lv_iload_n hx hb dX3_readWord_46 rfl (lv_at hl 0 rfl) ?_
    obtain rfl := sor hf
    exact r_reti F h dX3_readWord_47
  have Xq1_2 : ∀ (z1 : Int32 × Int32 × ob) (H : Heap) (locs : List Loc) (ls : Array Slot), q1 = (2, z1) → WD D A s.heap H locs [wX3 K a0 z1.2.2] → lv_has ls 5 [(2, .int z1.1)] → W P l e (rmS 1 21) s m args below meth c H locs 0 0 (MQ below (QiS D A [wX3 K a0 r.2] r.1) args s 0 0 A) (F0 m 46 ls []) := by
    intro z1 H locs ls eq1 h hl
    obtain rfl : z1 = q1.2 := by rw [eq1]
    have hf := ifn hf (show ¬ q1.1 = 1 by rw [show q1.1 = 2 by rw [eq1]]; decide)
    refine lv_iload_n hx hb dX3_readWord_46 rfl (lv_at hl 0 rfl) ?_
    obtain rfl := sor hf
    exact r_reti F h dX3_readWord_47
  have Lq1 : ∀ (n : Nat) (z1 : Int32 × Int32 × ob) (H : Heap) (locs : List Loc) (ls : Array Slot), iter (f3_readWord_L4 x0) n z1 = some q1 → WD D A s.heap H locs [wX3 K a0 z1.2.2] → lv_has ls 5 [(0, .ref (a0 0)), (1, .int x0), (2, .int z1.1), (3, .int z1.2.1)] → W P l e (rmS 1 21) s m args below meth c H locs 0 0 (MQ below (QiS D A [wX3 K a0 r.2] r.1) args s 0 0 A) (F0 m 4 ls []) := by
    intro n
    induction n with
    | zero => intro z1 H locs ls hi; exact (iter_0 hi).elim
    | succ n ihq1 =>
      intro z1 H locs ls hi h hl
      obtain ⟨uq1, hf, huq1⟩ := iter_s hi
      unfold f3_readWord_L4 at hf
      have hf := tob hf
      refine lv_iload_n hx hb dX3_readWord_4 rfl (lv_at hl 3 rfl) ?_
      refine lv_iload_n hx hb dX3_readWord_5 rfl (lv_at hl 1 rfl) ?_
      refine lv_icmp_ge (tgt := 46) hx hb dX3_readWord_6 (by decide) (fun c2 => ?_) (fun c2 => ?_)
      · have hf := ifp hf c2
        exact Xq1_2 _ _ _ _ (itr_x huq1 (sor hf)) h (lv_sub hl [2] rfl)
      · have hf := ifn hf c2
        refine lv_iload_n hx hb dX3_readWord_9 rfl (lv_at hl 3 rfl) ?_
        refine lv_bipush (v := 6) hx hb dX3_readWord_10 (by decide) ?_
        refine lv_icmp_ge (tgt := 46) hx hb dX3_readWord_12 (by decide) (fun c3 => ?_) (fun c3 => ?_)
        · have hf := ifp hf c3
          exact Xq1_2 _ _ _ _ (itr_x huq1 (sor hf)) h (lv_sub hl [2] rfl)
        · have hf := ifn hf c3
          refine lv_aload_n hx hb dX3_readWord_15 rfl (lv_at hl 0 rfl) ?_
          obtain ⟨q4, h4, hf⟩ := asb hf
          refine r_callVi (As := []) (rest := []) (C0 := [wX3 K a0 z1.2.2]) (C1 := [wX3 K a0 q4.2]) (Rr := []) (S' := [wX3 K a0 q4.2]) F h hl (c3_readLetter l D K a0 z1.2.2 q4 h4) [0] rfl rfl rfl rfl rfl (i := 0) rfl rfl w293 ⟨w294, w295, w296, w297⟩ hsc3_readLetter ⟨Nat.le_of_ble_eq_true rfl, Nat.le_of_ble_eq_true rfl⟩ ⟨Nat.le_refl 0, Nat.le_refl 0⟩ (Nat.le_of_ble_eq_true rfl) dX3_readWord_16 (fun H locs h => ?_)
          refine lv_istore (lv' := [(4, .int q4.1), (0, .ref (a0 0)), (1, .int x0), (2, .int z1.1), (3, .int z1.2.1)]) hx hb dX3_readWord_19 hl (by decide) rfl (fun ls hl => ?_)
          refine lv_iload hx hb dX3_readWord_21 (lv_at hl 0 rfl) ?_
          refine lv_if_ge (tgt := 29) hx hb dX3_readWord_23 (by decide) (fun c5 => ?_) (fun c5 => ?_)
          · have hf := ifp hf c5
            refine lv_aload_n hx hb dX3_readWord_29 rfl (lv_at hl 1 rfl) ?_
            refine r_get F h (i := 0) (k := 3) (.ref (a0 4)) inX3 rfl (by decide) w292 rfl rfl rfl dX3_readWord_30 ?_
            refine lv_iload_n hx hb dX3_readWord_33 rfl (lv_at hl 4 rfl) ?_
            refine lv_iload hx hb dX3_readWord_34 (lv_at hl 0 rfl) ?_
            obtain ⟨g6, hf⟩ := gdb hf
            refine r_iast (o1 := sA q4.2 3 z1.2.1.toNatClampNeg q4.1) (w := fun t7 => wX3 K a0 t7) (S' := fun t7 => [wX3 K a0 t7]) F h (i := 0) (j := 2) rfl rfl (vin_ok g6) rfl (fun _ => rfl) dX3_readWord_36 (fun t7 e7 H locs h => ?_)
            have hf := ltb hf e7
            obtain ⟨y8, e8⟩ : ∃ y : Int32, y = z1.1 + 1 := ⟨_, rfl⟩
            have hf := ltb hf e8
            refine lv_iinc (v := y8) (lv' := [(2, .int y8), (4, .int q4.1), (0, .ref (a0 0)), (1, .int x0), (3, .int z1.2.1)]) hx hb dX3_readWord_37 hl (k := 3) rfl (by rw [e8]; rfl) (by decide) rfl (fun ls hl => ?_)
            obtain ⟨y9, e9⟩ : ∃ y : Int32, y = z1.2.1 + 1 := ⟨_, rfl⟩
            have hf := ltb hf e9
            refine lv_iinc (v := y9) (lv' := [(3, .int y9), (2, .int y8), (4, .int q4.1), (0, .ref (a0 0)), (1, .int x0)]) hx hb dX3_readWord_40 hl (k := 4) rfl (by rw [e9]; rfl) (by decide) rfl (fun ls hl => ?_)
            refine lv_goto (tgt := 4) hx hb dX3_readWord_43 (by decide) ?_
            exact ihq1 _ _ _ _ (itr_c huq1 (sor hf)) h (lv_sub hl [3, 4, 1, 0] rfl)
          · have hf := ifn hf c5
            exact Xq1_1 _ _ _ _ (itr_x huq1 (sor hf)) h (lv_sub hl [3] rfl)
  exact Lq1 _ _ _ _ _ hq1 h (lv_sub hl [2, 3, 1, 0] rfl)
def f3_wordFrom (x0 : Int32) (o_this : ob) : Option (Int32) :=
  (if x0 = 0 then (some 0) else ((if x0 = 1 then (gd (vin 0 6) <| some (1 + (o_this.2 3 (0 : Int32).toNatClampNeg))) else (gd (vin 0 6) <| gd (vin 1 6) <| (f5_wordOf (o_this.2 3 (0 : Int32).toNatClampNeg) (o_this.2 3 (1 : Int32).toNatClampNeg)).bind fun q5 => some q5))))
set_option maxRecDepth 100000 in
set_option maxHeartbeats 4000000 in
theorem c3_wordFrom (l : Launch) (D : va_G) (K : Nat → ClassId) (a0 : Nat → Nat) (x0 : Int32) (o_this : ob) (r : Int32) (hf : f3_wordFrom x0 o_this = some r) : CTi l yX3_wordFrom cX3_wordFrom 2 (some .int) 1 21 D K [.ref (a0 0), .int x0] [wX3 K a0 o_this] [wX3 K a0 o_this] r := by
  unfold f3_wordFrom at hf
  have hf := tob hf
  refine entI (by decide) (Nat.le_of_ble_eq_true rfl) (fun P e s m args below meth c A ls F h hl hin => ?_)
  have hx := F.1
  have hb := F.2.1
  have hl : lv_has ls 2 [(0, .ref (a0 0)), (1, .int x0)] := hl
  refine lv_iload_n hx hb dX3_wordFrom_0 rfl (lv_at hl 1 rfl) ?_
  refine lv_if_ne (tgt := 6) hx hb dX3_wordFrom_1 (by decide) (fun c1 => ?_) (fun c1 => ?_)
  · have hf := ifn hf c1
    refine lv_iload_n hx hb dX3_wordFrom_6 rfl (lv_at hl 1 rfl) ?_
    refine lv_iconst (v := 1) hx hb dX3_wordFrom_7 (by decide) ?_
    refine lv_icmp_ne (tgt := 22) hx hb dX3_wordFrom_8 (by decide) (fun c2 => ?_) (fun c2 => ?_)
    · have hf := ifn hf c2
      refine lv_aload_n hx hb dX3_wordFrom_22 rfl (lv_at hl 0 rfl) ?_
      refine r_get F h (i := 0) (k := 3) (.ref (a0 4)) inX3 rfl (by decide) w292 rfl rfl rfl dX3_wordFrom_23 ?_
      refine lv_iconst (v := 0) hx hb dX3_wordFrom_26 (by decide) ?_
      obtain ⟨g3, hf⟩ := gdb hf
      refine r_iald F h (i := 0) (j := 2) rfl rfl (vin_ok g3) dX3_wordFrom_27 ?_
      refine lv_aload_n hx hb dX3_wordFrom_28 rfl (lv_at hl 0 rfl) ?_
      refine r_get F h (i := 0) (k := 3) (.ref (a0 4)) inX3 rfl (by decide) w292 rfl rfl rfl dX3_wordFrom_29 ?_
      refine lv_iconst (v := 1) hx hb dX3_wordFrom_32 (by decide) ?_
      obtain ⟨g4, hf⟩ := gdb hf
      refine r_iald F h (i := 0) (j := 2) rfl rfl (vin_ok g4) dX3_wordFrom_33 ?_
      obtain ⟨q5, h5, hf⟩ := asb hf
      refine r_callN (As := [.int (o_this.2 3 (0 : Int32).toNatClampNeg), .int (o_this.2 3 (1 : Int32).toNatClampNeg)]) (rest := []) F h hl (c5_wordOf l D K (o_this.2 3 (0 : Int32).toNatClampNeg) (o_this.2 3 (1 : Int32).toNatClampNeg) q5 h5) w299 ⟨by decide +kernel, w298, w266⟩ hsc5_wordOf ⟨Nat.le_of_ble_eq_true rfl, Nat.le_of_ble_eq_true rfl⟩ ⟨Nat.le_refl 0, Nat.le_refl 0⟩ (Nat.le_of_ble_eq_true rfl) dX3_wordFrom_34 (fun H locs h => ?_)
      obtain rfl := sor hf
      exact r_reti F h dX3_wordFrom_37
    · have hf := ifp hf c2
      refine lv_iconst (v := 1) hx hb dX3_wordFrom_11 (by decide) ?_
      refine lv_aload_n hx hb dX3_wordFrom_12 rfl (lv_at hl 0 rfl) ?_
      refine r_get F h (i := 0) (k := 3) (.ref (a0 4)) inX3 rfl (by decide) w292 rfl rfl rfl dX3_wordFrom_13 ?_
      refine lv_iconst (v := 0) hx hb dX3_wordFrom_16 (by decide) ?_
      obtain ⟨g6, hf⟩ := gdb hf
      refine r_iald F h (i := 0) (j := 2) rfl rfl (vin_ok g6) dX3_wordFrom_17 ?_
      refine lv_iadd hx hb dX3_wordFrom_18 ?_
      refine lv_goto (tgt := 37) hx hb dX3_wordFrom_19 (by decide) ?_
      obtain rfl := sor hf
      exact r_reti F h dX3_wordFrom_37
  · have hf := ifp hf c1
    refine lv_iconst (v := 0) hx hb dX3_wordFrom_4 (by decide) ?_
    obtain rfl := sor hf
    exact r_reti F h dX3_wordFrom_5
def f3_readStates (o_this : ob) (o_p0 : ob) : Option (Int32 × ob × ob) :=
  (f3_readDigit 4 o_this).bind fun q1 => (if q1.1 < 1 then (some (0, q1.2, o_p0)) else ((f3_readSign 59 q1.2).bind fun q3 => (if q3.1 = 0 then (some (0, q3.2, o_p0)) else (lt (sI o_p0 0 q1.1) fun t5 => some (1, q3.2, t5)))))
set_option maxRecDepth 100000 in
set_option maxHeartbeats 4000000 in
theorem c3_readStates (l : Launch) (D : va_G) (K : Nat → ClassId) (a0 : Nat → Nat) (a1 : Nat → Nat) (o_this : ob) (o_p0 : ob) (r : Int32 × ob × ob) (hf : f3_readStates o_this o_p0 = some r) : CTi l yX3_readStates cX3_readStates 3 (some .boolean) 1 22 D K [.ref (a0 0), .ref (a1 0)] [wX3 K a0 o_this, wX4 K a1 o_p0] [wX3 K a0 r.2.1, wX4 K a1 r.2.2] r.1 := by
  unfold f3_readStates at hf
  have hf := tob hf
  refine entI (by decide) (Nat.le_of_ble_eq_true rfl) (fun P e s m args below meth c A ls F h hl hin => ?_)
  have hx := F.1
  have hb := F.2.1
  have hl : lv_has ls 3 [(0, .ref (a0 0)), (1, .ref (a1 0))] := hl
  refine lv_aload_n hx hb dX3_readStates_0 rfl (lv_at hl 0 rfl) ?_
  refine lv_iconst (v := 4) hx hb dX3_readStates_1 (by decide) ?_
  obtain ⟨q1, h1, hf⟩ := asb hf
  refine r_callVi (As := [.int 4]) (rest := []) (C0 := [wX3 K a0 o_this]) (C1 := [wX3 K a0 q1.2]) (Rr := [wX4 K a1 o_p0]) (S' := [wX3 K a0 q1.2, wX4 K a1 o_p0]) F h hl (c3_readDigit l D K a0 4 o_this q1 h1) [0, 1] rfl rfl rfl rfl rfl (i := 0) rfl rfl w301 ⟨w302, w303, w304, w297⟩ hsc3_readDigit ⟨Nat.le_of_ble_eq_true rfl, Nat.le_of_ble_eq_true rfl⟩ ⟨Nat.le_refl 0, Nat.le_refl 0⟩ (Nat.le_of_ble_eq_true rfl) dX3_readStates_2 (fun H locs h => ?_)
  refine lv_istore_n (lv' := [(2, .int q1.1), (0, .ref (a0 0)), (1, .ref (a1 0))]) hx hb dX3_readStates_5 rfl hl (by decide) rfl (fun ls hl => ?_)
  refine lv_iload_n hx hb dX3_readStates_6 rfl (lv_at hl 0 rfl) ?_
  refine lv_iconst (v := 1) hx hb dX3_readStates_7 (by decide) ?_
  refine lv_icmp_lt (tgt := 20) hx hb dX3_readStates_8 (by decide) (fun c2 => ?_) (fun c2 => ?_)
  · have hf := ifp hf c2
    refine lv_iconst (v := 0) hx hb dX3_readStates_20 (by decide) ?_
    obtain rfl := sor hf
    exact r_retz F h rfl dX3_readStates_21
  · have hf := ifn hf c2
    refine lv_aload_n hx hb dX3_readStates_11 rfl (lv_at hl 1 rfl) ?_
    refine lv_bipush (v := 59) hx hb dX3_readStates_12 (by decide) ?_
    obtain ⟨q3, h3, hf⟩ := asb hf
    refine r_callVi (As := [.int 59]) (rest := []) (C0 := [wX3 K a0 q1.2]) (C1 := [wX3 K a0 q3.2]) (Rr := [wX4 K a1 o_p0]) (S' := [wX3 K a0 q3.2, wX4 K a1 o_p0]) F h hl (c3_readSign l D K a0 59 q1.2 q3 h3) [0, 1] rfl rfl rfl rfl rfl (i := 0) rfl rfl w305 ⟨w306, w307, w308, w297⟩ hsc3_readSign ⟨Nat.le_of_ble_eq_true rfl, Nat.le_of_ble_eq_true rfl⟩ ⟨Nat.le_refl 0, Nat.le_refl 0⟩ (Nat.le_of_ble_eq_true rfl) dX3_readStates_14 (fun H locs h => ?_)
    refine lv_if_ne (tgt := 22) hx hb dX3_readStates_17 (by decide) (fun c4 => ?_) (fun c4 => ?_)
    · have hf := ifn hf c4
      refine lv_aload_n hx hb dX3_readStates_22 rfl (lv_at hl 2 rfl) ?_
      refine lv_iload_n hx hb dX3_readStates_23 rfl (lv_at hl 0 rfl) ?_
      refine r_put (o1 := sI o_p0 0 q1.1) (w := fun t5 => wX4 K a1 t5) (S' := fun t5 => [wX3 K a0 q3.2, wX4 K a1 t5]) F h (i := 1) (k := 0) inX4 tyX4_ok nmX4 rfl (by decide) w300 rfl rfl rfl rfl rfl (Nat.le_of_ble_eq_true rfl) rfl (fun _ => rfl) dX3_readStates_24 (fun t5 e5 H locs h => ?_)
      have hf := ltb hf e5
      refine lv_iconst (v := 1) hx hb dX3_readStates_27 (by decide) ?_
      obtain rfl := sor hf
      exact r_retz F h rfl dX3_readStates_28
    · have hf := ifp hf c4
      refine lv_iconst (v := 0) hx hb dX3_readStates_20 (by decide) ?_
      obtain rfl := sor hf
      exact r_retz F h rfl dX3_readStates_21
noncomputable def f3_readRule (o_this : ob) (o_p0 : ob) : Option (Int32 × ob × ob) :=
  (f3_readDigit (o_p0.1 0) o_this).bind fun q1 => (if q1.1 < 0 then (some (0, q1.2, o_p0)) else ((f3_readSign 44 q1.2).bind fun q3 => (if q3.1 = 0 then (some (0, q3.2, o_p0)) else ((f3_readLetter q3.2).bind fun q5 => (if q5.1 < 0 then (some (0, q5.2, o_p0)) else ((f3_readSign 44 q5.2).bind fun q7 => (if q7.1 = 0 then (some (0, q7.2, o_p0)) else ((f3_readDigit (o_p0.1 0) q7.2).bind fun q9 => (if q9.1 < 0 then (some (0, q9.2, o_p0)) else ((f3_readSign 44 q9.2).bind fun q11 => (if q11.1 = 0 then (some (0, q11.2, o_p0)) else ((f3_readWord 2 q11.2).bind fun q13 => (f3_wordFrom q13.1 q13.2).bind fun q14 => (f3_readSign 44 q13.2).bind fun q15 => (if q15.1 = 0 then (some (0, q15.2, o_p0)) else ((f3_readDigit 10 q15.2).bind fun q17 => (if q17.1 < 0 then (some (0, q17.2, o_p0)) else ((f3_readSign 59 q17.2).bind fun q19 => (if q19.1 = 0 then (some (0, q19.2, o_p0)) else ((f4_addRule q1.1 q5.1 q9.1 q14 q17.1 o_p0).bind fun q21 => (if q21.1 = 0 then (some (0, q19.2, q21.2)) else (some (1, q19.2, q21.2)))))))))))))))))))))
set_option maxRecDepth 100000 in
set_option maxHeartbeats 4000000 in
theorem c3_readRule (l : Launch) (D : va_G) (K : Nat → ClassId) (a0 : Nat → Nat) (a1 : Nat → Nat) (o_this : ob) (o_p0 : ob) (r : Int32 × ob × ob) (hf : f3_readRule o_this o_p0 = some r) : CTi l yX3_readRule cX3_readRule 7 (some .boolean) 2 45 D K [.ref (a0 0), .ref (a1 0)] [wX3 K a0 o_this, wX4 K a1 o_p0] [wX3 K a0 r.2.1, wX4 K a1 r.2.2] r.1 := by
  unfold f3_readRule at hf
  have hf := tob hf
  refine entI (by decide) (Nat.le_of_ble_eq_true rfl) (fun P e s m args below meth c A ls F h hl hin => ?_)
  have hx := F.1
  have hb := F.2.1
  have hl : lv_has ls 7 [(0, .ref (a0 0)), (1, .ref (a1 0))] := hl
  refine lv_aload_n hx hb dX3_readRule_0 rfl (lv_at hl 0 rfl) ?_
  refine lv_aload_n hx hb dX3_readRule_1 rfl (lv_at hl 1 rfl) ?_
  refine r_get F h (i := 1) (k := 0) (.int (o_p0.1 0)) inX4 rfl (by decide) w300 rfl rfl rfl dX3_readRule_2 ?_
  obtain ⟨q1, h1, hf⟩ := asb hf
  refine r_callVi (As := [.int (o_p0.1 0)]) (rest := []) (C0 := [wX3 K a0 o_this]) (C1 := [wX3 K a0 q1.2]) (Rr := [wX4 K a1 o_p0]) (S' := [wX3 K a0 q1.2, wX4 K a1 o_p0]) F h hl (c3_readDigit l D K a0 (o_p0.1 0) o_this q1 h1) [0, 1] rfl rfl rfl rfl rfl (i := 0) rfl rfl w301 ⟨w302, w303, w304, w297⟩ hsc3_readDigit ⟨Nat.le_of_ble_eq_true rfl, Nat.le_of_ble_eq_true rfl⟩ ⟨Nat.le_refl 0, Nat.le_refl 0⟩ (Nat.le_of_ble_eq_true rfl) dX3_readRule_5 (fun H locs h => ?_)
  refine lv_istore_n (lv' := [(2, .int q1.1), (0, .ref (a0 0)), (1, .ref (a1 0))]) hx hb dX3_readRule_8 rfl hl (by decide) rfl (fun ls hl => ?_)
  refine lv_iload_n hx hb dX3_readRule_9 rfl (lv_at hl 0 rfl) ?_
  refine lv_if_lt (tgt := 22) hx hb dX3_readRule_10 (by decide) (fun c2 => ?_) (fun c2 => ?_)
  · have hf := ifp hf c2
    refine lv_iconst (v := 0) hx hb dX3_readRule_22 (by decide) ?_
    obtain rfl := sor hf
    exact r_retz F h rfl dX3_readRule_23
  · have hf := ifn hf c2
    refine lv_aload_n hx hb dX3_readRule_13 rfl (lv_at hl 1 rfl) ?_
    refine lv_bipush (v := 44) hx hb dX3_readRule_14 (by decide) ?_
    obtain ⟨q3, h3, hf⟩ := asb hf
    refine r_callVi (As := [.int 44]) (rest := []) (C0 := [wX3 K a0 q1.2]) (C1 := [wX3 K a0 q3.2]) (Rr := [wX4 K a1 o_p0]) (S' := [wX3 K a0 q3.2, wX4 K a1 o_p0]) F h hl (c3_readSign l D K a0 44 q1.2 q3 h3) [0, 1] rfl rfl rfl rfl rfl (i := 0) rfl rfl w305 ⟨w306, w307, w308, w297⟩ hsc3_readSign ⟨Nat.le_of_ble_eq_true rfl, Nat.le_of_ble_eq_true rfl⟩ ⟨Nat.le_refl 0, Nat.le_refl 0⟩ (Nat.le_of_ble_eq_true rfl) dX3_readRule_16 (fun H locs h => ?_)
    refine lv_if_ne (tgt := 24) hx hb dX3_readRule_19 (by decide) (fun c4 => ?_) (fun c4 => ?_)
    · have hf := ifn hf c4
      refine lv_aload_n hx hb dX3_readRule_24 rfl (lv_at hl 1 rfl) ?_
      obtain ⟨q5, h5, hf⟩ := asb hf
      refine r_callVi (As := []) (rest := []) (C0 := [wX3 K a0 q3.2]) (C1 := [wX3 K a0 q5.2]) (Rr := [wX4 K a1 o_p0]) (S' := [wX3 K a0 q5.2, wX4 K a1 o_p0]) F h hl (c3_readLetter l D K a0 q3.2 q5 h5) [0, 1] rfl rfl rfl rfl rfl (i := 0) rfl rfl w293 ⟨w294, w295, w296, w297⟩ hsc3_readLetter ⟨Nat.le_of_ble_eq_true rfl, Nat.le_of_ble_eq_true rfl⟩ ⟨Nat.le_refl 0, Nat.le_refl 0⟩ (Nat.le_of_ble_eq_true rfl) dX3_readRule_25 (fun H locs h => ?_)
      refine lv_istore_n (lv' := [(3, .int q5.1), (2, .int q1.1), (0, .ref (a0 0)), (1, .ref (a1 0))]) hx hb dX3_readRule_28 rfl hl (by decide) rfl (fun ls hl => ?_)
      refine lv_iload_n hx hb dX3_readRule_29 rfl (lv_at hl 0 rfl) ?_
      refine lv_if_lt (tgt := 42) hx hb dX3_readRule_30 (by decide) (fun c6 => ?_) (fun c6 => ?_)
      · have hf := ifp hf c6
        refine lv_iconst (v := 0) hx hb dX3_readRule_42 (by decide) ?_
        obtain rfl := sor hf
        exact r_retz F h rfl dX3_readRule_43
      · have hf := ifn hf c6
        refine lv_aload_n hx hb dX3_readRule_33 rfl (lv_at hl 2 rfl) ?_
        refine lv_bipush (v := 44) hx hb dX3_readRule_34 (by decide) ?_
        obtain ⟨q7, h7, hf⟩ := asb hf
        refine r_callVi (As := [.int 44]) (rest := []) (C0 := [wX3 K a0 q5.2]) (C1 := [wX3 K a0 q7.2]) (Rr := [wX4 K a1 o_p0]) (S' := [wX3 K a0 q7.2, wX4 K a1 o_p0]) F h hl (c3_readSign l D K a0 44 q5.2 q7 h7) [0, 1] rfl rfl rfl rfl rfl (i := 0) rfl rfl w305 ⟨w306, w307, w308, w297⟩ hsc3_readSign ⟨Nat.le_of_ble_eq_true rfl, Nat.le_of_ble_eq_true rfl⟩ ⟨Nat.le_refl 0, Nat.le_refl 0⟩ (Nat.le_of_ble_eq_true rfl) dX3_readRule_36 (fun H locs h => ?_)
        refine lv_if_ne (tgt := 44) hx hb dX3_readRule_39 (by decide) (fun c8 => ?_) (fun c8 => ?_)
        · have hf := ifn hf c8
          refine lv_aload_n hx hb dX3_readRule_44 rfl (lv_at hl 2 rfl) ?_
          refine lv_aload_n hx hb dX3_readRule_45 rfl (lv_at hl 3 rfl) ?_
          refine r_get F h (i := 1) (k := 0) (.int (o_p0.1 0)) inX4 rfl (by decide) w300 rfl rfl rfl dX3_readRule_46 ?_
          obtain ⟨q9, h9, hf⟩ := asb hf
          refine r_callVi (As := [.int (o_p0.1 0)]) (rest := []) (C0 := [wX3 K a0 q7.2]) (C1 := [wX3 K a0 q9.2]) (Rr := [wX4 K a1 o_p0]) (S' := [wX3 K a0 q9.2, wX4 K a1 o_p0]) F h hl (c3_readDigit l D K a0 (o_p0.1 0) q7.2 q9 h9) [0, 1] rfl rfl rfl rfl rfl (i := 0) rfl rfl w301 ⟨w302, w303, w304, w297⟩ hsc3_readDigit ⟨Nat.le_of_ble_eq_true rfl, Nat.le_of_ble_eq_true rfl⟩ ⟨Nat.le_refl 0, Nat.le_refl 0⟩ (Nat.le_of_ble_eq_true rfl) dX3_readRule_49 (fun H locs h => ?_)
          refine lv_istore (lv' := [(4, .int q9.1), (3, .int q5.1), (2, .int q1.1), (0, .ref (a0 0)), (1, .ref (a1 0))]) hx hb dX3_readRule_52 hl (by decide) rfl (fun ls hl => ?_)
          refine lv_iload hx hb dX3_readRule_54 (lv_at hl 0 rfl) ?_
          refine lv_if_lt (tgt := 68) hx hb dX3_readRule_56 (by decide) (fun c10 => ?_) (fun c10 => ?_)
          · have hf := ifp hf c10
            refine lv_iconst (v := 0) hx hb dX3_readRule_68 (by decide) ?_
            obtain rfl := sor hf
            exact r_retz F h rfl dX3_readRule_69
          · have hf := ifn hf c10
            refine lv_aload_n hx hb dX3_readRule_59 rfl (lv_at hl 3 rfl) ?_
            refine lv_bipush (v := 44) hx hb dX3_readRule_60 (by decide) ?_
            obtain ⟨q11, h11, hf⟩ := asb hf
            refine r_callVi (As := [.int 44]) (rest := []) (C0 := [wX3 K a0 q9.2]) (C1 := [wX3 K a0 q11.2]) (Rr := [wX4 K a1 o_p0]) (S' := [wX3 K a0 q11.2, wX4 K a1 o_p0]) F h hl (c3_readSign l D K a0 44 q9.2 q11 h11) [0, 1] rfl rfl rfl rfl rfl (i := 0) rfl rfl w305 ⟨w306, w307, w308, w297⟩ hsc3_readSign ⟨Nat.le_of_ble_eq_true rfl, Nat.le_of_ble_eq_true rfl⟩ ⟨Nat.le_refl 0, Nat.le_refl 0⟩ (Nat.le_of_ble_eq_true rfl) dX3_readRule_62 (fun H locs h => ?_)
            refine lv_if_ne (tgt := 70) hx hb dX3_readRule_65 (by decide) (fun c12 => ?_) (fun c12 => ?_)
            · have hf := ifn hf c12
              refine lv_aload_n hx hb dX3_readRule_70 rfl (lv_at hl 3 rfl) ?_
              refine lv_aload_n hx hb dX3_readRule_71 rfl (lv_at hl 3 rfl) ?_
              refine lv_iconst (v := 2) hx hb dX3_readRule_72 (by decide) ?_
              obtain ⟨q13, h13, hf⟩ := asb hf
              refine r_callVi (As := [.int 2]) (rest := [.ref (a0 0)]) (C0 := [wX3 K a0 q11.2]) (C1 := [wX3 K a0 q13.2]) (Rr := [wX4 K a1 o_p0]) (S' := [wX3 K a0 q13.2, wX4 K a1 o_p0]) F h hl (c3_readWord l D K a0 2 q11.2 q13 h13) [0, 1] rfl rfl rfl rfl rfl (i := 0) rfl rfl w309 ⟨w310, w311, w312, w297⟩ hsc3_readWord ⟨Nat.le_of_ble_eq_true rfl, Nat.le_of_ble_eq_true rfl⟩ ⟨Nat.le_refl 0, Nat.le_refl 0⟩ (Nat.le_of_ble_eq_true rfl) dX3_readRule_73 (fun H locs h => ?_)
              obtain ⟨q14, h14, hf⟩ := asb hf
              refine r_callVi (As := [.int q13.1]) (rest := []) (C0 := [wX3 K a0 q13.2]) (C1 := [wX3 K a0 q13.2]) (Rr := [wX4 K a1 o_p0]) (S' := [wX3 K a0 q13.2, wX4 K a1 o_p0]) F h hl (c3_wordFrom l D K a0 q13.1 q13.2 q14 h14) [0, 1] rfl rfl rfl rfl rfl (i := 0) rfl rfl w313 ⟨w314, w315, w316, w297⟩ hsc3_wordFrom ⟨Nat.le_of_ble_eq_true rfl, Nat.le_of_ble_eq_true rfl⟩ ⟨Nat.le_refl 0, Nat.le_refl 0⟩ (Nat.le_of_ble_eq_true rfl) dX3_readRule_76 (fun H locs h => ?_)
              refine lv_istore (lv' := [(5, .int q14), (4, .int q9.1), (3, .int q5.1), (2, .int q1.1), (0, .ref (a0 0)), (1, .ref (a1 0))]) hx hb dX3_readRule_79 hl (by decide) rfl (fun ls hl => ?_)
              refine lv_aload_n hx hb dX3_readRule_81 rfl (lv_at hl 4 rfl) ?_
              refine lv_bipush (v := 44) hx hb dX3_readRule_82 (by decide) ?_
              obtain ⟨q15, h15, hf⟩ := asb hf
              refine r_callVi (As := [.int 44]) (rest := []) (C0 := [wX3 K a0 q13.2]) (C1 := [wX3 K a0 q15.2]) (Rr := [wX4 K a1 o_p0]) (S' := [wX3 K a0 q15.2, wX4 K a1 o_p0]) F h hl (c3_readSign l D K a0 44 q13.2 q15 h15) [0, 1] rfl rfl rfl rfl rfl (i := 0) rfl rfl w305 ⟨w306, w307, w308, w297⟩ hsc3_readSign ⟨Nat.le_of_ble_eq_true rfl, Nat.le_of_ble_eq_true rfl⟩ ⟨Nat.le_refl 0, Nat.le_refl 0⟩ (Nat.le_of_ble_eq_true rfl) dX3_readRule_84 (fun H locs h => ?_)
              refine lv_if_ne (tgt := 92) hx hb dX3_readRule_87 (by decide) (fun c16 => ?_) (fun c16 => ?_)
              · have hf := ifn hf c16
                refine lv_aload_n hx hb dX3_readRule_92 rfl (lv_at hl 4 rfl) ?_
                refine lv_bipush (v := 10) hx hb dX3_readRule_93 (by decide) ?_
                obtain ⟨q17, h17, hf⟩ := asb hf
                refine r_callVi (As := [.int 10]) (rest := []) (C0 := [wX3 K a0 q15.2]) (C1 := [wX3 K a0 q17.2]) (Rr := [wX4 K a1 o_p0]) (S' := [wX3 K a0 q17.2, wX4 K a1 o_p0]) F h hl (c3_readDigit l D K a0 10 q15.2 q17 h17) [0, 1] rfl rfl rfl rfl rfl (i := 0) rfl rfl w301 ⟨w302, w303, w304, w297⟩ hsc3_readDigit ⟨Nat.le_of_ble_eq_true rfl, Nat.le_of_ble_eq_true rfl⟩ ⟨Nat.le_refl 0, Nat.le_refl 0⟩ (Nat.le_of_ble_eq_true rfl) dX3_readRule_95 (fun H locs h => ?_)
                refine lv_istore (lv' := [(6, .int q17.1), (5, .int q14), (4, .int q9.1), (3, .int q5.1), (2, .int q1.1), (0, .ref (a0 0)), (1, .ref (a1 0))]) hx hb dX3_readRule_98 hl (by decide) rfl (fun ls hl => ?_)
                refine lv_iload hx hb dX3_readRule_100 (lv_at hl 0 rfl) ?_
                refine lv_if_lt (tgt := 133) hx hb dX3_readRule_102 (by decide) (fun c18 => ?_) (fun c18 => ?_)
                · have hf := ifp hf c18
                  refine lv_iconst (v := 0) hx hb dX3_readRule_133 (by decide) ?_
                  obtain rfl := sor hf
                  exact r_retz F h rfl dX3_readRule_134
                · have hf := ifn hf c18
                  refine lv_aload_n hx hb dX3_readRule_105 rfl (lv_at hl 5 rfl) ?_
                  refine lv_bipush (v := 59) hx hb dX3_readRule_106 (by decide) ?_
                  obtain ⟨q19, h19, hf⟩ := asb hf
                  refine r_callVi (As := [.int 59]) (rest := []) (C0 := [wX3 K a0 q17.2]) (C1 := [wX3 K a0 q19.2]) (Rr := [wX4 K a1 o_p0]) (S' := [wX3 K a0 q19.2, wX4 K a1 o_p0]) F h hl (c3_readSign l D K a0 59 q17.2 q19 h19) [0, 1] rfl rfl rfl rfl rfl (i := 0) rfl rfl w305 ⟨w306, w307, w308, w297⟩ hsc3_readSign ⟨Nat.le_of_ble_eq_true rfl, Nat.le_of_ble_eq_true rfl⟩ ⟨Nat.le_refl 0, Nat.le_refl 0⟩ (Nat.le_of_ble_eq_true rfl) dX3_readRule_108 (fun H locs h => ?_)
                  refine lv_if_eq (tgt := 133) hx hb dX3_readRule_111 (by decide) (fun c20 => ?_) (fun c20 => ?_)
                  · have hf := ifp hf c20
                    refine lv_iconst (v := 0) hx hb dX3_readRule_133 (by decide) ?_
                    obtain rfl := sor hf
                    exact r_retz F h rfl dX3_readRule_134
                  · have hf := ifn hf c20
                    refine lv_aload_n hx hb dX3_readRule_114 rfl (lv_at hl 6 rfl) ?_
                    refine lv_iload_n hx hb dX3_readRule_115 rfl (lv_at hl 4 rfl) ?_
                    refine lv_iload_n hx hb dX3_readRule_116 rfl (lv_at hl 3 rfl) ?_
                    refine lv_iload hx hb dX3_readRule_117 (lv_at hl 2 rfl) ?_
                    refine lv_iload hx hb dX3_readRule_119 (lv_at hl 1 rfl) ?_
                    refine lv_iload hx hb dX3_readRule_121 (lv_at hl 0 rfl) ?_
                    obtain ⟨q21, h21, hf⟩ := asb hf
                    refine r_callVi (As := [.int q1.1, .int q5.1, .int q9.1, .int q14, .int q17.1]) (rest := []) (C0 := [wX4 K a1 o_p0]) (C1 := [wX4 K a1 q21.2]) (Rr := [wX3 K a0 q19.2]) (S' := [wX3 K a0 q19.2, wX4 K a1 q21.2]) F h hl (c4_addRule l D K a1 q1.1 q5.1 q9.1 q14 q17.1 o_p0 q21 h21) [1, 0] rfl rfl rfl rfl rfl (i := 1) rfl rfl w317 ⟨w318, w319, w320, w276⟩ hsc4_addRule ⟨Nat.le_of_ble_eq_true rfl, Nat.le_of_ble_eq_true rfl⟩ ⟨Nat.le_refl 0, Nat.le_refl 0⟩ (Nat.le_of_ble_eq_true rfl) dX3_readRule_123 (fun H locs h => ?_)
                    refine lv_if_eq (tgt := 133) hx hb dX3_readRule_126 (by decide) (fun c22 => ?_) (fun c22 => ?_)
                    · have hf := ifp hf c22
                      refine lv_iconst (v := 0) hx hb dX3_readRule_133 (by decide) ?_
                      obtain rfl := sor hf
                      exact r_retz F h rfl dX3_readRule_134
                    · have hf := ifn hf c22
                      refine lv_iconst (v := 1) hx hb dX3_readRule_129 (by decide) ?_
                      refine lv_goto (tgt := 134) hx hb dX3_readRule_130 (by decide) ?_
                      obtain rfl := sor hf
                      exact r_retz F h rfl dX3_readRule_134
              · have hf := ifp hf c16
                refine lv_iconst (v := 0) hx hb dX3_readRule_90 (by decide) ?_
                obtain rfl := sor hf
                exact r_retz F h rfl dX3_readRule_91
            · have hf := ifp hf c12
              refine lv_iconst (v := 0) hx hb dX3_readRule_68 (by decide) ?_
              obtain rfl := sor hf
              exact r_retz F h rfl dX3_readRule_69
        · have hf := ifp hf c8
          refine lv_iconst (v := 0) hx hb dX3_readRule_42 (by decide) ?_
          obtain rfl := sor hf
          exact r_retz F h rfl dX3_readRule_43
    · have hf := ifp hf c4
      refine lv_iconst (v := 0) hx hb dX3_readRule_22 (by decide) ?_
      obtain rfl := sor hf
      exact r_retz F h rfl dX3_readRule_23
noncomputable def f3_readTarget (o_this : ob) (o_p0 : ob) : Option (Int32 × ob × ob) :=
  (f3_readDigit (o_p0.1 0) o_this).bind fun q1 => (if q1.1 < 0 then (some (0, q1.2, o_p0)) else ((f3_readSign 44 q1.2).bind fun q3 => (if q3.1 = 0 then (some (0, q3.2, o_p0)) else ((f3_readWord 3 q3.2).bind fun q5 => (f3_readSign 46 q5.2).bind fun q6 => (f3_readSign 59 q6.2).bind fun q7 => (if q7.1 = 0 then (some (0, q7.2, o_p0)) else ((f4_addTarget q1.1 q5.1 q6.1 o_p0 q7.2).bind fun q9 => (if q9.1 = 0 then (some (0, q7.2, q9.2)) else (some (1, q7.2, q9.2)))))))))
set_option maxRecDepth 100000 in
set_option maxHeartbeats 4000000 in
theorem c3_readTarget (l : Launch) (D : va_G) (K : Nat → ClassId) (a0 : Nat → Nat) (a1 : Nat → Nat) (o_this : ob) (o_p0 : ob) (r : Int32 × ob × ob) (hf : f3_readTarget o_this o_p0 = some r) : CTi l yX3_readTarget cX3_readTarget 5 (some .boolean) 2 45 D K [.ref (a0 0), .ref (a1 0)] [wX3 K a0 o_this, wX4 K a1 o_p0] [wX3 K a0 r.2.1, wX4 K a1 r.2.2] r.1 := by
  unfold f3_readTarget at hf
  have hf := tob hf
  refine entI (by decide) (Nat.le_of_ble_eq_true rfl) (fun P e s m args below meth c A ls F h hl hin => ?_)
  have hx := F.1
  have hb := F.2.1
  have hl : lv_has ls 5 [(0, .ref (a0 0)), (1, .ref (a1 0))] := hl
  refine lv_aload_n hx hb dX3_readTarget_0 rfl (lv_at hl 0 rfl) ?_
  refine lv_aload_n hx hb dX3_readTarget_1 rfl (lv_at hl 1 rfl) ?_
  refine r_get F h (i := 1) (k := 0) (.int (o_p0.1 0)) inX4 rfl (by decide) w300 rfl rfl rfl dX3_readTarget_2 ?_
  obtain ⟨q1, h1, hf⟩ := asb hf
  refine r_callVi (As := [.int (o_p0.1 0)]) (rest := []) (C0 := [wX3 K a0 o_this]) (C1 := [wX3 K a0 q1.2]) (Rr := [wX4 K a1 o_p0]) (S' := [wX3 K a0 q1.2, wX4 K a1 o_p0]) F h hl (c3_readDigit l D K a0 (o_p0.1 0) o_this q1 h1) [0, 1] rfl rfl rfl rfl rfl (i := 0) rfl rfl w301 ⟨w302, w303, w304, w297⟩ hsc3_readDigit ⟨Nat.le_of_ble_eq_true rfl, Nat.le_of_ble_eq_true rfl⟩ ⟨Nat.le_refl 0, Nat.le_refl 0⟩ (Nat.le_of_ble_eq_true rfl) dX3_readTarget_5 (fun H locs h => ?_)
  refine lv_istore_n (lv' := [(2, .int q1.1), (0, .ref (a0 0)), (1, .ref (a1 0))]) hx hb dX3_readTarget_8 rfl hl (by decide) rfl (fun ls hl => ?_)
  refine lv_iload_n hx hb dX3_readTarget_9 rfl (lv_at hl 0 rfl) ?_
  refine lv_if_lt (tgt := 22) hx hb dX3_readTarget_10 (by decide) (fun c2 => ?_) (fun c2 => ?_)
  · have hf := ifp hf c2
    refine lv_iconst (v := 0) hx hb dX3_readTarget_22 (by decide) ?_
    obtain rfl := sor hf
    exact r_retz F h rfl dX3_readTarget_23
  · have hf := ifn hf c2
    refine lv_aload_n hx hb dX3_readTarget_13 rfl (lv_at hl 1 rfl) ?_
    refine lv_bipush (v := 44) hx hb dX3_readTarget_14 (by decide) ?_
    obtain ⟨q3, h3, hf⟩ := asb hf
    refine r_callVi (As := [.int 44]) (rest := []) (C0 := [wX3 K a0 q1.2]) (C1 := [wX3 K a0 q3.2]) (Rr := [wX4 K a1 o_p0]) (S' := [wX3 K a0 q3.2, wX4 K a1 o_p0]) F h hl (c3_readSign l D K a0 44 q1.2 q3 h3) [0, 1] rfl rfl rfl rfl rfl (i := 0) rfl rfl w305 ⟨w306, w307, w308, w297⟩ hsc3_readSign ⟨Nat.le_of_ble_eq_true rfl, Nat.le_of_ble_eq_true rfl⟩ ⟨Nat.le_refl 0, Nat.le_refl 0⟩ (Nat.le_of_ble_eq_true rfl) dX3_readTarget_16 (fun H locs h => ?_)
    refine lv_if_ne (tgt := 24) hx hb dX3_readTarget_19 (by decide) (fun c4 => ?_) (fun c4 => ?_)
    · have hf := ifn hf c4
      refine lv_aload_n hx hb dX3_readTarget_24 rfl (lv_at hl 1 rfl) ?_
      refine lv_iconst (v := 3) hx hb dX3_readTarget_25 (by decide) ?_
      obtain ⟨q5, h5, hf⟩ := asb hf
      refine r_callVi (As := [.int 3]) (rest := []) (C0 := [wX3 K a0 q3.2]) (C1 := [wX3 K a0 q5.2]) (Rr := [wX4 K a1 o_p0]) (S' := [wX3 K a0 q5.2, wX4 K a1 o_p0]) F h hl (c3_readWord l D K a0 3 q3.2 q5 h5) [0, 1] rfl rfl rfl rfl rfl (i := 0) rfl rfl w309 ⟨w310, w311, w312, w297⟩ hsc3_readWord ⟨Nat.le_of_ble_eq_true rfl, Nat.le_of_ble_eq_true rfl⟩ ⟨Nat.le_refl 0, Nat.le_refl 0⟩ (Nat.le_of_ble_eq_true rfl) dX3_readTarget_26 (fun H locs h => ?_)
      refine lv_istore_n (lv' := [(3, .int q5.1), (2, .int q1.1), (0, .ref (a0 0)), (1, .ref (a1 0))]) hx hb dX3_readTarget_29 rfl hl (by decide) rfl (fun ls hl => ?_)
      refine lv_aload_n hx hb dX3_readTarget_30 rfl (lv_at hl 2 rfl) ?_
      refine lv_bipush (v := 46) hx hb dX3_readTarget_31 (by decide) ?_
      obtain ⟨q6, h6, hf⟩ := asb hf
      refine r_callVi (As := [.int 46]) (rest := []) (C0 := [wX3 K a0 q5.2]) (C1 := [wX3 K a0 q6.2]) (Rr := [wX4 K a1 o_p0]) (S' := [wX3 K a0 q6.2, wX4 K a1 o_p0]) F h hl (c3_readSign l D K a0 46 q5.2 q6 h6) [0, 1] rfl rfl rfl rfl rfl (i := 0) rfl rfl w305 ⟨w306, w307, w308, w297⟩ hsc3_readSign ⟨Nat.le_of_ble_eq_true rfl, Nat.le_of_ble_eq_true rfl⟩ ⟨Nat.le_refl 0, Nat.le_refl 0⟩ (Nat.le_of_ble_eq_true rfl) dX3_readTarget_33 (fun H locs h => ?_)
      refine lv_istore (lv' := [(4, .int q6.1), (3, .int q5.1), (2, .int q1.1), (0, .ref (a0 0)), (1, .ref (a1 0))]) hx hb dX3_readTarget_36 hl (by decide) rfl (fun ls hl => ?_)
      refine lv_aload_n hx hb dX3_readTarget_38 rfl (lv_at hl 3 rfl) ?_
      refine lv_bipush (v := 59) hx hb dX3_readTarget_39 (by decide) ?_
      obtain ⟨q7, h7, hf⟩ := asb hf
      refine r_callVi (As := [.int 59]) (rest := []) (C0 := [wX3 K a0 q6.2]) (C1 := [wX3 K a0 q7.2]) (Rr := [wX4 K a1 o_p0]) (S' := [wX3 K a0 q7.2, wX4 K a1 o_p0]) F h hl (c3_readSign l D K a0 59 q6.2 q7 h7) [0, 1] rfl rfl rfl rfl rfl (i := 0) rfl rfl w305 ⟨w306, w307, w308, w297⟩ hsc3_readSign ⟨Nat.le_of_ble_eq_true rfl, Nat.le_of_ble_eq_true rfl⟩ ⟨Nat.le_refl 0, Nat.le_refl 0⟩ (Nat.le_of_ble_eq_true rfl) dX3_readTarget_41 (fun H locs h => ?_)
      refine lv_if_eq (tgt := 66) hx hb dX3_readTarget_44 (by decide) (fun c8 => ?_) (fun c8 => ?_)
      · have hf := ifp hf c8
        refine lv_iconst (v := 0) hx hb dX3_readTarget_66 (by decide) ?_
        obtain rfl := sor hf
        exact r_retz F h rfl dX3_readTarget_67
      · have hf := ifn hf c8
        refine lv_aload_n hx hb dX3_readTarget_47 rfl (lv_at hl 4 rfl) ?_
        refine lv_iload_n hx hb dX3_readTarget_48 rfl (lv_at hl 2 rfl) ?_
        refine lv_aload_n hx hb dX3_readTarget_49 rfl (lv_at hl 3 rfl) ?_
        refine r_get F h (i := 0) (k := 3) (.ref (a0 4)) inX3 rfl (by decide) w292 rfl rfl rfl dX3_readTarget_50 ?_
        refine lv_iload_n hx hb dX3_readTarget_53 rfl (lv_at hl 1 rfl) ?_
        refine lv_iload hx hb dX3_readTarget_54 (lv_at hl 0 rfl) ?_
        obtain ⟨q9, h9, hf⟩ := asb hf
        refine r_callVi (As := [.int q1.1, .ref (a0 4), .int q5.1, .int q6.1]) (rest := []) (C0 := [wX4 K a1 o_p0, wX3 K a0 q7.2]) (C1 := [wX4 K a1 q9.2, wX3 K a0 q7.2]) (Rr := []) (S' := [wX3 K a0 q7.2, wX4 K a1 q9.2]) F h hl (c4_addTarget l D K a1 a0 q1.1 q5.1 q6.1 o_p0 q7.2 q9 h9) [1, 0] rfl rfl rfl rfl rfl (i := 1) rfl rfl w321 ⟨w322, w323, w324, w276⟩ hsc4_addTarget ⟨Nat.le_of_ble_eq_true rfl, Nat.le_of_ble_eq_true rfl⟩ ⟨Nat.le_refl 0, Nat.le_refl 0⟩ (Nat.le_of_ble_eq_true rfl) dX3_readTarget_56 (fun H locs h => ?_)
        refine lv_if_eq (tgt := 66) hx hb dX3_readTarget_59 (by decide) (fun c10 => ?_) (fun c10 => ?_)
        · have hf := ifp hf c10
          refine lv_iconst (v := 0) hx hb dX3_readTarget_66 (by decide) ?_
          obtain rfl := sor hf
          exact r_retz F h rfl dX3_readTarget_67
        · have hf := ifn hf c10
          refine lv_iconst (v := 1) hx hb dX3_readTarget_62 (by decide) ?_
          refine lv_goto (tgt := 67) hx hb dX3_readTarget_63 (by decide) ?_
          obtain rfl := sor hf
          exact r_retz F h rfl dX3_readTarget_67
    · have hf := ifp hf c4
      refine lv_iconst (v := 0) hx hb dX3_readTarget_22 (by decide) ?_
      obtain rfl := sor hf
      exact r_retz F h rfl dX3_readTarget_23
def f3_readConfiguration_L57 (g9 : ob) (z11 : Int32 × ob) : Option (Nat × (Int32 × ob)) :=
  (if z11.1 < 0 then (some (1, (z11.1, z11.2))) else (gd (vin z11.1 6) <| (f4_putLetter (g9.2 3 z11.1.toNatClampNeg) z11.2).bind fun q14 => lt (z11.1 + (-1)) fun y15 => some (0, (y15, q14))))
noncomputable def f3_readConfiguration (o_this : ob) (o_p0 : ob) : Option (Int32 × ob × ob) :=
  (f3_readDigit (o_p0.1 0) o_this).bind fun q1 => (if q1.1 < 0 then (some (0, q1.2, o_p0)) else ((f3_readSign 44 q1.2).bind fun q3 => (if q3.1 = 0 then (some (0, q3.2, o_p0)) else ((f3_readWord 6 q3.2).bind fun q5 => (f3_readSign 59 q5.2).bind fun q6 => (if q6.1 = 0 then (some (0, q6.2, o_p0)) else (lt (sI o_p0 13 q1.1) fun t8 => lt (sI t8 14 0) fun t9 => lt (q5.1 - 1) fun y10 => (wh (f3_readConfiguration_L57 q6.2) (y10, t9)).bind fun q11 => some (1, q6.2, q11.2.2)))))))
set_option maxRecDepth 100000 in
set_option maxHeartbeats 4000000 in
theorem c3_readConfiguration (l : Launch) (D : va_G) (K : Nat → ClassId) (a0 : Nat → Nat) (a1 : Nat → Nat) (o_this : ob) (o_p0 : ob) (r : Int32 × ob × ob) (hf : f3_readConfiguration o_this o_p0 = some r) : CTi l yX3_readConfiguration cX3_readConfiguration 5 (some .boolean) 2 45 D K [.ref (a0 0), .ref (a1 0)] [wX3 K a0 o_this, wX4 K a1 o_p0] [wX3 K a0 r.2.1, wX4 K a1 r.2.2] r.1 := by
  unfold f3_readConfiguration at hf
  have hf := tob hf
  refine entI (by decide) (Nat.le_of_ble_eq_true rfl) (fun P e s m args below meth c A ls F h hl hin => ?_)
  have hx := F.1
  have hb := F.2.1
  have hl : lv_has ls 5 [(0, .ref (a0 0)), (1, .ref (a1 0))] := hl
  refine lv_aload_n hx hb dX3_readConfiguration_0 rfl (lv_at hl 0 rfl) ?_
  refine lv_aload_n hx hb dX3_readConfiguration_1 rfl (lv_at hl 1 rfl) ?_
  refine r_get F h (i := 1) (k := 0) (.int (o_p0.1 0)) inX4 rfl (by decide) w300 rfl rfl rfl dX3_readConfiguration_2 ?_
  obtain ⟨q1, h1, hf⟩ := asb hf
  refine r_callVi (As := [.int (o_p0.1 0)]) (rest := []) (C0 := [wX3 K a0 o_this]) (C1 := [wX3 K a0 q1.2]) (Rr := [wX4 K a1 o_p0]) (S' := [wX3 K a0 q1.2, wX4 K a1 o_p0]) F h hl (c3_readDigit l D K a0 (o_p0.1 0) o_this q1 h1) [0, 1] rfl rfl rfl rfl rfl (i := 0) rfl rfl w301 ⟨w302, w303, w304, w297⟩ hsc3_readDigit ⟨Nat.le_of_ble_eq_true rfl, Nat.le_of_ble_eq_true rfl⟩ ⟨Nat.le_refl 0, Nat.le_refl 0⟩ (Nat.le_of_ble_eq_true rfl) dX3_readConfiguration_5 (fun H locs h => ?_)
  refine lv_istore_n (lv' := [(2, .int q1.1), (0, .ref (a0 0)), (1, .ref (a1 0))]) hx hb dX3_readConfiguration_8 rfl hl (by decide) rfl (fun ls hl => ?_)
  refine lv_iload_n hx hb dX3_readConfiguration_9 rfl (lv_at hl 0 rfl) ?_
  refine lv_if_lt (tgt := 22) hx hb dX3_readConfiguration_10 (by decide) (fun c2 => ?_) (fun c2 => ?_)
  · have hf := ifp hf c2
    refine lv_iconst (v := 0) hx hb dX3_readConfiguration_22 (by decide) ?_
    obtain rfl := sor hf
    exact r_retz F h rfl dX3_readConfiguration_23
  · have hf := ifn hf c2
    refine lv_aload_n hx hb dX3_readConfiguration_13 rfl (lv_at hl 1 rfl) ?_
    refine lv_bipush (v := 44) hx hb dX3_readConfiguration_14 (by decide) ?_
    obtain ⟨q3, h3, hf⟩ := asb hf
    refine r_callVi (As := [.int 44]) (rest := []) (C0 := [wX3 K a0 q1.2]) (C1 := [wX3 K a0 q3.2]) (Rr := [wX4 K a1 o_p0]) (S' := [wX3 K a0 q3.2, wX4 K a1 o_p0]) F h hl (c3_readSign l D K a0 44 q1.2 q3 h3) [0, 1] rfl rfl rfl rfl rfl (i := 0) rfl rfl w305 ⟨w306, w307, w308, w297⟩ hsc3_readSign ⟨Nat.le_of_ble_eq_true rfl, Nat.le_of_ble_eq_true rfl⟩ ⟨Nat.le_refl 0, Nat.le_refl 0⟩ (Nat.le_of_ble_eq_true rfl) dX3_readConfiguration_16 (fun H locs h => ?_)
    refine lv_if_ne (tgt := 24) hx hb dX3_readConfiguration_19 (by decide) (fun c4 => ?_) (fun c4 => ?_)
    · have hf := ifn hf c4
      refine lv_aload_n hx hb dX3_readConfiguration_24 rfl (lv_at hl 1 rfl) ?_
      refine lv_bipush (v := 6) hx hb dX3_readConfiguration_25 (by decide) ?_
      obtain ⟨q5, h5, hf⟩ := asb hf
      refine r_callVi (As := [.int 6]) (rest := []) (C0 := [wX3 K a0 q3.2]) (C1 := [wX3 K a0 q5.2]) (Rr := [wX4 K a1 o_p0]) (S' := [wX3 K a0 q5.2, wX4 K a1 o_p0]) F h hl (c3_readWord l D K a0 6 q3.2 q5 h5) [0, 1] rfl rfl rfl rfl rfl (i := 0) rfl rfl w309 ⟨w310, w311, w312, w297⟩ hsc3_readWord ⟨Nat.le_of_ble_eq_true rfl, Nat.le_of_ble_eq_true rfl⟩ ⟨Nat.le_refl 0, Nat.le_refl 0⟩ (Nat.le_of_ble_eq_true rfl) dX3_readConfiguration_27 (fun H locs h => ?_)
      refine lv_istore_n (lv' := [(3, .int q5.1), (2, .int q1.1), (0, .ref (a0 0)), (1, .ref (a1 0))]) hx hb dX3_readConfiguration_30 rfl hl (by decide) rfl (fun ls hl => ?_)
      refine lv_aload_n hx hb dX3_readConfiguration_31 rfl (lv_at hl 2 rfl) ?_
      refine lv_bipush (v := 59) hx hb dX3_readConfiguration_32 (by decide) ?_
      obtain ⟨q6, h6, hf⟩ := asb hf
      refine r_callVi (As := [.int 59]) (rest := []) (C0 := [wX3 K a0 q5.2]) (C1 := [wX3 K a0 q6.2]) (Rr := [wX4 K a1 o_p0]) (S' := [wX3 K a0 q6.2, wX4 K a1 o_p0]) F h hl (c3_readSign l D K a0 59 q5.2 q6 h6) [0, 1] rfl rfl rfl rfl rfl (i := 0) rfl rfl w305 ⟨w306, w307, w308, w297⟩ hsc3_readSign ⟨Nat.le_of_ble_eq_true rfl, Nat.le_of_ble_eq_true rfl⟩ ⟨Nat.le_refl 0, Nat.le_refl 0⟩ (Nat.le_of_ble_eq_true rfl) dX3_readConfiguration_34 (fun H locs h => ?_)
      refine lv_if_ne (tgt := 42) hx hb dX3_readConfiguration_37 (by decide) (fun c7 => ?_) (fun c7 => ?_)
      · have hf := ifn hf c7
        refine lv_aload_n hx hb dX3_readConfiguration_42 rfl (lv_at hl 3 rfl) ?_
        refine lv_iload_n hx hb dX3_readConfiguration_43 rfl (lv_at hl 1 rfl) ?_
        refine r_put (o1 := sI o_p0 13 q1.1) (w := fun t8 => wX4 K a1 t8) (S' := fun t8 => [wX3 K a0 q6.2, wX4 K a1 t8]) F h (i := 1) (k := 13) inX4 tyX4_ok nmX4 rfl (by decide) w325 rfl rfl rfl rfl rfl (Nat.le_of_ble_eq_true rfl) rfl (fun _ => rfl) dX3_readConfiguration_44 (fun t8 e8 H locs h => ?_)
        have hf := ltb hf e8
        refine lv_aload_n hx hb dX3_readConfiguration_47 rfl (lv_at hl 3 rfl) ?_
        refine lv_iconst (v := 0) hx hb dX3_readConfiguration_48 (by decide) ?_
        refine r_put (o1 := sI t8 14 0) (w := fun t9 => wX4 K a1 t9) (S' := fun t9 => [wX3 K a0 q6.2, wX4 K a1 t9]) F h (i := 1) (k := 14) inX4 tyX4_ok nmX4 rfl (by decide) w326 rfl rfl rfl rfl rfl (Nat.le_of_ble_eq_true rfl) rfl (fun _ => rfl) dX3_readConfiguration_49 (fun t9 e9 H locs h => ?_)
        have hf := ltb hf e9
        refine lv_iload_n hx hb dX3_readConfiguration_52 rfl (lv_at hl 0 rfl) ?_
        refine lv_iconst (v := 1) hx hb dX3_readConfiguration_53 (by decide) ?_
        refine lv_isub hx hb dX3_readConfiguration_54 ?_
        refine lv_topi (fun y10 e10 => ?_)
        have hf := ltb hf e10
        refine lv_istore (lv' := [(4, .int y10), (3, .int q5.1), (2, .int q1.1), (0, .ref (a0 0)), (1, .ref (a1 0))]) hx hb dX3_readConfiguration_55 hl (by decide) rfl (fun ls hl => ?_)
        obtain ⟨q11, hq11, hf⟩ := asb hf
        obtain ⟨nq11, hq11⟩ := wh_out hq11
        have Xq11_1 : ∀ (z11 : Int32 × ob) (H : Heap) (locs : List Loc) (ls : Array Slot), q11 = (1, z11) → WD D A s.heap H locs [wX3 K a0 q6.2, wX4 K a1 z11.2] → lv_has ls 5 [] → W P l e (rmS 2 45) s m args below meth c H locs 0 0 (MQ below (QiS D A [wX3 K a0 r.2.1, wX4 K a1 r.2.2] r.1) args s 0 0 A) (F0 m 79 ls []) := by
          intro z11 H locs ls eq11 h hl
          obtain rfl : z11 = q11.2 := by rw [eq11]
          refine lv_iconst (v := 1) hx hb dX3_readConfiguration_79 (by decide) ?_
          obtain rfl := sor hf
          exact r_retz F h rfl dX3_readConfiguration_80
        have Lq11 : ∀ (n : Nat) (z11 : Int32 × ob) (H : Heap) (locs : List Loc) (ls : Array Slot), iter (f3_readConfiguration_L57 q6.2) n z11 = some q11 → WD D A s.heap H locs [wX3 K a0 q6.2, wX4 K a1 z11.2] → lv_has ls 5 [(0, .ref (a0 0)), (1, .ref (a1 0)), (4, .int z11.1)] → W P l e (rmS 2 45) s m args below meth c H locs 0 0 (MQ below (QiS D A [wX3 K a0 r.2.1, wX4 K a1 r.2.2] r.1) args s 0 0 A) (F0 m 57 ls []) := by
          intro n
          induction n with
          | zero => intro z11 H locs ls hi; exact (iter_0 hi).elim
          | succ n ihq11 =>
            intro z11 H locs ls hi h hl
            obtain ⟨uq11, hf, huq11⟩ := iter_s hi
            unfold f3_readConfiguration_L57 at hf
            have hf := tob hf
            refine lv_iload hx hb dX3_readConfiguration_57 (lv_at hl 2 rfl) ?_
            refine lv_if_lt (tgt := 79) hx hb dX3_readConfiguration_59 (by decide) (fun c12 => ?_) (fun c12 => ?_)
            · have hf := ifp hf c12
              exact Xq11_1 _ _ _ _ (itr_x huq11 (sor hf)) h (lv_sub hl [] rfl)
            · have hf := ifn hf c12
              refine lv_aload_n hx hb dX3_readConfiguration_62 rfl (lv_at hl 1 rfl) ?_
              refine lv_aload_n hx hb dX3_readConfiguration_63 rfl (lv_at hl 0 rfl) ?_
              refine r_get F h (i := 0) (k := 3) (.ref (a0 4)) inX3 rfl (by decide) w292 rfl rfl rfl dX3_readConfiguration_64 ?_
              refine lv_iload hx hb dX3_readConfiguration_67 (lv_at hl 2 rfl) ?_
              obtain ⟨g13, hf⟩ := gdb hf
              refine r_iald F h (i := 0) (j := 2) rfl rfl (vin_ok g13) dX3_readConfiguration_69 ?_
              obtain ⟨q14, h14, hf⟩ := asb hf
              refine r_callVv (As := [.int (q6.2.2 3 z11.1.toNatClampNeg)]) (rest := []) (C0 := [wX4 K a1 z11.2]) (C1 := [wX4 K a1 q14]) (Rr := [wX3 K a0 q6.2]) (S' := [wX3 K a0 q6.2, wX4 K a1 q14]) F h hl (c4_putLetter l D K a1 (q6.2.2 3 z11.1.toNatClampNeg) z11.2 q14 h14) [1, 0] rfl rfl rfl rfl rfl (i := 1) rfl rfl w277 ⟨w327, w279, w280, w276⟩ hsc4_putLetter ⟨Nat.le_of_ble_eq_true rfl, Nat.le_of_ble_eq_true rfl⟩ ⟨Nat.le_refl 0, Nat.le_refl 0⟩ (Nat.le_of_ble_eq_true rfl) dX3_readConfiguration_70 (fun H locs h => ?_)
              obtain ⟨y15, e15⟩ : ∃ y : Int32, y = z11.1 + (-1) := ⟨_, rfl⟩
              have hf := ltb hf e15
              refine lv_iinc (v := y15) (lv' := [(4, .int y15), (0, .ref (a0 0)), (1, .ref (a1 0))]) hx hb dX3_readConfiguration_73 hl (k := 2) rfl (by rw [e15]; rfl) (by decide) rfl (fun ls hl => ?_)
              refine lv_goto (tgt := 57) hx hb dX3_readConfiguration_76 (by decide) ?_
              exact ihq11 _ _ _ _ (itr_c huq11 (sor hf)) h (lv_sub hl [1, 2, 0] rfl)
        exact Lq11 _ _ _ _ _ hq11 h (lv_sub hl [3, 4, 0] rfl)
      · have hf := ifp hf c7
        refine lv_iconst (v := 0) hx hb dX3_readConfiguration_40 (by decide) ?_
        obtain rfl := sor hf
        exact r_retz F h rfl dX3_readConfiguration_41
    · have hf := ifp hf c4
      refine lv_iconst (v := 0) hx hb dX3_readConfiguration_22 (by decide) ?_
      obtain rfl := sor hf
      exact r_retz F h rfl dX3_readConfiguration_23
def f3_readMode (o_this : ob) (o_p0 : ob) : Option (Int32 × ob × ob) :=
  (f3_readDigit 3 o_this).bind fun q1 => (if q1.1 < 0 then (some (0, q1.2, o_p0)) else ((f3_readSign 59 q1.2).bind fun q3 => (if q3.1 = 0 then (some (0, q3.2, o_p0)) else (lt (sI o_p0 12 q1.1) fun t5 => some (1, q3.2, t5)))))
set_option maxRecDepth 100000 in
set_option maxHeartbeats 4000000 in
theorem c3_readMode (l : Launch) (D : va_G) (K : Nat → ClassId) (a0 : Nat → Nat) (a1 : Nat → Nat) (o_this : ob) (o_p0 : ob) (r : Int32 × ob × ob) (hf : f3_readMode o_this o_p0 = some r) : CTi l yX3_readMode cX3_readMode 3 (some .boolean) 1 22 D K [.ref (a0 0), .ref (a1 0)] [wX3 K a0 o_this, wX4 K a1 o_p0] [wX3 K a0 r.2.1, wX4 K a1 r.2.2] r.1 := by
  unfold f3_readMode at hf
  have hf := tob hf
  refine entI (by decide) (Nat.le_of_ble_eq_true rfl) (fun P e s m args below meth c A ls F h hl hin => ?_)
  have hx := F.1
  have hb := F.2.1
  have hl : lv_has ls 3 [(0, .ref (a0 0)), (1, .ref (a1 0))] := hl
  refine lv_aload_n hx hb dX3_readMode_0 rfl (lv_at hl 0 rfl) ?_
  refine lv_iconst (v := 3) hx hb dX3_readMode_1 (by decide) ?_
  obtain ⟨q1, h1, hf⟩ := asb hf
  refine r_callVi (As := [.int 3]) (rest := []) (C0 := [wX3 K a0 o_this]) (C1 := [wX3 K a0 q1.2]) (Rr := [wX4 K a1 o_p0]) (S' := [wX3 K a0 q1.2, wX4 K a1 o_p0]) F h hl (c3_readDigit l D K a0 3 o_this q1 h1) [0, 1] rfl rfl rfl rfl rfl (i := 0) rfl rfl w301 ⟨w302, w303, w304, w297⟩ hsc3_readDigit ⟨Nat.le_of_ble_eq_true rfl, Nat.le_of_ble_eq_true rfl⟩ ⟨Nat.le_refl 0, Nat.le_refl 0⟩ (Nat.le_of_ble_eq_true rfl) dX3_readMode_2 (fun H locs h => ?_)
  refine lv_istore_n (lv' := [(2, .int q1.1), (0, .ref (a0 0)), (1, .ref (a1 0))]) hx hb dX3_readMode_5 rfl hl (by decide) rfl (fun ls hl => ?_)
  refine lv_iload_n hx hb dX3_readMode_6 rfl (lv_at hl 0 rfl) ?_
  refine lv_if_lt (tgt := 19) hx hb dX3_readMode_7 (by decide) (fun c2 => ?_) (fun c2 => ?_)
  · have hf := ifp hf c2
    refine lv_iconst (v := 0) hx hb dX3_readMode_19 (by decide) ?_
    obtain rfl := sor hf
    exact r_retz F h rfl dX3_readMode_20
  · have hf := ifn hf c2
    refine lv_aload_n hx hb dX3_readMode_10 rfl (lv_at hl 1 rfl) ?_
    refine lv_bipush (v := 59) hx hb dX3_readMode_11 (by decide) ?_
    obtain ⟨q3, h3, hf⟩ := asb hf
    refine r_callVi (As := [.int 59]) (rest := []) (C0 := [wX3 K a0 q1.2]) (C1 := [wX3 K a0 q3.2]) (Rr := [wX4 K a1 o_p0]) (S' := [wX3 K a0 q3.2, wX4 K a1 o_p0]) F h hl (c3_readSign l D K a0 59 q1.2 q3 h3) [0, 1] rfl rfl rfl rfl rfl (i := 0) rfl rfl w305 ⟨w306, w307, w308, w297⟩ hsc3_readSign ⟨Nat.le_of_ble_eq_true rfl, Nat.le_of_ble_eq_true rfl⟩ ⟨Nat.le_refl 0, Nat.le_refl 0⟩ (Nat.le_of_ble_eq_true rfl) dX3_readMode_13 (fun H locs h => ?_)
    refine lv_if_ne (tgt := 21) hx hb dX3_readMode_16 (by decide) (fun c4 => ?_) (fun c4 => ?_)
    · have hf := ifn hf c4
      refine lv_aload_n hx hb dX3_readMode_21 rfl (lv_at hl 2 rfl) ?_
      refine lv_iload_n hx hb dX3_readMode_22 rfl (lv_at hl 0 rfl) ?_
      refine r_put (o1 := sI o_p0 12 q1.1) (w := fun t5 => wX4 K a1 t5) (S' := fun t5 => [wX3 K a0 q3.2, wX4 K a1 t5]) F h (i := 1) (k := 12) inX4 tyX4_ok nmX4 rfl (by decide) w328 rfl rfl rfl rfl rfl (Nat.le_of_ble_eq_true rfl) rfl (fun _ => rfl) dX3_readMode_23 (fun t5 e5 H locs h => ?_)
      have hf := ltb hf e5
      refine lv_iconst (v := 1) hx hb dX3_readMode_26 (by decide) ?_
      obtain rfl := sor hf
      exact r_retz F h rfl dX3_readMode_27
    · have hf := ifp hf c4
      refine lv_iconst (v := 0) hx hb dX3_readMode_19 (by decide) ?_
      obtain rfl := sor hf
      exact r_retz F h rfl dX3_readMode_20
noncomputable def f3_readItem (x1 : Int32) (o_this : ob) (o_p0 : ob) : Option (Int32 × ob × ob) :=
  gd (vin (o_this.1 2) 200) <| lt (o_this.2 0 (o_this.1 2).toNatClampNeg) fun y2 => lt (sI o_this 2 ((o_this.1 2) + 1)) fun t3 => (if y2 = 99 then ((f3_readConfiguration t3 o_p0).bind fun q5 => gd (bz q5.1) <| some (q5.1, q5.2.1, q5.2.2)) else (if y2 = 109 then ((f3_readMode t3 o_p0).bind fun q7 => gd (bz q7.1) <| some (q7.1, q7.2.1, q7.2.2)) else (if y2 = 110 then ((if x1 = 0 then (some (0, t3, o_p0)) else ((f3_readStates t3 o_p0).bind fun q10 => (if q10.1 = 0 then (some (0, q10.2.1, q10.2.2)) else (some (1, q10.2.1, q10.2.2)))))) else (if y2 = 114 then ((f3_readRule t3 o_p0).bind fun q12 => gd (bz q12.1) <| some (q12.1, q12.2.1, q12.2.2)) else (if y2 = 116 then ((f3_readTarget t3 o_p0).bind fun q14 => gd (bz q14.1) <| some (q14.1, q14.2.1, q14.2.2)) else (some (0, t3, o_p0)))))))
set_option maxRecDepth 100000 in
set_option maxHeartbeats 4000000 in
theorem c3_readItem (l : Launch) (D : va_G) (K : Nat → ClassId) (a0 : Nat → Nat) (a1 : Nat → Nat) (x1 : Int32) (o_this : ob) (o_p0 : ob) (r : Int32 × ob × ob) (hf : f3_readItem x1 o_this o_p0 = some r) : CTi l yX3_readItem cX3_readItem 4 (some .boolean) 3 71 D K [.ref (a0 0), .ref (a1 0), .int x1] [wX3 K a0 o_this, wX4 K a1 o_p0] [wX3 K a0 r.2.1, wX4 K a1 r.2.2] r.1 := by
  unfold f3_readItem at hf
  have hf := tob hf
  refine entI (by decide) (Nat.le_of_ble_eq_true rfl) (fun P e s m args below meth c A ls F h hl hin => ?_)
  have hx := F.1
  have hb := F.2.1
  have hl : lv_has ls 4 [(0, .ref (a0 0)), (1, .ref (a1 0)), (2, .int x1)] := hl
  refine lv_aload_n hx hb dX3_readItem_0 rfl (lv_at hl 0 rfl) ?_
  refine r_get F h (i := 0) (k := 0) (.ref (a0 1)) inX3 rfl (by decide) w290 rfl rfl rfl dX3_readItem_1 ?_
  refine lv_aload_n hx hb dX3_readItem_4 rfl (lv_at hl 0 rfl) ?_
  refine r_get F h (i := 0) (k := 2) (.int (o_this.1 2)) inX3 rfl (by decide) w291 rfl rfl rfl dX3_readItem_5 ?_
  obtain ⟨g1, hf⟩ := gdb hf
  refine r_cald F h (i := 0) (j := 1) rfl rfl (vin_ok g1) dX3_readItem_8 ?_
  refine lv_topi (fun y2 e2 => ?_)
  have hf := ltb hf e2
  refine lv_istore_n (lv' := [(3, .int y2), (0, .ref (a0 0)), (1, .ref (a1 0)), (2, .int x1)]) hx hb dX3_readItem_9 rfl hl (by decide) rfl (fun ls hl => ?_)
  refine lv_aload_n hx hb dX3_readItem_10 rfl (lv_at hl 1 rfl) ?_
  refine lv_dup hx hb dX3_readItem_11 rfl ?_
  refine r_get F h (i := 0) (k := 2) (.int (o_this.1 2)) inX3 rfl (by decide) w291 rfl rfl rfl dX3_readItem_12 ?_
  refine lv_iconst (v := 1) hx hb dX3_readItem_15 (by decide) ?_
  refine lv_iadd hx hb dX3_readItem_16 ?_
  refine r_put (o1 := sI o_this 2 ((o_this.1 2) + 1)) (w := fun t3 => wX3 K a0 t3) (S' := fun t3 => [wX3 K a0 t3, wX4 K a1 o_p0]) F h (i := 0) (k := 2) inX3 tyX3_ok nmX3 rfl (by decide) w291 rfl rfl rfl rfl rfl (Nat.le_of_ble_eq_true rfl) rfl (fun _ => rfl) dX3_readItem_17 (fun t3 e3 H locs h => ?_)
  have hf := ltb hf e3
  refine lv_iload_n hx hb dX3_readItem_20 rfl (lv_at hl 0 rfl) ?_
  by_cases c4_0 : y2 = 99
  · have hf := ifp hf c4_0
    refine lv_lookup (tgt := 102) hx hb dX3_readItem_21 (by decide) (by first | (rw [c4_0]; done) | (rw [c4_0]; rfl)) (by decide) ?_
    refine lv_aload_n hx hb dX3_readItem_102 rfl (lv_at hl 1 rfl) ?_
    refine lv_aload_n hx hb dX3_readItem_103 rfl (lv_at hl 2 rfl) ?_
    obtain ⟨q5, h5, hf⟩ := asb hf
    refine r_callVi (As := [.ref (a1 0)]) (rest := []) (C0 := [wX3 K a0 t3, wX4 K a1 o_p0]) (C1 := [wX3 K a0 q5.2.1, wX4 K a1 q5.2.2]) (Rr := []) (S' := [wX3 K a0 q5.2.1, wX4 K a1 q5.2.2]) F h hl (c3_readConfiguration l D K a0 a1 t3 o_p0 q5 h5) [0, 1] rfl rfl rfl rfl rfl (i := 0) rfl rfl w329 ⟨w330, w331, w332, w297⟩ hsc3_readConfiguration ⟨Nat.le_of_ble_eq_true rfl, Nat.le_of_ble_eq_true rfl⟩ ⟨Nat.le_refl 0, Nat.le_refl 0⟩ (Nat.le_of_ble_eq_true rfl) dX3_readItem_104 (fun H locs h => ?_)
    obtain ⟨g6, hf⟩ := gdb hf
    obtain rfl := sor hf
    exact r_retz F h g6 dX3_readItem_107
  have hf := ifn hf c4_0
  by_cases c4_1 : y2 = 109
  · have hf := ifp hf c4_1
    refine lv_lookup (tgt := 108) hx hb dX3_readItem_21 (by decide) (by first | (rw [c4_1]; done) | (rw [c4_1]; rfl)) (by decide) ?_
    refine lv_aload_n hx hb dX3_readItem_108 rfl (lv_at hl 1 rfl) ?_
    refine lv_aload_n hx hb dX3_readItem_109 rfl (lv_at hl 2 rfl) ?_
    obtain ⟨q7, h7, hf⟩ := asb hf
    refine r_callVi (As := [.ref (a1 0)]) (rest := []) (C0 := [wX3 K a0 t3, wX4 K a1 o_p0]) (C1 := [wX3 K a0 q7.2.1, wX4 K a1 q7.2.2]) (Rr := []) (S' := [wX3 K a0 q7.2.1, wX4 K a1 q7.2.2]) F h hl (c3_readMode l D K a0 a1 t3 o_p0 q7 h7) [0, 1] rfl rfl rfl rfl rfl (i := 0) rfl rfl w333 ⟨w334, w335, w336, w297⟩ hsc3_readMode ⟨Nat.le_of_ble_eq_true rfl, Nat.le_of_ble_eq_true rfl⟩ ⟨Nat.le_refl 0, Nat.le_refl 0⟩ (Nat.le_of_ble_eq_true rfl) dX3_readItem_110 (fun H locs h => ?_)
    obtain ⟨g8, hf⟩ := gdb hf
    obtain rfl := sor hf
    exact r_retz F h g8 dX3_readItem_113
  have hf := ifn hf c4_1
  by_cases c4_2 : y2 = 110
  · have hf := ifp hf c4_2
    refine lv_lookup (tgt := 72) hx hb dX3_readItem_21 (by decide) (by first | (rw [c4_2]; done) | (rw [c4_2]; rfl)) (by decide) ?_
    refine lv_iload_n hx hb dX3_readItem_72 rfl (lv_at hl 3 rfl) ?_
    refine lv_if_eq (tgt := 88) hx hb dX3_readItem_73 (by decide) (fun c9 => ?_) (fun c9 => ?_)
    · have hf := ifp hf c9
      refine lv_iconst (v := 0) hx hb dX3_readItem_88 (by decide) ?_
      obtain rfl := sor hf
      exact r_retz F h rfl dX3_readItem_89
    · have hf := ifn hf c9
      refine lv_aload_n hx hb dX3_readItem_76 rfl (lv_at hl 1 rfl) ?_
      refine lv_aload_n hx hb dX3_readItem_77 rfl (lv_at hl 2 rfl) ?_
      obtain ⟨q10, h10, hf⟩ := asb hf
      refine r_callVi (As := [.ref (a1 0)]) (rest := []) (C0 := [wX3 K a0 t3, wX4 K a1 o_p0]) (C1 := [wX3 K a0 q10.2.1, wX4 K a1 q10.2.2]) (Rr := []) (S' := [wX3 K a0 q10.2.1, wX4 K a1 q10.2.2]) F h hl (c3_readStates l D K a0 a1 t3 o_p0 q10 h10) [0, 1] rfl rfl rfl rfl rfl (i := 0) rfl rfl w337 ⟨w338, w339, w340, w297⟩ hsc3_readStates ⟨Nat.le_of_ble_eq_true rfl, Nat.le_of_ble_eq_true rfl⟩ ⟨Nat.le_refl 0, Nat.le_refl 0⟩ (Nat.le_of_ble_eq_true rfl) dX3_readItem_78 (fun H locs h => ?_)
      refine lv_if_eq (tgt := 88) hx hb dX3_readItem_81 (by decide) (fun c11 => ?_) (fun c11 => ?_)
      · have hf := ifp hf c11
        refine lv_iconst (v := 0) hx hb dX3_readItem_88 (by decide) ?_
        obtain rfl := sor hf
        exact r_retz F h rfl dX3_readItem_89
      · have hf := ifn hf c11
        refine lv_iconst (v := 1) hx hb dX3_readItem_84 (by decide) ?_
        refine lv_goto (tgt := 89) hx hb dX3_readItem_85 (by decide) ?_
        obtain rfl := sor hf
        exact r_retz F h rfl dX3_readItem_89
  have hf := ifn hf c4_2
  by_cases c4_3 : y2 = 114
  · have hf := ifp hf c4_3
    refine lv_lookup (tgt := 90) hx hb dX3_readItem_21 (by decide) (by first | (rw [c4_3]; done) | (rw [c4_3]; rfl)) (by decide) ?_
    refine lv_aload_n hx hb dX3_readItem_90 rfl (lv_at hl 1 rfl) ?_
    refine lv_aload_n hx hb dX3_readItem_91 rfl (lv_at hl 2 rfl) ?_
    obtain ⟨q12, h12, hf⟩ := asb hf
    refine r_callVi (As := [.ref (a1 0)]) (rest := []) (C0 := [wX3 K a0 t3, wX4 K a1 o_p0]) (C1 := [wX3 K a0 q12.2.1, wX4 K a1 q12.2.2]) (Rr := []) (S' := [wX3 K a0 q12.2.1, wX4 K a1 q12.2.2]) F h hl (c3_readRule l D K a0 a1 t3 o_p0 q12 h12) [0, 1] rfl rfl rfl rfl rfl (i := 0) rfl rfl w341 ⟨w342, w343, w344, w297⟩ hsc3_readRule ⟨Nat.le_of_ble_eq_true rfl, Nat.le_of_ble_eq_true rfl⟩ ⟨Nat.le_refl 0, Nat.le_refl 0⟩ (Nat.le_of_ble_eq_true rfl) dX3_readItem_92 (fun H locs h => ?_)
    obtain ⟨g13, hf⟩ := gdb hf
    obtain rfl := sor hf
    exact r_retz F h g13 dX3_readItem_95
  have hf := ifn hf c4_3
  by_cases c4_4 : y2 = 116
  · have hf := ifp hf c4_4
    refine lv_lookup (tgt := 96) hx hb dX3_readItem_21 (by decide) (by first | (rw [c4_4]; done) | (rw [c4_4]; rfl)) (by decide) ?_
    refine lv_aload_n hx hb dX3_readItem_96 rfl (lv_at hl 1 rfl) ?_
    refine lv_aload_n hx hb dX3_readItem_97 rfl (lv_at hl 2 rfl) ?_
    obtain ⟨q14, h14, hf⟩ := asb hf
    refine r_callVi (As := [.ref (a1 0)]) (rest := []) (C0 := [wX3 K a0 t3, wX4 K a1 o_p0]) (C1 := [wX3 K a0 q14.2.1, wX4 K a1 q14.2.2]) (Rr := []) (S' := [wX3 K a0 q14.2.1, wX4 K a1 q14.2.2]) F h hl (c3_readTarget l D K a0 a1 t3 o_p0 q14 h14) [0, 1] rfl rfl rfl rfl rfl (i := 0) rfl rfl w345 ⟨w346, w347, w348, w297⟩ hsc3_readTarget ⟨Nat.le_of_ble_eq_true rfl, Nat.le_of_ble_eq_true rfl⟩ ⟨Nat.le_refl 0, Nat.le_refl 0⟩ (Nat.le_of_ble_eq_true rfl) dX3_readItem_98 (fun H locs h => ?_)
    obtain ⟨g15, hf⟩ := gdb hf
    obtain rfl := sor hf
    exact r_retz F h g15 dX3_readItem_101
  have hf := ifn hf c4_4
  refine lv_lookup (tgt := 114) hx hb dX3_readItem_21 (by decide) (lk_cons rfl c4_0 (lk_cons rfl c4_1 (lk_cons rfl c4_2 (lk_cons rfl c4_3 (lk_cons rfl c4_4 lk_nil))))) (by decide) ?_
  refine lv_iconst (v := 0) hx hb dX3_readItem_114 (by decide) ?_
  obtain rfl := sor hf
  exact r_retz F h rfl dX3_readItem_115
noncomputable def f3_readInto_L11 (z3 : Int32 × Int32 × ob × ob) : Option (Nat × (Int32 × Int32 × ob × ob)) :=
  (if 200 ≤ z3.1 then (some (2, (z3.1, z3.2.1, z3.2.2.1, z3.2.2.2))) else ((if (z3.2.2.1.1 1) ≤ (z3.2.2.1.1 2) then (some (2, (z3.1, z3.2.1, z3.2.2.1, z3.2.2.2))) else (lt (z3.2.2.1.1 2) fun y6 => ((if y6 = 0 then (some 1) else (some 0))).bind fun v7 => (f3_readItem v7 z3.2.2.1 z3.2.2.2).bind fun q8 => (if q8.1 = 0 then (some (1, (z3.1, y6, q8.2.1, q8.2.2))) else (lt (z3.1 + 1) fun y10 => some (0, (y10, y6, q8.2.1, q8.2.2))))))))
noncomputable def f3_readInto (o_this : ob) (o_p0 : ob) : Option (Int32 × ob × ob) :=
  (f4_clear o_p0).bind fun q1 => lt (sI o_this 2 0) fun t2 => (wh f3_readInto_L11 (0, 0, t2, q1)).bind fun q3 => (if q3.1 = 1 then (some (q3.2.2.1, q3.2.2.2.1, q3.2.2.2.2)) else (some ((-4), q3.2.2.2.1, q3.2.2.2.2)))
set_option maxRecDepth 100000 in
set_option maxHeartbeats 4000000 in
theorem c3_readInto (l : Launch) (D : va_G) (K : Nat → ClassId) (a0 : Nat → Nat) (a1 : Nat → Nat) (o_this : ob) (o_p0 : ob) (r : Int32 × ob × ob) (hf : f3_readInto o_this o_p0 = some r) : CTi l yX3_readInto cX3_readInto 4 (some .int) 4 94 D K [.ref (a0 0), .ref (a1 0)] [wX3 K a0 o_this, wX4 K a1 o_p0] [wX3 K a0 r.2.1, wX4 K a1 r.2.2] r.1 := by
  unfold f3_readInto at hf
  have hf := tob hf
  refine entI (by decide) (Nat.le_of_ble_eq_true rfl) (fun P e s m args below meth c A ls F h hl hin => ?_)
  have hx := F.1
  have hb := F.2.1
  have hl : lv_has ls 4 [(0, .ref (a0 0)), (1, .ref (a1 0))] := hl
  refine lv_aload_n hx hb dX3_readInto_0 rfl (lv_at hl 1 rfl) ?_
  obtain ⟨q1, h1, hf⟩ := asb hf
  refine r_callVv (As := []) (rest := []) (C0 := [wX4 K a1 o_p0]) (C1 := [wX4 K a1 q1]) (Rr := [wX3 K a0 o_this]) (S' := [wX3 K a0 o_this, wX4 K a1 q1]) F h hl (c4_clear l D K a1 o_p0 q1 h1) [1, 0] rfl rfl rfl rfl rfl (i := 1) rfl rfl w349 ⟨w350, w351, w352, w276⟩ hsc4_clear ⟨Nat.le_of_ble_eq_true rfl, Nat.le_of_ble_eq_true rfl⟩ ⟨Nat.le_refl 0, Nat.le_refl 0⟩ (Nat.le_of_ble_eq_true rfl) dX3_readInto_1 (fun H locs h => ?_)
  refine lv_aload_n hx hb dX3_readInto_4 rfl (lv_at hl 0 rfl) ?_
  refine lv_iconst (v := 0) hx hb dX3_readInto_5 (by decide) ?_
  refine r_put (o1 := sI o_this 2 0) (w := fun t2 => wX3 K a0 t2) (S' := fun t2 => [wX3 K a0 t2, wX4 K a1 q1]) F h (i := 0) (k := 2) inX3 tyX3_ok nmX3 rfl (by decide) w291 rfl rfl rfl rfl rfl (Nat.le_of_ble_eq_true rfl) rfl (fun _ => rfl) dX3_readInto_6 (fun t2 e2 H locs h => ?_)
  have hf := ltb hf e2
  refine lv_iconst (v := 0) hx hb dX3_readInto_9 (by decide) ?_
  refine lv_istore_n (lv' := [(2, .int 0), (0, .ref (a0 0)), (1, .ref (a1 0))]) hx hb dX3_readInto_10 rfl hl (by decide) rfl (fun ls hl => ?_)
  obtain ⟨q3, hq3, hf⟩ := asb hf
  obtain ⟨nq3, hq3⟩ := wh_out hq3
  have Xq3_1 : ∀ (z3 : Int32 × Int32 × ob × ob) (H : Heap) (locs : List Loc) (ls : Array Slot), q3 = (1, z3) → WD D A s.heap H locs [wX3 K a0 z3.2.2.1, wX4 K a1 z3.2.2.2] → lv_has ls 4 [(3, .int z3.2.1)] → W P l e (rmS 4 94) s m args below meth c H locs 0 0 (MQ below (QiS D A [wX3 K a0 r.2.1, wX4 K a1 r.2.2] r.1) args s 0 0 A) (F0 m 51 ls []) := by
    intro z3 H locs ls eq3 h hl
    obtain rfl : z3 = q3.2 := by rw [eq3]
    have hf := ifp hf (show q3.1 = 1 by rw [eq3])
    refine lv_iload_n hx hb dX3_readInto_51 rfl (lv_at hl 0 rfl) ?_
    obtain rfl := sor hf
    exact r_reti F h dX3_readInto_52
  have Xq3_2 : ∀ (z3 : Int32 × Int32 × ob × ob) (H : Heap) (locs : List Loc) (ls : Array Slot), q3 = (2, z3) → WD D A s.heap H locs [wX3 K a0 z3.2.2.1, wX4 K a1 z3.2.2.2] → lv_has ls 4 [] → W P l e (rmS 4 94) s m args below meth c H locs 0 0 (MQ below (QiS D A [wX3 K a0 r.2.1, wX4 K a1 r.2.2] r.1) args s 0 0 A) (F0 m 59 ls []) := by
    intro z3 H locs ls eq3 h hl
    obtain rfl : z3 = q3.2 := by rw [eq3]
    have hf := ifn hf (show ¬ q3.1 = 1 by rw [show q3.1 = 2 by rw [eq3]]; decide)
    refine lv_bipush (v := (-4)) hx hb dX3_readInto_59 (by decide) ?_
    obtain rfl := sor hf
    exact r_reti F h dX3_readInto_61
  have Lq3 : ∀ (n : Nat) (z3 : Int32 × Int32 × ob × ob) (H : Heap) (locs : List Loc) (ls : Array Slot), iter f3_readInto_L11 n z3 = some q3 → WD D A s.heap H locs [wX3 K a0 z3.2.2.1, wX4 K a1 z3.2.2.2] → lv_has ls 4 [(0, .ref (a0 0)), (1, .ref (a1 0)), (2, .int z3.1)] → W P l e (rmS 4 94) s m args below meth c H locs 0 0 (MQ below (QiS D A [wX3 K a0 r.2.1, wX4 K a1 r.2.2] r.1) args s 0 0 A) (F0 m 11 ls []) := by
    intro n
    induction n with
    | zero => intro z3 H locs ls hi; exact (iter_0 hi).elim
    | succ n ihq3 =>
      intro z3 H locs ls hi h hl
      obtain ⟨uq3, hf, huq3⟩ := iter_s hi
      unfold f3_readInto_L11 at hf
      have hf := tob hf
      refine lv_iload_n hx hb dX3_readInto_11 rfl (lv_at hl 2 rfl) ?_
      refine lv_sipush (v := 200) hx hb dX3_readInto_12 (by decide) ?_
      refine lv_icmp_ge (tgt := 59) hx hb dX3_readInto_15 (by decide) (fun c4 => ?_) (fun c4 => ?_)
      · have hf := ifp hf c4
        exact Xq3_2 _ _ _ _ (itr_x huq3 (sor hf)) h (lv_sub hl [] rfl)
      · have hf := ifn hf c4
        refine lv_aload_n hx hb dX3_readInto_18 rfl (lv_at hl 0 rfl) ?_
        refine r_get F h (i := 0) (k := 2) (.int (z3.2.2.1.1 2)) inX3 rfl (by decide) w291 rfl rfl rfl dX3_readInto_19 ?_
        refine lv_aload_n hx hb dX3_readInto_22 rfl (lv_at hl 0 rfl) ?_
        refine r_get F h (i := 0) (k := 1) (.int (z3.2.2.1.1 1)) inX3 rfl (by decide) w289 rfl rfl rfl dX3_readInto_23 ?_
        refine lv_icmp_ge (tgt := 59) hx hb dX3_readInto_26 (by decide) (fun c5 => ?_) (fun c5 => ?_)
        · have hf := ifp hf c5
          exact Xq3_2 _ _ _ _ (itr_x huq3 (sor hf)) h (lv_sub hl [] rfl)
        · have hf := ifn hf c5
          refine lv_aload_n hx hb dX3_readInto_29 rfl (lv_at hl 0 rfl) ?_
          refine r_get F h (i := 0) (k := 2) (.int (z3.2.2.1.1 2)) inX3 rfl (by decide) w291 rfl rfl rfl dX3_readInto_30 ?_
          refine lv_topi (fun y6 e6 => ?_)
          have hf := ltb hf e6
          refine lv_istore_n (lv' := [(3, .int y6), (0, .ref (a0 0)), (1, .ref (a1 0)), (2, .int z3.1)]) hx hb dX3_readInto_33 rfl hl (by decide) rfl (fun ls hl => ?_)
          refine lv_aload_n hx hb dX3_readInto_34 rfl (lv_at hl 1 rfl) ?_
          refine lv_aload_n hx hb dX3_readInto_35 rfl (lv_at hl 2 rfl) ?_
          refine lv_iload_n hx hb dX3_readInto_36 rfl (lv_at hl 0 rfl) ?_
          obtain ⟨J7, eJ7, hf⟩ := rgn hf
          have JW7 : ∀ (v7 : Int32) (H : Heap) (locs : List Loc) (ls : Array Slot), WD D A s.heap H locs [wX3 K a0 z3.2.2.1, wX4 K a1 z3.2.2.2] → lv_has ls 4 [(0, .ref (a0 0)), (1, .ref (a1 0)), (2, .int z3.1), (3, .int y6)] → J7 v7 = some uq3 → W P l e (rmS 4 94) s m args below meth c H locs 0 0 (MQ below (QiS D A [wX3 K a0 r.2.1, wX4 K a1 r.2.2] r.1) args s 0 0 A) (F0 m 45 ls [.int v7, .ref (a1 0), .ref (a0 0)]) := by
            intro v7 H locs ls h hl hf
            have hf := jof eJ7 hf
            obtain ⟨q8, h8, hf⟩ := asb hf
            refine r_callVi (As := [.ref (a1 0), .int v7]) (rest := []) (C0 := [wX3 K a0 z3.2.2.1, wX4 K a1 z3.2.2.2]) (C1 := [wX3 K a0 q8.2.1, wX4 K a1 q8.2.2]) (Rr := []) (S' := [wX3 K a0 q8.2.1, wX4 K a1 q8.2.2]) F h hl (c3_readItem l D K a0 a1 v7 z3.2.2.1 z3.2.2.2 q8 h8) [0, 1] rfl rfl rfl rfl rfl (i := 0) rfl rfl w353 ⟨w354, w355, w356, w297⟩ hsc3_readItem ⟨Nat.le_of_ble_eq_true rfl, Nat.le_of_ble_eq_true rfl⟩ ⟨Nat.le_refl 0, Nat.le_refl 0⟩ (Nat.le_of_ble_eq_true rfl) dX3_readInto_45 (fun H locs h => ?_)
            refine lv_if_ne (tgt := 53) hx hb dX3_readInto_48 (by decide) (fun c9 => ?_) (fun c9 => ?_)
            · have hf := ifn hf c9
              obtain ⟨y10, e10⟩ : ∃ y : Int32, y = z3.1 + 1 := ⟨_, rfl⟩
              have hf := ltb hf e10
              refine lv_iinc (v := y10) (lv' := [(2, .int y10), (0, .ref (a0 0)), (1, .ref (a1 0)), (3, .int y6)]) hx hb dX3_readInto_53 hl (k := 2) rfl (by rw [e10]; rfl) (by decide) rfl (fun ls hl => ?_)
              refine lv_goto (tgt := 11) hx hb dX3_readInto_56 (by decide) ?_
              exact ihq3 _ _ _ _ (itr_c huq3 (sor hf)) h (lv_sub hl [1, 2, 0] rfl)
            · have hf := ifp hf c9
              exact Xq3_1 _ _ _ _ (itr_x huq3 (sor hf)) h (lv_sub hl [3] rfl)
          refine lv_if_ne (tgt := 44) hx hb dX3_readInto_37 (by decide) (fun c11 => ?_) (fun c11 => ?_)
          · have hf := ifn hf c11
            refine lv_iconst (v := 0) hx hb dX3_readInto_44 (by decide) ?_
            exact JW7 0 _ _ _ h (lv_sub hl [1, 2, 3, 0] rfl) (sob hf)
          · have hf := ifp hf c11
            refine lv_iconst (v := 1) hx hb dX3_readInto_40 (by decide) ?_
            refine lv_goto (tgt := 45) hx hb dX3_readInto_41 (by decide) ?_
            exact JW7 1 _ _ _ h (lv_sub hl [1, 2, 3, 0] rfl) (sob hf)
  exact Lq3 _ _ _ _ _ hq3 h (lv_sub hl [1, 2, 0] rfl)
