def f6_readsStates (x0 : Int32) (x1 : Int32) (o_this : ob) : Option (Int32 × ob) :=
  (if x0 = 0 then (some (0, o_this)) else ((f6_figure 1 4 o_this).bind fun q2 => (if q2.1 = 0 then (some (0, q2.2)) else (lt (sI q2.2 35 (q2.2.1 32)) fun t4 => (if x1 = 0 then (lt (sI t4 0 (t4.1 0)) fun t6 => some (1, t6)) else (lt (sI t4 0 (t4.1 32)) fun t7 => some (1, t7)))))))
set_option maxRecDepth 100000 in
set_option maxHeartbeats 4000000 in
theorem c6_readsStates (l : Launch) (D : va_G) (K : Nat → ClassId) (a0 : Nat → Nat) (x0 : Int32) (x1 : Int32) (o_this : ob) (r : Int32 × ob) (hf : f6_readsStates x0 x1 o_this = some r) : CTi l yX6_readsStates cX6_readsStates 3 (some .boolean) 2 44 D K [.ref (a0 0), .int x0, .int x1] [wX6 K a0 o_this] [wX6 K a0 r.2] r.1 := by
  unfold f6_readsStates at hf
  have hf := tob hf
  refine entI (by decide) (Nat.le_of_ble_eq_true rfl) (fun P e s m args below meth c A ls F h hl hin => ?_)
  have hx := F.1
  have hb := F.2.1
  have hl : lv_has ls 3 [(0, .ref (a0 0)), (1, .int x0), (2, .int x1)] := hl
  refine lv_iload_n hx hb dX6_readsStates_0 rfl (lv_at hl 1 rfl) ?_
  refine lv_if_eq (tgt := 13) hx hb dX6_readsStates_1 (by decide) (fun c1 => ?_) (fun c1 => ?_)
  · have hf := ifp hf c1
    refine lv_iconst (v := 0) hx hb dX6_readsStates_13 (by decide) ?_
    obtain rfl := sor hf
    exact r_retz F h rfl dX6_readsStates_14
  · have hf := ifn hf c1
    refine lv_aload_n hx hb dX6_readsStates_4 rfl (lv_at hl 0 rfl) ?_
    refine lv_iconst (v := 1) hx hb dX6_readsStates_5 (by decide) ?_
    refine lv_iconst (v := 4) hx hb dX6_readsStates_6 (by decide) ?_
    obtain ⟨q2, h2, hf⟩ := asb hf
    refine r_callVi (As := [.int 1, .int 4]) (rest := []) (C0 := [wX6 K a0 o_this]) (C1 := [wX6 K a0 q2.2]) (Rr := []) (S' := [wX6 K a0 q2.2]) F h hl (c6_figure l D K a0 1 4 o_this q2 h2) [0] rfl rfl rfl rfl rfl (i := 0) rfl rfl w204 ⟨w205, w206, w207, w2⟩ hsc6_figure ⟨Nat.le_of_ble_eq_true rfl, Nat.le_of_ble_eq_true rfl⟩ ⟨Nat.le_refl 0, Nat.le_refl 0⟩ (Nat.le_of_ble_eq_true rfl) dX6_readsStates_7 (fun H locs h => ?_)
    refine lv_if_ne (tgt := 15) hx hb dX6_readsStates_10 (by decide) (fun c3 => ?_) (fun c3 => ?_)
    · have hf := ifn hf c3
      refine lv_aload_n hx hb dX6_readsStates_15 rfl (lv_at hl 0 rfl) ?_
      refine lv_aload_n hx hb dX6_readsStates_16 rfl (lv_at hl 0 rfl) ?_
      refine r_get F h (i := 0) (k := 32) (.int (q2.2.1 32)) inX6 rfl (by decide) w19 rfl rfl rfl dX6_readsStates_17 ?_
      refine r_put (o1 := sI q2.2 35 (q2.2.1 32)) (w := fun t4 => wX6 K a0 t4) (S' := fun t4 => [wX6 K a0 t4]) F h (i := 0) (k := 35) inX6 tyX6_ok nmX6 rfl (by decide) w203 rfl rfl rfl rfl rfl (Nat.le_of_ble_eq_true rfl) rfl (fun _ => rfl) dX6_readsStates_20 (fun t4 e4 H locs h => ?_)
      have hf := ltb hf e4
      refine lv_aload_n hx hb dX6_readsStates_23 rfl (lv_at hl 0 rfl) ?_
      refine lv_iload_n hx hb dX6_readsStates_24 rfl (lv_at hl 2 rfl) ?_
      refine lv_if_eq (tgt := 35) hx hb dX6_readsStates_25 (by decide) (fun c5 => ?_) (fun c5 => ?_)
      · have hf := ifp hf c5
        refine lv_aload_n hx hb dX6_readsStates_35 rfl (lv_at hl 0 rfl) ?_
        refine r_get F h (i := 0) (k := 0) (.int (t4.1 0)) inX6 rfl (by decide) w5 rfl rfl rfl dX6_readsStates_36 ?_
        refine r_put (o1 := sI t4 0 (t4.1 0)) (w := fun t6 => wX6 K a0 t6) (S' := fun t6 => [wX6 K a0 t6]) F h (i := 0) (k := 0) inX6 tyX6_ok nmX6 rfl (by decide) w5 rfl rfl rfl rfl rfl (Nat.le_of_ble_eq_true rfl) rfl (fun _ => rfl) dX6_readsStates_39 (fun t6 e6 H locs h => ?_)
        have hf := ltb hf e6
        refine lv_iconst (v := 1) hx hb dX6_readsStates_42 (by decide) ?_
        obtain rfl := sor hf
        exact r_retz F h rfl dX6_readsStates_43
      · have hf := ifn hf c5
        refine lv_aload_n hx hb dX6_readsStates_28 rfl (lv_at hl 0 rfl) ?_
        refine r_get F h (i := 0) (k := 32) (.int (t4.1 32)) inX6 rfl (by decide) w19 rfl rfl rfl dX6_readsStates_29 ?_
        refine lv_goto (tgt := 39) hx hb dX6_readsStates_32 (by decide) ?_
        refine r_put (o1 := sI t4 0 (t4.1 32)) (w := fun t7 => wX6 K a0 t7) (S' := fun t7 => [wX6 K a0 t7]) F h (i := 0) (k := 0) inX6 tyX6_ok nmX6 rfl (by decide) w5 rfl rfl rfl rfl rfl (Nat.le_of_ble_eq_true rfl) rfl (fun _ => rfl) dX6_readsStates_39 (fun t7 e7 H locs h => ?_)
        have hf := ltb hf e7
        refine lv_iconst (v := 1) hx hb dX6_readsStates_42 (by decide) ?_
        obtain rfl := sor hf
        exact r_retz F h rfl dX6_readsStates_43
    · have hf := ifp hf c3
      refine lv_iconst (v := 0) hx hb dX6_readsStates_13 (by decide) ?_
      obtain rfl := sor hf
      exact r_retz F h rfl dX6_readsStates_14
noncomputable def f6_readsRule (x0 : Int32) (o_this : ob) : Option (Int32 × ob) :=
  (if (o_this.1 36) = 10 then (some (0, o_this)) else ((f6_figure 0 (o_this.1 35) o_this).bind fun q2 => (if q2.1 = 0 then (some (0, q2.2)) else ((f6_sign 44 q2.2).bind fun q4 => (if q4.1 = 0 then (some (0, q4.2)) else (lt (q4.2.1 32) fun y6 => (f6_word 1 q4.2).bind fun q7 => (if q7.1 = 0 then (some (0, q7.2)) else ((if (q7.2.1 33) = 0 then (some (0, q7.2)) else ((f6_sign 44 q7.2).bind fun q10 => (if q10.1 = 0 then (some (0, q10.2)) else (gd (vin 0 6) <| lt (q10.2.2 34 (0 : Int32).toNatClampNeg) fun y13 => (f6_figure 0 (q10.2.1 35) q10.2).bind fun q14 => (if q14.1 = 0 then (some (0, q14.2)) else ((f6_sign 44 q14.2).bind fun q16 => (if q16.1 = 0 then (some (0, q16.2)) else (lt (q16.2.1 32) fun y18 => (f6_word 2 q16.2).bind fun q19 => (if q19.1 = 0 then (some (0, q19.2)) else ((f6_sign 44 q19.2).bind fun q21 => (if q21.1 = 0 then (some (0, q21.2)) else (((if (q21.2.1 33) = 0 then (some 0) else ((if (q21.2.1 33) = 1 then (gd (vin 0 6) <| some (1 + (q21.2.2 34 (0 : Int32).toNatClampNeg))) else (gd (vin 0 6) <| gd (vin 1 6) <| some ((5 + (4 * (q21.2.2 34 (0 : Int32).toNatClampNeg))) + (q21.2.2 34 (1 : Int32).toNatClampNeg))))))).bind fun v23 => (f6_figure 0 10 q21.2).bind fun q24 => (if q24.1 = 0 then (some (0, q24.2)) else (lt (sI q24.2 36 ((q24.2.1 36) + 1)) fun t26 => (if x0 = 0 then (some (1, t26)) else ((f6_enters y6 y13 y18 v23 (t26.1 32) t26).bind fun q28 => some (1, q28)))))))))))))))))))))))))
set_option maxRecDepth 100000 in
set_option maxHeartbeats 4000000 in
theorem c6_readsRule (l : Launch) (D : va_G) (K : Nat → ClassId) (a0 : Nat → Nat) (x0 : Int32) (o_this : ob) (r : Int32 × ob) (hf : f6_readsRule x0 o_this = some r) : CTi l yX6_readsRule cX6_readsRule 6 (some .boolean) 4 83 D K [.ref (a0 0), .int x0] [wX6 K a0 o_this] [wX6 K a0 r.2] r.1 := by
  unfold f6_readsRule at hf
  have hf := tob hf
  refine entI (by decide) (Nat.le_of_ble_eq_true rfl) (fun P e s m args below meth c A ls F h hl hin => ?_)
  have hx := F.1
  have hb := F.2.1
  have hl : lv_has ls 6 [(0, .ref (a0 0)), (1, .int x0)] := hl
  refine lv_aload_n hx hb dX6_readsRule_0 rfl (lv_at hl 0 rfl) ?_
  refine r_get F h (i := 0) (k := 36) (.int (o_this.1 36)) inX6 rfl (by decide) w208 rfl rfl rfl dX6_readsRule_1 ?_
  refine lv_bipush (v := 10) hx hb dX6_readsRule_4 (by decide) ?_
  refine lv_icmp_eq (tgt := 30) hx hb dX6_readsRule_6 (by decide) (fun c1 => ?_) (fun c1 => ?_)
  · have hf := ifp hf c1
    refine lv_iconst (v := 0) hx hb dX6_readsRule_30 (by decide) ?_
    obtain rfl := sor hf
    exact r_retz F h rfl dX6_readsRule_31
  · have hf := ifn hf c1
    refine lv_aload_n hx hb dX6_readsRule_9 rfl (lv_at hl 0 rfl) ?_
    refine lv_iconst (v := 0) hx hb dX6_readsRule_10 (by decide) ?_
    refine lv_aload_n hx hb dX6_readsRule_11 rfl (lv_at hl 0 rfl) ?_
    refine r_get F h (i := 0) (k := 35) (.int (o_this.1 35)) inX6 rfl (by decide) w203 rfl rfl rfl dX6_readsRule_12 ?_
    obtain ⟨q2, h2, hf⟩ := asb hf
    refine r_callVi (As := [.int 0, .int (o_this.1 35)]) (rest := []) (C0 := [wX6 K a0 o_this]) (C1 := [wX6 K a0 q2.2]) (Rr := []) (S' := [wX6 K a0 q2.2]) F h hl (c6_figure l D K a0 0 (o_this.1 35) o_this q2 h2) [0] rfl rfl rfl rfl rfl (i := 0) rfl rfl w204 ⟨w205, w206, w207, w2⟩ hsc6_figure ⟨Nat.le_of_ble_eq_true rfl, Nat.le_of_ble_eq_true rfl⟩ ⟨Nat.le_refl 0, Nat.le_refl 0⟩ (Nat.le_of_ble_eq_true rfl) dX6_readsRule_15 (fun H locs h => ?_)
    refine lv_if_eq (tgt := 30) hx hb dX6_readsRule_18 (by decide) (fun c3 => ?_) (fun c3 => ?_)
    · have hf := ifp hf c3
      refine lv_iconst (v := 0) hx hb dX6_readsRule_30 (by decide) ?_
      obtain rfl := sor hf
      exact r_retz F h rfl dX6_readsRule_31
    · have hf := ifn hf c3
      refine lv_aload_n hx hb dX6_readsRule_21 rfl (lv_at hl 0 rfl) ?_
      refine lv_bipush (v := 44) hx hb dX6_readsRule_22 (by decide) ?_
      obtain ⟨q4, h4, hf⟩ := asb hf
      refine r_callVi (As := [.int 44]) (rest := []) (C0 := [wX6 K a0 q2.2]) (C1 := [wX6 K a0 q4.2]) (Rr := []) (S' := [wX6 K a0 q4.2]) F h hl (c6_sign l D K a0 44 q2.2 q4 h4) [0] rfl rfl rfl rfl rfl (i := 0) rfl rfl w209 ⟨w210, w211, w212, w2⟩ hsc6_sign ⟨Nat.le_of_ble_eq_true rfl, Nat.le_of_ble_eq_true rfl⟩ ⟨Nat.le_refl 0, Nat.le_refl 0⟩ (Nat.le_of_ble_eq_true rfl) dX6_readsRule_24 (fun H locs h => ?_)
      refine lv_if_ne (tgt := 32) hx hb dX6_readsRule_27 (by decide) (fun c5 => ?_) (fun c5 => ?_)
      · have hf := ifn hf c5
        refine lv_aload_n hx hb dX6_readsRule_32 rfl (lv_at hl 0 rfl) ?_
        refine r_get F h (i := 0) (k := 32) (.int (q4.2.1 32)) inX6 rfl (by decide) w19 rfl rfl rfl dX6_readsRule_33 ?_
        refine lv_topi (fun y6 e6 => ?_)
        have hf := ltb hf e6
        refine lv_istore_n (lv' := [(2, .int y6), (0, .ref (a0 0)), (1, .int x0)]) hx hb dX6_readsRule_36 rfl hl (by decide) rfl (fun ls hl => ?_)
        refine lv_aload_n hx hb dX6_readsRule_37 rfl (lv_at hl 1 rfl) ?_
        refine lv_iconst (v := 1) hx hb dX6_readsRule_38 (by decide) ?_
        obtain ⟨q7, h7, hf⟩ := asb hf
        refine r_callVi (As := [.int 1]) (rest := []) (C0 := [wX6 K a0 q4.2]) (C1 := [wX6 K a0 q7.2]) (Rr := []) (S' := [wX6 K a0 q7.2]) F h hl (c6_word l D K a0 1 q4.2 q7 h7) [0] rfl rfl rfl rfl rfl (i := 0) rfl rfl w213 ⟨w214, w215, w216, w2⟩ hsc6_word ⟨Nat.le_of_ble_eq_true rfl, Nat.le_of_ble_eq_true rfl⟩ ⟨Nat.le_refl 0, Nat.le_refl 0⟩ (Nat.le_of_ble_eq_true rfl) dX6_readsRule_39 (fun H locs h => ?_)
        refine lv_if_eq (tgt := 61) hx hb dX6_readsRule_42 (by decide) (fun c8 => ?_) (fun c8 => ?_)
        · have hf := ifp hf c8
          refine lv_iconst (v := 0) hx hb dX6_readsRule_61 (by decide) ?_
          obtain rfl := sor hf
          exact r_retz F h rfl dX6_readsRule_62
        · have hf := ifn hf c8
          refine lv_aload_n hx hb dX6_readsRule_45 rfl (lv_at hl 1 rfl) ?_
          refine r_get F h (i := 0) (k := 33) (.int (q7.2.1 33)) inX6 rfl (by decide) w23 rfl rfl rfl dX6_readsRule_46 ?_
          refine lv_if_eq (tgt := 61) hx hb dX6_readsRule_49 (by decide) (fun c9 => ?_) (fun c9 => ?_)
          · have hf := ifp hf c9
            refine lv_iconst (v := 0) hx hb dX6_readsRule_61 (by decide) ?_
            obtain rfl := sor hf
            exact r_retz F h rfl dX6_readsRule_62
          · have hf := ifn hf c9
            refine lv_aload_n hx hb dX6_readsRule_52 rfl (lv_at hl 1 rfl) ?_
            refine lv_bipush (v := 44) hx hb dX6_readsRule_53 (by decide) ?_
            obtain ⟨q10, h10, hf⟩ := asb hf
            refine r_callVi (As := [.int 44]) (rest := []) (C0 := [wX6 K a0 q7.2]) (C1 := [wX6 K a0 q10.2]) (Rr := []) (S' := [wX6 K a0 q10.2]) F h hl (c6_sign l D K a0 44 q7.2 q10 h10) [0] rfl rfl rfl rfl rfl (i := 0) rfl rfl w209 ⟨w210, w211, w212, w2⟩ hsc6_sign ⟨Nat.le_of_ble_eq_true rfl, Nat.le_of_ble_eq_true rfl⟩ ⟨Nat.le_refl 0, Nat.le_refl 0⟩ (Nat.le_of_ble_eq_true rfl) dX6_readsRule_55 (fun H locs h => ?_)
            refine lv_if_ne (tgt := 63) hx hb dX6_readsRule_58 (by decide) (fun c11 => ?_) (fun c11 => ?_)
            · have hf := ifn hf c11
              refine lv_aload_n hx hb dX6_readsRule_63 rfl (lv_at hl 1 rfl) ?_
              refine r_get F h (i := 0) (k := 34) (.ref (a0 35)) inX6 rfl (by decide) w24 rfl rfl rfl dX6_readsRule_64 ?_
              refine lv_iconst (v := 0) hx hb dX6_readsRule_67 (by decide) ?_
              obtain ⟨g12, hf⟩ := gdb hf
              refine r_iald F h (i := 0) (j := 19) rfl rfl (vin_ok g12) dX6_readsRule_68 ?_
              refine lv_topi (fun y13 e13 => ?_)
              have hf := ltb hf e13
              refine lv_istore_n (lv' := [(3, .int y13), (2, .int y6), (0, .ref (a0 0)), (1, .int x0)]) hx hb dX6_readsRule_69 rfl hl (by decide) rfl (fun ls hl => ?_)
              refine lv_aload_n hx hb dX6_readsRule_70 rfl (lv_at hl 2 rfl) ?_
              refine lv_iconst (v := 0) hx hb dX6_readsRule_71 (by decide) ?_
              refine lv_aload_n hx hb dX6_readsRule_72 rfl (lv_at hl 2 rfl) ?_
              refine r_get F h (i := 0) (k := 35) (.int (q10.2.1 35)) inX6 rfl (by decide) w203 rfl rfl rfl dX6_readsRule_73 ?_
              obtain ⟨q14, h14, hf⟩ := asb hf
              refine r_callVi (As := [.int 0, .int (q10.2.1 35)]) (rest := []) (C0 := [wX6 K a0 q10.2]) (C1 := [wX6 K a0 q14.2]) (Rr := []) (S' := [wX6 K a0 q14.2]) F h hl (c6_figure l D K a0 0 (q10.2.1 35) q10.2 q14 h14) [0] rfl rfl rfl rfl rfl (i := 0) rfl rfl w204 ⟨w205, w206, w207, w2⟩ hsc6_figure ⟨Nat.le_of_ble_eq_true rfl, Nat.le_of_ble_eq_true rfl⟩ ⟨Nat.le_refl 0, Nat.le_refl 0⟩ (Nat.le_of_ble_eq_true rfl) dX6_readsRule_76 (fun H locs h => ?_)
              refine lv_if_eq (tgt := 91) hx hb dX6_readsRule_79 (by decide) (fun c15 => ?_) (fun c15 => ?_)
              · have hf := ifp hf c15
                refine lv_iconst (v := 0) hx hb dX6_readsRule_91 (by decide) ?_
                obtain rfl := sor hf
                exact r_retz F h rfl dX6_readsRule_92
              · have hf := ifn hf c15
                refine lv_aload_n hx hb dX6_readsRule_82 rfl (lv_at hl 2 rfl) ?_
                refine lv_bipush (v := 44) hx hb dX6_readsRule_83 (by decide) ?_
                obtain ⟨q16, h16, hf⟩ := asb hf
                refine r_callVi (As := [.int 44]) (rest := []) (C0 := [wX6 K a0 q14.2]) (C1 := [wX6 K a0 q16.2]) (Rr := []) (S' := [wX6 K a0 q16.2]) F h hl (c6_sign l D K a0 44 q14.2 q16 h16) [0] rfl rfl rfl rfl rfl (i := 0) rfl rfl w209 ⟨w210, w211, w212, w2⟩ hsc6_sign ⟨Nat.le_of_ble_eq_true rfl, Nat.le_of_ble_eq_true rfl⟩ ⟨Nat.le_refl 0, Nat.le_refl 0⟩ (Nat.le_of_ble_eq_true rfl) dX6_readsRule_85 (fun H locs h => ?_)
                refine lv_if_ne (tgt := 93) hx hb dX6_readsRule_88 (by decide) (fun c17 => ?_) (fun c17 => ?_)
                · have hf := ifn hf c17
                  refine lv_aload_n hx hb dX6_readsRule_93 rfl (lv_at hl 2 rfl) ?_
                  refine r_get F h (i := 0) (k := 32) (.int (q16.2.1 32)) inX6 rfl (by decide) w19 rfl rfl rfl dX6_readsRule_94 ?_
                  refine lv_topi (fun y18 e18 => ?_)
                  have hf := ltb hf e18
                  refine lv_istore (lv' := [(4, .int y18), (3, .int y13), (2, .int y6), (0, .ref (a0 0)), (1, .int x0)]) hx hb dX6_readsRule_97 hl (by decide) rfl (fun ls hl => ?_)
                  refine lv_aload_n hx hb dX6_readsRule_99 rfl (lv_at hl 3 rfl) ?_
                  refine lv_iconst (v := 2) hx hb dX6_readsRule_100 (by decide) ?_
                  obtain ⟨q19, h19, hf⟩ := asb hf
                  refine r_callVi (As := [.int 2]) (rest := []) (C0 := [wX6 K a0 q16.2]) (C1 := [wX6 K a0 q19.2]) (Rr := []) (S' := [wX6 K a0 q19.2]) F h hl (c6_word l D K a0 2 q16.2 q19 h19) [0] rfl rfl rfl rfl rfl (i := 0) rfl rfl w213 ⟨w214, w215, w216, w2⟩ hsc6_word ⟨Nat.le_of_ble_eq_true rfl, Nat.le_of_ble_eq_true rfl⟩ ⟨Nat.le_refl 0, Nat.le_refl 0⟩ (Nat.le_of_ble_eq_true rfl) dX6_readsRule_101 (fun H locs h => ?_)
                  refine lv_if_eq (tgt := 116) hx hb dX6_readsRule_104 (by decide) (fun c20 => ?_) (fun c20 => ?_)
                  · have hf := ifp hf c20
                    refine lv_iconst (v := 0) hx hb dX6_readsRule_116 (by decide) ?_
                    obtain rfl := sor hf
                    exact r_retz F h rfl dX6_readsRule_117
                  · have hf := ifn hf c20
                    refine lv_aload_n hx hb dX6_readsRule_107 rfl (lv_at hl 3 rfl) ?_
                    refine lv_bipush (v := 44) hx hb dX6_readsRule_108 (by decide) ?_
                    obtain ⟨q21, h21, hf⟩ := asb hf
                    refine r_callVi (As := [.int 44]) (rest := []) (C0 := [wX6 K a0 q19.2]) (C1 := [wX6 K a0 q21.2]) (Rr := []) (S' := [wX6 K a0 q21.2]) F h hl (c6_sign l D K a0 44 q19.2 q21 h21) [0] rfl rfl rfl rfl rfl (i := 0) rfl rfl w209 ⟨w210, w211, w212, w2⟩ hsc6_sign ⟨Nat.le_of_ble_eq_true rfl, Nat.le_of_ble_eq_true rfl⟩ ⟨Nat.le_refl 0, Nat.le_refl 0⟩ (Nat.le_of_ble_eq_true rfl) dX6_readsRule_110 (fun H locs h => ?_)
                    refine lv_if_ne (tgt := 118) hx hb dX6_readsRule_113 (by decide) (fun c22 => ?_) (fun c22 => ?_)
                    · have hf := ifn hf c22
                      refine lv_aload_n hx hb dX6_readsRule_118 rfl (lv_at hl 3 rfl) ?_
                      refine r_get F h (i := 0) (k := 33) (.int (q21.2.1 33)) inX6 rfl (by decide) w23 rfl rfl rfl dX6_readsRule_119 ?_
                      obtain ⟨J23, eJ23, hf⟩ := rgn hf
                      have JW23 : ∀ (v23 : Int32) (H : Heap) (locs : List Loc) (ls : Array Slot), WD D A s.heap H locs [wX6 K a0 q21.2] → lv_has ls 6 [(0, .ref (a0 0)), (1, .int x0), (2, .int y6), (3, .int y13), (4, .int y18)] → J23 v23 = some r → W P l e (rmS 4 83) s m args below meth c H locs 0 0 (MQ below (QiS D A [wX6 K a0 r.2] r.1) args s 0 0 A) (F0 m 165 ls [.int v23]) := by
                        intro v23 H locs ls h hl hf
                        have hf := jof eJ23 hf
                        refine lv_istore (lv' := [(5, .int v23), (0, .ref (a0 0)), (1, .int x0), (2, .int y6), (3, .int y13), (4, .int y18)]) hx hb dX6_readsRule_165 hl (by decide) rfl (fun ls hl => ?_)
                        refine lv_aload_n hx hb dX6_readsRule_167 rfl (lv_at hl 1 rfl) ?_
                        refine lv_iconst (v := 0) hx hb dX6_readsRule_168 (by decide) ?_
                        refine lv_bipush (v := 10) hx hb dX6_readsRule_169 (by decide) ?_
                        obtain ⟨q24, h24, hf⟩ := asb hf
                        refine r_callVi (As := [.int 0, .int 10]) (rest := []) (C0 := [wX6 K a0 q21.2]) (C1 := [wX6 K a0 q24.2]) (Rr := []) (S' := [wX6 K a0 q24.2]) F h hl (c6_figure l D K a0 0 10 q21.2 q24 h24) [0] rfl rfl rfl rfl rfl (i := 0) rfl rfl w204 ⟨w205, w206, w207, w2⟩ hsc6_figure ⟨Nat.le_of_ble_eq_true rfl, Nat.le_of_ble_eq_true rfl⟩ ⟨Nat.le_refl 0, Nat.le_refl 0⟩ (Nat.le_of_ble_eq_true rfl) dX6_readsRule_171 (fun H locs h => ?_)
                        refine lv_if_ne (tgt := 179) hx hb dX6_readsRule_174 (by decide) (fun c25 => ?_) (fun c25 => ?_)
                        · have hf := ifn hf c25
                          refine lv_aload_n hx hb dX6_readsRule_179 rfl (lv_at hl 1 rfl) ?_
                          refine lv_dup hx hb dX6_readsRule_180 rfl ?_
                          refine r_get F h (i := 0) (k := 36) (.int (q24.2.1 36)) inX6 rfl (by decide) w208 rfl rfl rfl dX6_readsRule_181 ?_
                          refine lv_iconst (v := 1) hx hb dX6_readsRule_184 (by decide) ?_
                          refine lv_iadd hx hb dX6_readsRule_185 ?_
                          refine r_put (o1 := sI q24.2 36 ((q24.2.1 36) + 1)) (w := fun t26 => wX6 K a0 t26) (S' := fun t26 => [wX6 K a0 t26]) F h (i := 0) (k := 36) inX6 tyX6_ok nmX6 rfl (by decide) w208 rfl rfl rfl rfl rfl (Nat.le_of_ble_eq_true rfl) rfl (fun _ => rfl) dX6_readsRule_186 (fun t26 e26 H locs h => ?_)
                          have hf := ltb hf e26
                          refine lv_iload_n hx hb dX6_readsRule_189 rfl (lv_at hl 2 rfl) ?_
                          refine lv_if_eq (tgt := 207) hx hb dX6_readsRule_190 (by decide) (fun c27 => ?_) (fun c27 => ?_)
                          · have hf := ifp hf c27
                            refine lv_iconst (v := 1) hx hb dX6_readsRule_207 (by decide) ?_
                            obtain rfl := sor hf
                            exact r_retz F h rfl dX6_readsRule_208
                          · have hf := ifn hf c27
                            refine lv_aload_n hx hb dX6_readsRule_193 rfl (lv_at hl 1 rfl) ?_
                            refine lv_iload_n hx hb dX6_readsRule_194 rfl (lv_at hl 3 rfl) ?_
                            refine lv_iload_n hx hb dX6_readsRule_195 rfl (lv_at hl 4 rfl) ?_
                            refine lv_iload hx hb dX6_readsRule_196 (lv_at hl 5 rfl) ?_
                            refine lv_iload hx hb dX6_readsRule_198 (lv_at hl 0 rfl) ?_
                            refine lv_aload_n hx hb dX6_readsRule_200 rfl (lv_at hl 1 rfl) ?_
                            refine r_get F h (i := 0) (k := 32) (.int (t26.1 32)) inX6 rfl (by decide) w19 rfl rfl rfl dX6_readsRule_201 ?_
                            obtain ⟨q28, h28, hf⟩ := asb hf
                            refine r_callVv (As := [.int y6, .int y13, .int y18, .int v23, .int (t26.1 32)]) (rest := []) (C0 := [wX6 K a0 t26]) (C1 := [wX6 K a0 q28]) (Rr := []) (S' := [wX6 K a0 q28]) F h hl (c6_enters l D K a0 y6 y13 y18 v23 (t26.1 32) t26 q28 h28) [0] rfl rfl rfl rfl rfl (i := 0) rfl rfl w58 ⟨w59, w60, w61, w2⟩ hsc6_enters ⟨Nat.le_of_ble_eq_true rfl, Nat.le_of_ble_eq_true rfl⟩ ⟨Nat.le_refl 0, Nat.le_refl 0⟩ (Nat.le_of_ble_eq_true rfl) dX6_readsRule_204 (fun H locs h => ?_)
                            refine lv_iconst (v := 1) hx hb dX6_readsRule_207 (by decide) ?_
                            obtain rfl := sor hf
                            exact r_retz F h rfl dX6_readsRule_208
                        · have hf := ifp hf c25
                          refine lv_iconst (v := 0) hx hb dX6_readsRule_177 (by decide) ?_
                          obtain rfl := sor hf
                          exact r_retz F h rfl dX6_readsRule_178
                      refine lv_if_ne (tgt := 129) hx hb dX6_readsRule_122 (by decide) (fun c29 => ?_) (fun c29 => ?_)
                      · have hf := ifn hf c29
                        refine lv_aload_n hx hb dX6_readsRule_129 rfl (lv_at hl 3 rfl) ?_
                        refine r_get F h (i := 0) (k := 33) (.int (q21.2.1 33)) inX6 rfl (by decide) w23 rfl rfl rfl dX6_readsRule_130 ?_
                        refine lv_iconst (v := 1) hx hb dX6_readsRule_133 (by decide) ?_
                        refine lv_icmp_ne (tgt := 148) hx hb dX6_readsRule_134 (by decide) (fun c30 => ?_) (fun c30 => ?_)
                        · have hf := ifn hf c30
                          refine lv_iconst (v := 5) hx hb dX6_readsRule_148 (by decide) ?_
                          refine lv_iconst (v := 4) hx hb dX6_readsRule_149 (by decide) ?_
                          refine lv_aload_n hx hb dX6_readsRule_150 rfl (lv_at hl 3 rfl) ?_
                          refine r_get F h (i := 0) (k := 34) (.ref (a0 35)) inX6 rfl (by decide) w24 rfl rfl rfl dX6_readsRule_151 ?_
                          refine lv_iconst (v := 0) hx hb dX6_readsRule_154 (by decide) ?_
                          obtain ⟨g31, hf⟩ := gdb hf
                          refine r_iald F h (i := 0) (j := 19) rfl rfl (vin_ok g31) dX6_readsRule_155 ?_
                          refine lv_imul hx hb dX6_readsRule_156 ?_
                          refine lv_iadd hx hb dX6_readsRule_157 ?_
                          refine lv_aload_n hx hb dX6_readsRule_158 rfl (lv_at hl 3 rfl) ?_
                          refine r_get F h (i := 0) (k := 34) (.ref (a0 35)) inX6 rfl (by decide) w24 rfl rfl rfl dX6_readsRule_159 ?_
                          refine lv_iconst (v := 1) hx hb dX6_readsRule_162 (by decide) ?_
                          obtain ⟨g32, hf⟩ := gdb hf
                          refine r_iald F h (i := 0) (j := 19) rfl rfl (vin_ok g32) dX6_readsRule_163 ?_
                          refine lv_iadd hx hb dX6_readsRule_164 ?_
                          exact JW23 ((5 + (4 * (q21.2.2 34 (0 : Int32).toNatClampNeg))) + (q21.2.2 34 (1 : Int32).toNatClampNeg)) _ _ _ h (lv_sub hl [3, 4, 2, 1, 0] rfl) (sob hf)
                        · have hf := ifp hf c30
                          refine lv_iconst (v := 1) hx hb dX6_readsRule_137 (by decide) ?_
                          refine lv_aload_n hx hb dX6_readsRule_138 rfl (lv_at hl 3 rfl) ?_
                          refine r_get F h (i := 0) (k := 34) (.ref (a0 35)) inX6 rfl (by decide) w24 rfl rfl rfl dX6_readsRule_139 ?_
                          refine lv_iconst (v := 0) hx hb dX6_readsRule_142 (by decide) ?_
                          obtain ⟨g33, hf⟩ := gdb hf
                          refine r_iald F h (i := 0) (j := 19) rfl rfl (vin_ok g33) dX6_readsRule_143 ?_
                          refine lv_iadd hx hb dX6_readsRule_144 ?_
                          refine lv_goto (tgt := 165) hx hb dX6_readsRule_145 (by decide) ?_
                          exact JW23 (1 + (q21.2.2 34 (0 : Int32).toNatClampNeg)) _ _ _ h (lv_sub hl [3, 4, 2, 1, 0] rfl) (sob hf)
                      · have hf := ifp hf c29
                        refine lv_iconst (v := 0) hx hb dX6_readsRule_125 (by decide) ?_
                        refine lv_goto (tgt := 165) hx hb dX6_readsRule_126 (by decide) ?_
                        exact JW23 0 _ _ _ h (lv_sub hl [3, 4, 2, 1, 0] rfl) (sob hf)
                    · have hf := ifp hf c22
                      refine lv_iconst (v := 0) hx hb dX6_readsRule_116 (by decide) ?_
                      obtain rfl := sor hf
                      exact r_retz F h rfl dX6_readsRule_117
                · have hf := ifp hf c17
                  refine lv_iconst (v := 0) hx hb dX6_readsRule_91 (by decide) ?_
                  obtain rfl := sor hf
                  exact r_retz F h rfl dX6_readsRule_92
            · have hf := ifp hf c11
              refine lv_iconst (v := 0) hx hb dX6_readsRule_61 (by decide) ?_
              obtain rfl := sor hf
              exact r_retz F h rfl dX6_readsRule_62
      · have hf := ifp hf c5
        refine lv_iconst (v := 0) hx hb dX6_readsRule_30 (by decide) ?_
        obtain rfl := sor hf
        exact r_retz F h rfl dX6_readsRule_31
def f6_readsTarget_L116 (g12 : Int32) (z20 : Int32 × ob) : Option (Nat × (Int32 × ob)) :=
  (if 3 ≤ z20.1 then (some (1, (z20.1, z20.2))) else (((if (z20.2.1 33) ≤ z20.1 then (some (-4)) else (gd (vin z20.1 6) <| some (z20.2.2 34 z20.1.toNatClampNeg)))).bind fun v23 => gd (vin ((g12 + 3) + z20.1) 24) <| lt (sA z20.2 4 ((g12 + 3) + z20.1).toNatClampNeg v23) fun t25 => lt (z20.1 + 1) fun y26 => some (0, (y26, t25))))
noncomputable def f6_readsTarget (x0 : Int32) (o_this : ob) : Option (Int32 × ob) :=
  (if (o_this.1 37) = 4 then (some (0, o_this)) else ((f6_figure 0 (o_this.1 35) o_this).bind fun q2 => (if q2.1 = 0 then (some (0, q2.2)) else ((f6_sign 44 q2.2).bind fun q4 => (if q4.1 = 0 then (some (0, q4.2)) else ((f6_word 3 q4.2).bind fun q6 => (if q6.1 = 0 then (some (0, q6.2)) else (lt (q6.2.1 32) fun y8 => (f6_sign 46 q6.2).bind fun q9 => lt (sI q9.2 37 ((q9.2.1 37) + 1)) fun t10 => (if x0 = 0 then (some (1, t10)) else (lt (6 * (t10.1 3)) fun y12 => gd (vin y12 24) <| lt (sA t10 4 y12.toNatClampNeg y8) fun t14 => gd (vin (y12 + 1) 24) <| lt (sA t14 4 (y12 + 1).toNatClampNeg (t14.1 33)) fun t16 => ((if q9.1 = 0 then (some 0) else (some 1))).bind fun v17 => gd (vin (y12 + 2) 24) <| lt (sA t16 4 (y12 + 2).toNatClampNeg v17) fun t19 => (wh (f6_readsTarget_L116 y12) (0, t19)).bind fun q20 => lt (sI q20.2.2 3 ((q20.2.2.1 3) + 1)) fun t21 => some (1, t21)))))))))))
set_option maxRecDepth 100000 in
set_option maxHeartbeats 4000000 in
theorem c6_readsTarget (l : Launch) (D : va_G) (K : Nat → ClassId) (a0 : Nat → Nat) (x0 : Int32) (o_this : ob) (r : Int32 × ob) (hf : f6_readsTarget x0 o_this = some r) : CTi l yX6_readsTarget cX6_readsTarget 6 (some .boolean) 4 83 D K [.ref (a0 0), .int x0] [wX6 K a0 o_this] [wX6 K a0 r.2] r.1 := by
  unfold f6_readsTarget at hf
  have hf := tob hf
  refine entI (by decide) (Nat.le_of_ble_eq_true rfl) (fun P e s m args below meth c A ls F h hl hin => ?_)
  have hx := F.1
  have hb := F.2.1
  have hl : lv_has ls 6 [(0, .ref (a0 0)), (1, .int x0)] := hl
  refine lv_aload_n hx hb dX6_readsTarget_0 rfl (lv_at hl 0 rfl) ?_
  refine r_get F h (i := 0) (k := 37) (.int (o_this.1 37)) inX6 rfl (by decide) w217 rfl rfl rfl dX6_readsTarget_1 ?_
  refine lv_iconst (v := 4) hx hb dX6_readsTarget_4 (by decide) ?_
  refine lv_icmp_eq (tgt := 37) hx hb dX6_readsTarget_5 (by decide) (fun c1 => ?_) (fun c1 => ?_)
  · have hf := ifp hf c1
    refine lv_iconst (v := 0) hx hb dX6_readsTarget_37 (by decide) ?_
    obtain rfl := sor hf
    exact r_retz F h rfl dX6_readsTarget_38
  · have hf := ifn hf c1
    refine lv_aload_n hx hb dX6_readsTarget_8 rfl (lv_at hl 0 rfl) ?_
    refine lv_iconst (v := 0) hx hb dX6_readsTarget_9 (by decide) ?_
    refine lv_aload_n hx hb dX6_readsTarget_10 rfl (lv_at hl 0 rfl) ?_
    refine r_get F h (i := 0) (k := 35) (.int (o_this.1 35)) inX6 rfl (by decide) w203 rfl rfl rfl dX6_readsTarget_11 ?_
    obtain ⟨q2, h2, hf⟩ := asb hf
    refine r_callVi (As := [.int 0, .int (o_this.1 35)]) (rest := []) (C0 := [wX6 K a0 o_this]) (C1 := [wX6 K a0 q2.2]) (Rr := []) (S' := [wX6 K a0 q2.2]) F h hl (c6_figure l D K a0 0 (o_this.1 35) o_this q2 h2) [0] rfl rfl rfl rfl rfl (i := 0) rfl rfl w204 ⟨w205, w206, w207, w2⟩ hsc6_figure ⟨Nat.le_of_ble_eq_true rfl, Nat.le_of_ble_eq_true rfl⟩ ⟨Nat.le_refl 0, Nat.le_refl 0⟩ (Nat.le_of_ble_eq_true rfl) dX6_readsTarget_14 (fun H locs h => ?_)
    refine lv_if_eq (tgt := 37) hx hb dX6_readsTarget_17 (by decide) (fun c3 => ?_) (fun c3 => ?_)
    · have hf := ifp hf c3
      refine lv_iconst (v := 0) hx hb dX6_readsTarget_37 (by decide) ?_
      obtain rfl := sor hf
      exact r_retz F h rfl dX6_readsTarget_38
    · have hf := ifn hf c3
      refine lv_aload_n hx hb dX6_readsTarget_20 rfl (lv_at hl 0 rfl) ?_
      refine lv_bipush (v := 44) hx hb dX6_readsTarget_21 (by decide) ?_
      obtain ⟨q4, h4, hf⟩ := asb hf
      refine r_callVi (As := [.int 44]) (rest := []) (C0 := [wX6 K a0 q2.2]) (C1 := [wX6 K a0 q4.2]) (Rr := []) (S' := [wX6 K a0 q4.2]) F h hl (c6_sign l D K a0 44 q2.2 q4 h4) [0] rfl rfl rfl rfl rfl (i := 0) rfl rfl w209 ⟨w210, w211, w212, w2⟩ hsc6_sign ⟨Nat.le_of_ble_eq_true rfl, Nat.le_of_ble_eq_true rfl⟩ ⟨Nat.le_refl 0, Nat.le_refl 0⟩ (Nat.le_of_ble_eq_true rfl) dX6_readsTarget_23 (fun H locs h => ?_)
      refine lv_if_eq (tgt := 37) hx hb dX6_readsTarget_26 (by decide) (fun c5 => ?_) (fun c5 => ?_)
      · have hf := ifp hf c5
        refine lv_iconst (v := 0) hx hb dX6_readsTarget_37 (by decide) ?_
        obtain rfl := sor hf
        exact r_retz F h rfl dX6_readsTarget_38
      · have hf := ifn hf c5
        refine lv_aload_n hx hb dX6_readsTarget_29 rfl (lv_at hl 0 rfl) ?_
        refine lv_iconst (v := 3) hx hb dX6_readsTarget_30 (by decide) ?_
        obtain ⟨q6, h6, hf⟩ := asb hf
        refine r_callVi (As := [.int 3]) (rest := []) (C0 := [wX6 K a0 q4.2]) (C1 := [wX6 K a0 q6.2]) (Rr := []) (S' := [wX6 K a0 q6.2]) F h hl (c6_word l D K a0 3 q4.2 q6 h6) [0] rfl rfl rfl rfl rfl (i := 0) rfl rfl w213 ⟨w214, w215, w216, w2⟩ hsc6_word ⟨Nat.le_of_ble_eq_true rfl, Nat.le_of_ble_eq_true rfl⟩ ⟨Nat.le_refl 0, Nat.le_refl 0⟩ (Nat.le_of_ble_eq_true rfl) dX6_readsTarget_31 (fun H locs h => ?_)
        refine lv_if_ne (tgt := 39) hx hb dX6_readsTarget_34 (by decide) (fun c7 => ?_) (fun c7 => ?_)
        · have hf := ifn hf c7
          refine lv_aload_n hx hb dX6_readsTarget_39 rfl (lv_at hl 0 rfl) ?_
          refine r_get F h (i := 0) (k := 32) (.int (q6.2.1 32)) inX6 rfl (by decide) w19 rfl rfl rfl dX6_readsTarget_40 ?_
          refine lv_topi (fun y8 e8 => ?_)
          have hf := ltb hf e8
          refine lv_istore_n (lv' := [(2, .int y8), (0, .ref (a0 0)), (1, .int x0)]) hx hb dX6_readsTarget_43 rfl hl (by decide) rfl (fun ls hl => ?_)
          refine lv_aload_n hx hb dX6_readsTarget_44 rfl (lv_at hl 1 rfl) ?_
          refine lv_bipush (v := 46) hx hb dX6_readsTarget_45 (by decide) ?_
          obtain ⟨q9, h9, hf⟩ := asb hf
          refine r_callVi (As := [.int 46]) (rest := []) (C0 := [wX6 K a0 q6.2]) (C1 := [wX6 K a0 q9.2]) (Rr := []) (S' := [wX6 K a0 q9.2]) F h hl (c6_sign l D K a0 46 q6.2 q9 h9) [0] rfl rfl rfl rfl rfl (i := 0) rfl rfl w209 ⟨w210, w211, w212, w2⟩ hsc6_sign ⟨Nat.le_of_ble_eq_true rfl, Nat.le_of_ble_eq_true rfl⟩ ⟨Nat.le_refl 0, Nat.le_refl 0⟩ (Nat.le_of_ble_eq_true rfl) dX6_readsTarget_47 (fun H locs h => ?_)
          refine lv_istore_n (lv' := [(3, .int q9.1), (2, .int y8), (0, .ref (a0 0)), (1, .int x0)]) hx hb dX6_readsTarget_50 rfl hl (by decide) rfl (fun ls hl => ?_)
          refine lv_aload_n hx hb dX6_readsTarget_51 rfl (lv_at hl 2 rfl) ?_
          refine lv_dup hx hb dX6_readsTarget_52 rfl ?_
          refine r_get F h (i := 0) (k := 37) (.int (q9.2.1 37)) inX6 rfl (by decide) w217 rfl rfl rfl dX6_readsTarget_53 ?_
          refine lv_iconst (v := 1) hx hb dX6_readsTarget_56 (by decide) ?_
          refine lv_iadd hx hb dX6_readsTarget_57 ?_
          refine r_put (o1 := sI q9.2 37 ((q9.2.1 37) + 1)) (w := fun t10 => wX6 K a0 t10) (S' := fun t10 => [wX6 K a0 t10]) F h (i := 0) (k := 37) inX6 tyX6_ok nmX6 rfl (by decide) w217 rfl rfl rfl rfl rfl (Nat.le_of_ble_eq_true rfl) rfl (fun _ => rfl) dX6_readsTarget_58 (fun t10 e10 H locs h => ?_)
          have hf := ltb hf e10
          refine lv_iload_n hx hb dX6_readsTarget_61 rfl (lv_at hl 3 rfl) ?_
          refine lv_if_eq (tgt := 171) hx hb dX6_readsTarget_62 (by decide) (fun c11 => ?_) (fun c11 => ?_)
          · have hf := ifp hf c11
            refine lv_iconst (v := 1) hx hb dX6_readsTarget_171 (by decide) ?_
            obtain rfl := sor hf
            exact r_retz F h rfl dX6_readsTarget_172
          · have hf := ifn hf c11
            refine lv_bipush (v := 6) hx hb dX6_readsTarget_65 (by decide) ?_
            refine lv_aload_n hx hb dX6_readsTarget_67 rfl (lv_at hl 2 rfl) ?_
            refine r_get F h (i := 0) (k := 3) (.int (t10.1 3)) inX6 rfl (by decide) w11 rfl rfl rfl dX6_readsTarget_68 ?_
            refine lv_imul hx hb dX6_readsTarget_71 ?_
            refine lv_topi (fun y12 e12 => ?_)
            have hf := ltb hf e12
            refine lv_istore (lv' := [(4, .int y12), (3, .int q9.1), (2, .int y8), (0, .ref (a0 0)), (1, .int x0)]) hx hb dX6_readsTarget_72 hl (by decide) rfl (fun ls hl => ?_)
            refine lv_aload_n hx hb dX6_readsTarget_74 rfl (lv_at hl 3 rfl) ?_
            refine r_get F h (i := 0) (k := 4) (.ref (a0 5)) inX6 rfl (by decide) w12 rfl rfl rfl dX6_readsTarget_75 ?_
            refine lv_iload hx hb dX6_readsTarget_78 (lv_at hl 0 rfl) ?_
            refine lv_iload_n hx hb dX6_readsTarget_80 rfl (lv_at hl 2 rfl) ?_
            obtain ⟨g13, hf⟩ := gdb hf
            refine r_iast (o1 := sA t10 4 y12.toNatClampNeg y8) (w := fun t14 => wX6 K a0 t14) (S' := fun t14 => [wX6 K a0 t14]) F h (i := 0) (j := 2) rfl rfl (vin_ok g13) rfl (fun _ => rfl) dX6_readsTarget_81 (fun t14 e14 H locs h => ?_)
            have hf := ltb hf e14
            refine lv_aload_n hx hb dX6_readsTarget_82 rfl (lv_at hl 3 rfl) ?_
            refine r_get F h (i := 0) (k := 4) (.ref (a0 5)) inX6 rfl (by decide) w12 rfl rfl rfl dX6_readsTarget_83 ?_
            refine lv_iload hx hb dX6_readsTarget_86 (lv_at hl 0 rfl) ?_
            refine lv_iconst (v := 1) hx hb dX6_readsTarget_88 (by decide) ?_
            refine lv_iadd hx hb dX6_readsTarget_89 ?_
            refine lv_aload_n hx hb dX6_readsTarget_90 rfl (lv_at hl 3 rfl) ?_
            refine r_get F h (i := 0) (k := 33) (.int (t14.1 33)) inX6 rfl (by decide) w23 rfl rfl rfl dX6_readsTarget_91 ?_
            obtain ⟨g15, hf⟩ := gdb hf
            refine r_iast (o1 := sA t14 4 (y12 + 1).toNatClampNeg (t14.1 33)) (w := fun t16 => wX6 K a0 t16) (S' := fun t16 => [wX6 K a0 t16]) F h (i := 0) (j := 2) rfl rfl (vin_ok g15) rfl (fun _ => rfl) dX6_readsTarget_94 (fun t16 e16 H locs h => ?_)
            have hf := ltb hf e16
            refine lv_aload_n hx hb dX6_readsTarget_95 rfl (lv_at hl 3 rfl) ?_
            refine r_get F h (i := 0) (k := 4) (.ref (a0 5)) inX6 rfl (by decide) w12 rfl rfl rfl dX6_readsTarget_96 ?_
            refine lv_iload hx hb dX6_readsTarget_99 (lv_at hl 0 rfl) ?_
            refine lv_iconst (v := 2) hx hb dX6_readsTarget_101 (by decide) ?_
            refine lv_iadd hx hb dX6_readsTarget_102 ?_
            refine lv_iload_n hx hb dX6_readsTarget_103 rfl (lv_at hl 1 rfl) ?_
            obtain ⟨J17, eJ17, hf⟩ := rgn hf
            have JW17 : ∀ (v17 : Int32) (H : Heap) (locs : List Loc) (ls : Array Slot), WD D A s.heap H locs [wX6 K a0 t16] → lv_has ls 6 [(0, .ref (a0 0)), (4, .int y12)] → J17 v17 = some r → W P l e (rmS 4 83) s m args below meth c H locs 0 0 (MQ below (QiS D A [wX6 K a0 r.2] r.1) args s 0 0 A) (F0 m 112 ls [.int v17, .int (y12 + 2), .ref (a0 5)]) := by
              intro v17 H locs ls h hl hf
              have hf := jof eJ17 hf
              obtain ⟨g18, hf⟩ := gdb hf
              refine r_iast (o1 := sA t16 4 (y12 + 2).toNatClampNeg v17) (w := fun t19 => wX6 K a0 t19) (S' := fun t19 => [wX6 K a0 t19]) F h (i := 0) (j := 2) rfl rfl (vin_ok g18) rfl (fun _ => rfl) dX6_readsTarget_112 (fun t19 e19 H locs h => ?_)
              have hf := ltb hf e19
              refine lv_iconst (v := 0) hx hb dX6_readsTarget_113 (by decide) ?_
              refine lv_istore (lv' := [(5, .int 0), (0, .ref (a0 0)), (4, .int y12)]) hx hb dX6_readsTarget_114 hl (by decide) rfl (fun ls hl => ?_)
              obtain ⟨q20, hq20, hf⟩ := asb hf
              obtain ⟨nq20, hq20⟩ := wh_out hq20
              have Xq20_1 : ∀ (z20 : Int32 × ob) (H : Heap) (locs : List Loc) (ls : Array Slot), q20 = (1, z20) → WD D A s.heap H locs [wX6 K a0 z20.2] → lv_has ls 6 [(0, .ref (a0 0))] → W P l e (rmS 4 83) s m args below meth c H locs 0 0 (MQ below (QiS D A [wX6 K a0 r.2] r.1) args s 0 0 A) (F0 m 161 ls []) := by
                intro z20 H locs ls eq20 h hl
                obtain rfl : z20 = q20.2 := by rw [eq20]
                refine lv_aload_n hx hb dX6_readsTarget_161 rfl (lv_at hl 0 rfl) ?_
                refine lv_dup hx hb dX6_readsTarget_162 rfl ?_
                refine r_get F h (i := 0) (k := 3) (.int (q20.2.2.1 3)) inX6 rfl (by decide) w11 rfl rfl rfl dX6_readsTarget_163 ?_
                refine lv_iconst (v := 1) hx hb dX6_readsTarget_166 (by decide) ?_
                refine lv_iadd hx hb dX6_readsTarget_167 ?_
                refine r_put (o1 := sI q20.2.2 3 ((q20.2.2.1 3) + 1)) (w := fun t21 => wX6 K a0 t21) (S' := fun t21 => [wX6 K a0 t21]) F h (i := 0) (k := 3) inX6 tyX6_ok nmX6 rfl (by decide) w11 rfl rfl rfl rfl rfl (Nat.le_of_ble_eq_true rfl) rfl (fun _ => rfl) dX6_readsTarget_168 (fun t21 e21 H locs h => ?_)
                have hf := ltb hf e21
                refine lv_iconst (v := 1) hx hb dX6_readsTarget_171 (by decide) ?_
                obtain rfl := sor hf
                exact r_retz F h rfl dX6_readsTarget_172
              have Lq20 : ∀ (n : Nat) (z20 : Int32 × ob) (H : Heap) (locs : List Loc) (ls : Array Slot), iter (f6_readsTarget_L116 y12) n z20 = some q20 → WD D A s.heap H locs [wX6 K a0 z20.2] → lv_has ls 6 [(0, .ref (a0 0)), (4, .int y12), (5, .int z20.1)] → W P l e (rmS 4 83) s m args below meth c H locs 0 0 (MQ below (QiS D A [wX6 K a0 r.2] r.1) args s 0 0 A) (F0 m 116 ls []) := by
                intro n
                induction n with
                | zero => intro z20 H locs ls hi; exact (iter_0 hi).elim
                | succ n ihq20 =>
                  intro z20 H locs ls hi h hl
                  obtain ⟨uq20, hf, huq20⟩ := iter_s hi
                  unfold f6_readsTarget_L116 at hf
                  have hf := tob hf
                  refine lv_iload hx hb dX6_readsTarget_116 (lv_at hl 2 rfl) ?_
                  refine lv_iconst (v := 3) hx hb dX6_readsTarget_118 (by decide) ?_
                  refine lv_icmp_ge (tgt := 161) hx hb dX6_readsTarget_119 (by decide) (fun c22 => ?_) (fun c22 => ?_)
                  · have hf := ifp hf c22
                    exact Xq20_1 _ _ _ _ (itr_x huq20 (sor hf)) h (lv_sub hl [0] rfl)
                  · have hf := ifn hf c22
                    refine lv_aload_n hx hb dX6_readsTarget_122 rfl (lv_at hl 0 rfl) ?_
                    refine r_get F h (i := 0) (k := 4) (.ref (a0 5)) inX6 rfl (by decide) w12 rfl rfl rfl dX6_readsTarget_123 ?_
                    refine lv_iload hx hb dX6_readsTarget_126 (lv_at hl 1 rfl) ?_
                    refine lv_iconst (v := 3) hx hb dX6_readsTarget_128 (by decide) ?_
                    refine lv_iadd hx hb dX6_readsTarget_129 ?_
                    refine lv_iload hx hb dX6_readsTarget_130 (lv_at hl 2 rfl) ?_
                    refine lv_iadd hx hb dX6_readsTarget_132 ?_
                    refine lv_iload hx hb dX6_readsTarget_133 (lv_at hl 2 rfl) ?_
                    refine lv_aload_n hx hb dX6_readsTarget_135 rfl (lv_at hl 0 rfl) ?_
                    refine r_get F h (i := 0) (k := 33) (.int (z20.2.1 33)) inX6 rfl (by decide) w23 rfl rfl rfl dX6_readsTarget_136 ?_
                    obtain ⟨J23, eJ23, hf⟩ := rgn hf
                    have JW23 : ∀ (v23 : Int32) (H : Heap) (locs : List Loc) (ls : Array Slot), WD D A s.heap H locs [wX6 K a0 z20.2] → lv_has ls 6 [(0, .ref (a0 0)), (4, .int y12), (5, .int z20.1)] → J23 v23 = some uq20 → W P l e (rmS 4 83) s m args below meth c H locs 0 0 (MQ below (QiS D A [wX6 K a0 r.2] r.1) args s 0 0 A) (F0 m 154 ls [.int v23, .int ((y12 + 3) + z20.1), .ref (a0 5)]) := by
                      intro v23 H locs ls h hl hf
                      have hf := jof eJ23 hf
                      obtain ⟨g24, hf⟩ := gdb hf
                      refine r_iast (o1 := sA z20.2 4 ((y12 + 3) + z20.1).toNatClampNeg v23) (w := fun t25 => wX6 K a0 t25) (S' := fun t25 => [wX6 K a0 t25]) F h (i := 0) (j := 2) rfl rfl (vin_ok g24) rfl (fun _ => rfl) dX6_readsTarget_154 (fun t25 e25 H locs h => ?_)
                      have hf := ltb hf e25
                      obtain ⟨y26, e26⟩ : ∃ y : Int32, y = z20.1 + 1 := ⟨_, rfl⟩
                      have hf := ltb hf e26
                      refine lv_iinc (v := y26) (lv' := [(5, .int y26), (0, .ref (a0 0)), (4, .int y12)]) hx hb dX6_readsTarget_155 hl (k := 2) rfl (by rw [e26]; rfl) (by decide) rfl (fun ls hl => ?_)
                      refine lv_goto (tgt := 116) hx hb dX6_readsTarget_158 (by decide) ?_
                      exact ihq20 _ _ _ _ (itr_c huq20 (sor hf)) h (lv_sub hl [1, 2, 0] rfl)
                    refine lv_icmp_ge (tgt := 152) hx hb dX6_readsTarget_139 (by decide) (fun c27 => ?_) (fun c27 => ?_)
                    · have hf := ifp hf c27
                      refine lv_bipush (v := (-4)) hx hb dX6_readsTarget_152 (by decide) ?_
                      exact JW23 (-4) _ _ _ h (lv_sub hl [0, 1, 2] rfl) (sob hf)
                    · have hf := ifn hf c27
                      refine lv_aload_n hx hb dX6_readsTarget_142 rfl (lv_at hl 0 rfl) ?_
                      refine r_get F h (i := 0) (k := 34) (.ref (a0 35)) inX6 rfl (by decide) w24 rfl rfl rfl dX6_readsTarget_143 ?_
                      refine lv_iload hx hb dX6_readsTarget_146 (lv_at hl 2 rfl) ?_
                      obtain ⟨g28, hf⟩ := gdb hf
                      refine r_iald F h (i := 0) (j := 19) rfl rfl (vin_ok g28) dX6_readsTarget_148 ?_
                      refine lv_goto (tgt := 154) hx hb dX6_readsTarget_149 (by decide) ?_
                      exact JW23 (z20.2.2 34 z20.1.toNatClampNeg) _ _ _ h (lv_sub hl [0, 1, 2] rfl) (sob hf)
              exact Lq20 _ _ _ _ _ hq20 h (lv_sub hl [1, 2, 0] rfl)
            refine lv_if_eq (tgt := 111) hx hb dX6_readsTarget_104 (by decide) (fun c29 => ?_) (fun c29 => ?_)
            · have hf := ifp hf c29
              refine lv_iconst (v := 0) hx hb dX6_readsTarget_111 (by decide) ?_
              exact JW17 0 _ _ _ h (lv_sub hl [3, 0] rfl) (sob hf)
            · have hf := ifn hf c29
              refine lv_iconst (v := 1) hx hb dX6_readsTarget_107 (by decide) ?_
              refine lv_goto (tgt := 112) hx hb dX6_readsTarget_108 (by decide) ?_
              exact JW17 1 _ _ _ h (lv_sub hl [3, 0] rfl) (sob hf)
        · have hf := ifp hf c7
          refine lv_iconst (v := 0) hx hb dX6_readsTarget_37 (by decide) ?_
          obtain rfl := sor hf
          exact r_retz F h rfl dX6_readsTarget_38
def f6_readsConfiguration_L54 (z10 : Int32 × ob) : Option (Nat × (Int32 × ob)) :=
  (if (z10.2.1 33) ≤ z10.1 then (some (1, (z10.1, z10.2))) else (gd (vin (((z10.2.1 33) - 1) - z10.1) 6) <| gd (vin z10.1 12) <| lt (sA z10.2 7 z10.1.toNatClampNeg (z10.2.2 34 (((z10.2.1 33) - 1) - z10.1).toNatClampNeg)) fun t14 => lt (z10.1 + 1) fun y15 => some (0, (y15, t14))))
noncomputable def f6_readsConfiguration (x0 : Int32) (o_this : ob) : Option (Int32 × ob) :=
  (f6_figure 0 (o_this.1 35) o_this).bind fun q1 => (if q1.1 = 0 then (some (0, q1.2)) else ((f6_sign 44 q1.2).bind fun q3 => (if q3.1 = 0 then (some (0, q3.2)) else ((f6_word 6 q3.2).bind fun q5 => (if q5.1 = 0 then (some (0, q5.2)) else ((if x0 = 0 then (some (1, q5.2)) else (lt (sI q5.2 5 (q5.2.1 32)) fun t8 => lt (sI t8 6 (t8.1 33)) fun t9 => (wh f6_readsConfiguration_L54 (0, t9)).bind fun q10 => some (1, q10.2.2)))))))))
set_option maxRecDepth 100000 in
set_option maxHeartbeats 4000000 in
theorem c6_readsConfiguration (l : Launch) (D : va_G) (K : Nat → ClassId) (a0 : Nat → Nat) (x0 : Int32) (o_this : ob) (r : Int32 × ob) (hf : f6_readsConfiguration x0 o_this = some r) : CTi l yX6_readsConfiguration cX6_readsConfiguration 3 (some .boolean) 4 83 D K [.ref (a0 0), .int x0] [wX6 K a0 o_this] [wX6 K a0 r.2] r.1 := by
  unfold f6_readsConfiguration at hf
  have hf := tob hf
  refine entI (by decide) (Nat.le_of_ble_eq_true rfl) (fun P e s m args below meth c A ls F h hl hin => ?_)
  have hx := F.1
  have hb := F.2.1
  have hl : lv_has ls 3 [(0, .ref (a0 0)), (1, .int x0)] := hl
  refine lv_aload_n hx hb dX6_readsConfiguration_0 rfl (lv_at hl 0 rfl) ?_
  refine lv_iconst (v := 0) hx hb dX6_readsConfiguration_1 (by decide) ?_
  refine lv_aload_n hx hb dX6_readsConfiguration_2 rfl (lv_at hl 0 rfl) ?_
  refine r_get F h (i := 0) (k := 35) (.int (o_this.1 35)) inX6 rfl (by decide) w203 rfl rfl rfl dX6_readsConfiguration_3 ?_
  obtain ⟨q1, h1, hf⟩ := asb hf
  refine r_callVi (As := [.int 0, .int (o_this.1 35)]) (rest := []) (C0 := [wX6 K a0 o_this]) (C1 := [wX6 K a0 q1.2]) (Rr := []) (S' := [wX6 K a0 q1.2]) F h hl (c6_figure l D K a0 0 (o_this.1 35) o_this q1 h1) [0] rfl rfl rfl rfl rfl (i := 0) rfl rfl w204 ⟨w205, w206, w207, w2⟩ hsc6_figure ⟨Nat.le_of_ble_eq_true rfl, Nat.le_of_ble_eq_true rfl⟩ ⟨Nat.le_refl 0, Nat.le_refl 0⟩ (Nat.le_of_ble_eq_true rfl) dX6_readsConfiguration_6 (fun H locs h => ?_)
  refine lv_if_eq (tgt := 30) hx hb dX6_readsConfiguration_9 (by decide) (fun c2 => ?_) (fun c2 => ?_)
  · have hf := ifp hf c2
    refine lv_iconst (v := 0) hx hb dX6_readsConfiguration_30 (by decide) ?_
    obtain rfl := sor hf
    exact r_retz F h rfl dX6_readsConfiguration_31
  · have hf := ifn hf c2
    refine lv_aload_n hx hb dX6_readsConfiguration_12 rfl (lv_at hl 0 rfl) ?_
    refine lv_bipush (v := 44) hx hb dX6_readsConfiguration_13 (by decide) ?_
    obtain ⟨q3, h3, hf⟩ := asb hf
    refine r_callVi (As := [.int 44]) (rest := []) (C0 := [wX6 K a0 q1.2]) (C1 := [wX6 K a0 q3.2]) (Rr := []) (S' := [wX6 K a0 q3.2]) F h hl (c6_sign l D K a0 44 q1.2 q3 h3) [0] rfl rfl rfl rfl rfl (i := 0) rfl rfl w209 ⟨w210, w211, w212, w2⟩ hsc6_sign ⟨Nat.le_of_ble_eq_true rfl, Nat.le_of_ble_eq_true rfl⟩ ⟨Nat.le_refl 0, Nat.le_refl 0⟩ (Nat.le_of_ble_eq_true rfl) dX6_readsConfiguration_15 (fun H locs h => ?_)
    refine lv_if_eq (tgt := 30) hx hb dX6_readsConfiguration_18 (by decide) (fun c4 => ?_) (fun c4 => ?_)
    · have hf := ifp hf c4
      refine lv_iconst (v := 0) hx hb dX6_readsConfiguration_30 (by decide) ?_
      obtain rfl := sor hf
      exact r_retz F h rfl dX6_readsConfiguration_31
    · have hf := ifn hf c4
      refine lv_aload_n hx hb dX6_readsConfiguration_21 rfl (lv_at hl 0 rfl) ?_
      refine lv_bipush (v := 6) hx hb dX6_readsConfiguration_22 (by decide) ?_
      obtain ⟨q5, h5, hf⟩ := asb hf
      refine r_callVi (As := [.int 6]) (rest := []) (C0 := [wX6 K a0 q3.2]) (C1 := [wX6 K a0 q5.2]) (Rr := []) (S' := [wX6 K a0 q5.2]) F h hl (c6_word l D K a0 6 q3.2 q5 h5) [0] rfl rfl rfl rfl rfl (i := 0) rfl rfl w213 ⟨w214, w215, w216, w2⟩ hsc6_word ⟨Nat.le_of_ble_eq_true rfl, Nat.le_of_ble_eq_true rfl⟩ ⟨Nat.le_refl 0, Nat.le_refl 0⟩ (Nat.le_of_ble_eq_true rfl) dX6_readsConfiguration_24 (fun H locs h => ?_)
      refine lv_if_ne (tgt := 32) hx hb dX6_readsConfiguration_27 (by decide) (fun c6 => ?_) (fun c6 => ?_)
      · have hf := ifn hf c6
        refine lv_iload_n hx hb dX6_readsConfiguration_32 rfl (lv_at hl 1 rfl) ?_
        refine lv_if_eq (tgt := 87) hx hb dX6_readsConfiguration_33 (by decide) (fun c7 => ?_) (fun c7 => ?_)
        · have hf := ifp hf c7
          refine lv_iconst (v := 1) hx hb dX6_readsConfiguration_87 (by decide) ?_
          obtain rfl := sor hf
          exact r_retz F h rfl dX6_readsConfiguration_88
        · have hf := ifn hf c7
          refine lv_aload_n hx hb dX6_readsConfiguration_36 rfl (lv_at hl 0 rfl) ?_
          refine lv_aload_n hx hb dX6_readsConfiguration_37 rfl (lv_at hl 0 rfl) ?_
          refine r_get F h (i := 0) (k := 32) (.int (q5.2.1 32)) inX6 rfl (by decide) w19 rfl rfl rfl dX6_readsConfiguration_38 ?_
          refine r_put (o1 := sI q5.2 5 (q5.2.1 32)) (w := fun t8 => wX6 K a0 t8) (S' := fun t8 => [wX6 K a0 t8]) F h (i := 0) (k := 5) inX6 tyX6_ok nmX6 rfl (by decide) w15 rfl rfl rfl rfl rfl (Nat.le_of_ble_eq_true rfl) rfl (fun _ => rfl) dX6_readsConfiguration_41 (fun t8 e8 H locs h => ?_)
          have hf := ltb hf e8
          refine lv_aload_n hx hb dX6_readsConfiguration_44 rfl (lv_at hl 0 rfl) ?_
          refine lv_aload_n hx hb dX6_readsConfiguration_45 rfl (lv_at hl 0 rfl) ?_
          refine r_get F h (i := 0) (k := 33) (.int (t8.1 33)) inX6 rfl (by decide) w23 rfl rfl rfl dX6_readsConfiguration_46 ?_
          refine r_put (o1 := sI t8 6 (t8.1 33)) (w := fun t9 => wX6 K a0 t9) (S' := fun t9 => [wX6 K a0 t9]) F h (i := 0) (k := 6) inX6 tyX6_ok nmX6 rfl (by decide) w13 rfl rfl rfl rfl rfl (Nat.le_of_ble_eq_true rfl) rfl (fun _ => rfl) dX6_readsConfiguration_49 (fun t9 e9 H locs h => ?_)
          have hf := ltb hf e9
          refine lv_iconst (v := 0) hx hb dX6_readsConfiguration_52 (by decide) ?_
          refine lv_istore_n (lv' := [(2, .int 0), (0, .ref (a0 0)), (1, .int x0)]) hx hb dX6_readsConfiguration_53 rfl hl (by decide) rfl (fun ls hl => ?_)
          obtain ⟨q10, hq10, hf⟩ := asb hf
          obtain ⟨nq10, hq10⟩ := wh_out hq10
          have Xq10_1 : ∀ (z10 : Int32 × ob) (H : Heap) (locs : List Loc) (ls : Array Slot), q10 = (1, z10) → WD D A s.heap H locs [wX6 K a0 z10.2] → lv_has ls 3 [] → W P l e (rmS 4 83) s m args below meth c H locs 0 0 (MQ below (QiS D A [wX6 K a0 r.2] r.1) args s 0 0 A) (F0 m 87 ls []) := by
            intro z10 H locs ls eq10 h hl
            obtain rfl : z10 = q10.2 := by rw [eq10]
            refine lv_iconst (v := 1) hx hb dX6_readsConfiguration_87 (by decide) ?_
            obtain rfl := sor hf
            exact r_retz F h rfl dX6_readsConfiguration_88
          have Lq10 : ∀ (n : Nat) (z10 : Int32 × ob) (H : Heap) (locs : List Loc) (ls : Array Slot), iter f6_readsConfiguration_L54 n z10 = some q10 → WD D A s.heap H locs [wX6 K a0 z10.2] → lv_has ls 3 [(0, .ref (a0 0)), (2, .int z10.1)] → W P l e (rmS 4 83) s m args below meth c H locs 0 0 (MQ below (QiS D A [wX6 K a0 r.2] r.1) args s 0 0 A) (F0 m 54 ls []) := by
            intro n
            induction n with
            | zero => intro z10 H locs ls hi; exact (iter_0 hi).elim
            | succ n ihq10 =>
              intro z10 H locs ls hi h hl
              obtain ⟨uq10, hf, huq10⟩ := iter_s hi
              unfold f6_readsConfiguration_L54 at hf
              have hf := tob hf
              refine lv_iload_n hx hb dX6_readsConfiguration_54 rfl (lv_at hl 1 rfl) ?_
              refine lv_aload_n hx hb dX6_readsConfiguration_55 rfl (lv_at hl 0 rfl) ?_
              refine r_get F h (i := 0) (k := 33) (.int (z10.2.1 33)) inX6 rfl (by decide) w23 rfl rfl rfl dX6_readsConfiguration_56 ?_
              refine lv_icmp_ge (tgt := 87) hx hb dX6_readsConfiguration_59 (by decide) (fun c11 => ?_) (fun c11 => ?_)
              · have hf := ifp hf c11
                exact Xq10_1 _ _ _ _ (itr_x huq10 (sor hf)) h (lv_sub hl [] rfl)
              · have hf := ifn hf c11
                refine lv_aload_n hx hb dX6_readsConfiguration_62 rfl (lv_at hl 0 rfl) ?_
                refine r_get F h (i := 0) (k := 7) (.ref (a0 8)) inX6 rfl (by decide) w14 rfl rfl rfl dX6_readsConfiguration_63 ?_
                refine lv_iload_n hx hb dX6_readsConfiguration_66 rfl (lv_at hl 1 rfl) ?_
                refine lv_aload_n hx hb dX6_readsConfiguration_67 rfl (lv_at hl 0 rfl) ?_
                refine r_get F h (i := 0) (k := 34) (.ref (a0 35)) inX6 rfl (by decide) w24 rfl rfl rfl dX6_readsConfiguration_68 ?_
                refine lv_aload_n hx hb dX6_readsConfiguration_71 rfl (lv_at hl 0 rfl) ?_
                refine r_get F h (i := 0) (k := 33) (.int (z10.2.1 33)) inX6 rfl (by decide) w23 rfl rfl rfl dX6_readsConfiguration_72 ?_
                refine lv_iconst (v := 1) hx hb dX6_readsConfiguration_75 (by decide) ?_
                refine lv_isub hx hb dX6_readsConfiguration_76 ?_
                refine lv_iload_n hx hb dX6_readsConfiguration_77 rfl (lv_at hl 1 rfl) ?_
                refine lv_isub hx hb dX6_readsConfiguration_78 ?_
                obtain ⟨g12, hf⟩ := gdb hf
                refine r_iald F h (i := 0) (j := 19) rfl rfl (vin_ok g12) dX6_readsConfiguration_79 ?_
                obtain ⟨g13, hf⟩ := gdb hf
                refine r_iast (o1 := sA z10.2 7 z10.1.toNatClampNeg (z10.2.2 34 (((z10.2.1 33) - 1) - z10.1).toNatClampNeg)) (w := fun t14 => wX6 K a0 t14) (S' := fun t14 => [wX6 K a0 t14]) F h (i := 0) (j := 3) rfl rfl (vin_ok g13) rfl (fun _ => rfl) dX6_readsConfiguration_80 (fun t14 e14 H locs h => ?_)
                have hf := ltb hf e14
                obtain ⟨y15, e15⟩ : ∃ y : Int32, y = z10.1 + 1 := ⟨_, rfl⟩
                have hf := ltb hf e15
                refine lv_iinc (v := y15) (lv' := [(2, .int y15), (0, .ref (a0 0))]) hx hb dX6_readsConfiguration_81 hl (k := 1) rfl (by rw [e15]; rfl) (by decide) rfl (fun ls hl => ?_)
                refine lv_goto (tgt := 54) hx hb dX6_readsConfiguration_84 (by decide) ?_
                exact ihq10 _ _ _ _ (itr_c huq10 (sor hf)) h (lv_sub hl [1, 0] rfl)
          exact Lq10 _ _ _ _ _ hq10 h (lv_sub hl [1, 0] rfl)
      · have hf := ifp hf c6
        refine lv_iconst (v := 0) hx hb dX6_readsConfiguration_30 (by decide) ?_
        obtain rfl := sor hf
        exact r_retz F h rfl dX6_readsConfiguration_31
noncomputable def f6_readsItem (x0 : Int32) (x1 : Int32) (o_this : ob) : Option (Int32 × ob) :=
  gd (vin (o_this.1 31) 200) <| lt (o_this.2 29 (o_this.1 31).toNatClampNeg) fun y2 => lt (sI o_this 31 ((o_this.1 31) + 1)) fun t3 => ((if y2 = 110 then ((f6_readsStates x0 x1 t3).bind fun q21 => some (q21.1, q21.2)) else ((if y2 = 114 then ((f6_readsRule x1 t3).bind fun q20 => some (q20.1, q20.2)) else ((if y2 = 116 then ((f6_readsTarget x1 t3).bind fun q19 => some (q19.1, q19.2)) else ((if y2 = 99 then ((f6_readsConfiguration x1 t3).bind fun q18 => some (q18.1, q18.2)) else ((if y2 = 109 then ((f6_figure 0 3 t3).bind fun q13 => (if q13.1 = 0 then (some (0, q13.2)) else (((if x1 = 0 then (some (q13.2.1 8)) else (some (q13.2.1 32)))).bind fun v15 => lt (sI q13.2 8 v15) fun t16 => some (1, t16)))) else (some (0, t3)))))))))))).bind fun v4 => (if v4.1 = 0 then (some (0, v4.2)) else ((f6_sign 59 v4.2).bind fun q6 => (if q6.1 = 0 then (some (0, q6.2)) else (some (1, q6.2)))))
set_option maxRecDepth 100000 in
set_option maxHeartbeats 4000000 in
theorem c6_readsItem (l : Launch) (D : va_G) (K : Nat → ClassId) (a0 : Nat → Nat) (x0 : Int32) (x1 : Int32) (o_this : ob) (r : Int32 × ob) (hf : f6_readsItem x0 x1 o_this = some r) : CTi l yX6_readsItem cX6_readsItem 5 (some .boolean) 5 108 D K [.ref (a0 0), .int x0, .int x1] [wX6 K a0 o_this] [wX6 K a0 r.2] r.1 := by
  unfold f6_readsItem at hf
  have hf := tob hf
  refine entI (by decide) (Nat.le_of_ble_eq_true rfl) (fun P e s m args below meth c A ls F h hl hin => ?_)
  have hx := F.1
  have hb := F.2.1
  have hl : lv_has ls 5 [(0, .ref (a0 0)), (1, .int x0), (2, .int x1)] := hl
  refine lv_aload_n hx hb dX6_readsItem_0 rfl (lv_at hl 0 rfl) ?_
  refine r_get F h (i := 0) (k := 29) (.ref (a0 30)) inX6 rfl (by decide) w18 rfl rfl rfl dX6_readsItem_1 ?_
  refine lv_aload_n hx hb dX6_readsItem_4 rfl (lv_at hl 0 rfl) ?_
  refine r_get F h (i := 0) (k := 31) (.int (o_this.1 31)) inX6 rfl (by decide) w16 rfl rfl rfl dX6_readsItem_5 ?_
  obtain ⟨g1, hf⟩ := gdb hf
  refine r_iald F h (i := 0) (j := 18) rfl rfl (vin_ok g1) dX6_readsItem_8 ?_
  refine lv_topi (fun y2 e2 => ?_)
  have hf := ltb hf e2
  refine lv_istore_n (lv' := [(3, .int y2), (0, .ref (a0 0)), (1, .int x0), (2, .int x1)]) hx hb dX6_readsItem_9 rfl hl (by decide) rfl (fun ls hl => ?_)
  refine lv_aload_n hx hb dX6_readsItem_10 rfl (lv_at hl 1 rfl) ?_
  refine lv_dup hx hb dX6_readsItem_11 rfl ?_
  refine r_get F h (i := 0) (k := 31) (.int (o_this.1 31)) inX6 rfl (by decide) w16 rfl rfl rfl dX6_readsItem_12 ?_
  refine lv_iconst (v := 1) hx hb dX6_readsItem_15 (by decide) ?_
  refine lv_iadd hx hb dX6_readsItem_16 ?_
  refine r_put (o1 := sI o_this 31 ((o_this.1 31) + 1)) (w := fun t3 => wX6 K a0 t3) (S' := fun t3 => [wX6 K a0 t3]) F h (i := 0) (k := 31) inX6 tyX6_ok nmX6 rfl (by decide) w16 rfl rfl rfl rfl rfl (Nat.le_of_ble_eq_true rfl) rfl (fun _ => rfl) dX6_readsItem_17 (fun t3 e3 H locs h => ?_)
  have hf := ltb hf e3
  refine lv_iconst (v := 0) hx hb dX6_readsItem_20 (by decide) ?_
  refine lv_istore (lv' := [(4, .int 0), (3, .int y2), (0, .ref (a0 0)), (1, .int x0), (2, .int x1)]) hx hb dX6_readsItem_21 hl (by decide) rfl (fun ls hl => ?_)
  refine lv_iload_n hx hb dX6_readsItem_23 rfl (lv_at hl 1 rfl) ?_
  refine lv_bipush (v := 110) hx hb dX6_readsItem_24 (by decide) ?_
  obtain ⟨J4, eJ4, hf⟩ := rgn hf
  have JW4 : ∀ (v4 : Int32 × ob) (H : Heap) (locs : List Loc) (ls : Array Slot), WD D A s.heap H locs [wX6 K a0 v4.2] → lv_has ls 5 [(0, .ref (a0 0)), (4, .int v4.1)] → J4 v4 = some r → W P l e (rmS 5 108) s m args below meth c H locs 0 0 (MQ below (QiS D A [wX6 K a0 r.2] r.1) args s 0 0 A) (F0 m 125 ls []) := by
    intro v4 H locs ls h hl hf
    have hf := jof eJ4 hf
    refine lv_iload hx hb dX6_readsItem_125 (lv_at hl 1 rfl) ?_
    refine lv_if_eq (tgt := 143) hx hb dX6_readsItem_127 (by decide) (fun c5 => ?_) (fun c5 => ?_)
    · have hf := ifp hf c5
      refine lv_iconst (v := 0) hx hb dX6_readsItem_143 (by decide) ?_
      obtain rfl := sor hf
      exact r_retz F h rfl dX6_readsItem_144
    · have hf := ifn hf c5
      refine lv_aload_n hx hb dX6_readsItem_130 rfl (lv_at hl 0 rfl) ?_
      refine lv_bipush (v := 59) hx hb dX6_readsItem_131 (by decide) ?_
      obtain ⟨q6, h6, hf⟩ := asb hf
      refine r_callVi (As := [.int 59]) (rest := []) (C0 := [wX6 K a0 v4.2]) (C1 := [wX6 K a0 q6.2]) (Rr := []) (S' := [wX6 K a0 q6.2]) F h hl (c6_sign l D K a0 59 v4.2 q6 h6) [0] rfl rfl rfl rfl rfl (i := 0) rfl rfl w209 ⟨w210, w211, w212, w2⟩ hsc6_sign ⟨Nat.le_of_ble_eq_true rfl, Nat.le_of_ble_eq_true rfl⟩ ⟨Nat.le_refl 0, Nat.le_refl 0⟩ (Nat.le_of_ble_eq_true rfl) dX6_readsItem_133 (fun H locs h => ?_)
      refine lv_if_eq (tgt := 143) hx hb dX6_readsItem_136 (by decide) (fun c7 => ?_) (fun c7 => ?_)
      · have hf := ifp hf c7
        refine lv_iconst (v := 0) hx hb dX6_readsItem_143 (by decide) ?_
        obtain rfl := sor hf
        exact r_retz F h rfl dX6_readsItem_144
      · have hf := ifn hf c7
        refine lv_iconst (v := 1) hx hb dX6_readsItem_139 (by decide) ?_
        refine lv_goto (tgt := 144) hx hb dX6_readsItem_140 (by decide) ?_
        obtain rfl := sor hf
        exact r_retz F h rfl dX6_readsItem_144
  refine lv_icmp_ne (tgt := 40) hx hb dX6_readsItem_26 (by decide) (fun c8 => ?_) (fun c8 => ?_)
  · have hf := ifn hf c8
    refine lv_iload_n hx hb dX6_readsItem_40 rfl (lv_at hl 1 rfl) ?_
    refine lv_bipush (v := 114) hx hb dX6_readsItem_41 (by decide) ?_
    refine lv_icmp_ne (tgt := 56) hx hb dX6_readsItem_43 (by decide) (fun c9 => ?_) (fun c9 => ?_)
    · have hf := ifn hf c9
      refine lv_iload_n hx hb dX6_readsItem_56 rfl (lv_at hl 1 rfl) ?_
      refine lv_bipush (v := 116) hx hb dX6_readsItem_57 (by decide) ?_
      refine lv_icmp_ne (tgt := 72) hx hb dX6_readsItem_59 (by decide) (fun c10 => ?_) (fun c10 => ?_)
      · have hf := ifn hf c10
        refine lv_iload_n hx hb dX6_readsItem_72 rfl (lv_at hl 1 rfl) ?_
        refine lv_bipush (v := 99) hx hb dX6_readsItem_73 (by decide) ?_
        refine lv_icmp_ne (tgt := 88) hx hb dX6_readsItem_75 (by decide) (fun c11 => ?_) (fun c11 => ?_)
        · have hf := ifn hf c11
          refine lv_iload_n hx hb dX6_readsItem_88 rfl (lv_at hl 1 rfl) ?_
          refine lv_bipush (v := 109) hx hb dX6_readsItem_89 (by decide) ?_
          refine lv_icmp_ne (tgt := 125) hx hb dX6_readsItem_91 (by decide) (fun c12 => ?_) (fun c12 => ?_)
          · have hf := ifn hf c12
            exact JW4 (0, t3) _ _ _ h (lv_sub hl [2, 0] rfl) (sob hf)
          · have hf := ifp hf c12
            refine lv_aload_n hx hb dX6_readsItem_94 rfl (lv_at hl 2 rfl) ?_
            refine lv_iconst (v := 0) hx hb dX6_readsItem_95 (by decide) ?_
            refine lv_iconst (v := 3) hx hb dX6_readsItem_96 (by decide) ?_
            obtain ⟨q13, h13, hf⟩ := asb hf
            refine r_callVi (As := [.int 0, .int 3]) (rest := []) (C0 := [wX6 K a0 t3]) (C1 := [wX6 K a0 q13.2]) (Rr := []) (S' := [wX6 K a0 q13.2]) F h hl (c6_figure l D K a0 0 3 t3 q13 h13) [0] rfl rfl rfl rfl rfl (i := 0) rfl rfl w204 ⟨w205, w206, w207, w2⟩ hsc6_figure ⟨Nat.le_of_ble_eq_true rfl, Nat.le_of_ble_eq_true rfl⟩ ⟨Nat.le_refl 0, Nat.le_refl 0⟩ (Nat.le_of_ble_eq_true rfl) dX6_readsItem_97 (fun H locs h => ?_)
            refine lv_if_eq (tgt := 125) hx hb dX6_readsItem_100 (by decide) (fun c14 => ?_) (fun c14 => ?_)
            · have hf := ifp hf c14
              exact JW4 (0, q13.2) _ _ _ h (lv_sub hl [2, 0] rfl) (sob hf)
            · have hf := ifn hf c14
              refine lv_iconst (v := 1) hx hb dX6_readsItem_103 (by decide) ?_
              refine lv_istore (lv' := [(4, .int 1), (3, .int y2), (0, .ref (a0 0)), (1, .int x0), (2, .int x1)]) hx hb dX6_readsItem_104 hl (by decide) rfl (fun ls hl => ?_)
              refine lv_aload_n hx hb dX6_readsItem_106 rfl (lv_at hl 2 rfl) ?_
              refine lv_iload_n hx hb dX6_readsItem_107 rfl (lv_at hl 4 rfl) ?_
              obtain ⟨J15, eJ15, hf⟩ := rgn hf
              have JW15 : ∀ (v15 : Int32) (H : Heap) (locs : List Loc) (ls : Array Slot), WD D A s.heap H locs [wX6 K a0 q13.2] → lv_has ls 5 [(0, .ref (a0 0)), (4, .int 1)] → J15 v15 = some r → W P l e (rmS 5 108) s m args below meth c H locs 0 0 (MQ below (QiS D A [wX6 K a0 r.2] r.1) args s 0 0 A) (F0 m 122 ls [.int v15, .ref (a0 0)]) := by
                intro v15 H locs ls h hl hf
                have hf := jof eJ15 hf
                refine r_put (o1 := sI q13.2 8 v15) (w := fun t16 => wX6 K a0 t16) (S' := fun t16 => [wX6 K a0 t16]) F h (i := 0) (k := 8) inX6 tyX6_ok nmX6 rfl (by decide) w29 rfl rfl rfl rfl rfl (Nat.le_of_ble_eq_true rfl) rfl (fun _ => rfl) dX6_readsItem_122 (fun t16 e16 H locs h => ?_)
                have hf := ltb hf e16
                exact JW4 (1, t16) _ _ _ h (lv_sub hl [0, 1] rfl) (sob hf)
              refine lv_if_eq (tgt := 118) hx hb dX6_readsItem_108 (by decide) (fun c17 => ?_) (fun c17 => ?_)
              · have hf := ifp hf c17
                refine lv_aload_n hx hb dX6_readsItem_118 rfl (lv_at hl 2 rfl) ?_
                refine r_get F h (i := 0) (k := 8) (.int (q13.2.1 8)) inX6 rfl (by decide) w29 rfl rfl rfl dX6_readsItem_119 ?_
                exact JW15 (q13.2.1 8) _ _ _ h (lv_sub hl [2, 0] rfl) (sob hf)
              · have hf := ifn hf c17
                refine lv_aload_n hx hb dX6_readsItem_111 rfl (lv_at hl 2 rfl) ?_
                refine r_get F h (i := 0) (k := 32) (.int (q13.2.1 32)) inX6 rfl (by decide) w19 rfl rfl rfl dX6_readsItem_112 ?_
                refine lv_goto (tgt := 122) hx hb dX6_readsItem_115 (by decide) ?_
                exact JW15 (q13.2.1 32) _ _ _ h (lv_sub hl [2, 0] rfl) (sob hf)
        · have hf := ifp hf c11
          refine lv_aload_n hx hb dX6_readsItem_78 rfl (lv_at hl 2 rfl) ?_
          refine lv_iload_n hx hb dX6_readsItem_79 rfl (lv_at hl 4 rfl) ?_
          obtain ⟨q18, h18, hf⟩ := asb hf
          refine r_callVi (As := [.int x1]) (rest := []) (C0 := [wX6 K a0 t3]) (C1 := [wX6 K a0 q18.2]) (Rr := []) (S' := [wX6 K a0 q18.2]) F h hl (c6_readsConfiguration l D K a0 x1 t3 q18 h18) [0] rfl rfl rfl rfl rfl (i := 0) rfl rfl w218 ⟨w219, w220, w221, w2⟩ hsc6_readsConfiguration ⟨Nat.le_of_ble_eq_true rfl, Nat.le_of_ble_eq_true rfl⟩ ⟨Nat.le_refl 0, Nat.le_refl 0⟩ (Nat.le_of_ble_eq_true rfl) dX6_readsItem_80 (fun H locs h => ?_)
          refine lv_istore (lv' := [(4, .int q18.1), (3, .int y2), (0, .ref (a0 0)), (1, .int x0), (2, .int x1)]) hx hb dX6_readsItem_83 hl (by decide) rfl (fun ls hl => ?_)
          refine lv_goto (tgt := 125) hx hb dX6_readsItem_85 (by decide) ?_
          exact JW4 (q18.1, q18.2) _ _ _ h (lv_sub hl [2, 0] rfl) (sob hf)
      · have hf := ifp hf c10
        refine lv_aload_n hx hb dX6_readsItem_62 rfl (lv_at hl 2 rfl) ?_
        refine lv_iload_n hx hb dX6_readsItem_63 rfl (lv_at hl 4 rfl) ?_
        obtain ⟨q19, h19, hf⟩ := asb hf
        refine r_callVi (As := [.int x1]) (rest := []) (C0 := [wX6 K a0 t3]) (C1 := [wX6 K a0 q19.2]) (Rr := []) (S' := [wX6 K a0 q19.2]) F h hl (c6_readsTarget l D K a0 x1 t3 q19 h19) [0] rfl rfl rfl rfl rfl (i := 0) rfl rfl w222 ⟨w223, w224, w225, w2⟩ hsc6_readsTarget ⟨Nat.le_of_ble_eq_true rfl, Nat.le_of_ble_eq_true rfl⟩ ⟨Nat.le_refl 0, Nat.le_refl 0⟩ (Nat.le_of_ble_eq_true rfl) dX6_readsItem_64 (fun H locs h => ?_)
        refine lv_istore (lv' := [(4, .int q19.1), (3, .int y2), (0, .ref (a0 0)), (1, .int x0), (2, .int x1)]) hx hb dX6_readsItem_67 hl (by decide) rfl (fun ls hl => ?_)
        refine lv_goto (tgt := 125) hx hb dX6_readsItem_69 (by decide) ?_
        exact JW4 (q19.1, q19.2) _ _ _ h (lv_sub hl [2, 0] rfl) (sob hf)
    · have hf := ifp hf c9
      refine lv_aload_n hx hb dX6_readsItem_46 rfl (lv_at hl 2 rfl) ?_
      refine lv_iload_n hx hb dX6_readsItem_47 rfl (lv_at hl 4 rfl) ?_
      obtain ⟨q20, h20, hf⟩ := asb hf
      refine r_callVi (As := [.int x1]) (rest := []) (C0 := [wX6 K a0 t3]) (C1 := [wX6 K a0 q20.2]) (Rr := []) (S' := [wX6 K a0 q20.2]) F h hl (c6_readsRule l D K a0 x1 t3 q20 h20) [0] rfl rfl rfl rfl rfl (i := 0) rfl rfl w226 ⟨w227, w228, w229, w2⟩ hsc6_readsRule ⟨Nat.le_of_ble_eq_true rfl, Nat.le_of_ble_eq_true rfl⟩ ⟨Nat.le_refl 0, Nat.le_refl 0⟩ (Nat.le_of_ble_eq_true rfl) dX6_readsItem_48 (fun H locs h => ?_)
      refine lv_istore (lv' := [(4, .int q20.1), (3, .int y2), (0, .ref (a0 0)), (1, .int x0), (2, .int x1)]) hx hb dX6_readsItem_51 hl (by decide) rfl (fun ls hl => ?_)
      refine lv_goto (tgt := 125) hx hb dX6_readsItem_53 (by decide) ?_
      exact JW4 (q20.1, q20.2) _ _ _ h (lv_sub hl [2, 0] rfl) (sob hf)
  · have hf := ifp hf c8
    refine lv_aload_n hx hb dX6_readsItem_29 rfl (lv_at hl 2 rfl) ?_
    refine lv_iload_n hx hb dX6_readsItem_30 rfl (lv_at hl 3 rfl) ?_
    refine lv_iload_n hx hb dX6_readsItem_31 rfl (lv_at hl 4 rfl) ?_
    obtain ⟨q21, h21, hf⟩ := asb hf
    refine r_callVi (As := [.int x0, .int x1]) (rest := []) (C0 := [wX6 K a0 t3]) (C1 := [wX6 K a0 q21.2]) (Rr := []) (S' := [wX6 K a0 q21.2]) F h hl (c6_readsStates l D K a0 x0 x1 t3 q21 h21) [0] rfl rfl rfl rfl rfl (i := 0) rfl rfl w230 ⟨w231, w232, w233, w2⟩ hsc6_readsStates ⟨Nat.le_of_ble_eq_true rfl, Nat.le_of_ble_eq_true rfl⟩ ⟨Nat.le_refl 0, Nat.le_refl 0⟩ (Nat.le_of_ble_eq_true rfl) dX6_readsItem_32 (fun H locs h => ?_)
    refine lv_istore (lv' := [(4, .int q21.1), (3, .int y2), (0, .ref (a0 0)), (1, .int x0), (2, .int x1)]) hx hb dX6_readsItem_35 hl (by decide) rfl (fun ls hl => ?_)
    refine lv_goto (tgt := 125) hx hb dX6_readsItem_37 (by decide) ?_
    exact JW4 (q21.1, q21.2) _ _ _ h (lv_sub hl [2, 0] rfl) (sob hf)
noncomputable def f6_goesThrough_L20 (g0 : Int32) (z5 : Int32 × ob) : Option (Nat × (Int32 × ob)) :=
  (if (z5.2.1 30) ≤ (z5.2.1 31) then (some (2, (z5.1, z5.2))) else (lt (z5.2.1 31) fun y7 => ((if y7 = 0 then (some 1) else (some 0))).bind fun v8 => (f6_readsItem v8 g0 z5.2).bind fun q9 => (if q9.1 = 0 then (some (1, (y7, q9.2))) else (some (0, (y7, q9.2))))))
noncomputable def f6_goesThrough (x0 : Int32) (o_this : ob) : Option (Int32 × ob) :=
  lt (sI o_this 31 0) fun t1 => lt (sI t1 35 2) fun t2 => lt (sI t2 36 0) fun t3 => lt (sI t3 37 0) fun t4 => (wh (f6_goesThrough_L20 x0) (0, t4)).bind fun q5 => (if q5.1 = 1 then (some (q5.2.1, q5.2.2)) else (some ((-4), q5.2.2)))
set_option maxRecDepth 100000 in
set_option maxHeartbeats 4000000 in
theorem c6_goesThrough (l : Launch) (D : va_G) (K : Nat → ClassId) (a0 : Nat → Nat) (x0 : Int32) (o_this : ob) (r : Int32 × ob) (hf : f6_goesThrough x0 o_this = some r) : CTi l yX6_goesThrough cX6_goesThrough 3 (some .int) 6 132 D K [.ref (a0 0), .int x0] [wX6 K a0 o_this] [wX6 K a0 r.2] r.1 := by
  unfold f6_goesThrough at hf
  have hf := tob hf
  refine entI (by decide) (Nat.le_of_ble_eq_true rfl) (fun P e s m args below meth c A ls F h hl hin => ?_)
  have hx := F.1
  have hb := F.2.1
  have hl : lv_has ls 3 [(0, .ref (a0 0)), (1, .int x0)] := hl
  refine lv_aload_n hx hb dX6_goesThrough_0 rfl (lv_at hl 0 rfl) ?_
  refine lv_iconst (v := 0) hx hb dX6_goesThrough_1 (by decide) ?_
  refine r_put (o1 := sI o_this 31 0) (w := fun t1 => wX6 K a0 t1) (S' := fun t1 => [wX6 K a0 t1]) F h (i := 0) (k := 31) inX6 tyX6_ok nmX6 rfl (by decide) w16 rfl rfl rfl rfl rfl (Nat.le_of_ble_eq_true rfl) rfl (fun _ => rfl) dX6_goesThrough_2 (fun t1 e1 H locs h => ?_)
  have hf := ltb hf e1
  refine lv_aload_n hx hb dX6_goesThrough_5 rfl (lv_at hl 0 rfl) ?_
  refine lv_iconst (v := 2) hx hb dX6_goesThrough_6 (by decide) ?_
  refine r_put (o1 := sI t1 35 2) (w := fun t2 => wX6 K a0 t2) (S' := fun t2 => [wX6 K a0 t2]) F h (i := 0) (k := 35) inX6 tyX6_ok nmX6 rfl (by decide) w203 rfl rfl rfl rfl rfl (Nat.le_of_ble_eq_true rfl) rfl (fun _ => rfl) dX6_goesThrough_7 (fun t2 e2 H locs h => ?_)
  have hf := ltb hf e2
  refine lv_aload_n hx hb dX6_goesThrough_10 rfl (lv_at hl 0 rfl) ?_
  refine lv_iconst (v := 0) hx hb dX6_goesThrough_11 (by decide) ?_
  refine r_put (o1 := sI t2 36 0) (w := fun t3 => wX6 K a0 t3) (S' := fun t3 => [wX6 K a0 t3]) F h (i := 0) (k := 36) inX6 tyX6_ok nmX6 rfl (by decide) w208 rfl rfl rfl rfl rfl (Nat.le_of_ble_eq_true rfl) rfl (fun _ => rfl) dX6_goesThrough_12 (fun t3 e3 H locs h => ?_)
  have hf := ltb hf e3
  refine lv_aload_n hx hb dX6_goesThrough_15 rfl (lv_at hl 0 rfl) ?_
  refine lv_iconst (v := 0) hx hb dX6_goesThrough_16 (by decide) ?_
  refine r_put (o1 := sI t3 37 0) (w := fun t4 => wX6 K a0 t4) (S' := fun t4 => [wX6 K a0 t4]) F h (i := 0) (k := 37) inX6 tyX6_ok nmX6 rfl (by decide) w217 rfl rfl rfl rfl rfl (Nat.le_of_ble_eq_true rfl) rfl (fun _ => rfl) dX6_goesThrough_17 (fun t4 e4 H locs h => ?_)
  have hf := ltb hf e4
  obtain ⟨q5, hq5, hf⟩ := asb hf
  obtain ⟨nq5, hq5⟩ := wh_out hq5
  have Xq5_1 : ∀ (z5 : Int32 × ob) (H : Heap) (locs : List Loc) (ls : Array Slot), q5 = (1, z5) → WD D A s.heap H locs [wX6 K a0 z5.2] → lv_has ls 3 [(2, .int z5.1)] → W P l e (rmS 6 132) s m args below meth c H locs 0 0 (MQ below (QiS D A [wX6 K a0 r.2] r.1) args s 0 0 A) (F0 m 53 ls []) := by
    intro z5 H locs ls eq5 h hl
    obtain rfl : z5 = q5.2 := by rw [eq5]
    have hf := ifp hf (show q5.1 = 1 by rw [eq5])
    refine lv_iload_n hx hb dX6_goesThrough_53 rfl (lv_at hl 0 rfl) ?_
    obtain rfl := sor hf
    exact r_reti F h dX6_goesThrough_54
  have Xq5_2 : ∀ (z5 : Int32 × ob) (H : Heap) (locs : List Loc) (ls : Array Slot), q5 = (2, z5) → WD D A s.heap H locs [wX6 K a0 z5.2] → lv_has ls 3 [] → W P l e (rmS 6 132) s m args below meth c H locs 0 0 (MQ below (QiS D A [wX6 K a0 r.2] r.1) args s 0 0 A) (F0 m 58 ls []) := by
    intro z5 H locs ls eq5 h hl
    obtain rfl : z5 = q5.2 := by rw [eq5]
    have hf := ifn hf (show ¬ q5.1 = 1 by rw [show q5.1 = 2 by rw [eq5]]; decide)
    refine lv_bipush (v := (-4)) hx hb dX6_goesThrough_58 (by decide) ?_
    obtain rfl := sor hf
    exact r_reti F h dX6_goesThrough_60
  have Lq5 : ∀ (n : Nat) (z5 : Int32 × ob) (H : Heap) (locs : List Loc) (ls : Array Slot), iter (f6_goesThrough_L20 x0) n z5 = some q5 → WD D A s.heap H locs [wX6 K a0 z5.2] → lv_has ls 3 [(0, .ref (a0 0)), (1, .int x0)] → W P l e (rmS 6 132) s m args below meth c H locs 0 0 (MQ below (QiS D A [wX6 K a0 r.2] r.1) args s 0 0 A) (F0 m 20 ls []) := by
    intro n
    induction n with
    | zero => intro z5 H locs ls hi; exact (iter_0 hi).elim
    | succ n ihq5 =>
      intro z5 H locs ls hi h hl
      obtain ⟨uq5, hf, huq5⟩ := iter_s hi
      unfold f6_goesThrough_L20 at hf
      have hf := tob hf
      refine lv_aload_n hx hb dX6_goesThrough_20 rfl (lv_at hl 0 rfl) ?_
      refine r_get F h (i := 0) (k := 31) (.int (z5.2.1 31)) inX6 rfl (by decide) w16 rfl rfl rfl dX6_goesThrough_21 ?_
      refine lv_aload_n hx hb dX6_goesThrough_24 rfl (lv_at hl 0 rfl) ?_
      refine r_get F h (i := 0) (k := 30) (.int (z5.2.1 30)) inX6 rfl (by decide) w17 rfl rfl rfl dX6_goesThrough_25 ?_
      refine lv_icmp_ge (tgt := 58) hx hb dX6_goesThrough_28 (by decide) (fun c6 => ?_) (fun c6 => ?_)
      · have hf := ifp hf c6
        exact Xq5_2 _ _ _ _ (itr_x huq5 (sor hf)) h (lv_sub hl [] rfl)
      · have hf := ifn hf c6
        refine lv_aload_n hx hb dX6_goesThrough_31 rfl (lv_at hl 0 rfl) ?_
        refine r_get F h (i := 0) (k := 31) (.int (z5.2.1 31)) inX6 rfl (by decide) w16 rfl rfl rfl dX6_goesThrough_32 ?_
        refine lv_topi (fun y7 e7 => ?_)
        have hf := ltb hf e7
        refine lv_istore_n (lv' := [(2, .int y7), (0, .ref (a0 0)), (1, .int x0)]) hx hb dX6_goesThrough_35 rfl hl (by decide) rfl (fun ls hl => ?_)
        refine lv_aload_n hx hb dX6_goesThrough_36 rfl (lv_at hl 1 rfl) ?_
        refine lv_iload_n hx hb dX6_goesThrough_37 rfl (lv_at hl 0 rfl) ?_
        obtain ⟨J8, eJ8, hf⟩ := rgn hf
        have JW8 : ∀ (v8 : Int32) (H : Heap) (locs : List Loc) (ls : Array Slot), WD D A s.heap H locs [wX6 K a0 z5.2] → lv_has ls 3 [(0, .ref (a0 0)), (1, .int x0), (2, .int y7)] → J8 v8 = some uq5 → W P l e (rmS 6 132) s m args below meth c H locs 0 0 (MQ below (QiS D A [wX6 K a0 r.2] r.1) args s 0 0 A) (F0 m 46 ls [.int v8, .ref (a0 0)]) := by
          intro v8 H locs ls h hl hf
          have hf := jof eJ8 hf
          refine lv_iload_n hx hb dX6_goesThrough_46 rfl (lv_at hl 1 rfl) ?_
          obtain ⟨q9, h9, hf⟩ := asb hf
          refine r_callVi (As := [.int v8, .int x0]) (rest := []) (C0 := [wX6 K a0 z5.2]) (C1 := [wX6 K a0 q9.2]) (Rr := []) (S' := [wX6 K a0 q9.2]) F h hl (c6_readsItem l D K a0 v8 x0 z5.2 q9 h9) [0] rfl rfl rfl rfl rfl (i := 0) rfl rfl w234 ⟨w235, w236, w237, w2⟩ hsc6_readsItem ⟨Nat.le_of_ble_eq_true rfl, Nat.le_of_ble_eq_true rfl⟩ ⟨Nat.le_refl 0, Nat.le_refl 0⟩ (Nat.le_of_ble_eq_true rfl) dX6_goesThrough_47 (fun H locs h => ?_)
          refine lv_if_ne (tgt := 55) hx hb dX6_goesThrough_50 (by decide) (fun c10 => ?_) (fun c10 => ?_)
          · have hf := ifn hf c10
            refine lv_goto (tgt := 20) hx hb dX6_goesThrough_55 (by decide) ?_
            exact ihq5 _ _ _ _ (itr_c huq5 (sor hf)) h (lv_sub hl [0, 1] rfl)
          · have hf := ifp hf c10
            exact Xq5_1 _ _ _ _ (itr_x huq5 (sor hf)) h (lv_sub hl [2] rfl)
        refine lv_if_ne (tgt := 45) hx hb dX6_goesThrough_38 (by decide) (fun c11 => ?_) (fun c11 => ?_)
        · have hf := ifn hf c11
          refine lv_iconst (v := 0) hx hb dX6_goesThrough_45 (by decide) ?_
          exact JW8 0 _ _ _ h (lv_sub hl [1, 2, 0] rfl) (sob hf)
        · have hf := ifp hf c11
          refine lv_iconst (v := 1) hx hb dX6_goesThrough_41 (by decide) ?_
          refine lv_goto (tgt := 46) hx hb dX6_goesThrough_42 (by decide) ?_
          exact JW8 1 _ _ _ h (lv_sub hl [1, 2, 0] rfl) (sob hf)
  exact Lq5 _ _ _ _ _ hq5 h (lv_sub hl [0, 1] rfl)
noncomputable def f6_fault (o_this : ob) : Option (Int32 × ob) :=
  (f6_goesThrough 0 o_this).bind fun q1 => some (q1.1, q1.2)
set_option maxRecDepth 100000 in
set_option maxHeartbeats 4000000 in
theorem c6_fault (l : Launch) (D : va_G) (K : Nat → ClassId) (a0 : Nat → Nat) (o_this : ob) (r : Int32 × ob) (hf : f6_fault o_this = some r) : CTi l yX6_fault cX6_fault 1 (some .int) 7 154 D K [.ref (a0 0)] [wX6 K a0 o_this] [wX6 K a0 r.2] r.1 := by
  unfold f6_fault at hf
  have hf := tob hf
  refine entI (by decide) (Nat.le_of_ble_eq_true rfl) (fun P e s m args below meth c A ls F h hl hin => ?_)
  have hx := F.1
  have hb := F.2.1
  have hl : lv_has ls 1 [(0, .ref (a0 0))] := hl
  refine lv_aload_n hx hb dX6_fault_0 rfl (lv_at hl 0 rfl) ?_
  refine lv_iconst (v := 0) hx hb dX6_fault_1 (by decide) ?_
  obtain ⟨q1, h1, hf⟩ := asb hf
  refine r_callVi (As := [.int 0]) (rest := []) (C0 := [wX6 K a0 o_this]) (C1 := [wX6 K a0 q1.2]) (Rr := []) (S' := [wX6 K a0 q1.2]) F h hl (c6_goesThrough l D K a0 0 o_this q1 h1) [0] rfl rfl rfl rfl rfl (i := 0) rfl rfl w238 ⟨w239, w240, w241, w2⟩ hsc6_goesThrough ⟨Nat.le_of_ble_eq_true rfl, Nat.le_of_ble_eq_true rfl⟩ ⟨Nat.le_refl 0, Nat.le_refl 0⟩ (Nat.le_of_ble_eq_true rfl) dX6_fault_2 (fun H locs h => ?_)
  obtain rfl := sor hf
  exact r_reti F h dX6_fault_5
noncomputable def f6_lay (o_this : ob) : Option (Int32 × ob) :=
  (f6_goesThrough 0 o_this).bind fun q1 => (if q1.1 = (-4) then ((if (q1.2.1 36) = 0 then (some ((-2), q1.2)) else (lt (sI q1.2 0 2) fun t4 => lt (sI t4 1 0) fun t5 => lt (sI t5 3 0) fun t6 => lt (sI t6 5 0) fun t7 => lt (sI t7 6 0) fun t8 => lt (sI t8 8 0) fun t9 => lt (sI t9 9 0) fun t10 => lt (sI t10 11 0) fun t11 => (f6_goesThrough 1 t11).bind fun q12 => some (q12.2.1 1, q12.2)))) else (some ((-2), q1.2)))
set_option maxRecDepth 100000 in
set_option maxHeartbeats 4000000 in
theorem c6_lay (l : Launch) (D : va_G) (K : Nat → ClassId) (a0 : Nat → Nat) (o_this : ob) (r : Int32 × ob) (hf : f6_lay o_this = some r) : CTi l yX6_lay cX6_lay 1 (some .int) 7 154 D K [.ref (a0 0)] [wX6 K a0 o_this] [wX6 K a0 r.2] r.1 := by
  unfold f6_lay at hf
  have hf := tob hf
  refine entI (by decide) (Nat.le_of_ble_eq_true rfl) (fun P e s m args below meth c A ls F h hl hin => ?_)
  have hx := F.1
  have hb := F.2.1
  have hl : lv_has ls 1 [(0, .ref (a0 0))] := hl
  refine lv_aload_n hx hb dX6_lay_0 rfl (lv_at hl 0 rfl) ?_
  refine lv_iconst (v := 0) hx hb dX6_lay_1 (by decide) ?_
  obtain ⟨q1, h1, hf⟩ := asb hf
  refine r_callVi (As := [.int 0]) (rest := []) (C0 := [wX6 K a0 o_this]) (C1 := [wX6 K a0 q1.2]) (Rr := []) (S' := [wX6 K a0 q1.2]) F h hl (c6_goesThrough l D K a0 0 o_this q1 h1) [0] rfl rfl rfl rfl rfl (i := 0) rfl rfl w238 ⟨w239, w240, w241, w2⟩ hsc6_goesThrough ⟨Nat.le_of_ble_eq_true rfl, Nat.le_of_ble_eq_true rfl⟩ ⟨Nat.le_refl 0, Nat.le_refl 0⟩ (Nat.le_of_ble_eq_true rfl) dX6_lay_2 (fun H locs h => ?_)
  refine lv_bipush (v := (-4)) hx hb dX6_lay_5 (by decide) ?_
  refine lv_icmp_ne (tgt := 17) hx hb dX6_lay_7 (by decide) (fun c2 => ?_) (fun c2 => ?_)
  · have hf := ifn hf c2
    refine lv_bipush (v := (-2)) hx hb dX6_lay_17 (by decide) ?_
    obtain rfl := sor hf
    exact r_reti F h dX6_lay_19
  · have hf := ifp hf c2
    refine lv_aload_n hx hb dX6_lay_10 rfl (lv_at hl 0 rfl) ?_
    refine r_get F h (i := 0) (k := 36) (.int (q1.2.1 36)) inX6 rfl (by decide) w208 rfl rfl rfl dX6_lay_11 ?_
    refine lv_if_ne (tgt := 20) hx hb dX6_lay_14 (by decide) (fun c3 => ?_) (fun c3 => ?_)
    · have hf := ifn hf c3
      refine lv_aload_n hx hb dX6_lay_20 rfl (lv_at hl 0 rfl) ?_
      refine lv_iconst (v := 2) hx hb dX6_lay_21 (by decide) ?_
      refine r_put (o1 := sI q1.2 0 2) (w := fun t4 => wX6 K a0 t4) (S' := fun t4 => [wX6 K a0 t4]) F h (i := 0) (k := 0) inX6 tyX6_ok nmX6 rfl (by decide) w5 rfl rfl rfl rfl rfl (Nat.le_of_ble_eq_true rfl) rfl (fun _ => rfl) dX6_lay_22 (fun t4 e4 H locs h => ?_)
      have hf := ltb hf e4
      refine lv_aload_n hx hb dX6_lay_25 rfl (lv_at hl 0 rfl) ?_
      refine lv_iconst (v := 0) hx hb dX6_lay_26 (by decide) ?_
      refine r_put (o1 := sI t4 1 0) (w := fun t5 => wX6 K a0 t5) (S' := fun t5 => [wX6 K a0 t5]) F h (i := 0) (k := 1) inX6 tyX6_ok nmX6 rfl (by decide) w4 rfl rfl rfl rfl rfl (Nat.le_of_ble_eq_true rfl) rfl (fun _ => rfl) dX6_lay_27 (fun t5 e5 H locs h => ?_)
      have hf := ltb hf e5
      refine lv_aload_n hx hb dX6_lay_30 rfl (lv_at hl 0 rfl) ?_
      refine lv_iconst (v := 0) hx hb dX6_lay_31 (by decide) ?_
      refine r_put (o1 := sI t5 3 0) (w := fun t6 => wX6 K a0 t6) (S' := fun t6 => [wX6 K a0 t6]) F h (i := 0) (k := 3) inX6 tyX6_ok nmX6 rfl (by decide) w11 rfl rfl rfl rfl rfl (Nat.le_of_ble_eq_true rfl) rfl (fun _ => rfl) dX6_lay_32 (fun t6 e6 H locs h => ?_)
      have hf := ltb hf e6
      refine lv_aload_n hx hb dX6_lay_35 rfl (lv_at hl 0 rfl) ?_
      refine lv_iconst (v := 0) hx hb dX6_lay_36 (by decide) ?_
      refine r_put (o1 := sI t6 5 0) (w := fun t7 => wX6 K a0 t7) (S' := fun t7 => [wX6 K a0 t7]) F h (i := 0) (k := 5) inX6 tyX6_ok nmX6 rfl (by decide) w15 rfl rfl rfl rfl rfl (Nat.le_of_ble_eq_true rfl) rfl (fun _ => rfl) dX6_lay_37 (fun t7 e7 H locs h => ?_)
      have hf := ltb hf e7
      refine lv_aload_n hx hb dX6_lay_40 rfl (lv_at hl 0 rfl) ?_
      refine lv_iconst (v := 0) hx hb dX6_lay_41 (by decide) ?_
      refine r_put (o1 := sI t7 6 0) (w := fun t8 => wX6 K a0 t8) (S' := fun t8 => [wX6 K a0 t8]) F h (i := 0) (k := 6) inX6 tyX6_ok nmX6 rfl (by decide) w13 rfl rfl rfl rfl rfl (Nat.le_of_ble_eq_true rfl) rfl (fun _ => rfl) dX6_lay_42 (fun t8 e8 H locs h => ?_)
      have hf := ltb hf e8
      refine lv_aload_n hx hb dX6_lay_45 rfl (lv_at hl 0 rfl) ?_
      refine lv_iconst (v := 0) hx hb dX6_lay_46 (by decide) ?_
      refine r_put (o1 := sI t8 8 0) (w := fun t9 => wX6 K a0 t9) (S' := fun t9 => [wX6 K a0 t9]) F h (i := 0) (k := 8) inX6 tyX6_ok nmX6 rfl (by decide) w29 rfl rfl rfl rfl rfl (Nat.le_of_ble_eq_true rfl) rfl (fun _ => rfl) dX6_lay_47 (fun t9 e9 H locs h => ?_)
      have hf := ltb hf e9
      refine lv_aload_n hx hb dX6_lay_50 rfl (lv_at hl 0 rfl) ?_
      refine lv_iconst (v := 0) hx hb dX6_lay_51 (by decide) ?_
      refine r_put (o1 := sI t9 9 0) (w := fun t10 => wX6 K a0 t10) (S' := fun t10 => [wX6 K a0 t10]) F h (i := 0) (k := 9) inX6 tyX6_ok nmX6 rfl (by decide) w30 rfl rfl rfl rfl rfl (Nat.le_of_ble_eq_true rfl) rfl (fun _ => rfl) dX6_lay_52 (fun t10 e10 H locs h => ?_)
      have hf := ltb hf e10
      refine lv_aload_n hx hb dX6_lay_55 rfl (lv_at hl 0 rfl) ?_
      refine lv_iconst (v := 0) hx hb dX6_lay_56 (by decide) ?_
      refine r_put (o1 := sI t10 11 0) (w := fun t11 => wX6 K a0 t11) (S' := fun t11 => [wX6 K a0 t11]) F h (i := 0) (k := 11) inX6 tyX6_ok nmX6 rfl (by decide) w31 rfl rfl rfl rfl rfl (Nat.le_of_ble_eq_true rfl) rfl (fun _ => rfl) dX6_lay_57 (fun t11 e11 H locs h => ?_)
      have hf := ltb hf e11
      refine lv_aload_n hx hb dX6_lay_60 rfl (lv_at hl 0 rfl) ?_
      refine lv_iconst (v := 1) hx hb dX6_lay_61 (by decide) ?_
      obtain ⟨q12, h12, hf⟩ := asb hf
      refine r_callVi (As := [.int 1]) (rest := []) (C0 := [wX6 K a0 t11]) (C1 := [wX6 K a0 q12.2]) (Rr := []) (S' := [wX6 K a0 q12.2]) F h hl (c6_goesThrough l D K a0 1 t11 q12 h12) [0] rfl rfl rfl rfl rfl (i := 0) rfl rfl w238 ⟨w239, w240, w241, w2⟩ hsc6_goesThrough ⟨Nat.le_of_ble_eq_true rfl, Nat.le_of_ble_eq_true rfl⟩ ⟨Nat.le_refl 0, Nat.le_refl 0⟩ (Nat.le_of_ble_eq_true rfl) dX6_lay_62 (fun H locs h => ?_)
      refine lv_pop hx hb dX6_lay_65 rfl ?_
      refine lv_aload_n hx hb dX6_lay_66 rfl (lv_at hl 0 rfl) ?_
      refine r_get F h (i := 0) (k := 1) (.int (q12.2.1 1)) inX6 rfl (by decide) w4 rfl rfl rfl dX6_lay_67 ?_
      obtain rfl := sor hf
      exact r_reti F h dX6_lay_70
    · have hf := ifp hf c3
      refine lv_bipush (v := (-2)) hx hb dX6_lay_17 (by decide) ?_
      obtain rfl := sor hf
      exact r_reti F h dX6_lay_19
