def f6_in (x0 : Int32) (x1 : Int32) (x2 : Int32) : Option (Int32) :=
  (if x0 < x1 then (some 0) else ((if x2 < x0 then (some 0) else (some 1))))
set_option maxRecDepth 100000 in
set_option maxHeartbeats 4000000 in
theorem c6_in (l : Launch) (D : va_G) (K : Nat → ClassId) (x0 : Int32) (x1 : Int32) (x2 : Int32) (r : Int32) (hf : f6_in x0 x1 x2 = some r) : CTi l yX6_in cX6_in 3 (some .boolean) 0 0 D K [.int x0, .int x1, .int x2] [] [] r := by
  unfold f6_in at hf
  have hf := tob hf
  refine entI (by decide) (Nat.le_of_ble_eq_true rfl) (fun P e s m args below meth c A ls F h hl hin => ?_)
  have hx := F.1
  have hb := F.2.1
  have hl : lv_has ls 3 [(0, .int x0), (1, .int x1), (2, .int x2)] := hl
  refine lv_iload_n hx hb dX6_in_0 rfl (lv_at hl 0 rfl) ?_
  refine lv_iload_n hx hb dX6_in_1 rfl (lv_at hl 1 rfl) ?_
  refine lv_icmp_lt (tgt := 14) hx hb dX6_in_2 (by decide) (fun c1 => ?_) (fun c1 => ?_)
  · have hf := ifp hf c1
    refine lv_iconst (v := 0) hx hb dX6_in_14 (by decide) ?_
    obtain rfl := sor hf
    exact r_retz F h rfl dX6_in_15
  · have hf := ifn hf c1
    refine lv_iload_n hx hb dX6_in_5 rfl (lv_at hl 0 rfl) ?_
    refine lv_iload_n hx hb dX6_in_6 rfl (lv_at hl 2 rfl) ?_
    refine lv_icmp_gt (tgt := 14) hx hb dX6_in_7 (by decide) (fun c2 => ?_) (fun c2 => ?_)
    · have hf := ifp hf c2
      refine lv_iconst (v := 0) hx hb dX6_in_14 (by decide) ?_
      obtain rfl := sor hf
      exact r_retz F h rfl dX6_in_15
    · have hf := ifn hf c2
      refine lv_iconst (v := 1) hx hb dX6_in_10 (by decide) ?_
      refine lv_goto (tgt := 15) hx hb dX6_in_11 (by decide) ?_
      obtain rfl := sor hf
      exact r_retz F h rfl dX6_in_15
def f6_isLetter (x0 : Int32) : Option (Int32) :=
  (f6_in x0 0 3).bind fun q1 => gd (bz q1) <| some q1
set_option maxRecDepth 100000 in
set_option maxHeartbeats 4000000 in
theorem c6_isLetter (l : Launch) (D : va_G) (K : Nat → ClassId) (x0 : Int32) (r : Int32) (hf : f6_isLetter x0 = some r) : CTi l yX6_isLetter cX6_isLetter 1 (some .boolean) 1 22 D K [.int x0] [] [] r := by
  unfold f6_isLetter at hf
  have hf := tob hf
  refine entI (by decide) (Nat.le_of_ble_eq_true rfl) (fun P e s m args below meth c A ls F h hl hin => ?_)
  have hx := F.1
  have hb := F.2.1
  have hl : lv_has ls 1 [(0, .int x0)] := hl
  refine lv_iload_n hx hb dX6_isLetter_0 rfl (lv_at hl 0 rfl) ?_
  refine lv_iconst (v := 0) hx hb dX6_isLetter_1 (by decide) ?_
  refine lv_iconst (v := 3) hx hb dX6_isLetter_2 (by decide) ?_
  obtain ⟨q1, h1, hf⟩ := asb hf
  refine r_callS (As := [.int x0, .int 0, .int 3]) (rest := []) F h hl (c6_in l D K x0 0 3 q1 h1) w3 ⟨w0, w1, w2⟩ hsc6_in ⟨Nat.le_of_ble_eq_true rfl, Nat.le_of_ble_eq_true rfl⟩ ⟨Nat.le_refl 0, Nat.le_refl 0⟩ (Nat.le_of_ble_eq_true rfl) dX6_isLetter_3 (fun H locs h => ?_)
  obtain ⟨g2, hf⟩ := gdb hf
  obtain rfl := sor hf
  exact r_retz F h g2 dX6_isLetter_6
def f6_place (x0 : Int32) (x1 : Int32) (x2 : Int32) : Option (Int32) :=
  some (((52 * x0) + (13 * x1)) + x2)
set_option maxRecDepth 100000 in
set_option maxHeartbeats 4000000 in
theorem c6_place (l : Launch) (D : va_G) (K : Nat → ClassId) (x0 : Int32) (x1 : Int32) (x2 : Int32) (r : Int32) (hf : f6_place x0 x1 x2 = some r) : CTi l yX6_place cX6_place 3 (some .int) 0 0 D K [.int x0, .int x1, .int x2] [] [] r := by
  unfold f6_place at hf
  have hf := tob hf
  refine entI (by decide) (Nat.le_of_ble_eq_true rfl) (fun P e s m args below meth c A ls F h hl hin => ?_)
  have hx := F.1
  have hb := F.2.1
  have hl : lv_has ls 3 [(0, .int x0), (1, .int x1), (2, .int x2)] := hl
  refine lv_bipush (v := 52) hx hb dX6_place_0 (by decide) ?_
  refine lv_iload_n hx hb dX6_place_2 rfl (lv_at hl 0 rfl) ?_
  refine lv_imul hx hb dX6_place_3 ?_
  refine lv_bipush (v := 13) hx hb dX6_place_4 (by decide) ?_
  refine lv_iload_n hx hb dX6_place_6 rfl (lv_at hl 1 rfl) ?_
  refine lv_imul hx hb dX6_place_7 ?_
  refine lv_iadd hx hb dX6_place_8 ?_
  refine lv_iload_n hx hb dX6_place_9 rfl (lv_at hl 2 rfl) ?_
  refine lv_iadd hx hb dX6_place_10 ?_
  obtain rfl := sor hf
  exact r_reti F h dX6_place_11
def f6_made (x0 : Int32) (x1 : Int32) (x2 : Int32) : Option (Int32) :=
  (if x0 = 2 then ((if x1 ≤ x2 then (some x2) else (some x1))) else (some (x1 + x2)))
set_option maxRecDepth 100000 in
set_option maxHeartbeats 4000000 in
theorem c6_made (l : Launch) (D : va_G) (K : Nat → ClassId) (x0 : Int32) (x1 : Int32) (x2 : Int32) (r : Int32) (hf : f6_made x0 x1 x2 = some r) : CTi l yX6_made cX6_made 3 (some .int) 0 0 D K [.int x0, .int x1, .int x2] [] [] r := by
  unfold f6_made at hf
  have hf := tob hf
  refine entI (by decide) (Nat.le_of_ble_eq_true rfl) (fun P e s m args below meth c A ls F h hl hin => ?_)
  have hx := F.1
  have hb := F.2.1
  have hl : lv_has ls 3 [(0, .int x0), (1, .int x1), (2, .int x2)] := hl
  refine lv_iload_n hx hb dX6_made_0 rfl (lv_at hl 0 rfl) ?_
  refine lv_iconst (v := 2) hx hb dX6_made_1 (by decide) ?_
  refine lv_icmp_ne (tgt := 18) hx hb dX6_made_2 (by decide) (fun c1 => ?_) (fun c1 => ?_)
  · have hf := ifn hf c1
    refine lv_iload_n hx hb dX6_made_18 rfl (lv_at hl 1 rfl) ?_
    refine lv_iload_n hx hb dX6_made_19 rfl (lv_at hl 2 rfl) ?_
    refine lv_iadd hx hb dX6_made_20 ?_
    obtain rfl := sor hf
    exact r_reti F h dX6_made_21
  · have hf := ifp hf c1
    refine lv_iload_n hx hb dX6_made_5 rfl (lv_at hl 1 rfl) ?_
    refine lv_iload_n hx hb dX6_made_6 rfl (lv_at hl 2 rfl) ?_
    refine lv_icmp_le (tgt := 14) hx hb dX6_made_7 (by decide) (fun c2 => ?_) (fun c2 => ?_)
    · have hf := ifp hf c2
      refine lv_iload_n hx hb dX6_made_14 rfl (lv_at hl 2 rfl) ?_
      refine lv_goto (tgt := 21) hx hb dX6_made_15 (by decide) ?_
      obtain rfl := sor hf
      exact r_reti F h dX6_made_21
    · have hf := ifn hf c2
      refine lv_iload_n hx hb dX6_made_10 rfl (lv_at hl 1 rfl) ?_
      refine lv_goto (tgt := 21) hx hb dX6_made_11 (by decide) ?_
      obtain rfl := sor hf
      exact r_reti F h dX6_made_21
def f6_lesser (x0 : Int32) (x1 : Int32) : Option (Int32) :=
  (if x0 < 0 then (some x1) else ((if x0 ≤ x1 then (some x0) else (some x1))))
set_option maxRecDepth 100000 in
set_option maxHeartbeats 4000000 in
theorem c6_lesser (l : Launch) (D : va_G) (K : Nat → ClassId) (x0 : Int32) (x1 : Int32) (r : Int32) (hf : f6_lesser x0 x1 = some r) : CTi l yX6_lesser cX6_lesser 2 (some .int) 0 0 D K [.int x0, .int x1] [] [] r := by
  unfold f6_lesser at hf
  have hf := tob hf
  refine entI (by decide) (Nat.le_of_ble_eq_true rfl) (fun P e s m args below meth c A ls F h hl hin => ?_)
  have hx := F.1
  have hb := F.2.1
  have hl : lv_has ls 2 [(0, .int x0), (1, .int x1)] := hl
  refine lv_iload_n hx hb dX6_lesser_0 rfl (lv_at hl 0 rfl) ?_
  refine lv_if_lt (tgt := 9) hx hb dX6_lesser_1 (by decide) (fun c1 => ?_) (fun c1 => ?_)
  · have hf := ifp hf c1
    refine lv_iload_n hx hb dX6_lesser_9 rfl (lv_at hl 1 rfl) ?_
    refine lv_goto (tgt := 14) hx hb dX6_lesser_10 (by decide) ?_
    obtain rfl := sor hf
    exact r_reti F h dX6_lesser_14
  · have hf := ifn hf c1
    refine lv_iload_n hx hb dX6_lesser_4 rfl (lv_at hl 1 rfl) ?_
    refine lv_iload_n hx hb dX6_lesser_5 rfl (lv_at hl 0 rfl) ?_
    refine lv_icmp_ge (tgt := 13) hx hb dX6_lesser_6 (by decide) (fun c2 => ?_) (fun c2 => ?_)
    · have hf := ifp hf c2
      refine lv_iload_n hx hb dX6_lesser_13 rfl (lv_at hl 0 rfl) ?_
      obtain rfl := sor hf
      exact r_reti F h dX6_lesser_14
    · have hf := ifn hf c2
      refine lv_iload_n hx hb dX6_lesser_9 rfl (lv_at hl 1 rfl) ?_
      refine lv_goto (tgt := 14) hx hb dX6_lesser_10 (by decide) ?_
      obtain rfl := sor hf
      exact r_reti F h dX6_lesser_14
def f6_isRule (x0 : Int32) (o_this : ob) : Option (Int32) :=
  (f6_in x0 0 ((o_this.1 1) - 1)).bind fun q1 => gd (bz q1) <| some q1
set_option maxRecDepth 100000 in
set_option maxHeartbeats 4000000 in
theorem c6_isRule (l : Launch) (D : va_G) (K : Nat → ClassId) (a0 : Nat → Nat) (x0 : Int32) (o_this : ob) (r : Int32) (hf : f6_isRule x0 o_this = some r) : CTi l yX6_isRule cX6_isRule 2 (some .boolean) 1 22 D K [.ref (a0 0), .int x0] [wX6 K a0 o_this] [wX6 K a0 o_this] r := by
  unfold f6_isRule at hf
  have hf := tob hf
  refine entI (by decide) (Nat.le_of_ble_eq_true rfl) (fun P e s m args below meth c A ls F h hl hin => ?_)
  have hx := F.1
  have hb := F.2.1
  have hl : lv_has ls 2 [(0, .ref (a0 0)), (1, .int x0)] := hl
  refine lv_iload_n hx hb dX6_isRule_0 rfl (lv_at hl 1 rfl) ?_
  refine lv_iconst (v := 0) hx hb dX6_isRule_1 (by decide) ?_
  refine lv_aload_n hx hb dX6_isRule_2 rfl (lv_at hl 0 rfl) ?_
  refine r_get F h (i := 0) (k := 1) (.int (o_this.1 1)) inX6 rfl (by decide) w4 rfl rfl rfl dX6_isRule_3 ?_
  refine lv_iconst (v := 1) hx hb dX6_isRule_6 (by decide) ?_
  refine lv_isub hx hb dX6_isRule_7 ?_
  obtain ⟨q1, h1, hf⟩ := asb hf
  refine r_callS (As := [.int x0, .int 0, .int ((o_this.1 1) - 1)]) (rest := []) F h hl (c6_in l D K x0 0 ((o_this.1 1) - 1) q1 h1) w3 ⟨w0, w1, w2⟩ hsc6_in ⟨Nat.le_of_ble_eq_true rfl, Nat.le_of_ble_eq_true rfl⟩ ⟨Nat.le_refl 0, Nat.le_refl 0⟩ (Nat.le_of_ble_eq_true rfl) dX6_isRule_8 (fun H locs h => ?_)
  obtain ⟨g2, hf⟩ := gdb hf
  obtain rfl := sor hf
  exact r_retz F h g2 dX6_isRule_11
def f6_isState (x0 : Int32) (o_this : ob) : Option (Int32) :=
  (f6_in x0 0 ((o_this.1 0) - 1)).bind fun q1 => gd (bz q1) <| some q1
set_option maxRecDepth 100000 in
set_option maxHeartbeats 4000000 in
theorem c6_isState (l : Launch) (D : va_G) (K : Nat → ClassId) (a0 : Nat → Nat) (x0 : Int32) (o_this : ob) (r : Int32) (hf : f6_isState x0 o_this = some r) : CTi l yX6_isState cX6_isState 2 (some .boolean) 1 22 D K [.ref (a0 0), .int x0] [wX6 K a0 o_this] [wX6 K a0 o_this] r := by
  unfold f6_isState at hf
  have hf := tob hf
  refine entI (by decide) (Nat.le_of_ble_eq_true rfl) (fun P e s m args below meth c A ls F h hl hin => ?_)
  have hx := F.1
  have hb := F.2.1
  have hl : lv_has ls 2 [(0, .ref (a0 0)), (1, .int x0)] := hl
  refine lv_iload_n hx hb dX6_isState_0 rfl (lv_at hl 1 rfl) ?_
  refine lv_iconst (v := 0) hx hb dX6_isState_1 (by decide) ?_
  refine lv_aload_n hx hb dX6_isState_2 rfl (lv_at hl 0 rfl) ?_
  refine r_get F h (i := 0) (k := 0) (.int (o_this.1 0)) inX6 rfl (by decide) w5 rfl rfl rfl dX6_isState_3 ?_
  refine lv_iconst (v := 1) hx hb dX6_isState_6 (by decide) ?_
  refine lv_isub hx hb dX6_isState_7 ?_
  obtain ⟨q1, h1, hf⟩ := asb hf
  refine r_callS (As := [.int x0, .int 0, .int ((o_this.1 0) - 1)]) (rest := []) F h hl (c6_in l D K x0 0 ((o_this.1 0) - 1) q1 h1) w3 ⟨w0, w1, w2⟩ hsc6_in ⟨Nat.le_of_ble_eq_true rfl, Nat.le_of_ble_eq_true rfl⟩ ⟨Nat.le_refl 0, Nat.le_refl 0⟩ (Nat.le_of_ble_eq_true rfl) dX6_isState_8 (fun H locs h => ?_)
  obtain ⟨g2, hf⟩ := gdb hf
  obtain rfl := sor hf
  exact r_retz F h g2 dX6_isState_11
def f6_fits (x0 : Int32) (x1 : Int32) (x2 : Int32) (o_this : ob) : Option (Int32) :=
  gd (vin (7 * x0) 70) <| (if (o_this.2 2 (7 * x0).toNatClampNeg) = x1 then (gd (vin ((7 * x0) + 1) 70) <| (if (o_this.2 2 ((7 * x0) + 1).toNatClampNeg) = x2 then (some 1) else (some 0))) else (some 0))
set_option maxRecDepth 100000 in
set_option maxHeartbeats 4000000 in
theorem c6_fits (l : Launch) (D : va_G) (K : Nat → ClassId) (a0 : Nat → Nat) (x0 : Int32) (x1 : Int32) (x2 : Int32) (o_this : ob) (r : Int32) (hf : f6_fits x0 x1 x2 o_this = some r) : CTi l yX6_fits cX6_fits 4 (some .boolean) 0 0 D K [.ref (a0 0), .int x0, .int x1, .int x2] [wX6 K a0 o_this] [wX6 K a0 o_this] r := by
  unfold f6_fits at hf
  have hf := tob hf
  refine entI (by decide) (Nat.le_of_ble_eq_true rfl) (fun P e s m args below meth c A ls F h hl hin => ?_)
  have hx := F.1
  have hb := F.2.1
  have hl : lv_has ls 4 [(0, .ref (a0 0)), (1, .int x0), (2, .int x1), (3, .int x2)] := hl
  refine lv_aload_n hx hb dX6_fits_0 rfl (lv_at hl 0 rfl) ?_
  refine r_get F h (i := 0) (k := 2) (.ref (a0 3)) inX6 rfl (by decide) w6 rfl rfl rfl dX6_fits_1 ?_
  refine lv_bipush (v := 7) hx hb dX6_fits_4 (by decide) ?_
  refine lv_iload_n hx hb dX6_fits_6 rfl (lv_at hl 1 rfl) ?_
  refine lv_imul hx hb dX6_fits_7 ?_
  obtain ⟨g1, hf⟩ := gdb hf
  refine r_iald F h (i := 0) (j := 1) rfl rfl (vin_ok g1) dX6_fits_8 ?_
  refine lv_iload_n hx hb dX6_fits_9 rfl (lv_at hl 2 rfl) ?_
  refine lv_icmp_ne (tgt := 32) hx hb dX6_fits_10 (by decide) (fun c2 => ?_) (fun c2 => ?_)
  · have hf := ifn hf c2
    refine lv_iconst (v := 0) hx hb dX6_fits_32 (by decide) ?_
    obtain rfl := sor hf
    exact r_retz F h rfl dX6_fits_33
  · have hf := ifp hf c2
    refine lv_aload_n hx hb dX6_fits_13 rfl (lv_at hl 0 rfl) ?_
    refine r_get F h (i := 0) (k := 2) (.ref (a0 3)) inX6 rfl (by decide) w6 rfl rfl rfl dX6_fits_14 ?_
    refine lv_bipush (v := 7) hx hb dX6_fits_17 (by decide) ?_
    refine lv_iload_n hx hb dX6_fits_19 rfl (lv_at hl 1 rfl) ?_
    refine lv_imul hx hb dX6_fits_20 ?_
    refine lv_iconst (v := 1) hx hb dX6_fits_21 (by decide) ?_
    refine lv_iadd hx hb dX6_fits_22 ?_
    obtain ⟨g3, hf⟩ := gdb hf
    refine r_iald F h (i := 0) (j := 1) rfl rfl (vin_ok g3) dX6_fits_23 ?_
    refine lv_iload_n hx hb dX6_fits_24 rfl (lv_at hl 3 rfl) ?_
    refine lv_icmp_ne (tgt := 32) hx hb dX6_fits_25 (by decide) (fun c4 => ?_) (fun c4 => ?_)
    · have hf := ifn hf c4
      refine lv_iconst (v := 0) hx hb dX6_fits_32 (by decide) ?_
      obtain rfl := sor hf
      exact r_retz F h rfl dX6_fits_33
    · have hf := ifp hf c4
      refine lv_iconst (v := 1) hx hb dX6_fits_28 (by decide) ?_
      refine lv_goto (tgt := 33) hx hb dX6_fits_29 (by decide) ?_
      obtain rfl := sor hf
      exact r_retz F h rfl dX6_fits_33
def f6_rule (x0 : Int32) (x1 : Int32) (o_this : ob) : Option (Int32) :=
  (f6_isRule x0 o_this).bind fun q1 => (if q1 = 0 then (some (-1)) else ((f6_in x1 0 6).bind fun q3 => (if q3 = 0 then (some (-1)) else (gd (vin ((7 * x0) + x1) 70) <| some (o_this.2 2 ((7 * x0) + x1).toNatClampNeg)))))
set_option maxRecDepth 100000 in
set_option maxHeartbeats 4000000 in
theorem c6_rule (l : Launch) (D : va_G) (K : Nat → ClassId) (a0 : Nat → Nat) (x0 : Int32) (x1 : Int32) (o_this : ob) (r : Int32) (hf : f6_rule x0 x1 o_this = some r) : CTi l yX6_rule cX6_rule 3 (some .int) 2 43 D K [.ref (a0 0), .int x0, .int x1] [wX6 K a0 o_this] [wX6 K a0 o_this] r := by
  unfold f6_rule at hf
  have hf := tob hf
  refine entI (by decide) (Nat.le_of_ble_eq_true rfl) (fun P e s m args below meth c A ls F h hl hin => ?_)
  have hx := F.1
  have hb := F.2.1
  have hl : lv_has ls 3 [(0, .ref (a0 0)), (1, .int x0), (2, .int x1)] := hl
  refine lv_aload_n hx hb dX6_rule_0 rfl (lv_at hl 0 rfl) ?_
  refine lv_iload_n hx hb dX6_rule_1 rfl (lv_at hl 1 rfl) ?_
  obtain ⟨q1, h1, hf⟩ := asb hf
  refine r_callVi (As := [.int x0]) (rest := []) (C0 := [wX6 K a0 o_this]) (C1 := [wX6 K a0 o_this]) (Rr := []) (S' := [wX6 K a0 o_this]) F h hl (c6_isRule l D K a0 x0 o_this q1 h1) [0] rfl rfl rfl rfl rfl (i := 0) rfl rfl w7 ⟨w8, w9, w10, w2⟩ hsc6_isRule ⟨Nat.le_of_ble_eq_true rfl, Nat.le_of_ble_eq_true rfl⟩ ⟨Nat.le_refl 0, Nat.le_refl 0⟩ (Nat.le_of_ble_eq_true rfl) dX6_rule_2 (fun H locs h => ?_)
  refine lv_if_eq (tgt := 18) hx hb dX6_rule_5 (by decide) (fun c2 => ?_) (fun c2 => ?_)
  · have hf := ifp hf c2
    refine lv_iconst (v := (-1)) hx hb dX6_rule_18 (by decide) ?_
    obtain rfl := sor hf
    exact r_reti F h dX6_rule_19
  · have hf := ifn hf c2
    refine lv_iload_n hx hb dX6_rule_8 rfl (lv_at hl 2 rfl) ?_
    refine lv_iconst (v := 0) hx hb dX6_rule_9 (by decide) ?_
    refine lv_bipush (v := 6) hx hb dX6_rule_10 (by decide) ?_
    obtain ⟨q3, h3, hf⟩ := asb hf
    refine r_callS (As := [.int x1, .int 0, .int 6]) (rest := []) F h hl (c6_in l D K x1 0 6 q3 h3) w3 ⟨w0, w1, w2⟩ hsc6_in ⟨Nat.le_of_ble_eq_true rfl, Nat.le_of_ble_eq_true rfl⟩ ⟨Nat.le_refl 0, Nat.le_refl 0⟩ (Nat.le_of_ble_eq_true rfl) dX6_rule_12 (fun H locs h => ?_)
    refine lv_if_ne (tgt := 20) hx hb dX6_rule_15 (by decide) (fun c4 => ?_) (fun c4 => ?_)
    · have hf := ifn hf c4
      refine lv_aload_n hx hb dX6_rule_20 rfl (lv_at hl 0 rfl) ?_
      refine r_get F h (i := 0) (k := 2) (.ref (a0 3)) inX6 rfl (by decide) w6 rfl rfl rfl dX6_rule_21 ?_
      refine lv_bipush (v := 7) hx hb dX6_rule_24 (by decide) ?_
      refine lv_iload_n hx hb dX6_rule_26 rfl (lv_at hl 1 rfl) ?_
      refine lv_imul hx hb dX6_rule_27 ?_
      refine lv_iload_n hx hb dX6_rule_28 rfl (lv_at hl 2 rfl) ?_
      refine lv_iadd hx hb dX6_rule_29 ?_
      obtain ⟨g5, hf⟩ := gdb hf
      refine r_iald F h (i := 0) (j := 1) rfl rfl (vin_ok g5) dX6_rule_30 ?_
      obtain rfl := sor hf
      exact r_reti F h dX6_rule_31
    · have hf := ifp hf c4
      refine lv_iconst (v := (-1)) hx hb dX6_rule_18 (by decide) ?_
      obtain rfl := sor hf
      exact r_reti F h dX6_rule_19
def f6_target (x0 : Int32) (x1 : Int32) (o_this : ob) : Option (Int32) :=
  (f6_in x0 0 ((o_this.1 3) - 1)).bind fun q1 => (if q1 = 0 then (some (-1)) else ((f6_in x1 0 5).bind fun q3 => (if q3 = 0 then (some (-1)) else (gd (vin ((6 * x0) + x1) 24) <| some (o_this.2 4 ((6 * x0) + x1).toNatClampNeg)))))
set_option maxRecDepth 100000 in
set_option maxHeartbeats 4000000 in
theorem c6_target (l : Launch) (D : va_G) (K : Nat → ClassId) (a0 : Nat → Nat) (x0 : Int32) (x1 : Int32) (o_this : ob) (r : Int32) (hf : f6_target x0 x1 o_this = some r) : CTi l yX6_target cX6_target 3 (some .int) 1 22 D K [.ref (a0 0), .int x0, .int x1] [wX6 K a0 o_this] [wX6 K a0 o_this] r := by
  unfold f6_target at hf
  have hf := tob hf
  refine entI (by decide) (Nat.le_of_ble_eq_true rfl) (fun P e s m args below meth c A ls F h hl hin => ?_)
  have hx := F.1
  have hb := F.2.1
  have hl : lv_has ls 3 [(0, .ref (a0 0)), (1, .int x0), (2, .int x1)] := hl
  refine lv_iload_n hx hb dX6_target_0 rfl (lv_at hl 1 rfl) ?_
  refine lv_iconst (v := 0) hx hb dX6_target_1 (by decide) ?_
  refine lv_aload_n hx hb dX6_target_2 rfl (lv_at hl 0 rfl) ?_
  refine r_get F h (i := 0) (k := 3) (.int (o_this.1 3)) inX6 rfl (by decide) w11 rfl rfl rfl dX6_target_3 ?_
  refine lv_iconst (v := 1) hx hb dX6_target_6 (by decide) ?_
  refine lv_isub hx hb dX6_target_7 ?_
  obtain ⟨q1, h1, hf⟩ := asb hf
  refine r_callS (As := [.int x0, .int 0, .int ((o_this.1 3) - 1)]) (rest := []) F h hl (c6_in l D K x0 0 ((o_this.1 3) - 1) q1 h1) w3 ⟨w0, w1, w2⟩ hsc6_in ⟨Nat.le_of_ble_eq_true rfl, Nat.le_of_ble_eq_true rfl⟩ ⟨Nat.le_refl 0, Nat.le_refl 0⟩ (Nat.le_of_ble_eq_true rfl) dX6_target_8 (fun H locs h => ?_)
  refine lv_if_eq (tgt := 37) hx hb dX6_target_11 (by decide) (fun c2 => ?_) (fun c2 => ?_)
  · have hf := ifp hf c2
    refine lv_iconst (v := (-1)) hx hb dX6_target_37 (by decide) ?_
    obtain rfl := sor hf
    exact r_reti F h dX6_target_38
  · have hf := ifn hf c2
    refine lv_iload_n hx hb dX6_target_14 rfl (lv_at hl 2 rfl) ?_
    refine lv_iconst (v := 0) hx hb dX6_target_15 (by decide) ?_
    refine lv_iconst (v := 5) hx hb dX6_target_16 (by decide) ?_
    obtain ⟨q3, h3, hf⟩ := asb hf
    refine r_callS (As := [.int x1, .int 0, .int 5]) (rest := []) F h hl (c6_in l D K x1 0 5 q3 h3) w3 ⟨w0, w1, w2⟩ hsc6_in ⟨Nat.le_of_ble_eq_true rfl, Nat.le_of_ble_eq_true rfl⟩ ⟨Nat.le_refl 0, Nat.le_refl 0⟩ (Nat.le_of_ble_eq_true rfl) dX6_target_17 (fun H locs h => ?_)
    refine lv_if_eq (tgt := 37) hx hb dX6_target_20 (by decide) (fun c4 => ?_) (fun c4 => ?_)
    · have hf := ifp hf c4
      refine lv_iconst (v := (-1)) hx hb dX6_target_37 (by decide) ?_
      obtain rfl := sor hf
      exact r_reti F h dX6_target_38
    · have hf := ifn hf c4
      refine lv_aload_n hx hb dX6_target_23 rfl (lv_at hl 0 rfl) ?_
      refine r_get F h (i := 0) (k := 4) (.ref (a0 5)) inX6 rfl (by decide) w12 rfl rfl rfl dX6_target_24 ?_
      refine lv_bipush (v := 6) hx hb dX6_target_27 (by decide) ?_
      refine lv_iload_n hx hb dX6_target_29 rfl (lv_at hl 1 rfl) ?_
      refine lv_imul hx hb dX6_target_30 ?_
      refine lv_iload_n hx hb dX6_target_31 rfl (lv_at hl 2 rfl) ?_
      refine lv_iadd hx hb dX6_target_32 ?_
      obtain ⟨g5, hf⟩ := gdb hf
      refine r_iald F h (i := 0) (j := 2) rfl rfl (vin_ok g5) dX6_target_33 ?_
      refine lv_goto (tgt := 38) hx hb dX6_target_34 (by decide) ?_
      obtain rfl := sor hf
      exact r_reti F h dX6_target_38
def f6_stack (x0 : Int32) (o_this : ob) : Option (Int32) :=
  (if (-2) ≤ x0 then ((if 0 ≤ x0 then ((if (o_this.1 6) ≤ x0 then (some (-4)) else (gd (vin (((o_this.1 6) - 1) - x0) 12) <| some (o_this.2 7 (((o_this.1 6) - 1) - x0).toNatClampNeg)))) else ((if x0 = (-2) then (some (o_this.1 5)) else (some (o_this.1 6)))))) else (some (-1)))
set_option maxRecDepth 100000 in
set_option maxHeartbeats 4000000 in
theorem c6_stack (l : Launch) (D : va_G) (K : Nat → ClassId) (a0 : Nat → Nat) (x0 : Int32) (o_this : ob) (r : Int32) (hf : f6_stack x0 o_this = some r) : CTi l yX6_stack cX6_stack 2 (some .int) 0 0 D K [.ref (a0 0), .int x0] [wX6 K a0 o_this] [wX6 K a0 o_this] r := by
  unfold f6_stack at hf
  have hf := tob hf
  refine entI (by decide) (Nat.le_of_ble_eq_true rfl) (fun P e s m args below meth c A ls F h hl hin => ?_)
  have hx := F.1
  have hb := F.2.1
  have hl : lv_has ls 2 [(0, .ref (a0 0)), (1, .int x0)] := hl
  refine lv_iload_n hx hb dX6_stack_0 rfl (lv_at hl 1 rfl) ?_
  refine lv_bipush (v := (-2)) hx hb dX6_stack_1 (by decide) ?_
  refine lv_icmp_ge (tgt := 8) hx hb dX6_stack_3 (by decide) (fun c1 => ?_) (fun c1 => ?_)
  · have hf := ifp hf c1
    refine lv_iload_n hx hb dX6_stack_8 rfl (lv_at hl 1 rfl) ?_
    refine lv_if_ge (tgt := 30) hx hb dX6_stack_9 (by decide) (fun c2 => ?_) (fun c2 => ?_)
    · have hf := ifp hf c2
      refine lv_iload_n hx hb dX6_stack_30 rfl (lv_at hl 1 rfl) ?_
      refine lv_aload_n hx hb dX6_stack_31 rfl (lv_at hl 0 rfl) ?_
      refine r_get F h (i := 0) (k := 6) (.int (o_this.1 6)) inX6 rfl (by decide) w13 rfl rfl rfl dX6_stack_32 ?_
      refine lv_icmp_ge (tgt := 54) hx hb dX6_stack_35 (by decide) (fun c3 => ?_) (fun c3 => ?_)
      · have hf := ifp hf c3
        refine lv_bipush (v := (-4)) hx hb dX6_stack_54 (by decide) ?_
        obtain rfl := sor hf
        exact r_reti F h dX6_stack_56
      · have hf := ifn hf c3
        refine lv_aload_n hx hb dX6_stack_38 rfl (lv_at hl 0 rfl) ?_
        refine r_get F h (i := 0) (k := 7) (.ref (a0 8)) inX6 rfl (by decide) w14 rfl rfl rfl dX6_stack_39 ?_
        refine lv_aload_n hx hb dX6_stack_42 rfl (lv_at hl 0 rfl) ?_
        refine r_get F h (i := 0) (k := 6) (.int (o_this.1 6)) inX6 rfl (by decide) w13 rfl rfl rfl dX6_stack_43 ?_
        refine lv_iconst (v := 1) hx hb dX6_stack_46 (by decide) ?_
        refine lv_isub hx hb dX6_stack_47 ?_
        refine lv_iload_n hx hb dX6_stack_48 rfl (lv_at hl 1 rfl) ?_
        refine lv_isub hx hb dX6_stack_49 ?_
        obtain ⟨g4, hf⟩ := gdb hf
        refine r_iald F h (i := 0) (j := 3) rfl rfl (vin_ok g4) dX6_stack_50 ?_
        refine lv_goto (tgt := 56) hx hb dX6_stack_51 (by decide) ?_
        obtain rfl := sor hf
        exact r_reti F h dX6_stack_56
    · have hf := ifn hf c2
      refine lv_iload_n hx hb dX6_stack_12 rfl (lv_at hl 1 rfl) ?_
      refine lv_bipush (v := (-2)) hx hb dX6_stack_13 (by decide) ?_
      refine lv_icmp_ne (tgt := 25) hx hb dX6_stack_15 (by decide) (fun c5 => ?_) (fun c5 => ?_)
      · have hf := ifn hf c5
        refine lv_aload_n hx hb dX6_stack_25 rfl (lv_at hl 0 rfl) ?_
        refine r_get F h (i := 0) (k := 6) (.int (o_this.1 6)) inX6 rfl (by decide) w13 rfl rfl rfl dX6_stack_26 ?_
        obtain rfl := sor hf
        exact r_reti F h dX6_stack_29
      · have hf := ifp hf c5
        refine lv_aload_n hx hb dX6_stack_18 rfl (lv_at hl 0 rfl) ?_
        refine r_get F h (i := 0) (k := 5) (.int (o_this.1 5)) inX6 rfl (by decide) w15 rfl rfl rfl dX6_stack_19 ?_
        refine lv_goto (tgt := 29) hx hb dX6_stack_22 (by decide) ?_
        obtain rfl := sor hf
        exact r_reti F h dX6_stack_29
  · have hf := ifn hf c1
    refine lv_iconst (v := (-1)) hx hb dX6_stack_6 (by decide) ?_
    obtain rfl := sor hf
    exact r_reti F h dX6_stack_7
def f6_sign (x0 : Int32) (o_this : ob) : Option (Int32 × ob) :=
  (if (o_this.1 30) ≤ (o_this.1 31) then (some (0, o_this)) else (gd (vin (o_this.1 31) 200) <| (if (o_this.2 29 (o_this.1 31).toNatClampNeg) = x0 then (lt (sI o_this 31 ((o_this.1 31) + 1)) fun t4 => some (1, t4)) else (some (0, o_this)))))
set_option maxRecDepth 100000 in
set_option maxHeartbeats 4000000 in
theorem c6_sign (l : Launch) (D : va_G) (K : Nat → ClassId) (a0 : Nat → Nat) (x0 : Int32) (o_this : ob) (r : Int32 × ob) (hf : f6_sign x0 o_this = some r) : CTi l yX6_sign cX6_sign 2 (some .boolean) 0 0 D K [.ref (a0 0), .int x0] [wX6 K a0 o_this] [wX6 K a0 r.2] r.1 := by
  unfold f6_sign at hf
  have hf := tob hf
  refine entI (by decide) (Nat.le_of_ble_eq_true rfl) (fun P e s m args below meth c A ls F h hl hin => ?_)
  have hx := F.1
  have hb := F.2.1
  have hl : lv_has ls 2 [(0, .ref (a0 0)), (1, .int x0)] := hl
  refine lv_aload_n hx hb dX6_sign_0 rfl (lv_at hl 0 rfl) ?_
  refine r_get F h (i := 0) (k := 31) (.int (o_this.1 31)) inX6 rfl (by decide) w16 rfl rfl rfl dX6_sign_1 ?_
  refine lv_aload_n hx hb dX6_sign_4 rfl (lv_at hl 0 rfl) ?_
  refine r_get F h (i := 0) (k := 30) (.int (o_this.1 30)) inX6 rfl (by decide) w17 rfl rfl rfl dX6_sign_5 ?_
  refine lv_icmp_ge (tgt := 36) hx hb dX6_sign_8 (by decide) (fun c1 => ?_) (fun c1 => ?_)
  · have hf := ifp hf c1
    refine lv_iconst (v := 0) hx hb dX6_sign_36 (by decide) ?_
    obtain rfl := sor hf
    exact r_retz F h rfl dX6_sign_37
  · have hf := ifn hf c1
    refine lv_aload_n hx hb dX6_sign_11 rfl (lv_at hl 0 rfl) ?_
    refine r_get F h (i := 0) (k := 29) (.ref (a0 30)) inX6 rfl (by decide) w18 rfl rfl rfl dX6_sign_12 ?_
    refine lv_aload_n hx hb dX6_sign_15 rfl (lv_at hl 0 rfl) ?_
    refine r_get F h (i := 0) (k := 31) (.int (o_this.1 31)) inX6 rfl (by decide) w16 rfl rfl rfl dX6_sign_16 ?_
    obtain ⟨g2, hf⟩ := gdb hf
    refine r_iald F h (i := 0) (j := 18) rfl rfl (vin_ok g2) dX6_sign_19 ?_
    refine lv_iload_n hx hb dX6_sign_20 rfl (lv_at hl 1 rfl) ?_
    refine lv_icmp_ne (tgt := 36) hx hb dX6_sign_21 (by decide) (fun c3 => ?_) (fun c3 => ?_)
    · have hf := ifn hf c3
      refine lv_iconst (v := 0) hx hb dX6_sign_36 (by decide) ?_
      obtain rfl := sor hf
      exact r_retz F h rfl dX6_sign_37
    · have hf := ifp hf c3
      refine lv_aload_n hx hb dX6_sign_24 rfl (lv_at hl 0 rfl) ?_
      refine lv_dup hx hb dX6_sign_25 rfl ?_
      refine r_get F h (i := 0) (k := 31) (.int (o_this.1 31)) inX6 rfl (by decide) w16 rfl rfl rfl dX6_sign_26 ?_
      refine lv_iconst (v := 1) hx hb dX6_sign_29 (by decide) ?_
      refine lv_iadd hx hb dX6_sign_30 ?_
      refine r_put (o1 := sI o_this 31 ((o_this.1 31) + 1)) (w := fun t4 => wX6 K a0 t4) (S' := fun t4 => [wX6 K a0 t4]) F h (i := 0) (k := 31) inX6 tyX6_ok nmX6 rfl (by decide) w16 rfl rfl rfl rfl rfl (Nat.le_of_ble_eq_true rfl) rfl (fun _ => rfl) dX6_sign_31 (fun t4 e4 H locs h => ?_)
      have hf := ltb hf e4
      refine lv_iconst (v := 1) hx hb dX6_sign_34 (by decide) ?_
      obtain rfl := sor hf
      exact r_retz F h rfl dX6_sign_35
def f6_figure (x0 : Int32) (x1 : Int32) (o_this : ob) : Option (Int32 × ob) :=
  (if (o_this.1 30) ≤ (o_this.1 31) then (some (0, o_this)) else (gd (vin (o_this.1 31) 200) <| (f6_in ((o_this.2 29 (o_this.1 31).toNatClampNeg) - 48) x0 (x1 - 1)).bind fun q3 => (if q3 = 0 then (some (0, o_this)) else (gd (vin (o_this.1 31) 200) <| lt (sI o_this 32 ((o_this.2 29 (o_this.1 31).toNatClampNeg) - 48)) fun t6 => lt (sI t6 31 ((t6.1 31) + 1)) fun t7 => some (1, t7)))))
set_option maxRecDepth 100000 in
set_option maxHeartbeats 4000000 in
theorem c6_figure (l : Launch) (D : va_G) (K : Nat → ClassId) (a0 : Nat → Nat) (x0 : Int32) (x1 : Int32) (o_this : ob) (r : Int32 × ob) (hf : f6_figure x0 x1 o_this = some r) : CTi l yX6_figure cX6_figure 3 (some .boolean) 1 22 D K [.ref (a0 0), .int x0, .int x1] [wX6 K a0 o_this] [wX6 K a0 r.2] r.1 := by
  unfold f6_figure at hf
  have hf := tob hf
  refine entI (by decide) (Nat.le_of_ble_eq_true rfl) (fun P e s m args below meth c A ls F h hl hin => ?_)
  have hx := F.1
  have hb := F.2.1
  have hl : lv_has ls 3 [(0, .ref (a0 0)), (1, .int x0), (2, .int x1)] := hl
  refine lv_aload_n hx hb dX6_figure_0 rfl (lv_at hl 0 rfl) ?_
  refine r_get F h (i := 0) (k := 31) (.int (o_this.1 31)) inX6 rfl (by decide) w16 rfl rfl rfl dX6_figure_1 ?_
  refine lv_aload_n hx hb dX6_figure_4 rfl (lv_at hl 0 rfl) ?_
  refine r_get F h (i := 0) (k := 30) (.int (o_this.1 30)) inX6 rfl (by decide) w17 rfl rfl rfl dX6_figure_5 ?_
  refine lv_icmp_ge (tgt := 61) hx hb dX6_figure_8 (by decide) (fun c1 => ?_) (fun c1 => ?_)
  · have hf := ifp hf c1
    refine lv_iconst (v := 0) hx hb dX6_figure_61 (by decide) ?_
    obtain rfl := sor hf
    exact r_retz F h rfl dX6_figure_62
  · have hf := ifn hf c1
    refine lv_aload_n hx hb dX6_figure_11 rfl (lv_at hl 0 rfl) ?_
    refine r_get F h (i := 0) (k := 29) (.ref (a0 30)) inX6 rfl (by decide) w18 rfl rfl rfl dX6_figure_12 ?_
    refine lv_aload_n hx hb dX6_figure_15 rfl (lv_at hl 0 rfl) ?_
    refine r_get F h (i := 0) (k := 31) (.int (o_this.1 31)) inX6 rfl (by decide) w16 rfl rfl rfl dX6_figure_16 ?_
    obtain ⟨g2, hf⟩ := gdb hf
    refine r_iald F h (i := 0) (j := 18) rfl rfl (vin_ok g2) dX6_figure_19 ?_
    refine lv_bipush (v := 48) hx hb dX6_figure_20 (by decide) ?_
    refine lv_isub hx hb dX6_figure_22 ?_
    refine lv_iload_n hx hb dX6_figure_23 rfl (lv_at hl 1 rfl) ?_
    refine lv_iload_n hx hb dX6_figure_24 rfl (lv_at hl 2 rfl) ?_
    refine lv_iconst (v := 1) hx hb dX6_figure_25 (by decide) ?_
    refine lv_isub hx hb dX6_figure_26 ?_
    obtain ⟨q3, h3, hf⟩ := asb hf
    refine r_callS (As := [.int ((o_this.2 29 (o_this.1 31).toNatClampNeg) - 48), .int x0, .int (x1 - 1)]) (rest := []) F h hl (c6_in l D K ((o_this.2 29 (o_this.1 31).toNatClampNeg) - 48) x0 (x1 - 1) q3 h3) w3 ⟨w0, w1, w2⟩ hsc6_in ⟨Nat.le_of_ble_eq_true rfl, Nat.le_of_ble_eq_true rfl⟩ ⟨Nat.le_refl 0, Nat.le_refl 0⟩ (Nat.le_of_ble_eq_true rfl) dX6_figure_27 (fun H locs h => ?_)
    refine lv_if_eq (tgt := 61) hx hb dX6_figure_30 (by decide) (fun c4 => ?_) (fun c4 => ?_)
    · have hf := ifp hf c4
      refine lv_iconst (v := 0) hx hb dX6_figure_61 (by decide) ?_
      obtain rfl := sor hf
      exact r_retz F h rfl dX6_figure_62
    · have hf := ifn hf c4
      refine lv_aload_n hx hb dX6_figure_33 rfl (lv_at hl 0 rfl) ?_
      refine lv_aload_n hx hb dX6_figure_34 rfl (lv_at hl 0 rfl) ?_
      refine r_get F h (i := 0) (k := 29) (.ref (a0 30)) inX6 rfl (by decide) w18 rfl rfl rfl dX6_figure_35 ?_
      refine lv_aload_n hx hb dX6_figure_38 rfl (lv_at hl 0 rfl) ?_
      refine r_get F h (i := 0) (k := 31) (.int (o_this.1 31)) inX6 rfl (by decide) w16 rfl rfl rfl dX6_figure_39 ?_
      obtain ⟨g5, hf⟩ := gdb hf
      refine r_iald F h (i := 0) (j := 18) rfl rfl (vin_ok g5) dX6_figure_42 ?_
      refine lv_bipush (v := 48) hx hb dX6_figure_43 (by decide) ?_
      refine lv_isub hx hb dX6_figure_45 ?_
      refine r_put (o1 := sI o_this 32 ((o_this.2 29 (o_this.1 31).toNatClampNeg) - 48)) (w := fun t6 => wX6 K a0 t6) (S' := fun t6 => [wX6 K a0 t6]) F h (i := 0) (k := 32) inX6 tyX6_ok nmX6 rfl (by decide) w19 rfl rfl rfl rfl rfl (Nat.le_of_ble_eq_true rfl) rfl (fun _ => rfl) dX6_figure_46 (fun t6 e6 H locs h => ?_)
      have hf := ltb hf e6
      refine lv_aload_n hx hb dX6_figure_49 rfl (lv_at hl 0 rfl) ?_
      refine lv_dup hx hb dX6_figure_50 rfl ?_
      refine r_get F h (i := 0) (k := 31) (.int (t6.1 31)) inX6 rfl (by decide) w16 rfl rfl rfl dX6_figure_51 ?_
      refine lv_iconst (v := 1) hx hb dX6_figure_54 (by decide) ?_
      refine lv_iadd hx hb dX6_figure_55 ?_
      refine r_put (o1 := sI t6 31 ((t6.1 31) + 1)) (w := fun t7 => wX6 K a0 t7) (S' := fun t7 => [wX6 K a0 t7]) F h (i := 0) (k := 31) inX6 tyX6_ok nmX6 rfl (by decide) w16 rfl rfl rfl rfl rfl (Nat.le_of_ble_eq_true rfl) rfl (fun _ => rfl) dX6_figure_56 (fun t7 e7 H locs h => ?_)
      have hf := ltb hf e7
      refine lv_iconst (v := 1) hx hb dX6_figure_59 (by decide) ?_
      obtain rfl := sor hf
      exact r_retz F h rfl dX6_figure_60
def f6_isWordAt (o_this : ob) : Option (Int32) :=
  (if (o_this.1 30) ≤ (o_this.1 31) then (some 0) else (gd (vin (o_this.1 31) 200) <| (f6_isLetter ((o_this.2 29 (o_this.1 31).toNatClampNeg) - 97)).bind fun q3 => (if q3 = 0 then (some 0) else (some 1))))
set_option maxRecDepth 100000 in
set_option maxHeartbeats 4000000 in
theorem c6_isWordAt (l : Launch) (D : va_G) (K : Nat → ClassId) (a0 : Nat → Nat) (o_this : ob) (r : Int32) (hf : f6_isWordAt o_this = some r) : CTi l yX6_isWordAt cX6_isWordAt 1 (some .boolean) 2 42 D K [.ref (a0 0)] [wX6 K a0 o_this] [wX6 K a0 o_this] r := by
  unfold f6_isWordAt at hf
  have hf := tob hf
  refine entI (by decide) (Nat.le_of_ble_eq_true rfl) (fun P e s m args below meth c A ls F h hl hin => ?_)
  have hx := F.1
  have hb := F.2.1
  have hl : lv_has ls 1 [(0, .ref (a0 0))] := hl
  refine lv_aload_n hx hb dX6_isWordAt_0 rfl (lv_at hl 0 rfl) ?_
  refine r_get F h (i := 0) (k := 31) (.int (o_this.1 31)) inX6 rfl (by decide) w16 rfl rfl rfl dX6_isWordAt_1 ?_
  refine lv_aload_n hx hb dX6_isWordAt_4 rfl (lv_at hl 0 rfl) ?_
  refine r_get F h (i := 0) (k := 30) (.int (o_this.1 30)) inX6 rfl (by decide) w17 rfl rfl rfl dX6_isWordAt_5 ?_
  refine lv_icmp_ge (tgt := 33) hx hb dX6_isWordAt_8 (by decide) (fun c1 => ?_) (fun c1 => ?_)
  · have hf := ifp hf c1
    refine lv_iconst (v := 0) hx hb dX6_isWordAt_33 (by decide) ?_
    obtain rfl := sor hf
    exact r_retz F h rfl dX6_isWordAt_34
  · have hf := ifn hf c1
    refine lv_aload_n hx hb dX6_isWordAt_11 rfl (lv_at hl 0 rfl) ?_
    refine r_get F h (i := 0) (k := 29) (.ref (a0 30)) inX6 rfl (by decide) w18 rfl rfl rfl dX6_isWordAt_12 ?_
    refine lv_aload_n hx hb dX6_isWordAt_15 rfl (lv_at hl 0 rfl) ?_
    refine r_get F h (i := 0) (k := 31) (.int (o_this.1 31)) inX6 rfl (by decide) w16 rfl rfl rfl dX6_isWordAt_16 ?_
    obtain ⟨g2, hf⟩ := gdb hf
    refine r_iald F h (i := 0) (j := 18) rfl rfl (vin_ok g2) dX6_isWordAt_19 ?_
    refine lv_bipush (v := 97) hx hb dX6_isWordAt_20 (by decide) ?_
    refine lv_isub hx hb dX6_isWordAt_22 ?_
    obtain ⟨q3, h3, hf⟩ := asb hf
    refine r_callS (As := [.int ((o_this.2 29 (o_this.1 31).toNatClampNeg) - 97)]) (rest := []) F h hl (c6_isLetter l D K ((o_this.2 29 (o_this.1 31).toNatClampNeg) - 97) q3 h3) w22 ⟨w20, w21, w2⟩ hsc6_isLetter ⟨Nat.le_of_ble_eq_true rfl, Nat.le_of_ble_eq_true rfl⟩ ⟨Nat.le_refl 0, Nat.le_refl 0⟩ (Nat.le_of_ble_eq_true rfl) dX6_isWordAt_23 (fun H locs h => ?_)
    refine lv_if_eq (tgt := 33) hx hb dX6_isWordAt_26 (by decide) (fun c4 => ?_) (fun c4 => ?_)
    · have hf := ifp hf c4
      refine lv_iconst (v := 0) hx hb dX6_isWordAt_33 (by decide) ?_
      obtain rfl := sor hf
      exact r_retz F h rfl dX6_isWordAt_34
    · have hf := ifn hf c4
      refine lv_iconst (v := 1) hx hb dX6_isWordAt_29 (by decide) ?_
      refine lv_goto (tgt := 34) hx hb dX6_isWordAt_30 (by decide) ?_
      obtain rfl := sor hf
      exact r_retz F h rfl dX6_isWordAt_34
def f6_word_L5 (z2 : ob) : Option (Nat × (ob)) :=
  (f6_isWordAt z2).bind fun q4 => (if q4 = 0 then (some (1, z2)) else (((if 6 ≤ (z2.1 33) then (some z2) else (gd (vin (z2.1 31) 200) <| gd (vin (z2.1 33) 6) <| lt (sA z2 34 (z2.1 33).toNatClampNeg ((z2.2 29 (z2.1 31).toNatClampNeg) - 97)) fun t12 => some t12))).bind fun v6 => lt (sI v6 33 ((v6.1 33) + 1)) fun t7 => lt (sI t7 31 ((t7.1 31) + 1)) fun t8 => some (0, t8)))
noncomputable def f6_word (x0 : Int32) (o_this : ob) : Option (Int32 × ob) :=
  lt (sI o_this 33 0) fun t1 => (wh f6_word_L5 t1).bind fun q2 => (if x0 < (q2.2.1 33) then (some (0, q2.2)) else (some (1, q2.2)))
set_option maxRecDepth 100000 in
set_option maxHeartbeats 4000000 in
theorem c6_word (l : Launch) (D : va_G) (K : Nat → ClassId) (a0 : Nat → Nat) (x0 : Int32) (o_this : ob) (r : Int32 × ob) (hf : f6_word x0 o_this = some r) : CTi l yX6_word cX6_word 2 (some .boolean) 3 62 D K [.ref (a0 0), .int x0] [wX6 K a0 o_this] [wX6 K a0 r.2] r.1 := by
  unfold f6_word at hf
  have hf := tob hf
  refine entI (by decide) (Nat.le_of_ble_eq_true rfl) (fun P e s m args below meth c A ls F h hl hin => ?_)
  have hx := F.1
  have hb := F.2.1
  have hl : lv_has ls 2 [(0, .ref (a0 0)), (1, .int x0)] := hl
  refine lv_aload_n hx hb dX6_word_0 rfl (lv_at hl 0 rfl) ?_
  refine lv_iconst (v := 0) hx hb dX6_word_1 (by decide) ?_
  refine r_put (o1 := sI o_this 33 0) (w := fun t1 => wX6 K a0 t1) (S' := fun t1 => [wX6 K a0 t1]) F h (i := 0) (k := 33) inX6 tyX6_ok nmX6 rfl (by decide) w23 rfl rfl rfl rfl rfl (Nat.le_of_ble_eq_true rfl) rfl (fun _ => rfl) dX6_word_2 (fun t1 e1 H locs h => ?_)
  have hf := ltb hf e1
  obtain ⟨q2, hq2, hf⟩ := asb hf
  obtain ⟨nq2, hq2⟩ := wh_out hq2
  have Xq2_1 : ∀ (z2 : ob) (H : Heap) (locs : List Loc) (ls : Array Slot), q2 = (1, z2) → WD D A s.heap H locs [wX6 K a0 z2] → lv_has ls 2 [(0, .ref (a0 0)), (1, .int x0)] → W P l e (rmS 3 62) s m args below meth c H locs 0 0 (MQ below (QiS D A [wX6 K a0 r.2] r.1) args s 0 0 A) (F0 m 65 ls []) := by
    intro z2 H locs ls eq2 h hl
    obtain rfl : z2 = q2.2 := by rw [eq2]
    refine lv_aload_n hx hb dX6_word_65 rfl (lv_at hl 0 rfl) ?_
    refine r_get F h (i := 0) (k := 33) (.int (q2.2.1 33)) inX6 rfl (by decide) w23 rfl rfl rfl dX6_word_66 ?_
    refine lv_iload_n hx hb dX6_word_69 rfl (lv_at hl 1 rfl) ?_
    refine lv_icmp_gt (tgt := 77) hx hb dX6_word_70 (by decide) (fun c3 => ?_) (fun c3 => ?_)
    · have hf := ifp hf c3
      refine lv_iconst (v := 0) hx hb dX6_word_77 (by decide) ?_
      obtain rfl := sor hf
      exact r_retz F h rfl dX6_word_78
    · have hf := ifn hf c3
      refine lv_iconst (v := 1) hx hb dX6_word_73 (by decide) ?_
      refine lv_goto (tgt := 78) hx hb dX6_word_74 (by decide) ?_
      obtain rfl := sor hf
      exact r_retz F h rfl dX6_word_78
  have Lq2 : ∀ (n : Nat) (z2 : ob) (H : Heap) (locs : List Loc) (ls : Array Slot), iter f6_word_L5 n z2 = some q2 → WD D A s.heap H locs [wX6 K a0 z2] → lv_has ls 2 [(0, .ref (a0 0)), (1, .int x0)] → W P l e (rmS 3 62) s m args below meth c H locs 0 0 (MQ below (QiS D A [wX6 K a0 r.2] r.1) args s 0 0 A) (F0 m 5 ls []) := by
    intro n
    induction n with
    | zero => intro z2 H locs ls hi; exact (iter_0 hi).elim
    | succ n ihq2 =>
      intro z2 H locs ls hi h hl
      obtain ⟨uq2, hf, huq2⟩ := iter_s hi
      unfold f6_word_L5 at hf
      have hf := tob hf
      refine lv_aload_n hx hb dX6_word_5 rfl (lv_at hl 0 rfl) ?_
      obtain ⟨q4, h4, hf⟩ := asb hf
      refine r_callVi (As := []) (rest := []) (C0 := [wX6 K a0 z2]) (C1 := [wX6 K a0 z2]) (Rr := []) (S' := [wX6 K a0 z2]) F h hl (c6_isWordAt l D K a0 z2 q4 h4) [0] rfl rfl rfl rfl rfl (i := 0) rfl rfl w25 ⟨w26, w27, w28, w2⟩ hsc6_isWordAt ⟨Nat.le_of_ble_eq_true rfl, Nat.le_of_ble_eq_true rfl⟩ ⟨Nat.le_refl 0, Nat.le_refl 0⟩ (Nat.le_of_ble_eq_true rfl) dX6_word_6 (fun H locs h => ?_)
      refine lv_if_eq (tgt := 65) hx hb dX6_word_9 (by decide) (fun c5 => ?_) (fun c5 => ?_)
      · have hf := ifp hf c5
        exact Xq2_1 _ _ _ _ (itr_x huq2 (sor hf)) h (lv_sub hl [0, 1] rfl)
      · have hf := ifn hf c5
        refine lv_aload_n hx hb dX6_word_12 rfl (lv_at hl 0 rfl) ?_
        refine r_get F h (i := 0) (k := 33) (.int (z2.1 33)) inX6 rfl (by decide) w23 rfl rfl rfl dX6_word_13 ?_
        refine lv_bipush (v := 6) hx hb dX6_word_16 (by decide) ?_
        obtain ⟨J6, eJ6, hf⟩ := rgn hf
        have JW6 : ∀ (v6 : ob) (H : Heap) (locs : List Loc) (ls : Array Slot), WD D A s.heap H locs [wX6 K a0 v6] → lv_has ls 2 [(0, .ref (a0 0)), (1, .int x0)] → J6 v6 = some uq2 → W P l e (rmS 3 62) s m args below meth c H locs 0 0 (MQ below (QiS D A [wX6 K a0 r.2] r.1) args s 0 0 A) (F0 m 42 ls []) := by
          intro v6 H locs ls h hl hf
          have hf := jof eJ6 hf
          refine lv_aload_n hx hb dX6_word_42 rfl (lv_at hl 0 rfl) ?_
          refine lv_dup hx hb dX6_word_43 rfl ?_
          refine r_get F h (i := 0) (k := 33) (.int (v6.1 33)) inX6 rfl (by decide) w23 rfl rfl rfl dX6_word_44 ?_
          refine lv_iconst (v := 1) hx hb dX6_word_47 (by decide) ?_
          refine lv_iadd hx hb dX6_word_48 ?_
          refine r_put (o1 := sI v6 33 ((v6.1 33) + 1)) (w := fun t7 => wX6 K a0 t7) (S' := fun t7 => [wX6 K a0 t7]) F h (i := 0) (k := 33) inX6 tyX6_ok nmX6 rfl (by decide) w23 rfl rfl rfl rfl rfl (Nat.le_of_ble_eq_true rfl) rfl (fun _ => rfl) dX6_word_49 (fun t7 e7 H locs h => ?_)
          have hf := ltb hf e7
          refine lv_aload_n hx hb dX6_word_52 rfl (lv_at hl 0 rfl) ?_
          refine lv_dup hx hb dX6_word_53 rfl ?_
          refine r_get F h (i := 0) (k := 31) (.int (t7.1 31)) inX6 rfl (by decide) w16 rfl rfl rfl dX6_word_54 ?_
          refine lv_iconst (v := 1) hx hb dX6_word_57 (by decide) ?_
          refine lv_iadd hx hb dX6_word_58 ?_
          refine r_put (o1 := sI t7 31 ((t7.1 31) + 1)) (w := fun t8 => wX6 K a0 t8) (S' := fun t8 => [wX6 K a0 t8]) F h (i := 0) (k := 31) inX6 tyX6_ok nmX6 rfl (by decide) w16 rfl rfl rfl rfl rfl (Nat.le_of_ble_eq_true rfl) rfl (fun _ => rfl) dX6_word_59 (fun t8 e8 H locs h => ?_)
          have hf := ltb hf e8
          refine lv_goto (tgt := 5) hx hb dX6_word_62 (by decide) ?_
          exact ihq2 _ _ _ _ (itr_c huq2 (sor hf)) h (lv_sub hl [0, 1] rfl)
        refine lv_icmp_ge (tgt := 42) hx hb dX6_word_18 (by decide) (fun c9 => ?_) (fun c9 => ?_)
        · have hf := ifp hf c9
          exact JW6 z2 _ _ _ h (lv_sub hl [0, 1] rfl) (sob hf)
        · have hf := ifn hf c9
          refine lv_aload_n hx hb dX6_word_21 rfl (lv_at hl 0 rfl) ?_
          refine r_get F h (i := 0) (k := 34) (.ref (a0 35)) inX6 rfl (by decide) w24 rfl rfl rfl dX6_word_22 ?_
          refine lv_aload_n hx hb dX6_word_25 rfl (lv_at hl 0 rfl) ?_
          refine r_get F h (i := 0) (k := 33) (.int (z2.1 33)) inX6 rfl (by decide) w23 rfl rfl rfl dX6_word_26 ?_
          refine lv_aload_n hx hb dX6_word_29 rfl (lv_at hl 0 rfl) ?_
          refine r_get F h (i := 0) (k := 29) (.ref (a0 30)) inX6 rfl (by decide) w18 rfl rfl rfl dX6_word_30 ?_
          refine lv_aload_n hx hb dX6_word_33 rfl (lv_at hl 0 rfl) ?_
          refine r_get F h (i := 0) (k := 31) (.int (z2.1 31)) inX6 rfl (by decide) w16 rfl rfl rfl dX6_word_34 ?_
          obtain ⟨g10, hf⟩ := gdb hf
          refine r_iald F h (i := 0) (j := 18) rfl rfl (vin_ok g10) dX6_word_37 ?_
          refine lv_bipush (v := 97) hx hb dX6_word_38 (by decide) ?_
          refine lv_isub hx hb dX6_word_40 ?_
          obtain ⟨g11, hf⟩ := gdb hf
          refine r_iast (o1 := sA z2 34 (z2.1 33).toNatClampNeg ((z2.2 29 (z2.1 31).toNatClampNeg) - 97)) (w := fun t12 => wX6 K a0 t12) (S' := fun t12 => [wX6 K a0 t12]) F h (i := 0) (j := 19) rfl rfl (vin_ok g11) rfl (fun _ => rfl) dX6_word_41 (fun t12 e12 H locs h => ?_)
          have hf := ltb hf e12
          exact JW6 t12 _ _ _ h (lv_sub hl [0, 1] rfl) (sob hf)
  exact Lq2 _ _ _ _ _ hq2 h (lv_sub hl [0, 1] rfl)
def f6_wipe (o_this : ob) : Option (Int32 × ob) :=
  lt (o_this.1 30) fun y1 => lt (sI o_this 30 0) fun t2 => some (y1, t2)
set_option maxRecDepth 100000 in
set_option maxHeartbeats 4000000 in
theorem c6_wipe (l : Launch) (D : va_G) (K : Nat → ClassId) (a0 : Nat → Nat) (o_this : ob) (r : Int32 × ob) (hf : f6_wipe o_this = some r) : CTi l yX6_wipe cX6_wipe 2 (some .int) 0 0 D K [.ref (a0 0)] [wX6 K a0 o_this] [wX6 K a0 r.2] r.1 := by
  unfold f6_wipe at hf
  have hf := tob hf
  refine entI (by decide) (Nat.le_of_ble_eq_true rfl) (fun P e s m args below meth c A ls F h hl hin => ?_)
  have hx := F.1
  have hb := F.2.1
  have hl : lv_has ls 2 [(0, .ref (a0 0))] := hl
  refine lv_aload_n hx hb dX6_wipe_0 rfl (lv_at hl 0 rfl) ?_
  refine r_get F h (i := 0) (k := 30) (.int (o_this.1 30)) inX6 rfl (by decide) w17 rfl rfl rfl dX6_wipe_1 ?_
  refine lv_topi (fun y1 e1 => ?_)
  have hf := ltb hf e1
  refine lv_istore_n (lv' := [(1, .int y1), (0, .ref (a0 0))]) hx hb dX6_wipe_4 rfl hl (by decide) rfl (fun ls hl => ?_)
  refine lv_aload_n hx hb dX6_wipe_5 rfl (lv_at hl 1 rfl) ?_
  refine lv_iconst (v := 0) hx hb dX6_wipe_6 (by decide) ?_
  refine r_put (o1 := sI o_this 30 0) (w := fun t2 => wX6 K a0 t2) (S' := fun t2 => [wX6 K a0 t2]) F h (i := 0) (k := 30) inX6 tyX6_ok nmX6 rfl (by decide) w17 rfl rfl rfl rfl rfl (Nat.le_of_ble_eq_true rfl) rfl (fun _ => rfl) dX6_wipe_7 (fun t2 e2 H locs h => ?_)
  have hf := ltb hf e2
  refine lv_iload_n hx hb dX6_wipe_10 rfl (lv_at hl 0 rfl) ?_
  obtain rfl := sor hf
  exact r_reti F h dX6_wipe_11
def f6_write (x0 : Int32) (o_this : ob) : Option (Int32 × ob) :=
  (f6_in x0 32 126).bind fun q1 => (if q1 = 0 then (some ((-1), o_this)) else ((if (o_this.1 30) = 200 then (some ((-3), o_this)) else (gd (vin (o_this.1 30) 200) <| lt (sA o_this 29 (o_this.1 30).toNatClampNeg x0) fun t5 => lt (sI t5 30 ((t5.1 30) + 1)) fun t6 => some (t6.1 30, t6)))))
set_option maxRecDepth 100000 in
set_option maxHeartbeats 4000000 in
theorem c6_write (l : Launch) (D : va_G) (K : Nat → ClassId) (a0 : Nat → Nat) (x0 : Int32) (o_this : ob) (r : Int32 × ob) (hf : f6_write x0 o_this = some r) : CTi l yX6_write cX6_write 2 (some .int) 1 22 D K [.ref (a0 0), .int x0] [wX6 K a0 o_this] [wX6 K a0 r.2] r.1 := by
  unfold f6_write at hf
  have hf := tob hf
  refine entI (by decide) (Nat.le_of_ble_eq_true rfl) (fun P e s m args below meth c A ls F h hl hin => ?_)
  have hx := F.1
  have hb := F.2.1
  have hl : lv_has ls 2 [(0, .ref (a0 0)), (1, .int x0)] := hl
  refine lv_iload_n hx hb dX6_write_0 rfl (lv_at hl 1 rfl) ?_
  refine lv_bipush (v := 32) hx hb dX6_write_1 (by decide) ?_
  refine lv_bipush (v := 126) hx hb dX6_write_3 (by decide) ?_
  obtain ⟨q1, h1, hf⟩ := asb hf
  refine r_callS (As := [.int x0, .int 32, .int 126]) (rest := []) F h hl (c6_in l D K x0 32 126 q1 h1) w3 ⟨w0, w1, w2⟩ hsc6_in ⟨Nat.le_of_ble_eq_true rfl, Nat.le_of_ble_eq_true rfl⟩ ⟨Nat.le_refl 0, Nat.le_refl 0⟩ (Nat.le_of_ble_eq_true rfl) dX6_write_5 (fun H locs h => ?_)
  refine lv_if_ne (tgt := 13) hx hb dX6_write_8 (by decide) (fun c2 => ?_) (fun c2 => ?_)
  · have hf := ifn hf c2
    refine lv_aload_n hx hb dX6_write_13 rfl (lv_at hl 0 rfl) ?_
    refine r_get F h (i := 0) (k := 30) (.int (o_this.1 30)) inX6 rfl (by decide) w17 rfl rfl rfl dX6_write_14 ?_
    refine lv_sipush (v := 200) hx hb dX6_write_17 (by decide) ?_
    refine lv_icmp_ne (tgt := 26) hx hb dX6_write_20 (by decide) (fun c3 => ?_) (fun c3 => ?_)
    · have hf := ifn hf c3
      refine lv_aload_n hx hb dX6_write_26 rfl (lv_at hl 0 rfl) ?_
      refine r_get F h (i := 0) (k := 29) (.ref (a0 30)) inX6 rfl (by decide) w18 rfl rfl rfl dX6_write_27 ?_
      refine lv_aload_n hx hb dX6_write_30 rfl (lv_at hl 0 rfl) ?_
      refine r_get F h (i := 0) (k := 30) (.int (o_this.1 30)) inX6 rfl (by decide) w17 rfl rfl rfl dX6_write_31 ?_
      refine lv_iload_n hx hb dX6_write_34 rfl (lv_at hl 1 rfl) ?_
      obtain ⟨g4, hf⟩ := gdb hf
      refine r_iast (o1 := sA o_this 29 (o_this.1 30).toNatClampNeg x0) (w := fun t5 => wX6 K a0 t5) (S' := fun t5 => [wX6 K a0 t5]) F h (i := 0) (j := 18) rfl rfl (vin_ok g4) rfl (fun _ => rfl) dX6_write_35 (fun t5 e5 H locs h => ?_)
      have hf := ltb hf e5
      refine lv_aload_n hx hb dX6_write_36 rfl (lv_at hl 0 rfl) ?_
      refine lv_dup hx hb dX6_write_37 rfl ?_
      refine r_get F h (i := 0) (k := 30) (.int (t5.1 30)) inX6 rfl (by decide) w17 rfl rfl rfl dX6_write_38 ?_
      refine lv_iconst (v := 1) hx hb dX6_write_41 (by decide) ?_
      refine lv_iadd hx hb dX6_write_42 ?_
      refine r_put (o1 := sI t5 30 ((t5.1 30) + 1)) (w := fun t6 => wX6 K a0 t6) (S' := fun t6 => [wX6 K a0 t6]) F h (i := 0) (k := 30) inX6 tyX6_ok nmX6 rfl (by decide) w17 rfl rfl rfl rfl rfl (Nat.le_of_ble_eq_true rfl) rfl (fun _ => rfl) dX6_write_43 (fun t6 e6 H locs h => ?_)
      have hf := ltb hf e6
      refine lv_aload_n hx hb dX6_write_46 rfl (lv_at hl 0 rfl) ?_
      refine r_get F h (i := 0) (k := 30) (.int (t6.1 30)) inX6 rfl (by decide) w17 rfl rfl rfl dX6_write_47 ?_
      obtain rfl := sor hf
      exact r_reti F h dX6_write_50
    · have hf := ifp hf c3
      refine lv_bipush (v := (-3)) hx hb dX6_write_23 (by decide) ?_
      obtain rfl := sor hf
      exact r_reti F h dX6_write_25
  · have hf := ifp hf c2
    refine lv_iconst (v := (-1)) hx hb dX6_write_11 (by decide) ?_
    obtain rfl := sor hf
    exact r_reti F h dX6_write_12
def f6_count (x0 : Int32) (o_this : ob) : Option (Int32) :=
  (if x0 = 0 then (some (o_this.1 0)) else (if x0 = 1 then (some (o_this.1 1)) else (if x0 = 2 then (some (o_this.1 3)) else (if x0 = 3 then (some (o_this.1 8)) else (if x0 = 4 then (some (o_this.1 9)) else (if x0 = 5 then (some (o_this.1 11)) else (if x0 = 6 then (some (o_this.1 30)) else (some (-1)))))))))
set_option maxRecDepth 100000 in
set_option maxHeartbeats 4000000 in
theorem c6_count (l : Launch) (D : va_G) (K : Nat → ClassId) (a0 : Nat → Nat) (x0 : Int32) (o_this : ob) (r : Int32) (hf : f6_count x0 o_this = some r) : CTi l yX6_count cX6_count 2 (some .int) 0 0 D K [.ref (a0 0), .int x0] [wX6 K a0 o_this] [wX6 K a0 o_this] r := by
  unfold f6_count at hf
  have hf := tob hf
  refine entI (by decide) (Nat.le_of_ble_eq_true rfl) (fun P e s m args below meth c A ls F h hl hin => ?_)
  have hx := F.1
  have hb := F.2.1
  have hl : lv_has ls 2 [(0, .ref (a0 0)), (1, .int x0)] := hl
  refine lv_iload_n hx hb dX6_count_0 rfl (lv_at hl 1 rfl) ?_
  by_cases c1_0 : x0 = 0
  · have hf := ifp hf c1_0
    refine lv_tableIn (tgt := 44) hx hb dX6_count_1 (by rw [c1_0]; decide) (by rw [c1_0]; decide) (by rw [c1_0]; rfl) (by decide) ?_
    refine lv_aload_n hx hb dX6_count_44 rfl (lv_at hl 0 rfl) ?_
    refine r_get F h (i := 0) (k := 0) (.int (o_this.1 0)) inX6 rfl (by decide) w5 rfl rfl rfl dX6_count_45 ?_
    obtain rfl := sor hf
    exact r_reti F h dX6_count_48
  have hf := ifn hf c1_0
  by_cases c1_1 : x0 = 1
  · have hf := ifp hf c1_1
    refine lv_tableIn (tgt := 49) hx hb dX6_count_1 (by rw [c1_1]; decide) (by rw [c1_1]; decide) (by rw [c1_1]; rfl) (by decide) ?_
    refine lv_aload_n hx hb dX6_count_49 rfl (lv_at hl 0 rfl) ?_
    refine r_get F h (i := 0) (k := 1) (.int (o_this.1 1)) inX6 rfl (by decide) w4 rfl rfl rfl dX6_count_50 ?_
    obtain rfl := sor hf
    exact r_reti F h dX6_count_53
  have hf := ifn hf c1_1
  by_cases c1_2 : x0 = 2
  · have hf := ifp hf c1_2
    refine lv_tableIn (tgt := 54) hx hb dX6_count_1 (by rw [c1_2]; decide) (by rw [c1_2]; decide) (by rw [c1_2]; rfl) (by decide) ?_
    refine lv_aload_n hx hb dX6_count_54 rfl (lv_at hl 0 rfl) ?_
    refine r_get F h (i := 0) (k := 3) (.int (o_this.1 3)) inX6 rfl (by decide) w11 rfl rfl rfl dX6_count_55 ?_
    obtain rfl := sor hf
    exact r_reti F h dX6_count_58
  have hf := ifn hf c1_2
  by_cases c1_3 : x0 = 3
  · have hf := ifp hf c1_3
    refine lv_tableIn (tgt := 59) hx hb dX6_count_1 (by rw [c1_3]; decide) (by rw [c1_3]; decide) (by rw [c1_3]; rfl) (by decide) ?_
    refine lv_aload_n hx hb dX6_count_59 rfl (lv_at hl 0 rfl) ?_
    refine r_get F h (i := 0) (k := 8) (.int (o_this.1 8)) inX6 rfl (by decide) w29 rfl rfl rfl dX6_count_60 ?_
    obtain rfl := sor hf
    exact r_reti F h dX6_count_63
  have hf := ifn hf c1_3
  by_cases c1_4 : x0 = 4
  · have hf := ifp hf c1_4
    refine lv_tableIn (tgt := 64) hx hb dX6_count_1 (by rw [c1_4]; decide) (by rw [c1_4]; decide) (by rw [c1_4]; rfl) (by decide) ?_
    refine lv_aload_n hx hb dX6_count_64 rfl (lv_at hl 0 rfl) ?_
    refine r_get F h (i := 0) (k := 9) (.int (o_this.1 9)) inX6 rfl (by decide) w30 rfl rfl rfl dX6_count_65 ?_
    obtain rfl := sor hf
    exact r_reti F h dX6_count_68
  have hf := ifn hf c1_4
  by_cases c1_5 : x0 = 5
  · have hf := ifp hf c1_5
    refine lv_tableIn (tgt := 69) hx hb dX6_count_1 (by rw [c1_5]; decide) (by rw [c1_5]; decide) (by rw [c1_5]; rfl) (by decide) ?_
    refine lv_aload_n hx hb dX6_count_69 rfl (lv_at hl 0 rfl) ?_
    refine r_get F h (i := 0) (k := 11) (.int (o_this.1 11)) inX6 rfl (by decide) w31 rfl rfl rfl dX6_count_70 ?_
    obtain rfl := sor hf
    exact r_reti F h dX6_count_73
  have hf := ifn hf c1_5
  by_cases c1_6 : x0 = 6
  · have hf := ifp hf c1_6
    refine lv_tableIn (tgt := 74) hx hb dX6_count_1 (by rw [c1_6]; decide) (by rw [c1_6]; decide) (by rw [c1_6]; rfl) (by decide) ?_
    refine lv_aload_n hx hb dX6_count_74 rfl (lv_at hl 0 rfl) ?_
    refine r_get F h (i := 0) (k := 30) (.int (o_this.1 30)) inX6 rfl (by decide) w17 rfl rfl rfl dX6_count_75 ?_
    obtain rfl := sor hf
    exact r_reti F h dX6_count_78
  have hf := ifn hf c1_6
  refine lv_tableOut (tgt := 79) hx hb dX6_count_1 (tab_out_0_6 c1_0 c1_1 c1_2 c1_3 c1_4 c1_5 c1_6) (by decide) ?_
  refine lv_iconst (v := (-1)) hx hb dX6_count_79 (by decide) ?_
  obtain rfl := sor hf
  exact r_reti F h dX6_count_80
