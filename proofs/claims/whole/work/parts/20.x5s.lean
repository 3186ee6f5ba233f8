def f5_lettersIn (x0 : Int32) : Option (Int32) :=
  (if x0 = 0 then (some 0) else ((if 4 < x0 then (some 2) else (some 1))))
set_option maxRecDepth 100000 in
set_option maxHeartbeats 4000000 in
theorem c5_lettersIn (l : Launch) (D : va_G) (K : Nat → ClassId) (x0 : Int32) (r : Int32) (hf : f5_lettersIn x0 = some r) : CTi l yX5_lettersIn cX5_lettersIn 1 (some .int) 0 0 D K [.int x0] [] [] r := by
  unfold f5_lettersIn at hf
  have hf := tob hf
  refine entI (by decide) (Nat.le_of_ble_eq_true rfl) (fun P e s m args below meth c A ls F h hl hin => ?_)
  have hx := F.1
  have hb := F.2.1
  have hl : lv_has ls 1 [(0, .int x0)] := hl
  refine lv_iload_n hx hb dX5_lettersIn_0 rfl (lv_at hl 0 rfl) ?_
  refine lv_if_ne (tgt := 6) hx hb dX5_lettersIn_1 (by decide) (fun c1 => ?_) (fun c1 => ?_)
  · have hf := ifn hf c1
    refine lv_iload_n hx hb dX5_lettersIn_6 rfl (lv_at hl 0 rfl) ?_
    refine lv_iconst (v := 4) hx hb dX5_lettersIn_7 (by decide) ?_
    refine lv_icmp_gt (tgt := 15) hx hb dX5_lettersIn_8 (by decide) (fun c2 => ?_) (fun c2 => ?_)
    · have hf := ifp hf c2
      refine lv_iconst (v := 2) hx hb dX5_lettersIn_15 (by decide) ?_
      obtain rfl := sor hf
      exact r_reti F h dX5_lettersIn_16
    · have hf := ifn hf c2
      refine lv_iconst (v := 1) hx hb dX5_lettersIn_11 (by decide) ?_
      refine lv_goto (tgt := 16) hx hb dX5_lettersIn_12 (by decide) ?_
      obtain rfl := sor hf
      exact r_reti F h dX5_lettersIn_16
  · have hf := ifp hf c1
    refine lv_iconst (v := 0) hx hb dX5_lettersIn_4 (by decide) ?_
    obtain rfl := sor hf
    exact r_reti F h dX5_lettersIn_5
def f5_firstLetter (x0 : Int32) : Option (Int32) :=
  (if x0 = 0 then (some (-4)) else ((if 4 < x0 then (some (((x0 - 1) - 4) / 4)) else (some (x0 - 1)))))
set_option maxRecDepth 100000 in
set_option maxHeartbeats 4000000 in
theorem c5_firstLetter (l : Launch) (D : va_G) (K : Nat → ClassId) (x0 : Int32) (r : Int32) (hf : f5_firstLetter x0 = some r) : CTi l yX5_firstLetter cX5_firstLetter 1 (some .int) 0 0 D K [.int x0] [] [] r := by
  unfold f5_firstLetter at hf
  have hf := tob hf
  refine entI (by decide) (Nat.le_of_ble_eq_true rfl) (fun P e s m args below meth c A ls F h hl hin => ?_)
  have hx := F.1
  have hb := F.2.1
  have hl : lv_has ls 1 [(0, .int x0)] := hl
  refine lv_iload_n hx hb dX5_firstLetter_0 rfl (lv_at hl 0 rfl) ?_
  refine lv_if_ne (tgt := 7) hx hb dX5_firstLetter_1 (by decide) (fun c1 => ?_) (fun c1 => ?_)
  · have hf := ifn hf c1
    refine lv_iload_n hx hb dX5_firstLetter_7 rfl (lv_at hl 0 rfl) ?_
    refine lv_iconst (v := 4) hx hb dX5_firstLetter_8 (by decide) ?_
    refine lv_icmp_gt (tgt := 18) hx hb dX5_firstLetter_9 (by decide) (fun c2 => ?_) (fun c2 => ?_)
    · have hf := ifp hf c2
      refine lv_iload_n hx hb dX5_firstLetter_18 rfl (lv_at hl 0 rfl) ?_
      refine lv_iconst (v := 1) hx hb dX5_firstLetter_19 (by decide) ?_
      refine lv_isub hx hb dX5_firstLetter_20 ?_
      refine lv_iconst (v := 4) hx hb dX5_firstLetter_21 (by decide) ?_
      refine lv_isub hx hb dX5_firstLetter_22 ?_
      refine lv_iconst (v := 4) hx hb dX5_firstLetter_23 (by decide) ?_
      refine lv_idiv hx hb dX5_firstLetter_24 (by decide) ?_
      obtain rfl := sor hf
      exact r_reti F h dX5_firstLetter_25
    · have hf := ifn hf c2
      refine lv_iload_n hx hb dX5_firstLetter_12 rfl (lv_at hl 0 rfl) ?_
      refine lv_iconst (v := 1) hx hb dX5_firstLetter_13 (by decide) ?_
      refine lv_isub hx hb dX5_firstLetter_14 ?_
      refine lv_goto (tgt := 25) hx hb dX5_firstLetter_15 (by decide) ?_
      obtain rfl := sor hf
      exact r_reti F h dX5_firstLetter_25
  · have hf := ifp hf c1
    refine lv_bipush (v := (-4)) hx hb dX5_firstLetter_4 (by decide) ?_
    obtain rfl := sor hf
    exact r_reti F h dX5_firstLetter_6
def f5_secondLetter (x0 : Int32) : Option (Int32) :=
  (if 4 < x0 then (some (((x0 - 1) - 4) - ((x0 - 1) - 4) / 4 * 4)) else (some (-4)))
set_option maxRecDepth 100000 in
set_option maxHeartbeats 4000000 in
theorem c5_secondLetter (l : Launch) (D : va_G) (K : Nat → ClassId) (x0 : Int32) (r : Int32) (hf : f5_secondLetter x0 = some r) : CTi l yX5_secondLetter cX5_secondLetter 1 (some .int) 0 0 D K [.int x0] [] [] r := by
  unfold f5_secondLetter at hf
  have hf := tob hf
  refine entI (by decide) (Nat.le_of_ble_eq_true rfl) (fun P e s m args below meth c A ls F h hl hin => ?_)
  have hx := F.1
  have hb := F.2.1
  have hl : lv_has ls 1 [(0, .int x0)] := hl
  refine lv_iload_n hx hb dX5_secondLetter_0 rfl (lv_at hl 0 rfl) ?_
  refine lv_iconst (v := 4) hx hb dX5_secondLetter_1 (by decide) ?_
  refine lv_icmp_gt (tgt := 10) hx hb dX5_secondLetter_2 (by decide) (fun c1 => ?_) (fun c1 => ?_)
  · have hf := ifp hf c1
    refine lv_iload_n hx hb dX5_secondLetter_10 rfl (lv_at hl 0 rfl) ?_
    refine lv_iconst (v := 1) hx hb dX5_secondLetter_11 (by decide) ?_
    refine lv_isub hx hb dX5_secondLetter_12 ?_
    refine lv_iconst (v := 4) hx hb dX5_secondLetter_13 (by decide) ?_
    refine lv_isub hx hb dX5_secondLetter_14 ?_
    refine lv_iconst (v := 4) hx hb dX5_secondLetter_15 (by decide) ?_
    refine lv_irem hx hb dX5_secondLetter_16 (by decide) ?_
    obtain rfl := sor hf
    exact r_reti F h dX5_secondLetter_17
  · have hf := ifn hf c1
    refine lv_bipush (v := (-4)) hx hb dX5_secondLetter_5 (by decide) ?_
    refine lv_goto (tgt := 17) hx hb dX5_secondLetter_7 (by decide) ?_
    obtain rfl := sor hf
    exact r_reti F h dX5_secondLetter_17
def f5_edgeAt (x0 : Int32) (x1 : Int32) (x2 : Int32) : Option (Int32) :=
  some ((((x0 * 4) + x1) * 13) + x2)
set_option maxRecDepth 100000 in
set_option maxHeartbeats 4000000 in
theorem c5_edgeAt (l : Launch) (D : va_G) (K : Nat → ClassId) (x0 : Int32) (x1 : Int32) (x2 : Int32) (r : Int32) (hf : f5_edgeAt x0 x1 x2 = some r) : CTi l yX5_edgeAt cX5_edgeAt 3 (some .int) 0 0 D K [.int x0, .int x1, .int x2] [] [] r := by
  unfold f5_edgeAt at hf
  have hf := tob hf
  refine entI (by decide) (Nat.le_of_ble_eq_true rfl) (fun P e s m args below meth c A ls F h hl hin => ?_)
  have hx := F.1
  have hb := F.2.1
  have hl : lv_has ls 3 [(0, .int x0), (1, .int x1), (2, .int x2)] := hl
  refine lv_iload_n hx hb dX5_edgeAt_0 rfl (lv_at hl 0 rfl) ?_
  refine lv_iconst (v := 4) hx hb dX5_edgeAt_1 (by decide) ?_
  refine lv_imul hx hb dX5_edgeAt_2 ?_
  refine lv_iload_n hx hb dX5_edgeAt_3 rfl (lv_at hl 1 rfl) ?_
  refine lv_iadd hx hb dX5_edgeAt_4 ?_
  refine lv_bipush (v := 13) hx hb dX5_edgeAt_5 (by decide) ?_
  refine lv_imul hx hb dX5_edgeAt_7 ?_
  refine lv_iload_n hx hb dX5_edgeAt_8 rfl (lv_at hl 2 rfl) ?_
  refine lv_iadd hx hb dX5_edgeAt_9 ?_
  obtain rfl := sor hf
  exact r_reti F h dX5_edgeAt_10
def f5_wordOf (x0 : Int32) (x1 : Int32) : Option (Int32) :=
  some ((5 + (4 * x0)) + x1)
set_option maxRecDepth 100000 in
set_option maxHeartbeats 4000000 in
theorem c5_wordOf (l : Launch) (D : va_G) (K : Nat → ClassId) (x0 : Int32) (x1 : Int32) (r : Int32) (hf : f5_wordOf x0 x1 = some r) : CTi l yX5_wordOf cX5_wordOf 2 (some .int) 0 0 D K [.int x0, .int x1] [] [] r := by
  unfold f5_wordOf at hf
  have hf := tob hf
  refine entI (by decide) (Nat.le_of_ble_eq_true rfl) (fun P e s m args below meth c A ls F h hl hin => ?_)
  have hx := F.1
  have hb := F.2.1
  have hl : lv_has ls 2 [(0, .int x0), (1, .int x1)] := hl
  refine lv_iconst (v := 5) hx hb dX5_wordOf_0 (by decide) ?_
  refine lv_iconst (v := 4) hx hb dX5_wordOf_1 (by decide) ?_
  refine lv_iload_n hx hb dX5_wordOf_2 rfl (lv_at hl 0 rfl) ?_
  refine lv_imul hx hb dX5_wordOf_3 ?_
  refine lv_iadd hx hb dX5_wordOf_4 ?_
  refine lv_iload_n hx hb dX5_wordOf_5 rfl (lv_at hl 1 rfl) ?_
  refine lv_iadd hx hb dX5_wordOf_6 ?_
  obtain rfl := sor hf
  exact r_reti F h dX5_wordOf_7
def f5_isLetter (x0 : Int32) : Option (Int32) :=
  (if x0 < 0 then (some 0) else ((if 4 ≤ x0 then (some 0) else (some 1))))
set_option maxRecDepth 100000 in
set_option maxHeartbeats 4000000 in
theorem c5_isLetter (l : Launch) (D : va_G) (K : Nat → ClassId) (x0 : Int32) (r : Int32) (hf : f5_isLetter x0 = some r) : CTi l yX5_isLetter cX5_isLetter 1 (some .boolean) 0 0 D K [.int x0] [] [] r := by
  unfold f5_isLetter at hf
  have hf := tob hf
  refine entI (by decide) (Nat.le_of_ble_eq_true rfl) (fun P e s m args below meth c A ls F h hl hin => ?_)
  have hx := F.1
  have hb := F.2.1
  have hl : lv_has ls 1 [(0, .int x0)] := hl
  refine lv_iload_n hx hb dX5_isLetter_0 rfl (lv_at hl 0 rfl) ?_
  refine lv_if_lt (tgt := 13) hx hb dX5_isLetter_1 (by decide) (fun c1 => ?_) (fun c1 => ?_)
  · have hf := ifp hf c1
    refine lv_iconst (v := 0) hx hb dX5_isLetter_13 (by decide) ?_
    obtain rfl := sor hf
    exact r_retz F h rfl dX5_isLetter_14
  · have hf := ifn hf c1
    refine lv_iload_n hx hb dX5_isLetter_4 rfl (lv_at hl 0 rfl) ?_
    refine lv_iconst (v := 4) hx hb dX5_isLetter_5 (by decide) ?_
    refine lv_icmp_ge (tgt := 13) hx hb dX5_isLetter_6 (by decide) (fun c2 => ?_) (fun c2 => ?_)
    · have hf := ifp hf c2
      refine lv_iconst (v := 0) hx hb dX5_isLetter_13 (by decide) ?_
      obtain rfl := sor hf
      exact r_retz F h rfl dX5_isLetter_14
    · have hf := ifn hf c2
      refine lv_iconst (v := 1) hx hb dX5_isLetter_9 (by decide) ?_
      refine lv_goto (tgt := 14) hx hb dX5_isLetter_10 (by decide) ?_
      obtain rfl := sor hf
      exact r_retz F h rfl dX5_isLetter_14
def f5_isCost (x0 : Int32) : Option (Int32) :=
  (if x0 < 0 then (some 0) else ((if 9 < x0 then (some 0) else (some 1))))
set_option maxRecDepth 100000 in
set_option maxHeartbeats 4000000 in
theorem c5_isCost (l : Launch) (D : va_G) (K : Nat → ClassId) (x0 : Int32) (r : Int32) (hf : f5_isCost x0 = some r) : CTi l yX5_isCost cX5_isCost 1 (some .boolean) 0 0 D K [.int x0] [] [] r := by
  unfold f5_isCost at hf
  have hf := tob hf
  refine entI (by decide) (Nat.le_of_ble_eq_true rfl) (fun P e s m args below meth c A ls F h hl hin => ?_)
  have hx := F.1
  have hb := F.2.1
  have hl : lv_has ls 1 [(0, .int x0)] := hl
  refine lv_iload_n hx hb dX5_isCost_0 rfl (lv_at hl 0 rfl) ?_
  refine lv_if_lt (tgt := 14) hx hb dX5_isCost_1 (by decide) (fun c1 => ?_) (fun c1 => ?_)
  · have hf := ifp hf c1
    refine lv_iconst (v := 0) hx hb dX5_isCost_14 (by decide) ?_
    obtain rfl := sor hf
    exact r_retz F h rfl dX5_isCost_15
  · have hf := ifn hf c1
    refine lv_iload_n hx hb dX5_isCost_4 rfl (lv_at hl 0 rfl) ?_
    refine lv_bipush (v := 9) hx hb dX5_isCost_5 (by decide) ?_
    refine lv_icmp_gt (tgt := 14) hx hb dX5_isCost_7 (by decide) (fun c2 => ?_) (fun c2 => ?_)
    · have hf := ifp hf c2
      refine lv_iconst (v := 0) hx hb dX5_isCost_14 (by decide) ?_
      obtain rfl := sor hf
      exact r_retz F h rfl dX5_isCost_15
    · have hf := ifn hf c2
      refine lv_iconst (v := 1) hx hb dX5_isCost_10 (by decide) ?_
      refine lv_goto (tgt := 15) hx hb dX5_isCost_11 (by decide) ?_
      obtain rfl := sor hf
      exact r_retz F h rfl dX5_isCost_15
def f5_drawn (x0 : Int32) (x1 : Int32) : Option (Int32) :=
  some (((((((7919 * (x0.toInt64)) + (6151 * (x1.toInt64))) + 1) * (((7919 * (x0.toInt64)) + (6151 * (x1.toInt64))) + 1)) - ((((7919 * (x0.toInt64)) + (6151 * (x1.toInt64))) + 1) * (((7919 * (x0.toInt64)) + (6151 * (x1.toInt64))) + 1)) / 65521 * 65521).toInt32) / 4)
set_option maxRecDepth 100000 in
set_option maxHeartbeats 4000000 in
theorem c5_drawn (l : Launch) (D : va_G) (K : Nat → ClassId) (x0 : Int32) (x1 : Int32) (r : Int32) (hf : f5_drawn x0 x1 = some r) : CTi l yX5_drawn cX5_drawn 4 (some .int) 0 0 D K [.int x0, .int x1] [] [] r := by
  unfold f5_drawn at hf
  have hf := tob hf
  refine entI (by decide) (Nat.le_of_ble_eq_true rfl) (fun P e s m args below meth c A ls F h hl hin => ?_)
  have hx := F.1
  have hb := F.2.1
  have hl : lv_has ls 4 [(0, .int x0), (1, .int x1)] := hl
  refine r_ldc2 F 7919 w242 dX5_drawn_0 ?_
  refine lv_iload_n hx hb dX5_drawn_3 rfl (lv_at hl 0 rfl) ?_
  refine lv_i2l hx hb dX5_drawn_4 rfl ?_
  refine lv_lmul hx hb dX5_drawn_5 ?_
  refine r_ldc2 F 6151 w243 dX5_drawn_6 ?_
  refine lv_iload_n hx hb dX5_drawn_9 rfl (lv_at hl 1 rfl) ?_
  refine lv_i2l hx hb dX5_drawn_10 rfl ?_
  refine lv_lmul hx hb dX5_drawn_11 ?_
  refine lv_ladd hx hb dX5_drawn_12 ?_
  refine lv_lconst (v := 1) hx hb dX5_drawn_13 (by decide) ?_
  refine lv_ladd hx hb dX5_drawn_14 ?_
  refine lv_lstore_n (lv' := [(2, .long (((7919 * (x0.toInt64)) + (6151 * (x1.toInt64))) + 1)), (0, .int x0), (1, .int x1)]) hx hb dX5_drawn_15 rfl hl (by decide) rfl (fun ls hl => ?_)
  refine lv_lload_n hx hb dX5_drawn_16 rfl (lv_at hl 0 rfl) ?_
  refine lv_lload_n hx hb dX5_drawn_17 rfl (lv_at hl 0 rfl) ?_
  refine lv_lmul hx hb dX5_drawn_18 ?_
  refine r_ldc2 F 65521 w244 dX5_drawn_19 ?_
  refine lv_lrem hx hb dX5_drawn_22 (by decide) ?_
  refine lv_l2i hx hb dX5_drawn_23 rfl ?_
  refine lv_iconst (v := 4) hx hb dX5_drawn_24 (by decide) ?_
  refine lv_idiv hx hb dX5_drawn_25 (by decide) ?_
  obtain rfl := sor hf
  exact r_reti F h dX5_drawn_26
