def f1_hasHead (x0 : Int32) (x1 : Int32) (o_this : ob) : Option (Int32) :=
  (if (((o_this.1 1) >>> (((x0 * 4) + x1) &&& 31)) &&& 1) = 1 then (some 1) else (some 0))
set_option maxRecDepth 100000 in
set_option maxHeartbeats 4000000 in
theorem c1_hasHead (l : Launch) (D : va_G) (K : Nat → ClassId) (a0 : Nat → Nat) (x0 : Int32) (x1 : Int32) (o_this : ob) (r : Int32) (hf : f1_hasHead x0 x1 o_this = some r) : CTi l yX1_hasHead cX1_hasHead 3 (some .boolean) 0 0 D K [.ref (a0 0), .int x0, .int x1] [wX1 K a0 o_this] [wX1 K a0 o_this] r := by
  unfold f1_hasHead at hf
  have hf := tob hf
  refine entI (by decide) (Nat.le_of_ble_eq_true rfl) (fun P e s m args below meth c A ls F h hl hin => ?_)
  have hx := F.1
  have hb := F.2.1
  have hl : lv_has ls 3 [(0, .ref (a0 0)), (1, .int x0), (2, .int x1)] := hl
  refine lv_aload_n hx hb dX1_hasHead_0 rfl (lv_at hl 0 rfl) ?_
  refine r_get F h (i := 0) (k := 1) (.int (o_this.1 1)) inX1 rfl (by decide) w474 rfl rfl rfl dX1_hasHead_1 ?_
  refine lv_iload_n hx hb dX1_hasHead_4 rfl (lv_at hl 1 rfl) ?_
  refine lv_iconst (v := 4) hx hb dX1_hasHead_5 (by decide) ?_
  refine lv_imul hx hb dX1_hasHead_6 ?_
  refine lv_iload_n hx hb dX1_hasHead_7 rfl (lv_at hl 2 rfl) ?_
  refine lv_iadd hx hb dX1_hasHead_8 ?_
  refine lv_ishr hx hb dX1_hasHead_9 ?_
  refine lv_iconst (v := 1) hx hb dX1_hasHead_10 (by decide) ?_
  refine lv_iand hx hb dX1_hasHead_11 ?_
  refine lv_iconst (v := 1) hx hb dX1_hasHead_12 (by decide) ?_
  refine lv_icmp_ne (tgt := 20) hx hb dX1_hasHead_13 (by decide) (fun c1 => ?_) (fun c1 => ?_)
  · have hf := ifn hf c1
    refine lv_iconst (v := 0) hx hb dX1_hasHead_20 (by decide) ?_
    obtain rfl := sor hf
    exact r_retz F h rfl dX1_hasHead_21
  · have hf := ifp hf c1
    refine lv_iconst (v := 1) hx hb dX1_hasHead_16 (by decide) ?_
    refine lv_goto (tgt := 21) hx hb dX1_hasHead_17 (by decide) ?_
    obtain rfl := sor hf
    exact r_retz F h rfl dX1_hasHead_21
def f1_headsOf_L4 (g0 : Int32) (g1 : Int32) (z1 : Int32 × Int32) : Option (Nat × (Int32 × Int32)) :=
  (if 3 ≤ z1.2 then (some (1, (z1.1, z1.2))) else (((if ((g0 >>> (z1.2 &&& 31)) &&& 1) = 1 then (lt (z1.1 ||| (1 <<< (((z1.2 * 4) + g1) &&& 31))) fun y6 => some y6) else (some z1.1))).bind fun v3 => lt (z1.2 + 1) fun y4 => some (0, (v3, y4))))
noncomputable def f1_headsOf (x0 : Int32) (x1 : Int32) : Option (Int32) :=
  (wh (f1_headsOf_L4 x0 x1) (0, 0)).bind fun q1 => some q1.2.1
set_option maxRecDepth 100000 in
set_option maxHeartbeats 4000000 in
theorem c1_headsOf (l : Launch) (D : va_G) (K : Nat → ClassId) (x0 : Int32) (x1 : Int32) (r : Int32) (hf : f1_headsOf x0 x1 = some r) : CTi l yX1_headsOf cX1_headsOf 4 (some .int) 0 0 D K [.int x0, .int x1] [] [] r := by
  unfold f1_headsOf at hf
  have hf := tob hf
  refine entI (by decide) (Nat.le_of_ble_eq_true rfl) (fun P e s m args below meth c A ls F h hl hin => ?_)
  have hx := F.1
  have hb := F.2.1
  have hl : lv_has ls 4 [(0, .int x0), (1, .int x1)] := hl
  refine lv_iconst (v := 0) hx hb dX1_headsOf_0 (by decide) ?_
  refine lv_istore_n (lv' := [(2, .int 0), (0, .int x0), (1, .int x1)]) hx hb dX1_headsOf_1 rfl hl (by decide) rfl (fun ls hl => ?_)
  refine lv_iconst (v := 0) hx hb dX1_headsOf_2 (by decide) ?_
  refine lv_istore_n (lv' := [(3, .int 0), (2, .int 0), (0, .int x0), (1, .int x1)]) hx hb dX1_headsOf_3 rfl hl (by decide) rfl (fun ls hl => ?_)
  obtain ⟨q1, hq1, hf⟩ := asb hf
  obtain ⟨nq1, hq1⟩ := wh_out hq1
  have Xq1_1 : ∀ (z1 : Int32 × Int32) (H : Heap) (locs : List Loc) (ls : Array Slot), q1 = (1, z1) → WD D A s.heap H locs [] → lv_has ls 4 [(2, .int z1.1)] → W P l e (rmS 0 0) s m args below meth c H locs 0 0 (MQ below (QiS D A [] r) args s 0 0 A) (F0 m 34 ls []) := by
    intro z1 H locs ls eq1 h hl
    obtain rfl : z1 = q1.2 := by rw [eq1]
    refine lv_iload_n hx hb dX1_headsOf_34 rfl (lv_at hl 0 rfl) ?_
    obtain rfl := sor hf
    exact r_reti F h dX1_headsOf_35
  have Lq1 : ∀ (n : Nat) (z1 : Int32 × Int32) (H : Heap) (locs : List Loc) (ls : Array Slot), iter (f1_headsOf_L4 x0 x1) n z1 = some q1 → WD D A s.heap H locs [] → lv_has ls 4 [(0, .int x0), (1, .int x1), (2, .int z1.1), (3, .int z1.2)] → W P l e (rmS 0 0) s m args below meth c H locs 0 0 (MQ below (QiS D A [] r) args s 0 0 A) (F0 m 4 ls []) := by
    intro n
    induction n with
    | zero => intro z1 H locs ls hi; exact (iter_0 hi).elim
    | succ n ihq1 =>
      intro z1 H locs ls hi h hl
      obtain ⟨uq1, hf, huq1⟩ := iter_s hi
      unfold f1_headsOf_L4 at hf
      have hf := tob hf
      refine lv_iload_n hx hb dX1_headsOf_4 rfl (lv_at hl 3 rfl) ?_
      refine lv_iconst (v := 3) hx hb dX1_headsOf_5 (by decide) ?_
      refine lv_icmp_ge (tgt := 34) hx hb dX1_headsOf_6 (by decide) (fun c2 => ?_) (fun c2 => ?_)
      · have hf := ifp hf c2
        exact Xq1_1 _ _ _ _ (itr_x huq1 (sor hf)) h (lv_sub hl [2] rfl)
      · have hf := ifn hf c2
        refine lv_iload_n hx hb dX1_headsOf_9 rfl (lv_at hl 0 rfl) ?_
        refine lv_iload_n hx hb dX1_headsOf_10 rfl (lv_at hl 3 rfl) ?_
        refine lv_ishr hx hb dX1_headsOf_11 ?_
        refine lv_iconst (v := 1) hx hb dX1_headsOf_12 (by decide) ?_
        refine lv_iand hx hb dX1_headsOf_13 ?_
        refine lv_iconst (v := 1) hx hb dX1_headsOf_14 (by decide) ?_
        obtain ⟨J3, eJ3, hf⟩ := rgn hf
        have JW3 : ∀ (v3 : Int32) (H : Heap) (locs : List Loc) (ls : Array Slot), WD D A s.heap H locs [] → lv_has ls 4 [(0, .int x0), (1, .int x1), (2, .int v3), (3, .int z1.2)] → J3 v3 = some uq1 → W P l e (rmS 0 0) s m args below meth c H locs 0 0 (MQ below (QiS D A [] r) args s 0 0 A) (F0 m 28 ls []) := by
          intro v3 H locs ls h hl hf
          have hf := jof eJ3 hf
          obtain ⟨y4, e4⟩ : ∃ y : Int32, y = z1.2 + 1 := ⟨_, rfl⟩
          have hf := ltb hf e4
          refine lv_iinc (v := y4) (lv' := [(3, .int y4), (0, .int x0), (1, .int x1), (2, .int v3)]) hx hb dX1_headsOf_28 hl (k := 3) rfl (by rw [e4]; rfl) (by decide) rfl (fun ls hl => ?_)
          refine lv_goto (tgt := 4) hx hb dX1_headsOf_31 (by decide) ?_
          exact ihq1 _ _ _ _ (itr_c huq1 (sor hf)) h (lv_sub hl [1, 2, 3, 0] rfl)
        refine lv_icmp_ne (tgt := 28) hx hb dX1_headsOf_15 (by decide) (fun c5 => ?_) (fun c5 => ?_)
        · have hf := ifn hf c5
          exact JW3 z1.1 _ _ _ h (lv_sub hl [0, 1, 2, 3] rfl) (sob hf)
        · have hf := ifp hf c5
          refine lv_iload_n hx hb dX1_headsOf_18 rfl (lv_at hl 2 rfl) ?_
          refine lv_iconst (v := 1) hx hb dX1_headsOf_19 (by decide) ?_
          refine lv_iload_n hx hb dX1_headsOf_20 rfl (lv_at hl 3 rfl) ?_
          refine lv_iconst (v := 4) hx hb dX1_headsOf_21 (by decide) ?_
          refine lv_imul hx hb dX1_headsOf_22 ?_
          refine lv_iload_n hx hb dX1_headsOf_23 rfl (lv_at hl 1 rfl) ?_
          refine lv_iadd hx hb dX1_headsOf_24 ?_
          refine lv_ishl hx hb dX1_headsOf_25 ?_
          refine lv_ior hx hb dX1_headsOf_26 ?_
          refine lv_topi (fun y6 e6 => ?_)
          have hf := ltb hf e6
          refine lv_istore_n (lv' := [(2, .int y6), (0, .int x0), (1, .int x1), (3, .int z1.2)]) hx hb dX1_headsOf_27 rfl hl (by decide) rfl (fun ls hl => ?_)
          exact JW3 y6 _ _ _ h (lv_sub hl [1, 2, 0, 3] rfl) (sob hf)
  exact Lq1 _ _ _ _ _ hq1 h (lv_sub hl [2, 3, 1, 0] rfl)
def f1_afterLetter_L5 (g0 : Int32) (g1 : Int32) (g2 : ob) (z1 : Int32 × Int32) : Option (Nat × (Int32 × Int32)) :=
  (if 3 ≤ z1.2 then (some (1, (z1.1, z1.2))) else (((if ((g0 >>> (z1.2 &&& 31)) &&& 1) = 1 then (gd (vin ((z1.2 * 4) + g1) 12) <| lt (z1.1 ||| (g2.2 0 ((z1.2 * 4) + g1).toNatClampNeg)) fun y7 => some y7) else (some z1.1))).bind fun v3 => lt (z1.2 + 1) fun y4 => some (0, (v3, y4))))
noncomputable def f1_afterLetter (x0 : Int32) (x1 : Int32) (o_this : ob) : Option (Int32) :=
  (wh (f1_afterLetter_L5 x0 x1 o_this) (0, 0)).bind fun q1 => some q1.2.1
set_option maxRecDepth 100000 in
set_option maxHeartbeats 4000000 in
theorem c1_afterLetter (l : Launch) (D : va_G) (K : Nat → ClassId) (a0 : Nat → Nat) (x0 : Int32) (x1 : Int32) (o_this : ob) (r : Int32) (hf : f1_afterLetter x0 x1 o_this = some r) : CTi l yX1_afterLetter cX1_afterLetter 5 (some .int) 0 0 D K [.ref (a0 0), .int x0, .int x1] [wX1 K a0 o_this] [wX1 K a0 o_this] r := by
  unfold f1_afterLetter at hf
  have hf := tob hf
  refine entI (by decide) (Nat.le_of_ble_eq_true rfl) (fun P e s m args below meth c A ls F h hl hin => ?_)
  have hx := F.1
  have hb := F.2.1
  have hl : lv_has ls 5 [(0, .ref (a0 0)), (1, .int x0), (2, .int x1)] := hl
  refine lv_iconst (v := 0) hx hb dX1_afterLetter_0 (by decide) ?_
  refine lv_istore_n (lv' := [(3, .int 0), (0, .ref (a0 0)), (1, .int x0), (2, .int x1)]) hx hb dX1_afterLetter_1 rfl hl (by decide) rfl (fun ls hl => ?_)
  refine lv_iconst (v := 0) hx hb dX1_afterLetter_2 (by decide) ?_
  refine lv_istore (lv' := [(4, .int 0), (3, .int 0), (0, .ref (a0 0)), (1, .int x0), (2, .int x1)]) hx hb dX1_afterLetter_3 hl (by decide) rfl (fun ls hl => ?_)
  obtain ⟨q1, hq1, hf⟩ := asb hf
  obtain ⟨nq1, hq1⟩ := wh_out hq1
  have Xq1_1 : ∀ (z1 : Int32 × Int32) (H : Heap) (locs : List Loc) (ls : Array Slot), q1 = (1, z1) → WD D A s.heap H locs [wX1 K a0 o_this] → lv_has ls 5 [(3, .int z1.1)] → W P l e (rmS 0 0) s m args below meth c H locs 0 0 (MQ below (QiS D A [wX1 K a0 o_this] r) args s 0 0 A) (F0 m 41 ls []) := by
    intro z1 H locs ls eq1 h hl
    obtain rfl : z1 = q1.2 := by rw [eq1]
    refine lv_iload_n hx hb dX1_afterLetter_41 rfl (lv_at hl 0 rfl) ?_
    obtain rfl := sor hf
    exact r_reti F h dX1_afterLetter_42
  have Lq1 : ∀ (n : Nat) (z1 : Int32 × Int32) (H : Heap) (locs : List Loc) (ls : Array Slot), iter (f1_afterLetter_L5 x0 x1 o_this) n z1 = some q1 → WD D A s.heap H locs [wX1 K a0 o_this] → lv_has ls 5 [(0, .ref (a0 0)), (1, .int x0), (2, .int x1), (3, .int z1.1), (4, .int z1.2)] → W P l e (rmS 0 0) s m args below meth c H locs 0 0 (MQ below (QiS D A [wX1 K a0 o_this] r) args s 0 0 A) (F0 m 5 ls []) := by
    intro n
    induction n with
    | zero => intro z1 H locs ls hi; exact (iter_0 hi).elim
    | succ n ihq1 =>
      intro z1 H locs ls hi h hl
      obtain ⟨uq1, hf, huq1⟩ := iter_s hi
      unfold f1_afterLetter_L5 at hf
      have hf := tob hf
      refine lv_iload hx hb dX1_afterLetter_5 (lv_at hl 4 rfl) ?_
      refine lv_iconst (v := 3) hx hb dX1_afterLetter_7 (by decide) ?_
      refine lv_icmp_ge (tgt := 41) hx hb dX1_afterLetter_8 (by decide) (fun c2 => ?_) (fun c2 => ?_)
      · have hf := ifp hf c2
        exact Xq1_1 _ _ _ _ (itr_x huq1 (sor hf)) h (lv_sub hl [3] rfl)
      · have hf := ifn hf c2
        refine lv_iload_n hx hb dX1_afterLetter_11 rfl (lv_at hl 1 rfl) ?_
        refine lv_iload hx hb dX1_afterLetter_12 (lv_at hl 4 rfl) ?_
        refine lv_ishr hx hb dX1_afterLetter_14 ?_
        refine lv_iconst (v := 1) hx hb dX1_afterLetter_15 (by decide) ?_
        refine lv_iand hx hb dX1_afterLetter_16 ?_
        refine lv_iconst (v := 1) hx hb dX1_afterLetter_17 (by decide) ?_
        obtain ⟨J3, eJ3, hf⟩ := rgn hf
        have JW3 : ∀ (v3 : Int32) (H : Heap) (locs : List Loc) (ls : Array Slot), WD D A s.heap H locs [wX1 K a0 o_this] → lv_has ls 5 [(0, .ref (a0 0)), (1, .int x0), (2, .int x1), (3, .int v3), (4, .int z1.2)] → J3 v3 = some uq1 → W P l e (rmS 0 0) s m args below meth c H locs 0 0 (MQ below (QiS D A [wX1 K a0 o_this] r) args s 0 0 A) (F0 m 35 ls []) := by
          intro v3 H locs ls h hl hf
          have hf := jof eJ3 hf
          obtain ⟨y4, e4⟩ : ∃ y : Int32, y = z1.2 + 1 := ⟨_, rfl⟩
          have hf := ltb hf e4
          refine lv_iinc (v := y4) (lv' := [(4, .int y4), (0, .ref (a0 0)), (1, .int x0), (2, .int x1), (3, .int v3)]) hx hb dX1_afterLetter_35 hl (k := 4) rfl (by rw [e4]; rfl) (by decide) rfl (fun ls hl => ?_)
          refine lv_goto (tgt := 5) hx hb dX1_afterLetter_38 (by decide) ?_
          exact ihq1 _ _ _ _ (itr_c huq1 (sor hf)) h (lv_sub hl [1, 2, 3, 4, 0] rfl)
        refine lv_icmp_ne (tgt := 35) hx hb dX1_afterLetter_18 (by decide) (fun c5 => ?_) (fun c5 => ?_)
        · have hf := ifn hf c5
          exact JW3 z1.1 _ _ _ h (lv_sub hl [0, 1, 2, 3, 4] rfl) (sob hf)
        · have hf := ifp hf c5
          refine lv_iload_n hx hb dX1_afterLetter_21 rfl (lv_at hl 3 rfl) ?_
          refine lv_aload_n hx hb dX1_afterLetter_22 rfl (lv_at hl 0 rfl) ?_
          refine r_get F h (i := 0) (k := 0) (.ref (a0 1)) inX1 rfl (by decide) w475 rfl rfl rfl dX1_afterLetter_23 ?_
          refine lv_iload hx hb dX1_afterLetter_26 (lv_at hl 4 rfl) ?_
          refine lv_iconst (v := 4) hx hb dX1_afterLetter_28 (by decide) ?_
          refine lv_imul hx hb dX1_afterLetter_29 ?_
          refine lv_iload_n hx hb dX1_afterLetter_30 rfl (lv_at hl 2 rfl) ?_
          refine lv_iadd hx hb dX1_afterLetter_31 ?_
          obtain ⟨g6, hf⟩ := gdb hf
          refine r_iald F h (i := 0) (j := 1) rfl rfl (vin_ok g6) dX1_afterLetter_32 ?_
          refine lv_ior hx hb dX1_afterLetter_33 ?_
          refine lv_topi (fun y7 e7 => ?_)
          have hf := ltb hf e7
          refine lv_istore_n (lv' := [(3, .int y7), (0, .ref (a0 0)), (1, .int x0), (2, .int x1), (4, .int z1.2)]) hx hb dX1_afterLetter_34 rfl hl (by decide) rfl (fun ls hl => ?_)
          exact JW3 y7 _ _ _ h (lv_sub hl [1, 2, 3, 0, 4] rfl) (sob hf)
  exact Lq1 _ _ _ _ _ hq1 h (lv_sub hl [2, 3, 4, 1, 0] rfl)
noncomputable def f1_afterWord (x0 : Int32) (x1 : Int32) (o_this : ob) : Option (Int32) :=
  lt (1 <<< (x0 &&& 31)) fun y1 => (f5_lettersIn x1).bind fun q2 => ((if q2 ≤ 0 then (some y1) else ((f5_firstLetter x1).bind fun q9 => (f1_afterLetter y1 q9 o_this).bind fun q10 => some q10))).bind fun v3 => (f5_lettersIn x1).bind fun q4 => (if q4 = 2 then ((f5_secondLetter x1).bind fun q6 => (f1_afterLetter v3 q6 o_this).bind fun q7 => some q7) else (some v3))
set_option maxRecDepth 100000 in
set_option maxHeartbeats 4000000 in
theorem c1_afterWord (l : Launch) (D : va_G) (K : Nat → ClassId) (a0 : Nat → Nat) (x0 : Int32) (x1 : Int32) (o_this : ob) (r : Int32) (hf : f1_afterWord x0 x1 o_this = some r) : CTi l yX1_afterWord cX1_afterWord 4 (some .int) 1 24 D K [.ref (a0 0), .int x0, .int x1] [wX1 K a0 o_this] [wX1 K a0 o_this] r := by
  unfold f1_afterWord at hf
  have hf := tob hf
  refine entI (by decide) (Nat.le_of_ble_eq_true rfl) (fun P e s m args below meth c A ls F h hl hin => ?_)
  have hx := F.1
  have hb := F.2.1
  have hl : lv_has ls 4 [(0, .ref (a0 0)), (1, .int x0), (2, .int x1)] := hl
  refine lv_iconst (v := 1) hx hb dX1_afterWord_0 (by decide) ?_
  refine lv_iload_n hx hb dX1_afterWord_1 rfl (lv_at hl 1 rfl) ?_
  refine lv_ishl hx hb dX1_afterWord_2 ?_
  refine lv_topi (fun y1 e1 => ?_)
  have hf := ltb hf e1
  refine lv_istore_n (lv' := [(3, .int y1), (0, .ref (a0 0)), (1, .int x0), (2, .int x1)]) hx hb dX1_afterWord_3 rfl hl (by decide) rfl (fun ls hl => ?_)
  refine lv_iload_n hx hb dX1_afterWord_4 rfl (lv_at hl 3 rfl) ?_
  obtain ⟨q2, h2, hf⟩ := asb hf
  refine r_callN (As := [.int x1]) (rest := []) F h hl (c5_lettersIn l D K x1 q2 h2) w267 ⟨by decide +kernel, w265, w266⟩ hsc5_lettersIn ⟨Nat.le_of_ble_eq_true rfl, Nat.le_of_ble_eq_true rfl⟩ ⟨Nat.le_refl 0, Nat.le_refl 0⟩ (Nat.le_of_ble_eq_true rfl) dX1_afterWord_5 (fun H locs h => ?_)
  obtain ⟨J3, eJ3, hf⟩ := rgn hf
  have JW3 : ∀ (v3 : Int32) (H : Heap) (locs : List Loc) (ls : Array Slot), WD D A s.heap H locs [wX1 K a0 o_this] → lv_has ls 4 [(0, .ref (a0 0)), (2, .int x1), (3, .int v3)] → J3 v3 = some r → W P l e (rmS 1 24) s m args below meth c H locs 0 0 (MQ below (QiS D A [wX1 K a0 o_this] r) args s 0 0 A) (F0 m 21 ls []) := by
    intro v3 H locs ls h hl hf
    have hf := jof eJ3 hf
    refine lv_iload_n hx hb dX1_afterWord_21 rfl (lv_at hl 1 rfl) ?_
    obtain ⟨q4, h4, hf⟩ := asb hf
    refine r_callN (As := [.int x1]) (rest := []) F h hl (c5_lettersIn l D K x1 q4 h4) w267 ⟨by decide +kernel, w265, w266⟩ hsc5_lettersIn ⟨Nat.le_of_ble_eq_true rfl, Nat.le_of_ble_eq_true rfl⟩ ⟨Nat.le_refl 0, Nat.le_refl 0⟩ (Nat.le_of_ble_eq_true rfl) dX1_afterWord_22 (fun H locs h => ?_)
    refine lv_iconst (v := 2) hx hb dX1_afterWord_25 (by decide) ?_
    refine lv_icmp_ne (tgt := 41) hx hb dX1_afterWord_26 (by decide) (fun c5 => ?_) (fun c5 => ?_)
    · have hf := ifn hf c5
      refine lv_iload_n hx hb dX1_afterWord_41 rfl (lv_at hl 2 rfl) ?_
      obtain rfl := sor hf
      exact r_reti F h dX1_afterWord_42
    · have hf := ifp hf c5
      refine lv_aload_n hx hb dX1_afterWord_29 rfl (lv_at hl 0 rfl) ?_
      refine lv_iload_n hx hb dX1_afterWord_30 rfl (lv_at hl 2 rfl) ?_
      refine lv_iload_n hx hb dX1_afterWord_31 rfl (lv_at hl 1 rfl) ?_
      obtain ⟨q6, h6, hf⟩ := asb hf
      refine r_callN (As := [.int x1]) (rest := [.int v3, .ref (a0 0)]) F h hl (c5_secondLetter l D K x1 q6 h6) w271 ⟨by decide +kernel, w270, w266⟩ hsc5_secondLetter ⟨Nat.le_of_ble_eq_true rfl, Nat.le_of_ble_eq_true rfl⟩ ⟨Nat.le_refl 0, Nat.le_refl 0⟩ (Nat.le_of_ble_eq_true rfl) dX1_afterWord_32 (fun H locs h => ?_)
      obtain ⟨q7, h7, hf⟩ := asb hf
      refine r_callVi (As := [.int v3, .int q6]) (rest := []) (C0 := [wX1 K a0 o_this]) (C1 := [wX1 K a0 o_this]) (Rr := []) (S' := [wX1 K a0 o_this]) F h hl (c1_afterLetter l D K a0 v3 q6 o_this q7 h7) [0] rfl rfl rfl rfl rfl (i := 0) rfl rfl w476 ⟨w477, w478, w479, w480⟩ hsc1_afterLetter ⟨Nat.le_of_ble_eq_true rfl, Nat.le_of_ble_eq_true rfl⟩ ⟨Nat.le_refl 0, Nat.le_refl 0⟩ (Nat.le_of_ble_eq_true rfl) dX1_afterWord_35 (fun H locs h => ?_)
      refine lv_goto (tgt := 42) hx hb dX1_afterWord_38 (by decide) ?_
      obtain rfl := sor hf
      exact r_reti F h dX1_afterWord_42
  refine lv_if_le (tgt := 21) hx hb dX1_afterWord_8 (by decide) (fun c8 => ?_) (fun c8 => ?_)
  · have hf := ifp hf c8
    exact JW3 y1 _ _ _ h (lv_sub hl [1, 3, 0] rfl) (sob hf)
  · have hf := ifn hf c8
    refine lv_aload_n hx hb dX1_afterWord_11 rfl (lv_at hl 1 rfl) ?_
    refine lv_iload_n hx hb dX1_afterWord_12 rfl (lv_at hl 0 rfl) ?_
    refine lv_iload_n hx hb dX1_afterWord_13 rfl (lv_at hl 3 rfl) ?_
    obtain ⟨q9, h9, hf⟩ := asb hf
    refine r_callN (As := [.int x1]) (rest := [.int y1, .ref (a0 0)]) F h hl (c5_firstLetter l D K x1 q9 h9) w269 ⟨by decide +kernel, w268, w266⟩ hsc5_firstLetter ⟨Nat.le_of_ble_eq_true rfl, Nat.le_of_ble_eq_true rfl⟩ ⟨Nat.le_refl 0, Nat.le_refl 0⟩ (Nat.le_of_ble_eq_true rfl) dX1_afterWord_14 (fun H locs h => ?_)
    obtain ⟨q10, h10, hf⟩ := asb hf
    refine r_callVi (As := [.int y1, .int q9]) (rest := []) (C0 := [wX1 K a0 o_this]) (C1 := [wX1 K a0 o_this]) (Rr := []) (S' := [wX1 K a0 o_this]) F h hl (c1_afterLetter l D K a0 y1 q9 o_this q10 h10) [0] rfl rfl rfl rfl rfl (i := 0) rfl rfl w476 ⟨w477, w478, w479, w480⟩ hsc1_afterLetter ⟨Nat.le_of_ble_eq_true rfl, Nat.le_of_ble_eq_true rfl⟩ ⟨Nat.le_refl 0, Nat.le_refl 0⟩ (Nat.le_of_ble_eq_true rfl) dX1_afterWord_17 (fun H locs h => ?_)
    refine lv_istore_n (lv' := [(3, .int q10), (0, .ref (a0 0)), (1, .int x0), (2, .int x1)]) hx hb dX1_afterWord_20 rfl hl (by decide) rfl (fun ls hl => ?_)
    exact JW3 q10 _ _ _ h (lv_sub hl [1, 3, 0] rfl) (sob hf)
noncomputable def f1_settleFalls_L41 (g1 : ob) (z5 : Int32 × Int32 × ob) : Option (Nat × (Int32 × Int32 × ob)) :=
  (if (g1.1 1) ≤ z5.2.1 then (some (1, (z5.1, z5.2.1, z5.2.2))) else (gd (vin z5.2.1 10) <| gd (vin z5.2.1 10) <| lt (((g1.2 2 z5.2.1.toNatClampNeg) * 4) + (g1.2 3 z5.2.1.toNatClampNeg)) fun y10 => gd (vin y10 12) <| gd (vin z5.2.1 10) <| gd (vin z5.2.1 10) <| (f1_afterWord (g1.2 4 z5.2.1.toNatClampNeg) (g1.2 5 z5.2.1.toNatClampNeg) z5.2.2).bind fun q14 => lt ((z5.2.2.2 0 y10.toNatClampNeg) ||| q14) fun y15 => gd (vin y10 12) <| ((if y15 = (z5.2.2.2 0 y10.toNatClampNeg) then (some 0) else (some 1))).bind fun v17 => lt (z5.1 ||| v17) fun y18 => gd (vin y10 12) <| lt (sA z5.2.2 0 y10.toNatClampNeg y15) fun t20 => lt (z5.2.1 + 1) fun y21 => some (0, (y18, y21, t20))))
noncomputable def f1_settleFalls_L25 (g1 : ob) (z2 : Int32 × Int32 × ob) : Option (Nat × (Int32 × Int32 × ob)) :=
  (if 1000 ≤ z2.2.1 then (some (1, (z2.1, z2.2.1, z2.2.2))) else ((if z2.1 = 0 then (some (1, (z2.1, z2.2.1, z2.2.2))) else ((wh (f1_settleFalls_L41 g1) (0, 0, z2.2.2)).bind fun q5 => lt (z2.2.1 + 1) fun y6 => some (0, (q5.2.1, y6, q5.2.2.2))))))
def f1_settleFalls_L2 (z1 : Int32 × ob) : Option (Nat × (Int32 × ob)) :=
  (if 12 ≤ z1.1 then (some (1, (z1.1, z1.2))) else (gd (vin z1.1 12) <| lt (sA z1.2 0 z1.1.toNatClampNeg 0) fun t25 => lt (z1.1 + 1) fun y26 => some (0, (y26, t25))))
noncomputable def f1_settleFalls (o_this : ob) (o_p0 : ob) : Option (ob) :=
  (wh f1_settleFalls_L2 (0, o_this)).bind fun q1 => (wh (f1_settleFalls_L25 o_p0) (1, 0, q1.2.2)).bind fun q2 => some q2.2.2.2
set_option maxRecDepth 100000 in
set_option maxHeartbeats 4000000 in
theorem c1_settleFalls (l : Launch) (D : va_G) (K : Nat → ClassId) (a0 : Nat → Nat) (a1 : Nat → Nat) (o_this : ob) (o_p0 : ob) (r : ob) (hf : f1_settleFalls o_this o_p0 = some r) : CTv l yX1_settleFalls cX1_settleFalls 7 2 47 D K [.ref (a0 0), .ref (a1 0)] [wX1 K a0 o_this, wX4 K a1 o_p0] [wX1 K a0 r, wX4 K a1 o_p0] := by
  unfold f1_settleFalls at hf
  have hf := tob hf
  refine entV (by decide) (Nat.le_of_ble_eq_true rfl) (fun P e s m args below meth c A ls F h hl hin => ?_)
  have hx := F.1
  have hb := F.2.1
  have hl : lv_has ls 7 [(0, .ref (a0 0)), (1, .ref (a1 0))] := hl
  refine lv_iconst (v := 0) hx hb dX1_settleFalls_0 (by decide) ?_
  refine lv_istore_n (lv' := [(2, .int 0), (0, .ref (a0 0)), (1, .ref (a1 0))]) hx hb dX1_settleFalls_1 rfl hl (by decide) rfl (fun ls hl => ?_)
  obtain ⟨q1, hq1, hf⟩ := asb hf
  obtain ⟨nq1, hq1⟩ := wh_out hq1
  have Xq1_1 : ∀ (z1 : Int32 × ob) (H : Heap) (locs : List Loc) (ls : Array Slot), q1 = (1, z1) → WD D A s.heap H locs [wX1 K a0 z1.2, wX4 K a1 o_p0] → lv_has ls 7 [(0, .ref (a0 0)), (1, .ref (a1 0))] → W P l e (rmS 2 47) s m args below meth c H locs 0 0 (MQ below (QvS D A [wX1 K a0 r, wX4 K a1 o_p0]) args s 0 0 A) (F0 m 21 ls []) := by
    intro z1 H locs ls eq1 h hl
    obtain rfl : z1 = q1.2 := by rw [eq1]
    refine lv_iconst (v := 1) hx hb dX1_settleFalls_21 (by decide) ?_
    refine lv_istore_n (lv' := [(2, .int 1), (0, .ref (a0 0)), (1, .ref (a1 0))]) hx hb dX1_settleFalls_22 rfl hl (by decide) rfl (fun ls hl => ?_)
    refine lv_iconst (v := 0) hx hb dX1_settleFalls_23 (by decide) ?_
    refine lv_istore_n (lv' := [(3, .int 0), (2, .int 1), (0, .ref (a0 0)), (1, .ref (a1 0))]) hx hb dX1_settleFalls_24 rfl hl (by decide) rfl (fun ls hl => ?_)
    obtain ⟨q2, hq2, hf⟩ := asb hf
    obtain ⟨nq2, hq2⟩ := wh_out hq2
    have Xq2_1 : ∀ (z2 : Int32 × Int32 × ob) (H : Heap) (locs : List Loc) (ls : Array Slot), q2 = (1, z2) → WD D A s.heap H locs [wX1 K a0 z2.2.2, wX4 K a1 o_p0] → lv_has ls 7 [] → W P l e (rmS 2 47) s m args below meth c H locs 0 0 (MQ below (QvS D A [wX1 K a0 r, wX4 K a1 o_p0]) args s 0 0 A) (F0 m 138 ls []) := by
      intro z2 H locs ls eq2 h hl
      obtain rfl : z2 = q2.2 := by rw [eq2]
      obtain rfl := sor hf
      exact r_retv F h dX1_settleFalls_138
    have Lq2 : ∀ (n : Nat) (z2 : Int32 × Int32 × ob) (H : Heap) (locs : List Loc) (ls : Array Slot), iter (f1_settleFalls_L25 o_p0) n z2 = some q2 → WD D A s.heap H locs [wX1 K a0 z2.2.2, wX4 K a1 o_p0] → lv_has ls 7 [(0, .ref (a0 0)), (1, .ref (a1 0)), (2, .int z2.1), (3, .int z2.2.1)] → W P l e (rmS 2 47) s m args below meth c H locs 0 0 (MQ below (QvS D A [wX1 K a0 r, wX4 K a1 o_p0]) args s 0 0 A) (F0 m 25 ls []) := by
      intro n
      induction n with
      | zero => intro z2 H locs ls hi; exact (iter_0 hi).elim
      | succ n ihq2 =>
        intro z2 H locs ls hi h hl
        obtain ⟨uq2, hf, huq2⟩ := iter_s hi
        unfold f1_settleFalls_L25 at hf
        have hf := tob hf
        refine lv_iload_n hx hb dX1_settleFalls_25 rfl (lv_at hl 3 rfl) ?_
        refine lv_sipush (v := 1000) hx hb dX1_settleFalls_26 (by decide) ?_
        refine lv_icmp_ge (tgt := 138) hx hb dX1_settleFalls_29 (by decide) (fun c3 => ?_) (fun c3 => ?_)
        · have hf := ifp hf c3
          exact Xq2_1 _ _ _ _ (itr_x huq2 (sor hf)) h (lv_sub hl [] rfl)
        · have hf := ifn hf c3
          refine lv_iload_n hx hb dX1_settleFalls_32 rfl (lv_at hl 2 rfl) ?_
          refine lv_if_eq (tgt := 138) hx hb dX1_settleFalls_33 (by decide) (fun c4 => ?_) (fun c4 => ?_)
          · have hf := ifp hf c4
            exact Xq2_1 _ _ _ _ (itr_x huq2 (sor hf)) h (lv_sub hl [] rfl)
          · have hf := ifn hf c4
            refine lv_iconst (v := 0) hx hb dX1_settleFalls_36 (by decide) ?_
            refine lv_istore_n (lv' := [(2, .int 0), (0, .ref (a0 0)), (1, .ref (a1 0)), (3, .int z2.2.1)]) hx hb dX1_settleFalls_37 rfl hl (by decide) rfl (fun ls hl => ?_)
            refine lv_iconst (v := 0) hx hb dX1_settleFalls_38 (by decide) ?_
            refine lv_istore (lv' := [(4, .int 0), (2, .int 0), (0, .ref (a0 0)), (1, .ref (a1 0)), (3, .int z2.2.1)]) hx hb dX1_settleFalls_39 hl (by decide) rfl (fun ls hl => ?_)
            obtain ⟨q5, hq5, hf⟩ := asb hf
            obtain ⟨nq5, hq5⟩ := wh_out hq5
            have Xq5_1 : ∀ (z5 : Int32 × Int32 × ob) (H : Heap) (locs : List Loc) (ls : Array Slot), q5 = (1, z5) → WD D A s.heap H locs [wX1 K a0 z5.2.2, wX4 K a1 o_p0] → lv_has ls 7 [(0, .ref (a0 0)), (1, .ref (a1 0)), (2, .int z5.1), (3, .int z2.2.1)] → W P l e (rmS 2 47) s m args below meth c H locs 0 0 (MQ below (QvS D A [wX1 K a0 r, wX4 K a1 o_p0]) args s 0 0 A) (F0 m 132 ls []) := by
              intro z5 H locs ls eq5 h hl
              obtain rfl : z5 = q5.2 := by rw [eq5]
              obtain ⟨y6, e6⟩ : ∃ y : Int32, y = z2.2.1 + 1 := ⟨_, rfl⟩
              have hf := ltb hf e6
              refine lv_iinc (v := y6) (lv' := [(3, .int y6), (0, .ref (a0 0)), (1, .ref (a1 0)), (2, .int q5.2.1)]) hx hb dX1_settleFalls_132 hl (k := 3) rfl (by rw [e6]; rfl) (by decide) rfl (fun ls hl => ?_)
              refine lv_goto (tgt := 25) hx hb dX1_settleFalls_135 (by decide) ?_
              exact ihq2 _ _ _ _ (itr_c huq2 (sor hf)) h (lv_sub hl [1, 2, 3, 0] rfl)
            have Lq5 : ∀ (n : Nat) (z5 : Int32 × Int32 × ob) (H : Heap) (locs : List Loc) (ls : Array Slot), iter (f1_settleFalls_L41 o_p0) n z5 = some q5 → WD D A s.heap H locs [wX1 K a0 z5.2.2, wX4 K a1 o_p0] → lv_has ls 7 [(0, .ref (a0 0)), (1, .ref (a1 0)), (2, .int z5.1), (3, .int z2.2.1), (4, .int z5.2.1)] → W P l e (rmS 2 47) s m args below meth c H locs 0 0 (MQ below (QvS D A [wX1 K a0 r, wX4 K a1 o_p0]) args s 0 0 A) (F0 m 41 ls []) := by
              intro n
              induction n with
              | zero => intro z5 H locs ls hi; exact (iter_0 hi).elim
              | succ n ihq5 =>
                intro z5 H locs ls hi h hl
                obtain ⟨uq5, hf, huq5⟩ := iter_s hi
                unfold f1_settleFalls_L41 at hf
                have hf := tob hf
                refine lv_iload hx hb dX1_settleFalls_41 (lv_at hl 4 rfl) ?_
                refine lv_aload_n hx hb dX1_settleFalls_43 rfl (lv_at hl 1 rfl) ?_
                refine r_get F h (i := 1) (k := 1) (.int (o_p0.1 1)) inX4 rfl (by decide) w481 rfl rfl rfl dX1_settleFalls_44 ?_
                refine lv_icmp_ge (tgt := 132) hx hb dX1_settleFalls_47 (by decide) (fun c7 => ?_) (fun c7 => ?_)
                · have hf := ifp hf c7
                  exact Xq5_1 _ _ _ _ (itr_x huq5 (sor hf)) h (lv_sub hl [0, 1, 2, 3] rfl)
                · have hf := ifn hf c7
                  refine lv_aload_n hx hb dX1_settleFalls_50 rfl (lv_at hl 1 rfl) ?_
                  refine r_get F h (i := 1) (k := 2) (.ref (a1 3)) inX4 rfl (by decide) w482 rfl rfl rfl dX1_settleFalls_51 ?_
                  refine lv_iload hx hb dX1_settleFalls_54 (lv_at hl 4 rfl) ?_
                  obtain ⟨g8, hf⟩ := gdb hf
                  refine r_iald F h (i := 1) (j := 1) rfl rfl (vin_ok g8) dX1_settleFalls_56 ?_
                  refine lv_iconst (v := 4) hx hb dX1_settleFalls_57 (by decide) ?_
                  refine lv_imul hx hb dX1_settleFalls_58 ?_
                  refine lv_aload_n hx hb dX1_settleFalls_59 rfl (lv_at hl 1 rfl) ?_
                  refine r_get F h (i := 1) (k := 3) (.ref (a1 4)) inX4 rfl (by decide) w483 rfl rfl rfl dX1_settleFalls_60 ?_
                  refine lv_iload hx hb dX1_settleFalls_63 (lv_at hl 4 rfl) ?_
                  obtain ⟨g9, hf⟩ := gdb hf
                  refine r_iald F h (i := 1) (j := 2) rfl rfl (vin_ok g9) dX1_settleFalls_65 ?_
                  refine lv_iadd hx hb dX1_settleFalls_66 ?_
                  refine lv_topi (fun y10 e10 => ?_)
                  have hf := ltb hf e10
                  refine lv_istore (lv' := [(5, .int y10), (0, .ref (a0 0)), (1, .ref (a1 0)), (2, .int z5.1), (3, .int z2.2.1), (4, .int z5.2.1)]) hx hb dX1_settleFalls_67 hl (by decide) rfl (fun ls hl => ?_)
                  refine lv_aload_n hx hb dX1_settleFalls_69 rfl (lv_at hl 1 rfl) ?_
                  refine r_get F h (i := 0) (k := 0) (.ref (a0 1)) inX1 rfl (by decide) w475 rfl rfl rfl dX1_settleFalls_70 ?_
                  refine lv_iload hx hb dX1_settleFalls_73 (lv_at hl 0 rfl) ?_
                  obtain ⟨g11, hf⟩ := gdb hf
                  refine r_iald F h (i := 0) (j := 1) rfl rfl (vin_ok g11) dX1_settleFalls_75 ?_
                  refine lv_aload_n hx hb dX1_settleFalls_76 rfl (lv_at hl 1 rfl) ?_
                  refine lv_aload_n hx hb dX1_settleFalls_77 rfl (lv_at hl 2 rfl) ?_
                  refine r_get F h (i := 1) (k := 4) (.ref (a1 5)) inX4 rfl (by decide) w484 rfl rfl rfl dX1_settleFalls_78 ?_
                  refine lv_iload hx hb dX1_settleFalls_81 (lv_at hl 5 rfl) ?_
                  obtain ⟨g12, hf⟩ := gdb hf
                  refine r_iald F h (i := 1) (j := 3) rfl rfl (vin_ok g12) dX1_settleFalls_83 ?_
                  refine lv_aload_n hx hb dX1_settleFalls_84 rfl (lv_at hl 2 rfl) ?_
                  refine r_get F h (i := 1) (k := 5) (.ref (a1 6)) inX4 rfl (by decide) w485 rfl rfl rfl dX1_settleFalls_85 ?_
                  refine lv_iload hx hb dX1_settleFalls_88 (lv_at hl 5 rfl) ?_
                  obtain ⟨g13, hf⟩ := gdb hf
                  refine r_iald F h (i := 1) (j := 4) rfl rfl (vin_ok g13) dX1_settleFalls_90 ?_
                  obtain ⟨q14, h14, hf⟩ := asb hf
                  refine r_callVi (As := [.int (o_p0.2 4 z5.2.1.toNatClampNeg), .int (o_p0.2 5 z5.2.1.toNatClampNeg)]) (rest := [.int (z5.2.2.2 0 y10.toNatClampNeg)]) (C0 := [wX1 K a0 z5.2.2]) (C1 := [wX1 K a0 z5.2.2]) (Rr := [wX4 K a1 o_p0]) (S' := [wX1 K a0 z5.2.2, wX4 K a1 o_p0]) F h hl (c1_afterWord l D K a0 (o_p0.2 4 z5.2.1.toNatClampNeg) (o_p0.2 5 z5.2.1.toNatClampNeg) z5.2.2 q14 h14) [0, 1] rfl rfl rfl rfl rfl (i := 0) rfl rfl w486 ⟨w487, w488, w489, w480⟩ hsc1_afterWord ⟨Nat.le_of_ble_eq_true rfl, Nat.le_of_ble_eq_true rfl⟩ ⟨Nat.le_refl 0, Nat.le_refl 0⟩ (Nat.le_of_ble_eq_true rfl) dX1_settleFalls_91 (fun H locs h => ?_)
                  refine lv_ior hx hb dX1_settleFalls_94 ?_
                  refine lv_topi (fun y15 e15 => ?_)
                  have hf := ltb hf e15
                  refine lv_istore (lv' := [(6, .int y15), (5, .int y10), (0, .ref (a0 0)), (1, .ref (a1 0)), (2, .int z5.1), (3, .int z2.2.1), (4, .int z5.2.1)]) hx hb dX1_settleFalls_95 hl (by decide) rfl (fun ls hl => ?_)
                  refine lv_iload_n hx hb dX1_settleFalls_97 rfl (lv_at hl 4 rfl) ?_
                  refine lv_iload hx hb dX1_settleFalls_98 (lv_at hl 0 rfl) ?_
                  refine lv_aload_n hx hb dX1_settleFalls_100 rfl (lv_at hl 2 rfl) ?_
                  refine r_get F h (i := 0) (k := 0) (.ref (a0 1)) inX1 rfl (by decide) w475 rfl rfl rfl dX1_settleFalls_101 ?_
                  refine lv_iload hx hb dX1_settleFalls_104 (lv_at hl 1 rfl) ?_
                  obtain ⟨g16, hf⟩ := gdb hf
                  refine r_iald F h (i := 0) (j := 1) rfl rfl (vin_ok g16) dX1_settleFalls_106 ?_
                  obtain ⟨J17, eJ17, hf⟩ := rgn hf
                  have JW17 : ∀ (v17 : Int32) (H : Heap) (locs : List Loc) (ls : Array Slot), WD D A s.heap H locs [wX1 K a0 z5.2.2, wX4 K a1 o_p0] → lv_has ls 7 [(0, .ref (a0 0)), (1, .ref (a1 0)), (3, .int z2.2.1), (4, .int z5.2.1), (5, .int y10), (6, .int y15)] → J17 v17 = some uq5 → W P l e (rmS 2 47) s m args below meth c H locs 0 0 (MQ below (QvS D A [wX1 K a0 r, wX4 K a1 o_p0]) args s 0 0 A) (F0 m 115 ls [.int v17, .int z5.1]) := by
                    intro v17 H locs ls h hl hf
                    have hf := jof eJ17 hf
                    refine lv_ior hx hb dX1_settleFalls_115 ?_
                    refine lv_topi (fun y18 e18 => ?_)
                    have hf := ltb hf e18
                    refine lv_istore_n (lv' := [(2, .int y18), (0, .ref (a0 0)), (1, .ref (a1 0)), (3, .int z2.2.1), (4, .int z5.2.1), (5, .int y10), (6, .int y15)]) hx hb dX1_settleFalls_116 rfl hl (by decide) rfl (fun ls hl => ?_)
                    refine lv_aload_n hx hb dX1_settleFalls_117 rfl (lv_at hl 1 rfl) ?_
                    refine r_get F h (i := 0) (k := 0) (.ref (a0 1)) inX1 rfl (by decide) w475 rfl rfl rfl dX1_settleFalls_118 ?_
                    refine lv_iload hx hb dX1_settleFalls_121 (lv_at hl 5 rfl) ?_
                    refine lv_iload hx hb dX1_settleFalls_123 (lv_at hl 6 rfl) ?_
                    obtain ⟨g19, hf⟩ := gdb hf
                    refine r_iast (o1 := sA z5.2.2 0 y10.toNatClampNeg y15) (w := fun t20 => wX1 K a0 t20) (S' := fun t20 => [wX1 K a0 t20, wX4 K a1 o_p0]) F h (i := 0) (j := 1) rfl rfl (vin_ok g19) rfl (fun _ => rfl) dX1_settleFalls_125 (fun t20 e20 H locs h => ?_)
                    have hf := ltb hf e20
                    obtain ⟨y21, e21⟩ : ∃ y : Int32, y = z5.2.1 + 1 := ⟨_, rfl⟩
                    have hf := ltb hf e21
                    refine lv_iinc (v := y21) (lv' := [(4, .int y21), (2, .int y18), (0, .ref (a0 0)), (1, .ref (a1 0)), (3, .int z2.2.1), (5, .int y10), (6, .int y15)]) hx hb dX1_settleFalls_126 hl (k := 4) rfl (by rw [e21]; rfl) (by decide) rfl (fun ls hl => ?_)
                    refine lv_goto (tgt := 41) hx hb dX1_settleFalls_129 (by decide) ?_
                    exact ihq5 _ _ _ _ (itr_c huq5 (sor hf)) h (lv_sub hl [2, 3, 1, 4, 0] rfl)
                  refine lv_icmp_eq (tgt := 114) hx hb dX1_settleFalls_107 (by decide) (fun c22 => ?_) (fun c22 => ?_)
                  · have hf := ifp hf c22
                    refine lv_iconst (v := 0) hx hb dX1_settleFalls_114 (by decide) ?_
                    exact JW17 0 _ _ _ h (lv_sub hl [2, 3, 5, 6, 1, 0] rfl) (sob hf)
                  · have hf := ifn hf c22
                    refine lv_iconst (v := 1) hx hb dX1_settleFalls_110 (by decide) ?_
                    refine lv_goto (tgt := 115) hx hb dX1_settleFalls_111 (by decide) ?_
                    exact JW17 1 _ _ _ h (lv_sub hl [2, 3, 5, 6, 1, 0] rfl) (sob hf)
            exact Lq5 _ _ _ _ _ hq5 h (lv_sub hl [2, 3, 1, 4, 0] rfl)
    exact Lq2 _ _ _ _ _ hq2 h (lv_sub hl [2, 3, 1, 0] rfl)
  have Lq1 : ∀ (n : Nat) (z1 : Int32 × ob) (H : Heap) (locs : List Loc) (ls : Array Slot), iter f1_settleFalls_L2 n z1 = some q1 → WD D A s.heap H locs [wX1 K a0 z1.2, wX4 K a1 o_p0] → lv_has ls 7 [(0, .ref (a0 0)), (1, .ref (a1 0)), (2, .int z1.1)] → W P l e (rmS 2 47) s m args below meth c H locs 0 0 (MQ below (QvS D A [wX1 K a0 r, wX4 K a1 o_p0]) args s 0 0 A) (F0 m 2 ls []) := by
    intro n
    induction n with
    | zero => intro z1 H locs ls hi; exact (iter_0 hi).elim
    | succ n ihq1 =>
      intro z1 H locs ls hi h hl
      obtain ⟨uq1, hf, huq1⟩ := iter_s hi
      unfold f1_settleFalls_L2 at hf
      have hf := tob hf
      refine lv_iload_n hx hb dX1_settleFalls_2 rfl (lv_at hl 2 rfl) ?_
      refine lv_bipush (v := 12) hx hb dX1_settleFalls_3 (by decide) ?_
      refine lv_icmp_ge (tgt := 21) hx hb dX1_settleFalls_5 (by decide) (fun c23 => ?_) (fun c23 => ?_)
      · have hf := ifp hf c23
        exact Xq1_1 _ _ _ _ (itr_x huq1 (sor hf)) h (lv_sub hl [0, 1] rfl)
      · have hf := ifn hf c23
        refine lv_aload_n hx hb dX1_settleFalls_8 rfl (lv_at hl 0 rfl) ?_
        refine r_get F h (i := 0) (k := 0) (.ref (a0 1)) inX1 rfl (by decide) w475 rfl rfl rfl dX1_settleFalls_9 ?_
        refine lv_iload_n hx hb dX1_settleFalls_12 rfl (lv_at hl 2 rfl) ?_
        refine lv_iconst (v := 0) hx hb dX1_settleFalls_13 (by decide) ?_
        obtain ⟨g24, hf⟩ := gdb hf
        refine r_iast (o1 := sA z1.2 0 z1.1.toNatClampNeg 0) (w := fun t25 => wX1 K a0 t25) (S' := fun t25 => [wX1 K a0 t25, wX4 K a1 o_p0]) F h (i := 0) (j := 1) rfl rfl (vin_ok g24) rfl (fun _ => rfl) dX1_settleFalls_14 (fun t25 e25 H locs h => ?_)
        have hf := ltb hf e25
        obtain ⟨y26, e26⟩ : ∃ y : Int32, y = z1.1 + 1 := ⟨_, rfl⟩
        have hf := ltb hf e26
        refine lv_iinc (v := y26) (lv' := [(2, .int y26), (0, .ref (a0 0)), (1, .ref (a1 0))]) hx hb dX1_settleFalls_15 hl (k := 2) rfl (by rw [e26]; rfl) (by decide) rfl (fun ls hl => ?_)
        refine lv_goto (tgt := 2) hx hb dX1_settleFalls_18 (by decide) ?_
        exact ihq1 _ _ _ _ (itr_c huq1 (sor hf)) h (lv_sub hl [1, 2, 0] rfl)
  exact Lq1 _ _ _ _ _ hq1 h (lv_sub hl [1, 2, 0] rfl)
noncomputable def f1_descend_L19 (g1 : ob) (z4 : Int32 × Int32 × ob) : Option (Nat × (Int32 × Int32 × ob)) :=
  (if z4.2.1 < 0 then (some (1, (z4.1, z4.2.1, z4.2.2))) else (gd (vin z4.2.1 12) <| (f1_headsOf z4.1 (g1.2 15 z4.2.1.toNatClampNeg)).bind fun q8 => lt (sI z4.2.2 1 ((z4.2.2.1 1) ||| q8)) fun t9 => gd (vin z4.2.1 12) <| (f1_afterLetter z4.1 (g1.2 15 z4.2.1.toNatClampNeg) t9).bind fun q11 => lt (z4.2.1 + (-1)) fun y12 => some (0, (q11, y12, t9))))
noncomputable def f1_descend (o_this : ob) (o_p0 : ob) : Option (ob) :=
  lt (sI o_this 1 0) fun t1 => lt (1 <<< ((o_p0.1 13) &&& 31)) fun y2 => lt ((o_p0.1 14) - 1) fun y3 => (wh (f1_descend_L19 o_p0) (y2, y3, t1)).bind fun q4 => lt (sI q4.2.2.2 2 q4.2.1) fun t5 => some t5
set_option maxRecDepth 100000 in
set_option maxHeartbeats 4000000 in
theorem c1_descend (l : Launch) (D : va_G) (K : Nat → ClassId) (a0 : Nat → Nat) (a1 : Nat → Nat) (o_this : ob) (o_p0 : ob) (r : ob) (hf : f1_descend o_this o_p0 = some r) : CTv l yX1_descend cX1_descend 4 1 24 D K [.ref (a0 0), .ref (a1 0)] [wX1 K a0 o_this, wX4 K a1 o_p0] [wX1 K a0 r, wX4 K a1 o_p0] := by
  unfold f1_descend at hf
  have hf := tob hf
  refine entV (by decide) (Nat.le_of_ble_eq_true rfl) (fun P e s m args below meth c A ls F h hl hin => ?_)
  have hx := F.1
  have hb := F.2.1
  have hl : lv_has ls 4 [(0, .ref (a0 0)), (1, .ref (a1 0))] := hl
  refine lv_aload_n hx hb dX1_descend_0 rfl (lv_at hl 0 rfl) ?_
  refine lv_iconst (v := 0) hx hb dX1_descend_1 (by decide) ?_
  refine r_put (o1 := sI o_this 1 0) (w := fun t1 => wX1 K a0 t1) (S' := fun t1 => [wX1 K a0 t1, wX4 K a1 o_p0]) F h (i := 0) (k := 1) inX1 tyX1_ok nmX1 rfl (by decide) w474 rfl rfl rfl rfl rfl (Nat.le_of_ble_eq_true rfl) rfl (fun _ => rfl) dX1_descend_2 (fun t1 e1 H locs h => ?_)
  have hf := ltb hf e1
  refine lv_iconst (v := 1) hx hb dX1_descend_5 (by decide) ?_
  refine lv_aload_n hx hb dX1_descend_6 rfl (lv_at hl 1 rfl) ?_
  refine r_get F h (i := 1) (k := 13) (.int (o_p0.1 13)) inX4 rfl (by decide) w490 rfl rfl rfl dX1_descend_7 ?_
  refine lv_ishl hx hb dX1_descend_10 ?_
  refine lv_topi (fun y2 e2 => ?_)
  have hf := ltb hf e2
  refine lv_istore_n (lv' := [(2, .int y2), (0, .ref (a0 0)), (1, .ref (a1 0))]) hx hb dX1_descend_11 rfl hl (by decide) rfl (fun ls hl => ?_)
  refine lv_aload_n hx hb dX1_descend_12 rfl (lv_at hl 2 rfl) ?_
  refine r_get F h (i := 1) (k := 14) (.int (o_p0.1 14)) inX4 rfl (by decide) w491 rfl rfl rfl dX1_descend_13 ?_
  refine lv_iconst (v := 1) hx hb dX1_descend_16 (by decide) ?_
  refine lv_isub hx hb dX1_descend_17 ?_
  refine lv_topi (fun y3 e3 => ?_)
  have hf := ltb hf e3
  refine lv_istore_n (lv' := [(3, .int y3), (2, .int y2), (0, .ref (a0 0)), (1, .ref (a1 0))]) hx hb dX1_descend_18 rfl hl (by decide) rfl (fun ls hl => ?_)
  obtain ⟨q4, hq4, hf⟩ := asb hf
  obtain ⟨nq4, hq4⟩ := wh_out hq4
  have Xq4_1 : ∀ (z4 : Int32 × Int32 × ob) (H : Heap) (locs : List Loc) (ls : Array Slot), q4 = (1, z4) → WD D A s.heap H locs [wX1 K a0 z4.2.2, wX4 K a1 o_p0] → lv_has ls 4 [(0, .ref (a0 0)), (2, .int z4.1)] → W P l e (rmS 1 24) s m args below meth c H locs 0 0 (MQ below (QvS D A [wX1 K a0 r, wX4 K a1 o_p0]) args s 0 0 A) (F0 m 60 ls []) := by
    intro z4 H locs ls eq4 h hl
    obtain rfl : z4 = q4.2 := by rw [eq4]
    refine lv_aload_n hx hb dX1_descend_60 rfl (lv_at hl 0 rfl) ?_
    refine lv_iload_n hx hb dX1_descend_61 rfl (lv_at hl 1 rfl) ?_
    refine r_put (o1 := sI q4.2.2.2 2 q4.2.1) (w := fun t5 => wX1 K a0 t5) (S' := fun t5 => [wX1 K a0 t5, wX4 K a1 o_p0]) F h (i := 0) (k := 2) inX1 tyX1_ok nmX1 rfl (by decide) w492 rfl rfl rfl rfl rfl (Nat.le_of_ble_eq_true rfl) rfl (fun _ => rfl) dX1_descend_62 (fun t5 e5 H locs h => ?_)
    have hf := ltb hf e5
    obtain rfl := sor hf
    exact r_retv F h dX1_descend_65
  have Lq4 : ∀ (n : Nat) (z4 : Int32 × Int32 × ob) (H : Heap) (locs : List Loc) (ls : Array Slot), iter (f1_descend_L19 o_p0) n z4 = some q4 → WD D A s.heap H locs [wX1 K a0 z4.2.2, wX4 K a1 o_p0] → lv_has ls 4 [(0, .ref (a0 0)), (1, .ref (a1 0)), (2, .int z4.1), (3, .int z4.2.1)] → W P l e (rmS 1 24) s m args below meth c H locs 0 0 (MQ below (QvS D A [wX1 K a0 r, wX4 K a1 o_p0]) args s 0 0 A) (F0 m 19 ls []) := by
    intro n
    induction n with
    | zero => intro z4 H locs ls hi; exact (iter_0 hi).elim
    | succ n ihq4 =>
      intro z4 H locs ls hi h hl
      obtain ⟨uq4, hf, huq4⟩ := iter_s hi
      unfold f1_descend_L19 at hf
      have hf := tob hf
      refine lv_iload_n hx hb dX1_descend_19 rfl (lv_at hl 3 rfl) ?_
      refine lv_if_lt (tgt := 60) hx hb dX1_descend_20 (by decide) (fun c6 => ?_) (fun c6 => ?_)
      · have hf := ifp hf c6
        exact Xq4_1 _ _ _ _ (itr_x huq4 (sor hf)) h (lv_sub hl [0, 2] rfl)
      · have hf := ifn hf c6
        refine lv_aload_n hx hb dX1_descend_23 rfl (lv_at hl 0 rfl) ?_
        refine lv_dup hx hb dX1_descend_24 rfl ?_
        refine r_get F h (i := 0) (k := 1) (.int (z4.2.2.1 1)) inX1 rfl (by decide) w474 rfl rfl rfl dX1_descend_25 ?_
        refine lv_iload_n hx hb dX1_descend_28 rfl (lv_at hl 2 rfl) ?_
        refine lv_aload_n hx hb dX1_descend_29 rfl (lv_at hl 1 rfl) ?_
        refine r_get F h (i := 1) (k := 15) (.ref (a1 16)) inX4 rfl (by decide) w493 rfl rfl rfl dX1_descend_30 ?_
        refine lv_iload_n hx hb dX1_descend_33 rfl (lv_at hl 3 rfl) ?_
        obtain ⟨g7, hf⟩ := gdb hf
        refine r_iald F h (i := 1) (j := 10) rfl rfl (vin_ok g7) dX1_descend_34 ?_
        obtain ⟨q8, h8, hf⟩ := asb hf
        refine r_callS (As := [.int z4.1, .int (o_p0.2 15 z4.2.1.toNatClampNeg)]) (rest := [.int (z4.2.2.1 1), .ref (a0 0)]) F h hl (c1_headsOf l D K z4.1 (o_p0.2 15 z4.2.1.toNatClampNeg) q8 h8) w496 ⟨w494, w495, w480⟩ hsc1_headsOf ⟨Nat.le_of_ble_eq_true rfl, Nat.le_of_ble_eq_true rfl⟩ ⟨Nat.le_refl 0, Nat.le_refl 0⟩ (Nat.le_of_ble_eq_true rfl) dX1_descend_35 (fun H locs h => ?_)
        refine lv_ior hx hb dX1_descend_38 ?_
        refine r_put (o1 := sI z4.2.2 1 ((z4.2.2.1 1) ||| q8)) (w := fun t9 => wX1 K a0 t9) (S' := fun t9 => [wX1 K a0 t9, wX4 K a1 o_p0]) F h (i := 0) (k := 1) inX1 tyX1_ok nmX1 rfl (by decide) w474 rfl rfl rfl rfl rfl (Nat.le_of_ble_eq_true rfl) rfl (fun _ => rfl) dX1_descend_39 (fun t9 e9 H locs h => ?_)
        have hf := ltb hf e9
        refine lv_aload_n hx hb dX1_descend_42 rfl (lv_at hl 0 rfl) ?_
        refine lv_iload_n hx hb dX1_descend_43 rfl (lv_at hl 2 rfl) ?_
        refine lv_aload_n hx hb dX1_descend_44 rfl (lv_at hl 1 rfl) ?_
        refine r_get F h (i := 1) (k := 15) (.ref (a1 16)) inX4 rfl (by decide) w493 rfl rfl rfl dX1_descend_45 ?_
        refine lv_iload_n hx hb dX1_descend_48 rfl (lv_at hl 3 rfl) ?_
        obtain ⟨g10, hf⟩ := gdb hf
        refine r_iald F h (i := 1) (j := 10) rfl rfl (vin_ok g10) dX1_descend_49 ?_
        obtain ⟨q11, h11, hf⟩ := asb hf
        refine r_callVi (As := [.int z4.1, .int (o_p0.2 15 z4.2.1.toNatClampNeg)]) (rest := []) (C0 := [wX1 K a0 t9]) (C1 := [wX1 K a0 t9]) (Rr := [wX4 K a1 o_p0]) (S' := [wX1 K a0 t9, wX4 K a1 o_p0]) F h hl (c1_afterLetter l D K a0 z4.1 (o_p0.2 15 z4.2.1.toNatClampNeg) t9 q11 h11) [0, 1] rfl rfl rfl rfl rfl (i := 0) rfl rfl w476 ⟨w477, w478, w479, w480⟩ hsc1_afterLetter ⟨Nat.le_of_ble_eq_true rfl, Nat.le_of_ble_eq_true rfl⟩ ⟨Nat.le_refl 0, Nat.le_refl 0⟩ (Nat.le_of_ble_eq_true rfl) dX1_descend_50 (fun H locs h => ?_)
        refine lv_istore_n (lv' := [(2, .int q11), (0, .ref (a0 0)), (1, .ref (a1 0)), (3, .int z4.2.1)]) hx hb dX1_descend_53 rfl hl (by decide) rfl (fun ls hl => ?_)
        obtain ⟨y12, e12⟩ : ∃ y : Int32, y = z4.2.1 + (-1) := ⟨_, rfl⟩
        have hf := ltb hf e12
        refine lv_iinc (v := y12) (lv' := [(3, .int y12), (2, .int q11), (0, .ref (a0 0)), (1, .ref (a1 0))]) hx hb dX1_descend_54 hl (k := 3) rfl (by rw [e12]; rfl) (by decide) rfl (fun ls hl => ?_)
        refine lv_goto (tgt := 19) hx hb dX1_descend_57 (by decide) ?_
        exact ihq4 _ _ _ _ (itr_c huq4 (sor hf)) h (lv_sub hl [2, 3, 1, 0] rfl)
  exact Lq4 _ _ _ _ _ hq4 h (lv_sub hl [2, 3, 1, 0] rfl)
noncomputable def f1_spread_L7 (g1 : ob) (z2 : Int32 × ob) : Option (Nat × (Int32 × ob)) :=
  (if (g1.1 1) ≤ z2.1 then (some (1, (z2.1, z2.2))) else (gd (vin z2.1 10) <| lt (g1.2 5 z2.1.toNatClampNeg) fun y6 => gd (vin z2.1 10) <| gd (vin z2.1 10) <| (f1_hasHead (g1.2 2 z2.1.toNatClampNeg) (g1.2 3 z2.1.toNatClampNeg) z2.2).bind fun q9 => ((if q9 = 0 then (some z2.2) else ((f5_lettersIn y6).bind fun q13 => (if q13 ≤ 0 then (some z2.2) else (gd (vin z2.1 10) <| lt (1 <<< ((g1.2 4 z2.1.toNatClampNeg) &&& 31)) fun y16 => (f5_firstLetter y6).bind fun q17 => (f1_headsOf y16 q17).bind fun q18 => lt (sI z2.2 1 ((z2.2.1 1) ||| q18)) fun t19 => (f5_lettersIn y6).bind fun q20 => (if q20 = 2 then ((f5_firstLetter y6).bind fun q22 => (f1_afterLetter y16 q22 t19).bind fun q23 => (f5_secondLetter y6).bind fun q24 => (f1_headsOf q23 q24).bind fun q25 => lt (sI t19 1 ((t19.1 1) ||| q25)) fun t26 => some t26) else (some t19))))))).bind fun v10 => lt (z2.1 + 1) fun y11 => some (0, (y11, v10))))
noncomputable def f1_spread (o_this : ob) (o_p0 : ob) : Option (Int32 × ob) :=
  lt (o_this.1 1) fun y1 => (wh (f1_spread_L7 o_p0) (0, o_this)).bind fun q2 => (if (q2.2.2.1 1) = y1 then (some (0, q2.2.2)) else (some (1, q2.2.2)))
set_option maxRecDepth 100000 in
set_option maxHeartbeats 4000000 in
theorem c1_spread (l : Launch) (D : va_G) (K : Nat → ClassId) (a0 : Nat → Nat) (a1 : Nat → Nat) (o_this : ob) (o_p0 : ob) (r : Int32 × ob) (hf : f1_spread o_this o_p0 = some r) : CTi l yX1_spread cX1_spread 6 (some .boolean) 1 24 D K [.ref (a0 0), .ref (a1 0)] [wX1 K a0 o_this, wX4 K a1 o_p0] [wX1 K a0 r.2, wX4 K a1 o_p0] r.1 := by
  unfold f1_spread at hf
  have hf := tob hf
  refine entI (by decide) (Nat.le_of_ble_eq_true rfl) (fun P e s m args below meth c A ls F h hl hin => ?_)
  have hx := F.1
  have hb := F.2.1
  have hl : lv_has ls 6 [(0, .ref (a0 0)), (1, .ref (a1 0))] := hl
  refine lv_aload_n hx hb dX1_spread_0 rfl (lv_at hl 0 rfl) ?_
  refine r_get F h (i := 0) (k := 1) (.int (o_this.1 1)) inX1 rfl (by decide) w474 rfl rfl rfl dX1_spread_1 ?_
  refine lv_topi (fun y1 e1 => ?_)
  have hf := ltb hf e1
  refine lv_istore_n (lv' := [(2, .int y1), (0, .ref (a0 0)), (1, .ref (a1 0))]) hx hb dX1_spread_4 rfl hl (by decide) rfl (fun ls hl => ?_)
  refine lv_iconst (v := 0) hx hb dX1_spread_5 (by decide) ?_
  refine lv_istore_n (lv' := [(3, .int 0), (2, .int y1), (0, .ref (a0 0)), (1, .ref (a1 0))]) hx hb dX1_spread_6 rfl hl (by decide) rfl (fun ls hl => ?_)
  obtain ⟨q2, hq2, hf⟩ := asb hf
  obtain ⟨nq2, hq2⟩ := wh_out hq2
  have Xq2_1 : ∀ (z2 : Int32 × ob) (H : Heap) (locs : List Loc) (ls : Array Slot), q2 = (1, z2) → WD D A s.heap H locs [wX1 K a0 z2.2, wX4 K a1 o_p0] → lv_has ls 6 [(0, .ref (a0 0)), (2, .int y1)] → W P l e (rmS 1 24) s m args below meth c H locs 0 0 (MQ below (QiS D A [wX1 K a0 r.2, wX4 K a1 o_p0] r.1) args s 0 0 A) (F0 m 122 ls []) := by
    intro z2 H locs ls eq2 h hl
    obtain rfl : z2 = q2.2 := by rw [eq2]
    refine lv_aload_n hx hb dX1_spread_122 rfl (lv_at hl 0 rfl) ?_
    refine r_get F h (i := 0) (k := 1) (.int (q2.2.2.1 1)) inX1 rfl (by decide) w474 rfl rfl rfl dX1_spread_123 ?_
    refine lv_iload_n hx hb dX1_spread_126 rfl (lv_at hl 1 rfl) ?_
    refine lv_icmp_eq (tgt := 134) hx hb dX1_spread_127 (by decide) (fun c3 => ?_) (fun c3 => ?_)
    · have hf := ifp hf c3
      refine lv_iconst (v := 0) hx hb dX1_spread_134 (by decide) ?_
      obtain rfl := sor hf
      exact r_retz F h rfl dX1_spread_135
    · have hf := ifn hf c3
      refine lv_iconst (v := 1) hx hb dX1_spread_130 (by decide) ?_
      refine lv_goto (tgt := 135) hx hb dX1_spread_131 (by decide) ?_
      obtain rfl := sor hf
      exact r_retz F h rfl dX1_spread_135
  have Lq2 : ∀ (n : Nat) (z2 : Int32 × ob) (H : Heap) (locs : List Loc) (ls : Array Slot), iter (f1_spread_L7 o_p0) n z2 = some q2 → WD D A s.heap H locs [wX1 K a0 z2.2, wX4 K a1 o_p0] → lv_has ls 6 [(0, .ref (a0 0)), (1, .ref (a1 0)), (2, .int y1), (3, .int z2.1)] → W P l e (rmS 1 24) s m args below meth c H locs 0 0 (MQ below (QiS D A [wX1 K a0 r.2, wX4 K a1 o_p0] r.1) args s 0 0 A) (F0 m 7 ls []) := by
    intro n
    induction n with
    | zero => intro z2 H locs ls hi; exact (iter_0 hi).elim
    | succ n ihq2 =>
      intro z2 H locs ls hi h hl
      obtain ⟨uq2, hf, huq2⟩ := iter_s hi
      unfold f1_spread_L7 at hf
      have hf := tob hf
      refine lv_iload_n hx hb dX1_spread_7 rfl (lv_at hl 3 rfl) ?_
      refine lv_aload_n hx hb dX1_spread_8 rfl (lv_at hl 1 rfl) ?_
      refine r_get F h (i := 1) (k := 1) (.int (o_p0.1 1)) inX4 rfl (by decide) w481 rfl rfl rfl dX1_spread_9 ?_
      refine lv_icmp_ge (tgt := 122) hx hb dX1_spread_12 (by decide) (fun c4 => ?_) (fun c4 => ?_)
      · have hf := ifp hf c4
        exact Xq2_1 _ _ _ _ (itr_x huq2 (sor hf)) h (lv_sub hl [0, 2] rfl)
      · have hf := ifn hf c4
        refine lv_aload_n hx hb dX1_spread_15 rfl (lv_at hl 1 rfl) ?_
        refine r_get F h (i := 1) (k := 5) (.ref (a1 6)) inX4 rfl (by decide) w485 rfl rfl rfl dX1_spread_16 ?_
        refine lv_iload_n hx hb dX1_spread_19 rfl (lv_at hl 3 rfl) ?_
        obtain ⟨g5, hf⟩ := gdb hf
        refine r_iald F h (i := 1) (j := 4) rfl rfl (vin_ok g5) dX1_spread_20 ?_
        refine lv_topi (fun y6 e6 => ?_)
        have hf := ltb hf e6
        refine lv_istore (lv' := [(4, .int y6), (0, .ref (a0 0)), (1, .ref (a1 0)), (2, .int y1), (3, .int z2.1)]) hx hb dX1_spread_21 hl (by decide) rfl (fun ls hl => ?_)
        refine lv_aload_n hx hb dX1_spread_23 rfl (lv_at hl 1 rfl) ?_
        refine lv_aload_n hx hb dX1_spread_24 rfl (lv_at hl 2 rfl) ?_
        refine r_get F h (i := 1) (k := 2) (.ref (a1 3)) inX4 rfl (by decide) w482 rfl rfl rfl dX1_spread_25 ?_
        refine lv_iload_n hx hb dX1_spread_28 rfl (lv_at hl 4 rfl) ?_
        obtain ⟨g7, hf⟩ := gdb hf
        refine r_iald F h (i := 1) (j := 1) rfl rfl (vin_ok g7) dX1_spread_29 ?_
        refine lv_aload_n hx hb dX1_spread_30 rfl (lv_at hl 2 rfl) ?_
        refine r_get F h (i := 1) (k := 3) (.ref (a1 4)) inX4 rfl (by decide) w483 rfl rfl rfl dX1_spread_31 ?_
        refine lv_iload_n hx hb dX1_spread_34 rfl (lv_at hl 4 rfl) ?_
        obtain ⟨g8, hf⟩ := gdb hf
        refine r_iald F h (i := 1) (j := 2) rfl rfl (vin_ok g8) dX1_spread_35 ?_
        obtain ⟨q9, h9, hf⟩ := asb hf
        refine r_callVi (As := [.int (o_p0.2 2 z2.1.toNatClampNeg), .int (o_p0.2 3 z2.1.toNatClampNeg)]) (rest := []) (C0 := [wX1 K a0 z2.2]) (C1 := [wX1 K a0 z2.2]) (Rr := [wX4 K a1 o_p0]) (S' := [wX1 K a0 z2.2, wX4 K a1 o_p0]) F h hl (c1_hasHead l D K a0 (o_p0.2 2 z2.1.toNatClampNeg) (o_p0.2 3 z2.1.toNatClampNeg) z2.2 q9 h9) [0, 1] rfl rfl rfl rfl rfl (i := 0) rfl rfl w497 ⟨w498, w499, w500, w480⟩ hsc1_hasHead ⟨Nat.le_of_ble_eq_true rfl, Nat.le_of_ble_eq_true rfl⟩ ⟨Nat.le_refl 0, Nat.le_refl 0⟩ (Nat.le_of_ble_eq_true rfl) dX1_spread_36 (fun H locs h => ?_)
        obtain ⟨J10, eJ10, hf⟩ := rgn hf
        have JW10 : ∀ (v10 : ob) (H : Heap) (locs : List Loc) (ls : Array Slot), WD D A s.heap H locs [wX1 K a0 v10, wX4 K a1 o_p0] → lv_has ls 6 [(0, .ref (a0 0)), (1, .ref (a1 0)), (2, .int y1), (3, .int z2.1)] → J10 v10 = some uq2 → W P l e (rmS 1 24) s m args below meth c H locs 0 0 (MQ below (QiS D A [wX1 K a0 r.2, wX4 K a1 o_p0] r.1) args s 0 0 A) (F0 m 116 ls []) := by
          intro v10 H locs ls h hl hf
          have hf := jof eJ10 hf
          obtain ⟨y11, e11⟩ : ∃ y : Int32, y = z2.1 + 1 := ⟨_, rfl⟩
          have hf := ltb hf e11
          refine lv_iinc (v := y11) (lv' := [(3, .int y11), (0, .ref (a0 0)), (1, .ref (a1 0)), (2, .int y1)]) hx hb dX1_spread_116 hl (k := 3) rfl (by rw [e11]; rfl) (by decide) rfl (fun ls hl => ?_)
          refine lv_goto (tgt := 7) hx hb dX1_spread_119 (by decide) ?_
          exact ihq2 _ _ _ _ (itr_c huq2 (sor hf)) h (lv_sub hl [1, 2, 3, 0] rfl)
        refine lv_if_eq (tgt := 116) hx hb dX1_spread_39 (by decide) (fun c12 => ?_) (fun c12 => ?_)
        · have hf := ifp hf c12
          exact JW10 z2.2 _ _ _ h (lv_sub hl [1, 2, 3, 4] rfl) (sob hf)
        · have hf := ifn hf c12
          refine lv_iload hx hb dX1_spread_42 (lv_at hl 0 rfl) ?_
          obtain ⟨q13, h13, hf⟩ := asb hf
          refine r_callN (As := [.int y6]) (rest := []) F h hl (c5_lettersIn l D K y6 q13 h13) w267 ⟨by decide +kernel, w265, w266⟩ hsc5_lettersIn ⟨Nat.le_of_ble_eq_true rfl, Nat.le_of_ble_eq_true rfl⟩ ⟨Nat.le_refl 0, Nat.le_refl 0⟩ (Nat.le_of_ble_eq_true rfl) dX1_spread_44 (fun H locs h => ?_)
          refine lv_if_le (tgt := 116) hx hb dX1_spread_47 (by decide) (fun c14 => ?_) (fun c14 => ?_)
          · have hf := ifp hf c14
            exact JW10 z2.2 _ _ _ h (lv_sub hl [1, 2, 3, 4] rfl) (sob hf)
          · have hf := ifn hf c14
            refine lv_iconst (v := 1) hx hb dX1_spread_50 (by decide) ?_
            refine lv_aload_n hx hb dX1_spread_51 rfl (lv_at hl 2 rfl) ?_
            refine r_get F h (i := 1) (k := 4) (.ref (a1 5)) inX4 rfl (by decide) w484 rfl rfl rfl dX1_spread_52 ?_
            refine lv_iload_n hx hb dX1_spread_55 rfl (lv_at hl 4 rfl) ?_
            obtain ⟨g15, hf⟩ := gdb hf
            refine r_iald F h (i := 1) (j := 3) rfl rfl (vin_ok g15) dX1_spread_56 ?_
            refine lv_ishl hx hb dX1_spread_57 ?_
            refine lv_topi (fun y16 e16 => ?_)
            have hf := ltb hf e16
            refine lv_istore (lv' := [(5, .int y16), (4, .int y6), (0, .ref (a0 0)), (1, .ref (a1 0)), (2, .int y1), (3, .int z2.1)]) hx hb dX1_spread_58 hl (by decide) rfl (fun ls hl => ?_)
            refine lv_aload_n hx hb dX1_spread_60 rfl (lv_at hl 2 rfl) ?_
            refine lv_dup hx hb dX1_spread_61 rfl ?_
            refine r_get F h (i := 0) (k := 1) (.int (z2.2.1 1)) inX1 rfl (by decide) w474 rfl rfl rfl dX1_spread_62 ?_
            refine lv_iload hx hb dX1_spread_65 (lv_at hl 0 rfl) ?_
            refine lv_iload hx hb dX1_spread_67 (lv_at hl 1 rfl) ?_
            obtain ⟨q17, h17, hf⟩ := asb hf
            refine r_callN (As := [.int y6]) (rest := [.int y16, .int (z2.2.1 1), .ref (a0 0)]) F h hl (c5_firstLetter l D K y6 q17 h17) w269 ⟨by decide +kernel, w268, w266⟩ hsc5_firstLetter ⟨Nat.le_of_ble_eq_true rfl, Nat.le_of_ble_eq_true rfl⟩ ⟨Nat.le_refl 0, Nat.le_refl 0⟩ (Nat.le_of_ble_eq_true rfl) dX1_spread_69 (fun H locs h => ?_)
            obtain ⟨q18, h18, hf⟩ := asb hf
            refine r_callS (As := [.int y16, .int q17]) (rest := [.int (z2.2.1 1), .ref (a0 0)]) F h hl (c1_headsOf l D K y16 q17 q18 h18) w496 ⟨w494, w495, w480⟩ hsc1_headsOf ⟨Nat.le_of_ble_eq_true rfl, Nat.le_of_ble_eq_true rfl⟩ ⟨Nat.le_refl 0, Nat.le_refl 0⟩ (Nat.le_of_ble_eq_true rfl) dX1_spread_72 (fun H locs h => ?_)
            refine lv_ior hx hb dX1_spread_75 ?_
            refine r_put (o1 := sI z2.2 1 ((z2.2.1 1) ||| q18)) (w := fun t19 => wX1 K a0 t19) (S' := fun t19 => [wX1 K a0 t19, wX4 K a1 o_p0]) F h (i := 0) (k := 1) inX1 tyX1_ok nmX1 rfl (by decide) w474 rfl rfl rfl rfl rfl (Nat.le_of_ble_eq_true rfl) rfl (fun _ => rfl) dX1_spread_76 (fun t19 e19 H locs h => ?_)
            have hf := ltb hf e19
            refine lv_iload hx hb dX1_spread_79 (lv_at hl 1 rfl) ?_
            obtain ⟨q20, h20, hf⟩ := asb hf
            refine r_callN (As := [.int y6]) (rest := []) F h hl (c5_lettersIn l D K y6 q20 h20) w267 ⟨by decide +kernel, w265, w266⟩ hsc5_lettersIn ⟨Nat.le_of_ble_eq_true rfl, Nat.le_of_ble_eq_true rfl⟩ ⟨Nat.le_refl 0, Nat.le_refl 0⟩ (Nat.le_of_ble_eq_true rfl) dX1_spread_81 (fun H locs h => ?_)
            refine lv_iconst (v := 2) hx hb dX1_spread_84 (by decide) ?_
            refine lv_icmp_ne (tgt := 116) hx hb dX1_spread_85 (by decide) (fun c21 => ?_) (fun c21 => ?_)
            · have hf := ifn hf c21
              exact JW10 t19 _ _ _ h (lv_sub hl [2, 3, 4, 5] rfl) (sob hf)
            · have hf := ifp hf c21
              refine lv_aload_n hx hb dX1_spread_88 rfl (lv_at hl 2 rfl) ?_
              refine lv_dup hx hb dX1_spread_89 rfl ?_
              refine r_get F h (i := 0) (k := 1) (.int (t19.1 1)) inX1 rfl (by decide) w474 rfl rfl rfl dX1_spread_90 ?_
              refine lv_aload_n hx hb dX1_spread_93 rfl (lv_at hl 2 rfl) ?_
              refine lv_iload hx hb dX1_spread_94 (lv_at hl 0 rfl) ?_
              refine lv_iload hx hb dX1_spread_96 (lv_at hl 1 rfl) ?_
              obtain ⟨q22, h22, hf⟩ := asb hf
              refine r_callN (As := [.int y6]) (rest := [.int y16, .ref (a0 0), .int (t19.1 1), .ref (a0 0)]) F h hl (c5_firstLetter l D K y6 q22 h22) w269 ⟨by decide +kernel, w268, w266⟩ hsc5_firstLetter ⟨Nat.le_of_ble_eq_true rfl, Nat.le_of_ble_eq_true rfl⟩ ⟨Nat.le_refl 0, Nat.le_refl 0⟩ (Nat.le_of_ble_eq_true rfl) dX1_spread_98 (fun H locs h => ?_)
              obtain ⟨q23, h23, hf⟩ := asb hf
              refine r_callVi (As := [.int y16, .int q22]) (rest := [.int (t19.1 1), .ref (a0 0)]) (C0 := [wX1 K a0 t19]) (C1 := [wX1 K a0 t19]) (Rr := [wX4 K a1 o_p0]) (S' := [wX1 K a0 t19, wX4 K a1 o_p0]) F h hl (c1_afterLetter l D K a0 y16 q22 t19 q23 h23) [0, 1] rfl rfl rfl rfl rfl (i := 0) rfl rfl w476 ⟨w477, w478, w479, w480⟩ hsc1_afterLetter ⟨Nat.le_of_ble_eq_true rfl, Nat.le_of_ble_eq_true rfl⟩ ⟨Nat.le_refl 0, Nat.le_refl 0⟩ (Nat.le_of_ble_eq_true rfl) dX1_spread_101 (fun H locs h => ?_)
              refine lv_iload hx hb dX1_spread_104 (lv_at hl 1 rfl) ?_
              obtain ⟨q24, h24, hf⟩ := asb hf
              refine r_callN (As := [.int y6]) (rest := [.int q23, .int (t19.1 1), .ref (a0 0)]) F h hl (c5_secondLetter l D K y6 q24 h24) w271 ⟨by decide +kernel, w270, w266⟩ hsc5_secondLetter ⟨Nat.le_of_ble_eq_true rfl, Nat.le_of_ble_eq_true rfl⟩ ⟨Nat.le_refl 0, Nat.le_refl 0⟩ (Nat.le_of_ble_eq_true rfl) dX1_spread_106 (fun H locs h => ?_)
              obtain ⟨q25, h25, hf⟩ := asb hf
              refine r_callS (As := [.int q23, .int q24]) (rest := [.int (t19.1 1), .ref (a0 0)]) F h hl (c1_headsOf l D K q23 q24 q25 h25) w496 ⟨w494, w495, w480⟩ hsc1_headsOf ⟨Nat.le_of_ble_eq_true rfl, Nat.le_of_ble_eq_true rfl⟩ ⟨Nat.le_refl 0, Nat.le_refl 0⟩ (Nat.le_of_ble_eq_true rfl) dX1_spread_109 (fun H locs h => ?_)
              refine lv_ior hx hb dX1_spread_112 ?_
              refine r_put (o1 := sI t19 1 ((t19.1 1) ||| q25)) (w := fun t26 => wX1 K a0 t26) (S' := fun t26 => [wX1 K a0 t26, wX4 K a1 o_p0]) F h (i := 0) (k := 1) inX1 tyX1_ok nmX1 rfl (by decide) w474 rfl rfl rfl rfl rfl (Nat.le_of_ble_eq_true rfl) rfl (fun _ => rfl) dX1_spread_113 (fun t26 e26 H locs h => ?_)
              have hf := ltb hf e26
              exact JW10 t26 _ _ _ h (lv_sub hl [2, 3, 4, 5] rfl) (sob hf)
  exact Lq2 _ _ _ _ _ hq2 h (lv_sub hl [2, 3, 1, 0] rfl)
noncomputable def f1_explore_L14 (g1 : ob) (z3 : Int32 × Int32 × ob) : Option (Nat × (Int32 × Int32 × ob)) :=
  (if 1000 ≤ z3.2.1 then (some (1, (z3.1, z3.2.1, z3.2.2))) else ((if z3.1 = 0 then (some (1, (z3.1, z3.2.1, z3.2.2))) else ((f1_spread z3.2.2 g1).bind fun q6 => lt (z3.2.1 + 1) fun y7 => some (0, (q6.1, y7, q6.2))))))
noncomputable def f1_explore (o_this : ob) (o_p0 : ob) : Option (ob) :=
  (f1_settleFalls o_this o_p0).bind fun q1 => (f1_descend q1 o_p0).bind fun q2 => (wh (f1_explore_L14 o_p0) (1, 0, q2)).bind fun q3 => some q3.2.2.2
set_option maxRecDepth 100000 in
set_option maxHeartbeats 4000000 in
theorem c1_explore (l : Launch) (D : va_G) (K : Nat → ClassId) (a0 : Nat → Nat) (a1 : Nat → Nat) (o_this : ob) (o_p0 : ob) (r : ob) (hf : f1_explore o_this o_p0 = some r) : CTv l yX1_explore cX1_explore 4 3 73 D K [.ref (a0 0), .ref (a1 0)] [wX1 K a0 o_this, wX4 K a1 o_p0] [wX1 K a0 r, wX4 K a1 o_p0] := by
  unfold f1_explore at hf
  have hf := tob hf
  refine entV (by decide) (Nat.le_of_ble_eq_true rfl) (fun P e s m args below meth c A ls F h hl hin => ?_)
  have hx := F.1
  have hb := F.2.1
  have hl : lv_has ls 4 [(0, .ref (a0 0)), (1, .ref (a1 0))] := hl
  refine lv_aload_n hx hb dX1_explore_0 rfl (lv_at hl 0 rfl) ?_
  refine lv_aload_n hx hb dX1_explore_1 rfl (lv_at hl 1 rfl) ?_
  obtain ⟨q1, h1, hf⟩ := asb hf
  refine r_callVv (As := [.ref (a1 0)]) (rest := []) (C0 := [wX1 K a0 o_this, wX4 K a1 o_p0]) (C1 := [wX1 K a0 q1, wX4 K a1 o_p0]) (Rr := []) (S' := [wX1 K a0 q1, wX4 K a1 o_p0]) F h hl (c1_settleFalls l D K a0 a1 o_this o_p0 q1 h1) [0, 1] rfl rfl rfl rfl rfl (i := 0) rfl rfl w501 ⟨w502, w503, w504, w480⟩ hsc1_settleFalls ⟨Nat.le_of_ble_eq_true rfl, Nat.le_of_ble_eq_true rfl⟩ ⟨Nat.le_refl 0, Nat.le_refl 0⟩ (Nat.le_of_ble_eq_true rfl) dX1_explore_2 (fun H locs h => ?_)
  refine lv_aload_n hx hb dX1_explore_5 rfl (lv_at hl 0 rfl) ?_
  refine lv_aload_n hx hb dX1_explore_6 rfl (lv_at hl 1 rfl) ?_
  obtain ⟨q2, h2, hf⟩ := asb hf
  refine r_callVv (As := [.ref (a1 0)]) (rest := []) (C0 := [wX1 K a0 q1, wX4 K a1 o_p0]) (C1 := [wX1 K a0 q2, wX4 K a1 o_p0]) (Rr := []) (S' := [wX1 K a0 q2, wX4 K a1 o_p0]) F h hl (c1_descend l D K a0 a1 q1 o_p0 q2 h2) [0, 1] rfl rfl rfl rfl rfl (i := 0) rfl rfl w505 ⟨w506, w507, w508, w480⟩ hsc1_descend ⟨Nat.le_of_ble_eq_true rfl, Nat.le_of_ble_eq_true rfl⟩ ⟨Nat.le_refl 0, Nat.le_refl 0⟩ (Nat.le_of_ble_eq_true rfl) dX1_explore_7 (fun H locs h => ?_)
  refine lv_iconst (v := 1) hx hb dX1_explore_10 (by decide) ?_
  refine lv_istore_n (lv' := [(2, .int 1), (0, .ref (a0 0)), (1, .ref (a1 0))]) hx hb dX1_explore_11 rfl hl (by decide) rfl (fun ls hl => ?_)
  refine lv_iconst (v := 0) hx hb dX1_explore_12 (by decide) ?_
  refine lv_istore_n (lv' := [(3, .int 0), (2, .int 1), (0, .ref (a0 0)), (1, .ref (a1 0))]) hx hb dX1_explore_13 rfl hl (by decide) rfl (fun ls hl => ?_)
  obtain ⟨q3, hq3, hf⟩ := asb hf
  obtain ⟨nq3, hq3⟩ := wh_out hq3
  have Xq3_1 : ∀ (z3 : Int32 × Int32 × ob) (H : Heap) (locs : List Loc) (ls : Array Slot), q3 = (1, z3) → WD D A s.heap H locs [wX1 K a0 z3.2.2, wX4 K a1 o_p0] → lv_has ls 4 [] → W P l e (rmS 3 73) s m args below meth c H locs 0 0 (MQ below (QvS D A [wX1 K a0 r, wX4 K a1 o_p0]) args s 0 0 A) (F0 m 37 ls []) := by
    intro z3 H locs ls eq3 h hl
    obtain rfl : z3 = q3.2 := by rw [eq3]
    obtain rfl := sor hf
    exact r_retv F h dX1_explore_37
  have Lq3 : ∀ (n : Nat) (z3 : Int32 × Int32 × ob) (H : Heap) (locs : List Loc) (ls : Array Slot), iter (f1_explore_L14 o_p0) n z3 = some q3 → WD D A s.heap H locs [wX1 K a0 z3.2.2, wX4 K a1 o_p0] → lv_has ls 4 [(0, .ref (a0 0)), (1, .ref (a1 0)), (2, .int z3.1), (3, .int z3.2.1)] → W P l e (rmS 3 73) s m args below meth c H locs 0 0 (MQ below (QvS D A [wX1 K a0 r, wX4 K a1 o_p0]) args s 0 0 A) (F0 m 14 ls []) := by
    intro n
    induction n with
    | zero => intro z3 H locs ls hi; exact (iter_0 hi).elim
    | succ n ihq3 =>
      intro z3 H locs ls hi h hl
      obtain ⟨uq3, hf, huq3⟩ := iter_s hi
      unfold f1_explore_L14 at hf
      have hf := tob hf
      refine lv_iload_n hx hb dX1_explore_14 rfl (lv_at hl 3 rfl) ?_
      refine lv_sipush (v := 1000) hx hb dX1_explore_15 (by decide) ?_
      refine lv_icmp_ge (tgt := 37) hx hb dX1_explore_18 (by decide) (fun c4 => ?_) (fun c4 => ?_)
      · have hf := ifp hf c4
        exact Xq3_1 _ _ _ _ (itr_x huq3 (sor hf)) h (lv_sub hl [] rfl)
      · have hf := ifn hf c4
        refine lv_iload_n hx hb dX1_explore_21 rfl (lv_at hl 2 rfl) ?_
        refine lv_if_eq (tgt := 37) hx hb dX1_explore_22 (by decide) (fun c5 => ?_) (fun c5 => ?_)
        · have hf := ifp hf c5
          exact Xq3_1 _ _ _ _ (itr_x huq3 (sor hf)) h (lv_sub hl [] rfl)
        · have hf := ifn hf c5
          refine lv_aload_n hx hb dX1_explore_25 rfl (lv_at hl 0 rfl) ?_
          refine lv_aload_n hx hb dX1_explore_26 rfl (lv_at hl 1 rfl) ?_
          obtain ⟨q6, h6, hf⟩ := asb hf
          refine r_callVi (As := [.ref (a1 0)]) (rest := []) (C0 := [wX1 K a0 z3.2.2, wX4 K a1 o_p0]) (C1 := [wX1 K a0 q6.2, wX4 K a1 o_p0]) (Rr := []) (S' := [wX1 K a0 q6.2, wX4 K a1 o_p0]) F h hl (c1_spread l D K a0 a1 z3.2.2 o_p0 q6 h6) [0, 1] rfl rfl rfl rfl rfl (i := 0) rfl rfl w509 ⟨w510, w511, w512, w480⟩ hsc1_spread ⟨Nat.le_of_ble_eq_true rfl, Nat.le_of_ble_eq_true rfl⟩ ⟨Nat.le_refl 0, Nat.le_refl 0⟩ (Nat.le_of_ble_eq_true rfl) dX1_explore_27 (fun H locs h => ?_)
          refine lv_istore_n (lv' := [(2, .int q6.1), (0, .ref (a0 0)), (1, .ref (a1 0)), (3, .int z3.2.1)]) hx hb dX1_explore_30 rfl hl (by decide) rfl (fun ls hl => ?_)
          obtain ⟨y7, e7⟩ : ∃ y : Int32, y = z3.2.1 + 1 := ⟨_, rfl⟩
          have hf := ltb hf e7
          refine lv_iinc (v := y7) (lv' := [(3, .int y7), (2, .int q6.1), (0, .ref (a0 0)), (1, .ref (a1 0))]) hx hb dX1_explore_31 hl (k := 3) rfl (by rw [e7]; rfl) (by decide) rfl (fun ls hl => ?_)
          refine lv_goto (tgt := 14) hx hb dX1_explore_34 (by decide) ?_
          exact ihq3 _ _ _ _ (itr_c huq3 (sor hf)) h (lv_sub hl [2, 3, 1, 0] rfl)
  exact Lq3 _ _ _ _ _ hq3 h (lv_sub hl [2, 3, 1, 0] rfl)
