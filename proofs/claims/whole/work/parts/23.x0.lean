def f0_isNode (x0 : Int32) (o_this : ob) : Option (Int32) :=
  (if x0 < 0 then (some 0) else ((if (o_this.1 0) ≤ x0 then (some 0) else (some 1))))
set_option maxRecDepth 100000 in
set_option maxHeartbeats 4000000 in
theorem c0_isNode (l : Launch) (D : va_G) (K : Nat → ClassId) (a0 : Nat → Nat) (x0 : Int32) (o_this : ob) (r : Int32) (hf : f0_isNode x0 o_this = some r) : CTi l yX0_isNode cX0_isNode 2 (some .boolean) 0 0 D K [.ref (a0 0), .int x0] [wX0 K a0 o_this] [wX0 K a0 o_this] r := by
  unfold f0_isNode at hf
  have hf := tob hf
  refine entI (by decide) (Nat.le_of_ble_eq_true rfl) (fun P e s m args below meth c A ls F h hl hin => ?_)
  have hx := F.1
  have hb := F.2.1
  have hl : lv_has ls 2 [(0, .ref (a0 0)), (1, .int x0)] := hl
  refine lv_iload_n hx hb dX0_isNode_0 rfl (lv_at hl 1 rfl) ?_
  refine lv_if_lt (tgt := 16) hx hb dX0_isNode_1 (by decide) (fun c1 => ?_) (fun c1 => ?_)
  · have hf := ifp hf c1
    refine lv_iconst (v := 0) hx hb dX0_isNode_16 (by decide) ?_
    obtain rfl := sor hf
    exact r_retz F h rfl dX0_isNode_17
  · have hf := ifn hf c1
    refine lv_iload_n hx hb dX0_isNode_4 rfl (lv_at hl 1 rfl) ?_
    refine lv_aload_n hx hb dX0_isNode_5 rfl (lv_at hl 0 rfl) ?_
    refine r_get F h (i := 0) (k := 0) (.int (o_this.1 0)) inX0 rfl (by decide) w357 rfl rfl rfl dX0_isNode_6 ?_
    refine lv_icmp_ge (tgt := 16) hx hb dX0_isNode_9 (by decide) (fun c2 => ?_) (fun c2 => ?_)
    · have hf := ifp hf c2
      refine lv_iconst (v := 0) hx hb dX0_isNode_16 (by decide) ?_
      obtain rfl := sor hf
      exact r_retz F h rfl dX0_isNode_17
    · have hf := ifn hf c2
      refine lv_iconst (v := 1) hx hb dX0_isNode_12 (by decide) ?_
      refine lv_goto (tgt := 17) hx hb dX0_isNode_13 (by decide) ?_
      obtain rfl := sor hf
      exact r_retz F h rfl dX0_isNode_17
def f0_joined (x0 : Int64) (x1 : Int64) (o_this : ob) : Option (Int64) :=
  (if (o_this.1 8) = 0 then (some (x0 + x1)) else (some (if x1 < x0 then x0 else x1)))
set_option maxRecDepth 100000 in
set_option maxHeartbeats 4000000 in
theorem c0_joined (l : Launch) (D : va_G) (K : Nat → ClassId) (a0 : Nat → Nat) (x0 : Int64) (x1 : Int64) (o_this : ob) (r : Int64) (hf : f0_joined x0 x1 o_this = some r) : CTl l yX0_joined cX0_joined 5 (some .long) 1 23 D K [.ref (a0 0), .long x0, .long x1] [wX0 K a0 o_this] [wX0 K a0 o_this] r := by
  unfold f0_joined at hf
  have hf := tob hf
  refine entL (by decide) (Nat.le_of_ble_eq_true rfl) (fun P e s m args below meth c A ls F h hl hin => ?_)
  have hx := F.1
  have hb := F.2.1
  have hl : lv_has ls 5 [(0, .ref (a0 0)), (1, .long x0), (3, .long x1)] := hl
  refine lv_aload_n hx hb dX0_joined_0 rfl (lv_at hl 0 rfl) ?_
  refine r_get F h (i := 0) (k := 8) (.int (o_this.1 8)) inX0 rfl (by decide) w358 rfl rfl rfl dX0_joined_1 ?_
  refine lv_if_eq (tgt := 15) hx hb dX0_joined_4 (by decide) (fun c1 => ?_) (fun c1 => ?_)
  · have hf := ifp hf c1
    refine lv_lload_n hx hb dX0_joined_15 rfl (lv_at hl 1 rfl) ?_
    refine lv_lload_n hx hb dX0_joined_16 rfl (lv_at hl 2 rfl) ?_
    refine lv_ladd hx hb dX0_joined_17 ?_
    obtain rfl := sor hf
    exact r_retl F h dX0_joined_18
  · have hf := ifn hf c1
    refine lv_lload_n hx hb dX0_joined_7 rfl (lv_at hl 1 rfl) ?_
    refine lv_lload_n hx hb dX0_joined_8 rfl (lv_at hl 2 rfl) ?_
    refine r_mmaxL F hl ⟨w359, w360, w361, w362⟩ ⟨Nat.le_of_ble_eq_true rfl, Nat.le_of_ble_eq_true rfl⟩ ⟨Nat.le_refl 0, Nat.le_refl 0⟩ dX0_joined_9 ?_
    refine lv_goto (tgt := 18) hx hb dX0_joined_12 (by decide) ?_
    obtain rfl := sor hf
    exact r_retl F h dX0_joined_18
def f0_startAt_L2 (z1 : Int32 × ob) : Option (Nat × (Int32 × ob)) :=
  (if 13 ≤ z1.1 then (some (1, (z1.1, z1.2))) else (gd (vin z1.1 13) <| lt (sL z1.2 9 z1.1.toNatClampNeg 1000000000000) fun t6 => lt (z1.1 + 1) fun y7 => some (0, (y7, t6))))
noncomputable def f0_startAt (x0 : Int32) (o_this : ob) : Option (ob) :=
  (wh f0_startAt_L2 (0, o_this)).bind fun q1 => gd (vin x0 13) <| lt (sL q1.2.2 9 x0.toNatClampNeg 0) fun t3 => some t3
set_option maxRecDepth 100000 in
set_option maxHeartbeats 4000000 in
theorem c0_startAt (l : Launch) (D : va_G) (K : Nat → ClassId) (a0 : Nat → Nat) (x0 : Int32) (o_this : ob) (r : ob) (hf : f0_startAt x0 o_this = some r) : CTv l yX0_startAt cX0_startAt 3 0 0 D K [.ref (a0 0), .int x0] [wX0 K a0 o_this] [wX0 K a0 r] := by
  unfold f0_startAt at hf
  have hf := tob hf
  refine entV (by decide) (Nat.le_of_ble_eq_true rfl) (fun P e s m args below meth c A ls F h hl hin => ?_)
  have hx := F.1
  have hb := F.2.1
  have hl : lv_has ls 3 [(0, .ref (a0 0)), (1, .int x0)] := hl
  refine lv_iconst (v := 0) hx hb dX0_startAt_0 (by decide) ?_
  refine lv_istore_n (lv' := [(2, .int 0), (0, .ref (a0 0)), (1, .int x0)]) hx hb dX0_startAt_1 rfl hl (by decide) rfl (fun ls hl => ?_)
  obtain ⟨q1, hq1, hf⟩ := asb hf
  obtain ⟨nq1, hq1⟩ := wh_out hq1
  have Xq1_1 : ∀ (z1 : Int32 × ob) (H : Heap) (locs : List Loc) (ls : Array Slot), q1 = (1, z1) → WD D A s.heap H locs [wX0 K a0 z1.2] → lv_has ls 3 [(0, .ref (a0 0)), (1, .int x0)] → W P l e (rmS 0 0) s m args below meth c H locs 0 0 (MQ below (QvS D A [wX0 K a0 r]) args s 0 0 A) (F0 m 23 ls []) := by
    intro z1 H locs ls eq1 h hl
    obtain rfl : z1 = q1.2 := by rw [eq1]
    refine lv_aload_n hx hb dX0_startAt_23 rfl (lv_at hl 0 rfl) ?_
    refine r_get F h (i := 0) (k := 9) (.ref (rdX0 a0 q1.2.2)) inX0 rfl (by decide) w363 rfl rfl rfl dX0_startAt_24 ?_
    refine lv_iload_n hx hb dX0_startAt_27 rfl (lv_at hl 1 rfl) ?_
    refine lv_lconst (v := 0) hx hb dX0_startAt_28 (by decide) ?_
    obtain ⟨g2, hf⟩ := gdb hf
    refine r_last (g := rL ((sL q1.2.2 9 x0.toNatClampNeg 0).2 9)) (o1 := sL q1.2.2 9 x0.toNatClampNeg 0) (w := fun t3 => wX0 K a0 t3) (S' := fun t3 => [wX0 K a0 t3]) F h (i := 0) (j := 5) rfl rfl (vin_ok g2) (sL_g q1.2.2 9 x0.toNatClampNeg 0) rfl (fun _ => rfl) dX0_startAt_29 (fun t3 e3 H locs h => ?_)
    have hf := ltb hf e3
    obtain rfl := sor hf
    exact r_retv F h dX0_startAt_30
  have Lq1 : ∀ (n : Nat) (z1 : Int32 × ob) (H : Heap) (locs : List Loc) (ls : Array Slot), iter f0_startAt_L2 n z1 = some q1 → WD D A s.heap H locs [wX0 K a0 z1.2] → lv_has ls 3 [(0, .ref (a0 0)), (1, .int x0), (2, .int z1.1)] → W P l e (rmS 0 0) s m args below meth c H locs 0 0 (MQ below (QvS D A [wX0 K a0 r]) args s 0 0 A) (F0 m 2 ls []) := by
    intro n
    induction n with
    | zero => intro z1 H locs ls hi; exact (iter_0 hi).elim
    | succ n ihq1 =>
      intro z1 H locs ls hi h hl
      obtain ⟨uq1, hf, huq1⟩ := iter_s hi
      unfold f0_startAt_L2 at hf
      have hf := tob hf
      refine lv_iload_n hx hb dX0_startAt_2 rfl (lv_at hl 2 rfl) ?_
      refine lv_bipush (v := 13) hx hb dX0_startAt_3 (by decide) ?_
      refine lv_icmp_ge (tgt := 23) hx hb dX0_startAt_5 (by decide) (fun c4 => ?_) (fun c4 => ?_)
      · have hf := ifp hf c4
        exact Xq1_1 _ _ _ _ (itr_x huq1 (sor hf)) h (lv_sub hl [0, 1] rfl)
      · have hf := ifn hf c4
        refine lv_aload_n hx hb dX0_startAt_8 rfl (lv_at hl 0 rfl) ?_
        refine r_get F h (i := 0) (k := 9) (.ref (rdX0 a0 z1.2)) inX0 rfl (by decide) w363 rfl rfl rfl dX0_startAt_9 ?_
        refine lv_iload_n hx hb dX0_startAt_12 rfl (lv_at hl 2 rfl) ?_
        refine r_ldc2 F 1000000000000 w364 dX0_startAt_13 ?_
        obtain ⟨g5, hf⟩ := gdb hf
        refine r_last (g := rL ((sL z1.2 9 z1.1.toNatClampNeg 1000000000000).2 9)) (o1 := sL z1.2 9 z1.1.toNatClampNeg 1000000000000) (w := fun t6 => wX0 K a0 t6) (S' := fun t6 => [wX0 K a0 t6]) F h (i := 0) (j := 5) rfl rfl (vin_ok g5) (sL_g z1.2 9 z1.1.toNatClampNeg 1000000000000) rfl (fun _ => rfl) dX0_startAt_16 (fun t6 e6 H locs h => ?_)
        have hf := ltb hf e6
        obtain ⟨y7, e7⟩ : ∃ y : Int32, y = z1.1 + 1 := ⟨_, rfl⟩
        have hf := ltb hf e7
        refine lv_iinc (v := y7) (lv' := [(2, .int y7), (0, .ref (a0 0)), (1, .int x0)]) hx hb dX0_startAt_17 hl (k := 2) rfl (by rw [e7]; rfl) (by decide) rfl (fun ls hl => ?_)
        refine lv_goto (tgt := 2) hx hb dX0_startAt_20 (by decide) ?_
        exact ihq1 _ _ _ _ (itr_c huq1 (sor hf)) h (lv_sub hl [1, 2, 0] rfl)
  exact Lq1 _ _ _ _ _ hq1 h (lv_sub hl [1, 2, 0] rfl)
def f0_readOn_L56 (g6 : Int32) (g13 : Int32) (z10 : Int32 × ob) : Option (Nat × (Int32 × ob)) :=
  (if (z10.2.1 0) ≤ z10.1 then (some (1, (z10.1, z10.2))) else (gd (vin (g13 + z10.1) 676) <| ((if 1000000000000 ≤ (rL (z10.2.2 5) (g13 + z10.1).toNatClampNeg) then (some z10.2) else (gd (vin z10.1 13) <| gd (vin g6 13) <| gd (vin (g13 + z10.1) 676) <| (f0_joined (rL (z10.2.2 9) g6.toNatClampNeg) (rL (z10.2.2 5) (g13 + z10.1).toNatClampNeg) z10.2).bind fun q19 => gd (vin z10.1 13) <| lt (sL z10.2 10 z10.1.toNatClampNeg (if q19 < (rL (z10.2.2 10) z10.1.toNatClampNeg) then q19 else (rL (z10.2.2 10) z10.1.toNatClampNeg))) fun t21 => some t21))).bind fun v13 => lt (z10.1 + 1) fun y14 => some (0, (y14, v13))))
noncomputable def f0_readOn_L25 (g0 : Int32) (z2 : Int32 × ob) : Option (Nat × (Int32 × ob)) :=
  (if (z2.2.1 0) ≤ z2.1 then (some (1, (z2.1, z2.2))) else (gd (vin z2.1 13) <| ((if 1000000000000 ≤ (rL (z2.2.2 9) z2.1.toNatClampNeg) then (some z2.2) else ((f5_edgeAt z2.1 g0 0).bind fun q9 => (wh (f0_readOn_L56 z2.1 q9) (0, z2.2)).bind fun q10 => some q10.2.2))).bind fun v6 => lt (z2.1 + 1) fun y7 => some (0, (y7, v6))))
def f0_readOn_L2 (z1 : Int32 × ob) : Option (Nat × (Int32 × ob)) :=
  (if 13 ≤ z1.1 then (some (1, (z1.1, z1.2))) else (gd (vin z1.1 13) <| lt (sL z1.2 10 z1.1.toNatClampNeg 1000000000000) fun t24 => lt (z1.1 + 1) fun y25 => some (0, (y25, t24))))
noncomputable def f0_readOn (x0 : Int32) (o_this : ob) : Option (ob) :=
  (wh f0_readOn_L2 (0, o_this)).bind fun q1 => (wh (f0_readOn_L25 x0) (0, q1.2.2)).bind fun q2 => lt (swp q2.2.2) fun t3 => some t3
set_option maxRecDepth 100000 in
set_option maxHeartbeats 4000000 in
theorem c0_readOn (l : Launch) (D : va_G) (K : Nat → ClassId) (a0 : Nat → Nat) (x0 : Int32) (o_this : ob) (r : ob) (hf : f0_readOn x0 o_this = some r) : CTv l yX0_readOn cX0_readOn 5 2 47 D K [.ref (a0 0), .int x0] [wX0 K a0 o_this] [wX0 K a0 r] := by
  unfold f0_readOn at hf
  have hf := tob hf
  refine entV (by decide) (Nat.le_of_ble_eq_true rfl) (fun P e s m args below meth c A ls F h hl hin => ?_)
  have hx := F.1
  have hb := F.2.1
  have hl : lv_has ls 5 [(0, .ref (a0 0)), (1, .int x0)] := hl
  refine lv_iconst (v := 0) hx hb dX0_readOn_0 (by decide) ?_
  refine lv_istore_n (lv' := [(2, .int 0), (0, .ref (a0 0)), (1, .int x0)]) hx hb dX0_readOn_1 rfl hl (by decide) rfl (fun ls hl => ?_)
  obtain ⟨q1, hq1, hf⟩ := asb hf
  obtain ⟨nq1, hq1⟩ := wh_out hq1
  have Xq1_1 : ∀ (z1 : Int32 × ob) (H : Heap) (locs : List Loc) (ls : Array Slot), q1 = (1, z1) → WD D A s.heap H locs [wX0 K a0 z1.2] → lv_has ls 5 [(0, .ref (a0 0)), (1, .int x0)] → W P l e (rmS 2 47) s m args below meth c H locs 0 0 (MQ below (QvS D A [wX0 K a0 r]) args s 0 0 A) (F0 m 23 ls []) := by
    intro z1 H locs ls eq1 h hl
    obtain rfl : z1 = q1.2 := by rw [eq1]
    refine lv_iconst (v := 0) hx hb dX0_readOn_23 (by decide) ?_
    refine lv_istore_n (lv' := [(2, .int 0), (0, .ref (a0 0)), (1, .int x0)]) hx hb dX0_readOn_24 rfl hl (by decide) rfl (fun ls hl => ?_)
    obtain ⟨q2, hq2, hf⟩ := asb hf
    obtain ⟨nq2, hq2⟩ := wh_out hq2
    have Xq2_1 : ∀ (z2 : Int32 × ob) (H : Heap) (locs : List Loc) (ls : Array Slot), q2 = (1, z2) → WD D A s.heap H locs [wX0 K a0 z2.2] → lv_has ls 5 [(0, .ref (a0 0))] → W P l e (rmS 2 47) s m args below meth c H locs 0 0 (MQ below (QvS D A [wX0 K a0 r]) args s 0 0 A) (F0 m 129 ls []) := by
      intro z2 H locs ls eq2 h hl
      obtain rfl : z2 = q2.2 := by rw [eq2]
      refine lv_aload_n hx hb dX0_readOn_129 rfl (lv_at hl 0 rfl) ?_
      refine r_get F h (i := 0) (k := 10) (.ref (spX0 a0 q2.2.2)) inX0 rfl (by decide) w365 rfl rfl rfl dX0_readOn_130 ?_
      refine lv_astore_n (lv' := [(2, .ref (spX0 a0 q2.2.2)), (0, .ref (a0 0))]) hx hb dX0_readOn_133 rfl hl (by decide) rfl (fun ls hl => ?_)
      refine lv_aload_n hx hb dX0_readOn_134 rfl (lv_at hl 1 rfl) ?_
      refine lv_aload_n hx hb dX0_readOn_135 rfl (lv_at hl 1 rfl) ?_
      refine r_get F h (i := 0) (k := 9) (.ref (rdX0 a0 q2.2.2)) inX0 rfl (by decide) w363 rfl rfl rfl dX0_readOn_136 ?_
      refine r_put (o1 := q2.2.2) (w := fun t => wX0m K a0 t) (S' := fun t => [wX0m K a0 t]) F h (i := 0) (k := 10) inX0 tyX0_ok nmX0 rfl (by decide) w365 rfl rfl rfl rfl rfl (Nat.le_of_ble_eq_true rfl) rfl (fun _ => rfl) dX0_readOn_139 (fun t e H locs h => ?_)
      rw [e] at h
      clear e t
      refine lv_aload_n hx hb dX0_readOn_142 rfl (lv_at hl 1 rfl) ?_
      refine lv_aload_n hx hb dX0_readOn_143 rfl (lv_at hl 0 rfl) ?_
      refine r_put (o1 := q2.2.2) (w := fun t => wX0s K a0 t) (S' := fun t => [wX0s K a0 t]) F h (i := 0) (k := 9) inX0 tyX0_ok nmX0 rfl (by decide) w363 rfl rfl rfl rfl rfl (Nat.le_of_ble_eq_true rfl) rfl (fun _ => rfl) dX0_readOn_144 (fun t e H locs h => ?_)
      rw [e] at h
      clear e t
      obtain ⟨t3, e3⟩ : ∃ t : ob, t = swp q2.2.2 := ⟨_, rfl⟩
      have hf := ltb hf e3
      have h : WD D A s.heap H locs [wX0 K a0 (swp q2.2.2)] := h.perm ((swp_perm K a0 q2.2.2).append_right [])
      rw [← e3] at h
      obtain rfl := sor hf
      exact r_retv F h dX0_readOn_147
    have Lq2 : ∀ (n : Nat) (z2 : Int32 × ob) (H : Heap) (locs : List Loc) (ls : Array Slot), iter (f0_readOn_L25 x0) n z2 = some q2 → WD D A s.heap H locs [wX0 K a0 z2.2] → lv_has ls 5 [(0, .ref (a0 0)), (1, .int x0), (2, .int z2.1)] → W P l e (rmS 2 47) s m args below meth c H locs 0 0 (MQ below (QvS D A [wX0 K a0 r]) args s 0 0 A) (F0 m 25 ls []) := by
      intro n
      induction n with
      | zero => intro z2 H locs ls hi; exact (iter_0 hi).elim
      | succ n ihq2 =>
        intro z2 H locs ls hi h hl
        obtain ⟨uq2, hf, huq2⟩ := iter_s hi
        unfold f0_readOn_L25 at hf
        have hf := tob hf
        refine lv_iload_n hx hb dX0_readOn_25 rfl (lv_at hl 2 rfl) ?_
        refine lv_aload_n hx hb dX0_readOn_26 rfl (lv_at hl 0 rfl) ?_
        refine r_get F h (i := 0) (k := 0) (.int (z2.2.1 0)) inX0 rfl (by decide) w357 rfl rfl rfl dX0_readOn_27 ?_
        refine lv_icmp_ge (tgt := 129) hx hb dX0_readOn_30 (by decide) (fun c4 => ?_) (fun c4 => ?_)
        · have hf := ifp hf c4
          exact Xq2_1 _ _ _ _ (itr_x huq2 (sor hf)) h (lv_sub hl [0] rfl)
        · have hf := ifn hf c4
          refine lv_aload_n hx hb dX0_readOn_33 rfl (lv_at hl 0 rfl) ?_
          refine r_get F h (i := 0) (k := 9) (.ref (rdX0 a0 z2.2)) inX0 rfl (by decide) w363 rfl rfl rfl dX0_readOn_34 ?_
          refine lv_iload_n hx hb dX0_readOn_37 rfl (lv_at hl 2 rfl) ?_
          obtain ⟨g5, hf⟩ := gdb hf
          refine r_lald F h (i := 0) (j := 5) rfl rfl (vin_ok g5) dX0_readOn_38 ?_
          refine r_ldc2 F 1000000000000 w364 dX0_readOn_39 ?_
          refine W.lcmp hx hb dX0_readOn_42 ?_
          obtain ⟨J6, eJ6, hf⟩ := rgn hf
          have JW6 : ∀ (v6 : ob) (H : Heap) (locs : List Loc) (ls : Array Slot), WD D A s.heap H locs [wX0 K a0 v6] → lv_has ls 5 [(0, .ref (a0 0)), (1, .int x0), (2, .int z2.1)] → J6 v6 = some uq2 → W P l e (rmS 2 47) s m args below meth c H locs 0 0 (MQ below (QvS D A [wX0 K a0 r]) args s 0 0 A) (F0 m 123 ls []) := by
            intro v6 H locs ls h hl hf
            have hf := jof eJ6 hf
            obtain ⟨y7, e7⟩ : ∃ y : Int32, y = z2.1 + 1 := ⟨_, rfl⟩
            have hf := ltb hf e7
            refine lv_iinc (v := y7) (lv' := [(2, .int y7), (0, .ref (a0 0)), (1, .int x0)]) hx hb dX0_readOn_123 hl (k := 2) rfl (by rw [e7]; rfl) (by decide) rfl (fun ls hl => ?_)
            refine lv_goto (tgt := 25) hx hb dX0_readOn_126 (by decide) ?_
            exact ihq2 _ _ _ _ (itr_c huq2 (sor hf)) h (lv_sub hl [1, 2, 0] rfl)
          refine lv_if_ge (tgt := 123) hx hb dX0_readOn_43 (by decide) (fun c8 => ?_) (fun c8 => ?_)
          · have hf := ifp hf ((lg_cmp_ge (rL (z2.2.2 9) z2.1.toNatClampNeg) 1000000000000).mp c8)
            exact JW6 z2.2 _ _ _ h (lv_sub hl [0, 1, 2] rfl) (sob hf)
          · have hf := ifn hf (fun z => c8 ((lg_cmp_ge (rL (z2.2.2 9) z2.1.toNatClampNeg) 1000000000000).mpr z))
            refine lv_iload_n hx hb dX0_readOn_46 rfl (lv_at hl 2 rfl) ?_
            refine lv_iload_n hx hb dX0_readOn_47 rfl (lv_at hl 1 rfl) ?_
            refine lv_iconst (v := 0) hx hb dX0_readOn_48 (by decide) ?_
            obtain ⟨q9, h9, hf⟩ := asb hf
            refine r_callN (As := [.int z2.1, .int x0, .int 0]) (rest := []) F h hl (c5_edgeAt l D K z2.1 x0 0 q9 h9) w367 ⟨by decide +kernel, w366, w266⟩ hsc5_edgeAt ⟨Nat.le_of_ble_eq_true rfl, Nat.le_of_ble_eq_true rfl⟩ ⟨Nat.le_refl 0, Nat.le_refl 0⟩ (Nat.le_of_ble_eq_true rfl) dX0_readOn_49 (fun H locs h => ?_)
            refine lv_istore_n (lv' := [(3, .int q9), (0, .ref (a0 0)), (1, .int x0), (2, .int z2.1)]) hx hb dX0_readOn_52 rfl hl (by decide) rfl (fun ls hl => ?_)
            refine lv_iconst (v := 0) hx hb dX0_readOn_53 (by decide) ?_
            refine lv_istore (lv' := [(4, .int 0), (3, .int q9), (0, .ref (a0 0)), (1, .int x0), (2, .int z2.1)]) hx hb dX0_readOn_54 hl (by decide) rfl (fun ls hl => ?_)
            obtain ⟨q10, hq10, hf⟩ := asb hf
            obtain ⟨nq10, hq10⟩ := wh_out hq10
            have Xq10_1 : ∀ (z10 : Int32 × ob) (H : Heap) (locs : List Loc) (ls : Array Slot), q10 = (1, z10) → WD D A s.heap H locs [wX0 K a0 z10.2] → lv_has ls 5 [(0, .ref (a0 0)), (1, .int x0), (2, .int z2.1)] → W P l e (rmS 2 47) s m args below meth c H locs 0 0 (MQ below (QvS D A [wX0 K a0 r]) args s 0 0 A) (F0 m 123 ls []) := by
              intro z10 H locs ls eq10 h hl
              obtain rfl : z10 = q10.2 := by rw [eq10]
              exact JW6 q10.2.2 _ _ _ h (lv_sub hl [0, 1, 2] rfl) (sob hf)
            have Lq10 : ∀ (n : Nat) (z10 : Int32 × ob) (H : Heap) (locs : List Loc) (ls : Array Slot), iter (f0_readOn_L56 z2.1 q9) n z10 = some q10 → WD D A s.heap H locs [wX0 K a0 z10.2] → lv_has ls 5 [(0, .ref (a0 0)), (1, .int x0), (2, .int z2.1), (3, .int q9), (4, .int z10.1)] → W P l e (rmS 2 47) s m args below meth c H locs 0 0 (MQ below (QvS D A [wX0 K a0 r]) args s 0 0 A) (F0 m 56 ls []) := by
              intro n
              induction n with
              | zero => intro z10 H locs ls hi; exact (iter_0 hi).elim
              | succ n ihq10 =>
                intro z10 H locs ls hi h hl
                obtain ⟨uq10, hf, huq10⟩ := iter_s hi
                unfold f0_readOn_L56 at hf
                have hf := tob hf
                refine lv_iload hx hb dX0_readOn_56 (lv_at hl 4 rfl) ?_
                refine lv_aload_n hx hb dX0_readOn_58 rfl (lv_at hl 0 rfl) ?_
                refine r_get F h (i := 0) (k := 0) (.int (z10.2.1 0)) inX0 rfl (by decide) w357 rfl rfl rfl dX0_readOn_59 ?_
                refine lv_icmp_ge (tgt := 123) hx hb dX0_readOn_62 (by decide) (fun c11 => ?_) (fun c11 => ?_)
                · have hf := ifp hf c11
                  exact Xq10_1 _ _ _ _ (itr_x huq10 (sor hf)) h (lv_sub hl [0, 1, 2] rfl)
                · have hf := ifn hf c11
                  refine lv_aload_n hx hb dX0_readOn_65 rfl (lv_at hl 0 rfl) ?_
                  refine r_get F h (i := 0) (k := 5) (.ref (a0 6)) inX0 rfl (by decide) w368 rfl rfl rfl dX0_readOn_66 ?_
                  refine lv_iload_n hx hb dX0_readOn_69 rfl (lv_at hl 3 rfl) ?_
                  refine lv_iload hx hb dX0_readOn_70 (lv_at hl 4 rfl) ?_
                  refine lv_iadd hx hb dX0_readOn_72 ?_
                  obtain ⟨g12, hf⟩ := gdb hf
                  refine r_lald F h (i := 0) (j := 2) rfl rfl (vin_ok g12) dX0_readOn_73 ?_
                  refine r_ldc2 F 1000000000000 w364 dX0_readOn_74 ?_
                  refine W.lcmp hx hb dX0_readOn_77 ?_
                  obtain ⟨J13, eJ13, hf⟩ := rgn hf
                  have JW13 : ∀ (v13 : ob) (H : Heap) (locs : List Loc) (ls : Array Slot), WD D A s.heap H locs [wX0 K a0 v13] → lv_has ls 5 [(0, .ref (a0 0)), (1, .int x0), (2, .int z2.1), (3, .int q9), (4, .int z10.1)] → J13 v13 = some uq10 → W P l e (rmS 2 47) s m args below meth c H locs 0 0 (MQ below (QvS D A [wX0 K a0 r]) args s 0 0 A) (F0 m 117 ls []) := by
                    intro v13 H locs ls h hl hf
                    have hf := jof eJ13 hf
                    obtain ⟨y14, e14⟩ : ∃ y : Int32, y = z10.1 + 1 := ⟨_, rfl⟩
                    have hf := ltb hf e14
                    refine lv_iinc (v := y14) (lv' := [(4, .int y14), (0, .ref (a0 0)), (1, .int x0), (2, .int z2.1), (3, .int q9)]) hx hb dX0_readOn_117 hl (k := 4) rfl (by rw [e14]; rfl) (by decide) rfl (fun ls hl => ?_)
                    refine lv_goto (tgt := 56) hx hb dX0_readOn_120 (by decide) ?_
                    exact ihq10 _ _ _ _ (itr_c huq10 (sor hf)) h (lv_sub hl [1, 2, 3, 4, 0] rfl)
                  refine lv_if_ge (tgt := 117) hx hb dX0_readOn_78 (by decide) (fun c15 => ?_) (fun c15 => ?_)
                  · have hf := ifp hf ((lg_cmp_ge (rL (z10.2.2 5) (q9 + z10.1).toNatClampNeg) 1000000000000).mp c15)
                    exact JW13 z10.2 _ _ _ h (lv_sub hl [0, 1, 2, 3, 4] rfl) (sob hf)
                  · have hf := ifn hf (fun z => c15 ((lg_cmp_ge (rL (z10.2.2 5) (q9 + z10.1).toNatClampNeg) 1000000000000).mpr z))
                    refine lv_aload_n hx hb dX0_readOn_81 rfl (lv_at hl 0 rfl) ?_
                    refine r_get F h (i := 0) (k := 10) (.ref (spX0 a0 z10.2)) inX0 rfl (by decide) w365 rfl rfl rfl dX0_readOn_82 ?_
                    refine lv_iload hx hb dX0_readOn_85 (lv_at hl 4 rfl) ?_
                    refine lv_aload_n hx hb dX0_readOn_87 rfl (lv_at hl 0 rfl) ?_
                    refine r_get F h (i := 0) (k := 10) (.ref (spX0 a0 z10.2)) inX0 rfl (by decide) w365 rfl rfl rfl dX0_readOn_88 ?_
                    refine lv_iload hx hb dX0_readOn_91 (lv_at hl 4 rfl) ?_
                    obtain ⟨g16, hf⟩ := gdb hf
                    refine r_lald F h (i := 0) (j := 6) rfl rfl (vin_ok g16) dX0_readOn_93 ?_
                    refine lv_aload_n hx hb dX0_readOn_94 rfl (lv_at hl 0 rfl) ?_
                    refine lv_aload_n hx hb dX0_readOn_95 rfl (lv_at hl 0 rfl) ?_
                    refine r_get F h (i := 0) (k := 9) (.ref (rdX0 a0 z10.2)) inX0 rfl (by decide) w363 rfl rfl rfl dX0_readOn_96 ?_
                    refine lv_iload_n hx hb dX0_readOn_99 rfl (lv_at hl 2 rfl) ?_
                    obtain ⟨g17, hf⟩ := gdb hf
                    refine r_lald F h (i := 0) (j := 5) rfl rfl (vin_ok g17) dX0_readOn_100 ?_
                    refine lv_aload_n hx hb dX0_readOn_101 rfl (lv_at hl 0 rfl) ?_
                    refine r_get F h (i := 0) (k := 5) (.ref (a0 6)) inX0 rfl (by decide) w368 rfl rfl rfl dX0_readOn_102 ?_
                    refine lv_iload_n hx hb dX0_readOn_105 rfl (lv_at hl 3 rfl) ?_
                    refine lv_iload hx hb dX0_readOn_106 (lv_at hl 4 rfl) ?_
                    refine lv_iadd hx hb dX0_readOn_108 ?_
                    obtain ⟨g18, hf⟩ := gdb hf
                    refine r_lald F h (i := 0) (j := 2) rfl rfl (vin_ok g18) dX0_readOn_109 ?_
                    obtain ⟨q19, h19, hf⟩ := asb hf
                    refine r_callVl (As := [.long (rL (z10.2.2 9) z2.1.toNatClampNeg), .long (rL (z10.2.2 5) (q9 + z10.1).toNatClampNeg)]) (rest := [.long (rL (z10.2.2 10) z10.1.toNatClampNeg), .int z10.1, .ref (spX0 a0 z10.2)]) (C0 := [wX0 K a0 z10.2]) (C1 := [wX0 K a0 z10.2]) (Rr := []) (S' := [wX0 K a0 z10.2]) F h hl (c0_joined l D K a0 (rL (z10.2.2 9) z2.1.toNatClampNeg) (rL (z10.2.2 5) (q9 + z10.1).toNatClampNeg) z10.2 q19 h19) [0] rfl rfl rfl rfl rfl (i := 0) rfl rfl w372 ⟨w373, w374, w375, w376⟩ hsc0_joined ⟨Nat.le_of_ble_eq_true rfl, Nat.le_of_ble_eq_true rfl⟩ ⟨Nat.le_refl 0, Nat.le_refl 0⟩ (Nat.le_of_ble_eq_true rfl) dX0_readOn_110 (fun H locs h => ?_)
                    refine r_mminL F hl ⟨w369, w370, w361, w371⟩ ⟨Nat.le_of_ble_eq_true rfl, Nat.le_of_ble_eq_true rfl⟩ ⟨Nat.le_refl 0, Nat.le_refl 0⟩ dX0_readOn_113 ?_
                    obtain ⟨g20, hf⟩ := gdb hf
                    refine r_last (g := rL ((sL z10.2 10 z10.1.toNatClampNeg (if q19 < (rL (z10.2.2 10) z10.1.toNatClampNeg) then q19 else (rL (z10.2.2 10) z10.1.toNatClampNeg))).2 10)) (o1 := sL z10.2 10 z10.1.toNatClampNeg (if q19 < (rL (z10.2.2 10) z10.1.toNatClampNeg) then q19 else (rL (z10.2.2 10) z10.1.toNatClampNeg))) (w := fun t21 => wX0 K a0 t21) (S' := fun t21 => [wX0 K a0 t21]) F h (i := 0) (j := 6) rfl rfl (vin_ok g20) (sL_g z10.2 10 z10.1.toNatClampNeg (if q19 < (rL (z10.2.2 10) z10.1.toNatClampNeg) then q19 else (rL (z10.2.2 10) z10.1.toNatClampNeg))) rfl (fun _ => rfl) dX0_readOn_116 (fun t21 e21 H locs h => ?_)
                    have hf := ltb hf e21
                    exact JW13 t21 _ _ _ h (lv_sub hl [0, 1, 2, 3, 4] rfl) (sob hf)
            exact Lq10 _ _ _ _ _ hq10 h (lv_sub hl [2, 3, 4, 1, 0] rfl)
    exact Lq2 _ _ _ _ _ hq2 h (lv_sub hl [1, 2, 0] rfl)
  have Lq1 : ∀ (n : Nat) (z1 : Int32 × ob) (H : Heap) (locs : List Loc) (ls : Array Slot), iter f0_readOn_L2 n z1 = some q1 → WD D A s.heap H locs [wX0 K a0 z1.2] → lv_has ls 5 [(0, .ref (a0 0)), (1, .int x0), (2, .int z1.1)] → W P l e (rmS 2 47) s m args below meth c H locs 0 0 (MQ below (QvS D A [wX0 K a0 r]) args s 0 0 A) (F0 m 2 ls []) := by
    intro n
    induction n with
    | zero => intro z1 H locs ls hi; exact (iter_0 hi).elim
    | succ n ihq1 =>
      intro z1 H locs ls hi h hl
      obtain ⟨uq1, hf, huq1⟩ := iter_s hi
      unfold f0_readOn_L2 at hf
      have hf := tob hf
      refine lv_iload_n hx hb dX0_readOn_2 rfl (lv_at hl 2 rfl) ?_
      refine lv_bipush (v := 13) hx hb dX0_readOn_3 (by decide) ?_
      refine lv_icmp_ge (tgt := 23) hx hb dX0_readOn_5 (by decide) (fun c22 => ?_) (fun c22 => ?_)
      · have hf := ifp hf c22
        exact Xq1_1 _ _ _ _ (itr_x huq1 (sor hf)) h (lv_sub hl [0, 1] rfl)
      · have hf := ifn hf c22
        refine lv_aload_n hx hb dX0_readOn_8 rfl (lv_at hl 0 rfl) ?_
        refine r_get F h (i := 0) (k := 10) (.ref (spX0 a0 z1.2)) inX0 rfl (by decide) w365 rfl rfl rfl dX0_readOn_9 ?_
        refine lv_iload_n hx hb dX0_readOn_12 rfl (lv_at hl 2 rfl) ?_
        refine r_ldc2 F 1000000000000 w364 dX0_readOn_13 ?_
        obtain ⟨g23, hf⟩ := gdb hf
        refine r_last (g := rL ((sL z1.2 10 z1.1.toNatClampNeg 1000000000000).2 10)) (o1 := sL z1.2 10 z1.1.toNatClampNeg 1000000000000) (w := fun t24 => wX0 K a0 t24) (S' := fun t24 => [wX0 K a0 t24]) F h (i := 0) (j := 6) rfl rfl (vin_ok g23) (sL_g z1.2 10 z1.1.toNatClampNeg 1000000000000) rfl (fun _ => rfl) dX0_readOn_16 (fun t24 e24 H locs h => ?_)
        have hf := ltb hf e24
        obtain ⟨y25, e25⟩ : ∃ y : Int32, y = z1.1 + 1 := ⟨_, rfl⟩
        have hf := ltb hf e25
        refine lv_iinc (v := y25) (lv' := [(2, .int y25), (0, .ref (a0 0)), (1, .int x0)]) hx hb dX0_readOn_17 hl (k := 2) rfl (by rw [e25]; rfl) (by decide) rfl (fun ls hl => ?_)
        refine lv_goto (tgt := 2) hx hb dX0_readOn_20 (by decide) ?_
        exact ihq1 _ _ _ _ (itr_c huq1 (sor hf)) h (lv_sub hl [1, 2, 0] rfl)
  exact Lq1 _ _ _ _ _ hq1 h (lv_sub hl [1, 2, 0] rfl)
def f0_countEdges_L4 (g0 : ob) (z1 : Int32 × Int32) : Option (Nat × (Int32 × Int32)) :=
  (if 676 ≤ z1.2 then (some (1, (z1.1, z1.2))) else (gd (vin z1.2 676) <| ((if 1000000000000 ≤ (rL (g0.2 4) z1.2.toNatClampNeg) then (some z1.1) else (lt (z1.1 + 1) fun y7 => some y7))).bind fun v4 => lt (z1.2 + 1) fun y5 => some (0, (v4, y5))))
noncomputable def f0_countEdges (o_this : ob) : Option (Int32) :=
  (wh (f0_countEdges_L4 o_this) (0, 0)).bind fun q1 => some q1.2.1
set_option maxRecDepth 100000 in
set_option maxHeartbeats 4000000 in
theorem c0_countEdges (l : Launch) (D : va_G) (K : Nat → ClassId) (a0 : Nat → Nat) (o_this : ob) (r : Int32) (hf : f0_countEdges o_this = some r) : CTi l yX0_countEdges cX0_countEdges 3 (some .int) 0 0 D K [.ref (a0 0)] [wX0 K a0 o_this] [wX0 K a0 o_this] r := by
  unfold f0_countEdges at hf
  have hf := tob hf
  refine entI (by decide) (Nat.le_of_ble_eq_true rfl) (fun P e s m args below meth c A ls F h hl hin => ?_)
  have hx := F.1
  have hb := F.2.1
  have hl : lv_has ls 3 [(0, .ref (a0 0))] := hl
  refine lv_iconst (v := 0) hx hb dX0_countEdges_0 (by decide) ?_
  refine lv_istore_n (lv' := [(1, .int 0), (0, .ref (a0 0))]) hx hb dX0_countEdges_1 rfl hl (by decide) rfl (fun ls hl => ?_)
  refine lv_iconst (v := 0) hx hb dX0_countEdges_2 (by decide) ?_
  refine lv_istore_n (lv' := [(2, .int 0), (1, .int 0), (0, .ref (a0 0))]) hx hb dX0_countEdges_3 rfl hl (by decide) rfl (fun ls hl => ?_)
  obtain ⟨q1, hq1, hf⟩ := asb hf
  obtain ⟨nq1, hq1⟩ := wh_out hq1
  have Xq1_1 : ∀ (z1 : Int32 × Int32) (H : Heap) (locs : List Loc) (ls : Array Slot), q1 = (1, z1) → WD D A s.heap H locs [wX0 K a0 o_this] → lv_has ls 3 [(1, .int z1.1)] → W P l e (rmS 0 0) s m args below meth c H locs 0 0 (MQ below (QiS D A [wX0 K a0 o_this] r) args s 0 0 A) (F0 m 35 ls []) := by
    intro z1 H locs ls eq1 h hl
    obtain rfl : z1 = q1.2 := by rw [eq1]
    refine lv_iload_n hx hb dX0_countEdges_35 rfl (lv_at hl 0 rfl) ?_
    obtain rfl := sor hf
    exact r_reti F h dX0_countEdges_36
  have Lq1 : ∀ (n : Nat) (z1 : Int32 × Int32) (H : Heap) (locs : List Loc) (ls : Array Slot), iter (f0_countEdges_L4 o_this) n z1 = some q1 → WD D A s.heap H locs [wX0 K a0 o_this] → lv_has ls 3 [(0, .ref (a0 0)), (1, .int z1.1), (2, .int z1.2)] → W P l e (rmS 0 0) s m args below meth c H locs 0 0 (MQ below (QiS D A [wX0 K a0 o_this] r) args s 0 0 A) (F0 m 4 ls []) := by
    intro n
    induction n with
    | zero => intro z1 H locs ls hi; exact (iter_0 hi).elim
    | succ n ihq1 =>
      intro z1 H locs ls hi h hl
      obtain ⟨uq1, hf, huq1⟩ := iter_s hi
      unfold f0_countEdges_L4 at hf
      have hf := tob hf
      refine lv_iload_n hx hb dX0_countEdges_4 rfl (lv_at hl 2 rfl) ?_
      refine lv_aload_n hx hb dX0_countEdges_5 rfl (lv_at hl 0 rfl) ?_
      refine r_get F h (i := 0) (k := 4) (.ref (a0 5)) inX0 rfl (by decide) w377 rfl rfl rfl dX0_countEdges_6 ?_
      refine r_alen (v := 676) (t0 := 4) F h (i := 0) (j := 1) rfl rfl rfl rfl dX0_countEdges_9 ?_
      refine lv_icmp_ge (tgt := 35) hx hb dX0_countEdges_10 (by decide) (fun c2 => ?_) (fun c2 => ?_)
      · have hf := ifp hf c2
        exact Xq1_1 _ _ _ _ (itr_x huq1 (sor hf)) h (lv_sub hl [1] rfl)
      · have hf := ifn hf c2
        refine lv_aload_n hx hb dX0_countEdges_13 rfl (lv_at hl 0 rfl) ?_
        refine r_get F h (i := 0) (k := 4) (.ref (a0 5)) inX0 rfl (by decide) w377 rfl rfl rfl dX0_countEdges_14 ?_
        refine lv_iload_n hx hb dX0_countEdges_17 rfl (lv_at hl 2 rfl) ?_
        obtain ⟨g3, hf⟩ := gdb hf
        refine r_lald F h (i := 0) (j := 1) rfl rfl (vin_ok g3) dX0_countEdges_18 ?_
        refine r_ldc2 F 1000000000000 w364 dX0_countEdges_19 ?_
        refine W.lcmp hx hb dX0_countEdges_22 ?_
        obtain ⟨J4, eJ4, hf⟩ := rgn hf
        have JW4 : ∀ (v4 : Int32) (H : Heap) (locs : List Loc) (ls : Array Slot), WD D A s.heap H locs [wX0 K a0 o_this] → lv_has ls 3 [(0, .ref (a0 0)), (1, .int v4), (2, .int z1.2)] → J4 v4 = some uq1 → W P l e (rmS 0 0) s m args below meth c H locs 0 0 (MQ below (QiS D A [wX0 K a0 o_this] r) args s 0 0 A) (F0 m 29 ls []) := by
          intro v4 H locs ls h hl hf
          have hf := jof eJ4 hf
          obtain ⟨y5, e5⟩ : ∃ y : Int32, y = z1.2 + 1 := ⟨_, rfl⟩
          have hf := ltb hf e5
          refine lv_iinc (v := y5) (lv' := [(2, .int y5), (0, .ref (a0 0)), (1, .int v4)]) hx hb dX0_countEdges_29 hl (k := 2) rfl (by rw [e5]; rfl) (by decide) rfl (fun ls hl => ?_)
          refine lv_goto (tgt := 4) hx hb dX0_countEdges_32 (by decide) ?_
          exact ihq1 _ _ _ _ (itr_c huq1 (sor hf)) h (lv_sub hl [1, 2, 0] rfl)
        refine lv_if_ge (tgt := 29) hx hb dX0_countEdges_23 (by decide) (fun c6 => ?_) (fun c6 => ?_)
        · have hf := ifp hf ((lg_cmp_ge (rL (o_this.2 4) z1.2.toNatClampNeg) 1000000000000).mp c6)
          exact JW4 z1.1 _ _ _ h (lv_sub hl [0, 1, 2] rfl) (sob hf)
        · have hf := ifn hf (fun z => c6 ((lg_cmp_ge (rL (o_this.2 4) z1.2.toNatClampNeg) 1000000000000).mpr z))
          obtain ⟨y7, e7⟩ : ∃ y : Int32, y = z1.1 + 1 := ⟨_, rfl⟩
          have hf := ltb hf e7
          refine lv_iinc (v := y7) (lv' := [(1, .int y7), (0, .ref (a0 0)), (2, .int z1.2)]) hx hb dX0_countEdges_26 hl (k := 1) rfl (by rw [e7]; rfl) (by decide) rfl (fun ls hl => ?_)
          exact JW4 y7 _ _ _ h (lv_sub hl [1, 0, 2] rfl) (sob hf)
  exact Lq1 _ _ _ _ _ hq1 h (lv_sub hl [2, 1, 0] rfl)
def f0_layAnyLetter_L2 (g0 : Int32) (g1 : Int32) (z1 : Int32 × ob) : Option (Nat × (Int32 × ob)) :=
  (if 4 ≤ z1.1 then (some (1, (z1.1, z1.2))) else ((f5_edgeAt g0 z1.1 g1).bind fun q3 => gd (vin q3 676) <| lt (sL z1.2 4 q3.toNatClampNeg 0) fun t5 => lt (z1.1 + 1) fun y6 => some (0, (y6, t5))))
noncomputable def f0_layAnyLetter (x0 : Int32) (x1 : Int32) (o_this : ob) : Option (ob) :=
  (wh (f0_layAnyLetter_L2 x0 x1) (0, o_this)).bind fun q1 => some q1.2.2
set_option maxRecDepth 100000 in
set_option maxHeartbeats 4000000 in
theorem c0_layAnyLetter (l : Launch) (D : va_G) (K : Nat → ClassId) (a0 : Nat → Nat) (x0 : Int32) (x1 : Int32) (o_this : ob) (r : ob) (hf : f0_layAnyLetter x0 x1 o_this = some r) : CTv l yX0_layAnyLetter cX0_layAnyLetter 4 1 22 D K [.ref (a0 0), .int x0, .int x1] [wX0 K a0 o_this] [wX0 K a0 r] := by
  unfold f0_layAnyLetter at hf
  have hf := tob hf
  refine entV (by decide) (Nat.le_of_ble_eq_true rfl) (fun P e s m args below meth c A ls F h hl hin => ?_)
  have hx := F.1
  have hb := F.2.1
  have hl : lv_has ls 4 [(0, .ref (a0 0)), (1, .int x0), (2, .int x1)] := hl
  refine lv_iconst (v := 0) hx hb dX0_layAnyLetter_0 (by decide) ?_
  refine lv_istore_n (lv' := [(3, .int 0), (0, .ref (a0 0)), (1, .int x0), (2, .int x1)]) hx hb dX0_layAnyLetter_1 rfl hl (by decide) rfl (fun ls hl => ?_)
  obtain ⟨q1, hq1, hf⟩ := asb hf
  obtain ⟨nq1, hq1⟩ := wh_out hq1
  have Xq1_1 : ∀ (z1 : Int32 × ob) (H : Heap) (locs : List Loc) (ls : Array Slot), q1 = (1, z1) → WD D A s.heap H locs [wX0 K a0 z1.2] → lv_has ls 4 [] → W P l e (rmS 1 22) s m args below meth c H locs 0 0 (MQ below (QvS D A [wX0 K a0 r]) args s 0 0 A) (F0 m 25 ls []) := by
    intro z1 H locs ls eq1 h hl
    obtain rfl : z1 = q1.2 := by rw [eq1]
    obtain rfl := sor hf
    exact r_retv F h dX0_layAnyLetter_25
  have Lq1 : ∀ (n : Nat) (z1 : Int32 × ob) (H : Heap) (locs : List Loc) (ls : Array Slot), iter (f0_layAnyLetter_L2 x0 x1) n z1 = some q1 → WD D A s.heap H locs [wX0 K a0 z1.2] → lv_has ls 4 [(0, .ref (a0 0)), (1, .int x0), (2, .int x1), (3, .int z1.1)] → W P l e (rmS 1 22) s m args below meth c H locs 0 0 (MQ below (QvS D A [wX0 K a0 r]) args s 0 0 A) (F0 m 2 ls []) := by
    intro n
    induction n with
    | zero => intro z1 H locs ls hi; exact (iter_0 hi).elim
    | succ n ihq1 =>
      intro z1 H locs ls hi h hl
      obtain ⟨uq1, hf, huq1⟩ := iter_s hi
      unfold f0_layAnyLetter_L2 at hf
      have hf := tob hf
      refine lv_iload_n hx hb dX0_layAnyLetter_2 rfl (lv_at hl 3 rfl) ?_
      refine lv_iconst (v := 4) hx hb dX0_layAnyLetter_3 (by decide) ?_
      refine lv_icmp_ge (tgt := 25) hx hb dX0_layAnyLetter_4 (by decide) (fun c2 => ?_) (fun c2 => ?_)
      · have hf := ifp hf c2
        exact Xq1_1 _ _ _ _ (itr_x huq1 (sor hf)) h (lv_sub hl [] rfl)
      · have hf := ifn hf c2
        refine lv_aload_n hx hb dX0_layAnyLetter_7 rfl (lv_at hl 0 rfl) ?_
        refine r_get F h (i := 0) (k := 4) (.ref (a0 5)) inX0 rfl (by decide) w377 rfl rfl rfl dX0_layAnyLetter_8 ?_
        refine lv_iload_n hx hb dX0_layAnyLetter_11 rfl (lv_at hl 1 rfl) ?_
        refine lv_iload_n hx hb dX0_layAnyLetter_12 rfl (lv_at hl 3 rfl) ?_
        refine lv_iload_n hx hb dX0_layAnyLetter_13 rfl (lv_at hl 2 rfl) ?_
        obtain ⟨q3, h3, hf⟩ := asb hf
        refine r_callN (As := [.int x0, .int z1.1, .int x1]) (rest := [.ref (a0 5)]) F h hl (c5_edgeAt l D K x0 z1.1 x1 q3 h3) w367 ⟨by decide +kernel, w366, w266⟩ hsc5_edgeAt ⟨Nat.le_of_ble_eq_true rfl, Nat.le_of_ble_eq_true rfl⟩ ⟨Nat.le_refl 0, Nat.le_refl 0⟩ (Nat.le_of_ble_eq_true rfl) dX0_layAnyLetter_14 (fun H locs h => ?_)
        refine lv_lconst (v := 0) hx hb dX0_layAnyLetter_17 (by decide) ?_
        obtain ⟨g4, hf⟩ := gdb hf
        refine r_last (g := rL ((sL z1.2 4 q3.toNatClampNeg 0).2 4)) (o1 := sL z1.2 4 q3.toNatClampNeg 0) (w := fun t5 => wX0 K a0 t5) (S' := fun t5 => [wX0 K a0 t5]) F h (i := 0) (j := 1) rfl rfl (vin_ok g4) (sL_g z1.2 4 q3.toNatClampNeg 0) rfl (fun _ => rfl) dX0_layAnyLetter_18 (fun t5 e5 H locs h => ?_)
        have hf := ltb hf e5
        obtain ⟨y6, e6⟩ : ∃ y : Int32, y = z1.1 + 1 := ⟨_, rfl⟩
        have hf := ltb hf e6
        refine lv_iinc (v := y6) (lv' := [(3, .int y6), (0, .ref (a0 0)), (1, .int x0), (2, .int x1)]) hx hb dX0_layAnyLetter_19 hl (k := 3) rfl (by rw [e6]; rfl) (by decide) rfl (fun ls hl => ?_)
        refine lv_goto (tgt := 2) hx hb dX0_layAnyLetter_22 (by decide) ?_
        exact ihq1 _ _ _ _ (itr_c huq1 (sor hf)) h (lv_sub hl [1, 2, 3, 0] rfl)
  exact Lq1 _ _ _ _ _ hq1 h (lv_sub hl [1, 2, 3, 0] rfl)
def f0_layTargets_L171 (g1 : ob) (g14 : Int32) (g18 : Int32) (g19 : Int32) (z16 : Int32 × Int32 × ob) : Option (Nat × (Int32 × Int32 × ob)) :=
  (if g19 ≤ z16.2.1 then (some (1, (z16.1, z16.2.1, z16.2.2))) else (((if (g19 - 1) ≤ z16.2.1 then (some (g18, z16.2.2)) else (lt (z16.2.2.1 0) fun y26 => lt (sI z16.2.2 0 ((z16.2.2.1 0) + 1)) fun t27 => some (y26, t27)))).bind fun v19 => gd (vin ((g14 * 3) + z16.2.1) 12) <| (f5_edgeAt z16.1 (g1.2 11 ((g14 * 3) + z16.2.1).toNatClampNeg) v19.1).bind fun q21 => gd (vin q21 676) <| lt (sL v19.2 4 q21.toNatClampNeg 0) fun t23 => lt (z16.2.1 + 1) fun y24 => some (0, (v19.1, y24, t23))))
noncomputable def f0_layTargets_L94 (g1 : ob) (g2 : Int32) (g3 : Int32) (z7 : Int32 × ob) : Option (Nat × (Int32 × ob)) :=
  (if (g1.1 7) ≤ z7.1 then (some (1, (z7.1, z7.2))) else (gd (vin z7.1 4) <| ((if (g1.2 10 z7.1.toNatClampNeg) = 0 then (some g2) else (some g3))).bind fun v10 => gd (vin z7.1 4) <| lt (g1.2 9 z7.1.toNatClampNeg) fun y12 => gd (vin z7.1 4) <| lt (g1.2 8 z7.1.toNatClampNeg) fun y14 => ((if y12 = 0 then (gd (vin y14 13) <| lt (sA z7.2 6 y14.toNatClampNeg 1) fun t30 => gd (vin z7.1 4) <| (if (g1.2 10 z7.1.toNatClampNeg) = 0 then (some t30) else ((f0_layAnyLetter y14 g3 t30).bind fun q33 => some q33))) else (some z7.2))).bind fun v15 => (wh (f0_layTargets_L171 g1 z7.1 v10 y12) (y14, 0, v15)).bind fun q16 => lt (z7.1 + 1) fun y17 => some (0, (y17, q16.2.2.2))))
def f0_layTargets_L48 (g2 : Int32) (g3 : Int32) (z5 : Int32 × ob) : Option (Nat × (Int32 × ob)) :=
  (if 13 ≤ z5.1 then (some (1, (z5.1, z5.2))) else (((if z5.1 = g2 then (some 1) else ((if z5.1 = g3 then (some 1) else (some 0))))).bind fun v36 => gd (vin z5.1 13) <| gd (bz v36) <| lt (sA z5.2 6 z5.1.toNatClampNeg v36) fun t39 => lt (z5.1 + 1) fun y40 => some (0, (y40, t39))))
def f0_layTargets_L19 (z4 : Int32 × ob) : Option (Nat × (Int32 × ob)) :=
  (if 676 ≤ z4.1 then (some (1, (z4.1, z4.2))) else (gd (vin z4.1 676) <| lt (sL z4.2 4 z4.1.toNatClampNeg 1000000000000) fun t45 => lt (z4.1 + 1) fun y46 => some (0, (y46, t45))))
noncomputable def f0_layTargets (o_this : ob) (o_p0 : ob) : Option (ob) :=
  lt (o_p0.1 0) fun y1 => lt (y1 + 1) fun y2 => lt (sI o_this 0 (y2 + 1)) fun t3 => (wh f0_layTargets_L19 (0, t3)).bind fun q4 => (wh (f0_layTargets_L48 y1 y2) (0, q4.2.2)).bind fun q5 => (f0_layAnyLetter y2 y2 q5.2.2).bind fun q6 => (wh (f0_layTargets_L94 o_p0 y1 y2) (0, q6)).bind fun q7 => some q7.2.2
set_option maxRecDepth 100000 in
set_option maxHeartbeats 4000000 in
theorem c0_layTargets (l : Launch) (D : va_G) (K : Nat → ClassId) (a0 : Nat → Nat) (a1 : Nat → Nat) (o_this : ob) (o_p0 : ob) (r : ob) (hf : f0_layTargets o_this o_p0 = some r) : CTv l yX0_layTargets cX0_layTargets 10 2 45 D K [.ref (a0 0), .ref (a1 0)] [wX0 K a0 o_this, wX4 K a1 o_p0] [wX0 K a0 r, wX4 K a1 o_p0] := by
  unfold f0_layTargets at hf
  have hf := tob hf
  refine entV (by decide) (Nat.le_of_ble_eq_true rfl) (fun P e s m args below meth c A ls F h hl hin => ?_)
  have hx := F.1
  have hb := F.2.1
  have hl : lv_has ls 10 [(0, .ref (a0 0)), (1, .ref (a1 0))] := hl
  refine lv_aload_n hx hb dX0_layTargets_0 rfl (lv_at hl 1 rfl) ?_
  refine r_get F h (i := 1) (k := 0) (.int (o_p0.1 0)) inX4 rfl (by decide) w378 rfl rfl rfl dX0_layTargets_1 ?_
  refine lv_topi (fun y1 e1 => ?_)
  have hf := ltb hf e1
  refine lv_istore_n (lv' := [(2, .int y1), (0, .ref (a0 0)), (1, .ref (a1 0))]) hx hb dX0_layTargets_4 rfl hl (by decide) rfl (fun ls hl => ?_)
  refine lv_iload_n hx hb dX0_layTargets_5 rfl (lv_at hl 0 rfl) ?_
  refine lv_iconst (v := 1) hx hb dX0_layTargets_6 (by decide) ?_
  refine lv_iadd hx hb dX0_layTargets_7 ?_
  refine lv_topi (fun y2 e2 => ?_)
  have hf := ltb hf e2
  refine lv_istore_n (lv' := [(3, .int y2), (2, .int y1), (0, .ref (a0 0)), (1, .ref (a1 0))]) hx hb dX0_layTargets_8 rfl hl (by decide) rfl (fun ls hl => ?_)
  refine lv_aload_n hx hb dX0_layTargets_9 rfl (lv_at hl 2 rfl) ?_
  refine lv_iload_n hx hb dX0_layTargets_10 rfl (lv_at hl 0 rfl) ?_
  refine lv_iconst (v := 1) hx hb dX0_layTargets_11 (by decide) ?_
  refine lv_iadd hx hb dX0_layTargets_12 ?_
  refine r_put (o1 := sI o_this 0 (y2 + 1)) (w := fun t3 => wX0 K a0 t3) (S' := fun t3 => [wX0 K a0 t3, wX4 K a1 o_p0]) F h (i := 0) (k := 0) inX0 tyX0_ok nmX0 rfl (by decide) w357 rfl rfl rfl rfl rfl (Nat.le_of_ble_eq_true rfl) rfl (fun _ => rfl) dX0_layTargets_13 (fun t3 e3 H locs h => ?_)
  have hf := ltb hf e3
  refine lv_iconst (v := 0) hx hb dX0_layTargets_16 (by decide) ?_
  refine lv_istore (lv' := [(4, .int 0), (3, .int y2), (2, .int y1), (0, .ref (a0 0)), (1, .ref (a1 0))]) hx hb dX0_layTargets_17 hl (by decide) rfl (fun ls hl => ?_)
  obtain ⟨q4, hq4, hf⟩ := asb hf
  obtain ⟨nq4, hq4⟩ := wh_out hq4
  have Xq4_1 : ∀ (z4 : Int32 × ob) (H : Heap) (locs : List Loc) (ls : Array Slot), q4 = (1, z4) → WD D A s.heap H locs [wX0 K a0 z4.2, wX4 K a1 o_p0] → lv_has ls 10 [(0, .ref (a0 0)), (1, .ref (a1 0)), (2, .int y1), (3, .int y2)] → W P l e (rmS 2 45) s m args below meth c H locs 0 0 (MQ below (QvS D A [wX0 K a0 r, wX4 K a1 o_p0]) args s 0 0 A) (F0 m 45 ls []) := by
    intro z4 H locs ls eq4 h hl
    obtain rfl : z4 = q4.2 := by rw [eq4]
    refine lv_iconst (v := 0) hx hb dX0_layTargets_45 (by decide) ?_
    refine lv_istore (lv' := [(4, .int 0), (0, .ref (a0 0)), (1, .ref (a1 0)), (2, .int y1), (3, .int y2)]) hx hb dX0_layTargets_46 hl (by decide) rfl (fun ls hl => ?_)
    obtain ⟨q5, hq5, hf⟩ := asb hf
    obtain ⟨nq5, hq5⟩ := wh_out hq5
    have Xq5_1 : ∀ (z5 : Int32 × ob) (H : Heap) (locs : List Loc) (ls : Array Slot), q5 = (1, z5) → WD D A s.heap H locs [wX0 K a0 z5.2, wX4 K a1 o_p0] → lv_has ls 10 [(0, .ref (a0 0)), (1, .ref (a1 0)), (2, .int y1), (3, .int y2)] → W P l e (rmS 2 45) s m args below meth c H locs 0 0 (MQ below (QvS D A [wX0 K a0 r, wX4 K a1 o_p0]) args s 0 0 A) (F0 m 85 ls []) := by
      intro z5 H locs ls eq5 h hl
      obtain rfl : z5 = q5.2 := by rw [eq5]
      refine lv_aload_n hx hb dX0_layTargets_85 rfl (lv_at hl 0 rfl) ?_
      refine lv_iload_n hx hb dX0_layTargets_86 rfl (lv_at hl 3 rfl) ?_
      refine lv_iload_n hx hb dX0_layTargets_87 rfl (lv_at hl 3 rfl) ?_
      obtain ⟨q6, h6, hf⟩ := asb hf
      refine r_callVv (As := [.int y2, .int y2]) (rest := []) (C0 := [wX0 K a0 q5.2.2]) (C1 := [wX0 K a0 q6]) (Rr := [wX4 K a1 o_p0]) (S' := [wX0 K a0 q6, wX4 K a1 o_p0]) F h hl (c0_layAnyLetter l D K a0 y2 y2 q5.2.2 q6 h6) [0, 1] rfl rfl rfl rfl rfl (i := 0) rfl rfl w385 ⟨w386, w387, w388, w376⟩ hsc0_layAnyLetter ⟨Nat.le_of_ble_eq_true rfl, Nat.le_of_ble_eq_true rfl⟩ ⟨Nat.le_refl 0, Nat.le_refl 0⟩ (Nat.le_of_ble_eq_true rfl) dX0_layTargets_88 (fun H locs h => ?_)
      refine lv_iconst (v := 0) hx hb dX0_layTargets_91 (by decide) ?_
      refine lv_istore (lv' := [(4, .int 0), (0, .ref (a0 0)), (1, .ref (a1 0)), (2, .int y1), (3, .int y2)]) hx hb dX0_layTargets_92 hl (by decide) rfl (fun ls hl => ?_)
      obtain ⟨q7, hq7, hf⟩ := asb hf
      obtain ⟨nq7, hq7⟩ := wh_out hq7
      have Xq7_1 : ∀ (z7 : Int32 × ob) (H : Heap) (locs : List Loc) (ls : Array Slot), q7 = (1, z7) → WD D A s.heap H locs [wX0 K a0 z7.2, wX4 K a1 o_p0] → lv_has ls 10 [] → W P l e (rmS 2 45) s m args below meth c H locs 0 0 (MQ below (QvS D A [wX0 K a0 r, wX4 K a1 o_p0]) args s 0 0 A) (F0 m 248 ls []) := by
        intro z7 H locs ls eq7 h hl
        obtain rfl : z7 = q7.2 := by rw [eq7]
        obtain rfl := sor hf
        exact r_retv F h dX0_layTargets_248
      have Lq7 : ∀ (n : Nat) (z7 : Int32 × ob) (H : Heap) (locs : List Loc) (ls : Array Slot), iter (f0_layTargets_L94 o_p0 y1 y2) n z7 = some q7 → WD D A s.heap H locs [wX0 K a0 z7.2, wX4 K a1 o_p0] → lv_has ls 10 [(0, .ref (a0 0)), (1, .ref (a1 0)), (2, .int y1), (3, .int y2), (4, .int z7.1)] → W P l e (rmS 2 45) s m args below meth c H locs 0 0 (MQ below (QvS D A [wX0 K a0 r, wX4 K a1 o_p0]) args s 0 0 A) (F0 m 94 ls []) := by
        intro n
        induction n with
        | zero => intro z7 H locs ls hi; exact (iter_0 hi).elim
        | succ n ihq7 =>
          intro z7 H locs ls hi h hl
          obtain ⟨uq7, hf, huq7⟩ := iter_s hi
          unfold f0_layTargets_L94 at hf
          have hf := tob hf
          refine lv_iload hx hb dX0_layTargets_94 (lv_at hl 4 rfl) ?_
          refine lv_aload_n hx hb dX0_layTargets_96 rfl (lv_at hl 1 rfl) ?_
          refine r_get F h (i := 1) (k := 7) (.int (o_p0.1 7)) inX4 rfl (by decide) w379 rfl rfl rfl dX0_layTargets_97 ?_
          refine lv_icmp_ge (tgt := 248) hx hb dX0_layTargets_100 (by decide) (fun c8 => ?_) (fun c8 => ?_)
          · have hf := ifp hf c8
            exact Xq7_1 _ _ _ _ (itr_x huq7 (sor hf)) h (lv_sub hl [] rfl)
          · have hf := ifn hf c8
            refine lv_aload_n hx hb dX0_layTargets_103 rfl (lv_at hl 1 rfl) ?_
            refine r_get F h (i := 1) (k := 10) (.ref (a1 11)) inX4 rfl (by decide) w380 rfl rfl rfl dX0_layTargets_104 ?_
            refine lv_iload hx hb dX0_layTargets_107 (lv_at hl 4 rfl) ?_
            obtain ⟨g9, hf⟩ := gdb hf
            refine r_zald F h (i := 1) (j := 8) rfl rfl (vin_ok g9) dX0_layTargets_109 ?_
            obtain ⟨J10, eJ10, hf⟩ := rgn hf
            have JW10 : ∀ (v10 : Int32) (H : Heap) (locs : List Loc) (ls : Array Slot), WD D A s.heap H locs [wX0 K a0 z7.2, wX4 K a1 o_p0] → lv_has ls 10 [(0, .ref (a0 0)), (1, .ref (a1 0)), (2, .int y1), (3, .int y2), (4, .int z7.1)] → J10 v10 = some uq7 → W P l e (rmS 2 45) s m args below meth c H locs 0 0 (MQ below (QvS D A [wX0 K a0 r, wX4 K a1 o_p0]) args s 0 0 A) (F0 m 118 ls [.int v10]) := by
              intro v10 H locs ls h hl hf
              have hf := jof eJ10 hf
              refine lv_istore (lv' := [(5, .int v10), (0, .ref (a0 0)), (1, .ref (a1 0)), (2, .int y1), (3, .int y2), (4, .int z7.1)]) hx hb dX0_layTargets_118 hl (by decide) rfl (fun ls hl => ?_)
              refine lv_aload_n hx hb dX0_layTargets_120 rfl (lv_at hl 2 rfl) ?_
              refine r_get F h (i := 1) (k := 9) (.ref (a1 10)) inX4 rfl (by decide) w381 rfl rfl rfl dX0_layTargets_121 ?_
              refine lv_iload hx hb dX0_layTargets_124 (lv_at hl 5 rfl) ?_
              obtain ⟨g11, hf⟩ := gdb hf
              refine r_iald F h (i := 1) (j := 7) rfl rfl (vin_ok g11) dX0_layTargets_126 ?_
              refine lv_topi (fun y12 e12 => ?_)
              have hf := ltb hf e12
              refine lv_istore (lv' := [(6, .int y12), (5, .int v10), (0, .ref (a0 0)), (1, .ref (a1 0)), (2, .int y1), (3, .int y2), (4, .int z7.1)]) hx hb dX0_layTargets_127 hl (by decide) rfl (fun ls hl => ?_)
              refine lv_aload_n hx hb dX0_layTargets_129 rfl (lv_at hl 3 rfl) ?_
              refine r_get F h (i := 1) (k := 8) (.ref (a1 9)) inX4 rfl (by decide) w382 rfl rfl rfl dX0_layTargets_130 ?_
              refine lv_iload hx hb dX0_layTargets_133 (lv_at hl 6 rfl) ?_
              obtain ⟨g13, hf⟩ := gdb hf
              refine r_iald F h (i := 1) (j := 6) rfl rfl (vin_ok g13) dX0_layTargets_135 ?_
              refine lv_topi (fun y14 e14 => ?_)
              have hf := ltb hf e14
              refine lv_istore (lv' := [(7, .int y14), (6, .int y12), (5, .int v10), (0, .ref (a0 0)), (1, .ref (a1 0)), (2, .int y1), (3, .int y2), (4, .int z7.1)]) hx hb dX0_layTargets_136 hl (by decide) rfl (fun ls hl => ?_)
              refine lv_iload hx hb dX0_layTargets_138 (lv_at hl 1 rfl) ?_
              obtain ⟨J15, eJ15, hf⟩ := rgn hf
              have JW15 : ∀ (v15 : ob) (H : Heap) (locs : List Loc) (ls : Array Slot), WD D A s.heap H locs [wX0 K a0 v15, wX4 K a1 o_p0] → lv_has ls 10 [(0, .ref (a0 0)), (1, .ref (a1 0)), (2, .int y1), (3, .int y2), (4, .int z7.1), (5, .int v10), (6, .int y12), (7, .int y14)] → J15 v15 = some uq7 → W P l e (rmS 2 45) s m args below meth c H locs 0 0 (MQ below (QvS D A [wX0 K a0 r, wX4 K a1 o_p0]) args s 0 0 A) (F0 m 168 ls []) := by
                intro v15 H locs ls h hl hf
                have hf := jof eJ15 hf
                refine lv_iconst (v := 0) hx hb dX0_layTargets_168 (by decide) ?_
                refine lv_istore (lv' := [(8, .int 0), (0, .ref (a0 0)), (1, .ref (a1 0)), (2, .int y1), (3, .int y2), (4, .int z7.1), (5, .int v10), (6, .int y12), (7, .int y14)]) hx hb dX0_layTargets_169 hl (by decide) rfl (fun ls hl => ?_)
                obtain ⟨q16, hq16, hf⟩ := asb hf
                obtain ⟨nq16, hq16⟩ := wh_out hq16
                have Xq16_1 : ∀ (z16 : Int32 × Int32 × ob) (H : Heap) (locs : List Loc) (ls : Array Slot), q16 = (1, z16) → WD D A s.heap H locs [wX0 K a0 z16.2.2, wX4 K a1 o_p0] → lv_has ls 10 [(0, .ref (a0 0)), (1, .ref (a1 0)), (2, .int y1), (3, .int y2), (4, .int z7.1)] → W P l e (rmS 2 45) s m args below meth c H locs 0 0 (MQ below (QvS D A [wX0 K a0 r, wX4 K a1 o_p0]) args s 0 0 A) (F0 m 242 ls []) := by
                  intro z16 H locs ls eq16 h hl
                  obtain rfl : z16 = q16.2 := by rw [eq16]
                  obtain ⟨y17, e17⟩ : ∃ y : Int32, y = z7.1 + 1 := ⟨_, rfl⟩
                  have hf := ltb hf e17
                  refine lv_iinc (v := y17) (lv' := [(4, .int y17), (0, .ref (a0 0)), (1, .ref (a1 0)), (2, .int y1), (3, .int y2)]) hx hb dX0_layTargets_242 hl (k := 4) rfl (by rw [e17]; rfl) (by decide) rfl (fun ls hl => ?_)
                  refine lv_goto (tgt := 94) hx hb dX0_layTargets_245 (by decide) ?_
                  exact ihq7 _ _ _ _ (itr_c huq7 (sor hf)) h (lv_sub hl [1, 2, 3, 4, 0] rfl)
                have Lq16 : ∀ (n : Nat) (z16 : Int32 × Int32 × ob) (H : Heap) (locs : List Loc) (ls : Array Slot), iter (f0_layTargets_L171 o_p0 z7.1 v10 y12) n z16 = some q16 → WD D A s.heap H locs [wX0 K a0 z16.2.2, wX4 K a1 o_p0] → lv_has ls 10 [(0, .ref (a0 0)), (1, .ref (a1 0)), (2, .int y1), (3, .int y2), (4, .int z7.1), (5, .int v10), (6, .int y12), (7, .int z16.1), (8, .int z16.2.1)] → W P l e (rmS 2 45) s m args below meth c H locs 0 0 (MQ below (QvS D A [wX0 K a0 r, wX4 K a1 o_p0]) args s 0 0 A) (F0 m 171 ls []) := by
                  intro n
                  induction n with
                  | zero => intro z16 H locs ls hi; exact (iter_0 hi).elim
                  | succ n ihq16 =>
                    intro z16 H locs ls hi h hl
                    obtain ⟨uq16, hf, huq16⟩ := iter_s hi
                    unfold f0_layTargets_L171 at hf
                    have hf := tob hf
                    refine lv_iload hx hb dX0_layTargets_171 (lv_at hl 8 rfl) ?_
                    refine lv_iload hx hb dX0_layTargets_173 (lv_at hl 6 rfl) ?_
                    refine lv_icmp_ge (tgt := 242) hx hb dX0_layTargets_175 (by decide) (fun c18 => ?_) (fun c18 => ?_)
                    · have hf := ifp hf c18
                      exact Xq16_1 _ _ _ _ (itr_x huq16 (sor hf)) h (lv_sub hl [0, 1, 2, 3, 4] rfl)
                    · have hf := ifn hf c18
                      refine lv_iload hx hb dX0_layTargets_178 (lv_at hl 5 rfl) ?_
                      refine lv_istore (lv' := [(9, .int v10), (0, .ref (a0 0)), (1, .ref (a1 0)), (2, .int y1), (3, .int y2), (4, .int z7.1), (5, .int v10), (6, .int y12), (7, .int z16.1), (8, .int z16.2.1)]) hx hb dX0_layTargets_180 hl (by decide) rfl (fun ls hl => ?_)
                      refine lv_iload hx hb dX0_layTargets_182 (lv_at hl 9 rfl) ?_
                      refine lv_iload hx hb dX0_layTargets_184 (lv_at hl 7 rfl) ?_
                      refine lv_iconst (v := 1) hx hb dX0_layTargets_186 (by decide) ?_
                      refine lv_isub hx hb dX0_layTargets_187 ?_
                      obtain ⟨J19, eJ19, hf⟩ := rgn hf
                      have JW19 : ∀ (v19 : Int32 × ob) (H : Heap) (locs : List Loc) (ls : Array Slot), WD D A s.heap H locs [wX0 K a0 v19.2, wX4 K a1 o_p0] → lv_has ls 10 [(0, .ref (a0 0)), (1, .ref (a1 0)), (2, .int y1), (3, .int y2), (4, .int z7.1), (5, .int v10), (6, .int y12), (7, .int z16.1), (8, .int z16.2.1), (9, .int v19.1)] → J19 v19 = some uq16 → W P l e (rmS 2 45) s m args below meth c H locs 0 0 (MQ below (QvS D A [wX0 K a0 r, wX4 K a1 o_p0]) args s 0 0 A) (F0 m 207 ls []) := by
                        intro v19 H locs ls h hl hf
                        have hf := jof eJ19 hf
                        refine lv_aload_n hx hb dX0_layTargets_207 rfl (lv_at hl 0 rfl) ?_
                        refine r_get F h (i := 0) (k := 4) (.ref (a0 5)) inX0 rfl (by decide) w377 rfl rfl rfl dX0_layTargets_208 ?_
                        refine lv_iload hx hb dX0_layTargets_211 (lv_at hl 7 rfl) ?_
                        refine lv_aload_n hx hb dX0_layTargets_213 rfl (lv_at hl 1 rfl) ?_
                        refine r_get F h (i := 1) (k := 11) (.ref (a1 12)) inX4 rfl (by decide) w383 rfl rfl rfl dX0_layTargets_214 ?_
                        refine lv_iload hx hb dX0_layTargets_217 (lv_at hl 4 rfl) ?_
                        refine lv_iconst (v := 3) hx hb dX0_layTargets_219 (by decide) ?_
                        refine lv_imul hx hb dX0_layTargets_220 ?_
                        refine lv_iload hx hb dX0_layTargets_221 (lv_at hl 8 rfl) ?_
                        refine lv_iadd hx hb dX0_layTargets_223 ?_
                        obtain ⟨g20, hf⟩ := gdb hf
                        refine r_iald F h (i := 1) (j := 9) rfl rfl (vin_ok g20) dX0_layTargets_224 ?_
                        refine lv_iload hx hb dX0_layTargets_225 (lv_at hl 9 rfl) ?_
                        obtain ⟨q21, h21, hf⟩ := asb hf
                        refine r_callN (As := [.int z16.1, .int (o_p0.2 11 ((z7.1 * 3) + z16.2.1).toNatClampNeg), .int v19.1]) (rest := [.ref (a0 5)]) F h hl (c5_edgeAt l D K z16.1 (o_p0.2 11 ((z7.1 * 3) + z16.2.1).toNatClampNeg) v19.1 q21 h21) w367 ⟨by decide +kernel, w366, w266⟩ hsc5_edgeAt ⟨Nat.le_of_ble_eq_true rfl, Nat.le_of_ble_eq_true rfl⟩ ⟨Nat.le_refl 0, Nat.le_refl 0⟩ (Nat.le_of_ble_eq_true rfl) dX0_layTargets_227 (fun H locs h => ?_)
                        refine lv_lconst (v := 0) hx hb dX0_layTargets_230 (by decide) ?_
                        obtain ⟨g22, hf⟩ := gdb hf
                        refine r_last (g := rL ((sL v19.2 4 q21.toNatClampNeg 0).2 4)) (o1 := sL v19.2 4 q21.toNatClampNeg 0) (w := fun t23 => wX0 K a0 t23) (S' := fun t23 => [wX0 K a0 t23, wX4 K a1 o_p0]) F h (i := 0) (j := 1) rfl rfl (vin_ok g22) (sL_g v19.2 4 q21.toNatClampNeg 0) rfl (fun _ => rfl) dX0_layTargets_231 (fun t23 e23 H locs h => ?_)
                        have hf := ltb hf e23
                        refine lv_iload hx hb dX0_layTargets_232 (lv_at hl 9 rfl) ?_
                        refine lv_istore (lv' := [(7, .int v19.1), (0, .ref (a0 0)), (1, .ref (a1 0)), (2, .int y1), (3, .int y2), (4, .int z7.1), (5, .int v10), (6, .int y12), (8, .int z16.2.1), (9, .int v19.1)]) hx hb dX0_layTargets_234 hl (by decide) rfl (fun ls hl => ?_)
                        obtain ⟨y24, e24⟩ : ∃ y : Int32, y = z16.2.1 + 1 := ⟨_, rfl⟩
                        have hf := ltb hf e24
                        refine lv_iinc (v := y24) (lv' := [(8, .int y24), (7, .int v19.1), (0, .ref (a0 0)), (1, .ref (a1 0)), (2, .int y1), (3, .int y2), (4, .int z7.1), (5, .int v10), (6, .int y12), (9, .int v19.1)]) hx hb dX0_layTargets_236 hl (k := 8) rfl (by rw [e24]; rfl) (by decide) rfl (fun ls hl => ?_)
                        refine lv_goto (tgt := 171) hx hb dX0_layTargets_239 (by decide) ?_
                        exact ihq16 _ _ _ _ (itr_c huq16 (sor hf)) h (lv_sub hl [2, 3, 4, 5, 6, 7, 8, 1, 0] rfl)
                      refine lv_icmp_ge (tgt := 207) hx hb dX0_layTargets_188 (by decide) (fun c25 => ?_) (fun c25 => ?_)
                      · have hf := ifp hf c25
                        exact JW19 (v10, z16.2.2) _ _ _ h (lv_sub hl [1, 2, 3, 4, 5, 6, 7, 8, 9, 0] rfl) (sob hf)
                      · have hf := ifn hf c25
                        refine lv_aload_n hx hb dX0_layTargets_191 rfl (lv_at hl 1 rfl) ?_
                        refine r_get F h (i := 0) (k := 0) (.int (z16.2.2.1 0)) inX0 rfl (by decide) w357 rfl rfl rfl dX0_layTargets_192 ?_
                        refine lv_topi (fun y26 e26 => ?_)
                        have hf := ltb hf e26
                        refine lv_istore (lv' := [(9, .int y26), (0, .ref (a0 0)), (1, .ref (a1 0)), (2, .int y1), (3, .int y2), (4, .int z7.1), (5, .int v10), (6, .int y12), (7, .int z16.1), (8, .int z16.2.1)]) hx hb dX0_layTargets_195 hl (by decide) rfl (fun ls hl => ?_)
                        refine lv_aload_n hx hb dX0_layTargets_197 rfl (lv_at hl 1 rfl) ?_
                        refine lv_dup hx hb dX0_layTargets_198 rfl ?_
                        refine r_get F h (i := 0) (k := 0) (.int (z16.2.2.1 0)) inX0 rfl (by decide) w357 rfl rfl rfl dX0_layTargets_199 ?_
                        refine lv_iconst (v := 1) hx hb dX0_layTargets_202 (by decide) ?_
                        refine lv_iadd hx hb dX0_layTargets_203 ?_
                        refine r_put (o1 := sI z16.2.2 0 ((z16.2.2.1 0) + 1)) (w := fun t27 => wX0 K a0 t27) (S' := fun t27 => [wX0 K a0 t27, wX4 K a1 o_p0]) F h (i := 0) (k := 0) inX0 tyX0_ok nmX0 rfl (by decide) w357 rfl rfl rfl rfl rfl (Nat.le_of_ble_eq_true rfl) rfl (fun _ => rfl) dX0_layTargets_204 (fun t27 e27 H locs h => ?_)
                        have hf := ltb hf e27
                        exact JW19 (y26, t27) _ _ _ h (lv_sub hl [1, 2, 3, 4, 5, 6, 7, 8, 9, 0] rfl) (sob hf)
                exact Lq16 _ _ _ _ _ hq16 h (lv_sub hl [1, 2, 3, 4, 5, 6, 7, 8, 0] rfl)
              refine lv_if_ne (tgt := 168) hx hb dX0_layTargets_140 (by decide) (fun c28 => ?_) (fun c28 => ?_)
              · have hf := ifn hf c28
                exact JW15 z7.2 _ _ _ h (lv_sub hl [3, 4, 5, 6, 7, 2, 1, 0] rfl) (sob hf)
              · have hf := ifp hf c28
                refine lv_aload_n hx hb dX0_layTargets_143 rfl (lv_at hl 3 rfl) ?_
                refine r_get F h (i := 0) (k := 6) (.ref (a0 7)) inX0 rfl (by decide) w384 rfl rfl rfl dX0_layTargets_144 ?_
                refine lv_iload hx hb dX0_layTargets_147 (lv_at hl 0 rfl) ?_
                refine lv_iconst (v := 1) hx hb dX0_layTargets_149 (by decide) ?_
                obtain ⟨g29, hf⟩ := gdb hf
                refine r_zast (o1 := sA z7.2 6 y14.toNatClampNeg 1) (w := fun t30 => wX0 K a0 t30) (S' := fun t30 => [wX0 K a0 t30, wX4 K a1 o_p0]) F h (i := 0) (j := 3) rfl rfl (vin_ok g29) (by decide) rfl (fun _ => rfl) dX0_layTargets_150 (fun t30 e30 H locs h => ?_)
                have hf := ltb hf e30
                refine lv_aload_n hx hb dX0_layTargets_151 rfl (lv_at hl 4 rfl) ?_
                refine r_get F h (i := 1) (k := 10) (.ref (a1 11)) inX4 rfl (by decide) w380 rfl rfl rfl dX0_layTargets_152 ?_
                refine lv_iload hx hb dX0_layTargets_155 (lv_at hl 7 rfl) ?_
                obtain ⟨g31, hf⟩ := gdb hf
                refine r_zald F h (i := 1) (j := 8) rfl rfl (vin_ok g31) dX0_layTargets_157 ?_
                refine lv_if_eq (tgt := 168) hx hb dX0_layTargets_158 (by decide) (fun c32 => ?_) (fun c32 => ?_)
                · have hf := ifp hf c32
                  exact JW15 t30 _ _ _ h (lv_sub hl [3, 4, 5, 6, 7, 2, 1, 0] rfl) (sob hf)
                · have hf := ifn hf c32
                  refine lv_aload_n hx hb dX0_layTargets_161 rfl (lv_at hl 3 rfl) ?_
                  refine lv_iload hx hb dX0_layTargets_162 (lv_at hl 0 rfl) ?_
                  refine lv_iload_n hx hb dX0_layTargets_164 rfl (lv_at hl 6 rfl) ?_
                  obtain ⟨q33, h33, hf⟩ := asb hf
                  refine r_callVv (As := [.int y14, .int y2]) (rest := []) (C0 := [wX0 K a0 t30]) (C1 := [wX0 K a0 q33]) (Rr := [wX4 K a1 o_p0]) (S' := [wX0 K a0 q33, wX4 K a1 o_p0]) F h hl (c0_layAnyLetter l D K a0 y14 y2 t30 q33 h33) [0, 1] rfl rfl rfl rfl rfl (i := 0) rfl rfl w385 ⟨w386, w387, w388, w376⟩ hsc0_layAnyLetter ⟨Nat.le_of_ble_eq_true rfl, Nat.le_of_ble_eq_true rfl⟩ ⟨Nat.le_refl 0, Nat.le_refl 0⟩ (Nat.le_of_ble_eq_true rfl) dX0_layTargets_165 (fun H locs h => ?_)
                  exact JW15 q33 _ _ _ h (lv_sub hl [3, 4, 5, 6, 7, 2, 1, 0] rfl) (sob hf)
            refine lv_if_eq (tgt := 117) hx hb dX0_layTargets_110 (by decide) (fun c34 => ?_) (fun c34 => ?_)
            · have hf := ifp hf c34
              refine lv_iload_n hx hb dX0_layTargets_117 rfl (lv_at hl 2 rfl) ?_
              exact JW10 y1 _ _ _ h (lv_sub hl [0, 1, 2, 3, 4] rfl) (sob hf)
            · have hf := ifn hf c34
              refine lv_iload_n hx hb dX0_layTargets_113 rfl (lv_at hl 3 rfl) ?_
              refine lv_goto (tgt := 118) hx hb dX0_layTargets_114 (by decide) ?_
              exact JW10 y2 _ _ _ h (lv_sub hl [0, 1, 2, 3, 4] rfl) (sob hf)
      exact Lq7 _ _ _ _ _ hq7 h (lv_sub hl [1, 2, 3, 4, 0] rfl)
    have Lq5 : ∀ (n : Nat) (z5 : Int32 × ob) (H : Heap) (locs : List Loc) (ls : Array Slot), iter (f0_layTargets_L48 y1 y2) n z5 = some q5 → WD D A s.heap H locs [wX0 K a0 z5.2, wX4 K a1 o_p0] → lv_has ls 10 [(0, .ref (a0 0)), (1, .ref (a1 0)), (2, .int y1), (3, .int y2), (4, .int z5.1)] → W P l e (rmS 2 45) s m args below meth c H locs 0 0 (MQ below (QvS D A [wX0 K a0 r, wX4 K a1 o_p0]) args s 0 0 A) (F0 m 48 ls []) := by
      intro n
      induction n with
      | zero => intro z5 H locs ls hi; exact (iter_0 hi).elim
      | succ n ihq5 =>
        intro z5 H locs ls hi h hl
        obtain ⟨uq5, hf, huq5⟩ := iter_s hi
        unfold f0_layTargets_L48 at hf
        have hf := tob hf
        refine lv_iload hx hb dX0_layTargets_48 (lv_at hl 4 rfl) ?_
        refine lv_bipush (v := 13) hx hb dX0_layTargets_50 (by decide) ?_
        refine lv_icmp_ge (tgt := 85) hx hb dX0_layTargets_52 (by decide) (fun c35 => ?_) (fun c35 => ?_)
        · have hf := ifp hf c35
          exact Xq5_1 _ _ _ _ (itr_x huq5 (sor hf)) h (lv_sub hl [0, 1, 2, 3] rfl)
        · have hf := ifn hf c35
          refine lv_aload_n hx hb dX0_layTargets_55 rfl (lv_at hl 0 rfl) ?_
          refine r_get F h (i := 0) (k := 6) (.ref (a0 7)) inX0 rfl (by decide) w384 rfl rfl rfl dX0_layTargets_56 ?_
          refine lv_iload hx hb dX0_layTargets_59 (lv_at hl 4 rfl) ?_
          refine lv_iload hx hb dX0_layTargets_61 (lv_at hl 4 rfl) ?_
          refine lv_iload_n hx hb dX0_layTargets_63 rfl (lv_at hl 2 rfl) ?_
          obtain ⟨J36, eJ36, hf⟩ := rgn hf
          have JW36 : ∀ (v36 : Int32) (H : Heap) (locs : List Loc) (ls : Array Slot), WD D A s.heap H locs [wX0 K a0 z5.2, wX4 K a1 o_p0] → lv_has ls 10 [(0, .ref (a0 0)), (1, .ref (a1 0)), (2, .int y1), (3, .int y2), (4, .int z5.1)] → J36 v36 = some uq5 → W P l e (rmS 2 45) s m args below meth c H locs 0 0 (MQ below (QvS D A [wX0 K a0 r, wX4 K a1 o_p0]) args s 0 0 A) (F0 m 78 ls [.int v36, .int z5.1, .ref (a0 7)]) := by
            intro v36 H locs ls h hl hf
            have hf := jof eJ36 hf
            obtain ⟨g37, hf⟩ := gdb hf
            obtain ⟨g38, hf⟩ := gdb hf
            refine r_zast (o1 := sA z5.2 6 z5.1.toNatClampNeg v36) (w := fun t39 => wX0 K a0 t39) (S' := fun t39 => [wX0 K a0 t39, wX4 K a1 o_p0]) F h (i := 0) (j := 3) rfl rfl (vin_ok g37) g38 rfl (fun _ => rfl) dX0_layTargets_78 (fun t39 e39 H locs h => ?_)
            have hf := ltb hf e39
            obtain ⟨y40, e40⟩ : ∃ y : Int32, y = z5.1 + 1 := ⟨_, rfl⟩
            have hf := ltb hf e40
            refine lv_iinc (v := y40) (lv' := [(4, .int y40), (0, .ref (a0 0)), (1, .ref (a1 0)), (2, .int y1), (3, .int y2)]) hx hb dX0_layTargets_79 hl (k := 4) rfl (by rw [e40]; rfl) (by decide) rfl (fun ls hl => ?_)
            refine lv_goto (tgt := 48) hx hb dX0_layTargets_82 (by decide) ?_
            exact ihq5 _ _ _ _ (itr_c huq5 (sor hf)) h (lv_sub hl [1, 2, 3, 4, 0] rfl)
          refine lv_icmp_eq (tgt := 73) hx hb dX0_layTargets_64 (by decide) (fun c41 => ?_) (fun c41 => ?_)
          · have hf := ifp hf c41
            refine lv_iconst (v := 1) hx hb dX0_layTargets_73 (by decide) ?_
            refine lv_goto (tgt := 78) hx hb dX0_layTargets_74 (by decide) ?_
            exact JW36 1 _ _ _ h (lv_sub hl [0, 1, 2, 3, 4] rfl) (sob hf)
          · have hf := ifn hf c41
            refine lv_iload hx hb dX0_layTargets_67 (lv_at hl 4 rfl) ?_
            refine lv_iload_n hx hb dX0_layTargets_69 rfl (lv_at hl 3 rfl) ?_
            refine lv_icmp_ne (tgt := 77) hx hb dX0_layTargets_70 (by decide) (fun c42 => ?_) (fun c42 => ?_)
            · have hf := ifn hf c42
              refine lv_iconst (v := 0) hx hb dX0_layTargets_77 (by decide) ?_
              exact JW36 0 _ _ _ h (lv_sub hl [0, 1, 2, 3, 4] rfl) (sob hf)
            · have hf := ifp hf c42
              refine lv_iconst (v := 1) hx hb dX0_layTargets_73 (by decide) ?_
              refine lv_goto (tgt := 78) hx hb dX0_layTargets_74 (by decide) ?_
              exact JW36 1 _ _ _ h (lv_sub hl [0, 1, 2, 3, 4] rfl) (sob hf)
    exact Lq5 _ _ _ _ _ hq5 h (lv_sub hl [1, 2, 3, 4, 0] rfl)
  have Lq4 : ∀ (n : Nat) (z4 : Int32 × ob) (H : Heap) (locs : List Loc) (ls : Array Slot), iter f0_layTargets_L19 n z4 = some q4 → WD D A s.heap H locs [wX0 K a0 z4.2, wX4 K a1 o_p0] → lv_has ls 10 [(0, .ref (a0 0)), (1, .ref (a1 0)), (2, .int y1), (3, .int y2), (4, .int z4.1)] → W P l e (rmS 2 45) s m args below meth c H locs 0 0 (MQ below (QvS D A [wX0 K a0 r, wX4 K a1 o_p0]) args s 0 0 A) (F0 m 19 ls []) := by
    intro n
    induction n with
    | zero => intro z4 H locs ls hi; exact (iter_0 hi).elim
    | succ n ihq4 =>
      intro z4 H locs ls hi h hl
      obtain ⟨uq4, hf, huq4⟩ := iter_s hi
      unfold f0_layTargets_L19 at hf
      have hf := tob hf
      refine lv_iload hx hb dX0_layTargets_19 (lv_at hl 4 rfl) ?_
      refine lv_aload_n hx hb dX0_layTargets_21 rfl (lv_at hl 0 rfl) ?_
      refine r_get F h (i := 0) (k := 4) (.ref (a0 5)) inX0 rfl (by decide) w377 rfl rfl rfl dX0_layTargets_22 ?_
      refine r_alen (v := 676) (t0 := 4) F h (i := 0) (j := 1) rfl rfl rfl rfl dX0_layTargets_25 ?_
      refine lv_icmp_ge (tgt := 45) hx hb dX0_layTargets_26 (by decide) (fun c43 => ?_) (fun c43 => ?_)
      · have hf := ifp hf c43
        exact Xq4_1 _ _ _ _ (itr_x huq4 (sor hf)) h (lv_sub hl [0, 1, 2, 3] rfl)
      · have hf := ifn hf c43
        refine lv_aload_n hx hb dX0_layTargets_29 rfl (lv_at hl 0 rfl) ?_
        refine r_get F h (i := 0) (k := 4) (.ref (a0 5)) inX0 rfl (by decide) w377 rfl rfl rfl dX0_layTargets_30 ?_
        refine lv_iload hx hb dX0_layTargets_33 (lv_at hl 4 rfl) ?_
        refine r_ldc2 F 1000000000000 w364 dX0_layTargets_35 ?_
        obtain ⟨g44, hf⟩ := gdb hf
        refine r_last (g := rL ((sL z4.2 4 z4.1.toNatClampNeg 1000000000000).2 4)) (o1 := sL z4.2 4 z4.1.toNatClampNeg 1000000000000) (w := fun t45 => wX0 K a0 t45) (S' := fun t45 => [wX0 K a0 t45, wX4 K a1 o_p0]) F h (i := 0) (j := 1) rfl rfl (vin_ok g44) (sL_g z4.2 4 z4.1.toNatClampNeg 1000000000000) rfl (fun _ => rfl) dX0_layTargets_38 (fun t45 e45 H locs h => ?_)
        have hf := ltb hf e45
        obtain ⟨y46, e46⟩ : ∃ y : Int32, y = z4.1 + 1 := ⟨_, rfl⟩
        have hf := ltb hf e46
        refine lv_iinc (v := y46) (lv' := [(4, .int y46), (0, .ref (a0 0)), (1, .ref (a1 0)), (2, .int y1), (3, .int y2)]) hx hb dX0_layTargets_39 hl (k := 4) rfl (by rw [e46]; rfl) (by decide) rfl (fun ls hl => ?_)
        refine lv_goto (tgt := 19) hx hb dX0_layTargets_42 (by decide) ?_
        exact ihq4 _ _ _ _ (itr_c huq4 (sor hf)) h (lv_sub hl [1, 2, 3, 4, 0] rfl)
  exact Lq4 _ _ _ _ _ hq4 h (lv_sub hl [3, 4, 2, 1, 0] rfl)
def f0_drawEdges_L5 (g0 : Int32) (g1 : Int32) (z1 : Int32 × Int32 × ob) : Option (Nat × (Int32 × Int32 × ob)) :=
  (if (z1.2.2.1 0) ≤ z1.2.1 then (some (1, (z1.1, z1.2.1, z1.2.2))) else (gd (vin z1.2.1 13) <| ((if 1000000000000 ≤ (rL (z1.2.2.2 9) z1.2.1.toNatClampNeg) then (some (z1.1, z1.2.2)) else (gd (vin z1.2.1 13) <| (f0_joined (g1.toInt64) (rL (z1.2.2.2 9) z1.2.1.toNatClampNeg) z1.2.2).bind fun q9 => gd (vin (g0 + z1.2.1) 676) <| (if (rL (z1.2.2.2 4) (g0 + z1.2.1).toNatClampNeg) ≤ q9 then (some (z1.1, z1.2.2)) else (gd (vin (g0 + z1.2.1) 676) <| lt (sL z1.2.2 4 (g0 + z1.2.1).toNatClampNeg q9) fun t13 => some (1, t13)))))).bind fun v5 => lt (z1.2.1 + 1) fun y6 => some (0, (v5.1, y6, v5.2))))
noncomputable def f0_drawEdges (x0 : Int32) (x1 : Int32) (o_this : ob) : Option (Int32 × ob) :=
  (wh (f0_drawEdges_L5 x0 x1) (0, 0, o_this)).bind fun q1 => gd (bz q1.2.1) <| some (q1.2.1, q1.2.2.2)
set_option maxRecDepth 100000 in
set_option maxHeartbeats 4000000 in
theorem c0_drawEdges (l : Launch) (D : va_G) (K : Nat → ClassId) (a0 : Nat → Nat) (x0 : Int32) (x1 : Int32) (o_this : ob) (r : Int32 × ob) (hf : f0_drawEdges x0 x1 o_this = some r) : CTi l yX0_drawEdges cX0_drawEdges 7 (some .boolean) 2 47 D K [.ref (a0 0), .int x0, .int x1] [wX0 K a0 o_this] [wX0 K a0 r.2] r.1 := by
  unfold f0_drawEdges at hf
  have hf := tob hf
  refine entI (by decide) (Nat.le_of_ble_eq_true rfl) (fun P e s m args below meth c A ls F h hl hin => ?_)
  have hx := F.1
  have hb := F.2.1
  have hl : lv_has ls 7 [(0, .ref (a0 0)), (1, .int x0), (2, .int x1)] := hl
  refine lv_iconst (v := 0) hx hb dX0_drawEdges_0 (by decide) ?_
  refine lv_istore_n (lv' := [(3, .int 0), (0, .ref (a0 0)), (1, .int x0), (2, .int x1)]) hx hb dX0_drawEdges_1 rfl hl (by decide) rfl (fun ls hl => ?_)
  refine lv_iconst (v := 0) hx hb dX0_drawEdges_2 (by decide) ?_
  refine lv_istore (lv' := [(4, .int 0), (3, .int 0), (0, .ref (a0 0)), (1, .int x0), (2, .int x1)]) hx hb dX0_drawEdges_3 hl (by decide) rfl (fun ls hl => ?_)
  obtain ⟨q1, hq1, hf⟩ := asb hf
  obtain ⟨nq1, hq1⟩ := wh_out hq1
  have Xq1_1 : ∀ (z1 : Int32 × Int32 × ob) (H : Heap) (locs : List Loc) (ls : Array Slot), q1 = (1, z1) → WD D A s.heap H locs [wX0 K a0 z1.2.2] → lv_has ls 7 [(3, .int z1.1)] → W P l e (rmS 2 47) s m args below meth c H locs 0 0 (MQ below (QiS D A [wX0 K a0 r.2] r.1) args s 0 0 A) (F0 m 77 ls []) := by
    intro z1 H locs ls eq1 h hl
    obtain rfl : z1 = q1.2 := by rw [eq1]
    refine lv_iload_n hx hb dX0_drawEdges_77 rfl (lv_at hl 0 rfl) ?_
    obtain ⟨g2, hf⟩ := gdb hf
    obtain rfl := sor hf
    exact r_retz F h g2 dX0_drawEdges_78
  have Lq1 : ∀ (n : Nat) (z1 : Int32 × Int32 × ob) (H : Heap) (locs : List Loc) (ls : Array Slot), iter (f0_drawEdges_L5 x0 x1) n z1 = some q1 → WD D A s.heap H locs [wX0 K a0 z1.2.2] → lv_has ls 7 [(0, .ref (a0 0)), (1, .int x0), (2, .int x1), (3, .int z1.1), (4, .int z1.2.1)] → W P l e (rmS 2 47) s m args below meth c H locs 0 0 (MQ below (QiS D A [wX0 K a0 r.2] r.1) args s 0 0 A) (F0 m 5 ls []) := by
    intro n
    induction n with
    | zero => intro z1 H locs ls hi; exact (iter_0 hi).elim
    | succ n ihq1 =>
      intro z1 H locs ls hi h hl
      obtain ⟨uq1, hf, huq1⟩ := iter_s hi
      unfold f0_drawEdges_L5 at hf
      have hf := tob hf
      refine lv_iload hx hb dX0_drawEdges_5 (lv_at hl 4 rfl) ?_
      refine lv_aload_n hx hb dX0_drawEdges_7 rfl (lv_at hl 0 rfl) ?_
      refine r_get F h (i := 0) (k := 0) (.int (z1.2.2.1 0)) inX0 rfl (by decide) w357 rfl rfl rfl dX0_drawEdges_8 ?_
      refine lv_icmp_ge (tgt := 77) hx hb dX0_drawEdges_11 (by decide) (fun c3 => ?_) (fun c3 => ?_)
      · have hf := ifp hf c3
        exact Xq1_1 _ _ _ _ (itr_x huq1 (sor hf)) h (lv_sub hl [3] rfl)
      · have hf := ifn hf c3
        refine lv_aload_n hx hb dX0_drawEdges_14 rfl (lv_at hl 0 rfl) ?_
        refine r_get F h (i := 0) (k := 9) (.ref (rdX0 a0 z1.2.2)) inX0 rfl (by decide) w363 rfl rfl rfl dX0_drawEdges_15 ?_
        refine lv_iload hx hb dX0_drawEdges_18 (lv_at hl 4 rfl) ?_
        obtain ⟨g4, hf⟩ := gdb hf
        refine r_lald F h (i := 0) (j := 5) rfl rfl (vin_ok g4) dX0_drawEdges_20 ?_
        refine r_ldc2 F 1000000000000 w364 dX0_drawEdges_21 ?_
        refine W.lcmp hx hb dX0_drawEdges_24 ?_
        obtain ⟨J5, eJ5, hf⟩ := rgn hf
        have JW5 : ∀ (v5 : Int32 × ob) (H : Heap) (locs : List Loc) (ls : Array Slot), WD D A s.heap H locs [wX0 K a0 v5.2] → lv_has ls 7 [(0, .ref (a0 0)), (1, .int x0), (2, .int x1), (3, .int v5.1), (4, .int z1.2.1)] → J5 v5 = some uq1 → W P l e (rmS 2 47) s m args below meth c H locs 0 0 (MQ below (QiS D A [wX0 K a0 r.2] r.1) args s 0 0 A) (F0 m 71 ls []) := by
          intro v5 H locs ls h hl hf
          have hf := jof eJ5 hf
          obtain ⟨y6, e6⟩ : ∃ y : Int32, y = z1.2.1 + 1 := ⟨_, rfl⟩
          have hf := ltb hf e6
          refine lv_iinc (v := y6) (lv' := [(4, .int y6), (0, .ref (a0 0)), (1, .int x0), (2, .int x1), (3, .int v5.1)]) hx hb dX0_drawEdges_71 hl (k := 4) rfl (by rw [e6]; rfl) (by decide) rfl (fun ls hl => ?_)
          refine lv_goto (tgt := 5) hx hb dX0_drawEdges_74 (by decide) ?_
          exact ihq1 _ _ _ _ (itr_c huq1 (sor hf)) h (lv_sub hl [1, 2, 3, 4, 0] rfl)
        refine lv_if_ge (tgt := 71) hx hb dX0_drawEdges_25 (by decide) (fun c7 => ?_) (fun c7 => ?_)
        · have hf := ifp hf ((lg_cmp_ge (rL (z1.2.2.2 9) z1.2.1.toNatClampNeg) 1000000000000).mp c7)
          exact JW5 (z1.1, z1.2.2) _ _ _ h (lv_sub hl [0, 1, 2, 3, 4] rfl) (sob hf)
        · have hf := ifn hf (fun z => c7 ((lg_cmp_ge (rL (z1.2.2.2 9) z1.2.1.toNatClampNeg) 1000000000000).mpr z))
          refine lv_aload_n hx hb dX0_drawEdges_28 rfl (lv_at hl 0 rfl) ?_
          refine lv_iload_n hx hb dX0_drawEdges_29 rfl (lv_at hl 2 rfl) ?_
          refine lv_i2l hx hb dX0_drawEdges_30 rfl ?_
          refine lv_aload_n hx hb dX0_drawEdges_31 rfl (lv_at hl 0 rfl) ?_
          refine r_get F h (i := 0) (k := 9) (.ref (rdX0 a0 z1.2.2)) inX0 rfl (by decide) w363 rfl rfl rfl dX0_drawEdges_32 ?_
          refine lv_iload hx hb dX0_drawEdges_35 (lv_at hl 4 rfl) ?_
          obtain ⟨g8, hf⟩ := gdb hf
          refine r_lald F h (i := 0) (j := 5) rfl rfl (vin_ok g8) dX0_drawEdges_37 ?_
          obtain ⟨q9, h9, hf⟩ := asb hf
          refine r_callVl (As := [.long (x1.toInt64), .long (rL (z1.2.2.2 9) z1.2.1.toNatClampNeg)]) (rest := []) (C0 := [wX0 K a0 z1.2.2]) (C1 := [wX0 K a0 z1.2.2]) (Rr := []) (S' := [wX0 K a0 z1.2.2]) F h hl (c0_joined l D K a0 (x1.toInt64) (rL (z1.2.2.2 9) z1.2.1.toNatClampNeg) z1.2.2 q9 h9) [0] rfl rfl rfl rfl rfl (i := 0) rfl rfl w372 ⟨w373, w374, w375, w376⟩ hsc0_joined ⟨Nat.le_of_ble_eq_true rfl, Nat.le_of_ble_eq_true rfl⟩ ⟨Nat.le_refl 0, Nat.le_refl 0⟩ (Nat.le_of_ble_eq_true rfl) dX0_drawEdges_38 (fun H locs h => ?_)
          refine lv_lstore (lv' := [(5, .long q9), (0, .ref (a0 0)), (1, .int x0), (2, .int x1), (3, .int z1.1), (4, .int z1.2.1)]) hx hb dX0_drawEdges_41 hl (by decide) rfl (fun ls hl => ?_)
          refine lv_lload hx hb dX0_drawEdges_43 (lv_at hl 0 rfl) ?_
          refine lv_aload_n hx hb dX0_drawEdges_45 rfl (lv_at hl 1 rfl) ?_
          refine r_get F h (i := 0) (k := 4) (.ref (a0 5)) inX0 rfl (by decide) w377 rfl rfl rfl dX0_drawEdges_46 ?_
          refine lv_iload_n hx hb dX0_drawEdges_49 rfl (lv_at hl 2 rfl) ?_
          refine lv_iload hx hb dX0_drawEdges_50 (lv_at hl 5 rfl) ?_
          refine lv_iadd hx hb dX0_drawEdges_52 ?_
          obtain ⟨g10, hf⟩ := gdb hf
          refine r_lald F h (i := 0) (j := 1) rfl rfl (vin_ok g10) dX0_drawEdges_53 ?_
          refine W.lcmp hx hb dX0_drawEdges_54 ?_
          refine lv_if_ge (tgt := 71) hx hb dX0_drawEdges_55 (by decide) (fun c11 => ?_) (fun c11 => ?_)
          · have hf := ifp hf ((lg_cmp_ge q9 (rL (z1.2.2.2 4) (x0 + z1.2.1).toNatClampNeg)).mp c11)
            exact JW5 (z1.1, z1.2.2) _ _ _ h (lv_sub hl [1, 2, 3, 4, 5] rfl) (sob hf)
          · have hf := ifn hf (fun z => c11 ((lg_cmp_ge q9 (rL (z1.2.2.2 4) (x0 + z1.2.1).toNatClampNeg)).mpr z))
            refine lv_aload_n hx hb dX0_drawEdges_58 rfl (lv_at hl 1 rfl) ?_
            refine r_get F h (i := 0) (k := 4) (.ref (a0 5)) inX0 rfl (by decide) w377 rfl rfl rfl dX0_drawEdges_59 ?_
            refine lv_iload_n hx hb dX0_drawEdges_62 rfl (lv_at hl 2 rfl) ?_
            refine lv_iload hx hb dX0_drawEdges_63 (lv_at hl 5 rfl) ?_
            refine lv_iadd hx hb dX0_drawEdges_65 ?_
            refine lv_lload hx hb dX0_drawEdges_66 (lv_at hl 0 rfl) ?_
            obtain ⟨g12, hf⟩ := gdb hf
            refine r_last (g := rL ((sL z1.2.2 4 (x0 + z1.2.1).toNatClampNeg q9).2 4)) (o1 := sL z1.2.2 4 (x0 + z1.2.1).toNatClampNeg q9) (w := fun t13 => wX0 K a0 t13) (S' := fun t13 => [wX0 K a0 t13]) F h (i := 0) (j := 1) rfl rfl (vin_ok g12) (sL_g z1.2.2 4 (x0 + z1.2.1).toNatClampNeg q9) rfl (fun _ => rfl) dX0_drawEdges_68 (fun t13 e13 H locs h => ?_)
            have hf := ltb hf e13
            refine lv_iconst (v := 1) hx hb dX0_drawEdges_69 (by decide) ?_
            refine lv_istore_n (lv' := [(3, .int 1), (5, .long q9), (0, .ref (a0 0)), (1, .int x0), (2, .int x1), (4, .int z1.2.1)]) hx hb dX0_drawEdges_70 rfl hl (by decide) rfl (fun ls hl => ?_)
            exact JW5 (1, t13) _ _ _ h (lv_sub hl [2, 3, 4, 0, 5] rfl) (sob hf)
  exact Lq1 _ _ _ _ _ hq1 h (lv_sub hl [2, 3, 4, 1, 0] rfl)
noncomputable def f0_playRound_L4 (g1 : ob) (z1 : Int32 × Int32 × ob) : Option (Nat × (Int32 × Int32 × ob)) :=
  (if (g1.1 1) ≤ z1.2.1 then (some (1, (z1.1, z1.2.1, z1.2.2))) else (gd (vin z1.2.1 10) <| ((if (z1.2.2.2 7 z1.2.1.toNatClampNeg) = (-1) then (some (z1.1, z1.2.2)) else (gd (vin z1.2.1 10) <| (f0_startAt (g1.2 4 z1.2.1.toNatClampNeg) z1.2.2).bind fun q9 => gd (vin z1.2.1 10) <| lt (g1.2 5 z1.2.1.toNatClampNeg) fun y11 => (f5_lettersIn y11).bind fun q12 => ((if q12 ≤ 0 then (some q9) else ((f5_firstLetter y11).bind fun q26 => (f0_readOn q26 q9).bind fun q27 => some q27))).bind fun v13 => (f5_lettersIn y11).bind fun q14 => ((if q14 = 2 then ((f5_secondLetter y11).bind fun q23 => (f0_readOn q23 v13).bind fun q24 => some q24) else (some v13))).bind fun v15 => gd (vin z1.2.1 10) <| gd (vin z1.2.1 10) <| (f5_edgeAt (g1.2 2 z1.2.1.toNatClampNeg) (g1.2 3 z1.2.1.toNatClampNeg) 0).bind fun q18 => gd (vin z1.2.1 10) <| (f0_drawEdges q18 (v15.2 7 z1.2.1.toNatClampNeg) v15).bind fun q20 => lt (z1.1 ||| q20.1) fun y21 => some (y21, q20.2)))).bind fun v5 => lt (z1.2.1 + 1) fun y6 => some (0, (v5.1, y6, v5.2))))
noncomputable def f0_playRound (o_this : ob) (o_p0 : ob) : Option (Int32 × ob) :=
  (wh (f0_playRound_L4 o_p0) (0, 0, o_this)).bind fun q1 => gd (bz q1.2.1) <| some (q1.2.1, q1.2.2.2)
set_option maxRecDepth 100000 in
set_option maxHeartbeats 4000000 in
theorem c0_playRound (l : Launch) (D : va_G) (K : Nat → ClassId) (a0 : Nat → Nat) (a1 : Nat → Nat) (o_this : ob) (o_p0 : ob) (r : Int32 × ob) (hf : f0_playRound o_this o_p0 = some r) : CTi l yX0_playRound cX0_playRound 5 (some .boolean) 3 73 D K [.ref (a0 0), .ref (a1 0)] [wX0 K a0 o_this, wX4 K a1 o_p0] [wX0 K a0 r.2, wX4 K a1 o_p0] r.1 := by
  unfold f0_playRound at hf
  have hf := tob hf
  refine entI (by decide) (Nat.le_of_ble_eq_true rfl) (fun P e s m args below meth c A ls F h hl hin => ?_)
  have hx := F.1
  have hb := F.2.1
  have hl : lv_has ls 5 [(0, .ref (a0 0)), (1, .ref (a1 0))] := hl
  refine lv_iconst (v := 0) hx hb dX0_playRound_0 (by decide) ?_
  refine lv_istore_n (lv' := [(2, .int 0), (0, .ref (a0 0)), (1, .ref (a1 0))]) hx hb dX0_playRound_1 rfl hl (by decide) rfl (fun ls hl => ?_)
  refine lv_iconst (v := 0) hx hb dX0_playRound_2 (by decide) ?_
  refine lv_istore_n (lv' := [(3, .int 0), (2, .int 0), (0, .ref (a0 0)), (1, .ref (a1 0))]) hx hb dX0_playRound_3 rfl hl (by decide) rfl (fun ls hl => ?_)
  obtain ⟨q1, hq1, hf⟩ := asb hf
  obtain ⟨nq1, hq1⟩ := wh_out hq1
  have Xq1_1 : ∀ (z1 : Int32 × Int32 × ob) (H : Heap) (locs : List Loc) (ls : Array Slot), q1 = (1, z1) → WD D A s.heap H locs [wX0 K a0 z1.2.2, wX4 K a1 o_p0] → lv_has ls 5 [(2, .int z1.1)] → W P l e (rmS 3 73) s m args below meth c H locs 0 0 (MQ below (QiS D A [wX0 K a0 r.2, wX4 K a1 o_p0] r.1) args s 0 0 A) (F0 m 110 ls []) := by
    intro z1 H locs ls eq1 h hl
    obtain rfl : z1 = q1.2 := by rw [eq1]
    refine lv_iload_n hx hb dX0_playRound_110 rfl (lv_at hl 0 rfl) ?_
    obtain ⟨g2, hf⟩ := gdb hf
    obtain rfl := sor hf
    exact r_retz F h g2 dX0_playRound_111
  have Lq1 : ∀ (n : Nat) (z1 : Int32 × Int32 × ob) (H : Heap) (locs : List Loc) (ls : Array Slot), iter (f0_playRound_L4 o_p0) n z1 = some q1 → WD D A s.heap H locs [wX0 K a0 z1.2.2, wX4 K a1 o_p0] → lv_has ls 5 [(0, .ref (a0 0)), (1, .ref (a1 0)), (2, .int z1.1), (3, .int z1.2.1)] → W P l e (rmS 3 73) s m args below meth c H locs 0 0 (MQ below (QiS D A [wX0 K a0 r.2, wX4 K a1 o_p0] r.1) args s 0 0 A) (F0 m 4 ls []) := by
    intro n
    induction n with
    | zero => intro z1 H locs ls hi; exact (iter_0 hi).elim
    | succ n ihq1 =>
      intro z1 H locs ls hi h hl
      obtain ⟨uq1, hf, huq1⟩ := iter_s hi
      unfold f0_playRound_L4 at hf
      have hf := tob hf
      refine lv_iload_n hx hb dX0_playRound_4 rfl (lv_at hl 3 rfl) ?_
      refine lv_aload_n hx hb dX0_playRound_5 rfl (lv_at hl 1 rfl) ?_
      refine r_get F h (i := 1) (k := 1) (.int (o_p0.1 1)) inX4 rfl (by decide) w389 rfl rfl rfl dX0_playRound_6 ?_
      refine lv_icmp_ge (tgt := 110) hx hb dX0_playRound_9 (by decide) (fun c3 => ?_) (fun c3 => ?_)
      · have hf := ifp hf c3
        exact Xq1_1 _ _ _ _ (itr_x huq1 (sor hf)) h (lv_sub hl [2] rfl)
      · have hf := ifn hf c3
        refine lv_aload_n hx hb dX0_playRound_12 rfl (lv_at hl 0 rfl) ?_
        refine r_get F h (i := 0) (k := 7) (.ref (a0 8)) inX0 rfl (by decide) w390 rfl rfl rfl dX0_playRound_13 ?_
        refine lv_iload_n hx hb dX0_playRound_16 rfl (lv_at hl 3 rfl) ?_
        obtain ⟨g4, hf⟩ := gdb hf
        refine r_iald F h (i := 0) (j := 4) rfl rfl (vin_ok g4) dX0_playRound_17 ?_
        refine lv_iconst (v := (-1)) hx hb dX0_playRound_18 (by decide) ?_
        obtain ⟨J5, eJ5, hf⟩ := rgn hf
        have JW5 : ∀ (v5 : Int32 × ob) (H : Heap) (locs : List Loc) (ls : Array Slot), WD D A s.heap H locs [wX0 K a0 v5.2, wX4 K a1 o_p0] → lv_has ls 5 [(0, .ref (a0 0)), (1, .ref (a1 0)), (2, .int v5.1), (3, .int z1.2.1)] → J5 v5 = some uq1 → W P l e (rmS 3 73) s m args below meth c H locs 0 0 (MQ below (QiS D A [wX0 K a0 r.2, wX4 K a1 o_p0] r.1) args s 0 0 A) (F0 m 104 ls []) := by
          intro v5 H locs ls h hl hf
          have hf := jof eJ5 hf
          obtain ⟨y6, e6⟩ : ∃ y : Int32, y = z1.2.1 + 1 := ⟨_, rfl⟩
          have hf := ltb hf e6
          refine lv_iinc (v := y6) (lv' := [(3, .int y6), (0, .ref (a0 0)), (1, .ref (a1 0)), (2, .int v5.1)]) hx hb dX0_playRound_104 hl (k := 3) rfl (by rw [e6]; rfl) (by decide) rfl (fun ls hl => ?_)
          refine lv_goto (tgt := 4) hx hb dX0_playRound_107 (by decide) ?_
          exact ihq1 _ _ _ _ (itr_c huq1 (sor hf)) h (lv_sub hl [1, 2, 3, 0] rfl)
        refine lv_icmp_eq (tgt := 104) hx hb dX0_playRound_19 (by decide) (fun c7 => ?_) (fun c7 => ?_)
        · have hf := ifp hf c7
          exact JW5 (z1.1, z1.2.2) _ _ _ h (lv_sub hl [0, 1, 2, 3] rfl) (sob hf)
        · have hf := ifn hf c7
          refine lv_aload_n hx hb dX0_playRound_22 rfl (lv_at hl 0 rfl) ?_
          refine lv_aload_n hx hb dX0_playRound_23 rfl (lv_at hl 1 rfl) ?_
          refine r_get F h (i := 1) (k := 4) (.ref (a1 5)) inX4 rfl (by decide) w391 rfl rfl rfl dX0_playRound_24 ?_
          refine lv_iload_n hx hb dX0_playRound_27 rfl (lv_at hl 3 rfl) ?_
          obtain ⟨g8, hf⟩ := gdb hf
          refine r_iald F h (i := 1) (j := 3) rfl rfl (vin_ok g8) dX0_playRound_28 ?_
          obtain ⟨q9, h9, hf⟩ := asb hf
          refine r_callVv (As := [.int (o_p0.2 4 z1.2.1.toNatClampNeg)]) (rest := []) (C0 := [wX0 K a0 z1.2.2]) (C1 := [wX0 K a0 q9]) (Rr := [wX4 K a1 o_p0]) (S' := [wX0 K a0 q9, wX4 K a1 o_p0]) F h hl (c0_startAt l D K a0 (o_p0.2 4 z1.2.1.toNatClampNeg) z1.2.2 q9 h9) [0, 1] rfl rfl rfl rfl rfl (i := 0) rfl rfl w395 ⟨w396, w397, w398, w376⟩ hsc0_startAt ⟨Nat.le_of_ble_eq_true rfl, Nat.le_of_ble_eq_true rfl⟩ ⟨Nat.le_refl 0, Nat.le_refl 0⟩ (Nat.le_of_ble_eq_true rfl) dX0_playRound_29 (fun H locs h => ?_)
          refine lv_aload_n hx hb dX0_playRound_32 rfl (lv_at hl 1 rfl) ?_
          refine r_get F h (i := 1) (k := 5) (.ref (a1 6)) inX4 rfl (by decide) w392 rfl rfl rfl dX0_playRound_33 ?_
          refine lv_iload_n hx hb dX0_playRound_36 rfl (lv_at hl 3 rfl) ?_
          obtain ⟨g10, hf⟩ := gdb hf
          refine r_iald F h (i := 1) (j := 4) rfl rfl (vin_ok g10) dX0_playRound_37 ?_
          refine lv_topi (fun y11 e11 => ?_)
          have hf := ltb hf e11
          refine lv_istore (lv' := [(4, .int y11), (0, .ref (a0 0)), (1, .ref (a1 0)), (2, .int z1.1), (3, .int z1.2.1)]) hx hb dX0_playRound_38 hl (by decide) rfl (fun ls hl => ?_)
          refine lv_iload hx hb dX0_playRound_40 (lv_at hl 0 rfl) ?_
          obtain ⟨q12, h12, hf⟩ := asb hf
          refine r_callN (As := [.int y11]) (rest := []) F h hl (c5_lettersIn l D K y11 q12 h12) w267 ⟨by decide +kernel, w265, w266⟩ hsc5_lettersIn ⟨Nat.le_of_ble_eq_true rfl, Nat.le_of_ble_eq_true rfl⟩ ⟨Nat.le_refl 0, Nat.le_refl 0⟩ (Nat.le_of_ble_eq_true rfl) dX0_playRound_42 (fun H locs h => ?_)
          obtain ⟨J13, eJ13, hf⟩ := rgn hf
          have JW13 : ∀ (v13 : ob) (H : Heap) (locs : List Loc) (ls : Array Slot), WD D A s.heap H locs [wX0 K a0 v13, wX4 K a1 o_p0] → lv_has ls 5 [(0, .ref (a0 0)), (1, .ref (a1 0)), (2, .int z1.1), (3, .int z1.2.1), (4, .int y11)] → J13 v13 = some uq1 → W P l e (rmS 3 73) s m args below meth c H locs 0 0 (MQ below (QiS D A [wX0 K a0 r.2, wX4 K a1 o_p0] r.1) args s 0 0 A) (F0 m 57 ls []) := by
            intro v13 H locs ls h hl hf
            have hf := jof eJ13 hf
            refine lv_iload hx hb dX0_playRound_57 (lv_at hl 4 rfl) ?_
            obtain ⟨q14, h14, hf⟩ := asb hf
            refine r_callN (As := [.int y11]) (rest := []) F h hl (c5_lettersIn l D K y11 q14 h14) w267 ⟨by decide +kernel, w265, w266⟩ hsc5_lettersIn ⟨Nat.le_of_ble_eq_true rfl, Nat.le_of_ble_eq_true rfl⟩ ⟨Nat.le_refl 0, Nat.le_refl 0⟩ (Nat.le_of_ble_eq_true rfl) dX0_playRound_59 (fun H locs h => ?_)
            refine lv_iconst (v := 2) hx hb dX0_playRound_62 (by decide) ?_
            obtain ⟨J15, eJ15, hf⟩ := rgn hf
            have JW15 : ∀ (v15 : ob) (H : Heap) (locs : List Loc) (ls : Array Slot), WD D A s.heap H locs [wX0 K a0 v15, wX4 K a1 o_p0] → lv_has ls 5 [(0, .ref (a0 0)), (1, .ref (a1 0)), (2, .int z1.1), (3, .int z1.2.1)] → J15 v15 = some uq1 → W P l e (rmS 3 73) s m args below meth c H locs 0 0 (MQ below (QiS D A [wX0 K a0 r.2, wX4 K a1 o_p0] r.1) args s 0 0 A) (F0 m 75 ls []) := by
              intro v15 H locs ls h hl hf
              have hf := jof eJ15 hf
              refine lv_iload_n hx hb dX0_playRound_75 rfl (lv_at hl 2 rfl) ?_
              refine lv_aload_n hx hb dX0_playRound_76 rfl (lv_at hl 0 rfl) ?_
              refine lv_aload_n hx hb dX0_playRound_77 rfl (lv_at hl 1 rfl) ?_
              refine r_get F h (i := 1) (k := 2) (.ref (a1 3)) inX4 rfl (by decide) w393 rfl rfl rfl dX0_playRound_78 ?_
              refine lv_iload_n hx hb dX0_playRound_81 rfl (lv_at hl 3 rfl) ?_
              obtain ⟨g16, hf⟩ := gdb hf
              refine r_iald F h (i := 1) (j := 1) rfl rfl (vin_ok g16) dX0_playRound_82 ?_
              refine lv_aload_n hx hb dX0_playRound_83 rfl (lv_at hl 1 rfl) ?_
              refine r_get F h (i := 1) (k := 3) (.ref (a1 4)) inX4 rfl (by decide) w394 rfl rfl rfl dX0_playRound_84 ?_
              refine lv_iload_n hx hb dX0_playRound_87 rfl (lv_at hl 3 rfl) ?_
              obtain ⟨g17, hf⟩ := gdb hf
              refine r_iald F h (i := 1) (j := 2) rfl rfl (vin_ok g17) dX0_playRound_88 ?_
              refine lv_iconst (v := 0) hx hb dX0_playRound_89 (by decide) ?_
              obtain ⟨q18, h18, hf⟩ := asb hf
              refine r_callN (As := [.int (o_p0.2 2 z1.2.1.toNatClampNeg), .int (o_p0.2 3 z1.2.1.toNatClampNeg), .int 0]) (rest := [.ref (a0 0), .int z1.1]) F h hl (c5_edgeAt l D K (o_p0.2 2 z1.2.1.toNatClampNeg) (o_p0.2 3 z1.2.1.toNatClampNeg) 0 q18 h18) w367 ⟨by decide +kernel, w366, w266⟩ hsc5_edgeAt ⟨Nat.le_of_ble_eq_true rfl, Nat.le_of_ble_eq_true rfl⟩ ⟨Nat.le_refl 0, Nat.le_refl 0⟩ (Nat.le_of_ble_eq_true rfl) dX0_playRound_90 (fun H locs h => ?_)
              refine lv_aload_n hx hb dX0_playRound_93 rfl (lv_at hl 0 rfl) ?_
              refine r_get F h (i := 0) (k := 7) (.ref (a0 8)) inX0 rfl (by decide) w390 rfl rfl rfl dX0_playRound_94 ?_
              refine lv_iload_n hx hb dX0_playRound_97 rfl (lv_at hl 3 rfl) ?_
              obtain ⟨g19, hf⟩ := gdb hf
              refine r_iald F h (i := 0) (j := 4) rfl rfl (vin_ok g19) dX0_playRound_98 ?_
              obtain ⟨q20, h20, hf⟩ := asb hf
              refine r_callVi (As := [.int q18, .int (v15.2 7 z1.2.1.toNatClampNeg)]) (rest := [.int z1.1]) (C0 := [wX0 K a0 v15]) (C1 := [wX0 K a0 q20.2]) (Rr := [wX4 K a1 o_p0]) (S' := [wX0 K a0 q20.2, wX4 K a1 o_p0]) F h hl (c0_drawEdges l D K a0 q18 (v15.2 7 z1.2.1.toNatClampNeg) v15 q20 h20) [0, 1] rfl rfl rfl rfl rfl (i := 0) rfl rfl w399 ⟨w400, w401, w402, w376⟩ hsc0_drawEdges ⟨Nat.le_of_ble_eq_true rfl, Nat.le_of_ble_eq_true rfl⟩ ⟨Nat.le_refl 0, Nat.le_refl 0⟩ (Nat.le_of_ble_eq_true rfl) dX0_playRound_99 (fun H locs h => ?_)
              refine lv_ior hx hb dX0_playRound_102 ?_
              refine lv_topi (fun y21 e21 => ?_)
              have hf := ltb hf e21
              refine lv_istore_n (lv' := [(2, .int y21), (0, .ref (a0 0)), (1, .ref (a1 0)), (3, .int z1.2.1)]) hx hb dX0_playRound_103 rfl hl (by decide) rfl (fun ls hl => ?_)
              exact JW5 (y21, q20.2) _ _ _ h (lv_sub hl [1, 2, 0, 3] rfl) (sob hf)
            refine lv_icmp_ne (tgt := 75) hx hb dX0_playRound_63 (by decide) (fun c22 => ?_) (fun c22 => ?_)
            · have hf := ifn hf c22
              exact JW15 v13 _ _ _ h (lv_sub hl [0, 1, 2, 3] rfl) (sob hf)
            · have hf := ifp hf c22
              refine lv_aload_n hx hb dX0_playRound_66 rfl (lv_at hl 0 rfl) ?_
              refine lv_iload hx hb dX0_playRound_67 (lv_at hl 4 rfl) ?_
              obtain ⟨q23, h23, hf⟩ := asb hf
              refine r_callN (As := [.int y11]) (rest := [.ref (a0 0)]) F h hl (c5_secondLetter l D K y11 q23 h23) w271 ⟨by decide +kernel, w270, w266⟩ hsc5_secondLetter ⟨Nat.le_of_ble_eq_true rfl, Nat.le_of_ble_eq_true rfl⟩ ⟨Nat.le_refl 0, Nat.le_refl 0⟩ (Nat.le_of_ble_eq_true rfl) dX0_playRound_69 (fun H locs h => ?_)
              obtain ⟨q24, h24, hf⟩ := asb hf
              refine r_callVv (As := [.int q23]) (rest := []) (C0 := [wX0 K a0 v13]) (C1 := [wX0 K a0 q24]) (Rr := [wX4 K a1 o_p0]) (S' := [wX0 K a0 q24, wX4 K a1 o_p0]) F h hl (c0_readOn l D K a0 q23 v13 q24 h24) [0, 1] rfl rfl rfl rfl rfl (i := 0) rfl rfl w403 ⟨w404, w405, w406, w376⟩ hsc0_readOn ⟨Nat.le_of_ble_eq_true rfl, Nat.le_of_ble_eq_true rfl⟩ ⟨Nat.le_refl 0, Nat.le_refl 0⟩ (Nat.le_of_ble_eq_true rfl) dX0_playRound_72 (fun H locs h => ?_)
              exact JW15 q24 _ _ _ h (lv_sub hl [0, 1, 2, 3] rfl) (sob hf)
          refine lv_if_le (tgt := 57) hx hb dX0_playRound_45 (by decide) (fun c25 => ?_) (fun c25 => ?_)
          · have hf := ifp hf c25
            exact JW13 q9 _ _ _ h (lv_sub hl [1, 2, 3, 4, 0] rfl) (sob hf)
          · have hf := ifn hf c25
            refine lv_aload_n hx hb dX0_playRound_48 rfl (lv_at hl 1 rfl) ?_
            refine lv_iload hx hb dX0_playRound_49 (lv_at hl 0 rfl) ?_
            obtain ⟨q26, h26, hf⟩ := asb hf
            refine r_callN (As := [.int y11]) (rest := [.ref (a0 0)]) F h hl (c5_firstLetter l D K y11 q26 h26) w269 ⟨by decide +kernel, w268, w266⟩ hsc5_firstLetter ⟨Nat.le_of_ble_eq_true rfl, Nat.le_of_ble_eq_true rfl⟩ ⟨Nat.le_refl 0, Nat.le_refl 0⟩ (Nat.le_of_ble_eq_true rfl) dX0_playRound_51 (fun H locs h => ?_)
            obtain ⟨q27, h27, hf⟩ := asb hf
            refine r_callVv (As := [.int q26]) (rest := []) (C0 := [wX0 K a0 q9]) (C1 := [wX0 K a0 q27]) (Rr := [wX4 K a1 o_p0]) (S' := [wX0 K a0 q27, wX4 K a1 o_p0]) F h hl (c0_readOn l D K a0 q26 q9 q27 h27) [0, 1] rfl rfl rfl rfl rfl (i := 0) rfl rfl w403 ⟨w404, w405, w406, w376⟩ hsc0_readOn ⟨Nat.le_of_ble_eq_true rfl, Nat.le_of_ble_eq_true rfl⟩ ⟨Nat.le_refl 0, Nat.le_refl 0⟩ (Nat.le_of_ble_eq_true rfl) dX0_playRound_54 (fun H locs h => ?_)
            exact JW13 q27 _ _ _ h (lv_sub hl [1, 2, 3, 4, 0] rfl) (sob hf)
  exact Lq1 _ _ _ _ _ hq1 h (lv_sub hl [2, 3, 1, 0] rfl)
noncomputable def f0_build_L115 (g4 : ob) (z11 : Int32 × ob) : Option (Nat × (Int32 × ob)) :=
  (if 1000 ≤ z11.1 then (some (1, (z11.1, z11.2))) else ((f0_playRound z11.2 g4).bind fun q15 => (if q15.1 = 0 then (some (1, (z11.1, q15.2))) else (lt (sI q15.2 3 ((q15.2.1 3) + 1)) fun t17 => gd (cpk 0 0 (((g4.1 0) * 4) * 13) 676 676) <| lt (sR t17 5 (uL (va_cpy (rL (t17.2 4)) (rL (t17.2 5)) (0 : Int32).toNatClampNeg (0 : Int32).toNatClampNeg (((g4.1 0) * 4) * 13).toNatClampNeg))) fun t19 => lt (z11.1 + 1) fun y20 => some (0, (y20, t19))))))
def f0_build_L17 (g0 : Int32) (g1 : Int32) (g2 : Int32) (g4 : ob) (z4 : Int32 × ob) : Option (Nat × (Int32 × ob)) :=
  (if (g4.1 1) ≤ z4.1 then (some (1, (z4.1, z4.2))) else (((if z4.1 = g1 then (some g2) else (gd (vin z4.1 10) <| some (g4.2 6 z4.1.toNatClampNeg)))).bind fun v22 => ((if g0 = 1 then ((if v22 = (-1) then (some v22) else (some 1))) else (some v22))).bind fun v23 => gd (vin z4.1 10) <| lt (sA z4.2 7 z4.1.toNatClampNeg v23) fun t25 => lt (z4.1 + 1) fun y26 => some (0, (y26, t25))))
noncomputable def f0_build (x1 : Int32) (x2 : Int32) (x3 : Int32) (o_this : ob) (o_p0 : ob) : Option (ob) :=
  ((if x1 = 2 then (some 1) else (some 0))).bind fun v1 => gd (bz v1) <| lt (sI o_this 8 v1) fun t3 => (wh (f0_build_L17 x1 x2 x3 o_p0) (0, t3)).bind fun q4 => (f0_layTargets q4.2.2 o_p0).bind fun q5 => (f0_countEdges q5).bind fun q6 => lt (sI q5 1 q6) fun t7 => gd (cpk 0 0 676 676 676) <| lt (sR t7 5 (uL (va_cpy (rL (t7.2 4)) (rL (t7.2 5)) (0 : Int32).toNatClampNeg (0 : Int32).toNatClampNeg (676 : Int32).toNatClampNeg))) fun t9 => lt (sI t9 3 0) fun t10 => (wh (f0_build_L115 o_p0) (0, t10)).bind fun q11 => (f0_countEdges q11.2.2).bind fun q12 => lt (sI q11.2.2 2 q12) fun t13 => some t13
set_option maxRecDepth 100000 in
set_option maxHeartbeats 4000000 in
theorem c0_build (l : Launch) (D : va_G) (K : Nat → ClassId) (a0 : Nat → Nat) (a1 : Nat → Nat) (x1 : Int32) (x2 : Int32) (x3 : Int32) (o_this : ob) (o_p0 : ob) (r : ob) (hf : f0_build x1 x2 x3 o_this o_p0 = some r) : CTv l yX0_build cX0_build 7 4 97 D K [.ref (a0 0), .ref (a1 0), .int x1, .int x2, .int x3] [wX0 K a0 o_this, wX4 K a1 o_p0] [wX0 K a0 r, wX4 K a1 o_p0] := by
  unfold f0_build at hf
  have hf := tob hf
  refine entV (by decide) (Nat.le_of_ble_eq_true rfl) (fun P e s m args below meth c A ls F h hl hin => ?_)
  have hx := F.1
  have hb := F.2.1
  have hl : lv_has ls 7 [(0, .ref (a0 0)), (1, .ref (a1 0)), (2, .int x1), (3, .int x2), (4, .int x3)] := hl
  refine lv_aload_n hx hb dX0_build_0 rfl (lv_at hl 0 rfl) ?_
  refine lv_iload_n hx hb dX0_build_1 rfl (lv_at hl 2 rfl) ?_
  refine lv_iconst (v := 2) hx hb dX0_build_2 (by decide) ?_
  obtain ⟨J1, eJ1, hf⟩ := rgn hf
  have JW1 : ∀ (v1 : Int32) (H : Heap) (locs : List Loc) (ls : Array Slot), WD D A s.heap H locs [wX0 K a0 o_this, wX4 K a1 o_p0] → lv_has ls 7 [(0, .ref (a0 0)), (1, .ref (a1 0)), (2, .int x1), (3, .int x2), (4, .int x3)] → J1 v1 = some r → W P l e (rmS 4 97) s m args below meth c H locs 0 0 (MQ below (QvS D A [wX0 K a0 r, wX4 K a1 o_p0]) args s 0 0 A) (F0 m 11 ls [.int v1, .ref (a0 0)]) := by
    intro v1 H locs ls h hl hf
    have hf := jof eJ1 hf
    obtain ⟨g2, hf⟩ := gdb hf
    refine r_put (o1 := sI o_this 8 v1) (w := fun t3 => wX0 K a0 t3) (S' := fun t3 => [wX0 K a0 t3, wX4 K a1 o_p0]) F h (i := 0) (k := 8) inX0 tyX0_ok nmX0 rfl (by decide) w358 rfl (bz_n g2) (bz_f g2) rfl rfl (Nat.le_of_ble_eq_true rfl) rfl (fun _ => rfl) dX0_build_11 (fun t3 e3 H locs h => ?_)
    have hf := ltb hf e3
    refine lv_iconst (v := 0) hx hb dX0_build_14 (by decide) ?_
    refine lv_istore (lv' := [(5, .int 0), (0, .ref (a0 0)), (1, .ref (a1 0)), (2, .int x1), (3, .int x2), (4, .int x3)]) hx hb dX0_build_15 hl (by decide) rfl (fun ls hl => ?_)
    obtain ⟨q4, hq4, hf⟩ := asb hf
    obtain ⟨nq4, hq4⟩ := wh_out hq4
    have Xq4_1 : ∀ (z4 : Int32 × ob) (H : Heap) (locs : List Loc) (ls : Array Slot), q4 = (1, z4) → WD D A s.heap H locs [wX0 K a0 z4.2, wX4 K a1 o_p0] → lv_has ls 7 [(0, .ref (a0 0)), (1, .ref (a1 0))] → W P l e (rmS 4 97) s m args below meth c H locs 0 0 (MQ below (QvS D A [wX0 K a0 r, wX4 K a1 o_p0]) args s 0 0 A) (F0 m 76 ls []) := by
      intro z4 H locs ls eq4 h hl
      obtain rfl : z4 = q4.2 := by rw [eq4]
      refine lv_aload_n hx hb dX0_build_76 rfl (lv_at hl 0 rfl) ?_
      refine lv_aload_n hx hb dX0_build_77 rfl (lv_at hl 1 rfl) ?_
      obtain ⟨q5, h5, hf⟩ := asb hf
      refine r_callVv (As := [.ref (a1 0)]) (rest := []) (C0 := [wX0 K a0 q4.2.2, wX4 K a1 o_p0]) (C1 := [wX0 K a0 q5, wX4 K a1 o_p0]) (Rr := []) (S' := [wX0 K a0 q5, wX4 K a1 o_p0]) F h hl (c0_layTargets l D K a0 a1 q4.2.2 o_p0 q5 h5) [0, 1] rfl rfl rfl rfl rfl (i := 0) rfl rfl w412 ⟨w413, w414, w415, w376⟩ hsc0_layTargets ⟨Nat.le_of_ble_eq_true rfl, Nat.le_of_ble_eq_true rfl⟩ ⟨Nat.le_refl 0, Nat.le_refl 0⟩ (Nat.le_of_ble_eq_true rfl) dX0_build_78 (fun H locs h => ?_)
      refine lv_aload_n hx hb dX0_build_81 rfl (lv_at hl 0 rfl) ?_
      refine lv_aload_n hx hb dX0_build_82 rfl (lv_at hl 0 rfl) ?_
      obtain ⟨q6, h6, hf⟩ := asb hf
      refine r_callVi (As := []) (rest := [.ref (a0 0)]) (C0 := [wX0 K a0 q5]) (C1 := [wX0 K a0 q5]) (Rr := [wX4 K a1 o_p0]) (S' := [wX0 K a0 q5, wX4 K a1 o_p0]) F h hl (c0_countEdges l D K a0 q5 q6 h6) [0, 1] rfl rfl rfl rfl rfl (i := 0) rfl rfl w416 ⟨w417, w418, w419, w376⟩ hsc0_countEdges ⟨Nat.le_of_ble_eq_true rfl, Nat.le_of_ble_eq_true rfl⟩ ⟨Nat.le_refl 0, Nat.le_refl 0⟩ (Nat.le_of_ble_eq_true rfl) dX0_build_83 (fun H locs h => ?_)
      refine r_put (o1 := sI q5 1 q6) (w := fun t7 => wX0 K a0 t7) (S' := fun t7 => [wX0 K a0 t7, wX4 K a1 o_p0]) F h (i := 0) (k := 1) inX0 tyX0_ok nmX0 rfl (by decide) w407 rfl rfl rfl rfl rfl (Nat.le_of_ble_eq_true rfl) rfl (fun _ => rfl) dX0_build_86 (fun t7 e7 H locs h => ?_)
      have hf := ltb hf e7
      refine lv_aload_n hx hb dX0_build_89 rfl (lv_at hl 0 rfl) ?_
      refine r_get F h (i := 0) (k := 4) (.ref (a0 5)) inX0 rfl (by decide) w377 rfl rfl rfl dX0_build_90 ?_
      refine lv_iconst (v := 0) hx hb dX0_build_93 (by decide) ?_
      refine lv_aload_n hx hb dX0_build_94 rfl (lv_at hl 0 rfl) ?_
      refine r_get F h (i := 0) (k := 5) (.ref (a0 6)) inX0 rfl (by decide) w368 rfl rfl rfl dX0_build_95 ?_
      refine lv_iconst (v := 0) hx hb dX0_build_98 (by decide) ?_
      refine lv_aload_n hx hb dX0_build_99 rfl (lv_at hl 0 rfl) ?_
      refine r_get F h (i := 0) (k := 4) (.ref (a0 5)) inX0 rfl (by decide) w377 rfl rfl rfl dX0_build_100 ?_
      refine r_alen (v := 676) (t0 := 4) F h (i := 0) (j := 1) rfl rfl rfl rfl dX0_build_103 ?_
      obtain ⟨g8, hf⟩ := gdb hf
      refine r_copyL (gg := rL ((sR t7 5 (uL (va_cpy (rL (t7.2 4)) (rL (t7.2 5)) (0 : Int32).toNatClampNeg (0 : Int32).toNatClampNeg (676 : Int32).toNatClampNeg))).2 5)) (o1 := sR t7 5 (uL (va_cpy (rL (t7.2 4)) (rL (t7.2 5)) (0 : Int32).toNatClampNeg (0 : Int32).toNatClampNeg (676 : Int32).toNatClampNeg))) (w := fun t9 => wX0 K a0 t9) (S' := fun t9 => [wX0 K a0 t9, wX4 K a1 o_p0]) F h hl ⟨w408, w253, w254, w255⟩ (i0 := 0) (j0 := 1) (i := 0) (j := 2) rfl rfl rfl rfl g8 (sR_uL _ _ _).symm rfl (fun _ => rfl) ⟨Nat.le_of_ble_eq_true rfl, Nat.le_of_ble_eq_true rfl⟩ dX0_build_104 (fun t9 e9 H locs h => ?_)
      have hf := ltb hf e9
      refine lv_aload_n hx hb dX0_build_107 rfl (lv_at hl 0 rfl) ?_
      refine lv_iconst (v := 0) hx hb dX0_build_108 (by decide) ?_
      refine r_put (o1 := sI t9 3 0) (w := fun t10 => wX0 K a0 t10) (S' := fun t10 => [wX0 K a0 t10, wX4 K a1 o_p0]) F h (i := 0) (k := 3) inX0 tyX0_ok nmX0 rfl (by decide) w409 rfl rfl rfl rfl rfl (Nat.le_of_ble_eq_true rfl) rfl (fun _ => rfl) dX0_build_109 (fun t10 e10 H locs h => ?_)
      have hf := ltb hf e10
      refine lv_iconst (v := 0) hx hb dX0_build_112 (by decide) ?_
      refine lv_istore (lv' := [(5, .int 0), (0, .ref (a0 0)), (1, .ref (a1 0))]) hx hb dX0_build_113 hl (by decide) rfl (fun ls hl => ?_)
      obtain ⟨q11, hq11, hf⟩ := asb hf
      obtain ⟨nq11, hq11⟩ := wh_out hq11
      have Xq11_1 : ∀ (z11 : Int32 × ob) (H : Heap) (locs : List Loc) (ls : Array Slot), q11 = (1, z11) → WD D A s.heap H locs [wX0 K a0 z11.2, wX4 K a1 o_p0] → lv_has ls 7 [(0, .ref (a0 0))] → W P l e (rmS 4 97) s m args below meth c H locs 0 0 (MQ below (QvS D A [wX0 K a0 r, wX4 K a1 o_p0]) args s 0 0 A) (F0 m 169 ls []) := by
        intro z11 H locs ls eq11 h hl
        obtain rfl : z11 = q11.2 := by rw [eq11]
        refine lv_aload_n hx hb dX0_build_169 rfl (lv_at hl 0 rfl) ?_
        refine lv_aload_n hx hb dX0_build_170 rfl (lv_at hl 0 rfl) ?_
        obtain ⟨q12, h12, hf⟩ := asb hf
        refine r_callVi (As := []) (rest := [.ref (a0 0)]) (C0 := [wX0 K a0 q11.2.2]) (C1 := [wX0 K a0 q11.2.2]) (Rr := [wX4 K a1 o_p0]) (S' := [wX0 K a0 q11.2.2, wX4 K a1 o_p0]) F h hl (c0_countEdges l D K a0 q11.2.2 q12 h12) [0, 1] rfl rfl rfl rfl rfl (i := 0) rfl rfl w416 ⟨w417, w418, w419, w376⟩ hsc0_countEdges ⟨Nat.le_of_ble_eq_true rfl, Nat.le_of_ble_eq_true rfl⟩ ⟨Nat.le_refl 0, Nat.le_refl 0⟩ (Nat.le_of_ble_eq_true rfl) dX0_build_171 (fun H locs h => ?_)
        refine r_put (o1 := sI q11.2.2 2 q12) (w := fun t13 => wX0 K a0 t13) (S' := fun t13 => [wX0 K a0 t13, wX4 K a1 o_p0]) F h (i := 0) (k := 2) inX0 tyX0_ok nmX0 rfl (by decide) w410 rfl rfl rfl rfl rfl (Nat.le_of_ble_eq_true rfl) rfl (fun _ => rfl) dX0_build_174 (fun t13 e13 H locs h => ?_)
        have hf := ltb hf e13
        obtain rfl := sor hf
        exact r_retv F h dX0_build_177
      have Lq11 : ∀ (n : Nat) (z11 : Int32 × ob) (H : Heap) (locs : List Loc) (ls : Array Slot), iter (f0_build_L115 o_p0) n z11 = some q11 → WD D A s.heap H locs [wX0 K a0 z11.2, wX4 K a1 o_p0] → lv_has ls 7 [(0, .ref (a0 0)), (1, .ref (a1 0)), (5, .int z11.1)] → W P l e (rmS 4 97) s m args below meth c H locs 0 0 (MQ below (QvS D A [wX0 K a0 r, wX4 K a1 o_p0]) args s 0 0 A) (F0 m 115 ls []) := by
        intro n
        induction n with
        | zero => intro z11 H locs ls hi; exact (iter_0 hi).elim
        | succ n ihq11 =>
          intro z11 H locs ls hi h hl
          obtain ⟨uq11, hf, huq11⟩ := iter_s hi
          unfold f0_build_L115 at hf
          have hf := tob hf
          refine lv_iload hx hb dX0_build_115 (lv_at hl 2 rfl) ?_
          refine lv_sipush (v := 1000) hx hb dX0_build_117 (by decide) ?_
          refine lv_icmp_ge (tgt := 169) hx hb dX0_build_120 (by decide) (fun c14 => ?_) (fun c14 => ?_)
          · have hf := ifp hf c14
            exact Xq11_1 _ _ _ _ (itr_x huq11 (sor hf)) h (lv_sub hl [0] rfl)
          · have hf := ifn hf c14
            refine lv_aload_n hx hb dX0_build_123 rfl (lv_at hl 0 rfl) ?_
            refine lv_aload_n hx hb dX0_build_124 rfl (lv_at hl 1 rfl) ?_
            obtain ⟨q15, h15, hf⟩ := asb hf
            refine r_callVi (As := [.ref (a1 0)]) (rest := []) (C0 := [wX0 K a0 z11.2, wX4 K a1 o_p0]) (C1 := [wX0 K a0 q15.2, wX4 K a1 o_p0]) (Rr := []) (S' := [wX0 K a0 q15.2, wX4 K a1 o_p0]) F h hl (c0_playRound l D K a0 a1 z11.2 o_p0 q15 h15) [0, 1] rfl rfl rfl rfl rfl (i := 0) rfl rfl w420 ⟨w421, w422, w423, w376⟩ hsc0_playRound ⟨Nat.le_of_ble_eq_true rfl, Nat.le_of_ble_eq_true rfl⟩ ⟨Nat.le_refl 0, Nat.le_refl 0⟩ (Nat.le_of_ble_eq_true rfl) dX0_build_125 (fun H locs h => ?_)
            refine lv_if_eq (tgt := 169) hx hb dX0_build_128 (by decide) (fun c16 => ?_) (fun c16 => ?_)
            · have hf := ifp hf c16
              exact Xq11_1 _ _ _ _ (itr_x huq11 (sor hf)) h (lv_sub hl [0] rfl)
            · have hf := ifn hf c16
              refine lv_aload_n hx hb dX0_build_131 rfl (lv_at hl 0 rfl) ?_
              refine lv_dup hx hb dX0_build_132 rfl ?_
              refine r_get F h (i := 0) (k := 3) (.int (q15.2.1 3)) inX0 rfl (by decide) w409 rfl rfl rfl dX0_build_133 ?_
              refine lv_iconst (v := 1) hx hb dX0_build_136 (by decide) ?_
              refine lv_iadd hx hb dX0_build_137 ?_
              refine r_put (o1 := sI q15.2 3 ((q15.2.1 3) + 1)) (w := fun t17 => wX0 K a0 t17) (S' := fun t17 => [wX0 K a0 t17, wX4 K a1 o_p0]) F h (i := 0) (k := 3) inX0 tyX0_ok nmX0 rfl (by decide) w409 rfl rfl rfl rfl rfl (Nat.le_of_ble_eq_true rfl) rfl (fun _ => rfl) dX0_build_138 (fun t17 e17 H locs h => ?_)
              have hf := ltb hf e17
              refine lv_aload_n hx hb dX0_build_141 rfl (lv_at hl 0 rfl) ?_
              refine r_get F h (i := 0) (k := 4) (.ref (a0 5)) inX0 rfl (by decide) w377 rfl rfl rfl dX0_build_142 ?_
              refine lv_iconst (v := 0) hx hb dX0_build_145 (by decide) ?_
              refine lv_aload_n hx hb dX0_build_146 rfl (lv_at hl 0 rfl) ?_
              refine r_get F h (i := 0) (k := 5) (.ref (a0 6)) inX0 rfl (by decide) w368 rfl rfl rfl dX0_build_147 ?_
              refine lv_iconst (v := 0) hx hb dX0_build_150 (by decide) ?_
              refine lv_aload_n hx hb dX0_build_151 rfl (lv_at hl 1 rfl) ?_
              refine r_get F h (i := 1) (k := 0) (.int (o_p0.1 0)) inX4 rfl (by decide) w378 rfl rfl rfl dX0_build_152 ?_
              refine lv_iconst (v := 4) hx hb dX0_build_155 (by decide) ?_
              refine lv_imul hx hb dX0_build_156 ?_
              refine lv_bipush (v := 13) hx hb dX0_build_157 (by decide) ?_
              refine lv_imul hx hb dX0_build_159 ?_
              obtain ⟨g18, hf⟩ := gdb hf
              refine r_copyL (gg := rL ((sR t17 5 (uL (va_cpy (rL (t17.2 4)) (rL (t17.2 5)) (0 : Int32).toNatClampNeg (0 : Int32).toNatClampNeg (((o_p0.1 0) * 4) * 13).toNatClampNeg))).2 5)) (o1 := sR t17 5 (uL (va_cpy (rL (t17.2 4)) (rL (t17.2 5)) (0 : Int32).toNatClampNeg (0 : Int32).toNatClampNeg (((o_p0.1 0) * 4) * 13).toNatClampNeg))) (w := fun t19 => wX0 K a0 t19) (S' := fun t19 => [wX0 K a0 t19, wX4 K a1 o_p0]) F h hl ⟨w408, w253, w254, w255⟩ (i0 := 0) (j0 := 1) (i := 0) (j := 2) rfl rfl rfl rfl g18 (sR_uL _ _ _).symm rfl (fun _ => rfl) ⟨Nat.le_of_ble_eq_true rfl, Nat.le_of_ble_eq_true rfl⟩ dX0_build_160 (fun t19 e19 H locs h => ?_)
              have hf := ltb hf e19
              obtain ⟨y20, e20⟩ : ∃ y : Int32, y = z11.1 + 1 := ⟨_, rfl⟩
              have hf := ltb hf e20
              refine lv_iinc (v := y20) (lv' := [(5, .int y20), (0, .ref (a0 0)), (1, .ref (a1 0))]) hx hb dX0_build_163 hl (k := 2) rfl (by rw [e20]; rfl) (by decide) rfl (fun ls hl => ?_)
              refine lv_goto (tgt := 115) hx hb dX0_build_166 (by decide) ?_
              exact ihq11 _ _ _ _ (itr_c huq11 (sor hf)) h (lv_sub hl [1, 2, 0] rfl)
      exact Lq11 _ _ _ _ _ hq11 h (lv_sub hl [1, 2, 0] rfl)
    have Lq4 : ∀ (n : Nat) (z4 : Int32 × ob) (H : Heap) (locs : List Loc) (ls : Array Slot), iter (f0_build_L17 x1 x2 x3 o_p0) n z4 = some q4 → WD D A s.heap H locs [wX0 K a0 z4.2, wX4 K a1 o_p0] → lv_has ls 7 [(0, .ref (a0 0)), (1, .ref (a1 0)), (2, .int x1), (3, .int x2), (4, .int x3), (5, .int z4.1)] → W P l e (rmS 4 97) s m args below meth c H locs 0 0 (MQ below (QvS D A [wX0 K a0 r, wX4 K a1 o_p0]) args s 0 0 A) (F0 m 17 ls []) := by
      intro n
      induction n with
      | zero => intro z4 H locs ls hi; exact (iter_0 hi).elim
      | succ n ihq4 =>
        intro z4 H locs ls hi h hl
        obtain ⟨uq4, hf, huq4⟩ := iter_s hi
        unfold f0_build_L17 at hf
        have hf := tob hf
        refine lv_iload hx hb dX0_build_17 (lv_at hl 5 rfl) ?_
        refine lv_aload_n hx hb dX0_build_19 rfl (lv_at hl 1 rfl) ?_
        refine r_get F h (i := 1) (k := 1) (.int (o_p0.1 1)) inX4 rfl (by decide) w389 rfl rfl rfl dX0_build_20 ?_
        refine lv_icmp_ge (tgt := 76) hx hb dX0_build_23 (by decide) (fun c21 => ?_) (fun c21 => ?_)
        · have hf := ifp hf c21
          exact Xq4_1 _ _ _ _ (itr_x huq4 (sor hf)) h (lv_sub hl [0, 1] rfl)
        · have hf := ifn hf c21
          refine lv_iload hx hb dX0_build_26 (lv_at hl 5 rfl) ?_
          refine lv_iload_n hx hb dX0_build_28 rfl (lv_at hl 3 rfl) ?_
          obtain ⟨J22, eJ22, hf⟩ := rgn hf
          have JW22 : ∀ (v22 : Int32) (H : Heap) (locs : List Loc) (ls : Array Slot), WD D A s.heap H locs [wX0 K a0 z4.2, wX4 K a1 o_p0] → lv_has ls 7 [(0, .ref (a0 0)), (1, .ref (a1 0)), (2, .int x1), (3, .int x2), (4, .int x3), (5, .int z4.1)] → J22 v22 = some uq4 → W P l e (rmS 4 97) s m args below meth c H locs 0 0 (MQ below (QvS D A [wX0 K a0 r, wX4 K a1 o_p0]) args s 0 0 A) (F0 m 44 ls [.int v22]) := by
            intro v22 H locs ls h hl hf
            have hf := jof eJ22 hf
            refine lv_istore (lv' := [(6, .int v22), (0, .ref (a0 0)), (1, .ref (a1 0)), (2, .int x1), (3, .int x2), (4, .int x3), (5, .int z4.1)]) hx hb dX0_build_44 hl (by decide) rfl (fun ls hl => ?_)
            refine lv_aload_n hx hb dX0_build_46 rfl (lv_at hl 1 rfl) ?_
            refine r_get F h (i := 0) (k := 7) (.ref (a0 8)) inX0 rfl (by decide) w390 rfl rfl rfl dX0_build_47 ?_
            refine lv_iload hx hb dX0_build_50 (lv_at hl 6 rfl) ?_
            refine lv_iload_n hx hb dX0_build_52 rfl (lv_at hl 3 rfl) ?_
            refine lv_iconst (v := 1) hx hb dX0_build_53 (by decide) ?_
            obtain ⟨J23, eJ23, hf⟩ := rgn hf
            have JW23 : ∀ (v23 : Int32) (H : Heap) (locs : List Loc) (ls : Array Slot), WD D A s.heap H locs [wX0 K a0 z4.2, wX4 K a1 o_p0] → lv_has ls 7 [(0, .ref (a0 0)), (1, .ref (a1 0)), (2, .int x1), (3, .int x2), (4, .int x3), (5, .int z4.1)] → J23 v23 = some uq4 → W P l e (rmS 4 97) s m args below meth c H locs 0 0 (MQ below (QvS D A [wX0 K a0 r, wX4 K a1 o_p0]) args s 0 0 A) (F0 m 69 ls [.int v23, .int z4.1, .ref (a0 8)]) := by
              intro v23 H locs ls h hl hf
              have hf := jof eJ23 hf
              obtain ⟨g24, hf⟩ := gdb hf
              refine r_iast (o1 := sA z4.2 7 z4.1.toNatClampNeg v23) (w := fun t25 => wX0 K a0 t25) (S' := fun t25 => [wX0 K a0 t25, wX4 K a1 o_p0]) F h (i := 0) (j := 4) rfl rfl (vin_ok g24) rfl (fun _ => rfl) dX0_build_69 (fun t25 e25 H locs h => ?_)
              have hf := ltb hf e25
              obtain ⟨y26, e26⟩ : ∃ y : Int32, y = z4.1 + 1 := ⟨_, rfl⟩
              have hf := ltb hf e26
              refine lv_iinc (v := y26) (lv' := [(5, .int y26), (0, .ref (a0 0)), (1, .ref (a1 0)), (2, .int x1), (3, .int x2), (4, .int x3)]) hx hb dX0_build_70 hl (k := 5) rfl (by rw [e26]; rfl) (by decide) rfl (fun ls hl => ?_)
              refine lv_goto (tgt := 17) hx hb dX0_build_73 (by decide) ?_
              exact ihq4 _ _ _ _ (itr_c huq4 (sor hf)) h (lv_sub hl [1, 2, 3, 4, 5, 0] rfl)
            refine lv_icmp_ne (tgt := 67) hx hb dX0_build_54 (by decide) (fun c27 => ?_) (fun c27 => ?_)
            · have hf := ifn hf c27
              refine lv_iload hx hb dX0_build_67 (lv_at hl 0 rfl) ?_
              exact JW23 v22 _ _ _ h (lv_sub hl [1, 2, 3, 4, 5, 6] rfl) (sob hf)
            · have hf := ifp hf c27
              refine lv_iload hx hb dX0_build_57 (lv_at hl 0 rfl) ?_
              refine lv_iconst (v := (-1)) hx hb dX0_build_59 (by decide) ?_
              refine lv_icmp_eq (tgt := 67) hx hb dX0_build_60 (by decide) (fun c28 => ?_) (fun c28 => ?_)
              · have hf := ifp hf c28
                refine lv_iload hx hb dX0_build_67 (lv_at hl 0 rfl) ?_
                exact JW23 v22 _ _ _ h (lv_sub hl [1, 2, 3, 4, 5, 6] rfl) (sob hf)
              · have hf := ifn hf c28
                refine lv_iconst (v := 1) hx hb dX0_build_63 (by decide) ?_
                refine lv_goto (tgt := 69) hx hb dX0_build_64 (by decide) ?_
                exact JW23 1 _ _ _ h (lv_sub hl [1, 2, 3, 4, 5, 6] rfl) (sob hf)
          refine lv_icmp_ne (tgt := 37) hx hb dX0_build_29 (by decide) (fun c29 => ?_) (fun c29 => ?_)
          · have hf := ifn hf c29
            refine lv_aload_n hx hb dX0_build_37 rfl (lv_at hl 1 rfl) ?_
            refine r_get F h (i := 1) (k := 6) (.ref (a1 7)) inX4 rfl (by decide) w411 rfl rfl rfl dX0_build_38 ?_
            refine lv_iload hx hb dX0_build_41 (lv_at hl 5 rfl) ?_
            obtain ⟨g30, hf⟩ := gdb hf
            refine r_iald F h (i := 1) (j := 5) rfl rfl (vin_ok g30) dX0_build_43 ?_
            exact JW22 (o_p0.2 6 z4.1.toNatClampNeg) _ _ _ h (lv_sub hl [0, 1, 2, 3, 4, 5] rfl) (sob hf)
          · have hf := ifp hf c29
            refine lv_iload hx hb dX0_build_32 (lv_at hl 4 rfl) ?_
            refine lv_goto (tgt := 44) hx hb dX0_build_34 (by decide) ?_
            exact JW22 x3 _ _ _ h (lv_sub hl [0, 1, 2, 3, 4, 5] rfl) (sob hf)
    exact Lq4 _ _ _ _ _ hq4 h (lv_sub hl [1, 2, 3, 4, 5, 0] rfl)
  refine lv_icmp_ne (tgt := 10) hx hb dX0_build_3 (by decide) (fun c31 => ?_) (fun c31 => ?_)
  · have hf := ifn hf c31
    refine lv_iconst (v := 0) hx hb dX0_build_10 (by decide) ?_
    exact JW1 0 _ _ _ h (lv_sub hl [0, 1, 2, 3, 4] rfl) (sob hf)
  · have hf := ifp hf c31
    refine lv_iconst (v := 1) hx hb dX0_build_6 (by decide) ?_
    refine lv_goto (tgt := 11) hx hb dX0_build_7 (by decide) ?_
    exact JW1 1 _ _ _ h (lv_sub hl [0, 1, 2, 3, 4] rfl) (sob hf)
def f0_priceOf_L42 (g7 : ob) (z4 : Int64 × Int32) : Option (Nat × (Int64 × Int32)) :=
  (if (g7.1 0) ≤ z4.2 then (some (1, (z4.1, z4.2))) else (gd (vin z4.2 13) <| ((if (g7.2 6 z4.2.toNatClampNeg) = 0 then (some z4.1) else (gd (vin z4.2 13) <| lt (if (rL (g7.2 9) z4.2.toNatClampNeg) < z4.1 then (rL (g7.2 9) z4.2.toNatClampNeg) else z4.1) fun y12 => some y12))).bind fun v8 => lt (z4.2 + 1) fun y9 => some (0, (v8, y9))))
noncomputable def f0_priceOf_L15 (g1 : ob) (z3 : Int32 × ob) : Option (Nat × (Int32 × ob)) :=
  (if z3.1 < 0 then (some (1, (z3.1, z3.2))) else (gd (vin z3.1 12) <| (f0_readOn (g1.2 15 z3.1.toNatClampNeg) z3.2).bind fun q15 => lt (z3.1 + (-1)) fun y16 => some (0, (y16, q15))))
noncomputable def f0_priceOf (o_this : ob) (o_p0 : ob) : Option (Int32 × ob) :=
  (f0_startAt (o_p0.1 13) o_this).bind fun q1 => lt ((o_p0.1 14) - 1) fun y2 => (wh (f0_priceOf_L15 o_p0) (y2, q1)).bind fun q3 => (wh (f0_priceOf_L42 q3.2.2) (1000000000000, 0)).bind fun q4 => (if 1000000000000 ≤ q4.2.1 then (some ((-4), q3.2.2)) else (some (q4.2.1.toInt32, q3.2.2)))
set_option maxRecDepth 100000 in
set_option maxHeartbeats 4000000 in
theorem c0_priceOf (l : Launch) (D : va_G) (K : Nat → ClassId) (a0 : Nat → Nat) (a1 : Nat → Nat) (o_this : ob) (o_p0 : ob) (r : Int32 × ob) (hf : f0_priceOf o_this o_p0 = some r) : CTi l yX0_priceOf cX0_priceOf 5 (some .int) 3 71 D K [.ref (a0 0), .ref (a1 0)] [wX0 K a0 o_this, wX4 K a1 o_p0] [wX0 K a0 r.2, wX4 K a1 o_p0] r.1 := by
  unfold f0_priceOf at hf
  have hf := tob hf
  refine entI (by decide) (Nat.le_of_ble_eq_true rfl) (fun P e s m args below meth c A ls F h hl hin => ?_)
  have hx := F.1
  have hb := F.2.1
  have hl : lv_has ls 5 [(0, .ref (a0 0)), (1, .ref (a1 0))] := hl
  refine lv_aload_n hx hb dX0_priceOf_0 rfl (lv_at hl 0 rfl) ?_
  refine lv_aload_n hx hb dX0_priceOf_1 rfl (lv_at hl 1 rfl) ?_
  refine r_get F h (i := 1) (k := 13) (.int (o_p0.1 13)) inX4 rfl (by decide) w424 rfl rfl rfl dX0_priceOf_2 ?_
  obtain ⟨q1, h1, hf⟩ := asb hf
  refine r_callVv (As := [.int (o_p0.1 13)]) (rest := []) (C0 := [wX0 K a0 o_this]) (C1 := [wX0 K a0 q1]) (Rr := [wX4 K a1 o_p0]) (S' := [wX0 K a0 q1, wX4 K a1 o_p0]) F h hl (c0_startAt l D K a0 (o_p0.1 13) o_this q1 h1) [0, 1] rfl rfl rfl rfl rfl (i := 0) rfl rfl w395 ⟨w396, w397, w398, w376⟩ hsc0_startAt ⟨Nat.le_of_ble_eq_true rfl, Nat.le_of_ble_eq_true rfl⟩ ⟨Nat.le_refl 0, Nat.le_refl 0⟩ (Nat.le_of_ble_eq_true rfl) dX0_priceOf_5 (fun H locs h => ?_)
  refine lv_aload_n hx hb dX0_priceOf_8 rfl (lv_at hl 1 rfl) ?_
  refine r_get F h (i := 1) (k := 14) (.int (o_p0.1 14)) inX4 rfl (by decide) w425 rfl rfl rfl dX0_priceOf_9 ?_
  refine lv_iconst (v := 1) hx hb dX0_priceOf_12 (by decide) ?_
  refine lv_isub hx hb dX0_priceOf_13 ?_
  refine lv_topi (fun y2 e2 => ?_)
  have hf := ltb hf e2
  refine lv_istore_n (lv' := [(2, .int y2), (0, .ref (a0 0)), (1, .ref (a1 0))]) hx hb dX0_priceOf_14 rfl hl (by decide) rfl (fun ls hl => ?_)
  obtain ⟨q3, hq3, hf⟩ := asb hf
  obtain ⟨nq3, hq3⟩ := wh_out hq3
  have Xq3_1 : ∀ (z3 : Int32 × ob) (H : Heap) (locs : List Loc) (ls : Array Slot), q3 = (1, z3) → WD D A s.heap H locs [wX0 K a0 z3.2, wX4 K a1 o_p0] → lv_has ls 5 [(0, .ref (a0 0))] → W P l e (rmS 3 71) s m args below meth c H locs 0 0 (MQ below (QiS D A [wX0 K a0 r.2, wX4 K a1 o_p0] r.1) args s 0 0 A) (F0 m 35 ls []) := by
    intro z3 H locs ls eq3 h hl
    obtain rfl : z3 = q3.2 := by rw [eq3]
    refine r_ldc2 F 1000000000000 w364 dX0_priceOf_35 ?_
    refine lv_lstore_n (lv' := [(2, .long 1000000000000), (0, .ref (a0 0))]) hx hb dX0_priceOf_38 rfl hl (by decide) rfl (fun ls hl => ?_)
    refine lv_iconst (v := 0) hx hb dX0_priceOf_39 (by decide) ?_
    refine lv_istore (lv' := [(4, .int 0), (2, .long 1000000000000), (0, .ref (a0 0))]) hx hb dX0_priceOf_40 hl (by decide) rfl (fun ls hl => ?_)
    obtain ⟨q4, hq4, hf⟩ := asb hf
    obtain ⟨nq4, hq4⟩ := wh_out hq4
    have Xq4_1 : ∀ (z4 : Int64 × Int32) (H : Heap) (locs : List Loc) (ls : Array Slot), q4 = (1, z4) → WD D A s.heap H locs [wX0 K a0 q3.2.2, wX4 K a1 o_p0] → lv_has ls 5 [(2, .long z4.1)] → W P l e (rmS 3 71) s m args below meth c H locs 0 0 (MQ below (QiS D A [wX0 K a0 r.2, wX4 K a1 o_p0] r.1) args s 0 0 A) (F0 m 79 ls []) := by
      intro z4 H locs ls eq4 h hl
      obtain rfl : z4 = q4.2 := by rw [eq4]
      refine lv_lload_n hx hb dX0_priceOf_79 rfl (lv_at hl 0 rfl) ?_
      refine r_ldc2 F 1000000000000 w364 dX0_priceOf_80 ?_
      refine W.lcmp hx hb dX0_priceOf_83 ?_
      refine lv_if_ge (tgt := 92) hx hb dX0_priceOf_84 (by decide) (fun c5 => ?_) (fun c5 => ?_)
      · have hf := ifp hf ((lg_cmp_ge q4.2.1 1000000000000).mp c5)
        refine lv_bipush (v := (-4)) hx hb dX0_priceOf_92 (by decide) ?_
        obtain rfl := sor hf
        exact r_reti F h dX0_priceOf_94
      · have hf := ifn hf (fun z => c5 ((lg_cmp_ge q4.2.1 1000000000000).mpr z))
        refine lv_lload_n hx hb dX0_priceOf_87 rfl (lv_at hl 0 rfl) ?_
        refine lv_l2i hx hb dX0_priceOf_88 rfl ?_
        refine lv_goto (tgt := 94) hx hb dX0_priceOf_89 (by decide) ?_
        obtain rfl := sor hf
        exact r_reti F h dX0_priceOf_94
    have Lq4 : ∀ (n : Nat) (z4 : Int64 × Int32) (H : Heap) (locs : List Loc) (ls : Array Slot), iter (f0_priceOf_L42 q3.2.2) n z4 = some q4 → WD D A s.heap H locs [wX0 K a0 q3.2.2, wX4 K a1 o_p0] → lv_has ls 5 [(0, .ref (a0 0)), (2, .long z4.1), (4, .int z4.2)] → W P l e (rmS 3 71) s m args below meth c H locs 0 0 (MQ below (QiS D A [wX0 K a0 r.2, wX4 K a1 o_p0] r.1) args s 0 0 A) (F0 m 42 ls []) := by
      intro n
      induction n with
      | zero => intro z4 H locs ls hi; exact (iter_0 hi).elim
      | succ n ihq4 =>
        intro z4 H locs ls hi h hl
        obtain ⟨uq4, hf, huq4⟩ := iter_s hi
        unfold f0_priceOf_L42 at hf
        have hf := tob hf
        refine lv_iload hx hb dX0_priceOf_42 (lv_at hl 2 rfl) ?_
        refine lv_aload_n hx hb dX0_priceOf_44 rfl (lv_at hl 0 rfl) ?_
        refine r_get F h (i := 0) (k := 0) (.int (q3.2.2.1 0)) inX0 rfl (by decide) w357 rfl rfl rfl dX0_priceOf_45 ?_
        refine lv_icmp_ge (tgt := 79) hx hb dX0_priceOf_48 (by decide) (fun c6 => ?_) (fun c6 => ?_)
        · have hf := ifp hf c6
          exact Xq4_1 _ _ _ _ (itr_x huq4 (sor hf)) h (lv_sub hl [1] rfl)
        · have hf := ifn hf c6
          refine lv_aload_n hx hb dX0_priceOf_51 rfl (lv_at hl 0 rfl) ?_
          refine r_get F h (i := 0) (k := 6) (.ref (a0 7)) inX0 rfl (by decide) w384 rfl rfl rfl dX0_priceOf_52 ?_
          refine lv_iload hx hb dX0_priceOf_55 (lv_at hl 2 rfl) ?_
          obtain ⟨g7, hf⟩ := gdb hf
          refine r_zald F h (i := 0) (j := 3) rfl rfl (vin_ok g7) dX0_priceOf_57 ?_
          obtain ⟨J8, eJ8, hf⟩ := rgn hf
          have JW8 : ∀ (v8 : Int64) (H : Heap) (locs : List Loc) (ls : Array Slot), WD D A s.heap H locs [wX0 K a0 q3.2.2, wX4 K a1 o_p0] → lv_has ls 5 [(0, .ref (a0 0)), (2, .long v8), (4, .int z4.2)] → J8 v8 = some uq4 → W P l e (rmS 3 71) s m args below meth c H locs 0 0 (MQ below (QiS D A [wX0 K a0 r.2, wX4 K a1 o_p0] r.1) args s 0 0 A) (F0 m 73 ls []) := by
            intro v8 H locs ls h hl hf
            have hf := jof eJ8 hf
            obtain ⟨y9, e9⟩ : ∃ y : Int32, y = z4.2 + 1 := ⟨_, rfl⟩
            have hf := ltb hf e9
            refine lv_iinc (v := y9) (lv' := [(4, .int y9), (0, .ref (a0 0)), (2, .long v8)]) hx hb dX0_priceOf_73 hl (k := 2) rfl (by rw [e9]; rfl) (by decide) rfl (fun ls hl => ?_)
            refine lv_goto (tgt := 42) hx hb dX0_priceOf_76 (by decide) ?_
            exact ihq4 _ _ _ _ (itr_c huq4 (sor hf)) h (lv_sub hl [1, 2, 0] rfl)
          refine lv_if_eq (tgt := 73) hx hb dX0_priceOf_58 (by decide) (fun c10 => ?_) (fun c10 => ?_)
          · have hf := ifp hf c10
            exact JW8 z4.1 _ _ _ h (lv_sub hl [0, 1, 2] rfl) (sob hf)
          · have hf := ifn hf c10
            refine lv_lload_n hx hb dX0_priceOf_61 rfl (lv_at hl 1 rfl) ?_
            refine lv_aload_n hx hb dX0_priceOf_62 rfl (lv_at hl 0 rfl) ?_
            refine r_get F h (i := 0) (k := 9) (.ref (rdX0 a0 q3.2.2)) inX0 rfl (by decide) w363 rfl rfl rfl dX0_priceOf_63 ?_
            refine lv_iload hx hb dX0_priceOf_66 (lv_at hl 2 rfl) ?_
            obtain ⟨g11, hf⟩ := gdb hf
            refine r_lald F h (i := 0) (j := 5) rfl rfl (vin_ok g11) dX0_priceOf_68 ?_
            refine r_mminL F hl ⟨w369, w370, w361, w371⟩ ⟨Nat.le_of_ble_eq_true rfl, Nat.le_of_ble_eq_true rfl⟩ ⟨Nat.le_refl 0, Nat.le_refl 0⟩ dX0_priceOf_69 ?_
            refine lv_topl (fun y12 e12 => ?_)
            have hf := ltb hf e12
            refine lv_lstore_n (lv' := [(2, .long y12), (0, .ref (a0 0)), (4, .int z4.2)]) hx hb dX0_priceOf_72 rfl hl (by decide) rfl (fun ls hl => ?_)
            exact JW8 y12 _ _ _ h (lv_sub hl [1, 0, 2] rfl) (sob hf)
    exact Lq4 _ _ _ _ _ hq4 h (lv_sub hl [2, 1, 0] rfl)
  have Lq3 : ∀ (n : Nat) (z3 : Int32 × ob) (H : Heap) (locs : List Loc) (ls : Array Slot), iter (f0_priceOf_L15 o_p0) n z3 = some q3 → WD D A s.heap H locs [wX0 K a0 z3.2, wX4 K a1 o_p0] → lv_has ls 5 [(0, .ref (a0 0)), (1, .ref (a1 0)), (2, .int z3.1)] → W P l e (rmS 3 71) s m args below meth c H locs 0 0 (MQ below (QiS D A [wX0 K a0 r.2, wX4 K a1 o_p0] r.1) args s 0 0 A) (F0 m 15 ls []) := by
    intro n
    induction n with
    | zero => intro z3 H locs ls hi; exact (iter_0 hi).elim
    | succ n ihq3 =>
      intro z3 H locs ls hi h hl
      obtain ⟨uq3, hf, huq3⟩ := iter_s hi
      unfold f0_priceOf_L15 at hf
      have hf := tob hf
      refine lv_iload_n hx hb dX0_priceOf_15 rfl (lv_at hl 2 rfl) ?_
      refine lv_if_lt (tgt := 35) hx hb dX0_priceOf_16 (by decide) (fun c13 => ?_) (fun c13 => ?_)
      · have hf := ifp hf c13
        exact Xq3_1 _ _ _ _ (itr_x huq3 (sor hf)) h (lv_sub hl [0] rfl)
      · have hf := ifn hf c13
        refine lv_aload_n hx hb dX0_priceOf_19 rfl (lv_at hl 0 rfl) ?_
        refine lv_aload_n hx hb dX0_priceOf_20 rfl (lv_at hl 1 rfl) ?_
        refine r_get F h (i := 1) (k := 15) (.ref (a1 16)) inX4 rfl (by decide) w426 rfl rfl rfl dX0_priceOf_21 ?_
        refine lv_iload_n hx hb dX0_priceOf_24 rfl (lv_at hl 2 rfl) ?_
        obtain ⟨g14, hf⟩ := gdb hf
        refine r_iald F h (i := 1) (j := 10) rfl rfl (vin_ok g14) dX0_priceOf_25 ?_
        obtain ⟨q15, h15, hf⟩ := asb hf
        refine r_callVv (As := [.int (o_p0.2 15 z3.1.toNatClampNeg)]) (rest := []) (C0 := [wX0 K a0 z3.2]) (C1 := [wX0 K a0 q15]) (Rr := [wX4 K a1 o_p0]) (S' := [wX0 K a0 q15, wX4 K a1 o_p0]) F h hl (c0_readOn l D K a0 (o_p0.2 15 z3.1.toNatClampNeg) z3.2 q15 h15) [0, 1] rfl rfl rfl rfl rfl (i := 0) rfl rfl w403 ⟨w404, w405, w406, w376⟩ hsc0_readOn ⟨Nat.le_of_ble_eq_true rfl, Nat.le_of_ble_eq_true rfl⟩ ⟨Nat.le_refl 0, Nat.le_refl 0⟩ (Nat.le_of_ble_eq_true rfl) dX0_priceOf_26 (fun H locs h => ?_)
        obtain ⟨y16, e16⟩ : ∃ y : Int32, y = z3.1 + (-1) := ⟨_, rfl⟩
        have hf := ltb hf e16
        refine lv_iinc (v := y16) (lv' := [(2, .int y16), (0, .ref (a0 0)), (1, .ref (a1 0))]) hx hb dX0_priceOf_29 hl (k := 2) rfl (by rw [e16]; rfl) (by decide) rfl (fun ls hl => ?_)
        refine lv_goto (tgt := 15) hx hb dX0_priceOf_32 (by decide) ?_
        exact ihq3 _ _ _ _ (itr_c huq3 (sor hf)) h (lv_sub hl [1, 2, 0] rfl)
  exact Lq3 _ _ _ _ _ hq3 h (lv_sub hl [1, 2, 0] rfl)
def f0_fillBottom_L2 (g0 : ob) (z1 : Int32 × ob) : Option (Nat × (Int32 × ob)) :=
  (if 13 ≤ z1.1 then (some (1, (z1.1, z1.2))) else (gd (vin z1.1 13) <| ((if (g0.2 6 z1.1.toNatClampNeg) = 0 then (some 1000000000000) else (some 0))).bind fun v4 => gd (vin z1.1 2600) <| lt (sL z1.2 1 z1.1.toNatClampNeg v4) fun t6 => lt (z1.1 + 1) fun y7 => some (0, (y7, t6))))
noncomputable def f0_fillBottom (o_this : ob) (o_q0 : ob) : Option (ob) :=
  (wh (f0_fillBottom_L2 o_this) (0, o_q0)).bind fun q1 => some q1.2.2
set_option maxRecDepth 100000 in
set_option maxHeartbeats 4000000 in
theorem c0_fillBottom (l : Launch) (D : va_G) (K : Nat → ClassId) (a0 : Nat → Nat) (a1 : Nat → Nat) (o_this : ob) (o_q0 : ob) (r : ob) (hf : f0_fillBottom o_this o_q0 = some r) : CTv l yX0_fillBottom cX0_fillBottom 3 0 0 D K [.ref (a0 0), .ref (a1 2)] [wX0 K a0 o_this, wX2 K a1 o_q0] [wX0 K a0 o_this, wX2 K a1 r] := by
  unfold f0_fillBottom at hf
  have hf := tob hf
  refine entV (by decide) (Nat.le_of_ble_eq_true rfl) (fun P e s m args below meth c A ls F h hl hin => ?_)
  have hx := F.1
  have hb := F.2.1
  have hl : lv_has ls 3 [(0, .ref (a0 0)), (1, .ref (a1 2))] := hl
  refine lv_iconst (v := 0) hx hb dX0_fillBottom_0 (by decide) ?_
  refine lv_istore_n (lv' := [(2, .int 0), (0, .ref (a0 0)), (1, .ref (a1 2))]) hx hb dX0_fillBottom_1 rfl hl (by decide) rfl (fun ls hl => ?_)
  obtain ⟨q1, hq1, hf⟩ := asb hf
  obtain ⟨nq1, hq1⟩ := wh_out hq1
  have Xq1_1 : ∀ (z1 : Int32 × ob) (H : Heap) (locs : List Loc) (ls : Array Slot), q1 = (1, z1) → WD D A s.heap H locs [wX0 K a0 o_this, wX2 K a1 z1.2] → lv_has ls 3 [] → W P l e (rmS 0 0) s m args below meth c H locs 0 0 (MQ below (QvS D A [wX0 K a0 o_this, wX2 K a1 r]) args s 0 0 A) (F0 m 33 ls []) := by
    intro z1 H locs ls eq1 h hl
    obtain rfl : z1 = q1.2 := by rw [eq1]
    obtain rfl := sor hf
    exact r_retv F h dX0_fillBottom_33
  have Lq1 : ∀ (n : Nat) (z1 : Int32 × ob) (H : Heap) (locs : List Loc) (ls : Array Slot), iter (f0_fillBottom_L2 o_this) n z1 = some q1 → WD D A s.heap H locs [wX0 K a0 o_this, wX2 K a1 z1.2] → lv_has ls 3 [(0, .ref (a0 0)), (1, .ref (a1 2)), (2, .int z1.1)] → W P l e (rmS 0 0) s m args below meth c H locs 0 0 (MQ below (QvS D A [wX0 K a0 o_this, wX2 K a1 r]) args s 0 0 A) (F0 m 2 ls []) := by
    intro n
    induction n with
    | zero => intro z1 H locs ls hi; exact (iter_0 hi).elim
    | succ n ihq1 =>
      intro z1 H locs ls hi h hl
      obtain ⟨uq1, hf, huq1⟩ := iter_s hi
      unfold f0_fillBottom_L2 at hf
      have hf := tob hf
      refine lv_iload_n hx hb dX0_fillBottom_2 rfl (lv_at hl 2 rfl) ?_
      refine lv_bipush (v := 13) hx hb dX0_fillBottom_3 (by decide) ?_
      refine lv_icmp_ge (tgt := 33) hx hb dX0_fillBottom_5 (by decide) (fun c2 => ?_) (fun c2 => ?_)
      · have hf := ifp hf c2
        exact Xq1_1 _ _ _ _ (itr_x huq1 (sor hf)) h (lv_sub hl [] rfl)
      · have hf := ifn hf c2
        refine lv_aload_n hx hb dX0_fillBottom_8 rfl (lv_at hl 1 rfl) ?_
        refine lv_iload_n hx hb dX0_fillBottom_9 rfl (lv_at hl 2 rfl) ?_
        refine lv_aload_n hx hb dX0_fillBottom_10 rfl (lv_at hl 0 rfl) ?_
        refine r_get F h (i := 0) (k := 6) (.ref (a0 7)) inX0 rfl (by decide) w384 rfl rfl rfl dX0_fillBottom_11 ?_
        refine lv_iload_n hx hb dX0_fillBottom_14 rfl (lv_at hl 2 rfl) ?_
        obtain ⟨g3, hf⟩ := gdb hf
        refine r_zald F h (i := 0) (j := 3) rfl rfl (vin_ok g3) dX0_fillBottom_15 ?_
        obtain ⟨J4, eJ4, hf⟩ := rgn hf
        have JW4 : ∀ (v4 : Int64) (H : Heap) (locs : List Loc) (ls : Array Slot), WD D A s.heap H locs [wX0 K a0 o_this, wX2 K a1 z1.2] → lv_has ls 3 [(0, .ref (a0 0)), (1, .ref (a1 2)), (2, .int z1.1)] → J4 v4 = some uq1 → W P l e (rmS 0 0) s m args below meth c H locs 0 0 (MQ below (QvS D A [wX0 K a0 o_this, wX2 K a1 r]) args s 0 0 A) (F0 m 26 ls [.long v4, .int z1.1, .ref (a1 2)]) := by
          intro v4 H locs ls h hl hf
          have hf := jof eJ4 hf
          obtain ⟨g5, hf⟩ := gdb hf
          refine r_last (g := rL ((sL z1.2 1 z1.1.toNatClampNeg v4).2 1)) (o1 := sL z1.2 1 z1.1.toNatClampNeg v4) (w := fun t6 => wX2 K a1 t6) (S' := fun t6 => [wX0 K a0 o_this, wX2 K a1 t6]) F h (i := 1) (j := 2) rfl rfl (vin_ok g5) (sL_g z1.2 1 z1.1.toNatClampNeg v4) rfl (fun _ => rfl) dX0_fillBottom_26 (fun t6 e6 H locs h => ?_)
          have hf := ltb hf e6
          obtain ⟨y7, e7⟩ : ∃ y : Int32, y = z1.1 + 1 := ⟨_, rfl⟩
          have hf := ltb hf e7
          refine lv_iinc (v := y7) (lv' := [(2, .int y7), (0, .ref (a0 0)), (1, .ref (a1 2))]) hx hb dX0_fillBottom_27 hl (k := 2) rfl (by rw [e7]; rfl) (by decide) rfl (fun ls hl => ?_)
          refine lv_goto (tgt := 2) hx hb dX0_fillBottom_30 (by decide) ?_
          exact ihq1 _ _ _ _ (itr_c huq1 (sor hf)) h (lv_sub hl [1, 2, 0] rfl)
        refine lv_if_eq (tgt := 23) hx hb dX0_fillBottom_16 (by decide) (fun c8 => ?_) (fun c8 => ?_)
        · have hf := ifp hf c8
          refine r_ldc2 F 1000000000000 w364 dX0_fillBottom_23 ?_
          exact JW4 1000000000000 _ _ _ h (lv_sub hl [0, 1, 2] rfl) (sob hf)
        · have hf := ifn hf c8
          refine lv_lconst (v := 0) hx hb dX0_fillBottom_19 (by decide) ?_
          refine lv_goto (tgt := 26) hx hb dX0_fillBottom_20 (by decide) ?_
          exact JW4 0 _ _ _ h (lv_sub hl [0, 1, 2] rfl) (sob hf)
  exact Lq1 _ _ _ _ _ hq1 h (lv_sub hl [1, 2, 0] rfl)
def f0_stepsOver_L16 (g2 : Int32) (g3 : ob) (g4 : ob) (g5 : Int32) (z2 : Int64 × Int32) : Option (Nat × (Int64 × Int32)) :=
  (if (g3.1 0) ≤ z2.2 then (some (1, (z2.1, z2.2))) else (gd (vin ((g2 * 13) + z2.2) 2600) <| lt (rL (g4.2 1) ((g2 * 13) + z2.2).toNatClampNeg) fun y5 => gd (vin (g5 + z2.2) 676) <| ((if 1000000000000 ≤ (rL (g3.2 4) (g5 + z2.2).toNatClampNeg) then (some z2.1) else ((if 1000000000000 ≤ y5 then (some z2.1) else (gd (vin (g5 + z2.2) 676) <| lt (if ((rL (g3.2 4) (g5 + z2.2).toNatClampNeg) + y5) < z2.1 then ((rL (g3.2 4) (g5 + z2.2).toNatClampNeg) + y5) else z2.1) fun y12 => some y12))))).bind fun v7 => lt (z2.2 + 1) fun y8 => some (0, (v7, y8))))
noncomputable def f0_stepsOver (x0 : Int32) (x1 : Int32) (x3 : Int32) (o_this : ob) (o_q2 : ob) : Option (Int64) :=
  (f5_edgeAt x0 x1 0).bind fun q1 => (wh (f0_stepsOver_L16 x3 o_this o_q2 q1) (1000000000000, 0)).bind fun q2 => some q2.2.1
set_option maxRecDepth 100000 in
set_option maxHeartbeats 4000000 in
theorem c0_stepsOver (l : Launch) (D : va_G) (K : Nat → ClassId) (a0 : Nat → Nat) (a3 : Nat → Nat) (x0 : Int32) (x1 : Int32) (x3 : Int32) (o_this : ob) (o_q2 : ob) (r : Int64) (hf : f0_stepsOver x0 x1 x3 o_this o_q2 = some r) : CTl l yX0_stepsOver cX0_stepsOver 11 (some .long) 1 23 D K [.ref (a0 0), .int x0, .int x1, .ref (a3 2), .int x3] [wX0 K a0 o_this, wX2 K a3 o_q2] [wX0 K a0 o_this, wX2 K a3 o_q2] r := by
  unfold f0_stepsOver at hf
  have hf := tob hf
  refine entL (by decide) (Nat.le_of_ble_eq_true rfl) (fun P e s m args below meth c A ls F h hl hin => ?_)
  have hx := F.1
  have hb := F.2.1
  have hl : lv_has ls 11 [(0, .ref (a0 0)), (1, .int x0), (2, .int x1), (3, .ref (a3 2)), (4, .int x3)] := hl
  refine r_ldc2 F 1000000000000 w364 dX0_stepsOver_0 ?_
  refine lv_lstore (lv' := [(5, .long 1000000000000), (0, .ref (a0 0)), (1, .int x0), (2, .int x1), (3, .ref (a3 2)), (4, .int x3)]) hx hb dX0_stepsOver_3 hl (by decide) rfl (fun ls hl => ?_)
  refine lv_iload_n hx hb dX0_stepsOver_5 rfl (lv_at hl 2 rfl) ?_
  refine lv_iload_n hx hb dX0_stepsOver_6 rfl (lv_at hl 3 rfl) ?_
  refine lv_iconst (v := 0) hx hb dX0_stepsOver_7 (by decide) ?_
  obtain ⟨q1, h1, hf⟩ := asb hf
  refine r_callN (As := [.int x0, .int x1, .int 0]) (rest := []) F h hl (c5_edgeAt l D K x0 x1 0 q1 h1) w367 ⟨by decide +kernel, w366, w266⟩ hsc5_edgeAt ⟨Nat.le_of_ble_eq_true rfl, Nat.le_of_ble_eq_true rfl⟩ ⟨Nat.le_refl 0, Nat.le_refl 0⟩ (Nat.le_of_ble_eq_true rfl) dX0_stepsOver_8 (fun H locs h => ?_)
  refine lv_istore (lv' := [(7, .int q1), (5, .long 1000000000000), (0, .ref (a0 0)), (1, .int x0), (2, .int x1), (3, .ref (a3 2)), (4, .int x3)]) hx hb dX0_stepsOver_11 hl (by decide) rfl (fun ls hl => ?_)
  refine lv_iconst (v := 0) hx hb dX0_stepsOver_13 (by decide) ?_
  refine lv_istore (lv' := [(8, .int 0), (7, .int q1), (5, .long 1000000000000), (0, .ref (a0 0)), (1, .int x0), (2, .int x1), (3, .ref (a3 2)), (4, .int x3)]) hx hb dX0_stepsOver_14 hl (by decide) rfl (fun ls hl => ?_)
  obtain ⟨q2, hq2, hf⟩ := asb hf
  obtain ⟨nq2, hq2⟩ := wh_out hq2
  have Xq2_1 : ∀ (z2 : Int64 × Int32) (H : Heap) (locs : List Loc) (ls : Array Slot), q2 = (1, z2) → WD D A s.heap H locs [wX0 K a0 o_this, wX2 K a3 o_q2] → lv_has ls 11 [(5, .long z2.1)] → W P l e (rmS 1 23) s m args below meth c H locs 0 0 (MQ below (QlS D A [wX0 K a0 o_this, wX2 K a3 o_q2] r) args s 0 0 A) (F0 m 89 ls []) := by
    intro z2 H locs ls eq2 h hl
    obtain rfl : z2 = q2.2 := by rw [eq2]
    refine lv_lload hx hb dX0_stepsOver_89 (lv_at hl 0 rfl) ?_
    obtain rfl := sor hf
    exact r_retl F h dX0_stepsOver_91
  have Lq2 : ∀ (n : Nat) (z2 : Int64 × Int32) (H : Heap) (locs : List Loc) (ls : Array Slot), iter (f0_stepsOver_L16 x3 o_this o_q2 q1) n z2 = some q2 → WD D A s.heap H locs [wX0 K a0 o_this, wX2 K a3 o_q2] → lv_has ls 11 [(0, .ref (a0 0)), (3, .ref (a3 2)), (4, .int x3), (5, .long z2.1), (7, .int q1), (8, .int z2.2)] → W P l e (rmS 1 23) s m args below meth c H locs 0 0 (MQ below (QlS D A [wX0 K a0 o_this, wX2 K a3 o_q2] r) args s 0 0 A) (F0 m 16 ls []) := by
    intro n
    induction n with
    | zero => intro z2 H locs ls hi; exact (iter_0 hi).elim
    | succ n ihq2 =>
      intro z2 H locs ls hi h hl
      obtain ⟨uq2, hf, huq2⟩ := iter_s hi
      unfold f0_stepsOver_L16 at hf
      have hf := tob hf
      refine lv_iload hx hb dX0_stepsOver_16 (lv_at hl 5 rfl) ?_
      refine lv_aload_n hx hb dX0_stepsOver_18 rfl (lv_at hl 0 rfl) ?_
      refine r_get F h (i := 0) (k := 0) (.int (o_this.1 0)) inX0 rfl (by decide) w357 rfl rfl rfl dX0_stepsOver_19 ?_
      refine lv_icmp_ge (tgt := 89) hx hb dX0_stepsOver_22 (by decide) (fun c3 => ?_) (fun c3 => ?_)
      · have hf := ifp hf c3
        exact Xq2_1 _ _ _ _ (itr_x huq2 (sor hf)) h (lv_sub hl [3] rfl)
      · have hf := ifn hf c3
        refine lv_aload_n hx hb dX0_stepsOver_25 rfl (lv_at hl 1 rfl) ?_
        refine lv_iload hx hb dX0_stepsOver_26 (lv_at hl 2 rfl) ?_
        refine lv_bipush (v := 13) hx hb dX0_stepsOver_28 (by decide) ?_
        refine lv_imul hx hb dX0_stepsOver_30 ?_
        refine lv_iload hx hb dX0_stepsOver_31 (lv_at hl 5 rfl) ?_
        refine lv_iadd hx hb dX0_stepsOver_33 ?_
        obtain ⟨g4, hf⟩ := gdb hf
        refine r_lald F h (i := 1) (j := 2) rfl rfl (vin_ok g4) dX0_stepsOver_34 ?_
        refine lv_topl (fun y5 e5 => ?_)
        have hf := ltb hf e5
        refine lv_lstore (lv' := [(9, .long y5), (0, .ref (a0 0)), (3, .ref (a3 2)), (4, .int x3), (5, .long z2.1), (7, .int q1), (8, .int z2.2)]) hx hb dX0_stepsOver_35 hl (by decide) rfl (fun ls hl => ?_)
        refine lv_aload_n hx hb dX0_stepsOver_37 rfl (lv_at hl 1 rfl) ?_
        refine r_get F h (i := 0) (k := 4) (.ref (a0 5)) inX0 rfl (by decide) w377 rfl rfl rfl dX0_stepsOver_38 ?_
        refine lv_iload hx hb dX0_stepsOver_41 (lv_at hl 5 rfl) ?_
        refine lv_iload hx hb dX0_stepsOver_43 (lv_at hl 6 rfl) ?_
        refine lv_iadd hx hb dX0_stepsOver_45 ?_
        obtain ⟨g6, hf⟩ := gdb hf
        refine r_lald F h (i := 0) (j := 1) rfl rfl (vin_ok g6) dX0_stepsOver_46 ?_
        refine r_ldc2 F 1000000000000 w364 dX0_stepsOver_47 ?_
        refine W.lcmp hx hb dX0_stepsOver_50 ?_
        obtain ⟨J7, eJ7, hf⟩ := rgn hf
        have JW7 : ∀ (v7 : Int64) (H : Heap) (locs : List Loc) (ls : Array Slot), WD D A s.heap H locs [wX0 K a0 o_this, wX2 K a3 o_q2] → lv_has ls 11 [(0, .ref (a0 0)), (3, .ref (a3 2)), (4, .int x3), (5, .long v7), (7, .int q1), (8, .int z2.2)] → J7 v7 = some uq2 → W P l e (rmS 1 23) s m args below meth c H locs 0 0 (MQ below (QlS D A [wX0 K a0 o_this, wX2 K a3 o_q2] r) args s 0 0 A) (F0 m 83 ls []) := by
          intro v7 H locs ls h hl hf
          have hf := jof eJ7 hf
          obtain ⟨y8, e8⟩ : ∃ y : Int32, y = z2.2 + 1 := ⟨_, rfl⟩
          have hf := ltb hf e8
          refine lv_iinc (v := y8) (lv' := [(8, .int y8), (0, .ref (a0 0)), (3, .ref (a3 2)), (4, .int x3), (5, .long v7), (7, .int q1)]) hx hb dX0_stepsOver_83 hl (k := 5) rfl (by rw [e8]; rfl) (by decide) rfl (fun ls hl => ?_)
          refine lv_goto (tgt := 16) hx hb dX0_stepsOver_86 (by decide) ?_
          exact ihq2 _ _ _ _ (itr_c huq2 (sor hf)) h (lv_sub hl [1, 2, 3, 4, 5, 0] rfl)
        refine lv_if_ge (tgt := 83) hx hb dX0_stepsOver_51 (by decide) (fun c9 => ?_) (fun c9 => ?_)
        · have hf := ifp hf ((lg_cmp_ge (rL (o_this.2 4) (q1 + z2.2).toNatClampNeg) 1000000000000).mp c9)
          exact JW7 z2.1 _ _ _ h (lv_sub hl [1, 2, 3, 4, 5, 6] rfl) (sob hf)
        · have hf := ifn hf (fun z => c9 ((lg_cmp_ge (rL (o_this.2 4) (q1 + z2.2).toNatClampNeg) 1000000000000).mpr z))
          refine lv_lload hx hb dX0_stepsOver_54 (lv_at hl 0 rfl) ?_
          refine r_ldc2 F 1000000000000 w364 dX0_stepsOver_56 ?_
          refine W.lcmp hx hb dX0_stepsOver_59 ?_
          refine lv_if_ge (tgt := 83) hx hb dX0_stepsOver_60 (by decide) (fun c10 => ?_) (fun c10 => ?_)
          · have hf := ifp hf ((lg_cmp_ge y5 1000000000000).mp c10)
            exact JW7 z2.1 _ _ _ h (lv_sub hl [1, 2, 3, 4, 5, 6] rfl) (sob hf)
          · have hf := ifn hf (fun z => c10 ((lg_cmp_ge y5 1000000000000).mpr z))
            refine lv_lload hx hb dX0_stepsOver_63 (lv_at hl 4 rfl) ?_
            refine lv_aload_n hx hb dX0_stepsOver_65 rfl (lv_at hl 1 rfl) ?_
            refine r_get F h (i := 0) (k := 4) (.ref (a0 5)) inX0 rfl (by decide) w377 rfl rfl rfl dX0_stepsOver_66 ?_
            refine lv_iload hx hb dX0_stepsOver_69 (lv_at hl 5 rfl) ?_
            refine lv_iload hx hb dX0_stepsOver_71 (lv_at hl 6 rfl) ?_
            refine lv_iadd hx hb dX0_stepsOver_73 ?_
            obtain ⟨g11, hf⟩ := gdb hf
            refine r_lald F h (i := 0) (j := 1) rfl rfl (vin_ok g11) dX0_stepsOver_74 ?_
            refine lv_lload hx hb dX0_stepsOver_75 (lv_at hl 0 rfl) ?_
            refine lv_ladd hx hb dX0_stepsOver_77 ?_
            refine r_mminL F hl ⟨w369, w370, w361, w371⟩ ⟨Nat.le_of_ble_eq_true rfl, Nat.le_of_ble_eq_true rfl⟩ ⟨Nat.le_refl 0, Nat.le_refl 0⟩ dX0_stepsOver_78 ?_
            refine lv_topl (fun y12 e12 => ?_)
            have hf := ltb hf e12
            refine lv_lstore (lv' := [(5, .long y12), (9, .long y5), (0, .ref (a0 0)), (3, .ref (a3 2)), (4, .int x3), (7, .int q1), (8, .int z2.2)]) hx hb dX0_stepsOver_81 hl (by decide) rfl (fun ls hl => ?_)
            exact JW7 y12 _ _ _ h (lv_sub hl [2, 3, 4, 0, 5, 6] rfl) (sob hf)
  exact Lq2 _ _ _ _ _ hq2 h (lv_sub hl [3, 6, 7, 2, 1, 0] rfl)
noncomputable def f0_stepsOverTwo_L16 (g2 : Int32) (g3 : Int32) (g4 : ob) (g5 : ob) (g6 : Int32) (z2 : Int64 × Int32) : Option (Nat × (Int64 × Int32)) :=
  (if (g4.1 0) ≤ z2.2 then (some (1, (z2.1, z2.2))) else (gd (vin (g6 + z2.2) 676) <| ((if 1000000000000 ≤ (rL (g4.2 4) (g6 + z2.2).toNatClampNeg) then (some z2.1) else ((f0_stepsOver z2.2 g2 g3 g4 g5).bind fun q8 => (if 1000000000000 ≤ q8 then (some z2.1) else (gd (vin (g6 + z2.2) 676) <| lt (if ((rL (g4.2 4) (g6 + z2.2).toNatClampNeg) + q8) < z2.1 then ((rL (g4.2 4) (g6 + z2.2).toNatClampNeg) + q8) else z2.1) fun y11 => some y11))))).bind fun v5 => lt (z2.2 + 1) fun y6 => some (0, (v5, y6))))
noncomputable def f0_stepsOverTwo (x0 : Int32) (x1 : Int32) (x2 : Int32) (x4 : Int32) (o_this : ob) (o_q3 : ob) : Option (Int64) :=
  (f5_edgeAt x0 x1 0).bind fun q1 => (wh (f0_stepsOverTwo_L16 x2 x4 o_this o_q3 q1) (1000000000000, 0)).bind fun q2 => some q2.2.1
set_option maxRecDepth 100000 in
set_option maxHeartbeats 4000000 in
theorem c0_stepsOverTwo (l : Launch) (D : va_G) (K : Nat → ClassId) (a0 : Nat → Nat) (a4 : Nat → Nat) (x0 : Int32) (x1 : Int32) (x2 : Int32) (x4 : Int32) (o_this : ob) (o_q3 : ob) (r : Int64) (hf : f0_stepsOverTwo x0 x1 x2 x4 o_this o_q3 = some r) : CTl l yX0_stepsOverTwo cX0_stepsOverTwo 12 (some .long) 2 53 D K [.ref (a0 0), .int x0, .int x1, .int x2, .ref (a4 2), .int x4] [wX0 K a0 o_this, wX2 K a4 o_q3] [wX0 K a0 o_this, wX2 K a4 o_q3] r := by
  unfold f0_stepsOverTwo at hf
  have hf := tob hf
  refine entL (by decide) (Nat.le_of_ble_eq_true rfl) (fun P e s m args below meth c A ls F h hl hin => ?_)
  have hx := F.1
  have hb := F.2.1
  have hl : lv_has ls 12 [(0, .ref (a0 0)), (1, .int x0), (2, .int x1), (3, .int x2), (4, .ref (a4 2)), (5, .int x4)] := hl
  refine r_ldc2 F 1000000000000 w364 dX0_stepsOverTwo_0 ?_
  refine lv_lstore (lv' := [(6, .long 1000000000000), (0, .ref (a0 0)), (1, .int x0), (2, .int x1), (3, .int x2), (4, .ref (a4 2)), (5, .int x4)]) hx hb dX0_stepsOverTwo_3 hl (by decide) rfl (fun ls hl => ?_)
  refine lv_iload_n hx hb dX0_stepsOverTwo_5 rfl (lv_at hl 2 rfl) ?_
  refine lv_iload_n hx hb dX0_stepsOverTwo_6 rfl (lv_at hl 3 rfl) ?_
  refine lv_iconst (v := 0) hx hb dX0_stepsOverTwo_7 (by decide) ?_
  obtain ⟨q1, h1, hf⟩ := asb hf
  refine r_callN (As := [.int x0, .int x1, .int 0]) (rest := []) F h hl (c5_edgeAt l D K x0 x1 0 q1 h1) w367 ⟨by decide +kernel, w366, w266⟩ hsc5_edgeAt ⟨Nat.le_of_ble_eq_true rfl, Nat.le_of_ble_eq_true rfl⟩ ⟨Nat.le_refl 0, Nat.le_refl 0⟩ (Nat.le_of_ble_eq_true rfl) dX0_stepsOverTwo_8 (fun H locs h => ?_)
  refine lv_istore (lv' := [(8, .int q1), (6, .long 1000000000000), (0, .ref (a0 0)), (1, .int x0), (2, .int x1), (3, .int x2), (4, .ref (a4 2)), (5, .int x4)]) hx hb dX0_stepsOverTwo_11 hl (by decide) rfl (fun ls hl => ?_)
  refine lv_iconst (v := 0) hx hb dX0_stepsOverTwo_13 (by decide) ?_
  refine lv_istore (lv' := [(9, .int 0), (8, .int q1), (6, .long 1000000000000), (0, .ref (a0 0)), (1, .int x0), (2, .int x1), (3, .int x2), (4, .ref (a4 2)), (5, .int x4)]) hx hb dX0_stepsOverTwo_14 hl (by decide) rfl (fun ls hl => ?_)
  obtain ⟨q2, hq2, hf⟩ := asb hf
  obtain ⟨nq2, hq2⟩ := wh_out hq2
  have Xq2_1 : ∀ (z2 : Int64 × Int32) (H : Heap) (locs : List Loc) (ls : Array Slot), q2 = (1, z2) → WD D A s.heap H locs [wX0 K a0 o_this, wX2 K a4 o_q3] → lv_has ls 12 [(6, .long z2.1)] → W P l e (rmS 2 53) s m args below meth c H locs 0 0 (MQ below (QlS D A [wX0 K a0 o_this, wX2 K a4 o_q3] r) args s 0 0 A) (F0 m 90 ls []) := by
    intro z2 H locs ls eq2 h hl
    obtain rfl : z2 = q2.2 := by rw [eq2]
    refine lv_lload hx hb dX0_stepsOverTwo_90 (lv_at hl 0 rfl) ?_
    obtain rfl := sor hf
    exact r_retl F h dX0_stepsOverTwo_92
  have Lq2 : ∀ (n : Nat) (z2 : Int64 × Int32) (H : Heap) (locs : List Loc) (ls : Array Slot), iter (f0_stepsOverTwo_L16 x2 x4 o_this o_q3 q1) n z2 = some q2 → WD D A s.heap H locs [wX0 K a0 o_this, wX2 K a4 o_q3] → lv_has ls 12 [(0, .ref (a0 0)), (3, .int x2), (4, .ref (a4 2)), (5, .int x4), (6, .long z2.1), (8, .int q1), (9, .int z2.2)] → W P l e (rmS 2 53) s m args below meth c H locs 0 0 (MQ below (QlS D A [wX0 K a0 o_this, wX2 K a4 o_q3] r) args s 0 0 A) (F0 m 16 ls []) := by
    intro n
    induction n with
    | zero => intro z2 H locs ls hi; exact (iter_0 hi).elim
    | succ n ihq2 =>
      intro z2 H locs ls hi h hl
      obtain ⟨uq2, hf, huq2⟩ := iter_s hi
      unfold f0_stepsOverTwo_L16 at hf
      have hf := tob hf
      refine lv_iload hx hb dX0_stepsOverTwo_16 (lv_at hl 6 rfl) ?_
      refine lv_aload_n hx hb dX0_stepsOverTwo_18 rfl (lv_at hl 0 rfl) ?_
      refine r_get F h (i := 0) (k := 0) (.int (o_this.1 0)) inX0 rfl (by decide) w357 rfl rfl rfl dX0_stepsOverTwo_19 ?_
      refine lv_icmp_ge (tgt := 90) hx hb dX0_stepsOverTwo_22 (by decide) (fun c3 => ?_) (fun c3 => ?_)
      · have hf := ifp hf c3
        exact Xq2_1 _ _ _ _ (itr_x huq2 (sor hf)) h (lv_sub hl [4] rfl)
      · have hf := ifn hf c3
        refine lv_aload_n hx hb dX0_stepsOverTwo_25 rfl (lv_at hl 0 rfl) ?_
        refine r_get F h (i := 0) (k := 4) (.ref (a0 5)) inX0 rfl (by decide) w377 rfl rfl rfl dX0_stepsOverTwo_26 ?_
        refine lv_iload hx hb dX0_stepsOverTwo_29 (lv_at hl 5 rfl) ?_
        refine lv_iload hx hb dX0_stepsOverTwo_31 (lv_at hl 6 rfl) ?_
        refine lv_iadd hx hb dX0_stepsOverTwo_33 ?_
        obtain ⟨g4, hf⟩ := gdb hf
        refine r_lald F h (i := 0) (j := 1) rfl rfl (vin_ok g4) dX0_stepsOverTwo_34 ?_
        refine r_ldc2 F 1000000000000 w364 dX0_stepsOverTwo_35 ?_
        refine W.lcmp hx hb dX0_stepsOverTwo_38 ?_
        obtain ⟨J5, eJ5, hf⟩ := rgn hf
        have JW5 : ∀ (v5 : Int64) (H : Heap) (locs : List Loc) (ls : Array Slot), WD D A s.heap H locs [wX0 K a0 o_this, wX2 K a4 o_q3] → lv_has ls 12 [(0, .ref (a0 0)), (3, .int x2), (4, .ref (a4 2)), (5, .int x4), (6, .long v5), (8, .int q1), (9, .int z2.2)] → J5 v5 = some uq2 → W P l e (rmS 2 53) s m args below meth c H locs 0 0 (MQ below (QlS D A [wX0 K a0 o_this, wX2 K a4 o_q3] r) args s 0 0 A) (F0 m 84 ls []) := by
          intro v5 H locs ls h hl hf
          have hf := jof eJ5 hf
          obtain ⟨y6, e6⟩ : ∃ y : Int32, y = z2.2 + 1 := ⟨_, rfl⟩
          have hf := ltb hf e6
          refine lv_iinc (v := y6) (lv' := [(9, .int y6), (0, .ref (a0 0)), (3, .int x2), (4, .ref (a4 2)), (5, .int x4), (6, .long v5), (8, .int q1)]) hx hb dX0_stepsOverTwo_84 hl (k := 6) rfl (by rw [e6]; rfl) (by decide) rfl (fun ls hl => ?_)
          refine lv_goto (tgt := 16) hx hb dX0_stepsOverTwo_87 (by decide) ?_
          exact ihq2 _ _ _ _ (itr_c huq2 (sor hf)) h (lv_sub hl [1, 2, 3, 4, 5, 6, 0] rfl)
        refine lv_if_ge (tgt := 84) hx hb dX0_stepsOverTwo_39 (by decide) (fun c7 => ?_) (fun c7 => ?_)
        · have hf := ifp hf ((lg_cmp_ge (rL (o_this.2 4) (q1 + z2.2).toNatClampNeg) 1000000000000).mp c7)
          exact JW5 z2.1 _ _ _ h (lv_sub hl [0, 1, 2, 3, 4, 5, 6] rfl) (sob hf)
        · have hf := ifn hf (fun z => c7 ((lg_cmp_ge (rL (o_this.2 4) (q1 + z2.2).toNatClampNeg) 1000000000000).mpr z))
          refine lv_aload_n hx hb dX0_stepsOverTwo_42 rfl (lv_at hl 0 rfl) ?_
          refine lv_iload hx hb dX0_stepsOverTwo_43 (lv_at hl 6 rfl) ?_
          refine lv_iload_n hx hb dX0_stepsOverTwo_45 rfl (lv_at hl 1 rfl) ?_
          refine lv_aload hx hb dX0_stepsOverTwo_46 (lv_at hl 2 rfl) ?_
          refine lv_iload hx hb dX0_stepsOverTwo_48 (lv_at hl 3 rfl) ?_
          obtain ⟨q8, h8, hf⟩ := asb hf
          refine r_callVl (As := [.int z2.2, .int x2, .ref (a4 2), .int x4]) (rest := []) (C0 := [wX0 K a0 o_this, wX2 K a4 o_q3]) (C1 := [wX0 K a0 o_this, wX2 K a4 o_q3]) (Rr := []) (S' := [wX0 K a0 o_this, wX2 K a4 o_q3]) F h hl (c0_stepsOver l D K a0 a4 z2.2 x2 x4 o_this o_q3 q8 h8) [0, 1] rfl rfl rfl rfl rfl (i := 0) rfl rfl w427 ⟨w428, w429, w430, w376⟩ hsc0_stepsOver ⟨Nat.le_of_ble_eq_true rfl, Nat.le_of_ble_eq_true rfl⟩ ⟨Nat.le_refl 0, Nat.le_refl 0⟩ (Nat.le_of_ble_eq_true rfl) dX0_stepsOverTwo_50 (fun H locs h => ?_)
          refine lv_lstore (lv' := [(10, .long q8), (0, .ref (a0 0)), (3, .int x2), (4, .ref (a4 2)), (5, .int x4), (6, .long z2.1), (8, .int q1), (9, .int z2.2)]) hx hb dX0_stepsOverTwo_53 hl (by decide) rfl (fun ls hl => ?_)
          refine lv_lload hx hb dX0_stepsOverTwo_55 (lv_at hl 0 rfl) ?_
          refine r_ldc2 F 1000000000000 w364 dX0_stepsOverTwo_57 ?_
          refine W.lcmp hx hb dX0_stepsOverTwo_60 ?_
          refine lv_if_ge (tgt := 84) hx hb dX0_stepsOverTwo_61 (by decide) (fun c9 => ?_) (fun c9 => ?_)
          · have hf := ifp hf ((lg_cmp_ge q8 1000000000000).mp c9)
            exact JW5 z2.1 _ _ _ h (lv_sub hl [1, 2, 3, 4, 5, 6, 7] rfl) (sob hf)
          · have hf := ifn hf (fun z => c9 ((lg_cmp_ge q8 1000000000000).mpr z))
            refine lv_lload hx hb dX0_stepsOverTwo_64 (lv_at hl 5 rfl) ?_
            refine lv_aload_n hx hb dX0_stepsOverTwo_66 rfl (lv_at hl 1 rfl) ?_
            refine r_get F h (i := 0) (k := 4) (.ref (a0 5)) inX0 rfl (by decide) w377 rfl rfl rfl dX0_stepsOverTwo_67 ?_
            refine lv_iload hx hb dX0_stepsOverTwo_70 (lv_at hl 6 rfl) ?_
            refine lv_iload hx hb dX0_stepsOverTwo_72 (lv_at hl 7 rfl) ?_
            refine lv_iadd hx hb dX0_stepsOverTwo_74 ?_
            obtain ⟨g10, hf⟩ := gdb hf
            refine r_lald F h (i := 0) (j := 1) rfl rfl (vin_ok g10) dX0_stepsOverTwo_75 ?_
            refine lv_lload hx hb dX0_stepsOverTwo_76 (lv_at hl 0 rfl) ?_
            refine lv_ladd hx hb dX0_stepsOverTwo_78 ?_
            refine r_mminL F hl ⟨w369, w370, w361, w371⟩ ⟨Nat.le_of_ble_eq_true rfl, Nat.le_of_ble_eq_true rfl⟩ ⟨Nat.le_refl 0, Nat.le_refl 0⟩ dX0_stepsOverTwo_79 ?_
            refine lv_topl (fun y11 e11 => ?_)
            have hf := ltb hf e11
            refine lv_lstore (lv' := [(6, .long y11), (10, .long q8), (0, .ref (a0 0)), (3, .int x2), (4, .ref (a4 2)), (5, .int x4), (8, .int q1), (9, .int z2.2)]) hx hb dX0_stepsOverTwo_82 hl (by decide) rfl (fun ls hl => ?_)
            exact JW5 y11 _ _ _ h (lv_sub hl [2, 3, 4, 5, 0, 6, 7] rfl) (sob hf)
  exact Lq2 _ _ _ _ _ hq2 h (lv_sub hl [3, 6, 7, 8, 2, 1, 0] rfl)
