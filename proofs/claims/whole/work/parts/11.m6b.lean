def f6_writes_undone_L63 (g0 : Int32) (z10 : Int32 × ob) : Option (Nat × (Int32 × ob)) :=
  (if 70 ≤ z10.1 then (some (1, (z10.1, z10.2))) else (gd (vin z10.1 70) <| gd (vin ((g0 + 16) + z10.1) 720) <| lt (sA z10.2 10 ((g0 + 16) + z10.1).toNatClampNeg (z10.2.2 2 z10.1.toNatClampNeg)) fun t14 => lt (z10.1 + 1) fun y15 => some (0, (y15, t14))))
def f6_writes_undone_L36 (g0 : Int32) (z9 : Int32 × ob) : Option (Nat × (Int32 × ob)) :=
  (if 12 ≤ z9.1 then (some (1, (z9.1, z9.2))) else (gd (vin z9.1 12) <| gd (vin ((g0 + 4) + z9.1) 720) <| lt (sA z9.2 10 ((g0 + 4) + z9.1).toNatClampNeg (z9.2.2 7 z9.1.toNatClampNeg)) fun t19 => lt (z9.1 + 1) fun y20 => some (0, (y20, t19))))
noncomputable def f6_writes_undone (x1 : Int32) (o_this : ob) : Option (ob) :=
  gd (vin x1 720) <| lt (sA o_this 10 x1.toNatClampNeg (o_this.1 1)) fun t2 => gd (vin (x1 + 1) 720) <| lt (sA t2 10 (x1 + 1).toNatClampNeg (t2.1 5)) fun t4 => gd (vin (x1 + 2) 720) <| lt (sA t4 10 (x1 + 2).toNatClampNeg (t4.1 6)) fun t6 => gd (vin (x1 + 3) 720) <| lt (sA t6 10 (x1 + 3).toNatClampNeg (t6.1 8)) fun t8 => (wh (f6_writes_undone_L36 x1) (0, t8)).bind fun q9 => (wh (f6_writes_undone_L63 x1) (0, q9.2.2)).bind fun q10 => some q10.2.2
set_option maxRecDepth 100000 in
set_option maxHeartbeats 4000000 in
theorem c6_writes_undone (l : Launch) (D : va_G) (K : Nat → ClassId) (a0 : Nat → Nat) (x1 : Int32) (o_this : ob) (r : ob) (hf : f6_writes_undone x1 o_this = some r) : CTv l yX6_writes cX6_writes 4 0 0 D K [.ref (a0 0), .ref (a0 11), .int x1] [wX6 K a0 o_this] [wX6 K a0 r] := by
  unfold f6_writes_undone at hf
  have hf := tob hf
  refine entV (by decide) (Nat.le_of_ble_eq_true rfl) (fun P e s m args below meth c A ls F h hl hin => ?_)
  have hx := F.1
  have hb := F.2.1
  have hl : lv_has ls 4 [(0, .ref (a0 0)), (1, .ref (a0 11)), (2, .int x1)] := hl
  refine lv_aload_n hx hb dX6_writes_0 rfl (lv_at hl 1 rfl) ?_
  refine lv_iload_n hx hb dX6_writes_1 rfl (lv_at hl 2 rfl) ?_
  refine lv_aload_n hx hb dX6_writes_2 rfl (lv_at hl 0 rfl) ?_
  refine r_get F h (i := 0) (k := 1) (.int (o_this.1 1)) inX6 rfl (by decide) w4 rfl rfl rfl dX6_writes_3 ?_
  obtain ⟨g1, hf⟩ := gdb hf
  refine r_iast (o1 := sA o_this 10 x1.toNatClampNeg (o_this.1 1)) (w := fun t2 => wX6 K a0 t2) (S' := fun t2 => [wX6 K a0 t2]) F h (i := 0) (j := 4) rfl rfl (vin_ok g1) rfl (fun _ => rfl) dX6_writes_6 (fun t2 e2 H locs h => ?_)
  have hf := ltb hf e2
  refine lv_aload_n hx hb dX6_writes_7 rfl (lv_at hl 1 rfl) ?_
  refine lv_iload_n hx hb dX6_writes_8 rfl (lv_at hl 2 rfl) ?_
  refine lv_iconst (v := 1) hx hb dX6_writes_9 (by decide) ?_
  refine lv_iadd hx hb dX6_writes_10 ?_
  refine lv_aload_n hx hb dX6_writes_11 rfl (lv_at hl 0 rfl) ?_
  refine r_get F h (i := 0) (k := 5) (.int (t2.1 5)) inX6 rfl (by decide) w15 rfl rfl rfl dX6_writes_12 ?_
  obtain ⟨g3, hf⟩ := gdb hf
  refine r_iast (o1 := sA t2 10 (x1 + 1).toNatClampNeg (t2.1 5)) (w := fun t4 => wX6 K a0 t4) (S' := fun t4 => [wX6 K a0 t4]) F h (i := 0) (j := 4) rfl rfl (vin_ok g3) rfl (fun _ => rfl) dX6_writes_15 (fun t4 e4 H locs h => ?_)
  have hf := ltb hf e4
  refine lv_aload_n hx hb dX6_writes_16 rfl (lv_at hl 1 rfl) ?_
  refine lv_iload_n hx hb dX6_writes_17 rfl (lv_at hl 2 rfl) ?_
  refine lv_iconst (v := 2) hx hb dX6_writes_18 (by decide) ?_
  refine lv_iadd hx hb dX6_writes_19 ?_
  refine lv_aload_n hx hb dX6_writes_20 rfl (lv_at hl 0 rfl) ?_
  refine r_get F h (i := 0) (k := 6) (.int (t4.1 6)) inX6 rfl (by decide) w13 rfl rfl rfl dX6_writes_21 ?_
  obtain ⟨g5, hf⟩ := gdb hf
  refine r_iast (o1 := sA t4 10 (x1 + 2).toNatClampNeg (t4.1 6)) (w := fun t6 => wX6 K a0 t6) (S' := fun t6 => [wX6 K a0 t6]) F h (i := 0) (j := 4) rfl rfl (vin_ok g5) rfl (fun _ => rfl) dX6_writes_24 (fun t6 e6 H locs h => ?_)
  have hf := ltb hf e6
  refine lv_aload_n hx hb dX6_writes_25 rfl (lv_at hl 1 rfl) ?_
  refine lv_iload_n hx hb dX6_writes_26 rfl (lv_at hl 2 rfl) ?_
  refine lv_iconst (v := 3) hx hb dX6_writes_27 (by decide) ?_
  refine lv_iadd hx hb dX6_writes_28 ?_
  refine lv_aload_n hx hb dX6_writes_29 rfl (lv_at hl 0 rfl) ?_
  refine r_get F h (i := 0) (k := 8) (.int (t6.1 8)) inX6 rfl (by decide) w29 rfl rfl rfl dX6_writes_30 ?_
  obtain ⟨g7, hf⟩ := gdb hf
  refine r_iast (o1 := sA t6 10 (x1 + 3).toNatClampNeg (t6.1 8)) (w := fun t8 => wX6 K a0 t8) (S' := fun t8 => [wX6 K a0 t8]) F h (i := 0) (j := 4) rfl rfl (vin_ok g7) rfl (fun _ => rfl) dX6_writes_33 (fun t8 e8 H locs h => ?_)
  have hf := ltb hf e8
  refine lv_iconst (v := 0) hx hb dX6_writes_34 (by decide) ?_
  refine lv_istore_n (lv' := [(3, .int 0), (0, .ref (a0 0)), (1, .ref (a0 11)), (2, .int x1)]) hx hb dX6_writes_35 rfl hl (by decide) rfl (fun ls hl => ?_)
  obtain ⟨q9, hq9, hf⟩ := asb hf
  obtain ⟨nq9, hq9⟩ := wh_out hq9
  have Xq9_1 : ∀ (z9 : Int32 × ob) (H : Heap) (locs : List Loc) (ls : Array Slot), q9 = (1, z9) → WD D A s.heap H locs [wX6 K a0 z9.2] → lv_has ls 4 [(0, .ref (a0 0)), (1, .ref (a0 11)), (2, .int x1)] → W P l e (rmS 0 0) s m args below meth c H locs 0 0 (MQ below (QvS D A [wX6 K a0 r]) args s 0 0 A) (F0 m 61 ls []) := by
    intro z9 H locs ls eq9 h hl
    obtain rfl : z9 = q9.2 := by rw [eq9]
    refine lv_iconst (v := 0) hx hb dX6_writes_61 (by decide) ?_
    refine lv_istore_n (lv' := [(3, .int 0), (0, .ref (a0 0)), (1, .ref (a0 11)), (2, .int x1)]) hx hb dX6_writes_62 rfl hl (by decide) rfl (fun ls hl => ?_)
    obtain ⟨q10, hq10, hf⟩ := asb hf
    obtain ⟨nq10, hq10⟩ := wh_out hq10
    have Xq10_1 : ∀ (z10 : Int32 × ob) (H : Heap) (locs : List Loc) (ls : Array Slot), q10 = (1, z10) → WD D A s.heap H locs [wX6 K a0 z10.2] → lv_has ls 4 [] → W P l e (rmS 0 0) s m args below meth c H locs 0 0 (MQ below (QvS D A [wX6 K a0 r]) args s 0 0 A) (F0 m 89 ls []) := by
      intro z10 H locs ls eq10 h hl
      obtain rfl : z10 = q10.2 := by rw [eq10]
      obtain rfl := sor hf
      exact r_retv F h dX6_writes_89
    have Lq10 : ∀ (n : Nat) (z10 : Int32 × ob) (H : Heap) (locs : List Loc) (ls : Array Slot), iter (f6_writes_undone_L63 x1) n z10 = some q10 → WD D A s.heap H locs [wX6 K a0 z10.2] → lv_has ls 4 [(0, .ref (a0 0)), (1, .ref (a0 11)), (2, .int x1), (3, .int z10.1)] → W P l e (rmS 0 0) s m args below meth c H locs 0 0 (MQ below (QvS D A [wX6 K a0 r]) args s 0 0 A) (F0 m 63 ls []) := by
      intro n
      induction n with
      | zero => intro z10 H locs ls hi; exact (iter_0 hi).elim
      | succ n ihq10 =>
        intro z10 H locs ls hi h hl
        obtain ⟨uq10, hf, huq10⟩ := iter_s hi
        unfold f6_writes_undone_L63 at hf
        have hf := tob hf
        refine lv_iload_n hx hb dX6_writes_63 rfl (lv_at hl 3 rfl) ?_
        refine lv_bipush (v := 70) hx hb dX6_writes_64 (by decide) ?_
        refine lv_icmp_ge (tgt := 89) hx hb dX6_writes_66 (by decide) (fun c11 => ?_) (fun c11 => ?_)
        · have hf := ifp hf c11
          exact Xq10_1 _ _ _ _ (itr_x huq10 (sor hf)) h (lv_sub hl [] rfl)
        · have hf := ifn hf c11
          refine lv_aload_n hx hb dX6_writes_69 rfl (lv_at hl 1 rfl) ?_
          refine lv_iload_n hx hb dX6_writes_70 rfl (lv_at hl 2 rfl) ?_
          refine lv_bipush (v := 16) hx hb dX6_writes_71 (by decide) ?_
          refine lv_iadd hx hb dX6_writes_73 ?_
          refine lv_iload_n hx hb dX6_writes_74 rfl (lv_at hl 3 rfl) ?_
          refine lv_iadd hx hb dX6_writes_75 ?_
          refine lv_aload_n hx hb dX6_writes_76 rfl (lv_at hl 0 rfl) ?_
          refine r_get F h (i := 0) (k := 2) (.ref (a0 3)) inX6 rfl (by decide) w6 rfl rfl rfl dX6_writes_77 ?_
          refine lv_iload_n hx hb dX6_writes_80 rfl (lv_at hl 3 rfl) ?_
          obtain ⟨g12, hf⟩ := gdb hf
          refine r_iald F h (i := 0) (j := 1) rfl rfl (vin_ok g12) dX6_writes_81 ?_
          obtain ⟨g13, hf⟩ := gdb hf
          refine r_iast (o1 := sA z10.2 10 ((x1 + 16) + z10.1).toNatClampNeg (z10.2.2 2 z10.1.toNatClampNeg)) (w := fun t14 => wX6 K a0 t14) (S' := fun t14 => [wX6 K a0 t14]) F h (i := 0) (j := 4) rfl rfl (vin_ok g13) rfl (fun _ => rfl) dX6_writes_82 (fun t14 e14 H locs h => ?_)
          have hf := ltb hf e14
          obtain ⟨y15, e15⟩ : ∃ y : Int32, y = z10.1 + 1 := ⟨_, rfl⟩
          have hf := ltb hf e15
          refine lv_iinc (v := y15) (lv' := [(3, .int y15), (0, .ref (a0 0)), (1, .ref (a0 11)), (2, .int x1)]) hx hb dX6_writes_83 hl (k := 3) rfl (by rw [e15]; rfl) (by decide) rfl (fun ls hl => ?_)
          refine lv_goto (tgt := 63) hx hb dX6_writes_86 (by decide) ?_
          exact ihq10 _ _ _ _ (itr_c huq10 (sor hf)) h (lv_sub hl [1, 2, 3, 0] rfl)
    exact Lq10 _ _ _ _ _ hq10 h (lv_sub hl [1, 2, 3, 0] rfl)
  have Lq9 : ∀ (n : Nat) (z9 : Int32 × ob) (H : Heap) (locs : List Loc) (ls : Array Slot), iter (f6_writes_undone_L36 x1) n z9 = some q9 → WD D A s.heap H locs [wX6 K a0 z9.2] → lv_has ls 4 [(0, .ref (a0 0)), (1, .ref (a0 11)), (2, .int x1), (3, .int z9.1)] → W P l e (rmS 0 0) s m args below meth c H locs 0 0 (MQ below (QvS D A [wX6 K a0 r]) args s 0 0 A) (F0 m 36 ls []) := by
    intro n
    induction n with
    | zero => intro z9 H locs ls hi; exact (iter_0 hi).elim
    | succ n ihq9 =>
      intro z9 H locs ls hi h hl
      obtain ⟨uq9, hf, huq9⟩ := iter_s hi
      unfold f6_writes_undone_L36 at hf
      have hf := tob hf
      refine lv_iload_n hx hb dX6_writes_36 rfl (lv_at hl 3 rfl) ?_
      refine lv_bipush (v := 12) hx hb dX6_writes_37 (by decide) ?_
      refine lv_icmp_ge (tgt := 61) hx hb dX6_writes_39 (by decide) (fun c16 => ?_) (fun c16 => ?_)
      · have hf := ifp hf c16
        exact Xq9_1 _ _ _ _ (itr_x huq9 (sor hf)) h (lv_sub hl [0, 1, 2] rfl)
      · have hf := ifn hf c16
        refine lv_aload_n hx hb dX6_writes_42 rfl (lv_at hl 1 rfl) ?_
        refine lv_iload_n hx hb dX6_writes_43 rfl (lv_at hl 2 rfl) ?_
        refine lv_iconst (v := 4) hx hb dX6_writes_44 (by decide) ?_
        refine lv_iadd hx hb dX6_writes_45 ?_
        refine lv_iload_n hx hb dX6_writes_46 rfl (lv_at hl 3 rfl) ?_
        refine lv_iadd hx hb dX6_writes_47 ?_
        refine lv_aload_n hx hb dX6_writes_48 rfl (lv_at hl 0 rfl) ?_
        refine r_get F h (i := 0) (k := 7) (.ref (a0 8)) inX6 rfl (by decide) w14 rfl rfl rfl dX6_writes_49 ?_
        refine lv_iload_n hx hb dX6_writes_52 rfl (lv_at hl 3 rfl) ?_
        obtain ⟨g17, hf⟩ := gdb hf
        refine r_iald F h (i := 0) (j := 3) rfl rfl (vin_ok g17) dX6_writes_53 ?_
        obtain ⟨g18, hf⟩ := gdb hf
        refine r_iast (o1 := sA z9.2 10 ((x1 + 4) + z9.1).toNatClampNeg (z9.2.2 7 z9.1.toNatClampNeg)) (w := fun t19 => wX6 K a0 t19) (S' := fun t19 => [wX6 K a0 t19]) F h (i := 0) (j := 4) rfl rfl (vin_ok g18) rfl (fun _ => rfl) dX6_writes_54 (fun t19 e19 H locs h => ?_)
        have hf := ltb hf e19
        obtain ⟨y20, e20⟩ : ∃ y : Int32, y = z9.1 + 1 := ⟨_, rfl⟩
        have hf := ltb hf e20
        refine lv_iinc (v := y20) (lv' := [(3, .int y20), (0, .ref (a0 0)), (1, .ref (a0 11)), (2, .int x1)]) hx hb dX6_writes_55 hl (k := 3) rfl (by rw [e20]; rfl) (by decide) rfl (fun ls hl => ?_)
        refine lv_goto (tgt := 36) hx hb dX6_writes_58 (by decide) ?_
        exact ihq9 _ _ _ _ (itr_c huq9 (sor hf)) h (lv_sub hl [1, 2, 3, 0] rfl)
  exact Lq9 _ _ _ _ _ hq9 h (lv_sub hl [1, 2, 3, 0] rfl)
def f6_writes_kept_L63 (g0 : Int32) (z10 : Int32 × ob) : Option (Nat × (Int32 × ob)) :=
  (if 70 ≤ z10.1 then (some (1, (z10.1, z10.2))) else (gd (vin z10.1 70) <| gd (vin ((g0 + 16) + z10.1) 180) <| lt (sA z10.2 12 ((g0 + 16) + z10.1).toNatClampNeg (z10.2.2 2 z10.1.toNatClampNeg)) fun t14 => lt (z10.1 + 1) fun y15 => some (0, (y15, t14))))
def f6_writes_kept_L36 (g0 : Int32) (z9 : Int32 × ob) : Option (Nat × (Int32 × ob)) :=
  (if 12 ≤ z9.1 then (some (1, (z9.1, z9.2))) else (gd (vin z9.1 12) <| gd (vin ((g0 + 4) + z9.1) 180) <| lt (sA z9.2 12 ((g0 + 4) + z9.1).toNatClampNeg (z9.2.2 7 z9.1.toNatClampNeg)) fun t19 => lt (z9.1 + 1) fun y20 => some (0, (y20, t19))))
noncomputable def f6_writes_kept (x1 : Int32) (o_this : ob) : Option (ob) :=
  gd (vin x1 180) <| lt (sA o_this 12 x1.toNatClampNeg (o_this.1 1)) fun t2 => gd (vin (x1 + 1) 180) <| lt (sA t2 12 (x1 + 1).toNatClampNeg (t2.1 5)) fun t4 => gd (vin (x1 + 2) 180) <| lt (sA t4 12 (x1 + 2).toNatClampNeg (t4.1 6)) fun t6 => gd (vin (x1 + 3) 180) <| lt (sA t6 12 (x1 + 3).toNatClampNeg (t6.1 8)) fun t8 => (wh (f6_writes_kept_L36 x1) (0, t8)).bind fun q9 => (wh (f6_writes_kept_L63 x1) (0, q9.2.2)).bind fun q10 => some q10.2.2
set_option maxRecDepth 100000 in
set_option maxHeartbeats 4000000 in
theorem c6_writes_kept (l : Launch) (D : va_G) (K : Nat → ClassId) (a0 : Nat → Nat) (x1 : Int32) (o_this : ob) (r : ob) (hf : f6_writes_kept x1 o_this = some r) : CTv l yX6_writes cX6_writes 4 0 0 D K [.ref (a0 0), .ref (a0 13), .int x1] [wX6 K a0 o_this] [wX6 K a0 r] := by
  unfold f6_writes_kept at hf
  have hf := tob hf
  refine entV (by decide) (Nat.le_of_ble_eq_true rfl) (fun P e s m args below meth c A ls F h hl hin => ?_)
  have hx := F.1
  have hb := F.2.1
  have hl : lv_has ls 4 [(0, .ref (a0 0)), (1, .ref (a0 13)), (2, .int x1)] := hl
  refine lv_aload_n hx hb dX6_writes_0 rfl (lv_at hl 1 rfl) ?_
  refine lv_iload_n hx hb dX6_writes_1 rfl (lv_at hl 2 rfl) ?_
  refine lv_aload_n hx hb dX6_writes_2 rfl (lv_at hl 0 rfl) ?_
  refine r_get F h (i := 0) (k := 1) (.int (o_this.1 1)) inX6 rfl (by decide) w4 rfl rfl rfl dX6_writes_3 ?_
  obtain ⟨g1, hf⟩ := gdb hf
  refine r_iast (o1 := sA o_this 12 x1.toNatClampNeg (o_this.1 1)) (w := fun t2 => wX6 K a0 t2) (S' := fun t2 => [wX6 K a0 t2]) F h (i := 0) (j := 5) rfl rfl (vin_ok g1) rfl (fun _ => rfl) dX6_writes_6 (fun t2 e2 H locs h => ?_)
  have hf := ltb hf e2
  refine lv_aload_n hx hb dX6_writes_7 rfl (lv_at hl 1 rfl) ?_
  refine lv_iload_n hx hb dX6_writes_8 rfl (lv_at hl 2 rfl) ?_
  refine lv_iconst (v := 1) hx hb dX6_writes_9 (by decide) ?_
  refine lv_iadd hx hb dX6_writes_10 ?_
  refine lv_aload_n hx hb dX6_writes_11 rfl (lv_at hl 0 rfl) ?_
  refine r_get F h (i := 0) (k := 5) (.int (t2.1 5)) inX6 rfl (by decide) w15 rfl rfl rfl dX6_writes_12 ?_
  obtain ⟨g3, hf⟩ := gdb hf
  refine r_iast (o1 := sA t2 12 (x1 + 1).toNatClampNeg (t2.1 5)) (w := fun t4 => wX6 K a0 t4) (S' := fun t4 => [wX6 K a0 t4]) F h (i := 0) (j := 5) rfl rfl (vin_ok g3) rfl (fun _ => rfl) dX6_writes_15 (fun t4 e4 H locs h => ?_)
  have hf := ltb hf e4
  refine lv_aload_n hx hb dX6_writes_16 rfl (lv_at hl 1 rfl) ?_
  refine lv_iload_n hx hb dX6_writes_17 rfl (lv_at hl 2 rfl) ?_
  refine lv_iconst (v := 2) hx hb dX6_writes_18 (by decide) ?_
  refine lv_iadd hx hb dX6_writes_19 ?_
  refine lv_aload_n hx hb dX6_writes_20 rfl (lv_at hl 0 rfl) ?_
  refine r_get F h (i := 0) (k := 6) (.int (t4.1 6)) inX6 rfl (by decide) w13 rfl rfl rfl dX6_writes_21 ?_
  obtain ⟨g5, hf⟩ := gdb hf
  refine r_iast (o1 := sA t4 12 (x1 + 2).toNatClampNeg (t4.1 6)) (w := fun t6 => wX6 K a0 t6) (S' := fun t6 => [wX6 K a0 t6]) F h (i := 0) (j := 5) rfl rfl (vin_ok g5) rfl (fun _ => rfl) dX6_writes_24 (fun t6 e6 H locs h => ?_)
  have hf := ltb hf e6
  refine lv_aload_n hx hb dX6_writes_25 rfl (lv_at hl 1 rfl) ?_
  refine lv_iload_n hx hb dX6_writes_26 rfl (lv_at hl 2 rfl) ?_
  refine lv_iconst (v := 3) hx hb dX6_writes_27 (by decide) ?_
  refine lv_iadd hx hb dX6_writes_28 ?_
  refine lv_aload_n hx hb dX6_writes_29 rfl (lv_at hl 0 rfl) ?_
  refine r_get F h (i := 0) (k := 8) (.int (t6.1 8)) inX6 rfl (by decide) w29 rfl rfl rfl dX6_writes_30 ?_
  obtain ⟨g7, hf⟩ := gdb hf
  refine r_iast (o1 := sA t6 12 (x1 + 3).toNatClampNeg (t6.1 8)) (w := fun t8 => wX6 K a0 t8) (S' := fun t8 => [wX6 K a0 t8]) F h (i := 0) (j := 5) rfl rfl (vin_ok g7) rfl (fun _ => rfl) dX6_writes_33 (fun t8 e8 H locs h => ?_)
  have hf := ltb hf e8
  refine lv_iconst (v := 0) hx hb dX6_writes_34 (by decide) ?_
  refine lv_istore_n (lv' := [(3, .int 0), (0, .ref (a0 0)), (1, .ref (a0 13)), (2, .int x1)]) hx hb dX6_writes_35 rfl hl (by decide) rfl (fun ls hl => ?_)
  obtain ⟨q9, hq9, hf⟩ := asb hf
  obtain ⟨nq9, hq9⟩ := wh_out hq9
  have Xq9_1 : ∀ (z9 : Int32 × ob) (H : Heap) (locs : List Loc) (ls : Array Slot), q9 = (1, z9) → WD D A s.heap H locs [wX6 K a0 z9.2] → lv_has ls 4 [(0, .ref (a0 0)), (1, .ref (a0 13)), (2, .int x1)] → W P l e (rmS 0 0) s m args below meth c H locs 0 0 (MQ below (QvS D A [wX6 K a0 r]) args s 0 0 A) (F0 m 61 ls []) := by
    intro z9 H locs ls eq9 h hl
    obtain rfl : z9 = q9.2 := by rw [eq9]
    refine lv_iconst (v := 0) hx hb dX6_writes_61 (by decide) ?_
    refine lv_istore_n (lv' := [(3, .int 0), (0, .ref (a0 0)), (1, .ref (a0 13)), (2, .int x1)]) hx hb dX6_writes_62 rfl hl (by decide) rfl (fun ls hl => ?_)
    obtain ⟨q10, hq10, hf⟩ := asb hf
    obtain ⟨nq10, hq10⟩ := wh_out hq10
    have Xq10_1 : ∀ (z10 : Int32 × ob) (H : Heap) (locs : List Loc) (ls : Array Slot), q10 = (1, z10) → WD D A s.heap H locs [wX6 K a0 z10.2] → lv_has ls 4 [] → W P l e (rmS 0 0) s m args below meth c H locs 0 0 (MQ below (QvS D A [wX6 K a0 r]) args s 0 0 A) (F0 m 89 ls []) := by
      intro z10 H locs ls eq10 h hl
      obtain rfl : z10 = q10.2 := by rw [eq10]
      obtain rfl := sor hf
      exact r_retv F h dX6_writes_89
    have Lq10 : ∀ (n : Nat) (z10 : Int32 × ob) (H : Heap) (locs : List Loc) (ls : Array Slot), iter (f6_writes_kept_L63 x1) n z10 = some q10 → WD D A s.heap H locs [wX6 K a0 z10.2] → lv_has ls 4 [(0, .ref (a0 0)), (1, .ref (a0 13)), (2, .int x1), (3, .int z10.1)] → W P l e (rmS 0 0) s m args below meth c H locs 0 0 (MQ below (QvS D A [wX6 K a0 r]) args s 0 0 A) (F0 m 63 ls []) := by
      intro n
      induction n with
      | zero => intro z10 H locs ls hi; exact (iter_0 hi).elim
      | succ n ihq10 =>
        intro z10 H locs ls hi h hl
        obtain ⟨uq10, hf, huq10⟩ := iter_s hi
        unfold f6_writes_kept_L63 at hf
        have hf := tob hf
        refine lv_iload_n hx hb dX6_writes_63 rfl (lv_at hl 3 rfl) ?_
        refine lv_bipush (v := 70) hx hb dX6_writes_64 (by decide) ?_
        refine lv_icmp_ge (tgt := 89) hx hb dX6_writes_66 (by decide) (fun c11 => ?_) (fun c11 => ?_)
        · have hf := ifp hf c11
          exact Xq10_1 _ _ _ _ (itr_x huq10 (sor hf)) h (lv_sub hl [] rfl)
        · have hf := ifn hf c11
          refine lv_aload_n hx hb dX6_writes_69 rfl (lv_at hl 1 rfl) ?_
          refine lv_iload_n hx hb dX6_writes_70 rfl (lv_at hl 2 rfl) ?_
          refine lv_bipush (v := 16) hx hb dX6_writes_71 (by decide) ?_
          refine lv_iadd hx hb dX6_writes_73 ?_
          refine lv_iload_n hx hb dX6_writes_74 rfl (lv_at hl 3 rfl) ?_
          refine lv_iadd hx hb dX6_writes_75 ?_
          refine lv_aload_n hx hb dX6_writes_76 rfl (lv_at hl 0 rfl) ?_
          refine r_get F h (i := 0) (k := 2) (.ref (a0 3)) inX6 rfl (by decide) w6 rfl rfl rfl dX6_writes_77 ?_
          refine lv_iload_n hx hb dX6_writes_80 rfl (lv_at hl 3 rfl) ?_
          obtain ⟨g12, hf⟩ := gdb hf
          refine r_iald F h (i := 0) (j := 1) rfl rfl (vin_ok g12) dX6_writes_81 ?_
          obtain ⟨g13, hf⟩ := gdb hf
          refine r_iast (o1 := sA z10.2 12 ((x1 + 16) + z10.1).toNatClampNeg (z10.2.2 2 z10.1.toNatClampNeg)) (w := fun t14 => wX6 K a0 t14) (S' := fun t14 => [wX6 K a0 t14]) F h (i := 0) (j := 5) rfl rfl (vin_ok g13) rfl (fun _ => rfl) dX6_writes_82 (fun t14 e14 H locs h => ?_)
          have hf := ltb hf e14
          obtain ⟨y15, e15⟩ : ∃ y : Int32, y = z10.1 + 1 := ⟨_, rfl⟩
          have hf := ltb hf e15
          refine lv_iinc (v := y15) (lv' := [(3, .int y15), (0, .ref (a0 0)), (1, .ref (a0 13)), (2, .int x1)]) hx hb dX6_writes_83 hl (k := 3) rfl (by rw [e15]; rfl) (by decide) rfl (fun ls hl => ?_)
          refine lv_goto (tgt := 63) hx hb dX6_writes_86 (by decide) ?_
          exact ihq10 _ _ _ _ (itr_c huq10 (sor hf)) h (lv_sub hl [1, 2, 3, 0] rfl)
    exact Lq10 _ _ _ _ _ hq10 h (lv_sub hl [1, 2, 3, 0] rfl)
  have Lq9 : ∀ (n : Nat) (z9 : Int32 × ob) (H : Heap) (locs : List Loc) (ls : Array Slot), iter (f6_writes_kept_L36 x1) n z9 = some q9 → WD D A s.heap H locs [wX6 K a0 z9.2] → lv_has ls 4 [(0, .ref (a0 0)), (1, .ref (a0 13)), (2, .int x1), (3, .int z9.1)] → W P l e (rmS 0 0) s m args below meth c H locs 0 0 (MQ below (QvS D A [wX6 K a0 r]) args s 0 0 A) (F0 m 36 ls []) := by
    intro n
    induction n with
    | zero => intro z9 H locs ls hi; exact (iter_0 hi).elim
    | succ n ihq9 =>
      intro z9 H locs ls hi h hl
      obtain ⟨uq9, hf, huq9⟩ := iter_s hi
      unfold f6_writes_kept_L36 at hf
      have hf := tob hf
      refine lv_iload_n hx hb dX6_writes_36 rfl (lv_at hl 3 rfl) ?_
      refine lv_bipush (v := 12) hx hb dX6_writes_37 (by decide) ?_
      refine lv_icmp_ge (tgt := 61) hx hb dX6_writes_39 (by decide) (fun c16 => ?_) (fun c16 => ?_)
      · have hf := ifp hf c16
        exact Xq9_1 _ _ _ _ (itr_x huq9 (sor hf)) h (lv_sub hl [0, 1, 2] rfl)
      · have hf := ifn hf c16
        refine lv_aload_n hx hb dX6_writes_42 rfl (lv_at hl 1 rfl) ?_
        refine lv_iload_n hx hb dX6_writes_43 rfl (lv_at hl 2 rfl) ?_
        refine lv_iconst (v := 4) hx hb dX6_writes_44 (by decide) ?_
        refine lv_iadd hx hb dX6_writes_45 ?_
        refine lv_iload_n hx hb dX6_writes_46 rfl (lv_at hl 3 rfl) ?_
        refine lv_iadd hx hb dX6_writes_47 ?_
        refine lv_aload_n hx hb dX6_writes_48 rfl (lv_at hl 0 rfl) ?_
        refine r_get F h (i := 0) (k := 7) (.ref (a0 8)) inX6 rfl (by decide) w14 rfl rfl rfl dX6_writes_49 ?_
        refine lv_iload_n hx hb dX6_writes_52 rfl (lv_at hl 3 rfl) ?_
        obtain ⟨g17, hf⟩ := gdb hf
        refine r_iald F h (i := 0) (j := 3) rfl rfl (vin_ok g17) dX6_writes_53 ?_
        obtain ⟨g18, hf⟩ := gdb hf
        refine r_iast (o1 := sA z9.2 12 ((x1 + 4) + z9.1).toNatClampNeg (z9.2.2 7 z9.1.toNatClampNeg)) (w := fun t19 => wX6 K a0 t19) (S' := fun t19 => [wX6 K a0 t19]) F h (i := 0) (j := 5) rfl rfl (vin_ok g18) rfl (fun _ => rfl) dX6_writes_54 (fun t19 e19 H locs h => ?_)
        have hf := ltb hf e19
        obtain ⟨y20, e20⟩ : ∃ y : Int32, y = z9.1 + 1 := ⟨_, rfl⟩
        have hf := ltb hf e20
        refine lv_iinc (v := y20) (lv' := [(3, .int y20), (0, .ref (a0 0)), (1, .ref (a0 13)), (2, .int x1)]) hx hb dX6_writes_55 hl (k := 3) rfl (by rw [e20]; rfl) (by decide) rfl (fun ls hl => ?_)
        refine lv_goto (tgt := 36) hx hb dX6_writes_58 (by decide) ?_
        exact ihq9 _ _ _ _ (itr_c huq9 (sor hf)) h (lv_sub hl [1, 2, 3, 0] rfl)
  exact Lq9 _ _ _ _ _ hq9 h (lv_sub hl [1, 2, 3, 0] rfl)
def f6_writes_before_L63 (g0 : Int32) (z10 : Int32 × ob) : Option (Nat × (Int32 × ob)) :=
  (if 70 ≤ z10.1 then (some (1, (z10.1, z10.2))) else (gd (vin z10.1 70) <| gd (vin ((g0 + 16) + z10.1) 90) <| lt (sA z10.2 28 ((g0 + 16) + z10.1).toNatClampNeg (z10.2.2 2 z10.1.toNatClampNeg)) fun t14 => lt (z10.1 + 1) fun y15 => some (0, (y15, t14))))
def f6_writes_before_L36 (g0 : Int32) (z9 : Int32 × ob) : Option (Nat × (Int32 × ob)) :=
  (if 12 ≤ z9.1 then (some (1, (z9.1, z9.2))) else (gd (vin z9.1 12) <| gd (vin ((g0 + 4) + z9.1) 90) <| lt (sA z9.2 28 ((g0 + 4) + z9.1).toNatClampNeg (z9.2.2 7 z9.1.toNatClampNeg)) fun t19 => lt (z9.1 + 1) fun y20 => some (0, (y20, t19))))
noncomputable def f6_writes_before (x1 : Int32) (o_this : ob) : Option (ob) :=
  gd (vin x1 90) <| lt (sA o_this 28 x1.toNatClampNeg (o_this.1 1)) fun t2 => gd (vin (x1 + 1) 90) <| lt (sA t2 28 (x1 + 1).toNatClampNeg (t2.1 5)) fun t4 => gd (vin (x1 + 2) 90) <| lt (sA t4 28 (x1 + 2).toNatClampNeg (t4.1 6)) fun t6 => gd (vin (x1 + 3) 90) <| lt (sA t6 28 (x1 + 3).toNatClampNeg (t6.1 8)) fun t8 => (wh (f6_writes_before_L36 x1) (0, t8)).bind fun q9 => (wh (f6_writes_before_L63 x1) (0, q9.2.2)).bind fun q10 => some q10.2.2
set_option maxRecDepth 100000 in
set_option maxHeartbeats 4000000 in
theorem c6_writes_before (l : Launch) (D : va_G) (K : Nat → ClassId) (a0 : Nat → Nat) (x1 : Int32) (o_this : ob) (r : ob) (hf : f6_writes_before x1 o_this = some r) : CTv l yX6_writes cX6_writes 4 0 0 D K [.ref (a0 0), .ref (a0 29), .int x1] [wX6 K a0 o_this] [wX6 K a0 r] := by
  unfold f6_writes_before at hf
  have hf := tob hf
  refine entV (by decide) (Nat.le_of_ble_eq_true rfl) (fun P e s m args below meth c A ls F h hl hin => ?_)
  have hx := F.1
  have hb := F.2.1
  have hl : lv_has ls 4 [(0, .ref (a0 0)), (1, .ref (a0 29)), (2, .int x1)] := hl
  refine lv_aload_n hx hb dX6_writes_0 rfl (lv_at hl 1 rfl) ?_
  refine lv_iload_n hx hb dX6_writes_1 rfl (lv_at hl 2 rfl) ?_
  refine lv_aload_n hx hb dX6_writes_2 rfl (lv_at hl 0 rfl) ?_
  refine r_get F h (i := 0) (k := 1) (.int (o_this.1 1)) inX6 rfl (by decide) w4 rfl rfl rfl dX6_writes_3 ?_
  obtain ⟨g1, hf⟩ := gdb hf
  refine r_iast (o1 := sA o_this 28 x1.toNatClampNeg (o_this.1 1)) (w := fun t2 => wX6 K a0 t2) (S' := fun t2 => [wX6 K a0 t2]) F h (i := 0) (j := 17) rfl rfl (vin_ok g1) rfl (fun _ => rfl) dX6_writes_6 (fun t2 e2 H locs h => ?_)
  have hf := ltb hf e2
  refine lv_aload_n hx hb dX6_writes_7 rfl (lv_at hl 1 rfl) ?_
  refine lv_iload_n hx hb dX6_writes_8 rfl (lv_at hl 2 rfl) ?_
  refine lv_iconst (v := 1) hx hb dX6_writes_9 (by decide) ?_
  refine lv_iadd hx hb dX6_writes_10 ?_
  refine lv_aload_n hx hb dX6_writes_11 rfl (lv_at hl 0 rfl) ?_
  refine r_get F h (i := 0) (k := 5) (.int (t2.1 5)) inX6 rfl (by decide) w15 rfl rfl rfl dX6_writes_12 ?_
  obtain ⟨g3, hf⟩ := gdb hf
  refine r_iast (o1 := sA t2 28 (x1 + 1).toNatClampNeg (t2.1 5)) (w := fun t4 => wX6 K a0 t4) (S' := fun t4 => [wX6 K a0 t4]) F h (i := 0) (j := 17) rfl rfl (vin_ok g3) rfl (fun _ => rfl) dX6_writes_15 (fun t4 e4 H locs h => ?_)
  have hf := ltb hf e4
  refine lv_aload_n hx hb dX6_writes_16 rfl (lv_at hl 1 rfl) ?_
  refine lv_iload_n hx hb dX6_writes_17 rfl (lv_at hl 2 rfl) ?_
  refine lv_iconst (v := 2) hx hb dX6_writes_18 (by decide) ?_
  refine lv_iadd hx hb dX6_writes_19 ?_
  refine lv_aload_n hx hb dX6_writes_20 rfl (lv_at hl 0 rfl) ?_
  refine r_get F h (i := 0) (k := 6) (.int (t4.1 6)) inX6 rfl (by decide) w13 rfl rfl rfl dX6_writes_21 ?_
  obtain ⟨g5, hf⟩ := gdb hf
  refine r_iast (o1 := sA t4 28 (x1 + 2).toNatClampNeg (t4.1 6)) (w := fun t6 => wX6 K a0 t6) (S' := fun t6 => [wX6 K a0 t6]) F h (i := 0) (j := 17) rfl rfl (vin_ok g5) rfl (fun _ => rfl) dX6_writes_24 (fun t6 e6 H locs h => ?_)
  have hf := ltb hf e6
  refine lv_aload_n hx hb dX6_writes_25 rfl (lv_at hl 1 rfl) ?_
  refine lv_iload_n hx hb dX6_writes_26 rfl (lv_at hl 2 rfl) ?_
  refine lv_iconst (v := 3) hx hb dX6_writes_27 (by decide) ?_
  refine lv_iadd hx hb dX6_writes_28 ?_
  refine lv_aload_n hx hb dX6_writes_29 rfl (lv_at hl 0 rfl) ?_
  refine r_get F h (i := 0) (k := 8) (.int (t6.1 8)) inX6 rfl (by decide) w29 rfl rfl rfl dX6_writes_30 ?_
  obtain ⟨g7, hf⟩ := gdb hf
  refine r_iast (o1 := sA t6 28 (x1 + 3).toNatClampNeg (t6.1 8)) (w := fun t8 => wX6 K a0 t8) (S' := fun t8 => [wX6 K a0 t8]) F h (i := 0) (j := 17) rfl rfl (vin_ok g7) rfl (fun _ => rfl) dX6_writes_33 (fun t8 e8 H locs h => ?_)
  have hf := ltb hf e8
  refine lv_iconst (v := 0) hx hb dX6_writes_34 (by decide) ?_
  refine lv_istore_n (lv' := [(3, .int 0), (0, .ref (a0 0)), (1, .ref (a0 29)), (2, .int x1)]) hx hb dX6_writes_35 rfl hl (by decide) rfl (fun ls hl => ?_)
  obtain ⟨q9, hq9, hf⟩ := asb hf
  obtain ⟨nq9, hq9⟩ := wh_out hq9
  have Xq9_1 : ∀ (z9 : Int32 × ob) (H : Heap) (locs : List Loc) (ls : Array Slot), q9 = (1, z9) → WD D A s.heap H locs [wX6 K a0 z9.2] → lv_has ls 4 [(0, .ref (a0 0)), (1, .ref (a0 29)), (2, .int x1)] → W P l e (rmS 0 0) s m args below meth c H locs 0 0 (MQ below (QvS D A [wX6 K a0 r]) args s 0 0 A) (F0 m 61 ls []) := by
    intro z9 H locs ls eq9 h hl
    obtain rfl : z9 = q9.2 := by rw [eq9]
    refine lv_iconst (v := 0) hx hb dX6_writes_61 (by decide) ?_
    refine lv_istore_n (lv' := [(3, .int 0), (0, .ref (a0 0)), (1, .ref (a0 29)), (2, .int x1)]) hx hb dX6_writes_62 rfl hl (by decide) rfl (fun ls hl => ?_)
    obtain ⟨q10, hq10, hf⟩ := asb hf
    obtain ⟨nq10, hq10⟩ := wh_out hq10
    have Xq10_1 : ∀ (z10 : Int32 × ob) (H : Heap) (locs : List Loc) (ls : Array Slot), q10 = (1, z10) → WD D A s.heap H locs [wX6 K a0 z10.2] → lv_has ls 4 [] → W P l e (rmS 0 0) s m args below meth c H locs 0 0 (MQ below (QvS D A [wX6 K a0 r]) args s 0 0 A) (F0 m 89 ls []) := by
      intro z10 H locs ls eq10 h hl
      obtain rfl : z10 = q10.2 := by rw [eq10]
      obtain rfl := sor hf
      exact r_retv F h dX6_writes_89
    have Lq10 : ∀ (n : Nat) (z10 : Int32 × ob) (H : Heap) (locs : List Loc) (ls : Array Slot), iter (f6_writes_before_L63 x1) n z10 = some q10 → WD D A s.heap H locs [wX6 K a0 z10.2] → lv_has ls 4 [(0, .ref (a0 0)), (1, .ref (a0 29)), (2, .int x1), (3, .int z10.1)] → W P l e (rmS 0 0) s m args below meth c H locs 0 0 (MQ below (QvS D A [wX6 K a0 r]) args s 0 0 A) (F0 m 63 ls []) := by
      intro n
      induction n with
      | zero => intro z10 H locs ls hi; exact (iter_0 hi).elim
      | succ n ihq10 =>
        intro z10 H locs ls hi h hl
        obtain ⟨uq10, hf, huq10⟩ := iter_s hi
        unfold f6_writes_before_L63 at hf
        have hf := tob hf
        refine lv_iload_n hx hb dX6_writes_63 rfl (lv_at hl 3 rfl) ?_
        refine lv_bipush (v := 70) hx hb dX6_writes_64 (by decide) ?_
        refine lv_icmp_ge (tgt := 89) hx hb dX6_writes_66 (by decide) (fun c11 => ?_) (fun c11 => ?_)
        · have hf := ifp hf c11
          exact Xq10_1 _ _ _ _ (itr_x huq10 (sor hf)) h (lv_sub hl [] rfl)
        · have hf := ifn hf c11
          refine lv_aload_n hx hb dX6_writes_69 rfl (lv_at hl 1 rfl) ?_
          refine lv_iload_n hx hb dX6_writes_70 rfl (lv_at hl 2 rfl) ?_
          refine lv_bipush (v := 16) hx hb dX6_writes_71 (by decide) ?_
          refine lv_iadd hx hb dX6_writes_73 ?_
          refine lv_iload_n hx hb dX6_writes_74 rfl (lv_at hl 3 rfl) ?_
          refine lv_iadd hx hb dX6_writes_75 ?_
          refine lv_aload_n hx hb dX6_writes_76 rfl (lv_at hl 0 rfl) ?_
          refine r_get F h (i := 0) (k := 2) (.ref (a0 3)) inX6 rfl (by decide) w6 rfl rfl rfl dX6_writes_77 ?_
          refine lv_iload_n hx hb dX6_writes_80 rfl (lv_at hl 3 rfl) ?_
          obtain ⟨g12, hf⟩ := gdb hf
          refine r_iald F h (i := 0) (j := 1) rfl rfl (vin_ok g12) dX6_writes_81 ?_
          obtain ⟨g13, hf⟩ := gdb hf
          refine r_iast (o1 := sA z10.2 28 ((x1 + 16) + z10.1).toNatClampNeg (z10.2.2 2 z10.1.toNatClampNeg)) (w := fun t14 => wX6 K a0 t14) (S' := fun t14 => [wX6 K a0 t14]) F h (i := 0) (j := 17) rfl rfl (vin_ok g13) rfl (fun _ => rfl) dX6_writes_82 (fun t14 e14 H locs h => ?_)
          have hf := ltb hf e14
          obtain ⟨y15, e15⟩ : ∃ y : Int32, y = z10.1 + 1 := ⟨_, rfl⟩
          have hf := ltb hf e15
          refine lv_iinc (v := y15) (lv' := [(3, .int y15), (0, .ref (a0 0)), (1, .ref (a0 29)), (2, .int x1)]) hx hb dX6_writes_83 hl (k := 3) rfl (by rw [e15]; rfl) (by decide) rfl (fun ls hl => ?_)
          refine lv_goto (tgt := 63) hx hb dX6_writes_86 (by decide) ?_
          exact ihq10 _ _ _ _ (itr_c huq10 (sor hf)) h (lv_sub hl [1, 2, 3, 0] rfl)
    exact Lq10 _ _ _ _ _ hq10 h (lv_sub hl [1, 2, 3, 0] rfl)
  have Lq9 : ∀ (n : Nat) (z9 : Int32 × ob) (H : Heap) (locs : List Loc) (ls : Array Slot), iter (f6_writes_before_L36 x1) n z9 = some q9 → WD D A s.heap H locs [wX6 K a0 z9.2] → lv_has ls 4 [(0, .ref (a0 0)), (1, .ref (a0 29)), (2, .int x1), (3, .int z9.1)] → W P l e (rmS 0 0) s m args below meth c H locs 0 0 (MQ below (QvS D A [wX6 K a0 r]) args s 0 0 A) (F0 m 36 ls []) := by
    intro n
    induction n with
    | zero => intro z9 H locs ls hi; exact (iter_0 hi).elim
    | succ n ihq9 =>
      intro z9 H locs ls hi h hl
      obtain ⟨uq9, hf, huq9⟩ := iter_s hi
      unfold f6_writes_before_L36 at hf
      have hf := tob hf
      refine lv_iload_n hx hb dX6_writes_36 rfl (lv_at hl 3 rfl) ?_
      refine lv_bipush (v := 12) hx hb dX6_writes_37 (by decide) ?_
      refine lv_icmp_ge (tgt := 61) hx hb dX6_writes_39 (by decide) (fun c16 => ?_) (fun c16 => ?_)
      · have hf := ifp hf c16
        exact Xq9_1 _ _ _ _ (itr_x huq9 (sor hf)) h (lv_sub hl [0, 1, 2] rfl)
      · have hf := ifn hf c16
        refine lv_aload_n hx hb dX6_writes_42 rfl (lv_at hl 1 rfl) ?_
        refine lv_iload_n hx hb dX6_writes_43 rfl (lv_at hl 2 rfl) ?_
        refine lv_iconst (v := 4) hx hb dX6_writes_44 (by decide) ?_
        refine lv_iadd hx hb dX6_writes_45 ?_
        refine lv_iload_n hx hb dX6_writes_46 rfl (lv_at hl 3 rfl) ?_
        refine lv_iadd hx hb dX6_writes_47 ?_
        refine lv_aload_n hx hb dX6_writes_48 rfl (lv_at hl 0 rfl) ?_
        refine r_get F h (i := 0) (k := 7) (.ref (a0 8)) inX6 rfl (by decide) w14 rfl rfl rfl dX6_writes_49 ?_
        refine lv_iload_n hx hb dX6_writes_52 rfl (lv_at hl 3 rfl) ?_
        obtain ⟨g17, hf⟩ := gdb hf
        refine r_iald F h (i := 0) (j := 3) rfl rfl (vin_ok g17) dX6_writes_53 ?_
        obtain ⟨g18, hf⟩ := gdb hf
        refine r_iast (o1 := sA z9.2 28 ((x1 + 4) + z9.1).toNatClampNeg (z9.2.2 7 z9.1.toNatClampNeg)) (w := fun t19 => wX6 K a0 t19) (S' := fun t19 => [wX6 K a0 t19]) F h (i := 0) (j := 17) rfl rfl (vin_ok g18) rfl (fun _ => rfl) dX6_writes_54 (fun t19 e19 H locs h => ?_)
        have hf := ltb hf e19
        obtain ⟨y20, e20⟩ : ∃ y : Int32, y = z9.1 + 1 := ⟨_, rfl⟩
        have hf := ltb hf e20
        refine lv_iinc (v := y20) (lv' := [(3, .int y20), (0, .ref (a0 0)), (1, .ref (a0 29)), (2, .int x1)]) hx hb dX6_writes_55 hl (k := 3) rfl (by rw [e20]; rfl) (by decide) rfl (fun ls hl => ?_)
        refine lv_goto (tgt := 36) hx hb dX6_writes_58 (by decide) ?_
        exact ihq9 _ _ _ _ (itr_c huq9 (sor hf)) h (lv_sub hl [1, 2, 3, 0] rfl)
  exact Lq9 _ _ _ _ _ hq9 h (lv_sub hl [1, 2, 3, 0] rfl)
def f6_readsBack_undone_L63 (g0 : Int32) (z10 : Int32 × ob) : Option (Nat × (Int32 × ob)) :=
  (if 70 ≤ z10.1 then (some (1, (z10.1, z10.2))) else (gd (vin ((g0 + 16) + z10.1) 720) <| gd (vin z10.1 70) <| lt (sA z10.2 2 z10.1.toNatClampNeg (z10.2.2 10 ((g0 + 16) + z10.1).toNatClampNeg)) fun t14 => lt (z10.1 + 1) fun y15 => some (0, (y15, t14))))
def f6_readsBack_undone_L36 (g0 : Int32) (z9 : Int32 × ob) : Option (Nat × (Int32 × ob)) :=
  (if 12 ≤ z9.1 then (some (1, (z9.1, z9.2))) else (gd (vin ((g0 + 4) + z9.1) 720) <| gd (vin z9.1 12) <| lt (sA z9.2 7 z9.1.toNatClampNeg (z9.2.2 10 ((g0 + 4) + z9.1).toNatClampNeg)) fun t19 => lt (z9.1 + 1) fun y20 => some (0, (y20, t19))))
noncomputable def f6_readsBack_undone (x1 : Int32) (o_this : ob) : Option (ob) :=
  gd (vin x1 720) <| lt (sI o_this 1 (o_this.2 10 x1.toNatClampNeg)) fun t2 => gd (vin (x1 + 1) 720) <| lt (sI t2 5 (t2.2 10 (x1 + 1).toNatClampNeg)) fun t4 => gd (vin (x1 + 2) 720) <| lt (sI t4 6 (t4.2 10 (x1 + 2).toNatClampNeg)) fun t6 => gd (vin (x1 + 3) 720) <| lt (sI t6 8 (t6.2 10 (x1 + 3).toNatClampNeg)) fun t8 => (wh (f6_readsBack_undone_L36 x1) (0, t8)).bind fun q9 => (wh (f6_readsBack_undone_L63 x1) (0, q9.2.2)).bind fun q10 => some q10.2.2
set_option maxRecDepth 100000 in
set_option maxHeartbeats 4000000 in
theorem c6_readsBack_undone (l : Launch) (D : va_G) (K : Nat → ClassId) (a0 : Nat → Nat) (x1 : Int32) (o_this : ob) (r : ob) (hf : f6_readsBack_undone x1 o_this = some r) : CTv l yX6_readsBack cX6_readsBack 4 0 0 D K [.ref (a0 0), .ref (a0 11), .int x1] [wX6 K a0 o_this] [wX6 K a0 r] := by
  unfold f6_readsBack_undone at hf
  have hf := tob hf
  refine entV (by decide) (Nat.le_of_ble_eq_true rfl) (fun P e s m args below meth c A ls F h hl hin => ?_)
  have hx := F.1
  have hb := F.2.1
  have hl : lv_has ls 4 [(0, .ref (a0 0)), (1, .ref (a0 11)), (2, .int x1)] := hl
  refine lv_aload_n hx hb dX6_readsBack_0 rfl (lv_at hl 0 rfl) ?_
  refine lv_aload_n hx hb dX6_readsBack_1 rfl (lv_at hl 1 rfl) ?_
  refine lv_iload_n hx hb dX6_readsBack_2 rfl (lv_at hl 2 rfl) ?_
  obtain ⟨g1, hf⟩ := gdb hf
  refine r_iald F h (i := 0) (j := 4) rfl rfl (vin_ok g1) dX6_readsBack_3 ?_
  refine r_put (o1 := sI o_this 1 (o_this.2 10 x1.toNatClampNeg)) (w := fun t2 => wX6 K a0 t2) (S' := fun t2 => [wX6 K a0 t2]) F h (i := 0) (k := 1) inX6 tyX6_ok nmX6 rfl (by decide) w4 rfl rfl rfl rfl rfl (Nat.le_of_ble_eq_true rfl) rfl (fun _ => rfl) dX6_readsBack_4 (fun t2 e2 H locs h => ?_)
  have hf := ltb hf e2
  refine lv_aload_n hx hb dX6_readsBack_7 rfl (lv_at hl 0 rfl) ?_
  refine lv_aload_n hx hb dX6_readsBack_8 rfl (lv_at hl 1 rfl) ?_
  refine lv_iload_n hx hb dX6_readsBack_9 rfl (lv_at hl 2 rfl) ?_
  refine lv_iconst (v := 1) hx hb dX6_readsBack_10 (by decide) ?_
  refine lv_iadd hx hb dX6_readsBack_11 ?_
  obtain ⟨g3, hf⟩ := gdb hf
  refine r_iald F h (i := 0) (j := 4) rfl rfl (vin_ok g3) dX6_readsBack_12 ?_
  refine r_put (o1 := sI t2 5 (t2.2 10 (x1 + 1).toNatClampNeg)) (w := fun t4 => wX6 K a0 t4) (S' := fun t4 => [wX6 K a0 t4]) F h (i := 0) (k := 5) inX6 tyX6_ok nmX6 rfl (by decide) w15 rfl rfl rfl rfl rfl (Nat.le_of_ble_eq_true rfl) rfl (fun _ => rfl) dX6_readsBack_13 (fun t4 e4 H locs h => ?_)
  have hf := ltb hf e4
  refine lv_aload_n hx hb dX6_readsBack_16 rfl (lv_at hl 0 rfl) ?_
  refine lv_aload_n hx hb dX6_readsBack_17 rfl (lv_at hl 1 rfl) ?_
  refine lv_iload_n hx hb dX6_readsBack_18 rfl (lv_at hl 2 rfl) ?_
  refine lv_iconst (v := 2) hx hb dX6_readsBack_19 (by decide) ?_
  refine lv_iadd hx hb dX6_readsBack_20 ?_
  obtain ⟨g5, hf⟩ := gdb hf
  refine r_iald F h (i := 0) (j := 4) rfl rfl (vin_ok g5) dX6_readsBack_21 ?_
  refine r_put (o1 := sI t4 6 (t4.2 10 (x1 + 2).toNatClampNeg)) (w := fun t6 => wX6 K a0 t6) (S' := fun t6 => [wX6 K a0 t6]) F h (i := 0) (k := 6) inX6 tyX6_ok nmX6 rfl (by decide) w13 rfl rfl rfl rfl rfl (Nat.le_of_ble_eq_true rfl) rfl (fun _ => rfl) dX6_readsBack_22 (fun t6 e6 H locs h => ?_)
  have hf := ltb hf e6
  refine lv_aload_n hx hb dX6_readsBack_25 rfl (lv_at hl 0 rfl) ?_
  refine lv_aload_n hx hb dX6_readsBack_26 rfl (lv_at hl 1 rfl) ?_
  refine lv_iload_n hx hb dX6_readsBack_27 rfl (lv_at hl 2 rfl) ?_
  refine lv_iconst (v := 3) hx hb dX6_readsBack_28 (by decide) ?_
  refine lv_iadd hx hb dX6_readsBack_29 ?_
  obtain ⟨g7, hf⟩ := gdb hf
  refine r_iald F h (i := 0) (j := 4) rfl rfl (vin_ok g7) dX6_readsBack_30 ?_
  refine r_put (o1 := sI t6 8 (t6.2 10 (x1 + 3).toNatClampNeg)) (w := fun t8 => wX6 K a0 t8) (S' := fun t8 => [wX6 K a0 t8]) F h (i := 0) (k := 8) inX6 tyX6_ok nmX6 rfl (by decide) w29 rfl rfl rfl rfl rfl (Nat.le_of_ble_eq_true rfl) rfl (fun _ => rfl) dX6_readsBack_31 (fun t8 e8 H locs h => ?_)
  have hf := ltb hf e8
  refine lv_iconst (v := 0) hx hb dX6_readsBack_34 (by decide) ?_
  refine lv_istore_n (lv' := [(3, .int 0), (0, .ref (a0 0)), (1, .ref (a0 11)), (2, .int x1)]) hx hb dX6_readsBack_35 rfl hl (by decide) rfl (fun ls hl => ?_)
  obtain ⟨q9, hq9, hf⟩ := asb hf
  obtain ⟨nq9, hq9⟩ := wh_out hq9
  have Xq9_1 : ∀ (z9 : Int32 × ob) (H : Heap) (locs : List Loc) (ls : Array Slot), q9 = (1, z9) → WD D A s.heap H locs [wX6 K a0 z9.2] → lv_has ls 4 [(0, .ref (a0 0)), (1, .ref (a0 11)), (2, .int x1)] → W P l e (rmS 0 0) s m args below meth c H locs 0 0 (MQ below (QvS D A [wX6 K a0 r]) args s 0 0 A) (F0 m 61 ls []) := by
    intro z9 H locs ls eq9 h hl
    obtain rfl : z9 = q9.2 := by rw [eq9]
    refine lv_iconst (v := 0) hx hb dX6_readsBack_61 (by decide) ?_
    refine lv_istore_n (lv' := [(3, .int 0), (0, .ref (a0 0)), (1, .ref (a0 11)), (2, .int x1)]) hx hb dX6_readsBack_62 rfl hl (by decide) rfl (fun ls hl => ?_)
    obtain ⟨q10, hq10, hf⟩ := asb hf
    obtain ⟨nq10, hq10⟩ := wh_out hq10
    have Xq10_1 : ∀ (z10 : Int32 × ob) (H : Heap) (locs : List Loc) (ls : Array Slot), q10 = (1, z10) → WD D A s.heap H locs [wX6 K a0 z10.2] → lv_has ls 4 [] → W P l e (rmS 0 0) s m args below meth c H locs 0 0 (MQ below (QvS D A [wX6 K a0 r]) args s 0 0 A) (F0 m 89 ls []) := by
      intro z10 H locs ls eq10 h hl
      obtain rfl : z10 = q10.2 := by rw [eq10]
      obtain rfl := sor hf
      exact r_retv F h dX6_readsBack_89
    have Lq10 : ∀ (n : Nat) (z10 : Int32 × ob) (H : Heap) (locs : List Loc) (ls : Array Slot), iter (f6_readsBack_undone_L63 x1) n z10 = some q10 → WD D A s.heap H locs [wX6 K a0 z10.2] → lv_has ls 4 [(0, .ref (a0 0)), (1, .ref (a0 11)), (2, .int x1), (3, .int z10.1)] → W P l e (rmS 0 0) s m args below meth c H locs 0 0 (MQ below (QvS D A [wX6 K a0 r]) args s 0 0 A) (F0 m 63 ls []) := by
      intro n
      induction n with
      | zero => intro z10 H locs ls hi; exact (iter_0 hi).elim
      | succ n ihq10 =>
        intro z10 H locs ls hi h hl
        obtain ⟨uq10, hf, huq10⟩ := iter_s hi
        unfold f6_readsBack_undone_L63 at hf
        have hf := tob hf
        refine lv_iload_n hx hb dX6_readsBack_63 rfl (lv_at hl 3 rfl) ?_
        refine lv_bipush (v := 70) hx hb dX6_readsBack_64 (by decide) ?_
        refine lv_icmp_ge (tgt := 89) hx hb dX6_readsBack_66 (by decide) (fun c11 => ?_) (fun c11 => ?_)
        · have hf := ifp hf c11
          exact Xq10_1 _ _ _ _ (itr_x huq10 (sor hf)) h (lv_sub hl [] rfl)
        · have hf := ifn hf c11
          refine lv_aload_n hx hb dX6_readsBack_69 rfl (lv_at hl 0 rfl) ?_
          refine r_get F h (i := 0) (k := 2) (.ref (a0 3)) inX6 rfl (by decide) w6 rfl rfl rfl dX6_readsBack_70 ?_
          refine lv_iload_n hx hb dX6_readsBack_73 rfl (lv_at hl 3 rfl) ?_
          refine lv_aload_n hx hb dX6_readsBack_74 rfl (lv_at hl 1 rfl) ?_
          refine lv_iload_n hx hb dX6_readsBack_75 rfl (lv_at hl 2 rfl) ?_
          refine lv_bipush (v := 16) hx hb dX6_readsBack_76 (by decide) ?_
          refine lv_iadd hx hb dX6_readsBack_78 ?_
          refine lv_iload_n hx hb dX6_readsBack_79 rfl (lv_at hl 3 rfl) ?_
          refine lv_iadd hx hb dX6_readsBack_80 ?_
          obtain ⟨g12, hf⟩ := gdb hf
          refine r_iald F h (i := 0) (j := 4) rfl rfl (vin_ok g12) dX6_readsBack_81 ?_
          obtain ⟨g13, hf⟩ := gdb hf
          refine r_iast (o1 := sA z10.2 2 z10.1.toNatClampNeg (z10.2.2 10 ((x1 + 16) + z10.1).toNatClampNeg)) (w := fun t14 => wX6 K a0 t14) (S' := fun t14 => [wX6 K a0 t14]) F h (i := 0) (j := 1) rfl rfl (vin_ok g13) rfl (fun _ => rfl) dX6_readsBack_82 (fun t14 e14 H locs h => ?_)
          have hf := ltb hf e14
          obtain ⟨y15, e15⟩ : ∃ y : Int32, y = z10.1 + 1 := ⟨_, rfl⟩
          have hf := ltb hf e15
          refine lv_iinc (v := y15) (lv' := [(3, .int y15), (0, .ref (a0 0)), (1, .ref (a0 11)), (2, .int x1)]) hx hb dX6_readsBack_83 hl (k := 3) rfl (by rw [e15]; rfl) (by decide) rfl (fun ls hl => ?_)
          refine lv_goto (tgt := 63) hx hb dX6_readsBack_86 (by decide) ?_
          exact ihq10 _ _ _ _ (itr_c huq10 (sor hf)) h (lv_sub hl [1, 2, 3, 0] rfl)
    exact Lq10 _ _ _ _ _ hq10 h (lv_sub hl [1, 2, 3, 0] rfl)
  have Lq9 : ∀ (n : Nat) (z9 : Int32 × ob) (H : Heap) (locs : List Loc) (ls : Array Slot), iter (f6_readsBack_undone_L36 x1) n z9 = some q9 → WD D A s.heap H locs [wX6 K a0 z9.2] → lv_has ls 4 [(0, .ref (a0 0)), (1, .ref (a0 11)), (2, .int x1), (3, .int z9.1)] → W P l e (rmS 0 0) s m args below meth c H locs 0 0 (MQ below (QvS D A [wX6 K a0 r]) args s 0 0 A) (F0 m 36 ls []) := by
    intro n
    induction n with
    | zero => intro z9 H locs ls hi; exact (iter_0 hi).elim
    | succ n ihq9 =>
      intro z9 H locs ls hi h hl
      obtain ⟨uq9, hf, huq9⟩ := iter_s hi
      unfold f6_readsBack_undone_L36 at hf
      have hf := tob hf
      refine lv_iload_n hx hb dX6_readsBack_36 rfl (lv_at hl 3 rfl) ?_
      refine lv_bipush (v := 12) hx hb dX6_readsBack_37 (by decide) ?_
      refine lv_icmp_ge (tgt := 61) hx hb dX6_readsBack_39 (by decide) (fun c16 => ?_) (fun c16 => ?_)
      · have hf := ifp hf c16
        exact Xq9_1 _ _ _ _ (itr_x huq9 (sor hf)) h (lv_sub hl [0, 1, 2] rfl)
      · have hf := ifn hf c16
        refine lv_aload_n hx hb dX6_readsBack_42 rfl (lv_at hl 0 rfl) ?_
        refine r_get F h (i := 0) (k := 7) (.ref (a0 8)) inX6 rfl (by decide) w14 rfl rfl rfl dX6_readsBack_43 ?_
        refine lv_iload_n hx hb dX6_readsBack_46 rfl (lv_at hl 3 rfl) ?_
        refine lv_aload_n hx hb dX6_readsBack_47 rfl (lv_at hl 1 rfl) ?_
        refine lv_iload_n hx hb dX6_readsBack_48 rfl (lv_at hl 2 rfl) ?_
        refine lv_iconst (v := 4) hx hb dX6_readsBack_49 (by decide) ?_
        refine lv_iadd hx hb dX6_readsBack_50 ?_
        refine lv_iload_n hx hb dX6_readsBack_51 rfl (lv_at hl 3 rfl) ?_
        refine lv_iadd hx hb dX6_readsBack_52 ?_
        obtain ⟨g17, hf⟩ := gdb hf
        refine r_iald F h (i := 0) (j := 4) rfl rfl (vin_ok g17) dX6_readsBack_53 ?_
        obtain ⟨g18, hf⟩ := gdb hf
        refine r_iast (o1 := sA z9.2 7 z9.1.toNatClampNeg (z9.2.2 10 ((x1 + 4) + z9.1).toNatClampNeg)) (w := fun t19 => wX6 K a0 t19) (S' := fun t19 => [wX6 K a0 t19]) F h (i := 0) (j := 3) rfl rfl (vin_ok g18) rfl (fun _ => rfl) dX6_readsBack_54 (fun t19 e19 H locs h => ?_)
        have hf := ltb hf e19
        obtain ⟨y20, e20⟩ : ∃ y : Int32, y = z9.1 + 1 := ⟨_, rfl⟩
        have hf := ltb hf e20
        refine lv_iinc (v := y20) (lv' := [(3, .int y20), (0, .ref (a0 0)), (1, .ref (a0 11)), (2, .int x1)]) hx hb dX6_readsBack_55 hl (k := 3) rfl (by rw [e20]; rfl) (by decide) rfl (fun ls hl => ?_)
        refine lv_goto (tgt := 36) hx hb dX6_readsBack_58 (by decide) ?_
        exact ihq9 _ _ _ _ (itr_c huq9 (sor hf)) h (lv_sub hl [1, 2, 3, 0] rfl)
  exact Lq9 _ _ _ _ _ hq9 h (lv_sub hl [1, 2, 3, 0] rfl)
def f6_readsBack_kept_L63 (g0 : Int32) (z10 : Int32 × ob) : Option (Nat × (Int32 × ob)) :=
  (if 70 ≤ z10.1 then (some (1, (z10.1, z10.2))) else (gd (vin ((g0 + 16) + z10.1) 180) <| gd (vin z10.1 70) <| lt (sA z10.2 2 z10.1.toNatClampNeg (z10.2.2 12 ((g0 + 16) + z10.1).toNatClampNeg)) fun t14 => lt (z10.1 + 1) fun y15 => some (0, (y15, t14))))
def f6_readsBack_kept_L36 (g0 : Int32) (z9 : Int32 × ob) : Option (Nat × (Int32 × ob)) :=
  (if 12 ≤ z9.1 then (some (1, (z9.1, z9.2))) else (gd (vin ((g0 + 4) + z9.1) 180) <| gd (vin z9.1 12) <| lt (sA z9.2 7 z9.1.toNatClampNeg (z9.2.2 12 ((g0 + 4) + z9.1).toNatClampNeg)) fun t19 => lt (z9.1 + 1) fun y20 => some (0, (y20, t19))))
noncomputable def f6_readsBack_kept (x1 : Int32) (o_this : ob) : Option (ob) :=
  gd (vin x1 180) <| lt (sI o_this 1 (o_this.2 12 x1.toNatClampNeg)) fun t2 => gd (vin (x1 + 1) 180) <| lt (sI t2 5 (t2.2 12 (x1 + 1).toNatClampNeg)) fun t4 => gd (vin (x1 + 2) 180) <| lt (sI t4 6 (t4.2 12 (x1 + 2).toNatClampNeg)) fun t6 => gd (vin (x1 + 3) 180) <| lt (sI t6 8 (t6.2 12 (x1 + 3).toNatClampNeg)) fun t8 => (wh (f6_readsBack_kept_L36 x1) (0, t8)).bind fun q9 => (wh (f6_readsBack_kept_L63 x1) (0, q9.2.2)).bind fun q10 => some q10.2.2
set_option maxRecDepth 100000 in
set_option maxHeartbeats 4000000 in
theorem c6_readsBack_kept (l : Launch) (D : va_G) (K : Nat → ClassId) (a0 : Nat → Nat) (x1 : Int32) (o_this : ob) (r : ob) (hf : f6_readsBack_kept x1 o_this = some r) : CTv l yX6_readsBack cX6_readsBack 4 0 0 D K [.ref (a0 0), .ref (a0 13), .int x1] [wX6 K a0 o_this] [wX6 K a0 r] := by
  unfold f6_readsBack_kept at hf
  have hf := tob hf
  refine entV (by decide) (Nat.le_of_ble_eq_true rfl) (fun P e s m args below meth c A ls F h hl hin => ?_)
  have hx := F.1
  have hb := F.2.1
  have hl : lv_has ls 4 [(0, .ref (a0 0)), (1, .ref (a0 13)), (2, .int x1)] := hl
  refine lv_aload_n hx hb dX6_readsBack_0 rfl (lv_at hl 0 rfl) ?_
  refine lv_aload_n hx hb dX6_readsBack_1 rfl (lv_at hl 1 rfl) ?_
  refine lv_iload_n hx hb dX6_readsBack_2 rfl (lv_at hl 2 rfl) ?_
  obtain ⟨g1, hf⟩ := gdb hf
  refine r_iald F h (i := 0) (j := 5) rfl rfl (vin_ok g1) dX6_readsBack_3 ?_
  refine r_put (o1 := sI o_this 1 (o_this.2 12 x1.toNatClampNeg)) (w := fun t2 => wX6 K a0 t2) (S' := fun t2 => [wX6 K a0 t2]) F h (i := 0) (k := 1) inX6 tyX6_ok nmX6 rfl (by decide) w4 rfl rfl rfl rfl rfl (Nat.le_of_ble_eq_true rfl) rfl (fun _ => rfl) dX6_readsBack_4 (fun t2 e2 H locs h => ?_)
  have hf := ltb hf e2
  refine lv_aload_n hx hb dX6_readsBack_7 rfl (lv_at hl 0 rfl) ?_
  refine lv_aload_n hx hb dX6_readsBack_8 rfl (lv_at hl 1 rfl) ?_
  refine lv_iload_n hx hb dX6_readsBack_9 rfl (lv_at hl 2 rfl) ?_
  refine lv_iconst (v := 1) hx hb dX6_readsBack_10 (by decide) ?_
  refine lv_iadd hx hb dX6_readsBack_11 ?_
  obtain ⟨g3, hf⟩ := gdb hf
  refine r_iald F h (i := 0) (j := 5) rfl rfl (vin_ok g3) dX6_readsBack_12 ?_
  refine r_put (o1 := sI t2 5 (t2.2 12 (x1 + 1).toNatClampNeg)) (w := fun t4 => wX6 K a0 t4) (S' := fun t4 => [wX6 K a0 t4]) F h (i := 0) (k := 5) inX6 tyX6_ok nmX6 rfl (by decide) w15 rfl rfl rfl rfl rfl (Nat.le_of_ble_eq_true rfl) rfl (fun _ => rfl) dX6_readsBack_13 (fun t4 e4 H locs h => ?_)
  have hf := ltb hf e4
  refine lv_aload_n hx hb dX6_readsBack_16 rfl (lv_at hl 0 rfl) ?_
  refine lv_aload_n hx hb dX6_readsBack_17 rfl (lv_at hl 1 rfl) ?_
  refine lv_iload_n hx hb dX6_readsBack_18 rfl (lv_at hl 2 rfl) ?_
  refine lv_iconst (v := 2) hx hb dX6_readsBack_19 (by decide) ?_
  refine lv_iadd hx hb dX6_readsBack_20 ?_
  obtain ⟨g5, hf⟩ := gdb hf
  refine r_iald F h (i := 0) (j := 5) rfl rfl (vin_ok g5) dX6_readsBack_21 ?_
  refine r_put (o1 := sI t4 6 (t4.2 12 (x1 + 2).toNatClampNeg)) (w := fun t6 => wX6 K a0 t6) (S' := fun t6 => [wX6 K a0 t6]) F h (i := 0) (k := 6) inX6 tyX6_ok nmX6 rfl (by decide) w13 rfl rfl rfl rfl rfl (Nat.le_of_ble_eq_true rfl) rfl (fun _ => rfl) dX6_readsBack_22 (fun t6 e6 H locs h => ?_)
  have hf := ltb hf e6
  refine lv_aload_n hx hb dX6_readsBack_25 rfl (lv_at hl 0 rfl) ?_
  refine lv_aload_n hx hb dX6_readsBack_26 rfl (lv_at hl 1 rfl) ?_
  refine lv_iload_n hx hb dX6_readsBack_27 rfl (lv_at hl 2 rfl) ?_
  refine lv_iconst (v := 3) hx hb dX6_readsBack_28 (by decide) ?_
  refine lv_iadd hx hb dX6_readsBack_29 ?_
  obtain ⟨g7, hf⟩ := gdb hf
  refine r_iald F h (i := 0) (j := 5) rfl rfl (vin_ok g7) dX6_readsBack_30 ?_
  refine r_put (o1 := sI t6 8 (t6.2 12 (x1 + 3).toNatClampNeg)) (w := fun t8 => wX6 K a0 t8) (S' := fun t8 => [wX6 K a0 t8]) F h (i := 0) (k := 8) inX6 tyX6_ok nmX6 rfl (by decide) w29 rfl rfl rfl rfl rfl (Nat.le_of_ble_eq_true rfl) rfl (fun _ => rfl) dX6_readsBack_31 (fun t8 e8 H locs h => ?_)
  have hf := ltb hf e8
  refine lv_iconst (v := 0) hx hb dX6_readsBack_34 (by decide) ?_
  refine lv_istore_n (lv' := [(3, .int 0), (0, .ref (a0 0)), (1, .ref (a0 13)), (2, .int x1)]) hx hb dX6_readsBack_35 rfl hl (by decide) rfl (fun ls hl => ?_)
  obtain ⟨q9, hq9, hf⟩ := asb hf
  obtain ⟨nq9, hq9⟩ := wh_out hq9
  have Xq9_1 : ∀ (z9 : Int32 × ob) (H : Heap) (locs : List Loc) (ls : Array Slot), q9 = (1, z9) → WD D A s.heap H locs [wX6 K a0 z9.2] → lv_has ls 4 [(0, .ref (a0 0)), (1, .ref (a0 13)), (2, .int x1)] → W P l e (rmS 0 0) s m args below meth c H locs 0 0 (MQ below (QvS D A [wX6 K a0 r]) args s 0 0 A) (F0 m 61 ls []) := by
    intro z9 H locs ls eq9 h hl
    obtain rfl : z9 = q9.2 := by rw [eq9]
    refine lv_iconst (v := 0) hx hb dX6_readsBack_61 (by decide) ?_
    refine lv_istore_n (lv' := [(3, .int 0), (0, .ref (a0 0)), (1, .ref (a0 13)), (2, .int x1)]) hx hb dX6_readsBack_62 rfl hl (by decide) rfl (fun ls hl => ?_)
    obtain ⟨q10, hq10, hf⟩ := asb hf
    obtain ⟨nq10, hq10⟩ := wh_out hq10
    have Xq10_1 : ∀ (z10 : Int32 × ob) (H : Heap) (locs : List Loc) (ls : Array Slot), q10 = (1, z10) → WD D A s.heap H locs [wX6 K a0 z10.2] → lv_has ls 4 [] → W P l e (rmS 0 0) s m args below meth c H locs 0 0 (MQ below (QvS D A [wX6 K a0 r]) args s 0 0 A) (F0 m 89 ls []) := by
      intro z10 H locs ls eq10 h hl
      obtain rfl : z10 = q10.2 := by rw [eq10]
      obtain rfl := sor hf
      exact r_retv F h dX6_readsBack_89
    have Lq10 : ∀ (n : Nat) (z10 : Int32 × ob) (H : Heap) (locs : List Loc) (ls : Array Slot), iter (f6_readsBack_kept_L63 x1) n z10 = some q10 → WD D A s.heap H locs [wX6 K a0 z10.2] → lv_has ls 4 [(0, .ref (a0 0)), (1, .ref (a0 13)), (2, .int x1), (3, .int z10.1)] → W P l e (rmS 0 0) s m args below meth c H locs 0 0 (MQ below (QvS D A [wX6 K a0 r]) args s 0 0 A) (F0 m 63 ls []) := by
      intro n
      induction n with
      | zero => intro z10 H locs ls hi; exact (iter_0 hi).elim
      | succ n ihq10 =>
        intro z10 H locs ls hi h hl
        obtain ⟨uq10, hf, huq10⟩ := iter_s hi
        unfold f6_readsBack_kept_L63 at hf
        have hf := tob hf
        refine lv_iload_n hx hb dX6_readsBack_63 rfl (lv_at hl 3 rfl) ?_
        refine lv_bipush (v := 70) hx hb dX6_readsBack_64 (by decide) ?_
        refine lv_icmp_ge (tgt := 89) hx hb dX6_readsBack_66 (by decide) (fun c11 => ?_) (fun c11 => ?_)
        · have hf := ifp hf c11
          exact Xq10_1 _ _ _ _ (itr_x huq10 (sor hf)) h (lv_sub hl [] rfl)
        · have hf := ifn hf c11
          refine lv_aload_n hx hb dX6_readsBack_69 rfl (lv_at hl 0 rfl) ?_
          refine r_get F h (i := 0) (k := 2) (.ref (a0 3)) inX6 rfl (by decide) w6 rfl rfl rfl dX6_readsBack_70 ?_
          refine lv_iload_n hx hb dX6_readsBack_73 rfl (lv_at hl 3 rfl) ?_
          refine lv_aload_n hx hb dX6_readsBack_74 rfl (lv_at hl 1 rfl) ?_
          refine lv_iload_n hx hb dX6_readsBack_75 rfl (lv_at hl 2 rfl) ?_
          refine lv_bipush (v := 16) hx hb dX6_readsBack_76 (by decide) ?_
          refine lv_iadd hx hb dX6_readsBack_78 ?_
          refine lv_iload_n hx hb dX6_readsBack_79 rfl (lv_at hl 3 rfl) ?_
          refine lv_iadd hx hb dX6_readsBack_80 ?_
          obtain ⟨g12, hf⟩ := gdb hf
          refine r_iald F h (i := 0) (j := 5) rfl rfl (vin_ok g12) dX6_readsBack_81 ?_
          obtain ⟨g13, hf⟩ := gdb hf
          refine r_iast (o1 := sA z10.2 2 z10.1.toNatClampNeg (z10.2.2 12 ((x1 + 16) + z10.1).toNatClampNeg)) (w := fun t14 => wX6 K a0 t14) (S' := fun t14 => [wX6 K a0 t14]) F h (i := 0) (j := 1) rfl rfl (vin_ok g13) rfl (fun _ => rfl) dX6_readsBack_82 (fun t14 e14 H locs h => ?_)
          have hf := ltb hf e14
          obtain ⟨y15, e15⟩ : ∃ y : Int32, y = z10.1 + 1 := ⟨_, rfl⟩
          have hf := ltb hf e15
          refine lv_iinc (v := y15) (lv' := [(3, .int y15), (0, .ref (a0 0)), (1, .ref (a0 13)), (2, .int x1)]) hx hb dX6_readsBack_83 hl (k := 3) rfl (by rw [e15]; rfl) (by decide) rfl (fun ls hl => ?_)
          refine lv_goto (tgt := 63) hx hb dX6_readsBack_86 (by decide) ?_
          exact ihq10 _ _ _ _ (itr_c huq10 (sor hf)) h (lv_sub hl [1, 2, 3, 0] rfl)
    exact Lq10 _ _ _ _ _ hq10 h (lv_sub hl [1, 2, 3, 0] rfl)
  have Lq9 : ∀ (n : Nat) (z9 : Int32 × ob) (H : Heap) (locs : List Loc) (ls : Array Slot), iter (f6_readsBack_kept_L36 x1) n z9 = some q9 → WD D A s.heap H locs [wX6 K a0 z9.2] → lv_has ls 4 [(0, .ref (a0 0)), (1, .ref (a0 13)), (2, .int x1), (3, .int z9.1)] → W P l e (rmS 0 0) s m args below meth c H locs 0 0 (MQ below (QvS D A [wX6 K a0 r]) args s 0 0 A) (F0 m 36 ls []) := by
    intro n
    induction n with
    | zero => intro z9 H locs ls hi; exact (iter_0 hi).elim
    | succ n ihq9 =>
      intro z9 H locs ls hi h hl
      obtain ⟨uq9, hf, huq9⟩ := iter_s hi
      unfold f6_readsBack_kept_L36 at hf
      have hf := tob hf
      refine lv_iload_n hx hb dX6_readsBack_36 rfl (lv_at hl 3 rfl) ?_
      refine lv_bipush (v := 12) hx hb dX6_readsBack_37 (by decide) ?_
      refine lv_icmp_ge (tgt := 61) hx hb dX6_readsBack_39 (by decide) (fun c16 => ?_) (fun c16 => ?_)
      · have hf := ifp hf c16
        exact Xq9_1 _ _ _ _ (itr_x huq9 (sor hf)) h (lv_sub hl [0, 1, 2] rfl)
      · have hf := ifn hf c16
        refine lv_aload_n hx hb dX6_readsBack_42 rfl (lv_at hl 0 rfl) ?_
        refine r_get F h (i := 0) (k := 7) (.ref (a0 8)) inX6 rfl (by decide) w14 rfl rfl rfl dX6_readsBack_43 ?_
        refine lv_iload_n hx hb dX6_readsBack_46 rfl (lv_at hl 3 rfl) ?_
        refine lv_aload_n hx hb dX6_readsBack_47 rfl (lv_at hl 1 rfl) ?_
        refine lv_iload_n hx hb dX6_readsBack_48 rfl (lv_at hl 2 rfl) ?_
        refine lv_iconst (v := 4) hx hb dX6_readsBack_49 (by decide) ?_
        refine lv_iadd hx hb dX6_readsBack_50 ?_
        refine lv_iload_n hx hb dX6_readsBack_51 rfl (lv_at hl 3 rfl) ?_
        refine lv_iadd hx hb dX6_readsBack_52 ?_
        obtain ⟨g17, hf⟩ := gdb hf
        refine r_iald F h (i := 0) (j := 5) rfl rfl (vin_ok g17) dX6_readsBack_53 ?_
        obtain ⟨g18, hf⟩ := gdb hf
        refine r_iast (o1 := sA z9.2 7 z9.1.toNatClampNeg (z9.2.2 12 ((x1 + 4) + z9.1).toNatClampNeg)) (w := fun t19 => wX6 K a0 t19) (S' := fun t19 => [wX6 K a0 t19]) F h (i := 0) (j := 3) rfl rfl (vin_ok g18) rfl (fun _ => rfl) dX6_readsBack_54 (fun t19 e19 H locs h => ?_)
        have hf := ltb hf e19
        obtain ⟨y20, e20⟩ : ∃ y : Int32, y = z9.1 + 1 := ⟨_, rfl⟩
        have hf := ltb hf e20
        refine lv_iinc (v := y20) (lv' := [(3, .int y20), (0, .ref (a0 0)), (1, .ref (a0 13)), (2, .int x1)]) hx hb dX6_readsBack_55 hl (k := 3) rfl (by rw [e20]; rfl) (by decide) rfl (fun ls hl => ?_)
        refine lv_goto (tgt := 36) hx hb dX6_readsBack_58 (by decide) ?_
        exact ihq9 _ _ _ _ (itr_c huq9 (sor hf)) h (lv_sub hl [1, 2, 3, 0] rfl)
  exact Lq9 _ _ _ _ _ hq9 h (lv_sub hl [1, 2, 3, 0] rfl)
def f6_readsBack_before_L63 (g0 : Int32) (z10 : Int32 × ob) : Option (Nat × (Int32 × ob)) :=
  (if 70 ≤ z10.1 then (some (1, (z10.1, z10.2))) else (gd (vin ((g0 + 16) + z10.1) 90) <| gd (vin z10.1 70) <| lt (sA z10.2 2 z10.1.toNatClampNeg (z10.2.2 28 ((g0 + 16) + z10.1).toNatClampNeg)) fun t14 => lt (z10.1 + 1) fun y15 => some (0, (y15, t14))))
def f6_readsBack_before_L36 (g0 : Int32) (z9 : Int32 × ob) : Option (Nat × (Int32 × ob)) :=
  (if 12 ≤ z9.1 then (some (1, (z9.1, z9.2))) else (gd (vin ((g0 + 4) + z9.1) 90) <| gd (vin z9.1 12) <| lt (sA z9.2 7 z9.1.toNatClampNeg (z9.2.2 28 ((g0 + 4) + z9.1).toNatClampNeg)) fun t19 => lt (z9.1 + 1) fun y20 => some (0, (y20, t19))))
noncomputable def f6_readsBack_before (x1 : Int32) (o_this : ob) : Option (ob) :=
  gd (vin x1 90) <| lt (sI o_this 1 (o_this.2 28 x1.toNatClampNeg)) fun t2 => gd (vin (x1 + 1) 90) <| lt (sI t2 5 (t2.2 28 (x1 + 1).toNatClampNeg)) fun t4 => gd (vin (x1 + 2) 90) <| lt (sI t4 6 (t4.2 28 (x1 + 2).toNatClampNeg)) fun t6 => gd (vin (x1 + 3) 90) <| lt (sI t6 8 (t6.2 28 (x1 + 3).toNatClampNeg)) fun t8 => (wh (f6_readsBack_before_L36 x1) (0, t8)).bind fun q9 => (wh (f6_readsBack_before_L63 x1) (0, q9.2.2)).bind fun q10 => some q10.2.2
set_option maxRecDepth 100000 in
set_option maxHeartbeats 4000000 in
theorem c6_readsBack_before (l : Launch) (D : va_G) (K : Nat → ClassId) (a0 : Nat → Nat) (x1 : Int32) (o_this : ob) (r : ob) (hf : f6_readsBack_before x1 o_this = some r) : CTv l yX6_readsBack cX6_readsBack 4 0 0 D K [.ref (a0 0), .ref (a0 29), .int x1] [wX6 K a0 o_this] [wX6 K a0 r] := by
  unfold f6_readsBack_before at hf
  have hf := tob hf
  refine entV (by decide) (Nat.le_of_ble_eq_true rfl) (fun P e s m args below meth c A ls F h hl hin => ?_)
  have hx := F.1
  have hb := F.2.1
  have hl : lv_has ls 4 [(0, .ref (a0 0)), (1, .ref (a0 29)), (2, .int x1)] := hl
  refine lv_aload_n hx hb dX6_readsBack_0 rfl (lv_at hl 0 rfl) ?_
  refine lv_aload_n hx hb dX6_readsBack_1 rfl (lv_at hl 1 rfl) ?_
  refine lv_iload_n hx hb dX6_readsBack_2 rfl (lv_at hl 2 rfl) ?_
  obtain ⟨g1, hf⟩ := gdb hf
  refine r_iald F h (i := 0) (j := 17) rfl rfl (vin_ok g1) dX6_readsBack_3 ?_
  refine r_put (o1 := sI o_this 1 (o_this.2 28 x1.toNatClampNeg)) (w := fun t2 => wX6 K a0 t2) (S' := fun t2 => [wX6 K a0 t2]) F h (i := 0) (k := 1) inX6 tyX6_ok nmX6 rfl (by decide) w4 rfl rfl rfl rfl rfl (Nat.le_of_ble_eq_true rfl) rfl (fun _ => rfl) dX6_readsBack_4 (fun t2 e2 H locs h => ?_)
  have hf := ltb hf e2
  refine lv_aload_n hx hb dX6_readsBack_7 rfl (lv_at hl 0 rfl) ?_
  refine lv_aload_n hx hb dX6_readsBack_8 rfl (lv_at hl 1 rfl) ?_
  refine lv_iload_n hx hb dX6_readsBack_9 rfl (lv_at hl 2 rfl) ?_
  refine lv_iconst (v := 1) hx hb dX6_readsBack_10 (by decide) ?_
  refine lv_iadd hx hb dX6_readsBack_11 ?_
  obtain ⟨g3, hf⟩ := gdb hf
  refine r_iald F h (i := 0) (j := 17) rfl rfl (vin_ok g3) dX6_readsBack_12 ?_
  refine r_put (o1 := sI t2 5 (t2.2 28 (x1 + 1).toNatClampNeg)) (w := fun t4 => wX6 K a0 t4) (S' := fun t4 => [wX6 K a0 t4]) F h (i := 0) (k := 5) inX6 tyX6_ok nmX6 rfl (by decide) w15 rfl rfl rfl rfl rfl (Nat.le_of_ble_eq_true rfl) rfl (fun _ => rfl) dX6_readsBack_13 (fun t4 e4 H locs h => ?_)
  have hf := ltb hf e4
  refine lv_aload_n hx hb dX6_readsBack_16 rfl (lv_at hl 0 rfl) ?_
  refine lv_aload_n hx hb dX6_readsBack_17 rfl (lv_at hl 1 rfl) ?_
  refine lv_iload_n hx hb dX6_readsBack_18 rfl (lv_at hl 2 rfl) ?_
  refine lv_iconst (v := 2) hx hb dX6_readsBack_19 (by decide) ?_
  refine lv_iadd hx hb dX6_readsBack_20 ?_
  obtain ⟨g5, hf⟩ := gdb hf
  refine r_iald F h (i := 0) (j := 17) rfl rfl (vin_ok g5) dX6_readsBack_21 ?_
  refine r_put (o1 := sI t4 6 (t4.2 28 (x1 + 2).toNatClampNeg)) (w := fun t6 => wX6 K a0 t6) (S' := fun t6 => [wX6 K a0 t6]) F h (i := 0) (k := 6) inX6 tyX6_ok nmX6 rfl (by decide) w13 rfl rfl rfl rfl rfl (Nat.le_of_ble_eq_true rfl) rfl (fun _ => rfl) dX6_readsBack_22 (fun t6 e6 H locs h => ?_)
  have hf := ltb hf e6
  refine lv_aload_n hx hb dX6_readsBack_25 rfl (lv_at hl 0 rfl) ?_
  refine lv_aload_n hx hb dX6_readsBack_26 rfl (lv_at hl 1 rfl) ?_
  refine lv_iload_n hx hb dX6_readsBack_27 rfl (lv_at hl 2 rfl) ?_
  refine lv_iconst (v := 3) hx hb dX6_readsBack_28 (by decide) ?_
  refine lv_iadd hx hb dX6_readsBack_29 ?_
  obtain ⟨g7, hf⟩ := gdb hf
  refine r_iald F h (i := 0) (j := 17) rfl rfl (vin_ok g7) dX6_readsBack_30 ?_
  refine r_put (o1 := sI t6 8 (t6.2 28 (x1 + 3).toNatClampNeg)) (w := fun t8 => wX6 K a0 t8) (S' := fun t8 => [wX6 K a0 t8]) F h (i := 0) (k := 8) inX6 tyX6_ok nmX6 rfl (by decide) w29 rfl rfl rfl rfl rfl (Nat.le_of_ble_eq_true rfl) rfl (fun _ => rfl) dX6_readsBack_31 (fun t8 e8 H locs h => ?_)
  have hf := ltb hf e8
  refine lv_iconst (v := 0) hx hb dX6_readsBack_34 (by decide) ?_
  refine lv_istore_n (lv' := [(3, .int 0), (0, .ref (a0 0)), (1, .ref (a0 29)), (2, .int x1)]) hx hb dX6_readsBack_35 rfl hl (by decide) rfl (fun ls hl => ?_)
  obtain ⟨q9, hq9, hf⟩ := asb hf
  obtain ⟨nq9, hq9⟩ := wh_out hq9
  have Xq9_1 : ∀ (z9 : Int32 × ob) (H : Heap) (locs : List Loc) (ls : Array Slot), q9 = (1, z9) → WD D A s.heap H locs [wX6 K a0 z9.2] → lv_has ls 4 [(0, .ref (a0 0)), (1, .ref (a0 29)), (2, .int x1)] → W P l e (rmS 0 0) s m args below meth c H locs 0 0 (MQ below (QvS D A [wX6 K a0 r]) args s 0 0 A) (F0 m 61 ls []) := by
    intro z9 H locs ls eq9 h hl
    obtain rfl : z9 = q9.2 := by rw [eq9]
    refine lv_iconst (v := 0) hx hb dX6_readsBack_61 (by decide) ?_
    refine lv_istore_n (lv' := [(3, .int 0), (0, .ref (a0 0)), (1, .ref (a0 29)), (2, .int x1)]) hx hb dX6_readsBack_62 rfl hl (by decide) rfl (fun ls hl => ?_)
    obtain ⟨q10, hq10, hf⟩ := asb hf
    obtain ⟨nq10, hq10⟩ := wh_out hq10
    have Xq10_1 : ∀ (z10 : Int32 × ob) (H : Heap) (locs : List Loc) (ls : Array Slot), q10 = (1, z10) → WD D A s.heap H locs [wX6 K a0 z10.2] → lv_has ls 4 [] → W P l e (rmS 0 0) s m args below meth c H locs 0 0 (MQ below (QvS D A [wX6 K a0 r]) args s 0 0 A) (F0 m 89 ls []) := by
      intro z10 H locs ls eq10 h hl
      obtain rfl : z10 = q10.2 := by rw [eq10]
      obtain rfl := sor hf
      exact r_retv F h dX6_readsBack_89
    have Lq10 : ∀ (n : Nat) (z10 : Int32 × ob) (H : Heap) (locs : List Loc) (ls : Array Slot), iter (f6_readsBack_before_L63 x1) n z10 = some q10 → WD D A s.heap H locs [wX6 K a0 z10.2] → lv_has ls 4 [(0, .ref (a0 0)), (1, .ref (a0 29)), (2, .int x1), (3, .int z10.1)] → W P l e (rmS 0 0) s m args below meth c H locs 0 0 (MQ below (QvS D A [wX6 K a0 r]) args s 0 0 A) (F0 m 63 ls []) := by
      intro n
      induction n with
      | zero => intro z10 H locs ls hi; exact (iter_0 hi).elim
      | succ n ihq10 =>
        intro z10 H locs ls hi h hl
        obtain ⟨uq10, hf, huq10⟩ := iter_s hi
        unfold f6_readsBack_before_L63 at hf
        have hf := tob hf
        refine lv_iload_n hx hb dX6_readsBack_63 rfl (lv_at hl 3 rfl) ?_
        refine lv_bipush (v := 70) hx hb dX6_readsBack_64 (by decide) ?_
        refine lv_icmp_ge (tgt := 89) hx hb dX6_readsBack_66 (by decide) (fun c11 => ?_) (fun c11 => ?_)
        · have hf := ifp hf c11
          exact Xq10_1 _ _ _ _ (itr_x huq10 (sor hf)) h (lv_sub hl [] rfl)
        · have hf := ifn hf c11
          refine lv_aload_n hx hb dX6_readsBack_69 rfl (lv_at hl 0 rfl) ?_
          refine r_get F h (i := 0) (k := 2) (.ref (a0 3)) inX6 rfl (by decide) w6 rfl rfl rfl dX6_readsBack_70 ?_
          refine lv_iload_n hx hb dX6_readsBack_73 rfl (lv_at hl 3 rfl) ?_
          refine lv_aload_n hx hb dX6_readsBack_74 rfl (lv_at hl 1 rfl) ?_
          refine lv_iload_n hx hb dX6_readsBack_75 rfl (lv_at hl 2 rfl) ?_
          refine lv_bipush (v := 16) hx hb dX6_readsBack_76 (by decide) ?_
          refine lv_iadd hx hb dX6_readsBack_78 ?_
          refine lv_iload_n hx hb dX6_readsBack_79 rfl (lv_at hl 3 rfl) ?_
          refine lv_iadd hx hb dX6_readsBack_80 ?_
          obtain ⟨g12, hf⟩ := gdb hf
          refine r_iald F h (i := 0) (j := 17) rfl rfl (vin_ok g12) dX6_readsBack_81 ?_
          obtain ⟨g13, hf⟩ := gdb hf
          refine r_iast (o1 := sA z10.2 2 z10.1.toNatClampNeg (z10.2.2 28 ((x1 + 16) + z10.1).toNatClampNeg)) (w := fun t14 => wX6 K a0 t14) (S' := fun t14 => [wX6 K a0 t14]) F h (i := 0) (j := 1) rfl rfl (vin_ok g13) rfl (fun _ => rfl) dX6_readsBack_82 (fun t14 e14 H locs h => ?_)
          have hf := ltb hf e14
          obtain ⟨y15, e15⟩ : ∃ y : Int32, y = z10.1 + 1 := ⟨_, rfl⟩
          have hf := ltb hf e15
          refine lv_iinc (v := y15) (lv' := [(3, .int y15), (0, .ref (a0 0)), (1, .ref (a0 29)), (2, .int x1)]) hx hb dX6_readsBack_83 hl (k := 3) rfl (by rw [e15]; rfl) (by decide) rfl (fun ls hl => ?_)
          refine lv_goto (tgt := 63) hx hb dX6_readsBack_86 (by decide) ?_
          exact ihq10 _ _ _ _ (itr_c huq10 (sor hf)) h (lv_sub hl [1, 2, 3, 0] rfl)
    exact Lq10 _ _ _ _ _ hq10 h (lv_sub hl [1, 2, 3, 0] rfl)
  have Lq9 : ∀ (n : Nat) (z9 : Int32 × ob) (H : Heap) (locs : List Loc) (ls : Array Slot), iter (f6_readsBack_before_L36 x1) n z9 = some q9 → WD D A s.heap H locs [wX6 K a0 z9.2] → lv_has ls 4 [(0, .ref (a0 0)), (1, .ref (a0 29)), (2, .int x1), (3, .int z9.1)] → W P l e (rmS 0 0) s m args below meth c H locs 0 0 (MQ below (QvS D A [wX6 K a0 r]) args s 0 0 A) (F0 m 36 ls []) := by
    intro n
    induction n with
    | zero => intro z9 H locs ls hi; exact (iter_0 hi).elim
    | succ n ihq9 =>
      intro z9 H locs ls hi h hl
      obtain ⟨uq9, hf, huq9⟩ := iter_s hi
      unfold f6_readsBack_before_L36 at hf
      have hf := tob hf
      refine lv_iload_n hx hb dX6_readsBack_36 rfl (lv_at hl 3 rfl) ?_
      refine lv_bipush (v := 12) hx hb dX6_readsBack_37 (by decide) ?_
      refine lv_icmp_ge (tgt := 61) hx hb dX6_readsBack_39 (by decide) (fun c16 => ?_) (fun c16 => ?_)
      · have hf := ifp hf c16
        exact Xq9_1 _ _ _ _ (itr_x huq9 (sor hf)) h (lv_sub hl [0, 1, 2] rfl)
      · have hf := ifn hf c16
        refine lv_aload_n hx hb dX6_readsBack_42 rfl (lv_at hl 0 rfl) ?_
        refine r_get F h (i := 0) (k := 7) (.ref (a0 8)) inX6 rfl (by decide) w14 rfl rfl rfl dX6_readsBack_43 ?_
        refine lv_iload_n hx hb dX6_readsBack_46 rfl (lv_at hl 3 rfl) ?_
        refine lv_aload_n hx hb dX6_readsBack_47 rfl (lv_at hl 1 rfl) ?_
        refine lv_iload_n hx hb dX6_readsBack_48 rfl (lv_at hl 2 rfl) ?_
        refine lv_iconst (v := 4) hx hb dX6_readsBack_49 (by decide) ?_
        refine lv_iadd hx hb dX6_readsBack_50 ?_
        refine lv_iload_n hx hb dX6_readsBack_51 rfl (lv_at hl 3 rfl) ?_
        refine lv_iadd hx hb dX6_readsBack_52 ?_
        obtain ⟨g17, hf⟩ := gdb hf
        refine r_iald F h (i := 0) (j := 17) rfl rfl (vin_ok g17) dX6_readsBack_53 ?_
        obtain ⟨g18, hf⟩ := gdb hf
        refine r_iast (o1 := sA z9.2 7 z9.1.toNatClampNeg (z9.2.2 28 ((x1 + 4) + z9.1).toNatClampNeg)) (w := fun t19 => wX6 K a0 t19) (S' := fun t19 => [wX6 K a0 t19]) F h (i := 0) (j := 3) rfl rfl (vin_ok g18) rfl (fun _ => rfl) dX6_readsBack_54 (fun t19 e19 H locs h => ?_)
        have hf := ltb hf e19
        obtain ⟨y20, e20⟩ : ∃ y : Int32, y = z9.1 + 1 := ⟨_, rfl⟩
        have hf := ltb hf e20
        refine lv_iinc (v := y20) (lv' := [(3, .int y20), (0, .ref (a0 0)), (1, .ref (a0 29)), (2, .int x1)]) hx hb dX6_readsBack_55 hl (k := 3) rfl (by rw [e20]; rfl) (by decide) rfl (fun ls hl => ?_)
        refine lv_goto (tgt := 36) hx hb dX6_readsBack_58 (by decide) ?_
        exact ihq9 _ _ _ _ (itr_c huq9 (sor hf)) h (lv_sub hl [1, 2, 3, 0] rfl)
  exact Lq9 _ _ _ _ _ hq9 h (lv_sub hl [1, 2, 3, 0] rfl)
def f6_notes_L11 (z5 : Int32 × ob) : Option (Nat × (Int32 × ob)) :=
  (if 630 ≤ z5.1 then (some (1, (z5.1, z5.2))) else (gd (vin (z5.1 + 90) 720) <| gd (vin z5.1 720) <| lt (sA z5.2 10 z5.1.toNatClampNeg (z5.2.2 10 (z5.1 + 90).toNatClampNeg)) fun t10 => lt (z5.1 + 1) fun y11 => some (0, (y11, t10))))
noncomputable def f6_notes (o_this : ob) : Option (ob) :=
  ((if (o_this.1 9) = 8 then ((wh f6_notes_L11 (0, o_this)).bind fun q5 => lt (sI q5.2.2 9 ((q5.2.2.1 9) - 1)) fun t6 => some t6) else (some o_this))).bind fun v1 => (f6_writes_undone (90 * (v1.1 9)) v1).bind fun q2 => lt (sI q2 9 ((q2.1 9) + 1)) fun t3 => some t3
set_option maxRecDepth 100000 in
set_option maxHeartbeats 4000000 in
theorem c6_notes (l : Launch) (D : va_G) (K : Nat → ClassId) (a0 : Nat → Nat) (o_this : ob) (r : ob) (hf : f6_notes o_this = some r) : CTv l yX6_notes cX6_notes 2 1 23 D K [.ref (a0 0)] [wX6 K a0 o_this] [wX6 K a0 r] := by
  unfold f6_notes at hf
  have hf := tob hf
  refine entV (by decide) (Nat.le_of_ble_eq_true rfl) (fun P e s m args below meth c A ls F h hl hin => ?_)
  have hx := F.1
  have hb := F.2.1
  have hl : lv_has ls 2 [(0, .ref (a0 0))] := hl
  refine lv_aload_n hx hb dX6_notes_0 rfl (lv_at hl 0 rfl) ?_
  refine r_get F h (i := 0) (k := 9) (.int (o_this.1 9)) inX6 rfl (by decide) w30 rfl rfl rfl dX6_notes_1 ?_
  refine lv_bipush (v := 8) hx hb dX6_notes_4 (by decide) ?_
  obtain ⟨J1, eJ1, hf⟩ := rgn hf
  have JW1 : ∀ (v1 : ob) (H : Heap) (locs : List Loc) (ls : Array Slot), WD D A s.heap H locs [wX6 K a0 v1] → lv_has ls 2 [(0, .ref (a0 0))] → J1 v1 = some r → W P l e (rmS 1 23) s m args below meth c H locs 0 0 (MQ below (QvS D A [wX6 K a0 r]) args s 0 0 A) (F0 m 49 ls []) := by
    intro v1 H locs ls h hl hf
    have hf := jof eJ1 hf
    refine lv_aload_n hx hb dX6_notes_49 rfl (lv_at hl 0 rfl) ?_
    refine lv_aload_n hx hb dX6_notes_50 rfl (lv_at hl 0 rfl) ?_
    refine r_get F h (i := 0) (k := 10) (.ref (a0 11)) inX6 rfl (by decide) w32 rfl rfl rfl dX6_notes_51 ?_
    refine lv_bipush (v := 90) hx hb dX6_notes_54 (by decide) ?_
    refine lv_aload_n hx hb dX6_notes_56 rfl (lv_at hl 0 rfl) ?_
    refine r_get F h (i := 0) (k := 9) (.int (v1.1 9)) inX6 rfl (by decide) w30 rfl rfl rfl dX6_notes_57 ?_
    refine lv_imul hx hb dX6_notes_60 ?_
    obtain ⟨q2, h2, hf⟩ := asb hf
    refine r_callVv (As := [.ref (a0 11), .int (90 * (v1.1 9))]) (rest := []) (C0 := [wX6 K a0 v1]) (C1 := [wX6 K a0 q2]) (Rr := []) (S' := [wX6 K a0 q2]) F h hl (c6_writes_undone l D K a0 (90 * (v1.1 9)) v1 q2 h2) [0] rfl rfl rfl rfl rfl (i := 0) rfl rfl w33 ⟨w34, w35, w36, w2⟩ hsc6_writes_undone ⟨Nat.le_of_ble_eq_true rfl, Nat.le_of_ble_eq_true rfl⟩ ⟨Nat.le_refl 0, Nat.le_refl 0⟩ (Nat.le_of_ble_eq_true rfl) dX6_notes_61 (fun H locs h => ?_)
    refine lv_aload_n hx hb dX6_notes_64 rfl (lv_at hl 0 rfl) ?_
    refine lv_dup hx hb dX6_notes_65 rfl ?_
    refine r_get F h (i := 0) (k := 9) (.int (q2.1 9)) inX6 rfl (by decide) w30 rfl rfl rfl dX6_notes_66 ?_
    refine lv_iconst (v := 1) hx hb dX6_notes_69 (by decide) ?_
    refine lv_iadd hx hb dX6_notes_70 ?_
    refine r_put (o1 := sI q2 9 ((q2.1 9) + 1)) (w := fun t3 => wX6 K a0 t3) (S' := fun t3 => [wX6 K a0 t3]) F h (i := 0) (k := 9) inX6 tyX6_ok nmX6 rfl (by decide) w30 rfl rfl rfl rfl rfl (Nat.le_of_ble_eq_true rfl) rfl (fun _ => rfl) dX6_notes_71 (fun t3 e3 H locs h => ?_)
    have hf := ltb hf e3
    obtain rfl := sor hf
    exact r_retv F h dX6_notes_74
  refine lv_icmp_ne (tgt := 49) hx hb dX6_notes_6 (by decide) (fun c4 => ?_) (fun c4 => ?_)
  · have hf := ifn hf c4
    exact JW1 o_this _ _ _ h (lv_sub hl [0] rfl) (sob hf)
  · have hf := ifp hf c4
    refine lv_iconst (v := 0) hx hb dX6_notes_9 (by decide) ?_
    refine lv_istore_n (lv' := [(1, .int 0), (0, .ref (a0 0))]) hx hb dX6_notes_10 rfl hl (by decide) rfl (fun ls hl => ?_)
    obtain ⟨q5, hq5, hf⟩ := asb hf
    obtain ⟨nq5, hq5⟩ := wh_out hq5
    have Xq5_1 : ∀ (z5 : Int32 × ob) (H : Heap) (locs : List Loc) (ls : Array Slot), q5 = (1, z5) → WD D A s.heap H locs [wX6 K a0 z5.2] → lv_has ls 2 [(0, .ref (a0 0))] → W P l e (rmS 1 23) s m args below meth c H locs 0 0 (MQ below (QvS D A [wX6 K a0 r]) args s 0 0 A) (F0 m 39 ls []) := by
      intro z5 H locs ls eq5 h hl
      obtain rfl : z5 = q5.2 := by rw [eq5]
      refine lv_aload_n hx hb dX6_notes_39 rfl (lv_at hl 0 rfl) ?_
      refine lv_dup hx hb dX6_notes_40 rfl ?_
      refine r_get F h (i := 0) (k := 9) (.int (q5.2.2.1 9)) inX6 rfl (by decide) w30 rfl rfl rfl dX6_notes_41 ?_
      refine lv_iconst (v := 1) hx hb dX6_notes_44 (by decide) ?_
      refine lv_isub hx hb dX6_notes_45 ?_
      refine r_put (o1 := sI q5.2.2 9 ((q5.2.2.1 9) - 1)) (w := fun t6 => wX6 K a0 t6) (S' := fun t6 => [wX6 K a0 t6]) F h (i := 0) (k := 9) inX6 tyX6_ok nmX6 rfl (by decide) w30 rfl rfl rfl rfl rfl (Nat.le_of_ble_eq_true rfl) rfl (fun _ => rfl) dX6_notes_46 (fun t6 e6 H locs h => ?_)
      have hf := ltb hf e6
      exact JW1 t6 _ _ _ h (lv_sub hl [0] rfl) (sob hf)
    have Lq5 : ∀ (n : Nat) (z5 : Int32 × ob) (H : Heap) (locs : List Loc) (ls : Array Slot), iter f6_notes_L11 n z5 = some q5 → WD D A s.heap H locs [wX6 K a0 z5.2] → lv_has ls 2 [(0, .ref (a0 0)), (1, .int z5.1)] → W P l e (rmS 1 23) s m args below meth c H locs 0 0 (MQ below (QvS D A [wX6 K a0 r]) args s 0 0 A) (F0 m 11 ls []) := by
      intro n
      induction n with
      | zero => intro z5 H locs ls hi; exact (iter_0 hi).elim
      | succ n ihq5 =>
        intro z5 H locs ls hi h hl
        obtain ⟨uq5, hf, huq5⟩ := iter_s hi
        unfold f6_notes_L11 at hf
        have hf := tob hf
        refine lv_iload_n hx hb dX6_notes_11 rfl (lv_at hl 1 rfl) ?_
        refine lv_sipush (v := 630) hx hb dX6_notes_12 (by decide) ?_
        refine lv_icmp_ge (tgt := 39) hx hb dX6_notes_15 (by decide) (fun c7 => ?_) (fun c7 => ?_)
        · have hf := ifp hf c7
          exact Xq5_1 _ _ _ _ (itr_x huq5 (sor hf)) h (lv_sub hl [0] rfl)
        · have hf := ifn hf c7
          refine lv_aload_n hx hb dX6_notes_18 rfl (lv_at hl 0 rfl) ?_
          refine r_get F h (i := 0) (k := 10) (.ref (a0 11)) inX6 rfl (by decide) w32 rfl rfl rfl dX6_notes_19 ?_
          refine lv_iload_n hx hb dX6_notes_22 rfl (lv_at hl 1 rfl) ?_
          refine lv_aload_n hx hb dX6_notes_23 rfl (lv_at hl 0 rfl) ?_
          refine r_get F h (i := 0) (k := 10) (.ref (a0 11)) inX6 rfl (by decide) w32 rfl rfl rfl dX6_notes_24 ?_
          refine lv_iload_n hx hb dX6_notes_27 rfl (lv_at hl 1 rfl) ?_
          refine lv_bipush (v := 90) hx hb dX6_notes_28 (by decide) ?_
          refine lv_iadd hx hb dX6_notes_30 ?_
          obtain ⟨g8, hf⟩ := gdb hf
          refine r_iald F h (i := 0) (j := 4) rfl rfl (vin_ok g8) dX6_notes_31 ?_
          obtain ⟨g9, hf⟩ := gdb hf
          refine r_iast (o1 := sA z5.2 10 z5.1.toNatClampNeg (z5.2.2 10 (z5.1 + 90).toNatClampNeg)) (w := fun t10 => wX6 K a0 t10) (S' := fun t10 => [wX6 K a0 t10]) F h (i := 0) (j := 4) rfl rfl (vin_ok g9) rfl (fun _ => rfl) dX6_notes_32 (fun t10 e10 H locs h => ?_)
          have hf := ltb hf e10
          obtain ⟨y11, e11⟩ : ∃ y : Int32, y = z5.1 + 1 := ⟨_, rfl⟩
          have hf := ltb hf e11
          refine lv_iinc (v := y11) (lv' := [(1, .int y11), (0, .ref (a0 0))]) hx hb dX6_notes_33 hl (k := 1) rfl (by rw [e11]; rfl) (by decide) rfl (fun ls hl => ?_)
          refine lv_goto (tgt := 11) hx hb dX6_notes_36 (by decide) ?_
          exact ihq5 _ _ _ _ (itr_c huq5 (sor hf)) h (lv_sub hl [1, 0] rfl)
    exact Lq5 _ _ _ _ _ hq5 h (lv_sub hl [1, 0] rfl)
noncomputable def f6_undo (o_this : ob) : Option (Int32 × ob) :=
  (if (o_this.1 9) = 0 then (some ((-2), o_this)) else (lt (sI o_this 9 ((o_this.1 9) - 1)) fun t2 => (f6_readsBack_undone (90 * (t2.1 9)) t2).bind fun q3 => some (q3.1 9, q3)))
set_option maxRecDepth 100000 in
set_option maxHeartbeats 4000000 in
theorem c6_undo (l : Launch) (D : va_G) (K : Nat → ClassId) (a0 : Nat → Nat) (o_this : ob) (r : Int32 × ob) (hf : f6_undo o_this = some r) : CTi l yX6_undo cX6_undo 1 (some .int) 1 23 D K [.ref (a0 0)] [wX6 K a0 o_this] [wX6 K a0 r.2] r.1 := by
  unfold f6_undo at hf
  have hf := tob hf
  refine entI (by decide) (Nat.le_of_ble_eq_true rfl) (fun P e s m args below meth c A ls F h hl hin => ?_)
  have hx := F.1
  have hb := F.2.1
  have hl : lv_has ls 1 [(0, .ref (a0 0))] := hl
  refine lv_aload_n hx hb dX6_undo_0 rfl (lv_at hl 0 rfl) ?_
  refine r_get F h (i := 0) (k := 9) (.int (o_this.1 9)) inX6 rfl (by decide) w30 rfl rfl rfl dX6_undo_1 ?_
  refine lv_if_ne (tgt := 10) hx hb dX6_undo_4 (by decide) (fun c1 => ?_) (fun c1 => ?_)
  · have hf := ifn hf c1
    refine lv_aload_n hx hb dX6_undo_10 rfl (lv_at hl 0 rfl) ?_
    refine lv_dup hx hb dX6_undo_11 rfl ?_
    refine r_get F h (i := 0) (k := 9) (.int (o_this.1 9)) inX6 rfl (by decide) w30 rfl rfl rfl dX6_undo_12 ?_
    refine lv_iconst (v := 1) hx hb dX6_undo_15 (by decide) ?_
    refine lv_isub hx hb dX6_undo_16 ?_
    refine r_put (o1 := sI o_this 9 ((o_this.1 9) - 1)) (w := fun t2 => wX6 K a0 t2) (S' := fun t2 => [wX6 K a0 t2]) F h (i := 0) (k := 9) inX6 tyX6_ok nmX6 rfl (by decide) w30 rfl rfl rfl rfl rfl (Nat.le_of_ble_eq_true rfl) rfl (fun _ => rfl) dX6_undo_17 (fun t2 e2 H locs h => ?_)
    have hf := ltb hf e2
    refine lv_aload_n hx hb dX6_undo_20 rfl (lv_at hl 0 rfl) ?_
    refine lv_aload_n hx hb dX6_undo_21 rfl (lv_at hl 0 rfl) ?_
    refine r_get F h (i := 0) (k := 10) (.ref (a0 11)) inX6 rfl (by decide) w32 rfl rfl rfl dX6_undo_22 ?_
    refine lv_bipush (v := 90) hx hb dX6_undo_25 (by decide) ?_
    refine lv_aload_n hx hb dX6_undo_27 rfl (lv_at hl 0 rfl) ?_
    refine r_get F h (i := 0) (k := 9) (.int (t2.1 9)) inX6 rfl (by decide) w30 rfl rfl rfl dX6_undo_28 ?_
    refine lv_imul hx hb dX6_undo_31 ?_
    obtain ⟨q3, h3, hf⟩ := asb hf
    refine r_callVv (As := [.ref (a0 11), .int (90 * (t2.1 9))]) (rest := []) (C0 := [wX6 K a0 t2]) (C1 := [wX6 K a0 q3]) (Rr := []) (S' := [wX6 K a0 q3]) F h hl (c6_readsBack_undone l D K a0 (90 * (t2.1 9)) t2 q3 h3) [0] rfl rfl rfl rfl rfl (i := 0) rfl rfl w37 ⟨w38, w39, w40, w2⟩ hsc6_readsBack_undone ⟨Nat.le_of_ble_eq_true rfl, Nat.le_of_ble_eq_true rfl⟩ ⟨Nat.le_refl 0, Nat.le_refl 0⟩ (Nat.le_of_ble_eq_true rfl) dX6_undo_32 (fun H locs h => ?_)
    refine lv_aload_n hx hb dX6_undo_35 rfl (lv_at hl 0 rfl) ?_
    refine r_get F h (i := 0) (k := 9) (.int (q3.1 9)) inX6 rfl (by decide) w30 rfl rfl rfl dX6_undo_36 ?_
    obtain rfl := sor hf
    exact r_reti F h dX6_undo_39
  · have hf := ifp hf c1
    refine lv_bipush (v := (-2)) hx hb dX6_undo_7 (by decide) ?_
    obtain rfl := sor hf
    exact r_reti F h dX6_undo_9
noncomputable def f6_keep (o_this : ob) : Option (Int32 × ob) :=
  (if (o_this.1 11) = 2 then (some ((-3), o_this)) else ((f6_writes_kept (90 * (o_this.1 11)) o_this).bind fun q2 => lt (sI q2 11 ((q2.1 11) + 1)) fun t3 => some (t3.1 11, t3)))
set_option maxRecDepth 100000 in
set_option maxHeartbeats 4000000 in
theorem c6_keep (l : Launch) (D : va_G) (K : Nat → ClassId) (a0 : Nat → Nat) (o_this : ob) (r : Int32 × ob) (hf : f6_keep o_this = some r) : CTi l yX6_keep cX6_keep 1 (some .int) 1 23 D K [.ref (a0 0)] [wX6 K a0 o_this] [wX6 K a0 r.2] r.1 := by
  unfold f6_keep at hf
  have hf := tob hf
  refine entI (by decide) (Nat.le_of_ble_eq_true rfl) (fun P e s m args below meth c A ls F h hl hin => ?_)
  have hx := F.1
  have hb := F.2.1
  have hl : lv_has ls 1 [(0, .ref (a0 0))] := hl
  refine lv_aload_n hx hb dX6_keep_0 rfl (lv_at hl 0 rfl) ?_
  refine r_get F h (i := 0) (k := 11) (.int (o_this.1 11)) inX6 rfl (by decide) w31 rfl rfl rfl dX6_keep_1 ?_
  refine lv_iconst (v := 2) hx hb dX6_keep_4 (by decide) ?_
  refine lv_icmp_ne (tgt := 11) hx hb dX6_keep_5 (by decide) (fun c1 => ?_) (fun c1 => ?_)
  · have hf := ifn hf c1
    refine lv_aload_n hx hb dX6_keep_11 rfl (lv_at hl 0 rfl) ?_
    refine lv_aload_n hx hb dX6_keep_12 rfl (lv_at hl 0 rfl) ?_
    refine r_get F h (i := 0) (k := 12) (.ref (a0 13)) inX6 rfl (by decide) w41 rfl rfl rfl dX6_keep_13 ?_
    refine lv_bipush (v := 90) hx hb dX6_keep_16 (by decide) ?_
    refine lv_aload_n hx hb dX6_keep_18 rfl (lv_at hl 0 rfl) ?_
    refine r_get F h (i := 0) (k := 11) (.int (o_this.1 11)) inX6 rfl (by decide) w31 rfl rfl rfl dX6_keep_19 ?_
    refine lv_imul hx hb dX6_keep_22 ?_
    obtain ⟨q2, h2, hf⟩ := asb hf
    refine r_callVv (As := [.ref (a0 13), .int (90 * (o_this.1 11))]) (rest := []) (C0 := [wX6 K a0 o_this]) (C1 := [wX6 K a0 q2]) (Rr := []) (S' := [wX6 K a0 q2]) F h hl (c6_writes_kept l D K a0 (90 * (o_this.1 11)) o_this q2 h2) [0] rfl rfl rfl rfl rfl (i := 0) rfl rfl w33 ⟨w34, w35, w36, w2⟩ hsc6_writes_kept ⟨Nat.le_of_ble_eq_true rfl, Nat.le_of_ble_eq_true rfl⟩ ⟨Nat.le_refl 0, Nat.le_refl 0⟩ (Nat.le_of_ble_eq_true rfl) dX6_keep_23 (fun H locs h => ?_)
    refine lv_aload_n hx hb dX6_keep_26 rfl (lv_at hl 0 rfl) ?_
    refine lv_dup hx hb dX6_keep_27 rfl ?_
    refine r_get F h (i := 0) (k := 11) (.int (q2.1 11)) inX6 rfl (by decide) w31 rfl rfl rfl dX6_keep_28 ?_
    refine lv_iconst (v := 1) hx hb dX6_keep_31 (by decide) ?_
    refine lv_iadd hx hb dX6_keep_32 ?_
    refine r_put (o1 := sI q2 11 ((q2.1 11) + 1)) (w := fun t3 => wX6 K a0 t3) (S' := fun t3 => [wX6 K a0 t3]) F h (i := 0) (k := 11) inX6 tyX6_ok nmX6 rfl (by decide) w31 rfl rfl rfl rfl rfl (Nat.le_of_ble_eq_true rfl) rfl (fun _ => rfl) dX6_keep_33 (fun t3 e3 H locs h => ?_)
    have hf := ltb hf e3
    refine lv_aload_n hx hb dX6_keep_36 rfl (lv_at hl 0 rfl) ?_
    refine r_get F h (i := 0) (k := 11) (.int (t3.1 11)) inX6 rfl (by decide) w31 rfl rfl rfl dX6_keep_37 ?_
    obtain rfl := sor hf
    exact r_reti F h dX6_keep_40
  · have hf := ifp hf c1
    refine lv_bipush (v := (-3)) hx hb dX6_keep_8 (by decide) ?_
    obtain rfl := sor hf
    exact r_reti F h dX6_keep_10
noncomputable def f6_back (o_this : ob) : Option (Int32 × ob) :=
  (if (o_this.1 11) = 0 then (some ((-2), o_this)) else (lt (sI o_this 11 ((o_this.1 11) - 1)) fun t2 => (f6_readsBack_kept (90 * (t2.1 11)) t2).bind fun q3 => lt (sI q3 9 0) fun t4 => some (t4.1 11, t4)))
set_option maxRecDepth 100000 in
set_option maxHeartbeats 4000000 in
theorem c6_back (l : Launch) (D : va_G) (K : Nat → ClassId) (a0 : Nat → Nat) (o_this : ob) (r : Int32 × ob) (hf : f6_back o_this = some r) : CTi l yX6_back cX6_back 1 (some .int) 1 23 D K [.ref (a0 0)] [wX6 K a0 o_this] [wX6 K a0 r.2] r.1 := by
  unfold f6_back at hf
  have hf := tob hf
  refine entI (by decide) (Nat.le_of_ble_eq_true rfl) (fun P e s m args below meth c A ls F h hl hin => ?_)
  have hx := F.1
  have hb := F.2.1
  have hl : lv_has ls 1 [(0, .ref (a0 0))] := hl
  refine lv_aload_n hx hb dX6_back_0 rfl (lv_at hl 0 rfl) ?_
  refine r_get F h (i := 0) (k := 11) (.int (o_this.1 11)) inX6 rfl (by decide) w31 rfl rfl rfl dX6_back_1 ?_
  refine lv_if_ne (tgt := 10) hx hb dX6_back_4 (by decide) (fun c1 => ?_) (fun c1 => ?_)
  · have hf := ifn hf c1
    refine lv_aload_n hx hb dX6_back_10 rfl (lv_at hl 0 rfl) ?_
    refine lv_dup hx hb dX6_back_11 rfl ?_
    refine r_get F h (i := 0) (k := 11) (.int (o_this.1 11)) inX6 rfl (by decide) w31 rfl rfl rfl dX6_back_12 ?_
    refine lv_iconst (v := 1) hx hb dX6_back_15 (by decide) ?_
    refine lv_isub hx hb dX6_back_16 ?_
    refine r_put (o1 := sI o_this 11 ((o_this.1 11) - 1)) (w := fun t2 => wX6 K a0 t2) (S' := fun t2 => [wX6 K a0 t2]) F h (i := 0) (k := 11) inX6 tyX6_ok nmX6 rfl (by decide) w31 rfl rfl rfl rfl rfl (Nat.le_of_ble_eq_true rfl) rfl (fun _ => rfl) dX6_back_17 (fun t2 e2 H locs h => ?_)
    have hf := ltb hf e2
    refine lv_aload_n hx hb dX6_back_20 rfl (lv_at hl 0 rfl) ?_
    refine lv_aload_n hx hb dX6_back_21 rfl (lv_at hl 0 rfl) ?_
    refine r_get F h (i := 0) (k := 12) (.ref (a0 13)) inX6 rfl (by decide) w41 rfl rfl rfl dX6_back_22 ?_
    refine lv_bipush (v := 90) hx hb dX6_back_25 (by decide) ?_
    refine lv_aload_n hx hb dX6_back_27 rfl (lv_at hl 0 rfl) ?_
    refine r_get F h (i := 0) (k := 11) (.int (t2.1 11)) inX6 rfl (by decide) w31 rfl rfl rfl dX6_back_28 ?_
    refine lv_imul hx hb dX6_back_31 ?_
    obtain ⟨q3, h3, hf⟩ := asb hf
    refine r_callVv (As := [.ref (a0 13), .int (90 * (t2.1 11))]) (rest := []) (C0 := [wX6 K a0 t2]) (C1 := [wX6 K a0 q3]) (Rr := []) (S' := [wX6 K a0 q3]) F h hl (c6_readsBack_kept l D K a0 (90 * (t2.1 11)) t2 q3 h3) [0] rfl rfl rfl rfl rfl (i := 0) rfl rfl w37 ⟨w38, w39, w40, w2⟩ hsc6_readsBack_kept ⟨Nat.le_of_ble_eq_true rfl, Nat.le_of_ble_eq_true rfl⟩ ⟨Nat.le_refl 0, Nat.le_refl 0⟩ (Nat.le_of_ble_eq_true rfl) dX6_back_32 (fun H locs h => ?_)
    refine lv_aload_n hx hb dX6_back_35 rfl (lv_at hl 0 rfl) ?_
    refine lv_iconst (v := 0) hx hb dX6_back_36 (by decide) ?_
    refine r_put (o1 := sI q3 9 0) (w := fun t4 => wX6 K a0 t4) (S' := fun t4 => [wX6 K a0 t4]) F h (i := 0) (k := 9) inX6 tyX6_ok nmX6 rfl (by decide) w30 rfl rfl rfl rfl rfl (Nat.le_of_ble_eq_true rfl) rfl (fun _ => rfl) dX6_back_37 (fun t4 e4 H locs h => ?_)
    have hf := ltb hf e4
    refine lv_aload_n hx hb dX6_back_40 rfl (lv_at hl 0 rfl) ?_
    refine r_get F h (i := 0) (k := 11) (.int (t4.1 11)) inX6 rfl (by decide) w31 rfl rfl rfl dX6_back_41 ?_
    obtain rfl := sor hf
    exact r_reti F h dX6_back_44
  · have hf := ifp hf c1
    refine lv_bipush (v := (-2)) hx hb dX6_back_7 (by decide) ?_
    obtain rfl := sor hf
    exact r_reti F h dX6_back_9
noncomputable def f6_push (x0 : Int32) (o_this : ob) : Option (Int32 × ob) :=
  (f6_isLetter x0).bind fun q1 => (if q1 = 0 then (some ((-1), o_this)) else ((if (o_this.1 6) = 12 then (some ((-3), o_this)) else ((f6_notes o_this).bind fun q4 => gd (vin (q4.1 6) 12) <| lt (sA q4 7 (q4.1 6).toNatClampNeg x0) fun t6 => lt (sI t6 6 ((t6.1 6) + 1)) fun t7 => some (t7.1 6, t7)))))
set_option maxRecDepth 100000 in
set_option maxHeartbeats 4000000 in
theorem c6_push (l : Launch) (D : va_G) (K : Nat → ClassId) (a0 : Nat → Nat) (x0 : Int32) (o_this : ob) (r : Int32 × ob) (hf : f6_push x0 o_this = some r) : CTi l yX6_push cX6_push 2 (some .int) 2 44 D K [.ref (a0 0), .int x0] [wX6 K a0 o_this] [wX6 K a0 r.2] r.1 := by
  unfold f6_push at hf
  have hf := tob hf
  refine entI (by decide) (Nat.le_of_ble_eq_true rfl) (fun P e s m args below meth c A ls F h hl hin => ?_)
  have hx := F.1
  have hb := F.2.1
  have hl : lv_has ls 2 [(0, .ref (a0 0)), (1, .int x0)] := hl
  refine lv_iload_n hx hb dX6_push_0 rfl (lv_at hl 1 rfl) ?_
  obtain ⟨q1, h1, hf⟩ := asb hf
  refine r_callS (As := [.int x0]) (rest := []) F h hl (c6_isLetter l D K x0 q1 h1) w22 ⟨w20, w21, w2⟩ hsc6_isLetter ⟨Nat.le_of_ble_eq_true rfl, Nat.le_of_ble_eq_true rfl⟩ ⟨Nat.le_refl 0, Nat.le_refl 0⟩ (Nat.le_of_ble_eq_true rfl) dX6_push_1 (fun H locs h => ?_)
  refine lv_if_ne (tgt := 9) hx hb dX6_push_4 (by decide) (fun c2 => ?_) (fun c2 => ?_)
  · have hf := ifn hf c2
    refine lv_aload_n hx hb dX6_push_9 rfl (lv_at hl 0 rfl) ?_
    refine r_get F h (i := 0) (k := 6) (.int (o_this.1 6)) inX6 rfl (by decide) w13 rfl rfl rfl dX6_push_10 ?_
    refine lv_bipush (v := 12) hx hb dX6_push_13 (by decide) ?_
    refine lv_icmp_ne (tgt := 21) hx hb dX6_push_15 (by decide) (fun c3 => ?_) (fun c3 => ?_)
    · have hf := ifn hf c3
      refine lv_aload_n hx hb dX6_push_21 rfl (lv_at hl 0 rfl) ?_
      obtain ⟨q4, h4, hf⟩ := asb hf
      refine r_callVv (As := []) (rest := []) (C0 := [wX6 K a0 o_this]) (C1 := [wX6 K a0 q4]) (Rr := []) (S' := [wX6 K a0 q4]) F h hl (c6_notes l D K a0 o_this q4 h4) [0] rfl rfl rfl rfl rfl (i := 0) rfl rfl w42 ⟨w43, w44, w45, w2⟩ hsc6_notes ⟨Nat.le_of_ble_eq_true rfl, Nat.le_of_ble_eq_true rfl⟩ ⟨Nat.le_refl 0, Nat.le_refl 0⟩ (Nat.le_of_ble_eq_true rfl) dX6_push_22 (fun H locs h => ?_)
      refine lv_aload_n hx hb dX6_push_25 rfl (lv_at hl 0 rfl) ?_
      refine r_get F h (i := 0) (k := 7) (.ref (a0 8)) inX6 rfl (by decide) w14 rfl rfl rfl dX6_push_26 ?_
      refine lv_aload_n hx hb dX6_push_29 rfl (lv_at hl 0 rfl) ?_
      refine r_get F h (i := 0) (k := 6) (.int (q4.1 6)) inX6 rfl (by decide) w13 rfl rfl rfl dX6_push_30 ?_
      refine lv_iload_n hx hb dX6_push_33 rfl (lv_at hl 1 rfl) ?_
      obtain ⟨g5, hf⟩ := gdb hf
      refine r_iast (o1 := sA q4 7 (q4.1 6).toNatClampNeg x0) (w := fun t6 => wX6 K a0 t6) (S' := fun t6 => [wX6 K a0 t6]) F h (i := 0) (j := 3) rfl rfl (vin_ok g5) rfl (fun _ => rfl) dX6_push_34 (fun t6 e6 H locs h => ?_)
      have hf := ltb hf e6
      refine lv_aload_n hx hb dX6_push_35 rfl (lv_at hl 0 rfl) ?_
      refine lv_dup hx hb dX6_push_36 rfl ?_
      refine r_get F h (i := 0) (k := 6) (.int (t6.1 6)) inX6 rfl (by decide) w13 rfl rfl rfl dX6_push_37 ?_
      refine lv_iconst (v := 1) hx hb dX6_push_40 (by decide) ?_
      refine lv_iadd hx hb dX6_push_41 ?_
      refine r_put (o1 := sI t6 6 ((t6.1 6) + 1)) (w := fun t7 => wX6 K a0 t7) (S' := fun t7 => [wX6 K a0 t7]) F h (i := 0) (k := 6) inX6 tyX6_ok nmX6 rfl (by decide) w13 rfl rfl rfl rfl rfl (Nat.le_of_ble_eq_true rfl) rfl (fun _ => rfl) dX6_push_42 (fun t7 e7 H locs h => ?_)
      have hf := ltb hf e7
      refine lv_aload_n hx hb dX6_push_45 rfl (lv_at hl 0 rfl) ?_
      refine r_get F h (i := 0) (k := 6) (.int (t7.1 6)) inX6 rfl (by decide) w13 rfl rfl rfl dX6_push_46 ?_
      obtain rfl := sor hf
      exact r_reti F h dX6_push_49
    · have hf := ifp hf c3
      refine lv_bipush (v := (-3)) hx hb dX6_push_18 (by decide) ?_
      obtain rfl := sor hf
      exact r_reti F h dX6_push_20
  · have hf := ifp hf c2
    refine lv_iconst (v := (-1)) hx hb dX6_push_7 (by decide) ?_
    obtain rfl := sor hf
    exact r_reti F h dX6_push_8
noncomputable def f6_pop (o_this : ob) : Option (Int32 × ob) :=
  (if (o_this.1 6) = 0 then (some ((-2), o_this)) else ((f6_notes o_this).bind fun q2 => lt (sI q2 6 ((q2.1 6) - 1)) fun t3 => gd (vin (t3.1 6) 12) <| some (t3.2 7 (t3.1 6).toNatClampNeg, t3)))
set_option maxRecDepth 100000 in
set_option maxHeartbeats 4000000 in
theorem c6_pop (l : Launch) (D : va_G) (K : Nat → ClassId) (a0 : Nat → Nat) (o_this : ob) (r : Int32 × ob) (hf : f6_pop o_this = some r) : CTi l yX6_pop cX6_pop 1 (some .int) 2 44 D K [.ref (a0 0)] [wX6 K a0 o_this] [wX6 K a0 r.2] r.1 := by
  unfold f6_pop at hf
  have hf := tob hf
  refine entI (by decide) (Nat.le_of_ble_eq_true rfl) (fun P e s m args below meth c A ls F h hl hin => ?_)
  have hx := F.1
  have hb := F.2.1
  have hl : lv_has ls 1 [(0, .ref (a0 0))] := hl
  refine lv_aload_n hx hb dX6_pop_0 rfl (lv_at hl 0 rfl) ?_
  refine r_get F h (i := 0) (k := 6) (.int (o_this.1 6)) inX6 rfl (by decide) w13 rfl rfl rfl dX6_pop_1 ?_
  refine lv_if_ne (tgt := 10) hx hb dX6_pop_4 (by decide) (fun c1 => ?_) (fun c1 => ?_)
  · have hf := ifn hf c1
    refine lv_aload_n hx hb dX6_pop_10 rfl (lv_at hl 0 rfl) ?_
    obtain ⟨q2, h2, hf⟩ := asb hf
    refine r_callVv (As := []) (rest := []) (C0 := [wX6 K a0 o_this]) (C1 := [wX6 K a0 q2]) (Rr := []) (S' := [wX6 K a0 q2]) F h hl (c6_notes l D K a0 o_this q2 h2) [0] rfl rfl rfl rfl rfl (i := 0) rfl rfl w42 ⟨w43, w44, w45, w2⟩ hsc6_notes ⟨Nat.le_of_ble_eq_true rfl, Nat.le_of_ble_eq_true rfl⟩ ⟨Nat.le_refl 0, Nat.le_refl 0⟩ (Nat.le_of_ble_eq_true rfl) dX6_pop_11 (fun H locs h => ?_)
    refine lv_aload_n hx hb dX6_pop_14 rfl (lv_at hl 0 rfl) ?_
    refine lv_dup hx hb dX6_pop_15 rfl ?_
    refine r_get F h (i := 0) (k := 6) (.int (q2.1 6)) inX6 rfl (by decide) w13 rfl rfl rfl dX6_pop_16 ?_
    refine lv_iconst (v := 1) hx hb dX6_pop_19 (by decide) ?_
    refine lv_isub hx hb dX6_pop_20 ?_
    refine r_put (o1 := sI q2 6 ((q2.1 6) - 1)) (w := fun t3 => wX6 K a0 t3) (S' := fun t3 => [wX6 K a0 t3]) F h (i := 0) (k := 6) inX6 tyX6_ok nmX6 rfl (by decide) w13 rfl rfl rfl rfl rfl (Nat.le_of_ble_eq_true rfl) rfl (fun _ => rfl) dX6_pop_21 (fun t3 e3 H locs h => ?_)
    have hf := ltb hf e3
    refine lv_aload_n hx hb dX6_pop_24 rfl (lv_at hl 0 rfl) ?_
    refine r_get F h (i := 0) (k := 7) (.ref (a0 8)) inX6 rfl (by decide) w14 rfl rfl rfl dX6_pop_25 ?_
    refine lv_aload_n hx hb dX6_pop_28 rfl (lv_at hl 0 rfl) ?_
    refine r_get F h (i := 0) (k := 6) (.int (t3.1 6)) inX6 rfl (by decide) w13 rfl rfl rfl dX6_pop_29 ?_
    obtain ⟨g4, hf⟩ := gdb hf
    refine r_iald F h (i := 0) (j := 3) rfl rfl (vin_ok g4) dX6_pop_32 ?_
    obtain rfl := sor hf
    exact r_reti F h dX6_pop_33
  · have hf := ifp hf c1
    refine lv_bipush (v := (-2)) hx hb dX6_pop_7 (by decide) ?_
    obtain rfl := sor hf
    exact r_reti F h dX6_pop_9
def f6_steps_L24 (g0 : Int32) (z4 : Int32 × ob) : Option (Nat × (Int32 × ob)) :=
  (if z4.1 < 0 then (some (1, (z4.1, z4.2))) else (gd (vin (((7 * g0) + 4) + z4.1) 70) <| gd (vin (z4.2.1 6) 12) <| lt (sA z4.2 7 (z4.2.1 6).toNatClampNeg (z4.2.2 2 (((7 * g0) + 4) + z4.1).toNatClampNeg)) fun t10 => lt (sI t10 6 ((t10.1 6) + 1)) fun t11 => lt (z4.1 + (-1)) fun y12 => some (0, (y12, t11))))
noncomputable def f6_steps (x0 : Int32) (o_this : ob) : Option (ob) :=
  lt (sI o_this 6 ((o_this.1 6) - 1)) fun t1 => gd (vin ((7 * x0) + 3) 70) <| lt ((t1.2 2 ((7 * x0) + 3).toNatClampNeg) - 1) fun y3 => (wh (f6_steps_L24 x0) (y3, t1)).bind fun q4 => gd (vin ((7 * x0) + 2) 70) <| lt (sI q4.2.2 5 (q4.2.2.2 2 ((7 * x0) + 2).toNatClampNeg)) fun t6 => some t6
set_option maxRecDepth 100000 in
set_option maxHeartbeats 4000000 in
theorem c6_steps (l : Launch) (D : va_G) (K : Nat → ClassId) (a0 : Nat → Nat) (x0 : Int32) (o_this : ob) (r : ob) (hf : f6_steps x0 o_this = some r) : CTv l yX6_steps cX6_steps 3 0 0 D K [.ref (a0 0), .int x0] [wX6 K a0 o_this] [wX6 K a0 r] := by
  unfold f6_steps at hf
  have hf := tob hf
  refine entV (by decide) (Nat.le_of_ble_eq_true rfl) (fun P e s m args below meth c A ls F h hl hin => ?_)
  have hx := F.1
  have hb := F.2.1
  have hl : lv_has ls 3 [(0, .ref (a0 0)), (1, .int x0)] := hl
  refine lv_aload_n hx hb dX6_steps_0 rfl (lv_at hl 0 rfl) ?_
  refine lv_dup hx hb dX6_steps_1 rfl ?_
  refine r_get F h (i := 0) (k := 6) (.int (o_this.1 6)) inX6 rfl (by decide) w13 rfl rfl rfl dX6_steps_2 ?_
  refine lv_iconst (v := 1) hx hb dX6_steps_5 (by decide) ?_
  refine lv_isub hx hb dX6_steps_6 ?_
  refine r_put (o1 := sI o_this 6 ((o_this.1 6) - 1)) (w := fun t1 => wX6 K a0 t1) (S' := fun t1 => [wX6 K a0 t1]) F h (i := 0) (k := 6) inX6 tyX6_ok nmX6 rfl (by decide) w13 rfl rfl rfl rfl rfl (Nat.le_of_ble_eq_true rfl) rfl (fun _ => rfl) dX6_steps_7 (fun t1 e1 H locs h => ?_)
  have hf := ltb hf e1
  refine lv_aload_n hx hb dX6_steps_10 rfl (lv_at hl 0 rfl) ?_
  refine r_get F h (i := 0) (k := 2) (.ref (a0 3)) inX6 rfl (by decide) w6 rfl rfl rfl dX6_steps_11 ?_
  refine lv_bipush (v := 7) hx hb dX6_steps_14 (by decide) ?_
  refine lv_iload_n hx hb dX6_steps_16 rfl (lv_at hl 1 rfl) ?_
  refine lv_imul hx hb dX6_steps_17 ?_
  refine lv_iconst (v := 3) hx hb dX6_steps_18 (by decide) ?_
  refine lv_iadd hx hb dX6_steps_19 ?_
  obtain ⟨g2, hf⟩ := gdb hf
  refine r_iald F h (i := 0) (j := 1) rfl rfl (vin_ok g2) dX6_steps_20 ?_
  refine lv_iconst (v := 1) hx hb dX6_steps_21 (by decide) ?_
  refine lv_isub hx hb dX6_steps_22 ?_
  refine lv_topi (fun y3 e3 => ?_)
  have hf := ltb hf e3
  refine lv_istore_n (lv' := [(2, .int y3), (0, .ref (a0 0)), (1, .int x0)]) hx hb dX6_steps_23 rfl hl (by decide) rfl (fun ls hl => ?_)
  obtain ⟨q4, hq4, hf⟩ := asb hf
  obtain ⟨nq4, hq4⟩ := wh_out hq4
  have Xq4_1 : ∀ (z4 : Int32 × ob) (H : Heap) (locs : List Loc) (ls : Array Slot), q4 = (1, z4) → WD D A s.heap H locs [wX6 K a0 z4.2] → lv_has ls 3 [(0, .ref (a0 0)), (1, .int x0)] → W P l e (rmS 0 0) s m args below meth c H locs 0 0 (MQ below (QvS D A [wX6 K a0 r]) args s 0 0 A) (F0 m 66 ls []) := by
    intro z4 H locs ls eq4 h hl
    obtain rfl : z4 = q4.2 := by rw [eq4]
    refine lv_aload_n hx hb dX6_steps_66 rfl (lv_at hl 0 rfl) ?_
    refine lv_aload_n hx hb dX6_steps_67 rfl (lv_at hl 0 rfl) ?_
    refine r_get F h (i := 0) (k := 2) (.ref (a0 3)) inX6 rfl (by decide) w6 rfl rfl rfl dX6_steps_68 ?_
    refine lv_bipush (v := 7) hx hb dX6_steps_71 (by decide) ?_
    refine lv_iload_n hx hb dX6_steps_73 rfl (lv_at hl 1 rfl) ?_
    refine lv_imul hx hb dX6_steps_74 ?_
    refine lv_iconst (v := 2) hx hb dX6_steps_75 (by decide) ?_
    refine lv_iadd hx hb dX6_steps_76 ?_
    obtain ⟨g5, hf⟩ := gdb hf
    refine r_iald F h (i := 0) (j := 1) rfl rfl (vin_ok g5) dX6_steps_77 ?_
    refine r_put (o1 := sI q4.2.2 5 (q4.2.2.2 2 ((7 * x0) + 2).toNatClampNeg)) (w := fun t6 => wX6 K a0 t6) (S' := fun t6 => [wX6 K a0 t6]) F h (i := 0) (k := 5) inX6 tyX6_ok nmX6 rfl (by decide) w15 rfl rfl rfl rfl rfl (Nat.le_of_ble_eq_true rfl) rfl (fun _ => rfl) dX6_steps_78 (fun t6 e6 H locs h => ?_)
    have hf := ltb hf e6
    obtain rfl := sor hf
    exact r_retv F h dX6_steps_81
  have Lq4 : ∀ (n : Nat) (z4 : Int32 × ob) (H : Heap) (locs : List Loc) (ls : Array Slot), iter (f6_steps_L24 x0) n z4 = some q4 → WD D A s.heap H locs [wX6 K a0 z4.2] → lv_has ls 3 [(0, .ref (a0 0)), (1, .int x0), (2, .int z4.1)] → W P l e (rmS 0 0) s m args below meth c H locs 0 0 (MQ below (QvS D A [wX6 K a0 r]) args s 0 0 A) (F0 m 24 ls []) := by
    intro n
    induction n with
    | zero => intro z4 H locs ls hi; exact (iter_0 hi).elim
    | succ n ihq4 =>
      intro z4 H locs ls hi h hl
      obtain ⟨uq4, hf, huq4⟩ := iter_s hi
      unfold f6_steps_L24 at hf
      have hf := tob hf
      refine lv_iload_n hx hb dX6_steps_24 rfl (lv_at hl 2 rfl) ?_
      refine lv_if_lt (tgt := 66) hx hb dX6_steps_25 (by decide) (fun c7 => ?_) (fun c7 => ?_)
      · have hf := ifp hf c7
        exact Xq4_1 _ _ _ _ (itr_x huq4 (sor hf)) h (lv_sub hl [0, 1] rfl)
      · have hf := ifn hf c7
        refine lv_aload_n hx hb dX6_steps_28 rfl (lv_at hl 0 rfl) ?_
        refine r_get F h (i := 0) (k := 7) (.ref (a0 8)) inX6 rfl (by decide) w14 rfl rfl rfl dX6_steps_29 ?_
        refine lv_aload_n hx hb dX6_steps_32 rfl (lv_at hl 0 rfl) ?_
        refine r_get F h (i := 0) (k := 6) (.int (z4.2.1 6)) inX6 rfl (by decide) w13 rfl rfl rfl dX6_steps_33 ?_
        refine lv_aload_n hx hb dX6_steps_36 rfl (lv_at hl 0 rfl) ?_
        refine r_get F h (i := 0) (k := 2) (.ref (a0 3)) inX6 rfl (by decide) w6 rfl rfl rfl dX6_steps_37 ?_
        refine lv_bipush (v := 7) hx hb dX6_steps_40 (by decide) ?_
        refine lv_iload_n hx hb dX6_steps_42 rfl (lv_at hl 1 rfl) ?_
        refine lv_imul hx hb dX6_steps_43 ?_
        refine lv_iconst (v := 4) hx hb dX6_steps_44 (by decide) ?_
        refine lv_iadd hx hb dX6_steps_45 ?_
        refine lv_iload_n hx hb dX6_steps_46 rfl (lv_at hl 2 rfl) ?_
        refine lv_iadd hx hb dX6_steps_47 ?_
        obtain ⟨g8, hf⟩ := gdb hf
        refine r_iald F h (i := 0) (j := 1) rfl rfl (vin_ok g8) dX6_steps_48 ?_
        obtain ⟨g9, hf⟩ := gdb hf
        refine r_iast (o1 := sA z4.2 7 (z4.2.1 6).toNatClampNeg (z4.2.2 2 (((7 * x0) + 4) + z4.1).toNatClampNeg)) (w := fun t10 => wX6 K a0 t10) (S' := fun t10 => [wX6 K a0 t10]) F h (i := 0) (j := 3) rfl rfl (vin_ok g9) rfl (fun _ => rfl) dX6_steps_49 (fun t10 e10 H locs h => ?_)
        have hf := ltb hf e10
        refine lv_aload_n hx hb dX6_steps_50 rfl (lv_at hl 0 rfl) ?_
        refine lv_dup hx hb dX6_steps_51 rfl ?_
        refine r_get F h (i := 0) (k := 6) (.int (t10.1 6)) inX6 rfl (by decide) w13 rfl rfl rfl dX6_steps_52 ?_
        refine lv_iconst (v := 1) hx hb dX6_steps_55 (by decide) ?_
        refine lv_iadd hx hb dX6_steps_56 ?_
        refine r_put (o1 := sI t10 6 ((t10.1 6) + 1)) (w := fun t11 => wX6 K a0 t11) (S' := fun t11 => [wX6 K a0 t11]) F h (i := 0) (k := 6) inX6 tyX6_ok nmX6 rfl (by decide) w13 rfl rfl rfl rfl rfl (Nat.le_of_ble_eq_true rfl) rfl (fun _ => rfl) dX6_steps_57 (fun t11 e11 H locs h => ?_)
        have hf := ltb hf e11
        obtain ⟨y12, e12⟩ : ∃ y : Int32, y = z4.1 + (-1) := ⟨_, rfl⟩
        have hf := ltb hf e12
        refine lv_iinc (v := y12) (lv' := [(2, .int y12), (0, .ref (a0 0)), (1, .int x0)]) hx hb dX6_steps_60 hl (k := 2) rfl (by rw [e12]; rfl) (by decide) rfl (fun ls hl => ?_)
        refine lv_goto (tgt := 24) hx hb dX6_steps_63 (by decide) ?_
        exact ihq4 _ _ _ _ (itr_c huq4 (sor hf)) h (lv_sub hl [1, 2, 0] rfl)
  exact Lq4 _ _ _ _ _ hq4 h (lv_sub hl [1, 2, 0] rfl)
noncomputable def f6_step (x0 : Int32) (o_this : ob) : Option (Int32 × ob) :=
  (f6_isRule x0 o_this).bind fun q1 => (if q1 = 0 then (some ((-1), o_this)) else ((if (o_this.1 6) = 0 then (some ((-2), o_this)) else (gd (vin ((o_this.1 6) - 1) 12) <| (f6_fits x0 (o_this.1 5) (o_this.2 7 ((o_this.1 6) - 1).toNatClampNeg) o_this).bind fun q5 => (if q5 = 0 then (some ((-2), o_this)) else (gd (vin ((7 * x0) + 3) 70) <| (if (((o_this.1 6) - 1) + (o_this.2 2 ((7 * x0) + 3).toNatClampNeg)) ≤ 12 then ((f6_notes o_this).bind fun q9 => (f6_steps x0 q9).bind fun q10 => some (q10.1 6, q10)) else (some ((-3), o_this)))))))))
set_option maxRecDepth 100000 in
set_option maxHeartbeats 4000000 in
theorem c6_step (l : Launch) (D : va_G) (K : Nat → ClassId) (a0 : Nat → Nat) (x0 : Int32) (o_this : ob) (r : Int32 × ob) (hf : f6_step x0 o_this = some r) : CTi l yX6_step cX6_step 2 (some .int) 2 44 D K [.ref (a0 0), .int x0] [wX6 K a0 o_this] [wX6 K a0 r.2] r.1 := by
  unfold f6_step at hf
  have hf := tob hf
  refine entI (by decide) (Nat.le_of_ble_eq_true rfl) (fun P e s m args below meth c A ls F h hl hin => ?_)
  have hx := F.1
  have hb := F.2.1
  have hl : lv_has ls 2 [(0, .ref (a0 0)), (1, .int x0)] := hl
  refine lv_aload_n hx hb dX6_step_0 rfl (lv_at hl 0 rfl) ?_
  refine lv_iload_n hx hb dX6_step_1 rfl (lv_at hl 1 rfl) ?_
  obtain ⟨q1, h1, hf⟩ := asb hf
  refine r_callVi (As := [.int x0]) (rest := []) (C0 := [wX6 K a0 o_this]) (C1 := [wX6 K a0 o_this]) (Rr := []) (S' := [wX6 K a0 o_this]) F h hl (c6_isRule l D K a0 x0 o_this q1 h1) [0] rfl rfl rfl rfl rfl (i := 0) rfl rfl w7 ⟨w8, w9, w10, w2⟩ hsc6_isRule ⟨Nat.le_of_ble_eq_true rfl, Nat.le_of_ble_eq_true rfl⟩ ⟨Nat.le_refl 0, Nat.le_refl 0⟩ (Nat.le_of_ble_eq_true rfl) dX6_step_2 (fun H locs h => ?_)
  refine lv_if_ne (tgt := 10) hx hb dX6_step_5 (by decide) (fun c2 => ?_) (fun c2 => ?_)
  · have hf := ifn hf c2
    refine lv_aload_n hx hb dX6_step_10 rfl (lv_at hl 0 rfl) ?_
    refine r_get F h (i := 0) (k := 6) (.int (o_this.1 6)) inX6 rfl (by decide) w13 rfl rfl rfl dX6_step_11 ?_
    refine lv_if_eq (tgt := 40) hx hb dX6_step_14 (by decide) (fun c3 => ?_) (fun c3 => ?_)
    · have hf := ifp hf c3
      refine lv_bipush (v := (-2)) hx hb dX6_step_40 (by decide) ?_
      obtain rfl := sor hf
      exact r_reti F h dX6_step_42
    · have hf := ifn hf c3
      refine lv_aload_n hx hb dX6_step_17 rfl (lv_at hl 0 rfl) ?_
      refine lv_iload_n hx hb dX6_step_18 rfl (lv_at hl 1 rfl) ?_
      refine lv_aload_n hx hb dX6_step_19 rfl (lv_at hl 0 rfl) ?_
      refine r_get F h (i := 0) (k := 5) (.int (o_this.1 5)) inX6 rfl (by decide) w15 rfl rfl rfl dX6_step_20 ?_
      refine lv_aload_n hx hb dX6_step_23 rfl (lv_at hl 0 rfl) ?_
      refine r_get F h (i := 0) (k := 7) (.ref (a0 8)) inX6 rfl (by decide) w14 rfl rfl rfl dX6_step_24 ?_
      refine lv_aload_n hx hb dX6_step_27 rfl (lv_at hl 0 rfl) ?_
      refine r_get F h (i := 0) (k := 6) (.int (o_this.1 6)) inX6 rfl (by decide) w13 rfl rfl rfl dX6_step_28 ?_
      refine lv_iconst (v := 1) hx hb dX6_step_31 (by decide) ?_
      refine lv_isub hx hb dX6_step_32 ?_
      obtain ⟨g4, hf⟩ := gdb hf
      refine r_iald F h (i := 0) (j := 3) rfl rfl (vin_ok g4) dX6_step_33 ?_
      obtain ⟨q5, h5, hf⟩ := asb hf
      refine r_callVi (As := [.int x0, .int (o_this.1 5), .int (o_this.2 7 ((o_this.1 6) - 1).toNatClampNeg)]) (rest := []) (C0 := [wX6 K a0 o_this]) (C1 := [wX6 K a0 o_this]) (Rr := []) (S' := [wX6 K a0 o_this]) F h hl (c6_fits l D K a0 x0 (o_this.1 5) (o_this.2 7 ((o_this.1 6) - 1).toNatClampNeg) o_this q5 h5) [0] rfl rfl rfl rfl rfl (i := 0) rfl rfl w46 ⟨w47, w48, w49, w2⟩ hsc6_fits ⟨Nat.le_of_ble_eq_true rfl, Nat.le_of_ble_eq_true rfl⟩ ⟨Nat.le_refl 0, Nat.le_refl 0⟩ (Nat.le_of_ble_eq_true rfl) dX6_step_34 (fun H locs h => ?_)
      refine lv_if_ne (tgt := 43) hx hb dX6_step_37 (by decide) (fun c6 => ?_) (fun c6 => ?_)
      · have hf := ifn hf c6
        refine lv_aload_n hx hb dX6_step_43 rfl (lv_at hl 0 rfl) ?_
        refine r_get F h (i := 0) (k := 6) (.int (o_this.1 6)) inX6 rfl (by decide) w13 rfl rfl rfl dX6_step_44 ?_
        refine lv_iconst (v := 1) hx hb dX6_step_47 (by decide) ?_
        refine lv_isub hx hb dX6_step_48 ?_
        refine lv_aload_n hx hb dX6_step_49 rfl (lv_at hl 0 rfl) ?_
        refine r_get F h (i := 0) (k := 2) (.ref (a0 3)) inX6 rfl (by decide) w6 rfl rfl rfl dX6_step_50 ?_
        refine lv_bipush (v := 7) hx hb dX6_step_53 (by decide) ?_
        refine lv_iload_n hx hb dX6_step_55 rfl (lv_at hl 1 rfl) ?_
        refine lv_imul hx hb dX6_step_56 ?_
        refine lv_iconst (v := 3) hx hb dX6_step_57 (by decide) ?_
        refine lv_iadd hx hb dX6_step_58 ?_
        obtain ⟨g7, hf⟩ := gdb hf
        refine r_iald F h (i := 0) (j := 1) rfl rfl (vin_ok g7) dX6_step_59 ?_
        refine lv_iadd hx hb dX6_step_60 ?_
        refine lv_bipush (v := 12) hx hb dX6_step_61 (by decide) ?_
        refine lv_icmp_le (tgt := 69) hx hb dX6_step_63 (by decide) (fun c8 => ?_) (fun c8 => ?_)
        · have hf := ifp hf c8
          refine lv_aload_n hx hb dX6_step_69 rfl (lv_at hl 0 rfl) ?_
          obtain ⟨q9, h9, hf⟩ := asb hf
          refine r_callVv (As := []) (rest := []) (C0 := [wX6 K a0 o_this]) (C1 := [wX6 K a0 q9]) (Rr := []) (S' := [wX6 K a0 q9]) F h hl (c6_notes l D K a0 o_this q9 h9) [0] rfl rfl rfl rfl rfl (i := 0) rfl rfl w42 ⟨w43, w44, w45, w2⟩ hsc6_notes ⟨Nat.le_of_ble_eq_true rfl, Nat.le_of_ble_eq_true rfl⟩ ⟨Nat.le_refl 0, Nat.le_refl 0⟩ (Nat.le_of_ble_eq_true rfl) dX6_step_70 (fun H locs h => ?_)
          refine lv_aload_n hx hb dX6_step_73 rfl (lv_at hl 0 rfl) ?_
          refine lv_iload_n hx hb dX6_step_74 rfl (lv_at hl 1 rfl) ?_
          obtain ⟨q10, h10, hf⟩ := asb hf
          refine r_callVv (As := [.int x0]) (rest := []) (C0 := [wX6 K a0 q9]) (C1 := [wX6 K a0 q10]) (Rr := []) (S' := [wX6 K a0 q10]) F h hl (c6_steps l D K a0 x0 q9 q10 h10) [0] rfl rfl rfl rfl rfl (i := 0) rfl rfl w50 ⟨w51, w52, w53, w2⟩ hsc6_steps ⟨Nat.le_of_ble_eq_true rfl, Nat.le_of_ble_eq_true rfl⟩ ⟨Nat.le_refl 0, Nat.le_refl 0⟩ (Nat.le_of_ble_eq_true rfl) dX6_step_75 (fun H locs h => ?_)
          refine lv_aload_n hx hb dX6_step_78 rfl (lv_at hl 0 rfl) ?_
          refine r_get F h (i := 0) (k := 6) (.int (q10.1 6)) inX6 rfl (by decide) w13 rfl rfl rfl dX6_step_79 ?_
          obtain rfl := sor hf
          exact r_reti F h dX6_step_82
        · have hf := ifn hf c8
          refine lv_bipush (v := (-3)) hx hb dX6_step_66 (by decide) ?_
          obtain rfl := sor hf
          exact r_reti F h dX6_step_68
      · have hf := ifp hf c6
        refine lv_bipush (v := (-2)) hx hb dX6_step_40 (by decide) ?_
        obtain rfl := sor hf
        exact r_reti F h dX6_step_42
  · have hf := ifp hf c2
    refine lv_iconst (v := (-1)) hx hb dX6_step_8 (by decide) ?_
    obtain rfl := sor hf
    exact r_reti F h dX6_step_9
noncomputable def f6_go (x0 : Int32) (o_this : ob) : Option (Int32 × ob) :=
  (f6_isState x0 o_this).bind fun q1 => (if q1 = 0 then (some ((-1), o_this)) else ((if x0 = (o_this.1 5) then (some ((-2), o_this)) else ((f6_notes o_this).bind fun q4 => lt (q4.1 5) fun y5 => lt (sI q4 5 x0) fun t6 => some (y5, t6)))))
set_option maxRecDepth 100000 in
set_option maxHeartbeats 4000000 in
theorem c6_go (l : Launch) (D : va_G) (K : Nat → ClassId) (a0 : Nat → Nat) (x0 : Int32) (o_this : ob) (r : Int32 × ob) (hf : f6_go x0 o_this = some r) : CTi l yX6_go cX6_go 3 (some .int) 2 44 D K [.ref (a0 0), .int x0] [wX6 K a0 o_this] [wX6 K a0 r.2] r.1 := by
  unfold f6_go at hf
  have hf := tob hf
  refine entI (by decide) (Nat.le_of_ble_eq_true rfl) (fun P e s m args below meth c A ls F h hl hin => ?_)
  have hx := F.1
  have hb := F.2.1
  have hl : lv_has ls 3 [(0, .ref (a0 0)), (1, .int x0)] := hl
  refine lv_aload_n hx hb dX6_go_0 rfl (lv_at hl 0 rfl) ?_
  refine lv_iload_n hx hb dX6_go_1 rfl (lv_at hl 1 rfl) ?_
  obtain ⟨q1, h1, hf⟩ := asb hf
  refine r_callVi (As := [.int x0]) (rest := []) (C0 := [wX6 K a0 o_this]) (C1 := [wX6 K a0 o_this]) (Rr := []) (S' := [wX6 K a0 o_this]) F h hl (c6_isState l D K a0 x0 o_this q1 h1) [0] rfl rfl rfl rfl rfl (i := 0) rfl rfl w54 ⟨w55, w56, w57, w2⟩ hsc6_isState ⟨Nat.le_of_ble_eq_true rfl, Nat.le_of_ble_eq_true rfl⟩ ⟨Nat.le_refl 0, Nat.le_refl 0⟩ (Nat.le_of_ble_eq_true rfl) dX6_go_2 (fun H locs h => ?_)
  refine lv_if_ne (tgt := 10) hx hb dX6_go_5 (by decide) (fun c2 => ?_) (fun c2 => ?_)
  · have hf := ifn hf c2
    refine lv_iload_n hx hb dX6_go_10 rfl (lv_at hl 1 rfl) ?_
    refine lv_aload_n hx hb dX6_go_11 rfl (lv_at hl 0 rfl) ?_
    refine r_get F h (i := 0) (k := 5) (.int (o_this.1 5)) inX6 rfl (by decide) w15 rfl rfl rfl dX6_go_12 ?_
    refine lv_icmp_ne (tgt := 21) hx hb dX6_go_15 (by decide) (fun c3 => ?_) (fun c3 => ?_)
    · have hf := ifn hf c3
      refine lv_aload_n hx hb dX6_go_21 rfl (lv_at hl 0 rfl) ?_
      obtain ⟨q4, h4, hf⟩ := asb hf
      refine r_callVv (As := []) (rest := []) (C0 := [wX6 K a0 o_this]) (C1 := [wX6 K a0 q4]) (Rr := []) (S' := [wX6 K a0 q4]) F h hl (c6_notes l D K a0 o_this q4 h4) [0] rfl rfl rfl rfl rfl (i := 0) rfl rfl w42 ⟨w43, w44, w45, w2⟩ hsc6_notes ⟨Nat.le_of_ble_eq_true rfl, Nat.le_of_ble_eq_true rfl⟩ ⟨Nat.le_refl 0, Nat.le_refl 0⟩ (Nat.le_of_ble_eq_true rfl) dX6_go_22 (fun H locs h => ?_)
      refine lv_aload_n hx hb dX6_go_25 rfl (lv_at hl 0 rfl) ?_
      refine r_get F h (i := 0) (k := 5) (.int (q4.1 5)) inX6 rfl (by decide) w15 rfl rfl rfl dX6_go_26 ?_
      refine lv_topi (fun y5 e5 => ?_)
      have hf := ltb hf e5
      refine lv_istore_n (lv' := [(2, .int y5), (0, .ref (a0 0)), (1, .int x0)]) hx hb dX6_go_29 rfl hl (by decide) rfl (fun ls hl => ?_)
      refine lv_aload_n hx hb dX6_go_30 rfl (lv_at hl 1 rfl) ?_
      refine lv_iload_n hx hb dX6_go_31 rfl (lv_at hl 2 rfl) ?_
      refine r_put (o1 := sI q4 5 x0) (w := fun t6 => wX6 K a0 t6) (S' := fun t6 => [wX6 K a0 t6]) F h (i := 0) (k := 5) inX6 tyX6_ok nmX6 rfl (by decide) w15 rfl rfl rfl rfl rfl (Nat.le_of_ble_eq_true rfl) rfl (fun _ => rfl) dX6_go_32 (fun t6 e6 H locs h => ?_)
      have hf := ltb hf e6
      refine lv_iload_n hx hb dX6_go_35 rfl (lv_at hl 0 rfl) ?_
      obtain rfl := sor hf
      exact r_reti F h dX6_go_36
    · have hf := ifp hf c3
      refine lv_bipush (v := (-2)) hx hb dX6_go_18 (by decide) ?_
      obtain rfl := sor hf
      exact r_reti F h dX6_go_20
  · have hf := ifp hf c2
    refine lv_iconst (v := (-1)) hx hb dX6_go_8 (by decide) ?_
    obtain rfl := sor hf
    exact r_reti F h dX6_go_9
def f6_enters (x0 : Int32) (x1 : Int32) (x2 : Int32) (x3 : Int32) (x4 : Int32) (o_this : ob) : Option (ob) :=
  lt (7 * (o_this.1 1)) fun y1 => gd (vin y1 70) <| lt (sA o_this 2 y1.toNatClampNeg x0) fun t3 => gd (vin (y1 + 1) 70) <| lt (sA t3 2 (y1 + 1).toNatClampNeg x1) fun t5 => gd (vin (y1 + 2) 70) <| lt (sA t5 2 (y1 + 2).toNatClampNeg x2) fun t7 => ((if x3 = 0 then (some 0) else ((if 5 ≤ x3 then (some 2) else (some 1))))).bind fun v8 => gd (vin (y1 + 3) 70) <| lt (sA t7 2 (y1 + 3).toNatClampNeg v8) fun t10 => ((if x3 = 0 then (some (-4)) else ((if 5 ≤ x3 then (some ((x3 - 5) / 4)) else (some (x3 - 1)))))).bind fun v11 => gd (vin (y1 + 4) 70) <| lt (sA t10 2 (y1 + 4).toNatClampNeg v11) fun t13 => ((if 5 ≤ x3 then (some ((x3 - 5) - (x3 - 5) / 4 * 4)) else (some (-4)))).bind fun v14 => gd (vin (y1 + 5) 70) <| lt (sA t13 2 (y1 + 5).toNatClampNeg v14) fun t16 => gd (vin (y1 + 6) 70) <| lt (sA t16 2 (y1 + 6).toNatClampNeg x4) fun t18 => lt (sI t18 1 ((t18.1 1) + 1)) fun t19 => some t19
set_option maxRecDepth 100000 in
set_option maxHeartbeats 4000000 in
theorem c6_enters (l : Launch) (D : va_G) (K : Nat → ClassId) (a0 : Nat → Nat) (x0 : Int32) (x1 : Int32) (x2 : Int32) (x3 : Int32) (x4 : Int32) (o_this : ob) (r : ob) (hf : f6_enters x0 x1 x2 x3 x4 o_this = some r) : CTv l yX6_enters cX6_enters 7 0 0 D K [.ref (a0 0), .int x0, .int x1, .int x2, .int x3, .int x4] [wX6 K a0 o_this] [wX6 K a0 r] := by
  unfold f6_enters at hf
  have hf := tob hf
  refine entV (by decide) (Nat.le_of_ble_eq_true rfl) (fun P e s m args below meth c A ls F h hl hin => ?_)
  have hx := F.1
  have hb := F.2.1
  have hl : lv_has ls 7 [(0, .ref (a0 0)), (1, .int x0), (2, .int x1), (3, .int x2), (4, .int x3), (5, .int x4)] := hl
  refine lv_bipush (v := 7) hx hb dX6_enters_0 (by decide) ?_
  refine lv_aload_n hx hb dX6_enters_2 rfl (lv_at hl 0 rfl) ?_
  refine r_get F h (i := 0) (k := 1) (.int (o_this.1 1)) inX6 rfl (by decide) w4 rfl rfl rfl dX6_enters_3 ?_
  refine lv_imul hx hb dX6_enters_6 ?_
  refine lv_topi (fun y1 e1 => ?_)
  have hf := ltb hf e1
  refine lv_istore (lv' := [(6, .int y1), (0, .ref (a0 0)), (1, .int x0), (2, .int x1), (3, .int x2), (4, .int x3), (5, .int x4)]) hx hb dX6_enters_7 hl (by decide) rfl (fun ls hl => ?_)
  refine lv_aload_n hx hb dX6_enters_9 rfl (lv_at hl 1 rfl) ?_
  refine r_get F h (i := 0) (k := 2) (.ref (a0 3)) inX6 rfl (by decide) w6 rfl rfl rfl dX6_enters_10 ?_
  refine lv_iload hx hb dX6_enters_13 (lv_at hl 0 rfl) ?_
  refine lv_iload_n hx hb dX6_enters_15 rfl (lv_at hl 2 rfl) ?_
  obtain ⟨g2, hf⟩ := gdb hf
  refine r_iast (o1 := sA o_this 2 y1.toNatClampNeg x0) (w := fun t3 => wX6 K a0 t3) (S' := fun t3 => [wX6 K a0 t3]) F h (i := 0) (j := 1) rfl rfl (vin_ok g2) rfl (fun _ => rfl) dX6_enters_16 (fun t3 e3 H locs h => ?_)
  have hf := ltb hf e3
  refine lv_aload_n hx hb dX6_enters_17 rfl (lv_at hl 1 rfl) ?_
  refine r_get F h (i := 0) (k := 2) (.ref (a0 3)) inX6 rfl (by decide) w6 rfl rfl rfl dX6_enters_18 ?_
  refine lv_iload hx hb dX6_enters_21 (lv_at hl 0 rfl) ?_
  refine lv_iconst (v := 1) hx hb dX6_enters_23 (by decide) ?_
  refine lv_iadd hx hb dX6_enters_24 ?_
  refine lv_iload_n hx hb dX6_enters_25 rfl (lv_at hl 3 rfl) ?_
  obtain ⟨g4, hf⟩ := gdb hf
  refine r_iast (o1 := sA t3 2 (y1 + 1).toNatClampNeg x1) (w := fun t5 => wX6 K a0 t5) (S' := fun t5 => [wX6 K a0 t5]) F h (i := 0) (j := 1) rfl rfl (vin_ok g4) rfl (fun _ => rfl) dX6_enters_26 (fun t5 e5 H locs h => ?_)
  have hf := ltb hf e5
  refine lv_aload_n hx hb dX6_enters_27 rfl (lv_at hl 1 rfl) ?_
  refine r_get F h (i := 0) (k := 2) (.ref (a0 3)) inX6 rfl (by decide) w6 rfl rfl rfl dX6_enters_28 ?_
  refine lv_iload hx hb dX6_enters_31 (lv_at hl 0 rfl) ?_
  refine lv_iconst (v := 2) hx hb dX6_enters_33 (by decide) ?_
  refine lv_iadd hx hb dX6_enters_34 ?_
  refine lv_iload_n hx hb dX6_enters_35 rfl (lv_at hl 4 rfl) ?_
  obtain ⟨g6, hf⟩ := gdb hf
  refine r_iast (o1 := sA t5 2 (y1 + 2).toNatClampNeg x2) (w := fun t7 => wX6 K a0 t7) (S' := fun t7 => [wX6 K a0 t7]) F h (i := 0) (j := 1) rfl rfl (vin_ok g6) rfl (fun _ => rfl) dX6_enters_36 (fun t7 e7 H locs h => ?_)
  have hf := ltb hf e7
  refine lv_aload_n hx hb dX6_enters_37 rfl (lv_at hl 1 rfl) ?_
  refine r_get F h (i := 0) (k := 2) (.ref (a0 3)) inX6 rfl (by decide) w6 rfl rfl rfl dX6_enters_38 ?_
  refine lv_iload hx hb dX6_enters_41 (lv_at hl 0 rfl) ?_
  refine lv_iconst (v := 3) hx hb dX6_enters_43 (by decide) ?_
  refine lv_iadd hx hb dX6_enters_44 ?_
  refine lv_iload hx hb dX6_enters_45 (lv_at hl 5 rfl) ?_
  obtain ⟨J8, eJ8, hf⟩ := rgn hf
  have JW8 : ∀ (v8 : Int32) (H : Heap) (locs : List Loc) (ls : Array Slot), WD D A s.heap H locs [wX6 K a0 t7] → lv_has ls 7 [(0, .ref (a0 0)), (4, .int x3), (5, .int x4), (6, .int y1)] → J8 v8 = some r → W P l e (rmS 0 0) s m args below meth c H locs 0 0 (MQ below (QvS D A [wX6 K a0 r]) args s 0 0 A) (F0 m 65 ls [.int v8, .int (y1 + 3), .ref (a0 3)]) := by
    intro v8 H locs ls h hl hf
    have hf := jof eJ8 hf
    obtain ⟨g9, hf⟩ := gdb hf
    refine r_iast (o1 := sA t7 2 (y1 + 3).toNatClampNeg v8) (w := fun t10 => wX6 K a0 t10) (S' := fun t10 => [wX6 K a0 t10]) F h (i := 0) (j := 1) rfl rfl (vin_ok g9) rfl (fun _ => rfl) dX6_enters_65 (fun t10 e10 H locs h => ?_)
    have hf := ltb hf e10
    refine lv_aload_n hx hb dX6_enters_66 rfl (lv_at hl 0 rfl) ?_
    refine r_get F h (i := 0) (k := 2) (.ref (a0 3)) inX6 rfl (by decide) w6 rfl rfl rfl dX6_enters_67 ?_
    refine lv_iload hx hb dX6_enters_70 (lv_at hl 3 rfl) ?_
    refine lv_iconst (v := 4) hx hb dX6_enters_72 (by decide) ?_
    refine lv_iadd hx hb dX6_enters_73 ?_
    refine lv_iload hx hb dX6_enters_74 (lv_at hl 1 rfl) ?_
    obtain ⟨J11, eJ11, hf⟩ := rgn hf
    have JW11 : ∀ (v11 : Int32) (H : Heap) (locs : List Loc) (ls : Array Slot), WD D A s.heap H locs [wX6 K a0 t10] → lv_has ls 7 [(0, .ref (a0 0)), (4, .int x3), (5, .int x4), (6, .int y1)] → J11 v11 = some r → W P l e (rmS 0 0) s m args below meth c H locs 0 0 (MQ below (QvS D A [wX6 K a0 r]) args s 0 0 A) (F0 m 103 ls [.int v11, .int (y1 + 4), .ref (a0 3)]) := by
      intro v11 H locs ls h hl hf
      have hf := jof eJ11 hf
      obtain ⟨g12, hf⟩ := gdb hf
      refine r_iast (o1 := sA t10 2 (y1 + 4).toNatClampNeg v11) (w := fun t13 => wX6 K a0 t13) (S' := fun t13 => [wX6 K a0 t13]) F h (i := 0) (j := 1) rfl rfl (vin_ok g12) rfl (fun _ => rfl) dX6_enters_103 (fun t13 e13 H locs h => ?_)
      have hf := ltb hf e13
      refine lv_aload_n hx hb dX6_enters_104 rfl (lv_at hl 0 rfl) ?_
      refine r_get F h (i := 0) (k := 2) (.ref (a0 3)) inX6 rfl (by decide) w6 rfl rfl rfl dX6_enters_105 ?_
      refine lv_iload hx hb dX6_enters_108 (lv_at hl 3 rfl) ?_
      refine lv_iconst (v := 5) hx hb dX6_enters_110 (by decide) ?_
      refine lv_iadd hx hb dX6_enters_111 ?_
      refine lv_iload hx hb dX6_enters_112 (lv_at hl 1 rfl) ?_
      refine lv_iconst (v := 5) hx hb dX6_enters_114 (by decide) ?_
      obtain ⟨J14, eJ14, hf⟩ := rgn hf
      have JW14 : ∀ (v14 : Int32) (H : Heap) (locs : List Loc) (ls : Array Slot), WD D A s.heap H locs [wX6 K a0 t13] → lv_has ls 7 [(0, .ref (a0 0)), (5, .int x4), (6, .int y1)] → J14 v14 = some r → W P l e (rmS 0 0) s m args below meth c H locs 0 0 (MQ below (QvS D A [wX6 K a0 r]) args s 0 0 A) (F0 m 129 ls [.int v14, .int (y1 + 5), .ref (a0 3)]) := by
        intro v14 H locs ls h hl hf
        have hf := jof eJ14 hf
        obtain ⟨g15, hf⟩ := gdb hf
        refine r_iast (o1 := sA t13 2 (y1 + 5).toNatClampNeg v14) (w := fun t16 => wX6 K a0 t16) (S' := fun t16 => [wX6 K a0 t16]) F h (i := 0) (j := 1) rfl rfl (vin_ok g15) rfl (fun _ => rfl) dX6_enters_129 (fun t16 e16 H locs h => ?_)
        have hf := ltb hf e16
        refine lv_aload_n hx hb dX6_enters_130 rfl (lv_at hl 0 rfl) ?_
        refine r_get F h (i := 0) (k := 2) (.ref (a0 3)) inX6 rfl (by decide) w6 rfl rfl rfl dX6_enters_131 ?_
        refine lv_iload hx hb dX6_enters_134 (lv_at hl 2 rfl) ?_
        refine lv_bipush (v := 6) hx hb dX6_enters_136 (by decide) ?_
        refine lv_iadd hx hb dX6_enters_138 ?_
        refine lv_iload hx hb dX6_enters_139 (lv_at hl 1 rfl) ?_
        obtain ⟨g17, hf⟩ := gdb hf
        refine r_iast (o1 := sA t16 2 (y1 + 6).toNatClampNeg x4) (w := fun t18 => wX6 K a0 t18) (S' := fun t18 => [wX6 K a0 t18]) F h (i := 0) (j := 1) rfl rfl (vin_ok g17) rfl (fun _ => rfl) dX6_enters_141 (fun t18 e18 H locs h => ?_)
        have hf := ltb hf e18
        refine lv_aload_n hx hb dX6_enters_142 rfl (lv_at hl 0 rfl) ?_
        refine lv_dup hx hb dX6_enters_143 rfl ?_
        refine r_get F h (i := 0) (k := 1) (.int (t18.1 1)) inX6 rfl (by decide) w4 rfl rfl rfl dX6_enters_144 ?_
        refine lv_iconst (v := 1) hx hb dX6_enters_147 (by decide) ?_
        refine lv_iadd hx hb dX6_enters_148 ?_
        refine r_put (o1 := sI t18 1 ((t18.1 1) + 1)) (w := fun t19 => wX6 K a0 t19) (S' := fun t19 => [wX6 K a0 t19]) F h (i := 0) (k := 1) inX6 tyX6_ok nmX6 rfl (by decide) w4 rfl rfl rfl rfl rfl (Nat.le_of_ble_eq_true rfl) rfl (fun _ => rfl) dX6_enters_149 (fun t19 e19 H locs h => ?_)
        have hf := ltb hf e19
        obtain rfl := sor hf
        exact r_retv F h dX6_enters_152
      refine lv_icmp_ge (tgt := 123) hx hb dX6_enters_115 (by decide) (fun c20 => ?_) (fun c20 => ?_)
      · have hf := ifp hf c20
        refine lv_iload hx hb dX6_enters_123 (lv_at hl 1 rfl) ?_
        refine lv_iconst (v := 5) hx hb dX6_enters_125 (by decide) ?_
        refine lv_isub hx hb dX6_enters_126 ?_
        refine lv_iconst (v := 4) hx hb dX6_enters_127 (by decide) ?_
        refine lv_irem hx hb dX6_enters_128 (by decide) ?_
        exact JW14 ((x3 - 5) - (x3 - 5) / 4 * 4) _ _ _ h (lv_sub hl [0, 2, 3] rfl) (sob hf)
      · have hf := ifn hf c20
        refine lv_bipush (v := (-4)) hx hb dX6_enters_118 (by decide) ?_
        refine lv_goto (tgt := 129) hx hb dX6_enters_120 (by decide) ?_
        exact JW14 (-4) _ _ _ h (lv_sub hl [0, 2, 3] rfl) (sob hf)
    refine lv_if_ne (tgt := 84) hx hb dX6_enters_76 (by decide) (fun c21 => ?_) (fun c21 => ?_)
    · have hf := ifn hf c21
      refine lv_iload hx hb dX6_enters_84 (lv_at hl 1 rfl) ?_
      refine lv_iconst (v := 5) hx hb dX6_enters_86 (by decide) ?_
      refine lv_icmp_ge (tgt := 97) hx hb dX6_enters_87 (by decide) (fun c22 => ?_) (fun c22 => ?_)
      · have hf := ifp hf c22
        refine lv_iload hx hb dX6_enters_97 (lv_at hl 1 rfl) ?_
        refine lv_iconst (v := 5) hx hb dX6_enters_99 (by decide) ?_
        refine lv_isub hx hb dX6_enters_100 ?_
        refine lv_iconst (v := 4) hx hb dX6_enters_101 (by decide) ?_
        refine lv_idiv hx hb dX6_enters_102 (by decide) ?_
        exact JW11 ((x3 - 5) / 4) _ _ _ h (lv_sub hl [0, 1, 2, 3] rfl) (sob hf)
      · have hf := ifn hf c22
        refine lv_iload hx hb dX6_enters_90 (lv_at hl 1 rfl) ?_
        refine lv_iconst (v := 1) hx hb dX6_enters_92 (by decide) ?_
        refine lv_isub hx hb dX6_enters_93 ?_
        refine lv_goto (tgt := 103) hx hb dX6_enters_94 (by decide) ?_
        exact JW11 (x3 - 1) _ _ _ h (lv_sub hl [0, 1, 2, 3] rfl) (sob hf)
    · have hf := ifp hf c21
      refine lv_bipush (v := (-4)) hx hb dX6_enters_79 (by decide) ?_
      refine lv_goto (tgt := 103) hx hb dX6_enters_81 (by decide) ?_
      exact JW11 (-4) _ _ _ h (lv_sub hl [0, 1, 2, 3] rfl) (sob hf)
  refine lv_if_ne (tgt := 54) hx hb dX6_enters_47 (by decide) (fun c23 => ?_) (fun c23 => ?_)
  · have hf := ifn hf c23
    refine lv_iload hx hb dX6_enters_54 (lv_at hl 5 rfl) ?_
    refine lv_iconst (v := 5) hx hb dX6_enters_56 (by decide) ?_
    refine lv_icmp_ge (tgt := 64) hx hb dX6_enters_57 (by decide) (fun c24 => ?_) (fun c24 => ?_)
    · have hf := ifp hf c24
      refine lv_iconst (v := 2) hx hb dX6_enters_64 (by decide) ?_
      exact JW8 2 _ _ _ h (lv_sub hl [1, 5, 6, 0] rfl) (sob hf)
    · have hf := ifn hf c24
      refine lv_iconst (v := 1) hx hb dX6_enters_60 (by decide) ?_
      refine lv_goto (tgt := 65) hx hb dX6_enters_61 (by decide) ?_
      exact JW8 1 _ _ _ h (lv_sub hl [1, 5, 6, 0] rfl) (sob hf)
  · have hf := ifp hf c23
    refine lv_iconst (v := 0) hx hb dX6_enters_50 (by decide) ?_
    refine lv_goto (tgt := 65) hx hb dX6_enters_51 (by decide) ?_
    exact JW8 0 _ _ _ h (lv_sub hl [1, 5, 6, 0] rfl) (sob hf)
noncomputable def f6_enter (x0 : Int32) (x1 : Int32) (x2 : Int32) (x3 : Int32) (x4 : Int32) (o_this : ob) : Option (Int32 × ob) :=
  (f6_isState x0 o_this).bind fun q1 => (if q1 = 0 then (some ((-1), o_this)) else ((f6_isLetter x1).bind fun q3 => (if q3 = 0 then (some ((-1), o_this)) else ((f6_isState x2 o_this).bind fun q5 => (if q5 = 0 then (some ((-1), o_this)) else ((f6_in x3 0 20).bind fun q7 => (if q7 = 0 then (some ((-1), o_this)) else ((f6_in x4 0 9).bind fun q9 => (if q9 = 0 then (some ((-1), o_this)) else ((if (o_this.1 1) = 10 then (some ((-3), o_this)) else ((f6_notes o_this).bind fun q12 => (f6_enters x0 x1 x2 x3 x4 q12).bind fun q13 => some ((q13.1 1) - 1, q13)))))))))))))
set_option maxRecDepth 100000 in
set_option maxHeartbeats 4000000 in
theorem c6_enter (l : Launch) (D : va_G) (K : Nat → ClassId) (a0 : Nat → Nat) (x0 : Int32) (x1 : Int32) (x2 : Int32) (x3 : Int32) (x4 : Int32) (o_this : ob) (r : Int32 × ob) (hf : f6_enter x0 x1 x2 x3 x4 o_this = some r) : CTi l yX6_enter cX6_enter 6 (some .int) 2 44 D K [.ref (a0 0), .int x0, .int x1, .int x2, .int x3, .int x4] [wX6 K a0 o_this] [wX6 K a0 r.2] r.1 := by
  unfold f6_enter at hf
  have hf := tob hf
  refine entI (by decide) (Nat.le_of_ble_eq_true rfl) (fun P e s m args below meth c A ls F h hl hin => ?_)
  have hx := F.1
  have hb := F.2.1
  have hl : lv_has ls 6 [(0, .ref (a0 0)), (1, .int x0), (2, .int x1), (3, .int x2), (4, .int x3), (5, .int x4)] := hl
  refine lv_aload_n hx hb dX6_enter_0 rfl (lv_at hl 0 rfl) ?_
  refine lv_iload_n hx hb dX6_enter_1 rfl (lv_at hl 1 rfl) ?_
  obtain ⟨q1, h1, hf⟩ := asb hf
  refine r_callVi (As := [.int x0]) (rest := []) (C0 := [wX6 K a0 o_this]) (C1 := [wX6 K a0 o_this]) (Rr := []) (S' := [wX6 K a0 o_this]) F h hl (c6_isState l D K a0 x0 o_this q1 h1) [0] rfl rfl rfl rfl rfl (i := 0) rfl rfl w54 ⟨w55, w56, w57, w2⟩ hsc6_isState ⟨Nat.le_of_ble_eq_true rfl, Nat.le_of_ble_eq_true rfl⟩ ⟨Nat.le_refl 0, Nat.le_refl 0⟩ (Nat.le_of_ble_eq_true rfl) dX6_enter_2 (fun H locs h => ?_)
  refine lv_if_eq (tgt := 45) hx hb dX6_enter_5 (by decide) (fun c2 => ?_) (fun c2 => ?_)
  · have hf := ifp hf c2
    refine lv_iconst (v := (-1)) hx hb dX6_enter_45 (by decide) ?_
    obtain rfl := sor hf
    exact r_reti F h dX6_enter_46
  · have hf := ifn hf c2
    refine lv_iload_n hx hb dX6_enter_8 rfl (lv_at hl 2 rfl) ?_
    obtain ⟨q3, h3, hf⟩ := asb hf
    refine r_callS (As := [.int x1]) (rest := []) F h hl (c6_isLetter l D K x1 q3 h3) w22 ⟨w20, w21, w2⟩ hsc6_isLetter ⟨Nat.le_of_ble_eq_true rfl, Nat.le_of_ble_eq_true rfl⟩ ⟨Nat.le_refl 0, Nat.le_refl 0⟩ (Nat.le_of_ble_eq_true rfl) dX6_enter_9 (fun H locs h => ?_)
    refine lv_if_eq (tgt := 45) hx hb dX6_enter_12 (by decide) (fun c4 => ?_) (fun c4 => ?_)
    · have hf := ifp hf c4
      refine lv_iconst (v := (-1)) hx hb dX6_enter_45 (by decide) ?_
      obtain rfl := sor hf
      exact r_reti F h dX6_enter_46
    · have hf := ifn hf c4
      refine lv_aload_n hx hb dX6_enter_15 rfl (lv_at hl 0 rfl) ?_
      refine lv_iload_n hx hb dX6_enter_16 rfl (lv_at hl 3 rfl) ?_
      obtain ⟨q5, h5, hf⟩ := asb hf
      refine r_callVi (As := [.int x2]) (rest := []) (C0 := [wX6 K a0 o_this]) (C1 := [wX6 K a0 o_this]) (Rr := []) (S' := [wX6 K a0 o_this]) F h hl (c6_isState l D K a0 x2 o_this q5 h5) [0] rfl rfl rfl rfl rfl (i := 0) rfl rfl w54 ⟨w55, w56, w57, w2⟩ hsc6_isState ⟨Nat.le_of_ble_eq_true rfl, Nat.le_of_ble_eq_true rfl⟩ ⟨Nat.le_refl 0, Nat.le_refl 0⟩ (Nat.le_of_ble_eq_true rfl) dX6_enter_17 (fun H locs h => ?_)
      refine lv_if_eq (tgt := 45) hx hb dX6_enter_20 (by decide) (fun c6 => ?_) (fun c6 => ?_)
      · have hf := ifp hf c6
        refine lv_iconst (v := (-1)) hx hb dX6_enter_45 (by decide) ?_
        obtain rfl := sor hf
        exact r_reti F h dX6_enter_46
      · have hf := ifn hf c6
        refine lv_iload hx hb dX6_enter_23 (lv_at hl 4 rfl) ?_
        refine lv_iconst (v := 0) hx hb dX6_enter_25 (by decide) ?_
        refine lv_bipush (v := 20) hx hb dX6_enter_26 (by decide) ?_
        obtain ⟨q7, h7, hf⟩ := asb hf
        refine r_callS (As := [.int x3, .int 0, .int 20]) (rest := []) F h hl (c6_in l D K x3 0 20 q7 h7) w3 ⟨w0, w1, w2⟩ hsc6_in ⟨Nat.le_of_ble_eq_true rfl, Nat.le_of_ble_eq_true rfl⟩ ⟨Nat.le_refl 0, Nat.le_refl 0⟩ (Nat.le_of_ble_eq_true rfl) dX6_enter_28 (fun H locs h => ?_)
        refine lv_if_eq (tgt := 45) hx hb dX6_enter_31 (by decide) (fun c8 => ?_) (fun c8 => ?_)
        · have hf := ifp hf c8
          refine lv_iconst (v := (-1)) hx hb dX6_enter_45 (by decide) ?_
          obtain rfl := sor hf
          exact r_reti F h dX6_enter_46
        · have hf := ifn hf c8
          refine lv_iload hx hb dX6_enter_34 (lv_at hl 5 rfl) ?_
          refine lv_iconst (v := 0) hx hb dX6_enter_36 (by decide) ?_
          refine lv_bipush (v := 9) hx hb dX6_enter_37 (by decide) ?_
          obtain ⟨q9, h9, hf⟩ := asb hf
          refine r_callS (As := [.int x4, .int 0, .int 9]) (rest := []) F h hl (c6_in l D K x4 0 9 q9 h9) w3 ⟨w0, w1, w2⟩ hsc6_in ⟨Nat.le_of_ble_eq_true rfl, Nat.le_of_ble_eq_true rfl⟩ ⟨Nat.le_refl 0, Nat.le_refl 0⟩ (Nat.le_of_ble_eq_true rfl) dX6_enter_39 (fun H locs h => ?_)
          refine lv_if_ne (tgt := 47) hx hb dX6_enter_42 (by decide) (fun c10 => ?_) (fun c10 => ?_)
          · have hf := ifn hf c10
            refine lv_aload_n hx hb dX6_enter_47 rfl (lv_at hl 0 rfl) ?_
            refine r_get F h (i := 0) (k := 1) (.int (o_this.1 1)) inX6 rfl (by decide) w4 rfl rfl rfl dX6_enter_48 ?_
            refine lv_bipush (v := 10) hx hb dX6_enter_51 (by decide) ?_
            refine lv_icmp_ne (tgt := 59) hx hb dX6_enter_53 (by decide) (fun c11 => ?_) (fun c11 => ?_)
            · have hf := ifn hf c11
              refine lv_aload_n hx hb dX6_enter_59 rfl (lv_at hl 0 rfl) ?_
              obtain ⟨q12, h12, hf⟩ := asb hf
              refine r_callVv (As := []) (rest := []) (C0 := [wX6 K a0 o_this]) (C1 := [wX6 K a0 q12]) (Rr := []) (S' := [wX6 K a0 q12]) F h hl (c6_notes l D K a0 o_this q12 h12) [0] rfl rfl rfl rfl rfl (i := 0) rfl rfl w42 ⟨w43, w44, w45, w2⟩ hsc6_notes ⟨Nat.le_of_ble_eq_true rfl, Nat.le_of_ble_eq_true rfl⟩ ⟨Nat.le_refl 0, Nat.le_refl 0⟩ (Nat.le_of_ble_eq_true rfl) dX6_enter_60 (fun H locs h => ?_)
              refine lv_aload_n hx hb dX6_enter_63 rfl (lv_at hl 0 rfl) ?_
              refine lv_iload_n hx hb dX6_enter_64 rfl (lv_at hl 1 rfl) ?_
              refine lv_iload_n hx hb dX6_enter_65 rfl (lv_at hl 2 rfl) ?_
              refine lv_iload_n hx hb dX6_enter_66 rfl (lv_at hl 3 rfl) ?_
              refine lv_iload hx hb dX6_enter_67 (lv_at hl 4 rfl) ?_
              refine lv_iload hx hb dX6_enter_69 (lv_at hl 5 rfl) ?_
              obtain ⟨q13, h13, hf⟩ := asb hf
              refine r_callVv (As := [.int x0, .int x1, .int x2, .int x3, .int x4]) (rest := []) (C0 := [wX6 K a0 q12]) (C1 := [wX6 K a0 q13]) (Rr := []) (S' := [wX6 K a0 q13]) F h hl (c6_enters l D K a0 x0 x1 x2 x3 x4 q12 q13 h13) [0] rfl rfl rfl rfl rfl (i := 0) rfl rfl w58 ⟨w59, w60, w61, w2⟩ hsc6_enters ⟨Nat.le_of_ble_eq_true rfl, Nat.le_of_ble_eq_true rfl⟩ ⟨Nat.le_refl 0, Nat.le_refl 0⟩ (Nat.le_of_ble_eq_true rfl) dX6_enter_71 (fun H locs h => ?_)
              refine lv_aload_n hx hb dX6_enter_74 rfl (lv_at hl 0 rfl) ?_
              refine r_get F h (i := 0) (k := 1) (.int (q13.1 1)) inX6 rfl (by decide) w4 rfl rfl rfl dX6_enter_75 ?_
              refine lv_iconst (v := 1) hx hb dX6_enter_78 (by decide) ?_
              refine lv_isub hx hb dX6_enter_79 ?_
              obtain rfl := sor hf
              exact r_reti F h dX6_enter_80
            · have hf := ifp hf c11
              refine lv_bipush (v := (-3)) hx hb dX6_enter_56 (by decide) ?_
              obtain rfl := sor hf
              exact r_reti F h dX6_enter_58
          · have hf := ifp hf c10
            refine lv_iconst (v := (-1)) hx hb dX6_enter_45 (by decide) ?_
            obtain rfl := sor hf
            exact r_reti F h dX6_enter_46
def f6_drop_L40 (z7 : Int32 × ob) : Option (Nat × (Int32 × ob)) :=
  (if (7 * (z7.2.1 1)) ≤ z7.1 then (some (1, (z7.1, z7.2))) else (gd (vin (z7.1 + 7) 70) <| gd (vin z7.1 70) <| lt (sA z7.2 2 z7.1.toNatClampNeg (z7.2.2 2 (z7.1 + 7).toNatClampNeg)) fun t11 => lt (z7.1 + 1) fun y12 => some (0, (y12, t11))))
noncomputable def f6_drop (x0 : Int32) (o_this : ob) : Option (Int32 × ob) :=
  (f6_isRule x0 o_this).bind fun q1 => (if q1 = 0 then (some ((-1), o_this)) else ((if (o_this.1 1) = 1 then (some ((-2), o_this)) else ((f6_notes o_this).bind fun q4 => lt (sI q4 1 ((q4.1 1) - 1)) fun t5 => lt (7 * x0) fun y6 => (wh f6_drop_L40 (y6, t5)).bind fun q7 => some (q7.2.2.1 1, q7.2.2)))))
set_option maxRecDepth 100000 in
set_option maxHeartbeats 4000000 in
theorem c6_drop (l : Launch) (D : va_G) (K : Nat → ClassId) (a0 : Nat → Nat) (x0 : Int32) (o_this : ob) (r : Int32 × ob) (hf : f6_drop x0 o_this = some r) : CTi l yX6_drop cX6_drop 3 (some .int) 2 44 D K [.ref (a0 0), .int x0] [wX6 K a0 o_this] [wX6 K a0 r.2] r.1 := by
  unfold f6_drop at hf
  have hf := tob hf
  refine entI (by decide) (Nat.le_of_ble_eq_true rfl) (fun P e s m args below meth c A ls F h hl hin => ?_)
  have hx := F.1
  have hb := F.2.1
  have hl : lv_has ls 3 [(0, .ref (a0 0)), (1, .int x0)] := hl
  refine lv_aload_n hx hb dX6_drop_0 rfl (lv_at hl 0 rfl) ?_
  refine lv_iload_n hx hb dX6_drop_1 rfl (lv_at hl 1 rfl) ?_
  obtain ⟨q1, h1, hf⟩ := asb hf
  refine r_callVi (As := [.int x0]) (rest := []) (C0 := [wX6 K a0 o_this]) (C1 := [wX6 K a0 o_this]) (Rr := []) (S' := [wX6 K a0 o_this]) F h hl (c6_isRule l D K a0 x0 o_this q1 h1) [0] rfl rfl rfl rfl rfl (i := 0) rfl rfl w7 ⟨w8, w9, w10, w2⟩ hsc6_isRule ⟨Nat.le_of_ble_eq_true rfl, Nat.le_of_ble_eq_true rfl⟩ ⟨Nat.le_refl 0, Nat.le_refl 0⟩ (Nat.le_of_ble_eq_true rfl) dX6_drop_2 (fun H locs h => ?_)
  refine lv_if_ne (tgt := 10) hx hb dX6_drop_5 (by decide) (fun c2 => ?_) (fun c2 => ?_)
  · have hf := ifn hf c2
    refine lv_aload_n hx hb dX6_drop_10 rfl (lv_at hl 0 rfl) ?_
    refine r_get F h (i := 0) (k := 1) (.int (o_this.1 1)) inX6 rfl (by decide) w4 rfl rfl rfl dX6_drop_11 ?_
    refine lv_iconst (v := 1) hx hb dX6_drop_14 (by decide) ?_
    refine lv_icmp_ne (tgt := 21) hx hb dX6_drop_15 (by decide) (fun c3 => ?_) (fun c3 => ?_)
    · have hf := ifn hf c3
      refine lv_aload_n hx hb dX6_drop_21 rfl (lv_at hl 0 rfl) ?_
      obtain ⟨q4, h4, hf⟩ := asb hf
      refine r_callVv (As := []) (rest := []) (C0 := [wX6 K a0 o_this]) (C1 := [wX6 K a0 q4]) (Rr := []) (S' := [wX6 K a0 q4]) F h hl (c6_notes l D K a0 o_this q4 h4) [0] rfl rfl rfl rfl rfl (i := 0) rfl rfl w42 ⟨w43, w44, w45, w2⟩ hsc6_notes ⟨Nat.le_of_ble_eq_true rfl, Nat.le_of_ble_eq_true rfl⟩ ⟨Nat.le_refl 0, Nat.le_refl 0⟩ (Nat.le_of_ble_eq_true rfl) dX6_drop_22 (fun H locs h => ?_)
      refine lv_aload_n hx hb dX6_drop_25 rfl (lv_at hl 0 rfl) ?_
      refine lv_dup hx hb dX6_drop_26 rfl ?_
      refine r_get F h (i := 0) (k := 1) (.int (q4.1 1)) inX6 rfl (by decide) w4 rfl rfl rfl dX6_drop_27 ?_
      refine lv_iconst (v := 1) hx hb dX6_drop_30 (by decide) ?_
      refine lv_isub hx hb dX6_drop_31 ?_
      refine r_put (o1 := sI q4 1 ((q4.1 1) - 1)) (w := fun t5 => wX6 K a0 t5) (S' := fun t5 => [wX6 K a0 t5]) F h (i := 0) (k := 1) inX6 tyX6_ok nmX6 rfl (by decide) w4 rfl rfl rfl rfl rfl (Nat.le_of_ble_eq_true rfl) rfl (fun _ => rfl) dX6_drop_32 (fun t5 e5 H locs h => ?_)
      have hf := ltb hf e5
      refine lv_bipush (v := 7) hx hb dX6_drop_35 (by decide) ?_
      refine lv_iload_n hx hb dX6_drop_37 rfl (lv_at hl 1 rfl) ?_
      refine lv_imul hx hb dX6_drop_38 ?_
      refine lv_topi (fun y6 e6 => ?_)
      have hf := ltb hf e6
      refine lv_istore_n (lv' := [(2, .int y6), (0, .ref (a0 0)), (1, .int x0)]) hx hb dX6_drop_39 rfl hl (by decide) rfl (fun ls hl => ?_)
      obtain ⟨q7, hq7, hf⟩ := asb hf
      obtain ⟨nq7, hq7⟩ := wh_out hq7
      have Xq7_1 : ∀ (z7 : Int32 × ob) (H : Heap) (locs : List Loc) (ls : Array Slot), q7 = (1, z7) → WD D A s.heap H locs [wX6 K a0 z7.2] → lv_has ls 3 [(0, .ref (a0 0))] → W P l e (rmS 2 44) s m args below meth c H locs 0 0 (MQ below (QiS D A [wX6 K a0 r.2] r.1) args s 0 0 A) (F0 m 72 ls []) := by
        intro z7 H locs ls eq7 h hl
        obtain rfl : z7 = q7.2 := by rw [eq7]
        refine lv_aload_n hx hb dX6_drop_72 rfl (lv_at hl 0 rfl) ?_
        refine r_get F h (i := 0) (k := 1) (.int (q7.2.2.1 1)) inX6 rfl (by decide) w4 rfl rfl rfl dX6_drop_73 ?_
        obtain rfl := sor hf
        exact r_reti F h dX6_drop_76
      have Lq7 : ∀ (n : Nat) (z7 : Int32 × ob) (H : Heap) (locs : List Loc) (ls : Array Slot), iter f6_drop_L40 n z7 = some q7 → WD D A s.heap H locs [wX6 K a0 z7.2] → lv_has ls 3 [(0, .ref (a0 0)), (2, .int z7.1)] → W P l e (rmS 2 44) s m args below meth c H locs 0 0 (MQ below (QiS D A [wX6 K a0 r.2] r.1) args s 0 0 A) (F0 m 40 ls []) := by
        intro n
        induction n with
        | zero => intro z7 H locs ls hi; exact (iter_0 hi).elim
        | succ n ihq7 =>
          intro z7 H locs ls hi h hl
          obtain ⟨uq7, hf, huq7⟩ := iter_s hi
          unfold f6_drop_L40 at hf
          have hf := tob hf
          refine lv_iload_n hx hb dX6_drop_40 rfl (lv_at hl 1 rfl) ?_
          refine lv_bipush (v := 7) hx hb dX6_drop_41 (by decide) ?_
          refine lv_aload_n hx hb dX6_drop_43 rfl (lv_at hl 0 rfl) ?_
          refine r_get F h (i := 0) (k := 1) (.int (z7.2.1 1)) inX6 rfl (by decide) w4 rfl rfl rfl dX6_drop_44 ?_
          refine lv_imul hx hb dX6_drop_47 ?_
          refine lv_icmp_ge (tgt := 72) hx hb dX6_drop_48 (by decide) (fun c8 => ?_) (fun c8 => ?_)
          · have hf := ifp hf c8
            exact Xq7_1 _ _ _ _ (itr_x huq7 (sor hf)) h (lv_sub hl [0] rfl)
          · have hf := ifn hf c8
            refine lv_aload_n hx hb dX6_drop_51 rfl (lv_at hl 0 rfl) ?_
            refine r_get F h (i := 0) (k := 2) (.ref (a0 3)) inX6 rfl (by decide) w6 rfl rfl rfl dX6_drop_52 ?_
            refine lv_iload_n hx hb dX6_drop_55 rfl (lv_at hl 1 rfl) ?_
            refine lv_aload_n hx hb dX6_drop_56 rfl (lv_at hl 0 rfl) ?_
            refine r_get F h (i := 0) (k := 2) (.ref (a0 3)) inX6 rfl (by decide) w6 rfl rfl rfl dX6_drop_57 ?_
            refine lv_iload_n hx hb dX6_drop_60 rfl (lv_at hl 1 rfl) ?_
            refine lv_bipush (v := 7) hx hb dX6_drop_61 (by decide) ?_
            refine lv_iadd hx hb dX6_drop_63 ?_
            obtain ⟨g9, hf⟩ := gdb hf
            refine r_iald F h (i := 0) (j := 1) rfl rfl (vin_ok g9) dX6_drop_64 ?_
            obtain ⟨g10, hf⟩ := gdb hf
            refine r_iast (o1 := sA z7.2 2 z7.1.toNatClampNeg (z7.2.2 2 (z7.1 + 7).toNatClampNeg)) (w := fun t11 => wX6 K a0 t11) (S' := fun t11 => [wX6 K a0 t11]) F h (i := 0) (j := 1) rfl rfl (vin_ok g10) rfl (fun _ => rfl) dX6_drop_65 (fun t11 e11 H locs h => ?_)
            have hf := ltb hf e11
            obtain ⟨y12, e12⟩ : ∃ y : Int32, y = z7.1 + 1 := ⟨_, rfl⟩
            have hf := ltb hf e12
            refine lv_iinc (v := y12) (lv' := [(2, .int y12), (0, .ref (a0 0))]) hx hb dX6_drop_66 hl (k := 1) rfl (by rw [e12]; rfl) (by decide) rfl (fun ls hl => ?_)
            refine lv_goto (tgt := 40) hx hb dX6_drop_69 (by decide) ?_
            exact ihq7 _ _ _ _ (itr_c huq7 (sor hf)) h (lv_sub hl [1, 0] rfl)
      exact Lq7 _ _ _ _ _ hq7 h (lv_sub hl [1, 0] rfl)
    · have hf := ifp hf c3
      refine lv_bipush (v := (-2)) hx hb dX6_drop_18 (by decide) ?_
      obtain rfl := sor hf
      exact r_reti F h dX6_drop_20
  · have hf := ifp hf c2
    refine lv_iconst (v := (-1)) hx hb dX6_drop_8 (by decide) ?_
    obtain rfl := sor hf
    exact r_reti F h dX6_drop_9
noncomputable def f6_weigh (x0 : Int32) (x1 : Int32) (o_this : ob) : Option (Int32 × ob) :=
  (f6_isRule x0 o_this).bind fun q1 => (if q1 = 0 then (some ((-1), o_this)) else ((f6_in x1 0 9).bind fun q3 => (if q3 = 0 then (some ((-1), o_this)) else (gd (vin ((7 * x0) + 6) 70) <| lt (o_this.2 2 ((7 * x0) + 6).toNatClampNeg) fun y6 => (if y6 = x1 then (some ((-2), o_this)) else ((f6_notes o_this).bind fun q8 => gd (vin ((7 * x0) + 6) 70) <| lt (sA q8 2 ((7 * x0) + 6).toNatClampNeg x1) fun t10 => some (y6, t10)))))))
set_option maxRecDepth 100000 in
set_option maxHeartbeats 4000000 in
theorem c6_weigh (l : Launch) (D : va_G) (K : Nat → ClassId) (a0 : Nat → Nat) (x0 : Int32) (x1 : Int32) (o_this : ob) (r : Int32 × ob) (hf : f6_weigh x0 x1 o_this = some r) : CTi l yX6_weigh cX6_weigh 4 (some .int) 2 44 D K [.ref (a0 0), .int x0, .int x1] [wX6 K a0 o_this] [wX6 K a0 r.2] r.1 := by
  unfold f6_weigh at hf
  have hf := tob hf
  refine entI (by decide) (Nat.le_of_ble_eq_true rfl) (fun P e s m args below meth c A ls F h hl hin => ?_)
  have hx := F.1
  have hb := F.2.1
  have hl : lv_has ls 4 [(0, .ref (a0 0)), (1, .int x0), (2, .int x1)] := hl
  refine lv_aload_n hx hb dX6_weigh_0 rfl (lv_at hl 0 rfl) ?_
  refine lv_iload_n hx hb dX6_weigh_1 rfl (lv_at hl 1 rfl) ?_
  obtain ⟨q1, h1, hf⟩ := asb hf
  refine r_callVi (As := [.int x0]) (rest := []) (C0 := [wX6 K a0 o_this]) (C1 := [wX6 K a0 o_this]) (Rr := []) (S' := [wX6 K a0 o_this]) F h hl (c6_isRule l D K a0 x0 o_this q1 h1) [0] rfl rfl rfl rfl rfl (i := 0) rfl rfl w7 ⟨w8, w9, w10, w2⟩ hsc6_isRule ⟨Nat.le_of_ble_eq_true rfl, Nat.le_of_ble_eq_true rfl⟩ ⟨Nat.le_refl 0, Nat.le_refl 0⟩ (Nat.le_of_ble_eq_true rfl) dX6_weigh_2 (fun H locs h => ?_)
  refine lv_if_eq (tgt := 18) hx hb dX6_weigh_5 (by decide) (fun c2 => ?_) (fun c2 => ?_)
  · have hf := ifp hf c2
    refine lv_iconst (v := (-1)) hx hb dX6_weigh_18 (by decide) ?_
    obtain rfl := sor hf
    exact r_reti F h dX6_weigh_19
  · have hf := ifn hf c2
    refine lv_iload_n hx hb dX6_weigh_8 rfl (lv_at hl 2 rfl) ?_
    refine lv_iconst (v := 0) hx hb dX6_weigh_9 (by decide) ?_
    refine lv_bipush (v := 9) hx hb dX6_weigh_10 (by decide) ?_
    obtain ⟨q3, h3, hf⟩ := asb hf
    refine r_callS (As := [.int x1, .int 0, .int 9]) (rest := []) F h hl (c6_in l D K x1 0 9 q3 h3) w3 ⟨w0, w1, w2⟩ hsc6_in ⟨Nat.le_of_ble_eq_true rfl, Nat.le_of_ble_eq_true rfl⟩ ⟨Nat.le_refl 0, Nat.le_refl 0⟩ (Nat.le_of_ble_eq_true rfl) dX6_weigh_12 (fun H locs h => ?_)
    refine lv_if_ne (tgt := 20) hx hb dX6_weigh_15 (by decide) (fun c4 => ?_) (fun c4 => ?_)
    · have hf := ifn hf c4
      refine lv_aload_n hx hb dX6_weigh_20 rfl (lv_at hl 0 rfl) ?_
      refine r_get F h (i := 0) (k := 2) (.ref (a0 3)) inX6 rfl (by decide) w6 rfl rfl rfl dX6_weigh_21 ?_
      refine lv_bipush (v := 7) hx hb dX6_weigh_24 (by decide) ?_
      refine lv_iload_n hx hb dX6_weigh_26 rfl (lv_at hl 1 rfl) ?_
      refine lv_imul hx hb dX6_weigh_27 ?_
      refine lv_bipush (v := 6) hx hb dX6_weigh_28 (by decide) ?_
      refine lv_iadd hx hb dX6_weigh_30 ?_
      obtain ⟨g5, hf⟩ := gdb hf
      refine r_iald F h (i := 0) (j := 1) rfl rfl (vin_ok g5) dX6_weigh_31 ?_
      refine lv_topi (fun y6 e6 => ?_)
      have hf := ltb hf e6
      refine lv_istore_n (lv' := [(3, .int y6), (0, .ref (a0 0)), (1, .int x0), (2, .int x1)]) hx hb dX6_weigh_32 rfl hl (by decide) rfl (fun ls hl => ?_)
      refine lv_iload_n hx hb dX6_weigh_33 rfl (lv_at hl 0 rfl) ?_
      refine lv_iload_n hx hb dX6_weigh_34 rfl (lv_at hl 3 rfl) ?_
      refine lv_icmp_ne (tgt := 41) hx hb dX6_weigh_35 (by decide) (fun c7 => ?_) (fun c7 => ?_)
      · have hf := ifn hf c7
        refine lv_aload_n hx hb dX6_weigh_41 rfl (lv_at hl 1 rfl) ?_
        obtain ⟨q8, h8, hf⟩ := asb hf
        refine r_callVv (As := []) (rest := []) (C0 := [wX6 K a0 o_this]) (C1 := [wX6 K a0 q8]) (Rr := []) (S' := [wX6 K a0 q8]) F h hl (c6_notes l D K a0 o_this q8 h8) [0] rfl rfl rfl rfl rfl (i := 0) rfl rfl w42 ⟨w43, w44, w45, w2⟩ hsc6_notes ⟨Nat.le_of_ble_eq_true rfl, Nat.le_of_ble_eq_true rfl⟩ ⟨Nat.le_refl 0, Nat.le_refl 0⟩ (Nat.le_of_ble_eq_true rfl) dX6_weigh_42 (fun H locs h => ?_)
        refine lv_aload_n hx hb dX6_weigh_45 rfl (lv_at hl 1 rfl) ?_
        refine r_get F h (i := 0) (k := 2) (.ref (a0 3)) inX6 rfl (by decide) w6 rfl rfl rfl dX6_weigh_46 ?_
        refine lv_bipush (v := 7) hx hb dX6_weigh_49 (by decide) ?_
        refine lv_iload_n hx hb dX6_weigh_51 rfl (lv_at hl 2 rfl) ?_
        refine lv_imul hx hb dX6_weigh_52 ?_
        refine lv_bipush (v := 6) hx hb dX6_weigh_53 (by decide) ?_
        refine lv_iadd hx hb dX6_weigh_55 ?_
        refine lv_iload_n hx hb dX6_weigh_56 rfl (lv_at hl 3 rfl) ?_
        obtain ⟨g9, hf⟩ := gdb hf
        refine r_iast (o1 := sA q8 2 ((7 * x0) + 6).toNatClampNeg x1) (w := fun t10 => wX6 K a0 t10) (S' := fun t10 => [wX6 K a0 t10]) F h (i := 0) (j := 1) rfl rfl (vin_ok g9) rfl (fun _ => rfl) dX6_weigh_57 (fun t10 e10 H locs h => ?_)
        have hf := ltb hf e10
        refine lv_iload_n hx hb dX6_weigh_58 rfl (lv_at hl 0 rfl) ?_
        obtain rfl := sor hf
        exact r_reti F h dX6_weigh_59
      · have hf := ifp hf c7
        refine lv_bipush (v := (-2)) hx hb dX6_weigh_38 (by decide) ?_
        obtain rfl := sor hf
        exact r_reti F h dX6_weigh_40
    · have hf := ifp hf c4
      refine lv_iconst (v := (-1)) hx hb dX6_weigh_18 (by decide) ?_
      obtain rfl := sor hf
      exact r_reti F h dX6_weigh_19
noncomputable def f6_mode (x0 : Int32) (o_this : ob) : Option (Int32 × ob) :=
  (f6_in x0 0 2).bind fun q1 => (if q1 = 0 then (some ((-1), o_this)) else ((if x0 = (o_this.1 8) then (some ((-2), o_this)) else ((f6_notes o_this).bind fun q4 => lt (q4.1 8) fun y5 => lt (sI q4 8 x0) fun t6 => some (y5, t6)))))
set_option maxRecDepth 100000 in
set_option maxHeartbeats 4000000 in
theorem c6_mode (l : Launch) (D : va_G) (K : Nat → ClassId) (a0 : Nat → Nat) (x0 : Int32) (o_this : ob) (r : Int32 × ob) (hf : f6_mode x0 o_this = some r) : CTi l yX6_mode cX6_mode 3 (some .int) 2 44 D K [.ref (a0 0), .int x0] [wX6 K a0 o_this] [wX6 K a0 r.2] r.1 := by
  unfold f6_mode at hf
  have hf := tob hf
  refine entI (by decide) (Nat.le_of_ble_eq_true rfl) (fun P e s m args below meth c A ls F h hl hin => ?_)
  have hx := F.1
  have hb := F.2.1
  have hl : lv_has ls 3 [(0, .ref (a0 0)), (1, .int x0)] := hl
  refine lv_iload_n hx hb dX6_mode_0 rfl (lv_at hl 1 rfl) ?_
  refine lv_iconst (v := 0) hx hb dX6_mode_1 (by decide) ?_
  refine lv_iconst (v := 2) hx hb dX6_mode_2 (by decide) ?_
  obtain ⟨q1, h1, hf⟩ := asb hf
  refine r_callS (As := [.int x0, .int 0, .int 2]) (rest := []) F h hl (c6_in l D K x0 0 2 q1 h1) w3 ⟨w0, w1, w2⟩ hsc6_in ⟨Nat.le_of_ble_eq_true rfl, Nat.le_of_ble_eq_true rfl⟩ ⟨Nat.le_refl 0, Nat.le_refl 0⟩ (Nat.le_of_ble_eq_true rfl) dX6_mode_3 (fun H locs h => ?_)
  refine lv_if_ne (tgt := 11) hx hb dX6_mode_6 (by decide) (fun c2 => ?_) (fun c2 => ?_)
  · have hf := ifn hf c2
    refine lv_iload_n hx hb dX6_mode_11 rfl (lv_at hl 1 rfl) ?_
    refine lv_aload_n hx hb dX6_mode_12 rfl (lv_at hl 0 rfl) ?_
    refine r_get F h (i := 0) (k := 8) (.int (o_this.1 8)) inX6 rfl (by decide) w29 rfl rfl rfl dX6_mode_13 ?_
    refine lv_icmp_ne (tgt := 22) hx hb dX6_mode_16 (by decide) (fun c3 => ?_) (fun c3 => ?_)
    · have hf := ifn hf c3
      refine lv_aload_n hx hb dX6_mode_22 rfl (lv_at hl 0 rfl) ?_
      obtain ⟨q4, h4, hf⟩ := asb hf
      refine r_callVv (As := []) (rest := []) (C0 := [wX6 K a0 o_this]) (C1 := [wX6 K a0 q4]) (Rr := []) (S' := [wX6 K a0 q4]) F h hl (c6_notes l D K a0 o_this q4 h4) [0] rfl rfl rfl rfl rfl (i := 0) rfl rfl w42 ⟨w43, w44, w45, w2⟩ hsc6_notes ⟨Nat.le_of_ble_eq_true rfl, Nat.le_of_ble_eq_true rfl⟩ ⟨Nat.le_refl 0, Nat.le_refl 0⟩ (Nat.le_of_ble_eq_true rfl) dX6_mode_23 (fun H locs h => ?_)
      refine lv_aload_n hx hb dX6_mode_26 rfl (lv_at hl 0 rfl) ?_
      refine r_get F h (i := 0) (k := 8) (.int (q4.1 8)) inX6 rfl (by decide) w29 rfl rfl rfl dX6_mode_27 ?_
      refine lv_topi (fun y5 e5 => ?_)
      have hf := ltb hf e5
      refine lv_istore_n (lv' := [(2, .int y5), (0, .ref (a0 0)), (1, .int x0)]) hx hb dX6_mode_30 rfl hl (by decide) rfl (fun ls hl => ?_)
      refine lv_aload_n hx hb dX6_mode_31 rfl (lv_at hl 1 rfl) ?_
      refine lv_iload_n hx hb dX6_mode_32 rfl (lv_at hl 2 rfl) ?_
      refine r_put (o1 := sI q4 8 x0) (w := fun t6 => wX6 K a0 t6) (S' := fun t6 => [wX6 K a0 t6]) F h (i := 0) (k := 8) inX6 tyX6_ok nmX6 rfl (by decide) w29 rfl rfl rfl rfl rfl (Nat.le_of_ble_eq_true rfl) rfl (fun _ => rfl) dX6_mode_33 (fun t6 e6 H locs h => ?_)
      have hf := ltb hf e6
      refine lv_iload_n hx hb dX6_mode_36 rfl (lv_at hl 0 rfl) ?_
      obtain rfl := sor hf
      exact r_reti F h dX6_mode_37
    · have hf := ifp hf c3
      refine lv_bipush (v := (-2)) hx hb dX6_mode_19 (by decide) ?_
      obtain rfl := sor hf
      exact r_reti F h dX6_mode_21
  · have hf := ifp hf c2
    refine lv_iconst (v := (-1)) hx hb dX6_mode_9 (by decide) ?_
    obtain rfl := sor hf
    exact r_reti F h dX6_mode_10
