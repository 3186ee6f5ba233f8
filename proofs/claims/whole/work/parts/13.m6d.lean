def f6_goesBy_L88 (z2 : Int32 × ob) : Option (Nat × (Int32 × ob)) :=
  (if 13 ≤ z2.1 then (some (1, (z2.1, z2.2))) else (gd (vin z2.1 13) <| gd (vin z2.1 13) <| lt (sA z2.2 23 z2.1.toNatClampNeg (z2.2.2 24 z2.1.toNatClampNeg)) fun t6 => lt (z2.1 + 1) fun y7 => some (0, (y7, t6))))
def f6_goesBy_L17 (g0 : Int32) (g2 : Int32) (z11 : Int32 × ob) : Option (Nat × (Int32 × ob)) :=
  (if 13 ≤ z11.1 then (some (1, (z11.1, z11.2))) else ((f6_place g2 g0 z11.1).bind fun q14 => gd (vin q14 676) <| lt (z11.2.2 13 q14.toNatClampNeg) fun y16 => ((if y16 < 0 then (some z11.2) else (gd (vin z11.1 13) <| (if (z11.2.2 23 z11.1.toNatClampNeg) < 0 then (some z11.2) else (gd (vin g2 13) <| gd (vin z11.1 13) <| (f6_lesser (z11.2.2 24 g2.toNatClampNeg) (y16 + (z11.2.2 23 z11.1.toNatClampNeg))).bind fun q24 => gd (vin g2 13) <| lt (sA z11.2 24 g2.toNatClampNeg q24) fun t26 => some t26))))).bind fun v17 => lt (z11.1 + 1) fun y18 => some (0, (y18, v17))))
noncomputable def f6_goesBy_L2 (g0 : Int32) (z1 : Int32 × ob) : Option (Nat × (Int32 × ob)) :=
  (if 13 ≤ z1.1 then (some (1, (z1.1, z1.2))) else (gd (vin z1.1 13) <| lt (sA z1.2 24 z1.1.toNatClampNeg (-1)) fun t10 => (wh (f6_goesBy_L17 g0 z1.1) (0, t10)).bind fun q11 => lt (z1.1 + 1) fun y12 => some (0, (y12, q11.2.2))))
noncomputable def f6_goesBy (x0 : Int32) (o_this : ob) : Option (ob) :=
  (wh (f6_goesBy_L2 x0) (0, o_this)).bind fun q1 => (wh f6_goesBy_L88 (0, q1.2.2)).bind fun q2 => some q2.2.2
set_option maxRecDepth 100000 in
set_option maxHeartbeats 4000000 in
theorem c6_goesBy (l : Launch) (D : va_G) (K : Nat → ClassId) (a0 : Nat → Nat) (x0 : Int32) (o_this : ob) (r : ob) (hf : f6_goesBy x0 o_this = some r) : CTv l yX6_goesBy cX6_goesBy 5 1 22 D K [.ref (a0 0), .int x0] [wX6 K a0 o_this] [wX6 K a0 r] := by
  unfold f6_goesBy at hf
  have hf := tob hf
  refine entV (by decide) (Nat.le_of_ble_eq_true rfl) (fun P e s m args below meth c A ls F h hl hin => ?_)
  have hx := F.1
  have hb := F.2.1
  have hl : lv_has ls 5 [(0, .ref (a0 0)), (1, .int x0)] := hl
  refine lv_iconst (v := 0) hx hb dX6_goesBy_0 (by decide) ?_
  refine lv_istore_n (lv' := [(2, .int 0), (0, .ref (a0 0)), (1, .int x0)]) hx hb dX6_goesBy_1 rfl hl (by decide) rfl (fun ls hl => ?_)
  obtain ⟨q1, hq1, hf⟩ := asb hf
  obtain ⟨nq1, hq1⟩ := wh_out hq1
  have Xq1_1 : ∀ (z1 : Int32 × ob) (H : Heap) (locs : List Loc) (ls : Array Slot), q1 = (1, z1) → WD D A s.heap H locs [wX6 K a0 z1.2] → lv_has ls 5 [(0, .ref (a0 0))] → W P l e (rmS 1 22) s m args below meth c H locs 0 0 (MQ below (QvS D A [wX6 K a0 r]) args s 0 0 A) (F0 m 86 ls []) := by
    intro z1 H locs ls eq1 h hl
    obtain rfl : z1 = q1.2 := by rw [eq1]
    refine lv_iconst (v := 0) hx hb dX6_goesBy_86 (by decide) ?_
    refine lv_istore_n (lv' := [(2, .int 0), (0, .ref (a0 0))]) hx hb dX6_goesBy_87 rfl hl (by decide) rfl (fun ls hl => ?_)
    obtain ⟨q2, hq2, hf⟩ := asb hf
    obtain ⟨nq2, hq2⟩ := wh_out hq2
    have Xq2_1 : ∀ (z2 : Int32 × ob) (H : Heap) (locs : List Loc) (ls : Array Slot), q2 = (1, z2) → WD D A s.heap H locs [wX6 K a0 z2.2] → lv_has ls 5 [] → W P l e (rmS 1 22) s m args below meth c H locs 0 0 (MQ below (QvS D A [wX6 K a0 r]) args s 0 0 A) (F0 m 112 ls []) := by
      intro z2 H locs ls eq2 h hl
      obtain rfl : z2 = q2.2 := by rw [eq2]
      obtain rfl := sor hf
      exact r_retv F h dX6_goesBy_112
    have Lq2 : ∀ (n : Nat) (z2 : Int32 × ob) (H : Heap) (locs : List Loc) (ls : Array Slot), iter f6_goesBy_L88 n z2 = some q2 → WD D A s.heap H locs [wX6 K a0 z2.2] → lv_has ls 5 [(0, .ref (a0 0)), (2, .int z2.1)] → W P l e (rmS 1 22) s m args below meth c H locs 0 0 (MQ below (QvS D A [wX6 K a0 r]) args s 0 0 A) (F0 m 88 ls []) := by
      intro n
      induction n with
      | zero => intro z2 H locs ls hi; exact (iter_0 hi).elim
      | succ n ihq2 =>
        intro z2 H locs ls hi h hl
        obtain ⟨uq2, hf, huq2⟩ := iter_s hi
        unfold f6_goesBy_L88 at hf
        have hf := tob hf
        refine lv_iload_n hx hb dX6_goesBy_88 rfl (lv_at hl 1 rfl) ?_
        refine lv_bipush (v := 13) hx hb dX6_goesBy_89 (by decide) ?_
        refine lv_icmp_ge (tgt := 112) hx hb dX6_goesBy_91 (by decide) (fun c3 => ?_) (fun c3 => ?_)
        · have hf := ifp hf c3
          exact Xq2_1 _ _ _ _ (itr_x huq2 (sor hf)) h (lv_sub hl [] rfl)
        · have hf := ifn hf c3
          refine lv_aload_n hx hb dX6_goesBy_94 rfl (lv_at hl 0 rfl) ?_
          refine r_get F h (i := 0) (k := 23) (.ref (a0 24)) inX6 rfl (by decide) w122 rfl rfl rfl dX6_goesBy_95 ?_
          refine lv_iload_n hx hb dX6_goesBy_98 rfl (lv_at hl 1 rfl) ?_
          refine lv_aload_n hx hb dX6_goesBy_99 rfl (lv_at hl 0 rfl) ?_
          refine r_get F h (i := 0) (k := 24) (.ref (a0 25)) inX6 rfl (by decide) w123 rfl rfl rfl dX6_goesBy_100 ?_
          refine lv_iload_n hx hb dX6_goesBy_103 rfl (lv_at hl 1 rfl) ?_
          obtain ⟨g4, hf⟩ := gdb hf
          refine r_iald F h (i := 0) (j := 13) rfl rfl (vin_ok g4) dX6_goesBy_104 ?_
          obtain ⟨g5, hf⟩ := gdb hf
          refine r_iast (o1 := sA z2.2 23 z2.1.toNatClampNeg (z2.2.2 24 z2.1.toNatClampNeg)) (w := fun t6 => wX6 K a0 t6) (S' := fun t6 => [wX6 K a0 t6]) F h (i := 0) (j := 12) rfl rfl (vin_ok g5) rfl (fun _ => rfl) dX6_goesBy_105 (fun t6 e6 H locs h => ?_)
          have hf := ltb hf e6
          obtain ⟨y7, e7⟩ : ∃ y : Int32, y = z2.1 + 1 := ⟨_, rfl⟩
          have hf := ltb hf e7
          refine lv_iinc (v := y7) (lv' := [(2, .int y7), (0, .ref (a0 0))]) hx hb dX6_goesBy_106 hl (k := 1) rfl (by rw [e7]; rfl) (by decide) rfl (fun ls hl => ?_)
          refine lv_goto (tgt := 88) hx hb dX6_goesBy_109 (by decide) ?_
          exact ihq2 _ _ _ _ (itr_c huq2 (sor hf)) h (lv_sub hl [1, 0] rfl)
    exact Lq2 _ _ _ _ _ hq2 h (lv_sub hl [1, 0] rfl)
  have Lq1 : ∀ (n : Nat) (z1 : Int32 × ob) (H : Heap) (locs : List Loc) (ls : Array Slot), iter (f6_goesBy_L2 x0) n z1 = some q1 → WD D A s.heap H locs [wX6 K a0 z1.2] → lv_has ls 5 [(0, .ref (a0 0)), (1, .int x0), (2, .int z1.1)] → W P l e (rmS 1 22) s m args below meth c H locs 0 0 (MQ below (QvS D A [wX6 K a0 r]) args s 0 0 A) (F0 m 2 ls []) := by
    intro n
    induction n with
    | zero => intro z1 H locs ls hi; exact (iter_0 hi).elim
    | succ n ihq1 =>
      intro z1 H locs ls hi h hl
      obtain ⟨uq1, hf, huq1⟩ := iter_s hi
      unfold f6_goesBy_L2 at hf
      have hf := tob hf
      refine lv_iload_n hx hb dX6_goesBy_2 rfl (lv_at hl 2 rfl) ?_
      refine lv_bipush (v := 13) hx hb dX6_goesBy_3 (by decide) ?_
      refine lv_icmp_ge (tgt := 86) hx hb dX6_goesBy_5 (by decide) (fun c8 => ?_) (fun c8 => ?_)
      · have hf := ifp hf c8
        exact Xq1_1 _ _ _ _ (itr_x huq1 (sor hf)) h (lv_sub hl [0] rfl)
      · have hf := ifn hf c8
        refine lv_aload_n hx hb dX6_goesBy_8 rfl (lv_at hl 0 rfl) ?_
        refine r_get F h (i := 0) (k := 24) (.ref (a0 25)) inX6 rfl (by decide) w123 rfl rfl rfl dX6_goesBy_9 ?_
        refine lv_iload_n hx hb dX6_goesBy_12 rfl (lv_at hl 2 rfl) ?_
        refine lv_iconst (v := (-1)) hx hb dX6_goesBy_13 (by decide) ?_
        obtain ⟨g9, hf⟩ := gdb hf
        refine r_iast (o1 := sA z1.2 24 z1.1.toNatClampNeg (-1)) (w := fun t10 => wX6 K a0 t10) (S' := fun t10 => [wX6 K a0 t10]) F h (i := 0) (j := 13) rfl rfl (vin_ok g9) rfl (fun _ => rfl) dX6_goesBy_14 (fun t10 e10 H locs h => ?_)
        have hf := ltb hf e10
        refine lv_iconst (v := 0) hx hb dX6_goesBy_15 (by decide) ?_
        refine lv_istore_n (lv' := [(3, .int 0), (0, .ref (a0 0)), (1, .int x0), (2, .int z1.1)]) hx hb dX6_goesBy_16 rfl hl (by decide) rfl (fun ls hl => ?_)
        obtain ⟨q11, hq11, hf⟩ := asb hf
        obtain ⟨nq11, hq11⟩ := wh_out hq11
        have Xq11_1 : ∀ (z11 : Int32 × ob) (H : Heap) (locs : List Loc) (ls : Array Slot), q11 = (1, z11) → WD D A s.heap H locs [wX6 K a0 z11.2] → lv_has ls 5 [(0, .ref (a0 0)), (1, .int x0), (2, .int z1.1)] → W P l e (rmS 1 22) s m args below meth c H locs 0 0 (MQ below (QvS D A [wX6 K a0 r]) args s 0 0 A) (F0 m 80 ls []) := by
          intro z11 H locs ls eq11 h hl
          obtain rfl : z11 = q11.2 := by rw [eq11]
          obtain ⟨y12, e12⟩ : ∃ y : Int32, y = z1.1 + 1 := ⟨_, rfl⟩
          have hf := ltb hf e12
          refine lv_iinc (v := y12) (lv' := [(2, .int y12), (0, .ref (a0 0)), (1, .int x0)]) hx hb dX6_goesBy_80 hl (k := 2) rfl (by rw [e12]; rfl) (by decide) rfl (fun ls hl => ?_)
          refine lv_goto (tgt := 2) hx hb dX6_goesBy_83 (by decide) ?_
          exact ihq1 _ _ _ _ (itr_c huq1 (sor hf)) h (lv_sub hl [1, 2, 0] rfl)
        have Lq11 : ∀ (n : Nat) (z11 : Int32 × ob) (H : Heap) (locs : List Loc) (ls : Array Slot), iter (f6_goesBy_L17 x0 z1.1) n z11 = some q11 → WD D A s.heap H locs [wX6 K a0 z11.2] → lv_has ls 5 [(0, .ref (a0 0)), (1, .int x0), (2, .int z1.1), (3, .int z11.1)] → W P l e (rmS 1 22) s m args below meth c H locs 0 0 (MQ below (QvS D A [wX6 K a0 r]) args s 0 0 A) (F0 m 17 ls []) := by
          intro n
          induction n with
          | zero => intro z11 H locs ls hi; exact (iter_0 hi).elim
          | succ n ihq11 =>
            intro z11 H locs ls hi h hl
            obtain ⟨uq11, hf, huq11⟩ := iter_s hi
            unfold f6_goesBy_L17 at hf
            have hf := tob hf
            refine lv_iload_n hx hb dX6_goesBy_17 rfl (lv_at hl 3 rfl) ?_
            refine lv_bipush (v := 13) hx hb dX6_goesBy_18 (by decide) ?_
            refine lv_icmp_ge (tgt := 80) hx hb dX6_goesBy_20 (by decide) (fun c13 => ?_) (fun c13 => ?_)
            · have hf := ifp hf c13
              exact Xq11_1 _ _ _ _ (itr_x huq11 (sor hf)) h (lv_sub hl [0, 1, 2] rfl)
            · have hf := ifn hf c13
              refine lv_aload_n hx hb dX6_goesBy_23 rfl (lv_at hl 0 rfl) ?_
              refine r_get F h (i := 0) (k := 13) (.ref (a0 14)) inX6 rfl (by decide) w62 rfl rfl rfl dX6_goesBy_24 ?_
              refine lv_iload_n hx hb dX6_goesBy_27 rfl (lv_at hl 2 rfl) ?_
              refine lv_iload_n hx hb dX6_goesBy_28 rfl (lv_at hl 1 rfl) ?_
              refine lv_iload_n hx hb dX6_goesBy_29 rfl (lv_at hl 3 rfl) ?_
              obtain ⟨q14, h14, hf⟩ := asb hf
              refine r_callS (As := [.int z1.1, .int x0, .int z11.1]) (rest := [.ref (a0 14)]) F h hl (c6_place l D K z1.1 x0 z11.1 q14 h14) w65 ⟨w63, w64, w2⟩ hsc6_place ⟨Nat.le_of_ble_eq_true rfl, Nat.le_of_ble_eq_true rfl⟩ ⟨Nat.le_refl 0, Nat.le_refl 0⟩ (Nat.le_of_ble_eq_true rfl) dX6_goesBy_30 (fun H locs h => ?_)
              obtain ⟨g15, hf⟩ := gdb hf
              refine r_iald F h (i := 0) (j := 6) rfl rfl (vin_ok g15) dX6_goesBy_33 ?_
              refine lv_topi (fun y16 e16 => ?_)
              have hf := ltb hf e16
              refine lv_istore (lv' := [(4, .int y16), (0, .ref (a0 0)), (1, .int x0), (2, .int z1.1), (3, .int z11.1)]) hx hb dX6_goesBy_34 hl (by decide) rfl (fun ls hl => ?_)
              refine lv_iload hx hb dX6_goesBy_36 (lv_at hl 0 rfl) ?_
              obtain ⟨J17, eJ17, hf⟩ := rgn hf
              have JW17 : ∀ (v17 : ob) (H : Heap) (locs : List Loc) (ls : Array Slot), WD D A s.heap H locs [wX6 K a0 v17] → lv_has ls 5 [(0, .ref (a0 0)), (1, .int x0), (2, .int z1.1), (3, .int z11.1)] → J17 v17 = some uq11 → W P l e (rmS 1 22) s m args below meth c H locs 0 0 (MQ below (QvS D A [wX6 K a0 r]) args s 0 0 A) (F0 m 74 ls []) := by
                intro v17 H locs ls h hl hf
                have hf := jof eJ17 hf
                obtain ⟨y18, e18⟩ : ∃ y : Int32, y = z11.1 + 1 := ⟨_, rfl⟩
                have hf := ltb hf e18
                refine lv_iinc (v := y18) (lv' := [(3, .int y18), (0, .ref (a0 0)), (1, .int x0), (2, .int z1.1)]) hx hb dX6_goesBy_74 hl (k := 3) rfl (by rw [e18]; rfl) (by decide) rfl (fun ls hl => ?_)
                refine lv_goto (tgt := 17) hx hb dX6_goesBy_77 (by decide) ?_
                exact ihq11 _ _ _ _ (itr_c huq11 (sor hf)) h (lv_sub hl [1, 2, 3, 0] rfl)
              refine lv_if_lt (tgt := 74) hx hb dX6_goesBy_38 (by decide) (fun c19 => ?_) (fun c19 => ?_)
              · have hf := ifp hf c19
                exact JW17 z11.2 _ _ _ h (lv_sub hl [1, 2, 3, 4] rfl) (sob hf)
              · have hf := ifn hf c19
                refine lv_aload_n hx hb dX6_goesBy_41 rfl (lv_at hl 1 rfl) ?_
                refine r_get F h (i := 0) (k := 23) (.ref (a0 24)) inX6 rfl (by decide) w122 rfl rfl rfl dX6_goesBy_42 ?_
                refine lv_iload_n hx hb dX6_goesBy_45 rfl (lv_at hl 4 rfl) ?_
                obtain ⟨g20, hf⟩ := gdb hf
                refine r_iald F h (i := 0) (j := 12) rfl rfl (vin_ok g20) dX6_goesBy_46 ?_
                refine lv_if_lt (tgt := 74) hx hb dX6_goesBy_47 (by decide) (fun c21 => ?_) (fun c21 => ?_)
                · have hf := ifp hf c21
                  exact JW17 z11.2 _ _ _ h (lv_sub hl [1, 2, 3, 4] rfl) (sob hf)
                · have hf := ifn hf c21
                  refine lv_aload_n hx hb dX6_goesBy_50 rfl (lv_at hl 1 rfl) ?_
                  refine r_get F h (i := 0) (k := 24) (.ref (a0 25)) inX6 rfl (by decide) w123 rfl rfl rfl dX6_goesBy_51 ?_
                  refine lv_iload_n hx hb dX6_goesBy_54 rfl (lv_at hl 3 rfl) ?_
                  refine lv_aload_n hx hb dX6_goesBy_55 rfl (lv_at hl 1 rfl) ?_
                  refine r_get F h (i := 0) (k := 24) (.ref (a0 25)) inX6 rfl (by decide) w123 rfl rfl rfl dX6_goesBy_56 ?_
                  refine lv_iload_n hx hb dX6_goesBy_59 rfl (lv_at hl 3 rfl) ?_
                  obtain ⟨g22, hf⟩ := gdb hf
                  refine r_iald F h (i := 0) (j := 13) rfl rfl (vin_ok g22) dX6_goesBy_60 ?_
                  refine lv_iload hx hb dX6_goesBy_61 (lv_at hl 0 rfl) ?_
                  refine lv_aload_n hx hb dX6_goesBy_63 rfl (lv_at hl 1 rfl) ?_
                  refine r_get F h (i := 0) (k := 23) (.ref (a0 24)) inX6 rfl (by decide) w122 rfl rfl rfl dX6_goesBy_64 ?_
                  refine lv_iload_n hx hb dX6_goesBy_67 rfl (lv_at hl 4 rfl) ?_
                  obtain ⟨g23, hf⟩ := gdb hf
                  refine r_iald F h (i := 0) (j := 12) rfl rfl (vin_ok g23) dX6_goesBy_68 ?_
                  refine lv_iadd hx hb dX6_goesBy_69 ?_
                  obtain ⟨q24, h24, hf⟩ := asb hf
                  refine r_callS (As := [.int (z11.2.2 24 z1.1.toNatClampNeg), .int (y16 + (z11.2.2 23 z11.1.toNatClampNeg))]) (rest := [.int z1.1, .ref (a0 25)]) F h hl (c6_lesser l D K (z11.2.2 24 z1.1.toNatClampNeg) (y16 + (z11.2.2 23 z11.1.toNatClampNeg)) q24 h24) w85 ⟨w83, w84, w2⟩ hsc6_lesser ⟨Nat.le_of_ble_eq_true rfl, Nat.le_of_ble_eq_true rfl⟩ ⟨Nat.le_refl 0, Nat.le_refl 0⟩ (Nat.le_of_ble_eq_true rfl) dX6_goesBy_70 (fun H locs h => ?_)
                  obtain ⟨g25, hf⟩ := gdb hf
                  refine r_iast (o1 := sA z11.2 24 z1.1.toNatClampNeg q24) (w := fun t26 => wX6 K a0 t26) (S' := fun t26 => [wX6 K a0 t26]) F h (i := 0) (j := 13) rfl rfl (vin_ok g25) rfl (fun _ => rfl) dX6_goesBy_73 (fun t26 e26 H locs h => ?_)
                  have hf := ltb hf e26
                  exact JW17 t26 _ _ _ h (lv_sub hl [1, 2, 3, 4] rfl) (sob hf)
        exact Lq11 _ _ _ _ _ hq11 h (lv_sub hl [1, 2, 3, 0] rfl)
  exact Lq1 _ _ _ _ _ hq1 h (lv_sub hl [1, 2, 0] rfl)
def f6_standsOn_L2 (g0 : Int32) (z1 : Int32 × ob) : Option (Nat × (Int32 × ob)) :=
  (if 13 ≤ z1.1 then (some (1, (z1.1, z1.2))) else (gd (vin ((13 * g0) + z1.1) 5213) <| gd (vin z1.1 13) <| lt (sA z1.2 23 z1.1.toNatClampNeg (z1.2.2 21 ((13 * g0) + z1.1).toNatClampNeg)) fun t5 => lt (z1.1 + 1) fun y6 => some (0, (y6, t5))))
noncomputable def f6_standsOn (x0 : Int32) (o_this : ob) : Option (ob) :=
  (wh (f6_standsOn_L2 x0) (0, o_this)).bind fun q1 => some q1.2.2
set_option maxRecDepth 100000 in
set_option maxHeartbeats 4000000 in
theorem c6_standsOn (l : Launch) (D : va_G) (K : Nat → ClassId) (a0 : Nat → Nat) (x0 : Int32) (o_this : ob) (r : ob) (hf : f6_standsOn x0 o_this = some r) : CTv l yX6_standsOn cX6_standsOn 3 0 0 D K [.ref (a0 0), .int x0] [wX6 K a0 o_this] [wX6 K a0 r] := by
  unfold f6_standsOn at hf
  have hf := tob hf
  refine entV (by decide) (Nat.le_of_ble_eq_true rfl) (fun P e s m args below meth c A ls F h hl hin => ?_)
  have hx := F.1
  have hb := F.2.1
  have hl : lv_has ls 3 [(0, .ref (a0 0)), (1, .int x0)] := hl
  refine lv_iconst (v := 0) hx hb dX6_standsOn_0 (by decide) ?_
  refine lv_istore_n (lv' := [(2, .int 0), (0, .ref (a0 0)), (1, .int x0)]) hx hb dX6_standsOn_1 rfl hl (by decide) rfl (fun ls hl => ?_)
  obtain ⟨q1, hq1, hf⟩ := asb hf
  obtain ⟨nq1, hq1⟩ := wh_out hq1
  have Xq1_1 : ∀ (z1 : Int32 × ob) (H : Heap) (locs : List Loc) (ls : Array Slot), q1 = (1, z1) → WD D A s.heap H locs [wX6 K a0 z1.2] → lv_has ls 3 [] → W P l e (rmS 0 0) s m args below meth c H locs 0 0 (MQ below (QvS D A [wX6 K a0 r]) args s 0 0 A) (F0 m 31 ls []) := by
    intro z1 H locs ls eq1 h hl
    obtain rfl : z1 = q1.2 := by rw [eq1]
    obtain rfl := sor hf
    exact r_retv F h dX6_standsOn_31
  have Lq1 : ∀ (n : Nat) (z1 : Int32 × ob) (H : Heap) (locs : List Loc) (ls : Array Slot), iter (f6_standsOn_L2 x0) n z1 = some q1 → WD D A s.heap H locs [wX6 K a0 z1.2] → lv_has ls 3 [(0, .ref (a0 0)), (1, .int x0), (2, .int z1.1)] → W P l e (rmS 0 0) s m args below meth c H locs 0 0 (MQ below (QvS D A [wX6 K a0 r]) args s 0 0 A) (F0 m 2 ls []) := by
    intro n
    induction n with
    | zero => intro z1 H locs ls hi; exact (iter_0 hi).elim
    | succ n ihq1 =>
      intro z1 H locs ls hi h hl
      obtain ⟨uq1, hf, huq1⟩ := iter_s hi
      unfold f6_standsOn_L2 at hf
      have hf := tob hf
      refine lv_iload_n hx hb dX6_standsOn_2 rfl (lv_at hl 2 rfl) ?_
      refine lv_bipush (v := 13) hx hb dX6_standsOn_3 (by decide) ?_
      refine lv_icmp_ge (tgt := 31) hx hb dX6_standsOn_5 (by decide) (fun c2 => ?_) (fun c2 => ?_)
      · have hf := ifp hf c2
        exact Xq1_1 _ _ _ _ (itr_x huq1 (sor hf)) h (lv_sub hl [] rfl)
      · have hf := ifn hf c2
        refine lv_aload_n hx hb dX6_standsOn_8 rfl (lv_at hl 0 rfl) ?_
        refine r_get F h (i := 0) (k := 23) (.ref (a0 24)) inX6 rfl (by decide) w122 rfl rfl rfl dX6_standsOn_9 ?_
        refine lv_iload_n hx hb dX6_standsOn_12 rfl (lv_at hl 2 rfl) ?_
        refine lv_aload_n hx hb dX6_standsOn_13 rfl (lv_at hl 0 rfl) ?_
        refine r_get F h (i := 0) (k := 21) (.ref (a0 22)) inX6 rfl (by decide) w124 rfl rfl rfl dX6_standsOn_14 ?_
        refine lv_bipush (v := 13) hx hb dX6_standsOn_17 (by decide) ?_
        refine lv_iload_n hx hb dX6_standsOn_19 rfl (lv_at hl 1 rfl) ?_
        refine lv_imul hx hb dX6_standsOn_20 ?_
        refine lv_iload_n hx hb dX6_standsOn_21 rfl (lv_at hl 2 rfl) ?_
        refine lv_iadd hx hb dX6_standsOn_22 ?_
        obtain ⟨g3, hf⟩ := gdb hf
        refine r_iald F h (i := 0) (j := 11) rfl rfl (vin_ok g3) dX6_standsOn_23 ?_
        obtain ⟨g4, hf⟩ := gdb hf
        refine r_iast (o1 := sA z1.2 23 z1.1.toNatClampNeg (z1.2.2 21 ((13 * x0) + z1.1).toNatClampNeg)) (w := fun t5 => wX6 K a0 t5) (S' := fun t5 => [wX6 K a0 t5]) F h (i := 0) (j := 12) rfl rfl (vin_ok g4) rfl (fun _ => rfl) dX6_standsOn_24 (fun t5 e5 H locs h => ?_)
        have hf := ltb hf e5
        obtain ⟨y6, e6⟩ : ∃ y : Int32, y = z1.1 + 1 := ⟨_, rfl⟩
        have hf := ltb hf e6
        refine lv_iinc (v := y6) (lv' := [(2, .int y6), (0, .ref (a0 0)), (1, .int x0)]) hx hb dX6_standsOn_25 hl (k := 2) rfl (by rw [e6]; rfl) (by decide) rfl (fun ls hl => ?_)
        refine lv_goto (tgt := 2) hx hb dX6_standsOn_28 (by decide) ?_
        exact ihq1 _ _ _ _ (itr_c huq1 (sor hf)) h (lv_sub hl [1, 2, 0] rfl)
  exact Lq1 _ _ _ _ _ hq1 h (lv_sub hl [1, 2, 0] rfl)
def f6_puts_L35 (z6 : Int32 × ob) : Option (Nat × (Int32 × ob)) :=
  (if 13 ≤ z6.1 then (some (1, (z6.1, z6.2))) else (gd (vin z6.1 13) <| gd (vin ((13 * (z6.2.1 22)) + z6.1) 5213) <| lt (sA z6.2 21 ((13 * (z6.2.1 22)) + z6.1).toNatClampNeg (z6.2.2 23 z6.1.toNatClampNeg)) fun t10 => lt (z6.1 + 1) fun y11 => some (0, (y11, t10))))
noncomputable def f6_puts (x0 : Int32) (o_this : ob) : Option (ob) :=
  (f6_standsOn (o_this.1 22) o_this).bind fun q1 => (f6_goesBy x0 q1).bind fun q2 => gd (vin (q2.1 22) 400) <| lt (sA q2 20 (q2.1 22).toNatClampNeg x0) fun t4 => lt (sI t4 22 ((t4.1 22) + 1)) fun t5 => (wh f6_puts_L35 (0, t5)).bind fun q6 => some q6.2.2
set_option maxRecDepth 100000 in
set_option maxHeartbeats 4000000 in
theorem c6_puts (l : Launch) (D : va_G) (K : Nat → ClassId) (a0 : Nat → Nat) (x0 : Int32) (o_this : ob) (r : ob) (hf : f6_puts x0 o_this = some r) : CTv l yX6_puts cX6_puts 3 2 46 D K [.ref (a0 0), .int x0] [wX6 K a0 o_this] [wX6 K a0 r] := by
  unfold f6_puts at hf
  have hf := tob hf
  refine entV (by decide) (Nat.le_of_ble_eq_true rfl) (fun P e s m args below meth c A ls F h hl hin => ?_)
  have hx := F.1
  have hb := F.2.1
  have hl : lv_has ls 3 [(0, .ref (a0 0)), (1, .int x0)] := hl
  refine lv_aload_n hx hb dX6_puts_0 rfl (lv_at hl 0 rfl) ?_
  refine lv_aload_n hx hb dX6_puts_1 rfl (lv_at hl 0 rfl) ?_
  refine r_get F h (i := 0) (k := 22) (.int (o_this.1 22)) inX6 rfl (by decide) w125 rfl rfl rfl dX6_puts_2 ?_
  obtain ⟨q1, h1, hf⟩ := asb hf
  refine r_callVv (As := [.int (o_this.1 22)]) (rest := []) (C0 := [wX6 K a0 o_this]) (C1 := [wX6 K a0 q1]) (Rr := []) (S' := [wX6 K a0 q1]) F h hl (c6_standsOn l D K a0 (o_this.1 22) o_this q1 h1) [0] rfl rfl rfl rfl rfl (i := 0) rfl rfl w127 ⟨w128, w129, w130, w2⟩ hsc6_standsOn ⟨Nat.le_of_ble_eq_true rfl, Nat.le_of_ble_eq_true rfl⟩ ⟨Nat.le_refl 0, Nat.le_refl 0⟩ (Nat.le_of_ble_eq_true rfl) dX6_puts_5 (fun H locs h => ?_)
  refine lv_aload_n hx hb dX6_puts_8 rfl (lv_at hl 0 rfl) ?_
  refine lv_iload_n hx hb dX6_puts_9 rfl (lv_at hl 1 rfl) ?_
  obtain ⟨q2, h2, hf⟩ := asb hf
  refine r_callVv (As := [.int x0]) (rest := []) (C0 := [wX6 K a0 q1]) (C1 := [wX6 K a0 q2]) (Rr := []) (S' := [wX6 K a0 q2]) F h hl (c6_goesBy l D K a0 x0 q1 q2 h2) [0] rfl rfl rfl rfl rfl (i := 0) rfl rfl w131 ⟨w132, w133, w134, w2⟩ hsc6_goesBy ⟨Nat.le_of_ble_eq_true rfl, Nat.le_of_ble_eq_true rfl⟩ ⟨Nat.le_refl 0, Nat.le_refl 0⟩ (Nat.le_of_ble_eq_true rfl) dX6_puts_10 (fun H locs h => ?_)
  refine lv_aload_n hx hb dX6_puts_13 rfl (lv_at hl 0 rfl) ?_
  refine r_get F h (i := 0) (k := 20) (.ref (a0 21)) inX6 rfl (by decide) w126 rfl rfl rfl dX6_puts_14 ?_
  refine lv_aload_n hx hb dX6_puts_17 rfl (lv_at hl 0 rfl) ?_
  refine r_get F h (i := 0) (k := 22) (.int (q2.1 22)) inX6 rfl (by decide) w125 rfl rfl rfl dX6_puts_18 ?_
  refine lv_iload_n hx hb dX6_puts_21 rfl (lv_at hl 1 rfl) ?_
  obtain ⟨g3, hf⟩ := gdb hf
  refine r_iast (o1 := sA q2 20 (q2.1 22).toNatClampNeg x0) (w := fun t4 => wX6 K a0 t4) (S' := fun t4 => [wX6 K a0 t4]) F h (i := 0) (j := 10) rfl rfl (vin_ok g3) rfl (fun _ => rfl) dX6_puts_22 (fun t4 e4 H locs h => ?_)
  have hf := ltb hf e4
  refine lv_aload_n hx hb dX6_puts_23 rfl (lv_at hl 0 rfl) ?_
  refine lv_dup hx hb dX6_puts_24 rfl ?_
  refine r_get F h (i := 0) (k := 22) (.int (t4.1 22)) inX6 rfl (by decide) w125 rfl rfl rfl dX6_puts_25 ?_
  refine lv_iconst (v := 1) hx hb dX6_puts_28 (by decide) ?_
  refine lv_iadd hx hb dX6_puts_29 ?_
  refine r_put (o1 := sI t4 22 ((t4.1 22) + 1)) (w := fun t5 => wX6 K a0 t5) (S' := fun t5 => [wX6 K a0 t5]) F h (i := 0) (k := 22) inX6 tyX6_ok nmX6 rfl (by decide) w125 rfl rfl rfl rfl rfl (Nat.le_of_ble_eq_true rfl) rfl (fun _ => rfl) dX6_puts_30 (fun t5 e5 H locs h => ?_)
  have hf := ltb hf e5
  refine lv_iconst (v := 0) hx hb dX6_puts_33 (by decide) ?_
  refine lv_istore_n (lv' := [(2, .int 0), (0, .ref (a0 0)), (1, .int x0)]) hx hb dX6_puts_34 rfl hl (by decide) rfl (fun ls hl => ?_)
  obtain ⟨q6, hq6, hf⟩ := asb hf
  obtain ⟨nq6, hq6⟩ := wh_out hq6
  have Xq6_1 : ∀ (z6 : Int32 × ob) (H : Heap) (locs : List Loc) (ls : Array Slot), q6 = (1, z6) → WD D A s.heap H locs [wX6 K a0 z6.2] → lv_has ls 3 [] → W P l e (rmS 2 46) s m args below meth c H locs 0 0 (MQ below (QvS D A [wX6 K a0 r]) args s 0 0 A) (F0 m 67 ls []) := by
    intro z6 H locs ls eq6 h hl
    obtain rfl : z6 = q6.2 := by rw [eq6]
    obtain rfl := sor hf
    exact r_retv F h dX6_puts_67
  have Lq6 : ∀ (n : Nat) (z6 : Int32 × ob) (H : Heap) (locs : List Loc) (ls : Array Slot), iter f6_puts_L35 n z6 = some q6 → WD D A s.heap H locs [wX6 K a0 z6.2] → lv_has ls 3 [(0, .ref (a0 0)), (2, .int z6.1)] → W P l e (rmS 2 46) s m args below meth c H locs 0 0 (MQ below (QvS D A [wX6 K a0 r]) args s 0 0 A) (F0 m 35 ls []) := by
    intro n
    induction n with
    | zero => intro z6 H locs ls hi; exact (iter_0 hi).elim
    | succ n ihq6 =>
      intro z6 H locs ls hi h hl
      obtain ⟨uq6, hf, huq6⟩ := iter_s hi
      unfold f6_puts_L35 at hf
      have hf := tob hf
      refine lv_iload_n hx hb dX6_puts_35 rfl (lv_at hl 1 rfl) ?_
      refine lv_bipush (v := 13) hx hb dX6_puts_36 (by decide) ?_
      refine lv_icmp_ge (tgt := 67) hx hb dX6_puts_38 (by decide) (fun c7 => ?_) (fun c7 => ?_)
      · have hf := ifp hf c7
        exact Xq6_1 _ _ _ _ (itr_x huq6 (sor hf)) h (lv_sub hl [] rfl)
      · have hf := ifn hf c7
        refine lv_aload_n hx hb dX6_puts_41 rfl (lv_at hl 0 rfl) ?_
        refine r_get F h (i := 0) (k := 21) (.ref (a0 22)) inX6 rfl (by decide) w124 rfl rfl rfl dX6_puts_42 ?_
        refine lv_bipush (v := 13) hx hb dX6_puts_45 (by decide) ?_
        refine lv_aload_n hx hb dX6_puts_47 rfl (lv_at hl 0 rfl) ?_
        refine r_get F h (i := 0) (k := 22) (.int (z6.2.1 22)) inX6 rfl (by decide) w125 rfl rfl rfl dX6_puts_48 ?_
        refine lv_imul hx hb dX6_puts_51 ?_
        refine lv_iload_n hx hb dX6_puts_52 rfl (lv_at hl 1 rfl) ?_
        refine lv_iadd hx hb dX6_puts_53 ?_
        refine lv_aload_n hx hb dX6_puts_54 rfl (lv_at hl 0 rfl) ?_
        refine r_get F h (i := 0) (k := 23) (.ref (a0 24)) inX6 rfl (by decide) w122 rfl rfl rfl dX6_puts_55 ?_
        refine lv_iload_n hx hb dX6_puts_58 rfl (lv_at hl 1 rfl) ?_
        obtain ⟨g8, hf⟩ := gdb hf
        refine r_iald F h (i := 0) (j := 12) rfl rfl (vin_ok g8) dX6_puts_59 ?_
        obtain ⟨g9, hf⟩ := gdb hf
        refine r_iast (o1 := sA z6.2 21 ((13 * (z6.2.1 22)) + z6.1).toNatClampNeg (z6.2.2 23 z6.1.toNatClampNeg)) (w := fun t10 => wX6 K a0 t10) (S' := fun t10 => [wX6 K a0 t10]) F h (i := 0) (j := 11) rfl rfl (vin_ok g9) rfl (fun _ => rfl) dX6_puts_60 (fun t10 e10 H locs h => ?_)
        have hf := ltb hf e10
        obtain ⟨y11, e11⟩ : ∃ y : Int32, y = z6.1 + 1 := ⟨_, rfl⟩
        have hf := ltb hf e11
        refine lv_iinc (v := y11) (lv' := [(2, .int y11), (0, .ref (a0 0))]) hx hb dX6_puts_61 hl (k := 1) rfl (by rw [e11]; rfl) (by decide) rfl (fun ls hl => ?_)
        refine lv_goto (tgt := 35) hx hb dX6_puts_64 (by decide) ?_
        exact ihq6 _ _ _ _ (itr_c huq6 (sor hf)) h (lv_sub hl [1, 0] rfl)
  exact Lq6 _ _ _ _ _ hq6 h (lv_sub hl [1, 0] rfl)
noncomputable def f6_behind_L24 (g0 : Int32) (z4 : Int32 × ob) : Option (Nat × (Int32 × ob)) :=
  (if z4.1 < 0 then (some (1, (z4.1, z4.2))) else (gd (vin (((7 * g0) + 4) + z4.1) 70) <| (f6_goesBy (z4.2.2 2 (((7 * g0) + 4) + z4.1).toNatClampNeg) z4.2).bind fun q9 => lt (z4.1 + (-1)) fun y10 => some (0, (y10, q9))))
noncomputable def f6_behind (x0 : Int32) (o_this : ob) : Option (Int32 × ob) :=
  (f6_standsOn ((o_this.1 22) - 1) o_this).bind fun q1 => gd (vin ((7 * x0) + 3) 70) <| lt ((q1.2 2 ((7 * x0) + 3).toNatClampNeg) - 1) fun y3 => (wh (f6_behind_L24 x0) (y3, q1)).bind fun q4 => gd (vin ((7 * x0) + 2) 70) <| gd (vin (q4.2.2.2 2 ((7 * x0) + 2).toNatClampNeg) 13) <| some (q4.2.2.2 23 (q4.2.2.2 2 ((7 * x0) + 2).toNatClampNeg).toNatClampNeg, q4.2.2)
set_option maxRecDepth 100000 in
set_option maxHeartbeats 4000000 in
theorem c6_behind (l : Launch) (D : va_G) (K : Nat → ClassId) (a0 : Nat → Nat) (x0 : Int32) (o_this : ob) (r : Int32 × ob) (hf : f6_behind x0 o_this = some r) : CTi l yX6_behind cX6_behind 3 (some .int) 2 46 D K [.ref (a0 0), .int x0] [wX6 K a0 o_this] [wX6 K a0 r.2] r.1 := by
  unfold f6_behind at hf
  have hf := tob hf
  refine entI (by decide) (Nat.le_of_ble_eq_true rfl) (fun P e s m args below meth c A ls F h hl hin => ?_)
  have hx := F.1
  have hb := F.2.1
  have hl : lv_has ls 3 [(0, .ref (a0 0)), (1, .int x0)] := hl
  refine lv_aload_n hx hb dX6_behind_0 rfl (lv_at hl 0 rfl) ?_
  refine lv_aload_n hx hb dX6_behind_1 rfl (lv_at hl 0 rfl) ?_
  refine r_get F h (i := 0) (k := 22) (.int (o_this.1 22)) inX6 rfl (by decide) w125 rfl rfl rfl dX6_behind_2 ?_
  refine lv_iconst (v := 1) hx hb dX6_behind_5 (by decide) ?_
  refine lv_isub hx hb dX6_behind_6 ?_
  obtain ⟨q1, h1, hf⟩ := asb hf
  refine r_callVv (As := [.int ((o_this.1 22) - 1)]) (rest := []) (C0 := [wX6 K a0 o_this]) (C1 := [wX6 K a0 q1]) (Rr := []) (S' := [wX6 K a0 q1]) F h hl (c6_standsOn l D K a0 ((o_this.1 22) - 1) o_this q1 h1) [0] rfl rfl rfl rfl rfl (i := 0) rfl rfl w127 ⟨w128, w129, w130, w2⟩ hsc6_standsOn ⟨Nat.le_of_ble_eq_true rfl, Nat.le_of_ble_eq_true rfl⟩ ⟨Nat.le_refl 0, Nat.le_refl 0⟩ (Nat.le_of_ble_eq_true rfl) dX6_behind_7 (fun H locs h => ?_)
  refine lv_aload_n hx hb dX6_behind_10 rfl (lv_at hl 0 rfl) ?_
  refine r_get F h (i := 0) (k := 2) (.ref (a0 3)) inX6 rfl (by decide) w6 rfl rfl rfl dX6_behind_11 ?_
  refine lv_bipush (v := 7) hx hb dX6_behind_14 (by decide) ?_
  refine lv_iload_n hx hb dX6_behind_16 rfl (lv_at hl 1 rfl) ?_
  refine lv_imul hx hb dX6_behind_17 ?_
  refine lv_iconst (v := 3) hx hb dX6_behind_18 (by decide) ?_
  refine lv_iadd hx hb dX6_behind_19 ?_
  obtain ⟨g2, hf⟩ := gdb hf
  refine r_iald F h (i := 0) (j := 1) rfl rfl (vin_ok g2) dX6_behind_20 ?_
  refine lv_iconst (v := 1) hx hb dX6_behind_21 (by decide) ?_
  refine lv_isub hx hb dX6_behind_22 ?_
  refine lv_topi (fun y3 e3 => ?_)
  have hf := ltb hf e3
  refine lv_istore_n (lv' := [(2, .int y3), (0, .ref (a0 0)), (1, .int x0)]) hx hb dX6_behind_23 rfl hl (by decide) rfl (fun ls hl => ?_)
  obtain ⟨q4, hq4, hf⟩ := asb hf
  obtain ⟨nq4, hq4⟩ := wh_out hq4
  have Xq4_1 : ∀ (z4 : Int32 × ob) (H : Heap) (locs : List Loc) (ls : Array Slot), q4 = (1, z4) → WD D A s.heap H locs [wX6 K a0 z4.2] → lv_has ls 3 [(0, .ref (a0 0)), (1, .int x0)] → W P l e (rmS 2 46) s m args below meth c H locs 0 0 (MQ below (QiS D A [wX6 K a0 r.2] r.1) args s 0 0 A) (F0 m 51 ls []) := by
    intro z4 H locs ls eq4 h hl
    obtain rfl : z4 = q4.2 := by rw [eq4]
    refine lv_aload_n hx hb dX6_behind_51 rfl (lv_at hl 0 rfl) ?_
    refine r_get F h (i := 0) (k := 23) (.ref (a0 24)) inX6 rfl (by decide) w122 rfl rfl rfl dX6_behind_52 ?_
    refine lv_aload_n hx hb dX6_behind_55 rfl (lv_at hl 0 rfl) ?_
    refine r_get F h (i := 0) (k := 2) (.ref (a0 3)) inX6 rfl (by decide) w6 rfl rfl rfl dX6_behind_56 ?_
    refine lv_bipush (v := 7) hx hb dX6_behind_59 (by decide) ?_
    refine lv_iload_n hx hb dX6_behind_61 rfl (lv_at hl 1 rfl) ?_
    refine lv_imul hx hb dX6_behind_62 ?_
    refine lv_iconst (v := 2) hx hb dX6_behind_63 (by decide) ?_
    refine lv_iadd hx hb dX6_behind_64 ?_
    obtain ⟨g5, hf⟩ := gdb hf
    refine r_iald F h (i := 0) (j := 1) rfl rfl (vin_ok g5) dX6_behind_65 ?_
    obtain ⟨g6, hf⟩ := gdb hf
    refine r_iald F h (i := 0) (j := 12) rfl rfl (vin_ok g6) dX6_behind_66 ?_
    obtain rfl := sor hf
    exact r_reti F h dX6_behind_67
  have Lq4 : ∀ (n : Nat) (z4 : Int32 × ob) (H : Heap) (locs : List Loc) (ls : Array Slot), iter (f6_behind_L24 x0) n z4 = some q4 → WD D A s.heap H locs [wX6 K a0 z4.2] → lv_has ls 3 [(0, .ref (a0 0)), (1, .int x0), (2, .int z4.1)] → W P l e (rmS 2 46) s m args below meth c H locs 0 0 (MQ below (QiS D A [wX6 K a0 r.2] r.1) args s 0 0 A) (F0 m 24 ls []) := by
    intro n
    induction n with
    | zero => intro z4 H locs ls hi; exact (iter_0 hi).elim
    | succ n ihq4 =>
      intro z4 H locs ls hi h hl
      obtain ⟨uq4, hf, huq4⟩ := iter_s hi
      unfold f6_behind_L24 at hf
      have hf := tob hf
      refine lv_iload_n hx hb dX6_behind_24 rfl (lv_at hl 2 rfl) ?_
      refine lv_if_lt (tgt := 51) hx hb dX6_behind_25 (by decide) (fun c7 => ?_) (fun c7 => ?_)
      · have hf := ifp hf c7
        exact Xq4_1 _ _ _ _ (itr_x huq4 (sor hf)) h (lv_sub hl [0, 1] rfl)
      · have hf := ifn hf c7
        refine lv_aload_n hx hb dX6_behind_28 rfl (lv_at hl 0 rfl) ?_
        refine lv_aload_n hx hb dX6_behind_29 rfl (lv_at hl 0 rfl) ?_
        refine r_get F h (i := 0) (k := 2) (.ref (a0 3)) inX6 rfl (by decide) w6 rfl rfl rfl dX6_behind_30 ?_
        refine lv_bipush (v := 7) hx hb dX6_behind_33 (by decide) ?_
        refine lv_iload_n hx hb dX6_behind_35 rfl (lv_at hl 1 rfl) ?_
        refine lv_imul hx hb dX6_behind_36 ?_
        refine lv_iconst (v := 4) hx hb dX6_behind_37 (by decide) ?_
        refine lv_iadd hx hb dX6_behind_38 ?_
        refine lv_iload_n hx hb dX6_behind_39 rfl (lv_at hl 2 rfl) ?_
        refine lv_iadd hx hb dX6_behind_40 ?_
        obtain ⟨g8, hf⟩ := gdb hf
        refine r_iald F h (i := 0) (j := 1) rfl rfl (vin_ok g8) dX6_behind_41 ?_
        obtain ⟨q9, h9, hf⟩ := asb hf
        refine r_callVv (As := [.int (z4.2.2 2 (((7 * x0) + 4) + z4.1).toNatClampNeg)]) (rest := []) (C0 := [wX6 K a0 z4.2]) (C1 := [wX6 K a0 q9]) (Rr := []) (S' := [wX6 K a0 q9]) F h hl (c6_goesBy l D K a0 (z4.2.2 2 (((7 * x0) + 4) + z4.1).toNatClampNeg) z4.2 q9 h9) [0] rfl rfl rfl rfl rfl (i := 0) rfl rfl w131 ⟨w132, w133, w134, w2⟩ hsc6_goesBy ⟨Nat.le_of_ble_eq_true rfl, Nat.le_of_ble_eq_true rfl⟩ ⟨Nat.le_refl 0, Nat.le_refl 0⟩ (Nat.le_of_ble_eq_true rfl) dX6_behind_42 (fun H locs h => ?_)
        obtain ⟨y10, e10⟩ : ∃ y : Int32, y = z4.1 + (-1) := ⟨_, rfl⟩
        have hf := ltb hf e10
        refine lv_iinc (v := y10) (lv' := [(2, .int y10), (0, .ref (a0 0)), (1, .int x0)]) hx hb dX6_behind_45 hl (k := 2) rfl (by rw [e10]; rfl) (by decide) rfl (fun ls hl => ?_)
        refine lv_goto (tgt := 24) hx hb dX6_behind_48 (by decide) ?_
        exact ihq4 _ _ _ _ (itr_c huq4 (sor hf)) h (lv_sub hl [1, 2, 0] rfl)
  exact Lq4 _ _ _ _ _ hq4 h (lv_sub hl [1, 2, 0] rfl)
noncomputable def f6_towerBegins_L47 (z4 : Int32 × ob) : Option (Nat × (Int32 × ob)) :=
  (if (z4.2.1 6) ≤ z4.1 then (some (1, (z4.1, z4.2))) else (gd (vin z4.1 12) <| (f6_puts (z4.2.2 7 z4.1.toNatClampNeg) z4.2).bind fun q7 => lt (z4.1 + 1) fun y8 => some (0, (y8, q7))))
noncomputable def f6_towerBegins_L14 (z3 : Int32 × ob) : Option (Nat × (Int32 × ob)) :=
  (if 13 ≤ z3.1 then (some (1, (z3.1, z3.2))) else ((f6_isEnd z3.1 z3.2).bind fun q10 => ((if q10 = 0 then (some (-1)) else (some 0))).bind fun v11 => gd (vin z3.1 5213) <| lt (sA z3.2 21 z3.1.toNatClampNeg v11) fun t13 => lt (z3.1 + 1) fun y14 => some (0, (y14, t13))))
noncomputable def f6_towerBegins (o_this : ob) : Option (ob) :=
  (f6_grows 1 (-4) o_this).bind fun q1 => lt (sI q1 22 0) fun t2 => (wh f6_towerBegins_L14 (0, t2)).bind fun q3 => (wh f6_towerBegins_L47 (0, q3.2.2)).bind fun q4 => some q4.2.2
set_option maxRecDepth 100000 in
set_option maxHeartbeats 4000000 in
theorem c6_towerBegins (l : Launch) (D : va_G) (K : Nat → ClassId) (a0 : Nat → Nat) (o_this : ob) (r : ob) (hf : f6_towerBegins o_this = some r) : CTv l yX6_towerBegins cX6_towerBegins 2 4 100 D K [.ref (a0 0)] [wX6 K a0 o_this] [wX6 K a0 r] := by
  unfold f6_towerBegins at hf
  have hf := tob hf
  refine entV (by decide) (Nat.le_of_ble_eq_true rfl) (fun P e s m args below meth c A ls F h hl hin => ?_)
  have hx := F.1
  have hb := F.2.1
  have hl : lv_has ls 2 [(0, .ref (a0 0))] := hl
  refine lv_aload_n hx hb dX6_towerBegins_0 rfl (lv_at hl 0 rfl) ?_
  refine lv_iconst (v := 1) hx hb dX6_towerBegins_1 (by decide) ?_
  refine lv_bipush (v := (-4)) hx hb dX6_towerBegins_2 (by decide) ?_
  obtain ⟨q1, h1, hf⟩ := asb hf
  refine r_callVv (As := [.int 1, .int (-4)]) (rest := []) (C0 := [wX6 K a0 o_this]) (C1 := [wX6 K a0 q1]) (Rr := []) (S' := [wX6 K a0 q1]) F h hl (c6_grows l D K a0 1 (-4) o_this q1 h1) [0] rfl rfl rfl rfl rfl (i := 0) rfl rfl w106 ⟨w107, w108, w109, w2⟩ hsc6_grows ⟨Nat.le_of_ble_eq_true rfl, Nat.le_of_ble_eq_true rfl⟩ ⟨Nat.le_refl 0, Nat.le_refl 0⟩ (Nat.le_of_ble_eq_true rfl) dX6_towerBegins_4 (fun H locs h => ?_)
  refine lv_aload_n hx hb dX6_towerBegins_7 rfl (lv_at hl 0 rfl) ?_
  refine lv_iconst (v := 0) hx hb dX6_towerBegins_8 (by decide) ?_
  refine r_put (o1 := sI q1 22 0) (w := fun t2 => wX6 K a0 t2) (S' := fun t2 => [wX6 K a0 t2]) F h (i := 0) (k := 22) inX6 tyX6_ok nmX6 rfl (by decide) w125 rfl rfl rfl rfl rfl (Nat.le_of_ble_eq_true rfl) rfl (fun _ => rfl) dX6_towerBegins_9 (fun t2 e2 H locs h => ?_)
  have hf := ltb hf e2
  refine lv_iconst (v := 0) hx hb dX6_towerBegins_12 (by decide) ?_
  refine lv_istore_n (lv' := [(1, .int 0), (0, .ref (a0 0))]) hx hb dX6_towerBegins_13 rfl hl (by decide) rfl (fun ls hl => ?_)
  obtain ⟨q3, hq3, hf⟩ := asb hf
  obtain ⟨nq3, hq3⟩ := wh_out hq3
  have Xq3_1 : ∀ (z3 : Int32 × ob) (H : Heap) (locs : List Loc) (ls : Array Slot), q3 = (1, z3) → WD D A s.heap H locs [wX6 K a0 z3.2] → lv_has ls 2 [(0, .ref (a0 0))] → W P l e (rmS 4 100) s m args below meth c H locs 0 0 (MQ below (QvS D A [wX6 K a0 r]) args s 0 0 A) (F0 m 45 ls []) := by
    intro z3 H locs ls eq3 h hl
    obtain rfl : z3 = q3.2 := by rw [eq3]
    refine lv_iconst (v := 0) hx hb dX6_towerBegins_45 (by decide) ?_
    refine lv_istore_n (lv' := [(1, .int 0), (0, .ref (a0 0))]) hx hb dX6_towerBegins_46 rfl hl (by decide) rfl (fun ls hl => ?_)
    obtain ⟨q4, hq4, hf⟩ := asb hf
    obtain ⟨nq4, hq4⟩ := wh_out hq4
    have Xq4_1 : ∀ (z4 : Int32 × ob) (H : Heap) (locs : List Loc) (ls : Array Slot), q4 = (1, z4) → WD D A s.heap H locs [wX6 K a0 z4.2] → lv_has ls 2 [] → W P l e (rmS 4 100) s m args below meth c H locs 0 0 (MQ below (QvS D A [wX6 K a0 r]) args s 0 0 A) (F0 m 71 ls []) := by
      intro z4 H locs ls eq4 h hl
      obtain rfl : z4 = q4.2 := by rw [eq4]
      obtain rfl := sor hf
      exact r_retv F h dX6_towerBegins_71
    have Lq4 : ∀ (n : Nat) (z4 : Int32 × ob) (H : Heap) (locs : List Loc) (ls : Array Slot), iter f6_towerBegins_L47 n z4 = some q4 → WD D A s.heap H locs [wX6 K a0 z4.2] → lv_has ls 2 [(0, .ref (a0 0)), (1, .int z4.1)] → W P l e (rmS 4 100) s m args below meth c H locs 0 0 (MQ below (QvS D A [wX6 K a0 r]) args s 0 0 A) (F0 m 47 ls []) := by
      intro n
      induction n with
      | zero => intro z4 H locs ls hi; exact (iter_0 hi).elim
      | succ n ihq4 =>
        intro z4 H locs ls hi h hl
        obtain ⟨uq4, hf, huq4⟩ := iter_s hi
        unfold f6_towerBegins_L47 at hf
        have hf := tob hf
        refine lv_iload_n hx hb dX6_towerBegins_47 rfl (lv_at hl 1 rfl) ?_
        refine lv_aload_n hx hb dX6_towerBegins_48 rfl (lv_at hl 0 rfl) ?_
        refine r_get F h (i := 0) (k := 6) (.int (z4.2.1 6)) inX6 rfl (by decide) w13 rfl rfl rfl dX6_towerBegins_49 ?_
        refine lv_icmp_ge (tgt := 71) hx hb dX6_towerBegins_52 (by decide) (fun c5 => ?_) (fun c5 => ?_)
        · have hf := ifp hf c5
          exact Xq4_1 _ _ _ _ (itr_x huq4 (sor hf)) h (lv_sub hl [] rfl)
        · have hf := ifn hf c5
          refine lv_aload_n hx hb dX6_towerBegins_55 rfl (lv_at hl 0 rfl) ?_
          refine lv_aload_n hx hb dX6_towerBegins_56 rfl (lv_at hl 0 rfl) ?_
          refine r_get F h (i := 0) (k := 7) (.ref (a0 8)) inX6 rfl (by decide) w14 rfl rfl rfl dX6_towerBegins_57 ?_
          refine lv_iload_n hx hb dX6_towerBegins_60 rfl (lv_at hl 1 rfl) ?_
          obtain ⟨g6, hf⟩ := gdb hf
          refine r_iald F h (i := 0) (j := 3) rfl rfl (vin_ok g6) dX6_towerBegins_61 ?_
          obtain ⟨q7, h7, hf⟩ := asb hf
          refine r_callVv (As := [.int (z4.2.2 7 z4.1.toNatClampNeg)]) (rest := []) (C0 := [wX6 K a0 z4.2]) (C1 := [wX6 K a0 q7]) (Rr := []) (S' := [wX6 K a0 q7]) F h hl (c6_puts l D K a0 (z4.2.2 7 z4.1.toNatClampNeg) z4.2 q7 h7) [0] rfl rfl rfl rfl rfl (i := 0) rfl rfl w135 ⟨w136, w137, w138, w2⟩ hsc6_puts ⟨Nat.le_of_ble_eq_true rfl, Nat.le_of_ble_eq_true rfl⟩ ⟨Nat.le_refl 0, Nat.le_refl 0⟩ (Nat.le_of_ble_eq_true rfl) dX6_towerBegins_62 (fun H locs h => ?_)
          obtain ⟨y8, e8⟩ : ∃ y : Int32, y = z4.1 + 1 := ⟨_, rfl⟩
          have hf := ltb hf e8
          refine lv_iinc (v := y8) (lv' := [(1, .int y8), (0, .ref (a0 0))]) hx hb dX6_towerBegins_65 hl (k := 1) rfl (by rw [e8]; rfl) (by decide) rfl (fun ls hl => ?_)
          refine lv_goto (tgt := 47) hx hb dX6_towerBegins_68 (by decide) ?_
          exact ihq4 _ _ _ _ (itr_c huq4 (sor hf)) h (lv_sub hl [1, 0] rfl)
    exact Lq4 _ _ _ _ _ hq4 h (lv_sub hl [1, 0] rfl)
  have Lq3 : ∀ (n : Nat) (z3 : Int32 × ob) (H : Heap) (locs : List Loc) (ls : Array Slot), iter f6_towerBegins_L14 n z3 = some q3 → WD D A s.heap H locs [wX6 K a0 z3.2] → lv_has ls 2 [(0, .ref (a0 0)), (1, .int z3.1)] → W P l e (rmS 4 100) s m args below meth c H locs 0 0 (MQ below (QvS D A [wX6 K a0 r]) args s 0 0 A) (F0 m 14 ls []) := by
    intro n
    induction n with
    | zero => intro z3 H locs ls hi; exact (iter_0 hi).elim
    | succ n ihq3 =>
      intro z3 H locs ls hi h hl
      obtain ⟨uq3, hf, huq3⟩ := iter_s hi
      unfold f6_towerBegins_L14 at hf
      have hf := tob hf
      refine lv_iload_n hx hb dX6_towerBegins_14 rfl (lv_at hl 1 rfl) ?_
      refine lv_bipush (v := 13) hx hb dX6_towerBegins_15 (by decide) ?_
      refine lv_icmp_ge (tgt := 45) hx hb dX6_towerBegins_17 (by decide) (fun c9 => ?_) (fun c9 => ?_)
      · have hf := ifp hf c9
        exact Xq3_1 _ _ _ _ (itr_x huq3 (sor hf)) h (lv_sub hl [0] rfl)
      · have hf := ifn hf c9
        refine lv_aload_n hx hb dX6_towerBegins_20 rfl (lv_at hl 0 rfl) ?_
        refine r_get F h (i := 0) (k := 21) (.ref (a0 22)) inX6 rfl (by decide) w124 rfl rfl rfl dX6_towerBegins_21 ?_
        refine lv_iload_n hx hb dX6_towerBegins_24 rfl (lv_at hl 1 rfl) ?_
        refine lv_aload_n hx hb dX6_towerBegins_25 rfl (lv_at hl 0 rfl) ?_
        refine lv_iload_n hx hb dX6_towerBegins_26 rfl (lv_at hl 1 rfl) ?_
        obtain ⟨q10, h10, hf⟩ := asb hf
        refine r_callVi (As := [.int z3.1]) (rest := [.int z3.1, .ref (a0 22)]) (C0 := [wX6 K a0 z3.2]) (C1 := [wX6 K a0 z3.2]) (Rr := []) (S' := [wX6 K a0 z3.2]) F h hl (c6_isEnd l D K a0 z3.1 z3.2 q10 h10) [0] rfl rfl rfl rfl rfl (i := 0) rfl rfl w102 ⟨w103, w104, w105, w2⟩ hsc6_isEnd ⟨Nat.le_of_ble_eq_true rfl, Nat.le_of_ble_eq_true rfl⟩ ⟨Nat.le_refl 0, Nat.le_refl 0⟩ (Nat.le_of_ble_eq_true rfl) dX6_towerBegins_27 (fun H locs h => ?_)
        obtain ⟨J11, eJ11, hf⟩ := rgn hf
        have JW11 : ∀ (v11 : Int32) (H : Heap) (locs : List Loc) (ls : Array Slot), WD D A s.heap H locs [wX6 K a0 z3.2] → lv_has ls 2 [(0, .ref (a0 0)), (1, .int z3.1)] → J11 v11 = some uq3 → W P l e (rmS 4 100) s m args below meth c H locs 0 0 (MQ below (QvS D A [wX6 K a0 r]) args s 0 0 A) (F0 m 38 ls [.int v11, .int z3.1, .ref (a0 22)]) := by
          intro v11 H locs ls h hl hf
          have hf := jof eJ11 hf
          obtain ⟨g12, hf⟩ := gdb hf
          refine r_iast (o1 := sA z3.2 21 z3.1.toNatClampNeg v11) (w := fun t13 => wX6 K a0 t13) (S' := fun t13 => [wX6 K a0 t13]) F h (i := 0) (j := 11) rfl rfl (vin_ok g12) rfl (fun _ => rfl) dX6_towerBegins_38 (fun t13 e13 H locs h => ?_)
          have hf := ltb hf e13
          obtain ⟨y14, e14⟩ : ∃ y : Int32, y = z3.1 + 1 := ⟨_, rfl⟩
          have hf := ltb hf e14
          refine lv_iinc (v := y14) (lv' := [(1, .int y14), (0, .ref (a0 0))]) hx hb dX6_towerBegins_39 hl (k := 1) rfl (by rw [e14]; rfl) (by decide) rfl (fun ls hl => ?_)
          refine lv_goto (tgt := 14) hx hb dX6_towerBegins_42 (by decide) ?_
          exact ihq3 _ _ _ _ (itr_c huq3 (sor hf)) h (lv_sub hl [1, 0] rfl)
        refine lv_if_eq (tgt := 37) hx hb dX6_towerBegins_30 (by decide) (fun c15 => ?_) (fun c15 => ?_)
        · have hf := ifp hf c15
          refine lv_iconst (v := (-1)) hx hb dX6_towerBegins_37 (by decide) ?_
          exact JW11 (-1) _ _ _ h (lv_sub hl [0, 1] rfl) (sob hf)
        · have hf := ifn hf c15
          refine lv_iconst (v := 0) hx hb dX6_towerBegins_33 (by decide) ?_
          refine lv_goto (tgt := 38) hx hb dX6_towerBegins_34 (by decide) ?_
          exact JW11 0 _ _ _ h (lv_sub hl [0, 1] rfl) (sob hf)
  exact Lq3 _ _ _ _ _ hq3 h (lv_sub hl [1, 0] rfl)
noncomputable def f6_ruleOn_L2 (g0 : Int32) (g1 : Int32) (z1 : Int32 × ob) : Option (Nat × (Int32 × ob)) :=
  (if (z1.2.1 1) ≤ z1.1 then (some (2, (z1.1, z1.2))) else (gd (vin ((z1.2.1 22) - 1) 400) <| (f6_fits z1.1 g0 (z1.2.2 20 ((z1.2.1 22) - 1).toNatClampNeg) z1.2).bind fun q4 => (if q4 = 0 then (lt (z1.1 + 1) fun y6 => some (0, (y6, z1.2))) else ((f6_behind z1.1 z1.2).bind fun q7 => (if q7.1 = (g1 - 1) then (some (1, (z1.1, q7.2))) else (lt (z1.1 + 1) fun y9 => some (0, (y9, q7.2))))))))
noncomputable def f6_ruleOn (x0 : Int32) (x1 : Int32) (o_this : ob) : Option (Int32 × ob) :=
  (wh (f6_ruleOn_L2 x0 x1) (0, o_this)).bind fun q1 => (if q1.1 = 1 then (some (q1.2.1, q1.2.2)) else (some ((-4), q1.2.2)))
set_option maxRecDepth 100000 in
set_option maxHeartbeats 4000000 in
theorem c6_ruleOn (l : Launch) (D : va_G) (K : Nat → ClassId) (a0 : Nat → Nat) (x0 : Int32) (x1 : Int32) (o_this : ob) (r : Int32 × ob) (hf : f6_ruleOn x0 x1 o_this = some r) : CTi l yX6_ruleOn cX6_ruleOn 4 (some .int) 3 68 D K [.ref (a0 0), .int x0, .int x1] [wX6 K a0 o_this] [wX6 K a0 r.2] r.1 := by
  unfold f6_ruleOn at hf
  have hf := tob hf
  refine entI (by decide) (Nat.le_of_ble_eq_true rfl) (fun P e s m args below meth c A ls F h hl hin => ?_)
  have hx := F.1
  have hb := F.2.1
  have hl : lv_has ls 4 [(0, .ref (a0 0)), (1, .int x0), (2, .int x1)] := hl
  refine lv_iconst (v := 0) hx hb dX6_ruleOn_0 (by decide) ?_
  refine lv_istore_n (lv' := [(3, .int 0), (0, .ref (a0 0)), (1, .int x0), (2, .int x1)]) hx hb dX6_ruleOn_1 rfl hl (by decide) rfl (fun ls hl => ?_)
  obtain ⟨q1, hq1, hf⟩ := asb hf
  obtain ⟨nq1, hq1⟩ := wh_out hq1
  have Xq1_1 : ∀ (z1 : Int32 × ob) (H : Heap) (locs : List Loc) (ls : Array Slot), q1 = (1, z1) → WD D A s.heap H locs [wX6 K a0 z1.2] → lv_has ls 4 [(3, .int z1.1)] → W P l e (rmS 3 68) s m args below meth c H locs 0 0 (MQ below (QiS D A [wX6 K a0 r.2] r.1) args s 0 0 A) (F0 m 41 ls []) := by
    intro z1 H locs ls eq1 h hl
    obtain rfl : z1 = q1.2 := by rw [eq1]
    have hf := ifp hf (show q1.1 = 1 by rw [eq1])
    refine lv_iload_n hx hb dX6_ruleOn_41 rfl (lv_at hl 0 rfl) ?_
    obtain rfl := sor hf
    exact r_reti F h dX6_ruleOn_42
  have Xq1_2 : ∀ (z1 : Int32 × ob) (H : Heap) (locs : List Loc) (ls : Array Slot), q1 = (2, z1) → WD D A s.heap H locs [wX6 K a0 z1.2] → lv_has ls 4 [] → W P l e (rmS 3 68) s m args below meth c H locs 0 0 (MQ below (QiS D A [wX6 K a0 r.2] r.1) args s 0 0 A) (F0 m 49 ls []) := by
    intro z1 H locs ls eq1 h hl
    obtain rfl : z1 = q1.2 := by rw [eq1]
    have hf := ifn hf (show ¬ q1.1 = 1 by rw [show q1.1 = 2 by rw [eq1]]; decide)
    refine lv_bipush (v := (-4)) hx hb dX6_ruleOn_49 (by decide) ?_
    obtain rfl := sor hf
    exact r_reti F h dX6_ruleOn_51
  have Lq1 : ∀ (n : Nat) (z1 : Int32 × ob) (H : Heap) (locs : List Loc) (ls : Array Slot), iter (f6_ruleOn_L2 x0 x1) n z1 = some q1 → WD D A s.heap H locs [wX6 K a0 z1.2] → lv_has ls 4 [(0, .ref (a0 0)), (1, .int x0), (2, .int x1), (3, .int z1.1)] → W P l e (rmS 3 68) s m args below meth c H locs 0 0 (MQ below (QiS D A [wX6 K a0 r.2] r.1) args s 0 0 A) (F0 m 2 ls []) := by
    intro n
    induction n with
    | zero => intro z1 H locs ls hi; exact (iter_0 hi).elim
    | succ n ihq1 =>
      intro z1 H locs ls hi h hl
      obtain ⟨uq1, hf, huq1⟩ := iter_s hi
      unfold f6_ruleOn_L2 at hf
      have hf := tob hf
      refine lv_iload_n hx hb dX6_ruleOn_2 rfl (lv_at hl 3 rfl) ?_
      refine lv_aload_n hx hb dX6_ruleOn_3 rfl (lv_at hl 0 rfl) ?_
      refine r_get F h (i := 0) (k := 1) (.int (z1.2.1 1)) inX6 rfl (by decide) w4 rfl rfl rfl dX6_ruleOn_4 ?_
      refine lv_icmp_ge (tgt := 49) hx hb dX6_ruleOn_7 (by decide) (fun c2 => ?_) (fun c2 => ?_)
      · have hf := ifp hf c2
        exact Xq1_2 _ _ _ _ (itr_x huq1 (sor hf)) h (lv_sub hl [] rfl)
      · have hf := ifn hf c2
        refine lv_aload_n hx hb dX6_ruleOn_10 rfl (lv_at hl 0 rfl) ?_
        refine lv_iload_n hx hb dX6_ruleOn_11 rfl (lv_at hl 3 rfl) ?_
        refine lv_iload_n hx hb dX6_ruleOn_12 rfl (lv_at hl 1 rfl) ?_
        refine lv_aload_n hx hb dX6_ruleOn_13 rfl (lv_at hl 0 rfl) ?_
        refine r_get F h (i := 0) (k := 20) (.ref (a0 21)) inX6 rfl (by decide) w126 rfl rfl rfl dX6_ruleOn_14 ?_
        refine lv_aload_n hx hb dX6_ruleOn_17 rfl (lv_at hl 0 rfl) ?_
        refine r_get F h (i := 0) (k := 22) (.int (z1.2.1 22)) inX6 rfl (by decide) w125 rfl rfl rfl dX6_ruleOn_18 ?_
        refine lv_iconst (v := 1) hx hb dX6_ruleOn_21 (by decide) ?_
        refine lv_isub hx hb dX6_ruleOn_22 ?_
        obtain ⟨g3, hf⟩ := gdb hf
        refine r_iald F h (i := 0) (j := 10) rfl rfl (vin_ok g3) dX6_ruleOn_23 ?_
        obtain ⟨q4, h4, hf⟩ := asb hf
        refine r_callVi (As := [.int z1.1, .int x0, .int (z1.2.2 20 ((z1.2.1 22) - 1).toNatClampNeg)]) (rest := []) (C0 := [wX6 K a0 z1.2]) (C1 := [wX6 K a0 z1.2]) (Rr := []) (S' := [wX6 K a0 z1.2]) F h hl (c6_fits l D K a0 z1.1 x0 (z1.2.2 20 ((z1.2.1 22) - 1).toNatClampNeg) z1.2 q4 h4) [0] rfl rfl rfl rfl rfl (i := 0) rfl rfl w46 ⟨w47, w48, w49, w2⟩ hsc6_fits ⟨Nat.le_of_ble_eq_true rfl, Nat.le_of_ble_eq_true rfl⟩ ⟨Nat.le_refl 0, Nat.le_refl 0⟩ (Nat.le_of_ble_eq_true rfl) dX6_ruleOn_24 (fun H locs h => ?_)
        refine lv_if_eq (tgt := 43) hx hb dX6_ruleOn_27 (by decide) (fun c5 => ?_) (fun c5 => ?_)
        · have hf := ifp hf c5
          obtain ⟨y6, e6⟩ : ∃ y : Int32, y = z1.1 + 1 := ⟨_, rfl⟩
          have hf := ltb hf e6
          refine lv_iinc (v := y6) (lv' := [(3, .int y6), (0, .ref (a0 0)), (1, .int x0), (2, .int x1)]) hx hb dX6_ruleOn_43 hl (k := 3) rfl (by rw [e6]; rfl) (by decide) rfl (fun ls hl => ?_)
          refine lv_goto (tgt := 2) hx hb dX6_ruleOn_46 (by decide) ?_
          exact ihq1 _ _ _ _ (itr_c huq1 (sor hf)) h (lv_sub hl [1, 2, 3, 0] rfl)
        · have hf := ifn hf c5
          refine lv_aload_n hx hb dX6_ruleOn_30 rfl (lv_at hl 0 rfl) ?_
          refine lv_iload_n hx hb dX6_ruleOn_31 rfl (lv_at hl 3 rfl) ?_
          obtain ⟨q7, h7, hf⟩ := asb hf
          refine r_callVi (As := [.int z1.1]) (rest := []) (C0 := [wX6 K a0 z1.2]) (C1 := [wX6 K a0 q7.2]) (Rr := []) (S' := [wX6 K a0 q7.2]) F h hl (c6_behind l D K a0 z1.1 z1.2 q7 h7) [0] rfl rfl rfl rfl rfl (i := 0) rfl rfl w139 ⟨w140, w141, w142, w2⟩ hsc6_behind ⟨Nat.le_of_ble_eq_true rfl, Nat.le_of_ble_eq_true rfl⟩ ⟨Nat.le_refl 0, Nat.le_refl 0⟩ (Nat.le_of_ble_eq_true rfl) dX6_ruleOn_32 (fun H locs h => ?_)
          refine lv_iload_n hx hb dX6_ruleOn_35 rfl (lv_at hl 2 rfl) ?_
          refine lv_iconst (v := 1) hx hb dX6_ruleOn_36 (by decide) ?_
          refine lv_isub hx hb dX6_ruleOn_37 ?_
          refine lv_icmp_ne (tgt := 43) hx hb dX6_ruleOn_38 (by decide) (fun c8 => ?_) (fun c8 => ?_)
          · have hf := ifn hf c8
            obtain ⟨y9, e9⟩ : ∃ y : Int32, y = z1.1 + 1 := ⟨_, rfl⟩
            have hf := ltb hf e9
            refine lv_iinc (v := y9) (lv' := [(3, .int y9), (0, .ref (a0 0)), (1, .int x0), (2, .int x1)]) hx hb dX6_ruleOn_43 hl (k := 3) rfl (by rw [e9]; rfl) (by decide) rfl (fun ls hl => ?_)
            refine lv_goto (tgt := 2) hx hb dX6_ruleOn_46 (by decide) ?_
            exact ihq1 _ _ _ _ (itr_c huq1 (sor hf)) h (lv_sub hl [1, 2, 3, 0] rfl)
          · have hf := ifp hf c8
            exact Xq1_1 _ _ _ _ (itr_x huq1 (sor hf)) h (lv_sub hl [3] rfl)
  exact Lq1 _ _ _ _ _ hq1 h (lv_sub hl [1, 2, 3, 0] rfl)
noncomputable def f6_towerSteps_L24 (g0 : Int32) (z4 : Int32 × ob) : Option (Nat × (Int32 × ob)) :=
  (if z4.1 < 0 then (some (1, (z4.1, z4.2))) else (gd (vin (((7 * g0) + 4) + z4.1) 70) <| (f6_puts (z4.2.2 2 (((7 * g0) + 4) + z4.1).toNatClampNeg) z4.2).bind fun q7 => lt (z4.1 + (-1)) fun y8 => some (0, (y8, q7))))
noncomputable def f6_towerSteps (x0 : Int32) (o_this : ob) : Option (ob) :=
  lt (sI o_this 22 ((o_this.1 22) - 1)) fun t1 => gd (vin ((7 * x0) + 3) 70) <| lt ((t1.2 2 ((7 * x0) + 3).toNatClampNeg) - 1) fun y3 => (wh (f6_towerSteps_L24 x0) (y3, t1)).bind fun q4 => some q4.2.2
set_option maxRecDepth 100000 in
set_option maxHeartbeats 4000000 in
theorem c6_towerSteps (l : Launch) (D : va_G) (K : Nat → ClassId) (a0 : Nat → Nat) (x0 : Int32) (o_this : ob) (r : ob) (hf : f6_towerSteps x0 o_this = some r) : CTv l yX6_towerSteps cX6_towerSteps 3 3 68 D K [.ref (a0 0), .int x0] [wX6 K a0 o_this] [wX6 K a0 r] := by
  unfold f6_towerSteps at hf
  have hf := tob hf
  refine entV (by decide) (Nat.le_of_ble_eq_true rfl) (fun P e s m args below meth c A ls F h hl hin => ?_)
  have hx := F.1
  have hb := F.2.1
  have hl : lv_has ls 3 [(0, .ref (a0 0)), (1, .int x0)] := hl
  refine lv_aload_n hx hb dX6_towerSteps_0 rfl (lv_at hl 0 rfl) ?_
  refine lv_dup hx hb dX6_towerSteps_1 rfl ?_
  refine r_get F h (i := 0) (k := 22) (.int (o_this.1 22)) inX6 rfl (by decide) w125 rfl rfl rfl dX6_towerSteps_2 ?_
  refine lv_iconst (v := 1) hx hb dX6_towerSteps_5 (by decide) ?_
  refine lv_isub hx hb dX6_towerSteps_6 ?_
  refine r_put (o1 := sI o_this 22 ((o_this.1 22) - 1)) (w := fun t1 => wX6 K a0 t1) (S' := fun t1 => [wX6 K a0 t1]) F h (i := 0) (k := 22) inX6 tyX6_ok nmX6 rfl (by decide) w125 rfl rfl rfl rfl rfl (Nat.le_of_ble_eq_true rfl) rfl (fun _ => rfl) dX6_towerSteps_7 (fun t1 e1 H locs h => ?_)
  have hf := ltb hf e1
  refine lv_aload_n hx hb dX6_towerSteps_10 rfl (lv_at hl 0 rfl) ?_
  refine r_get F h (i := 0) (k := 2) (.ref (a0 3)) inX6 rfl (by decide) w6 rfl rfl rfl dX6_towerSteps_11 ?_
  refine lv_bipush (v := 7) hx hb dX6_towerSteps_14 (by decide) ?_
  refine lv_iload_n hx hb dX6_towerSteps_16 rfl (lv_at hl 1 rfl) ?_
  refine lv_imul hx hb dX6_towerSteps_17 ?_
  refine lv_iconst (v := 3) hx hb dX6_towerSteps_18 (by decide) ?_
  refine lv_iadd hx hb dX6_towerSteps_19 ?_
  obtain ⟨g2, hf⟩ := gdb hf
  refine r_iald F h (i := 0) (j := 1) rfl rfl (vin_ok g2) dX6_towerSteps_20 ?_
  refine lv_iconst (v := 1) hx hb dX6_towerSteps_21 (by decide) ?_
  refine lv_isub hx hb dX6_towerSteps_22 ?_
  refine lv_topi (fun y3 e3 => ?_)
  have hf := ltb hf e3
  refine lv_istore_n (lv' := [(2, .int y3), (0, .ref (a0 0)), (1, .int x0)]) hx hb dX6_towerSteps_23 rfl hl (by decide) rfl (fun ls hl => ?_)
  obtain ⟨q4, hq4, hf⟩ := asb hf
  obtain ⟨nq4, hq4⟩ := wh_out hq4
  have Xq4_1 : ∀ (z4 : Int32 × ob) (H : Heap) (locs : List Loc) (ls : Array Slot), q4 = (1, z4) → WD D A s.heap H locs [wX6 K a0 z4.2] → lv_has ls 3 [] → W P l e (rmS 3 68) s m args below meth c H locs 0 0 (MQ below (QvS D A [wX6 K a0 r]) args s 0 0 A) (F0 m 51 ls []) := by
    intro z4 H locs ls eq4 h hl
    obtain rfl : z4 = q4.2 := by rw [eq4]
    obtain rfl := sor hf
    exact r_retv F h dX6_towerSteps_51
  have Lq4 : ∀ (n : Nat) (z4 : Int32 × ob) (H : Heap) (locs : List Loc) (ls : Array Slot), iter (f6_towerSteps_L24 x0) n z4 = some q4 → WD D A s.heap H locs [wX6 K a0 z4.2] → lv_has ls 3 [(0, .ref (a0 0)), (1, .int x0), (2, .int z4.1)] → W P l e (rmS 3 68) s m args below meth c H locs 0 0 (MQ below (QvS D A [wX6 K a0 r]) args s 0 0 A) (F0 m 24 ls []) := by
    intro n
    induction n with
    | zero => intro z4 H locs ls hi; exact (iter_0 hi).elim
    | succ n ihq4 =>
      intro z4 H locs ls hi h hl
      obtain ⟨uq4, hf, huq4⟩ := iter_s hi
      unfold f6_towerSteps_L24 at hf
      have hf := tob hf
      refine lv_iload_n hx hb dX6_towerSteps_24 rfl (lv_at hl 2 rfl) ?_
      refine lv_if_lt (tgt := 51) hx hb dX6_towerSteps_25 (by decide) (fun c5 => ?_) (fun c5 => ?_)
      · have hf := ifp hf c5
        exact Xq4_1 _ _ _ _ (itr_x huq4 (sor hf)) h (lv_sub hl [] rfl)
      · have hf := ifn hf c5
        refine lv_aload_n hx hb dX6_towerSteps_28 rfl (lv_at hl 0 rfl) ?_
        refine lv_aload_n hx hb dX6_towerSteps_29 rfl (lv_at hl 0 rfl) ?_
        refine r_get F h (i := 0) (k := 2) (.ref (a0 3)) inX6 rfl (by decide) w6 rfl rfl rfl dX6_towerSteps_30 ?_
        refine lv_bipush (v := 7) hx hb dX6_towerSteps_33 (by decide) ?_
        refine lv_iload_n hx hb dX6_towerSteps_35 rfl (lv_at hl 1 rfl) ?_
        refine lv_imul hx hb dX6_towerSteps_36 ?_
        refine lv_iconst (v := 4) hx hb dX6_towerSteps_37 (by decide) ?_
        refine lv_iadd hx hb dX6_towerSteps_38 ?_
        refine lv_iload_n hx hb dX6_towerSteps_39 rfl (lv_at hl 2 rfl) ?_
        refine lv_iadd hx hb dX6_towerSteps_40 ?_
        obtain ⟨g6, hf⟩ := gdb hf
        refine r_iald F h (i := 0) (j := 1) rfl rfl (vin_ok g6) dX6_towerSteps_41 ?_
        obtain ⟨q7, h7, hf⟩ := asb hf
        refine r_callVv (As := [.int (z4.2.2 2 (((7 * x0) + 4) + z4.1).toNatClampNeg)]) (rest := []) (C0 := [wX6 K a0 z4.2]) (C1 := [wX6 K a0 q7]) (Rr := []) (S' := [wX6 K a0 q7]) F h hl (c6_puts l D K a0 (z4.2.2 2 (((7 * x0) + 4) + z4.1).toNatClampNeg) z4.2 q7 h7) [0] rfl rfl rfl rfl rfl (i := 0) rfl rfl w135 ⟨w136, w137, w138, w2⟩ hsc6_puts ⟨Nat.le_of_ble_eq_true rfl, Nat.le_of_ble_eq_true rfl⟩ ⟨Nat.le_refl 0, Nat.le_refl 0⟩ (Nat.le_of_ble_eq_true rfl) dX6_towerSteps_42 (fun H locs h => ?_)
        obtain ⟨y8, e8⟩ : ∃ y : Int32, y = z4.1 + (-1) := ⟨_, rfl⟩
        have hf := ltb hf e8
        refine lv_iinc (v := y8) (lv' := [(2, .int y8), (0, .ref (a0 0)), (1, .int x0)]) hx hb dX6_towerSteps_45 hl (k := 2) rfl (by rw [e8]; rfl) (by decide) rfl (fun ls hl => ?_)
        refine lv_goto (tgt := 24) hx hb dX6_towerSteps_48 (by decide) ?_
        exact ihq4 _ _ _ _ (itr_c huq4 (sor hf)) h (lv_sub hl [1, 2, 0] rfl)
  exact Lq4 _ _ _ _ _ hq4 h (lv_sub hl [1, 2, 0] rfl)
noncomputable def f6_run_L67 (g0 : Int32) (z10 : Int32 × Int32 × Int32 × ob) : Option (Nat × (Int32 × Int32 × Int32 × ob)) :=
  (if g0 ≤ z10.2.2.1 then (some (1, (z10.1, z10.2.1, z10.2.2.1, z10.2.2.2))) else ((f6_towerSteps z10.2.1 z10.2.2.2).bind fun q12 => gd (vin ((7 * z10.2.1) + 2) 70) <| lt (q12.2 2 ((7 * z10.2.1) + 2).toNatClampNeg) fun y14 => lt (z10.1 + (-1)) fun y15 => (f6_ruleOn y14 y15 q12).bind fun q16 => lt (z10.2.2.1 + 1) fun y17 => some (0, (y15, q16.1, y17, q16.2))))
noncomputable def f6_run (x0 : Int32) (o_this : ob) : Option (Int32 × ob) :=
  (if (-1) ≤ x0 then ((f6_towerBegins o_this).bind fun q2 => gd (vin ((13 * (q2.1 22)) + (q2.1 5)) 5213) <| lt (q2.2 21 ((13 * (q2.1 22)) + (q2.1 5)).toNatClampNeg) fun y4 => (if 0 ≤ y4 then ((if x0 = (-1) then (some (y4, q2)) else ((if x0 < y4 then (lt (q2.1 5) fun y8 => (f6_ruleOn y8 y4 q2).bind fun q9 => (wh (f6_run_L67 x0) (y4, q9.1, 0, q9.2)).bind fun q10 => some (q10.2.2.1, q10.2.2.2.2)) else (some ((-4), q2)))))) else (some ((-4), q2)))) else (some ((-1), o_this)))
set_option maxRecDepth 100000 in
set_option maxHeartbeats 4000000 in
theorem c6_run (l : Launch) (D : va_G) (K : Nat → ClassId) (a0 : Nat → Nat) (x0 : Int32) (o_this : ob) (r : Int32 × ob) (hf : f6_run x0 o_this = some r) : CTi l yX6_run cX6_run 6 (some .int) 5 121 D K [.ref (a0 0), .int x0] [wX6 K a0 o_this] [wX6 K a0 r.2] r.1 := by
  unfold f6_run at hf
  have hf := tob hf
  refine entI (by decide) (Nat.le_of_ble_eq_true rfl) (fun P e s m args below meth c A ls F h hl hin => ?_)
  have hx := F.1
  have hb := F.2.1
  have hl : lv_has ls 6 [(0, .ref (a0 0)), (1, .int x0)] := hl
  refine lv_iload_n hx hb dX6_run_0 rfl (lv_at hl 1 rfl) ?_
  refine lv_iconst (v := (-1)) hx hb dX6_run_1 (by decide) ?_
  refine lv_icmp_ge (tgt := 7) hx hb dX6_run_2 (by decide) (fun c1 => ?_) (fun c1 => ?_)
  · have hf := ifp hf c1
    refine lv_aload_n hx hb dX6_run_7 rfl (lv_at hl 0 rfl) ?_
    obtain ⟨q2, h2, hf⟩ := asb hf
    refine r_callVv (As := []) (rest := []) (C0 := [wX6 K a0 o_this]) (C1 := [wX6 K a0 q2]) (Rr := []) (S' := [wX6 K a0 q2]) F h hl (c6_towerBegins l D K a0 o_this q2 h2) [0] rfl rfl rfl rfl rfl (i := 0) rfl rfl w143 ⟨w144, w145, w146, w2⟩ hsc6_towerBegins ⟨Nat.le_of_ble_eq_true rfl, Nat.le_of_ble_eq_true rfl⟩ ⟨Nat.le_refl 0, Nat.le_refl 0⟩ (Nat.le_of_ble_eq_true rfl) dX6_run_8 (fun H locs h => ?_)
    refine lv_aload_n hx hb dX6_run_11 rfl (lv_at hl 0 rfl) ?_
    refine r_get F h (i := 0) (k := 21) (.ref (a0 22)) inX6 rfl (by decide) w124 rfl rfl rfl dX6_run_12 ?_
    refine lv_bipush (v := 13) hx hb dX6_run_15 (by decide) ?_
    refine lv_aload_n hx hb dX6_run_17 rfl (lv_at hl 0 rfl) ?_
    refine r_get F h (i := 0) (k := 22) (.int (q2.1 22)) inX6 rfl (by decide) w125 rfl rfl rfl dX6_run_18 ?_
    refine lv_imul hx hb dX6_run_21 ?_
    refine lv_aload_n hx hb dX6_run_22 rfl (lv_at hl 0 rfl) ?_
    refine r_get F h (i := 0) (k := 5) (.int (q2.1 5)) inX6 rfl (by decide) w15 rfl rfl rfl dX6_run_23 ?_
    refine lv_iadd hx hb dX6_run_26 ?_
    obtain ⟨g3, hf⟩ := gdb hf
    refine r_iald F h (i := 0) (j := 11) rfl rfl (vin_ok g3) dX6_run_27 ?_
    refine lv_topi (fun y4 e4 => ?_)
    have hf := ltb hf e4
    refine lv_istore_n (lv' := [(2, .int y4), (0, .ref (a0 0)), (1, .int x0)]) hx hb dX6_run_28 rfl hl (by decide) rfl (fun ls hl => ?_)
    refine lv_iload_n hx hb dX6_run_29 rfl (lv_at hl 0 rfl) ?_
    refine lv_if_ge (tgt := 36) hx hb dX6_run_30 (by decide) (fun c5 => ?_) (fun c5 => ?_)
    · have hf := ifp hf c5
      refine lv_iload_n hx hb dX6_run_36 rfl (lv_at hl 2 rfl) ?_
      refine lv_iconst (v := (-1)) hx hb dX6_run_37 (by decide) ?_
      refine lv_icmp_ne (tgt := 43) hx hb dX6_run_38 (by decide) (fun c6 => ?_) (fun c6 => ?_)
      · have hf := ifn hf c6
        refine lv_iload_n hx hb dX6_run_43 rfl (lv_at hl 2 rfl) ?_
        refine lv_iload_n hx hb dX6_run_44 rfl (lv_at hl 0 rfl) ?_
        refine lv_icmp_lt (tgt := 51) hx hb dX6_run_45 (by decide) (fun c7 => ?_) (fun c7 => ?_)
        · have hf := ifp hf c7
          refine lv_aload_n hx hb dX6_run_51 rfl (lv_at hl 1 rfl) ?_
          refine r_get F h (i := 0) (k := 5) (.int (q2.1 5)) inX6 rfl (by decide) w15 rfl rfl rfl dX6_run_52 ?_
          refine lv_topi (fun y8 e8 => ?_)
          have hf := ltb hf e8
          refine lv_istore_n (lv' := [(3, .int y8), (2, .int y4), (0, .ref (a0 0)), (1, .int x0)]) hx hb dX6_run_55 rfl hl (by decide) rfl (fun ls hl => ?_)
          refine lv_aload_n hx hb dX6_run_56 rfl (lv_at hl 2 rfl) ?_
          refine lv_iload_n hx hb dX6_run_57 rfl (lv_at hl 0 rfl) ?_
          refine lv_iload_n hx hb dX6_run_58 rfl (lv_at hl 1 rfl) ?_
          obtain ⟨q9, h9, hf⟩ := asb hf
          refine r_callVi (As := [.int y8, .int y4]) (rest := []) (C0 := [wX6 K a0 q2]) (C1 := [wX6 K a0 q9.2]) (Rr := []) (S' := [wX6 K a0 q9.2]) F h hl (c6_ruleOn l D K a0 y8 y4 q2 q9 h9) [0] rfl rfl rfl rfl rfl (i := 0) rfl rfl w147 ⟨w148, w149, w150, w2⟩ hsc6_ruleOn ⟨Nat.le_of_ble_eq_true rfl, Nat.le_of_ble_eq_true rfl⟩ ⟨Nat.le_refl 0, Nat.le_refl 0⟩ (Nat.le_of_ble_eq_true rfl) dX6_run_59 (fun H locs h => ?_)
          refine lv_istore (lv' := [(4, .int q9.1), (3, .int y8), (2, .int y4), (0, .ref (a0 0)), (1, .int x0)]) hx hb dX6_run_62 hl (by decide) rfl (fun ls hl => ?_)
          refine lv_iconst (v := 0) hx hb dX6_run_64 (by decide) ?_
          refine lv_istore (lv' := [(5, .int 0), (4, .int q9.1), (3, .int y8), (2, .int y4), (0, .ref (a0 0)), (1, .int x0)]) hx hb dX6_run_65 hl (by decide) rfl (fun ls hl => ?_)
          obtain ⟨q10, hq10, hf⟩ := asb hf
          obtain ⟨nq10, hq10⟩ := wh_out hq10
          have Xq10_1 : ∀ (z10 : Int32 × Int32 × Int32 × ob) (H : Heap) (locs : List Loc) (ls : Array Slot), q10 = (1, z10) → WD D A s.heap H locs [wX6 K a0 z10.2.2.2] → lv_has ls 6 [(4, .int z10.2.1)] → W P l e (rmS 5 121) s m args below meth c H locs 0 0 (MQ below (QiS D A [wX6 K a0 r.2] r.1) args s 0 0 A) (F0 m 109 ls []) := by
            intro z10 H locs ls eq10 h hl
            obtain rfl : z10 = q10.2 := by rw [eq10]
            refine lv_iload hx hb dX6_run_109 (lv_at hl 0 rfl) ?_
            obtain rfl := sor hf
            exact r_reti F h dX6_run_111
          have Lq10 : ∀ (n : Nat) (z10 : Int32 × Int32 × Int32 × ob) (H : Heap) (locs : List Loc) (ls : Array Slot), iter (f6_run_L67 x0) n z10 = some q10 → WD D A s.heap H locs [wX6 K a0 z10.2.2.2] → lv_has ls 6 [(0, .ref (a0 0)), (1, .int x0), (2, .int z10.1), (4, .int z10.2.1), (5, .int z10.2.2.1)] → W P l e (rmS 5 121) s m args below meth c H locs 0 0 (MQ below (QiS D A [wX6 K a0 r.2] r.1) args s 0 0 A) (F0 m 67 ls []) := by
            intro n
            induction n with
            | zero => intro z10 H locs ls hi; exact (iter_0 hi).elim
            | succ n ihq10 =>
              intro z10 H locs ls hi h hl
              obtain ⟨uq10, hf, huq10⟩ := iter_s hi
              unfold f6_run_L67 at hf
              have hf := tob hf
              refine lv_iload hx hb dX6_run_67 (lv_at hl 4 rfl) ?_
              refine lv_iload_n hx hb dX6_run_69 rfl (lv_at hl 1 rfl) ?_
              refine lv_icmp_ge (tgt := 109) hx hb dX6_run_70 (by decide) (fun c11 => ?_) (fun c11 => ?_)
              · have hf := ifp hf c11
                exact Xq10_1 _ _ _ _ (itr_x huq10 (sor hf)) h (lv_sub hl [3] rfl)
              · have hf := ifn hf c11
                refine lv_aload_n hx hb dX6_run_73 rfl (lv_at hl 0 rfl) ?_
                refine lv_iload hx hb dX6_run_74 (lv_at hl 3 rfl) ?_
                obtain ⟨q12, h12, hf⟩ := asb hf
                refine r_callVv (As := [.int z10.2.1]) (rest := []) (C0 := [wX6 K a0 z10.2.2.2]) (C1 := [wX6 K a0 q12]) (Rr := []) (S' := [wX6 K a0 q12]) F h hl (c6_towerSteps l D K a0 z10.2.1 z10.2.2.2 q12 h12) [0] rfl rfl rfl rfl rfl (i := 0) rfl rfl w151 ⟨w152, w153, w154, w2⟩ hsc6_towerSteps ⟨Nat.le_of_ble_eq_true rfl, Nat.le_of_ble_eq_true rfl⟩ ⟨Nat.le_refl 0, Nat.le_refl 0⟩ (Nat.le_of_ble_eq_true rfl) dX6_run_76 (fun H locs h => ?_)
                refine lv_aload_n hx hb dX6_run_79 rfl (lv_at hl 0 rfl) ?_
                refine r_get F h (i := 0) (k := 2) (.ref (a0 3)) inX6 rfl (by decide) w6 rfl rfl rfl dX6_run_80 ?_
                refine lv_bipush (v := 7) hx hb dX6_run_83 (by decide) ?_
                refine lv_iload hx hb dX6_run_85 (lv_at hl 3 rfl) ?_
                refine lv_imul hx hb dX6_run_87 ?_
                refine lv_iconst (v := 2) hx hb dX6_run_88 (by decide) ?_
                refine lv_iadd hx hb dX6_run_89 ?_
                obtain ⟨g13, hf⟩ := gdb hf
                refine r_iald F h (i := 0) (j := 1) rfl rfl (vin_ok g13) dX6_run_90 ?_
                refine lv_topi (fun y14 e14 => ?_)
                have hf := ltb hf e14
                refine lv_istore_n (lv' := [(3, .int y14), (0, .ref (a0 0)), (1, .int x0), (2, .int z10.1), (4, .int z10.2.1), (5, .int z10.2.2.1)]) hx hb dX6_run_91 rfl hl (by decide) rfl (fun ls hl => ?_)
                obtain ⟨y15, e15⟩ : ∃ y : Int32, y = z10.1 + (-1) := ⟨_, rfl⟩
                have hf := ltb hf e15
                refine lv_iinc (v := y15) (lv' := [(2, .int y15), (3, .int y14), (0, .ref (a0 0)), (1, .int x0), (4, .int z10.2.1), (5, .int z10.2.2.1)]) hx hb dX6_run_92 hl (k := 3) rfl (by rw [e15]; rfl) (by decide) rfl (fun ls hl => ?_)
                refine lv_aload_n hx hb dX6_run_95 rfl (lv_at hl 2 rfl) ?_
                refine lv_iload_n hx hb dX6_run_96 rfl (lv_at hl 1 rfl) ?_
                refine lv_iload_n hx hb dX6_run_97 rfl (lv_at hl 0 rfl) ?_
                obtain ⟨q16, h16, hf⟩ := asb hf
                refine r_callVi (As := [.int y14, .int y15]) (rest := []) (C0 := [wX6 K a0 q12]) (C1 := [wX6 K a0 q16.2]) (Rr := []) (S' := [wX6 K a0 q16.2]) F h hl (c6_ruleOn l D K a0 y14 y15 q12 q16 h16) [0] rfl rfl rfl rfl rfl (i := 0) rfl rfl w147 ⟨w148, w149, w150, w2⟩ hsc6_ruleOn ⟨Nat.le_of_ble_eq_true rfl, Nat.le_of_ble_eq_true rfl⟩ ⟨Nat.le_refl 0, Nat.le_refl 0⟩ (Nat.le_of_ble_eq_true rfl) dX6_run_98 (fun H locs h => ?_)
                refine lv_istore (lv' := [(4, .int q16.1), (2, .int y15), (3, .int y14), (0, .ref (a0 0)), (1, .int x0), (5, .int z10.2.2.1)]) hx hb dX6_run_101 hl (by decide) rfl (fun ls hl => ?_)
                obtain ⟨y17, e17⟩ : ∃ y : Int32, y = z10.2.2.1 + 1 := ⟨_, rfl⟩
                have hf := ltb hf e17
                refine lv_iinc (v := y17) (lv' := [(5, .int y17), (4, .int q16.1), (2, .int y15), (3, .int y14), (0, .ref (a0 0)), (1, .int x0)]) hx hb dX6_run_103 hl (k := 5) rfl (by rw [e17]; rfl) (by decide) rfl (fun ls hl => ?_)
                refine lv_goto (tgt := 67) hx hb dX6_run_106 (by decide) ?_
                exact ihq10 _ _ _ _ (itr_c huq10 (sor hf)) h (lv_sub hl [4, 5, 2, 1, 0] rfl)
          exact Lq10 _ _ _ _ _ hq10 h (lv_sub hl [4, 5, 3, 1, 0] rfl)
        · have hf := ifn hf c7
          refine lv_bipush (v := (-4)) hx hb dX6_run_48 (by decide) ?_
          obtain rfl := sor hf
          exact r_reti F h dX6_run_50
      · have hf := ifp hf c6
        refine lv_iload_n hx hb dX6_run_41 rfl (lv_at hl 0 rfl) ?_
        obtain rfl := sor hf
        exact r_reti F h dX6_run_42
    · have hf := ifn hf c5
      refine lv_bipush (v := (-4)) hx hb dX6_run_33 (by decide) ?_
      obtain rfl := sor hf
      exact r_reti F h dX6_run_35
  · have hf := ifn hf c1
    refine lv_iconst (v := (-1)) hx hb dX6_run_5 (by decide) ?_
    obtain rfl := sor hf
    exact r_reti F h dX6_run_6
