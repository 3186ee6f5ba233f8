def f6_targetEdges_L150 (g3 : Int32) (g5 : Int32) (g6 : Int32) (g10 : Int32) (z10 : Int32 × ob) : Option (Nat × (Int32 × ob)) :=
  (if 4 ≤ z10.1 then (some (1, (z10.1, z10.2))) else ((if g5 = 0 then ((if g6 = 0 then (some (1, (z10.1, z10.2))) else ((f6_place g10 z10.1 g3).bind fun q14 => gd (vin q14 676) <| lt (sA z10.2 13 q14.toNatClampNeg 0) fun t16 => lt (z10.1 + 1) fun y17 => some (0, (y17, t16))))) else (some (1, (z10.1, z10.2))))))
def f6_targetEdges_L52 (g2 : Int32) (g3 : Int32) (g5 : Int32) (g6 : Int32) (z9 : Int32 × Int32 × ob) : Option (Nat × (Int32 × Int32 × ob)) :=
  (if g5 ≤ z9.2.1 then (some (1, (z9.1, z9.2.1, z9.2.2))) else (((if (g5 - 1) ≤ z9.2.1 then ((if g6 = 0 then (some (z9.2.2.1 0)) else (some g3))) else (some (z9.2.2.1 15)))).bind fun v19 => gd (vin ((g2 + 3) + z9.2.1) 24) <| (f6_place z9.1 (z9.2.2.2 4 ((g2 + 3) + z9.2.1).toNatClampNeg) v19).bind fun q21 => gd (vin q21 676) <| lt (sA z9.2.2 13 q21.toNatClampNeg 0) fun t23 => ((if (g5 - 1) ≤ z9.2.1 then (some 0) else (some 1))).bind fun v24 => lt (sI t23 15 ((t23.1 15) + v24)) fun t25 => lt (z9.2.1 + 1) fun y26 => some (0, (v19, y26, t25))))
noncomputable def f6_targetEdges (x0 : Int32) (o_this : ob) : Option (ob) :=
  lt (6 * x0) fun y1 => lt ((o_this.1 0) + 1) fun y2 => gd (vin y1 24) <| lt (o_this.2 4 y1.toNatClampNeg) fun y4 => gd (vin (y1 + 1) 24) <| lt (o_this.2 4 (y1 + 1).toNatClampNeg) fun y6 => gd (vin (y1 + 2) 24) <| ((if (o_this.2 4 (y1 + 2).toNatClampNeg) = 1 then (some 1) else (some 0))).bind fun v8 => (wh (f6_targetEdges_L52 y1 y2 y6 v8) (y4, 0, o_this)).bind fun q9 => (wh (f6_targetEdges_L150 y2 y6 v8 q9.2.1) (0, q9.2.2.2)).bind fun q10 => some q10.2.2
set_option maxRecDepth 100000 in
set_option maxHeartbeats 4000000 in
theorem c6_targetEdges (l : Launch) (D : va_G) (K : Nat → ClassId) (a0 : Nat → Nat) (x0 : Int32) (o_this : ob) (r : ob) (hf : f6_targetEdges x0 o_this = some r) : CTv l yX6_targetEdges cX6_targetEdges 9 1 22 D K [.ref (a0 0), .int x0] [wX6 K a0 o_this] [wX6 K a0 r] := by
  unfold f6_targetEdges at hf
  have hf := tob hf
  refine entV (by decide) (Nat.le_of_ble_eq_true rfl) (fun P e s m args below meth c A ls F h hl hin => ?_)
  have hx := F.1
  have hb := F.2.1
  have hl : lv_has ls 9 [(0, .ref (a0 0)), (1, .int x0)] := hl
  refine lv_bipush (v := 6) hx hb dX6_targetEdges_0 (by decide) ?_
  refine lv_iload_n hx hb dX6_targetEdges_2 rfl (lv_at hl 1 rfl) ?_
  refine lv_imul hx hb dX6_targetEdges_3 ?_
  refine lv_topi (fun y1 e1 => ?_)
  have hf := ltb hf e1
  refine lv_istore_n (lv' := [(2, .int y1), (0, .ref (a0 0)), (1, .int x0)]) hx hb dX6_targetEdges_4 rfl hl (by decide) rfl (fun ls hl => ?_)
  refine lv_aload_n hx hb dX6_targetEdges_5 rfl (lv_at hl 1 rfl) ?_
  refine r_get F h (i := 0) (k := 0) (.int (o_this.1 0)) inX6 rfl (by decide) w5 rfl rfl rfl dX6_targetEdges_6 ?_
  refine lv_iconst (v := 1) hx hb dX6_targetEdges_9 (by decide) ?_
  refine lv_iadd hx hb dX6_targetEdges_10 ?_
  refine lv_topi (fun y2 e2 => ?_)
  have hf := ltb hf e2
  refine lv_istore_n (lv' := [(3, .int y2), (2, .int y1), (0, .ref (a0 0)), (1, .int x0)]) hx hb dX6_targetEdges_11 rfl hl (by decide) rfl (fun ls hl => ?_)
  refine lv_aload_n hx hb dX6_targetEdges_12 rfl (lv_at hl 2 rfl) ?_
  refine r_get F h (i := 0) (k := 4) (.ref (a0 5)) inX6 rfl (by decide) w12 rfl rfl rfl dX6_targetEdges_13 ?_
  refine lv_iload_n hx hb dX6_targetEdges_16 rfl (lv_at hl 1 rfl) ?_
  obtain ⟨g3, hf⟩ := gdb hf
  refine r_iald F h (i := 0) (j := 2) rfl rfl (vin_ok g3) dX6_targetEdges_17 ?_
  refine lv_topi (fun y4 e4 => ?_)
  have hf := ltb hf e4
  refine lv_istore (lv' := [(4, .int y4), (3, .int y2), (2, .int y1), (0, .ref (a0 0)), (1, .int x0)]) hx hb dX6_targetEdges_18 hl (by decide) rfl (fun ls hl => ?_)
  refine lv_aload_n hx hb dX6_targetEdges_20 rfl (lv_at hl 3 rfl) ?_
  refine r_get F h (i := 0) (k := 4) (.ref (a0 5)) inX6 rfl (by decide) w12 rfl rfl rfl dX6_targetEdges_21 ?_
  refine lv_iload_n hx hb dX6_targetEdges_24 rfl (lv_at hl 2 rfl) ?_
  refine lv_iconst (v := 1) hx hb dX6_targetEdges_25 (by decide) ?_
  refine lv_iadd hx hb dX6_targetEdges_26 ?_
  obtain ⟨g5, hf⟩ := gdb hf
  refine r_iald F h (i := 0) (j := 2) rfl rfl (vin_ok g5) dX6_targetEdges_27 ?_
  refine lv_topi (fun y6 e6 => ?_)
  have hf := ltb hf e6
  refine lv_istore (lv' := [(5, .int y6), (4, .int y4), (3, .int y2), (2, .int y1), (0, .ref (a0 0)), (1, .int x0)]) hx hb dX6_targetEdges_28 hl (by decide) rfl (fun ls hl => ?_)
  refine lv_aload_n hx hb dX6_targetEdges_30 rfl (lv_at hl 4 rfl) ?_
  refine r_get F h (i := 0) (k := 4) (.ref (a0 5)) inX6 rfl (by decide) w12 rfl rfl rfl dX6_targetEdges_31 ?_
  refine lv_iload_n hx hb dX6_targetEdges_34 rfl (lv_at hl 3 rfl) ?_
  refine lv_iconst (v := 2) hx hb dX6_targetEdges_35 (by decide) ?_
  refine lv_iadd hx hb dX6_targetEdges_36 ?_
  obtain ⟨g7, hf⟩ := gdb hf
  refine r_iald F h (i := 0) (j := 2) rfl rfl (vin_ok g7) dX6_targetEdges_37 ?_
  refine lv_iconst (v := 1) hx hb dX6_targetEdges_38 (by decide) ?_
  obtain ⟨J8, eJ8, hf⟩ := rgn hf
  have JW8 : ∀ (v8 : Int32) (H : Heap) (locs : List Loc) (ls : Array Slot), WD D A s.heap H locs [wX6 K a0 o_this] → lv_has ls 9 [(0, .ref (a0 0)), (2, .int y1), (3, .int y2), (4, .int y4), (5, .int y6)] → J8 v8 = some r → W P l e (rmS 1 22) s m args below meth c H locs 0 0 (MQ below (QvS D A [wX6 K a0 r]) args s 0 0 A) (F0 m 47 ls [.int v8]) := by
    intro v8 H locs ls h hl hf
    have hf := jof eJ8 hf
    refine lv_istore (lv' := [(6, .int v8), (0, .ref (a0 0)), (2, .int y1), (3, .int y2), (4, .int y4), (5, .int y6)]) hx hb dX6_targetEdges_47 hl (by decide) rfl (fun ls hl => ?_)
    refine lv_iconst (v := 0) hx hb dX6_targetEdges_49 (by decide) ?_
    refine lv_istore (lv' := [(7, .int 0), (6, .int v8), (0, .ref (a0 0)), (2, .int y1), (3, .int y2), (4, .int y4), (5, .int y6)]) hx hb dX6_targetEdges_50 hl (by decide) rfl (fun ls hl => ?_)
    obtain ⟨q9, hq9, hf⟩ := asb hf
    obtain ⟨nq9, hq9⟩ := wh_out hq9
    have Xq9_1 : ∀ (z9 : Int32 × Int32 × ob) (H : Heap) (locs : List Loc) (ls : Array Slot), q9 = (1, z9) → WD D A s.heap H locs [wX6 K a0 z9.2.2] → lv_has ls 9 [(0, .ref (a0 0)), (3, .int y2), (4, .int z9.1), (5, .int y6), (6, .int v8)] → W P l e (rmS 1 22) s m args below meth c H locs 0 0 (MQ below (QvS D A [wX6 K a0 r]) args s 0 0 A) (F0 m 147 ls []) := by
      intro z9 H locs ls eq9 h hl
      obtain rfl : z9 = q9.2 := by rw [eq9]
      refine lv_iconst (v := 0) hx hb dX6_targetEdges_147 (by decide) ?_
      refine lv_istore (lv' := [(7, .int 0), (0, .ref (a0 0)), (3, .int y2), (4, .int q9.2.1), (5, .int y6), (6, .int v8)]) hx hb dX6_targetEdges_148 hl (by decide) rfl (fun ls hl => ?_)
      obtain ⟨q10, hq10, hf⟩ := asb hf
      obtain ⟨nq10, hq10⟩ := wh_out hq10
      have Xq10_1 : ∀ (z10 : Int32 × ob) (H : Heap) (locs : List Loc) (ls : Array Slot), q10 = (1, z10) → WD D A s.heap H locs [wX6 K a0 z10.2] → lv_has ls 9 [] → W P l e (rmS 1 22) s m args below meth c H locs 0 0 (MQ below (QvS D A [wX6 K a0 r]) args s 0 0 A) (F0 m 186 ls []) := by
        intro z10 H locs ls eq10 h hl
        obtain rfl : z10 = q10.2 := by rw [eq10]
        obtain rfl := sor hf
        exact r_retv F h dX6_targetEdges_186
      have Lq10 : ∀ (n : Nat) (z10 : Int32 × ob) (H : Heap) (locs : List Loc) (ls : Array Slot), iter (f6_targetEdges_L150 y2 y6 v8 q9.2.1) n z10 = some q10 → WD D A s.heap H locs [wX6 K a0 z10.2] → lv_has ls 9 [(0, .ref (a0 0)), (3, .int y2), (4, .int q9.2.1), (5, .int y6), (6, .int v8), (7, .int z10.1)] → W P l e (rmS 1 22) s m args below meth c H locs 0 0 (MQ below (QvS D A [wX6 K a0 r]) args s 0 0 A) (F0 m 150 ls []) := by
        intro n
        induction n with
        | zero => intro z10 H locs ls hi; exact (iter_0 hi).elim
        | succ n ihq10 =>
          intro z10 H locs ls hi h hl
          obtain ⟨uq10, hf, huq10⟩ := iter_s hi
          unfold f6_targetEdges_L150 at hf
          have hf := tob hf
          refine lv_iload hx hb dX6_targetEdges_150 (lv_at hl 5 rfl) ?_
          refine lv_iconst (v := 4) hx hb dX6_targetEdges_152 (by decide) ?_
          refine lv_icmp_ge (tgt := 186) hx hb dX6_targetEdges_153 (by decide) (fun c11 => ?_) (fun c11 => ?_)
          · have hf := ifp hf c11
            exact Xq10_1 _ _ _ _ (itr_x huq10 (sor hf)) h (lv_sub hl [] rfl)
          · have hf := ifn hf c11
            refine lv_iload hx hb dX6_targetEdges_156 (lv_at hl 3 rfl) ?_
            refine lv_if_ne (tgt := 186) hx hb dX6_targetEdges_158 (by decide) (fun c12 => ?_) (fun c12 => ?_)
            · have hf := ifn hf c12
              exact Xq10_1 _ _ _ _ (itr_x huq10 (sor hf)) h (lv_sub hl [] rfl)
            · have hf := ifp hf c12
              refine lv_iload hx hb dX6_targetEdges_161 (lv_at hl 4 rfl) ?_
              refine lv_if_eq (tgt := 186) hx hb dX6_targetEdges_163 (by decide) (fun c13 => ?_) (fun c13 => ?_)
              · have hf := ifp hf c13
                exact Xq10_1 _ _ _ _ (itr_x huq10 (sor hf)) h (lv_sub hl [] rfl)
              · have hf := ifn hf c13
                refine lv_aload_n hx hb dX6_targetEdges_166 rfl (lv_at hl 0 rfl) ?_
                refine r_get F h (i := 0) (k := 13) (.ref (a0 14)) inX6 rfl (by decide) w62 rfl rfl rfl dX6_targetEdges_167 ?_
                refine lv_iload hx hb dX6_targetEdges_170 (lv_at hl 2 rfl) ?_
                refine lv_iload hx hb dX6_targetEdges_172 (lv_at hl 5 rfl) ?_
                refine lv_iload_n hx hb dX6_targetEdges_174 rfl (lv_at hl 1 rfl) ?_
                obtain ⟨q14, h14, hf⟩ := asb hf
                refine r_callS (As := [.int q9.2.1, .int z10.1, .int y2]) (rest := [.ref (a0 14)]) F h hl (c6_place l D K q9.2.1 z10.1 y2 q14 h14) w65 ⟨w63, w64, w2⟩ hsc6_place ⟨Nat.le_of_ble_eq_true rfl, Nat.le_of_ble_eq_true rfl⟩ ⟨Nat.le_refl 0, Nat.le_refl 0⟩ (Nat.le_of_ble_eq_true rfl) dX6_targetEdges_175 (fun H locs h => ?_)
                refine lv_iconst (v := 0) hx hb dX6_targetEdges_178 (by decide) ?_
                obtain ⟨g15, hf⟩ := gdb hf
                refine r_iast (o1 := sA z10.2 13 q14.toNatClampNeg 0) (w := fun t16 => wX6 K a0 t16) (S' := fun t16 => [wX6 K a0 t16]) F h (i := 0) (j := 6) rfl rfl (vin_ok g15) rfl (fun _ => rfl) dX6_targetEdges_179 (fun t16 e16 H locs h => ?_)
                have hf := ltb hf e16
                obtain ⟨y17, e17⟩ : ∃ y : Int32, y = z10.1 + 1 := ⟨_, rfl⟩
                have hf := ltb hf e17
                refine lv_iinc (v := y17) (lv' := [(7, .int y17), (0, .ref (a0 0)), (3, .int y2), (4, .int q9.2.1), (5, .int y6), (6, .int v8)]) hx hb dX6_targetEdges_180 hl (k := 5) rfl (by rw [e17]; rfl) (by decide) rfl (fun ls hl => ?_)
                refine lv_goto (tgt := 150) hx hb dX6_targetEdges_183 (by decide) ?_
                exact ihq10 _ _ _ _ (itr_c huq10 (sor hf)) h (lv_sub hl [1, 2, 3, 4, 5, 0] rfl)
      exact Lq10 _ _ _ _ _ hq10 h (lv_sub hl [1, 2, 3, 4, 5, 0] rfl)
    have Lq9 : ∀ (n : Nat) (z9 : Int32 × Int32 × ob) (H : Heap) (locs : List Loc) (ls : Array Slot), iter (f6_targetEdges_L52 y1 y2 y6 v8) n z9 = some q9 → WD D A s.heap H locs [wX6 K a0 z9.2.2] → lv_has ls 9 [(0, .ref (a0 0)), (2, .int y1), (3, .int y2), (4, .int z9.1), (5, .int y6), (6, .int v8), (7, .int z9.2.1)] → W P l e (rmS 1 22) s m args below meth c H locs 0 0 (MQ below (QvS D A [wX6 K a0 r]) args s 0 0 A) (F0 m 52 ls []) := by
      intro n
      induction n with
      | zero => intro z9 H locs ls hi; exact (iter_0 hi).elim
      | succ n ihq9 =>
        intro z9 H locs ls hi h hl
        obtain ⟨uq9, hf, huq9⟩ := iter_s hi
        unfold f6_targetEdges_L52 at hf
        have hf := tob hf
        refine lv_iload hx hb dX6_targetEdges_52 (lv_at hl 6 rfl) ?_
        refine lv_iload hx hb dX6_targetEdges_54 (lv_at hl 4 rfl) ?_
        refine lv_icmp_ge (tgt := 147) hx hb dX6_targetEdges_56 (by decide) (fun c18 => ?_) (fun c18 => ?_)
        · have hf := ifp hf c18
          exact Xq9_1 _ _ _ _ (itr_x huq9 (sor hf)) h (lv_sub hl [0, 2, 3, 4, 5] rfl)
        · have hf := ifn hf c18
          refine lv_iload hx hb dX6_targetEdges_59 (lv_at hl 6 rfl) ?_
          refine lv_iload hx hb dX6_targetEdges_61 (lv_at hl 4 rfl) ?_
          refine lv_iconst (v := 1) hx hb dX6_targetEdges_63 (by decide) ?_
          refine lv_isub hx hb dX6_targetEdges_64 ?_
          obtain ⟨J19, eJ19, hf⟩ := rgn hf
          have JW19 : ∀ (v19 : Int32) (H : Heap) (locs : List Loc) (ls : Array Slot), WD D A s.heap H locs [wX6 K a0 z9.2.2] → lv_has ls 9 [(0, .ref (a0 0)), (2, .int y1), (3, .int y2), (4, .int z9.1), (5, .int y6), (6, .int v8), (7, .int z9.2.1)] → J19 v19 = some uq9 → W P l e (rmS 1 22) s m args below meth c H locs 0 0 (MQ below (QvS D A [wX6 K a0 r]) args s 0 0 A) (F0 m 88 ls [.int v19]) := by
            intro v19 H locs ls h hl hf
            have hf := jof eJ19 hf
            refine lv_istore (lv' := [(8, .int v19), (0, .ref (a0 0)), (2, .int y1), (3, .int y2), (4, .int z9.1), (5, .int y6), (6, .int v8), (7, .int z9.2.1)]) hx hb dX6_targetEdges_88 hl (by decide) rfl (fun ls hl => ?_)
            refine lv_aload_n hx hb dX6_targetEdges_90 rfl (lv_at hl 1 rfl) ?_
            refine r_get F h (i := 0) (k := 13) (.ref (a0 14)) inX6 rfl (by decide) w62 rfl rfl rfl dX6_targetEdges_91 ?_
            refine lv_iload hx hb dX6_targetEdges_94 (lv_at hl 4 rfl) ?_
            refine lv_aload_n hx hb dX6_targetEdges_96 rfl (lv_at hl 1 rfl) ?_
            refine r_get F h (i := 0) (k := 4) (.ref (a0 5)) inX6 rfl (by decide) w12 rfl rfl rfl dX6_targetEdges_97 ?_
            refine lv_iload_n hx hb dX6_targetEdges_100 rfl (lv_at hl 2 rfl) ?_
            refine lv_iconst (v := 3) hx hb dX6_targetEdges_101 (by decide) ?_
            refine lv_iadd hx hb dX6_targetEdges_102 ?_
            refine lv_iload hx hb dX6_targetEdges_103 (lv_at hl 7 rfl) ?_
            refine lv_iadd hx hb dX6_targetEdges_105 ?_
            obtain ⟨g20, hf⟩ := gdb hf
            refine r_iald F h (i := 0) (j := 2) rfl rfl (vin_ok g20) dX6_targetEdges_106 ?_
            refine lv_iload hx hb dX6_targetEdges_107 (lv_at hl 0 rfl) ?_
            obtain ⟨q21, h21, hf⟩ := asb hf
            refine r_callS (As := [.int z9.1, .int (z9.2.2.2 4 ((y1 + 3) + z9.2.1).toNatClampNeg), .int v19]) (rest := [.ref (a0 14)]) F h hl (c6_place l D K z9.1 (z9.2.2.2 4 ((y1 + 3) + z9.2.1).toNatClampNeg) v19 q21 h21) w65 ⟨w63, w64, w2⟩ hsc6_place ⟨Nat.le_of_ble_eq_true rfl, Nat.le_of_ble_eq_true rfl⟩ ⟨Nat.le_refl 0, Nat.le_refl 0⟩ (Nat.le_of_ble_eq_true rfl) dX6_targetEdges_109 (fun H locs h => ?_)
            refine lv_iconst (v := 0) hx hb dX6_targetEdges_112 (by decide) ?_
            obtain ⟨g22, hf⟩ := gdb hf
            refine r_iast (o1 := sA z9.2.2 13 q21.toNatClampNeg 0) (w := fun t23 => wX6 K a0 t23) (S' := fun t23 => [wX6 K a0 t23]) F h (i := 0) (j := 6) rfl rfl (vin_ok g22) rfl (fun _ => rfl) dX6_targetEdges_113 (fun t23 e23 H locs h => ?_)
            have hf := ltb hf e23
            refine lv_aload_n hx hb dX6_targetEdges_114 rfl (lv_at hl 1 rfl) ?_
            refine lv_dup hx hb dX6_targetEdges_115 rfl ?_
            refine r_get F h (i := 0) (k := 15) (.int (t23.1 15)) inX6 rfl (by decide) w66 rfl rfl rfl dX6_targetEdges_116 ?_
            refine lv_iload hx hb dX6_targetEdges_119 (lv_at hl 7 rfl) ?_
            refine lv_iload hx hb dX6_targetEdges_121 (lv_at hl 5 rfl) ?_
            refine lv_iconst (v := 1) hx hb dX6_targetEdges_123 (by decide) ?_
            refine lv_isub hx hb dX6_targetEdges_124 ?_
            obtain ⟨J24, eJ24, hf⟩ := rgn hf
            have JW24 : ∀ (v24 : Int32) (H : Heap) (locs : List Loc) (ls : Array Slot), WD D A s.heap H locs [wX6 K a0 t23] → lv_has ls 9 [(0, .ref (a0 0)), (2, .int y1), (3, .int y2), (5, .int y6), (6, .int v8), (7, .int z9.2.1), (8, .int v19)] → J24 v24 = some uq9 → W P l e (rmS 1 22) s m args below meth c H locs 0 0 (MQ below (QvS D A [wX6 K a0 r]) args s 0 0 A) (F0 m 133 ls [.int v24, .int (t23.1 15), .ref (a0 0)]) := by
              intro v24 H locs ls h hl hf
              have hf := jof eJ24 hf
              refine lv_iadd hx hb dX6_targetEdges_133 ?_
              refine r_put (o1 := sI t23 15 ((t23.1 15) + v24)) (w := fun t25 => wX6 K a0 t25) (S' := fun t25 => [wX6 K a0 t25]) F h (i := 0) (k := 15) inX6 tyX6_ok nmX6 rfl (by decide) w66 rfl rfl rfl rfl rfl (Nat.le_of_ble_eq_true rfl) rfl (fun _ => rfl) dX6_targetEdges_134 (fun t25 e25 H locs h => ?_)
              have hf := ltb hf e25
              refine lv_iload hx hb dX6_targetEdges_137 (lv_at hl 6 rfl) ?_
              refine lv_istore (lv' := [(4, .int v19), (0, .ref (a0 0)), (2, .int y1), (3, .int y2), (5, .int y6), (6, .int v8), (7, .int z9.2.1), (8, .int v19)]) hx hb dX6_targetEdges_139 hl (by decide) rfl (fun ls hl => ?_)
              obtain ⟨y26, e26⟩ : ∃ y : Int32, y = z9.2.1 + 1 := ⟨_, rfl⟩
              have hf := ltb hf e26
              refine lv_iinc (v := y26) (lv' := [(7, .int y26), (4, .int v19), (0, .ref (a0 0)), (2, .int y1), (3, .int y2), (5, .int y6), (6, .int v8), (8, .int v19)]) hx hb dX6_targetEdges_141 hl (k := 6) rfl (by rw [e26]; rfl) (by decide) rfl (fun ls hl => ?_)
              refine lv_goto (tgt := 52) hx hb dX6_targetEdges_144 (by decide) ?_
              exact ihq9 _ _ _ _ (itr_c huq9 (sor hf)) h (lv_sub hl [2, 3, 4, 1, 5, 6, 0] rfl)
            refine lv_icmp_ge (tgt := 132) hx hb dX6_targetEdges_125 (by decide) (fun c27 => ?_) (fun c27 => ?_)
            · have hf := ifp hf c27
              refine lv_iconst (v := 0) hx hb dX6_targetEdges_132 (by decide) ?_
              exact JW24 0 _ _ _ h (lv_sub hl [1, 2, 3, 5, 6, 7, 0] rfl) (sob hf)
            · have hf := ifn hf c27
              refine lv_iconst (v := 1) hx hb dX6_targetEdges_128 (by decide) ?_
              refine lv_goto (tgt := 133) hx hb dX6_targetEdges_129 (by decide) ?_
              exact JW24 1 _ _ _ h (lv_sub hl [1, 2, 3, 5, 6, 7, 0] rfl) (sob hf)
          refine lv_icmp_ge (tgt := 75) hx hb dX6_targetEdges_65 (by decide) (fun c28 => ?_) (fun c28 => ?_)
          · have hf := ifp hf c28
            refine lv_iload hx hb dX6_targetEdges_75 (lv_at hl 5 rfl) ?_
            refine lv_if_eq (tgt := 84) hx hb dX6_targetEdges_77 (by decide) (fun c29 => ?_) (fun c29 => ?_)
            · have hf := ifp hf c29
              refine lv_aload_n hx hb dX6_targetEdges_84 rfl (lv_at hl 0 rfl) ?_
              refine r_get F h (i := 0) (k := 0) (.int (z9.2.2.1 0)) inX6 rfl (by decide) w5 rfl rfl rfl dX6_targetEdges_85 ?_
              exact JW19 (z9.2.2.1 0) _ _ _ h (lv_sub hl [0, 1, 2, 3, 4, 5, 6] rfl) (sob hf)
            · have hf := ifn hf c29
              refine lv_iload_n hx hb dX6_targetEdges_80 rfl (lv_at hl 2 rfl) ?_
              refine lv_goto (tgt := 88) hx hb dX6_targetEdges_81 (by decide) ?_
              exact JW19 y2 _ _ _ h (lv_sub hl [0, 1, 2, 3, 4, 5, 6] rfl) (sob hf)
          · have hf := ifn hf c28
            refine lv_aload_n hx hb dX6_targetEdges_68 rfl (lv_at hl 0 rfl) ?_
            refine r_get F h (i := 0) (k := 15) (.int (z9.2.2.1 15)) inX6 rfl (by decide) w66 rfl rfl rfl dX6_targetEdges_69 ?_
            refine lv_goto (tgt := 88) hx hb dX6_targetEdges_72 (by decide) ?_
            exact JW19 (z9.2.2.1 15) _ _ _ h (lv_sub hl [0, 1, 2, 3, 4, 5, 6] rfl) (sob hf)
    exact Lq9 _ _ _ _ _ hq9 h (lv_sub hl [2, 3, 4, 5, 6, 1, 0] rfl)
  refine lv_icmp_ne (tgt := 46) hx hb dX6_targetEdges_39 (by decide) (fun c30 => ?_) (fun c30 => ?_)
  · have hf := ifn hf c30
    refine lv_iconst (v := 0) hx hb dX6_targetEdges_46 (by decide) ?_
    exact JW8 0 _ _ _ h (lv_sub hl [4, 3, 2, 1, 0] rfl) (sob hf)
  · have hf := ifp hf c30
    refine lv_iconst (v := 1) hx hb dX6_targetEdges_42 (by decide) ?_
    refine lv_goto (tgt := 47) hx hb dX6_targetEdges_43 (by decide) ?_
    exact JW8 1 _ _ _ h (lv_sub hl [4, 3, 2, 1, 0] rfl) (sob hf)
def f6_edges_L4 (g0 : ob) (z1 : Int32 × Int32) : Option (Nat × (Int32 × Int32)) :=
  (if 676 ≤ z1.2 then (some (1, (z1.1, z1.2))) else (gd (vin z1.2 676) <| ((if (g0.2 13 z1.2.toNatClampNeg) < 0 then (some 0) else (some 1))).bind fun v4 => lt (z1.1 + v4) fun y5 => lt (z1.2 + 1) fun y6 => some (0, (y5, y6))))
noncomputable def f6_edges (o_this : ob) : Option (Int32) :=
  (wh (f6_edges_L4 o_this) (0, 0)).bind fun q1 => some q1.2.1
set_option maxRecDepth 100000 in
set_option maxHeartbeats 4000000 in
theorem c6_edges (l : Launch) (D : va_G) (K : Nat → ClassId) (a0 : Nat → Nat) (o_this : ob) (r : Int32) (hf : f6_edges o_this = some r) : CTi l yX6_edges cX6_edges 3 (some .int) 0 0 D K [.ref (a0 0)] [wX6 K a0 o_this] [wX6 K a0 o_this] r := by
  unfold f6_edges at hf
  have hf := tob hf
  refine entI (by decide) (Nat.le_of_ble_eq_true rfl) (fun P e s m args below meth c A ls F h hl hin => ?_)
  have hx := F.1
  have hb := F.2.1
  have hl : lv_has ls 3 [(0, .ref (a0 0))] := hl
  refine lv_iconst (v := 0) hx hb dX6_edges_0 (by decide) ?_
  refine lv_istore_n (lv' := [(1, .int 0), (0, .ref (a0 0))]) hx hb dX6_edges_1 rfl hl (by decide) rfl (fun ls hl => ?_)
  refine lv_iconst (v := 0) hx hb dX6_edges_2 (by decide) ?_
  refine lv_istore_n (lv' := [(2, .int 0), (1, .int 0), (0, .ref (a0 0))]) hx hb dX6_edges_3 rfl hl (by decide) rfl (fun ls hl => ?_)
  obtain ⟨q1, hq1, hf⟩ := asb hf
  obtain ⟨nq1, hq1⟩ := wh_out hq1
  have Xq1_1 : ∀ (z1 : Int32 × Int32) (H : Heap) (locs : List Loc) (ls : Array Slot), q1 = (1, z1) → WD D A s.heap H locs [wX6 K a0 o_this] → lv_has ls 3 [(1, .int z1.1)] → W P l e (rmS 0 0) s m args below meth c H locs 0 0 (MQ below (QiS D A [wX6 K a0 o_this] r) args s 0 0 A) (F0 m 34 ls []) := by
    intro z1 H locs ls eq1 h hl
    obtain rfl : z1 = q1.2 := by rw [eq1]
    refine lv_iload_n hx hb dX6_edges_34 rfl (lv_at hl 0 rfl) ?_
    obtain rfl := sor hf
    exact r_reti F h dX6_edges_35
  have Lq1 : ∀ (n : Nat) (z1 : Int32 × Int32) (H : Heap) (locs : List Loc) (ls : Array Slot), iter (f6_edges_L4 o_this) n z1 = some q1 → WD D A s.heap H locs [wX6 K a0 o_this] → lv_has ls 3 [(0, .ref (a0 0)), (1, .int z1.1), (2, .int z1.2)] → W P l e (rmS 0 0) s m args below meth c H locs 0 0 (MQ below (QiS D A [wX6 K a0 o_this] r) args s 0 0 A) (F0 m 4 ls []) := by
    intro n
    induction n with
    | zero => intro z1 H locs ls hi; exact (iter_0 hi).elim
    | succ n ihq1 =>
      intro z1 H locs ls hi h hl
      obtain ⟨uq1, hf, huq1⟩ := iter_s hi
      unfold f6_edges_L4 at hf
      have hf := tob hf
      refine lv_iload_n hx hb dX6_edges_4 rfl (lv_at hl 2 rfl) ?_
      refine lv_sipush (v := 676) hx hb dX6_edges_5 (by decide) ?_
      refine lv_icmp_ge (tgt := 34) hx hb dX6_edges_8 (by decide) (fun c2 => ?_) (fun c2 => ?_)
      · have hf := ifp hf c2
        exact Xq1_1 _ _ _ _ (itr_x huq1 (sor hf)) h (lv_sub hl [1] rfl)
      · have hf := ifn hf c2
        refine lv_iload_n hx hb dX6_edges_11 rfl (lv_at hl 1 rfl) ?_
        refine lv_aload_n hx hb dX6_edges_12 rfl (lv_at hl 0 rfl) ?_
        refine r_get F h (i := 0) (k := 13) (.ref (a0 14)) inX6 rfl (by decide) w62 rfl rfl rfl dX6_edges_13 ?_
        refine lv_iload_n hx hb dX6_edges_16 rfl (lv_at hl 2 rfl) ?_
        obtain ⟨g3, hf⟩ := gdb hf
        refine r_iald F h (i := 0) (j := 6) rfl rfl (vin_ok g3) dX6_edges_17 ?_
        obtain ⟨J4, eJ4, hf⟩ := rgn hf
        have JW4 : ∀ (v4 : Int32) (H : Heap) (locs : List Loc) (ls : Array Slot), WD D A s.heap H locs [wX6 K a0 o_this] → lv_has ls 3 [(0, .ref (a0 0)), (2, .int z1.2)] → J4 v4 = some uq1 → W P l e (rmS 0 0) s m args below meth c H locs 0 0 (MQ below (QiS D A [wX6 K a0 o_this] r) args s 0 0 A) (F0 m 26 ls [.int v4, .int z1.1]) := by
          intro v4 H locs ls h hl hf
          have hf := jof eJ4 hf
          refine lv_iadd hx hb dX6_edges_26 ?_
          refine lv_topi (fun y5 e5 => ?_)
          have hf := ltb hf e5
          refine lv_istore_n (lv' := [(1, .int y5), (0, .ref (a0 0)), (2, .int z1.2)]) hx hb dX6_edges_27 rfl hl (by decide) rfl (fun ls hl => ?_)
          obtain ⟨y6, e6⟩ : ∃ y : Int32, y = z1.2 + 1 := ⟨_, rfl⟩
          have hf := ltb hf e6
          refine lv_iinc (v := y6) (lv' := [(2, .int y6), (1, .int y5), (0, .ref (a0 0))]) hx hb dX6_edges_28 hl (k := 2) rfl (by rw [e6]; rfl) (by decide) rfl (fun ls hl => ?_)
          refine lv_goto (tgt := 4) hx hb dX6_edges_31 (by decide) ?_
          exact ihq1 _ _ _ _ (itr_c huq1 (sor hf)) h (lv_sub hl [2, 1, 0] rfl)
        refine lv_if_lt (tgt := 25) hx hb dX6_edges_18 (by decide) (fun c7 => ?_) (fun c7 => ?_)
        · have hf := ifp hf c7
          refine lv_iconst (v := 0) hx hb dX6_edges_25 (by decide) ?_
          exact JW4 0 _ _ _ h (lv_sub hl [0, 2] rfl) (sob hf)
        · have hf := ifn hf c7
          refine lv_iconst (v := 1) hx hb dX6_edges_21 (by decide) ?_
          refine lv_goto (tgt := 26) hx hb dX6_edges_22 (by decide) ?_
          exact JW4 1 _ _ _ h (lv_sub hl [0, 2] rfl) (sob hf)
  exact Lq1 _ _ _ _ _ hq1 h (lv_sub hl [2, 1, 0] rfl)
noncomputable def f6_begins_L69 (z4 : Int32 × ob) : Option (Nat × (Int32 × ob)) :=
  (if (z4.2.1 3) ≤ z4.1 then (some (1, (z4.1, z4.2))) else ((f6_targetEdges z4.1 z4.2).bind fun q9 => lt (z4.1 + 1) fun y10 => some (0, (y10, q9))))
def f6_begins_L34 (z3 : Int32 × ob) : Option (Nat × (Int32 × ob)) :=
  (if 4 ≤ z3.1 then (some (1, (z3.1, z3.2))) else ((f6_place ((z3.2.1 0) + 1) z3.1 ((z3.2.1 0) + 1)).bind fun q12 => gd (vin q12 676) <| lt (sA z3.2 13 q12.toNatClampNeg 0) fun t14 => lt (z3.1 + 1) fun y15 => some (0, (y15, t14))))
def f6_begins_L2 (z1 : Int32 × ob) : Option (Nat × (Int32 × ob)) :=
  (if 676 ≤ z1.1 then (some (1, (z1.1, z1.2))) else (gd (vin z1.1 676) <| lt (sA z1.2 13 z1.1.toNatClampNeg (-1)) fun t18 => lt (z1.1 + 1) fun y19 => some (0, (y19, t18))))
noncomputable def f6_begins (o_this : ob) : Option (ob) :=
  (wh f6_begins_L2 (0, o_this)).bind fun q1 => lt (sI q1.2.2 15 ((q1.2.2.1 0) + 2)) fun t2 => (wh f6_begins_L34 (0, t2)).bind fun q3 => (wh f6_begins_L69 (0, q3.2.2)).bind fun q4 => (f6_edges q4.2.2).bind fun q5 => lt (sI q4.2.2 16 q5) fun t6 => lt (sI t6 17 0) fun t7 => some t7
set_option maxRecDepth 100000 in
set_option maxHeartbeats 4000000 in
theorem c6_begins (l : Launch) (D : va_G) (K : Nat → ClassId) (a0 : Nat → Nat) (o_this : ob) (r : ob) (hf : f6_begins o_this = some r) : CTv l yX6_begins cX6_begins 2 2 50 D K [.ref (a0 0)] [wX6 K a0 o_this] [wX6 K a0 r] := by
  unfold f6_begins at hf
  have hf := tob hf
  refine entV (by decide) (Nat.le_of_ble_eq_true rfl) (fun P e s m args below meth c A ls F h hl hin => ?_)
  have hx := F.1
  have hb := F.2.1
  have hl : lv_has ls 2 [(0, .ref (a0 0))] := hl
  refine lv_iconst (v := 0) hx hb dX6_begins_0 (by decide) ?_
  refine lv_istore_n (lv' := [(1, .int 0), (0, .ref (a0 0))]) hx hb dX6_begins_1 rfl hl (by decide) rfl (fun ls hl => ?_)
  obtain ⟨q1, hq1, hf⟩ := asb hf
  obtain ⟨nq1, hq1⟩ := wh_out hq1
  have Xq1_1 : ∀ (z1 : Int32 × ob) (H : Heap) (locs : List Loc) (ls : Array Slot), q1 = (1, z1) → WD D A s.heap H locs [wX6 K a0 z1.2] → lv_has ls 2 [(0, .ref (a0 0))] → W P l e (rmS 2 50) s m args below meth c H locs 0 0 (MQ below (QvS D A [wX6 K a0 r]) args s 0 0 A) (F0 m 22 ls []) := by
    intro z1 H locs ls eq1 h hl
    obtain rfl : z1 = q1.2 := by rw [eq1]
    refine lv_aload_n hx hb dX6_begins_22 rfl (lv_at hl 0 rfl) ?_
    refine lv_aload_n hx hb dX6_begins_23 rfl (lv_at hl 0 rfl) ?_
    refine r_get F h (i := 0) (k := 0) (.int (q1.2.2.1 0)) inX6 rfl (by decide) w5 rfl rfl rfl dX6_begins_24 ?_
    refine lv_iconst (v := 2) hx hb dX6_begins_27 (by decide) ?_
    refine lv_iadd hx hb dX6_begins_28 ?_
    refine r_put (o1 := sI q1.2.2 15 ((q1.2.2.1 0) + 2)) (w := fun t2 => wX6 K a0 t2) (S' := fun t2 => [wX6 K a0 t2]) F h (i := 0) (k := 15) inX6 tyX6_ok nmX6 rfl (by decide) w66 rfl rfl rfl rfl rfl (Nat.le_of_ble_eq_true rfl) rfl (fun _ => rfl) dX6_begins_29 (fun t2 e2 H locs h => ?_)
    have hf := ltb hf e2
    refine lv_iconst (v := 0) hx hb dX6_begins_32 (by decide) ?_
    refine lv_istore_n (lv' := [(1, .int 0), (0, .ref (a0 0))]) hx hb dX6_begins_33 rfl hl (by decide) rfl (fun ls hl => ?_)
    obtain ⟨q3, hq3, hf⟩ := asb hf
    obtain ⟨nq3, hq3⟩ := wh_out hq3
    have Xq3_1 : ∀ (z3 : Int32 × ob) (H : Heap) (locs : List Loc) (ls : Array Slot), q3 = (1, z3) → WD D A s.heap H locs [wX6 K a0 z3.2] → lv_has ls 2 [(0, .ref (a0 0))] → W P l e (rmS 2 50) s m args below meth c H locs 0 0 (MQ below (QvS D A [wX6 K a0 r]) args s 0 0 A) (F0 m 67 ls []) := by
      intro z3 H locs ls eq3 h hl
      obtain rfl : z3 = q3.2 := by rw [eq3]
      refine lv_iconst (v := 0) hx hb dX6_begins_67 (by decide) ?_
      refine lv_istore_n (lv' := [(1, .int 0), (0, .ref (a0 0))]) hx hb dX6_begins_68 rfl hl (by decide) rfl (fun ls hl => ?_)
      obtain ⟨q4, hq4, hf⟩ := asb hf
      obtain ⟨nq4, hq4⟩ := wh_out hq4
      have Xq4_1 : ∀ (z4 : Int32 × ob) (H : Heap) (locs : List Loc) (ls : Array Slot), q4 = (1, z4) → WD D A s.heap H locs [wX6 K a0 z4.2] → lv_has ls 2 [(0, .ref (a0 0))] → W P l e (rmS 2 50) s m args below meth c H locs 0 0 (MQ below (QvS D A [wX6 K a0 r]) args s 0 0 A) (F0 m 88 ls []) := by
        intro z4 H locs ls eq4 h hl
        obtain rfl : z4 = q4.2 := by rw [eq4]
        refine lv_aload_n hx hb dX6_begins_88 rfl (lv_at hl 0 rfl) ?_
        refine lv_aload_n hx hb dX6_begins_89 rfl (lv_at hl 0 rfl) ?_
        obtain ⟨q5, h5, hf⟩ := asb hf
        refine r_callVi (As := []) (rest := [.ref (a0 0)]) (C0 := [wX6 K a0 q4.2.2]) (C1 := [wX6 K a0 q4.2.2]) (Rr := []) (S' := [wX6 K a0 q4.2.2]) F h hl (c6_edges l D K a0 q4.2.2 q5 h5) [0] rfl rfl rfl rfl rfl (i := 0) rfl rfl w69 ⟨w70, w71, w72, w2⟩ hsc6_edges ⟨Nat.le_of_ble_eq_true rfl, Nat.le_of_ble_eq_true rfl⟩ ⟨Nat.le_refl 0, Nat.le_refl 0⟩ (Nat.le_of_ble_eq_true rfl) dX6_begins_90 (fun H locs h => ?_)
        refine r_put (o1 := sI q4.2.2 16 q5) (w := fun t6 => wX6 K a0 t6) (S' := fun t6 => [wX6 K a0 t6]) F h (i := 0) (k := 16) inX6 tyX6_ok nmX6 rfl (by decide) w67 rfl rfl rfl rfl rfl (Nat.le_of_ble_eq_true rfl) rfl (fun _ => rfl) dX6_begins_93 (fun t6 e6 H locs h => ?_)
        have hf := ltb hf e6
        refine lv_aload_n hx hb dX6_begins_96 rfl (lv_at hl 0 rfl) ?_
        refine lv_iconst (v := 0) hx hb dX6_begins_97 (by decide) ?_
        refine r_put (o1 := sI t6 17 0) (w := fun t7 => wX6 K a0 t7) (S' := fun t7 => [wX6 K a0 t7]) F h (i := 0) (k := 17) inX6 tyX6_ok nmX6 rfl (by decide) w68 rfl rfl rfl rfl rfl (Nat.le_of_ble_eq_true rfl) rfl (fun _ => rfl) dX6_begins_98 (fun t7 e7 H locs h => ?_)
        have hf := ltb hf e7
        obtain rfl := sor hf
        exact r_retv F h dX6_begins_101
      have Lq4 : ∀ (n : Nat) (z4 : Int32 × ob) (H : Heap) (locs : List Loc) (ls : Array Slot), iter f6_begins_L69 n z4 = some q4 → WD D A s.heap H locs [wX6 K a0 z4.2] → lv_has ls 2 [(0, .ref (a0 0)), (1, .int z4.1)] → W P l e (rmS 2 50) s m args below meth c H locs 0 0 (MQ below (QvS D A [wX6 K a0 r]) args s 0 0 A) (F0 m 69 ls []) := by
        intro n
        induction n with
        | zero => intro z4 H locs ls hi; exact (iter_0 hi).elim
        | succ n ihq4 =>
          intro z4 H locs ls hi h hl
          obtain ⟨uq4, hf, huq4⟩ := iter_s hi
          unfold f6_begins_L69 at hf
          have hf := tob hf
          refine lv_iload_n hx hb dX6_begins_69 rfl (lv_at hl 1 rfl) ?_
          refine lv_aload_n hx hb dX6_begins_70 rfl (lv_at hl 0 rfl) ?_
          refine r_get F h (i := 0) (k := 3) (.int (z4.2.1 3)) inX6 rfl (by decide) w11 rfl rfl rfl dX6_begins_71 ?_
          refine lv_icmp_ge (tgt := 88) hx hb dX6_begins_74 (by decide) (fun c8 => ?_) (fun c8 => ?_)
          · have hf := ifp hf c8
            exact Xq4_1 _ _ _ _ (itr_x huq4 (sor hf)) h (lv_sub hl [0] rfl)
          · have hf := ifn hf c8
            refine lv_aload_n hx hb dX6_begins_77 rfl (lv_at hl 0 rfl) ?_
            refine lv_iload_n hx hb dX6_begins_78 rfl (lv_at hl 1 rfl) ?_
            obtain ⟨q9, h9, hf⟩ := asb hf
            refine r_callVv (As := [.int z4.1]) (rest := []) (C0 := [wX6 K a0 z4.2]) (C1 := [wX6 K a0 q9]) (Rr := []) (S' := [wX6 K a0 q9]) F h hl (c6_targetEdges l D K a0 z4.1 z4.2 q9 h9) [0] rfl rfl rfl rfl rfl (i := 0) rfl rfl w73 ⟨w74, w75, w76, w2⟩ hsc6_targetEdges ⟨Nat.le_of_ble_eq_true rfl, Nat.le_of_ble_eq_true rfl⟩ ⟨Nat.le_refl 0, Nat.le_refl 0⟩ (Nat.le_of_ble_eq_true rfl) dX6_begins_79 (fun H locs h => ?_)
            obtain ⟨y10, e10⟩ : ∃ y : Int32, y = z4.1 + 1 := ⟨_, rfl⟩
            have hf := ltb hf e10
            refine lv_iinc (v := y10) (lv' := [(1, .int y10), (0, .ref (a0 0))]) hx hb dX6_begins_82 hl (k := 1) rfl (by rw [e10]; rfl) (by decide) rfl (fun ls hl => ?_)
            refine lv_goto (tgt := 69) hx hb dX6_begins_85 (by decide) ?_
            exact ihq4 _ _ _ _ (itr_c huq4 (sor hf)) h (lv_sub hl [1, 0] rfl)
      exact Lq4 _ _ _ _ _ hq4 h (lv_sub hl [1, 0] rfl)
    have Lq3 : ∀ (n : Nat) (z3 : Int32 × ob) (H : Heap) (locs : List Loc) (ls : Array Slot), iter f6_begins_L34 n z3 = some q3 → WD D A s.heap H locs [wX6 K a0 z3.2] → lv_has ls 2 [(0, .ref (a0 0)), (1, .int z3.1)] → W P l e (rmS 2 50) s m args below meth c H locs 0 0 (MQ below (QvS D A [wX6 K a0 r]) args s 0 0 A) (F0 m 34 ls []) := by
      intro n
      induction n with
      | zero => intro z3 H locs ls hi; exact (iter_0 hi).elim
      | succ n ihq3 =>
        intro z3 H locs ls hi h hl
        obtain ⟨uq3, hf, huq3⟩ := iter_s hi
        unfold f6_begins_L34 at hf
        have hf := tob hf
        refine lv_iload_n hx hb dX6_begins_34 rfl (lv_at hl 1 rfl) ?_
        refine lv_iconst (v := 4) hx hb dX6_begins_35 (by decide) ?_
        refine lv_icmp_ge (tgt := 67) hx hb dX6_begins_36 (by decide) (fun c11 => ?_) (fun c11 => ?_)
        · have hf := ifp hf c11
          exact Xq3_1 _ _ _ _ (itr_x huq3 (sor hf)) h (lv_sub hl [0] rfl)
        · have hf := ifn hf c11
          refine lv_aload_n hx hb dX6_begins_39 rfl (lv_at hl 0 rfl) ?_
          refine r_get F h (i := 0) (k := 13) (.ref (a0 14)) inX6 rfl (by decide) w62 rfl rfl rfl dX6_begins_40 ?_
          refine lv_aload_n hx hb dX6_begins_43 rfl (lv_at hl 0 rfl) ?_
          refine r_get F h (i := 0) (k := 0) (.int (z3.2.1 0)) inX6 rfl (by decide) w5 rfl rfl rfl dX6_begins_44 ?_
          refine lv_iconst (v := 1) hx hb dX6_begins_47 (by decide) ?_
          refine lv_iadd hx hb dX6_begins_48 ?_
          refine lv_iload_n hx hb dX6_begins_49 rfl (lv_at hl 1 rfl) ?_
          refine lv_aload_n hx hb dX6_begins_50 rfl (lv_at hl 0 rfl) ?_
          refine r_get F h (i := 0) (k := 0) (.int (z3.2.1 0)) inX6 rfl (by decide) w5 rfl rfl rfl dX6_begins_51 ?_
          refine lv_iconst (v := 1) hx hb dX6_begins_54 (by decide) ?_
          refine lv_iadd hx hb dX6_begins_55 ?_
          obtain ⟨q12, h12, hf⟩ := asb hf
          refine r_callS (As := [.int ((z3.2.1 0) + 1), .int z3.1, .int ((z3.2.1 0) + 1)]) (rest := [.ref (a0 14)]) F h hl (c6_place l D K ((z3.2.1 0) + 1) z3.1 ((z3.2.1 0) + 1) q12 h12) w65 ⟨w63, w64, w2⟩ hsc6_place ⟨Nat.le_of_ble_eq_true rfl, Nat.le_of_ble_eq_true rfl⟩ ⟨Nat.le_refl 0, Nat.le_refl 0⟩ (Nat.le_of_ble_eq_true rfl) dX6_begins_56 (fun H locs h => ?_)
          refine lv_iconst (v := 0) hx hb dX6_begins_59 (by decide) ?_
          obtain ⟨g13, hf⟩ := gdb hf
          refine r_iast (o1 := sA z3.2 13 q12.toNatClampNeg 0) (w := fun t14 => wX6 K a0 t14) (S' := fun t14 => [wX6 K a0 t14]) F h (i := 0) (j := 6) rfl rfl (vin_ok g13) rfl (fun _ => rfl) dX6_begins_60 (fun t14 e14 H locs h => ?_)
          have hf := ltb hf e14
          obtain ⟨y15, e15⟩ : ∃ y : Int32, y = z3.1 + 1 := ⟨_, rfl⟩
          have hf := ltb hf e15
          refine lv_iinc (v := y15) (lv' := [(1, .int y15), (0, .ref (a0 0))]) hx hb dX6_begins_61 hl (k := 1) rfl (by rw [e15]; rfl) (by decide) rfl (fun ls hl => ?_)
          refine lv_goto (tgt := 34) hx hb dX6_begins_64 (by decide) ?_
          exact ihq3 _ _ _ _ (itr_c huq3 (sor hf)) h (lv_sub hl [1, 0] rfl)
    exact Lq3 _ _ _ _ _ hq3 h (lv_sub hl [1, 0] rfl)
  have Lq1 : ∀ (n : Nat) (z1 : Int32 × ob) (H : Heap) (locs : List Loc) (ls : Array Slot), iter f6_begins_L2 n z1 = some q1 → WD D A s.heap H locs [wX6 K a0 z1.2] → lv_has ls 2 [(0, .ref (a0 0)), (1, .int z1.1)] → W P l e (rmS 2 50) s m args below meth c H locs 0 0 (MQ below (QvS D A [wX6 K a0 r]) args s 0 0 A) (F0 m 2 ls []) := by
    intro n
    induction n with
    | zero => intro z1 H locs ls hi; exact (iter_0 hi).elim
    | succ n ihq1 =>
      intro z1 H locs ls hi h hl
      obtain ⟨uq1, hf, huq1⟩ := iter_s hi
      unfold f6_begins_L2 at hf
      have hf := tob hf
      refine lv_iload_n hx hb dX6_begins_2 rfl (lv_at hl 1 rfl) ?_
      refine lv_sipush (v := 676) hx hb dX6_begins_3 (by decide) ?_
      refine lv_icmp_ge (tgt := 22) hx hb dX6_begins_6 (by decide) (fun c16 => ?_) (fun c16 => ?_)
      · have hf := ifp hf c16
        exact Xq1_1 _ _ _ _ (itr_x huq1 (sor hf)) h (lv_sub hl [0] rfl)
      · have hf := ifn hf c16
        refine lv_aload_n hx hb dX6_begins_9 rfl (lv_at hl 0 rfl) ?_
        refine r_get F h (i := 0) (k := 13) (.ref (a0 14)) inX6 rfl (by decide) w62 rfl rfl rfl dX6_begins_10 ?_
        refine lv_iload_n hx hb dX6_begins_13 rfl (lv_at hl 1 rfl) ?_
        refine lv_iconst (v := (-1)) hx hb dX6_begins_14 (by decide) ?_
        obtain ⟨g17, hf⟩ := gdb hf
        refine r_iast (o1 := sA z1.2 13 z1.1.toNatClampNeg (-1)) (w := fun t18 => wX6 K a0 t18) (S' := fun t18 => [wX6 K a0 t18]) F h (i := 0) (j := 6) rfl rfl (vin_ok g17) rfl (fun _ => rfl) dX6_begins_15 (fun t18 e18 H locs h => ?_)
        have hf := ltb hf e18
        obtain ⟨y19, e19⟩ : ∃ y : Int32, y = z1.1 + 1 := ⟨_, rfl⟩
        have hf := ltb hf e19
        refine lv_iinc (v := y19) (lv' := [(1, .int y19), (0, .ref (a0 0))]) hx hb dX6_begins_16 hl (k := 1) rfl (by rw [e19]; rfl) (by decide) rfl (fun ls hl => ?_)
        refine lv_goto (tgt := 2) hx hb dX6_begins_19 (by decide) ?_
        exact ihq1 _ _ _ _ (itr_c huq1 (sor hf)) h (lv_sub hl [1, 0] rfl)
  exact Lq1 _ _ _ _ _ hq1 h (lv_sub hl [1, 0] rfl)
def f6_standsAt_L2 (g0 : Int32) (z1 : Int32 × ob) : Option (Nat × (Int32 × ob)) :=
  (if 13 ≤ z1.1 then (some (1, (z1.1, z1.2))) else (((if z1.1 = g0 then (some 0) else (some (-1)))).bind fun v3 => gd (vin z1.1 13) <| lt (sA z1.2 18 z1.1.toNatClampNeg v3) fun t5 => lt (z1.1 + 1) fun y6 => some (0, (y6, t5))))
noncomputable def f6_standsAt (x0 : Int32) (o_this : ob) : Option (ob) :=
  (wh (f6_standsAt_L2 x0) (0, o_this)).bind fun q1 => some q1.2.2
set_option maxRecDepth 100000 in
set_option maxHeartbeats 4000000 in
theorem c6_standsAt (l : Launch) (D : va_G) (K : Nat → ClassId) (a0 : Nat → Nat) (x0 : Int32) (o_this : ob) (r : ob) (hf : f6_standsAt x0 o_this = some r) : CTv l yX6_standsAt cX6_standsAt 3 0 0 D K [.ref (a0 0), .int x0] [wX6 K a0 o_this] [wX6 K a0 r] := by
  unfold f6_standsAt at hf
  have hf := tob hf
  refine entV (by decide) (Nat.le_of_ble_eq_true rfl) (fun P e s m args below meth c A ls F h hl hin => ?_)
  have hx := F.1
  have hb := F.2.1
  have hl : lv_has ls 3 [(0, .ref (a0 0)), (1, .int x0)] := hl
  refine lv_iconst (v := 0) hx hb dX6_standsAt_0 (by decide) ?_
  refine lv_istore_n (lv' := [(2, .int 0), (0, .ref (a0 0)), (1, .int x0)]) hx hb dX6_standsAt_1 rfl hl (by decide) rfl (fun ls hl => ?_)
  obtain ⟨q1, hq1, hf⟩ := asb hf
  obtain ⟨nq1, hq1⟩ := wh_out hq1
  have Xq1_1 : ∀ (z1 : Int32 × ob) (H : Heap) (locs : List Loc) (ls : Array Slot), q1 = (1, z1) → WD D A s.heap H locs [wX6 K a0 z1.2] → lv_has ls 3 [] → W P l e (rmS 0 0) s m args below meth c H locs 0 0 (MQ below (QvS D A [wX6 K a0 r]) args s 0 0 A) (F0 m 30 ls []) := by
    intro z1 H locs ls eq1 h hl
    obtain rfl : z1 = q1.2 := by rw [eq1]
    obtain rfl := sor hf
    exact r_retv F h dX6_standsAt_30
  have Lq1 : ∀ (n : Nat) (z1 : Int32 × ob) (H : Heap) (locs : List Loc) (ls : Array Slot), iter (f6_standsAt_L2 x0) n z1 = some q1 → WD D A s.heap H locs [wX6 K a0 z1.2] → lv_has ls 3 [(0, .ref (a0 0)), (1, .int x0), (2, .int z1.1)] → W P l e (rmS 0 0) s m args below meth c H locs 0 0 (MQ below (QvS D A [wX6 K a0 r]) args s 0 0 A) (F0 m 2 ls []) := by
    intro n
    induction n with
    | zero => intro z1 H locs ls hi; exact (iter_0 hi).elim
    | succ n ihq1 =>
      intro z1 H locs ls hi h hl
      obtain ⟨uq1, hf, huq1⟩ := iter_s hi
      unfold f6_standsAt_L2 at hf
      have hf := tob hf
      refine lv_iload_n hx hb dX6_standsAt_2 rfl (lv_at hl 2 rfl) ?_
      refine lv_bipush (v := 13) hx hb dX6_standsAt_3 (by decide) ?_
      refine lv_icmp_ge (tgt := 30) hx hb dX6_standsAt_5 (by decide) (fun c2 => ?_) (fun c2 => ?_)
      · have hf := ifp hf c2
        exact Xq1_1 _ _ _ _ (itr_x huq1 (sor hf)) h (lv_sub hl [] rfl)
      · have hf := ifn hf c2
        refine lv_aload_n hx hb dX6_standsAt_8 rfl (lv_at hl 0 rfl) ?_
        refine r_get F h (i := 0) (k := 18) (.ref (a0 19)) inX6 rfl (by decide) w77 rfl rfl rfl dX6_standsAt_9 ?_
        refine lv_iload_n hx hb dX6_standsAt_12 rfl (lv_at hl 2 rfl) ?_
        refine lv_iload_n hx hb dX6_standsAt_13 rfl (lv_at hl 2 rfl) ?_
        refine lv_iload_n hx hb dX6_standsAt_14 rfl (lv_at hl 1 rfl) ?_
        obtain ⟨J3, eJ3, hf⟩ := rgn hf
        have JW3 : ∀ (v3 : Int32) (H : Heap) (locs : List Loc) (ls : Array Slot), WD D A s.heap H locs [wX6 K a0 z1.2] → lv_has ls 3 [(0, .ref (a0 0)), (1, .int x0), (2, .int z1.1)] → J3 v3 = some uq1 → W P l e (rmS 0 0) s m args below meth c H locs 0 0 (MQ below (QvS D A [wX6 K a0 r]) args s 0 0 A) (F0 m 23 ls [.int v3, .int z1.1, .ref (a0 19)]) := by
          intro v3 H locs ls h hl hf
          have hf := jof eJ3 hf
          obtain ⟨g4, hf⟩ := gdb hf
          refine r_iast (o1 := sA z1.2 18 z1.1.toNatClampNeg v3) (w := fun t5 => wX6 K a0 t5) (S' := fun t5 => [wX6 K a0 t5]) F h (i := 0) (j := 8) rfl rfl (vin_ok g4) rfl (fun _ => rfl) dX6_standsAt_23 (fun t5 e5 H locs h => ?_)
          have hf := ltb hf e5
          obtain ⟨y6, e6⟩ : ∃ y : Int32, y = z1.1 + 1 := ⟨_, rfl⟩
          have hf := ltb hf e6
          refine lv_iinc (v := y6) (lv' := [(2, .int y6), (0, .ref (a0 0)), (1, .int x0)]) hx hb dX6_standsAt_24 hl (k := 2) rfl (by rw [e6]; rfl) (by decide) rfl (fun ls hl => ?_)
          refine lv_goto (tgt := 2) hx hb dX6_standsAt_27 (by decide) ?_
          exact ihq1 _ _ _ _ (itr_c huq1 (sor hf)) h (lv_sub hl [1, 2, 0] rfl)
        refine lv_icmp_ne (tgt := 22) hx hb dX6_standsAt_15 (by decide) (fun c7 => ?_) (fun c7 => ?_)
        · have hf := ifn hf c7
          refine lv_iconst (v := (-1)) hx hb dX6_standsAt_22 (by decide) ?_
          exact JW3 (-1) _ _ _ h (lv_sub hl [0, 1, 2] rfl) (sob hf)
        · have hf := ifp hf c7
          refine lv_iconst (v := 0) hx hb dX6_standsAt_18 (by decide) ?_
          refine lv_goto (tgt := 23) hx hb dX6_standsAt_19 (by decide) ?_
          exact JW3 0 _ _ _ h (lv_sub hl [0, 1, 2] rfl) (sob hf)
  exact Lq1 _ _ _ _ _ hq1 h (lv_sub hl [1, 2, 0] rfl)
def f6_reads_L96 (z2 : Int32 × ob) : Option (Nat × (Int32 × ob)) :=
  (if 13 ≤ z2.1 then (some (1, (z2.1, z2.2))) else (gd (vin z2.1 13) <| gd (vin z2.1 13) <| lt (sA z2.2 18 z2.1.toNatClampNeg (z2.2.2 19 z2.1.toNatClampNeg)) fun t6 => lt (z2.1 + 1) fun y7 => some (0, (y7, t6))))
def f6_reads_L18 (g0 : Int32) (g1 : Int32) (g3 : Int32) (z11 : Int32 × ob) : Option (Nat × (Int32 × ob)) :=
  (if 13 ≤ z11.1 then (some (1, (z11.1, z11.2))) else ((f6_place z11.1 g1 g3).bind fun q14 => gd (vin q14 676) <| lt (z11.2.2 14 q14.toNatClampNeg) fun y16 => gd (vin z11.1 13) <| ((if (z11.2.2 18 z11.1.toNatClampNeg) < 0 then (some z11.2) else ((if y16 < 0 then (some z11.2) else (gd (vin g3 13) <| gd (vin z11.1 13) <| (f6_made g0 (z11.2.2 18 z11.1.toNatClampNeg) y16).bind fun q24 => (f6_lesser (z11.2.2 19 g3.toNatClampNeg) q24).bind fun q25 => gd (vin g3 13) <| lt (sA z11.2 19 g3.toNatClampNeg q25) fun t27 => some t27))))).bind fun v18 => lt (z11.1 + 1) fun y19 => some (0, (y19, v18))))
noncomputable def f6_reads_L2 (g0 : Int32) (g1 : Int32) (z1 : Int32 × ob) : Option (Nat × (Int32 × ob)) :=
  (if 13 ≤ z1.1 then (some (1, (z1.1, z1.2))) else (gd (vin z1.1 13) <| lt (sA z1.2 19 z1.1.toNatClampNeg (-1)) fun t10 => (wh (f6_reads_L18 g0 g1 z1.1) (0, t10)).bind fun q11 => lt (z1.1 + 1) fun y12 => some (0, (y12, q11.2.2))))
noncomputable def f6_reads (x0 : Int32) (x1 : Int32) (o_this : ob) : Option (ob) :=
  (wh (f6_reads_L2 x0 x1) (0, o_this)).bind fun q1 => (wh f6_reads_L96 (0, q1.2.2)).bind fun q2 => some q2.2.2
set_option maxRecDepth 100000 in
set_option maxHeartbeats 4000000 in
theorem c6_reads (l : Launch) (D : va_G) (K : Nat → ClassId) (a0 : Nat → Nat) (x0 : Int32) (x1 : Int32) (o_this : ob) (r : ob) (hf : f6_reads x0 x1 o_this = some r) : CTv l yX6_reads cX6_reads 6 1 22 D K [.ref (a0 0), .int x0, .int x1] [wX6 K a0 o_this] [wX6 K a0 r] := by
  unfold f6_reads at hf
  have hf := tob hf
  refine entV (by decide) (Nat.le_of_ble_eq_true rfl) (fun P e s m args below meth c A ls F h hl hin => ?_)
  have hx := F.1
  have hb := F.2.1
  have hl : lv_has ls 6 [(0, .ref (a0 0)), (1, .int x0), (2, .int x1)] := hl
  refine lv_iconst (v := 0) hx hb dX6_reads_0 (by decide) ?_
  refine lv_istore_n (lv' := [(3, .int 0), (0, .ref (a0 0)), (1, .int x0), (2, .int x1)]) hx hb dX6_reads_1 rfl hl (by decide) rfl (fun ls hl => ?_)
  obtain ⟨q1, hq1, hf⟩ := asb hf
  obtain ⟨nq1, hq1⟩ := wh_out hq1
  have Xq1_1 : ∀ (z1 : Int32 × ob) (H : Heap) (locs : List Loc) (ls : Array Slot), q1 = (1, z1) → WD D A s.heap H locs [wX6 K a0 z1.2] → lv_has ls 6 [(0, .ref (a0 0))] → W P l e (rmS 1 22) s m args below meth c H locs 0 0 (MQ below (QvS D A [wX6 K a0 r]) args s 0 0 A) (F0 m 94 ls []) := by
    intro z1 H locs ls eq1 h hl
    obtain rfl : z1 = q1.2 := by rw [eq1]
    refine lv_iconst (v := 0) hx hb dX6_reads_94 (by decide) ?_
    refine lv_istore_n (lv' := [(3, .int 0), (0, .ref (a0 0))]) hx hb dX6_reads_95 rfl hl (by decide) rfl (fun ls hl => ?_)
    obtain ⟨q2, hq2, hf⟩ := asb hf
    obtain ⟨nq2, hq2⟩ := wh_out hq2
    have Xq2_1 : ∀ (z2 : Int32 × ob) (H : Heap) (locs : List Loc) (ls : Array Slot), q2 = (1, z2) → WD D A s.heap H locs [wX6 K a0 z2.2] → lv_has ls 6 [] → W P l e (rmS 1 22) s m args below meth c H locs 0 0 (MQ below (QvS D A [wX6 K a0 r]) args s 0 0 A) (F0 m 120 ls []) := by
      intro z2 H locs ls eq2 h hl
      obtain rfl : z2 = q2.2 := by rw [eq2]
      obtain rfl := sor hf
      exact r_retv F h dX6_reads_120
    have Lq2 : ∀ (n : Nat) (z2 : Int32 × ob) (H : Heap) (locs : List Loc) (ls : Array Slot), iter f6_reads_L96 n z2 = some q2 → WD D A s.heap H locs [wX6 K a0 z2.2] → lv_has ls 6 [(0, .ref (a0 0)), (3, .int z2.1)] → W P l e (rmS 1 22) s m args below meth c H locs 0 0 (MQ below (QvS D A [wX6 K a0 r]) args s 0 0 A) (F0 m 96 ls []) := by
      intro n
      induction n with
      | zero => intro z2 H locs ls hi; exact (iter_0 hi).elim
      | succ n ihq2 =>
        intro z2 H locs ls hi h hl
        obtain ⟨uq2, hf, huq2⟩ := iter_s hi
        unfold f6_reads_L96 at hf
        have hf := tob hf
        refine lv_iload_n hx hb dX6_reads_96 rfl (lv_at hl 1 rfl) ?_
        refine lv_bipush (v := 13) hx hb dX6_reads_97 (by decide) ?_
        refine lv_icmp_ge (tgt := 120) hx hb dX6_reads_99 (by decide) (fun c3 => ?_) (fun c3 => ?_)
        · have hf := ifp hf c3
          exact Xq2_1 _ _ _ _ (itr_x huq2 (sor hf)) h (lv_sub hl [] rfl)
        · have hf := ifn hf c3
          refine lv_aload_n hx hb dX6_reads_102 rfl (lv_at hl 0 rfl) ?_
          refine r_get F h (i := 0) (k := 18) (.ref (a0 19)) inX6 rfl (by decide) w77 rfl rfl rfl dX6_reads_103 ?_
          refine lv_iload_n hx hb dX6_reads_106 rfl (lv_at hl 1 rfl) ?_
          refine lv_aload_n hx hb dX6_reads_107 rfl (lv_at hl 0 rfl) ?_
          refine r_get F h (i := 0) (k := 19) (.ref (a0 20)) inX6 rfl (by decide) w78 rfl rfl rfl dX6_reads_108 ?_
          refine lv_iload_n hx hb dX6_reads_111 rfl (lv_at hl 1 rfl) ?_
          obtain ⟨g4, hf⟩ := gdb hf
          refine r_iald F h (i := 0) (j := 9) rfl rfl (vin_ok g4) dX6_reads_112 ?_
          obtain ⟨g5, hf⟩ := gdb hf
          refine r_iast (o1 := sA z2.2 18 z2.1.toNatClampNeg (z2.2.2 19 z2.1.toNatClampNeg)) (w := fun t6 => wX6 K a0 t6) (S' := fun t6 => [wX6 K a0 t6]) F h (i := 0) (j := 8) rfl rfl (vin_ok g5) rfl (fun _ => rfl) dX6_reads_113 (fun t6 e6 H locs h => ?_)
          have hf := ltb hf e6
          obtain ⟨y7, e7⟩ : ∃ y : Int32, y = z2.1 + 1 := ⟨_, rfl⟩
          have hf := ltb hf e7
          refine lv_iinc (v := y7) (lv' := [(3, .int y7), (0, .ref (a0 0))]) hx hb dX6_reads_114 hl (k := 1) rfl (by rw [e7]; rfl) (by decide) rfl (fun ls hl => ?_)
          refine lv_goto (tgt := 96) hx hb dX6_reads_117 (by decide) ?_
          exact ihq2 _ _ _ _ (itr_c huq2 (sor hf)) h (lv_sub hl [1, 0] rfl)
    exact Lq2 _ _ _ _ _ hq2 h (lv_sub hl [1, 0] rfl)
  have Lq1 : ∀ (n : Nat) (z1 : Int32 × ob) (H : Heap) (locs : List Loc) (ls : Array Slot), iter (f6_reads_L2 x0 x1) n z1 = some q1 → WD D A s.heap H locs [wX6 K a0 z1.2] → lv_has ls 6 [(0, .ref (a0 0)), (1, .int x0), (2, .int x1), (3, .int z1.1)] → W P l e (rmS 1 22) s m args below meth c H locs 0 0 (MQ below (QvS D A [wX6 K a0 r]) args s 0 0 A) (F0 m 2 ls []) := by
    intro n
    induction n with
    | zero => intro z1 H locs ls hi; exact (iter_0 hi).elim
    | succ n ihq1 =>
      intro z1 H locs ls hi h hl
      obtain ⟨uq1, hf, huq1⟩ := iter_s hi
      unfold f6_reads_L2 at hf
      have hf := tob hf
      refine lv_iload_n hx hb dX6_reads_2 rfl (lv_at hl 3 rfl) ?_
      refine lv_bipush (v := 13) hx hb dX6_reads_3 (by decide) ?_
      refine lv_icmp_ge (tgt := 94) hx hb dX6_reads_5 (by decide) (fun c8 => ?_) (fun c8 => ?_)
      · have hf := ifp hf c8
        exact Xq1_1 _ _ _ _ (itr_x huq1 (sor hf)) h (lv_sub hl [0] rfl)
      · have hf := ifn hf c8
        refine lv_aload_n hx hb dX6_reads_8 rfl (lv_at hl 0 rfl) ?_
        refine r_get F h (i := 0) (k := 19) (.ref (a0 20)) inX6 rfl (by decide) w78 rfl rfl rfl dX6_reads_9 ?_
        refine lv_iload_n hx hb dX6_reads_12 rfl (lv_at hl 3 rfl) ?_
        refine lv_iconst (v := (-1)) hx hb dX6_reads_13 (by decide) ?_
        obtain ⟨g9, hf⟩ := gdb hf
        refine r_iast (o1 := sA z1.2 19 z1.1.toNatClampNeg (-1)) (w := fun t10 => wX6 K a0 t10) (S' := fun t10 => [wX6 K a0 t10]) F h (i := 0) (j := 9) rfl rfl (vin_ok g9) rfl (fun _ => rfl) dX6_reads_14 (fun t10 e10 H locs h => ?_)
        have hf := ltb hf e10
        refine lv_iconst (v := 0) hx hb dX6_reads_15 (by decide) ?_
        refine lv_istore (lv' := [(4, .int 0), (0, .ref (a0 0)), (1, .int x0), (2, .int x1), (3, .int z1.1)]) hx hb dX6_reads_16 hl (by decide) rfl (fun ls hl => ?_)
        obtain ⟨q11, hq11, hf⟩ := asb hf
        obtain ⟨nq11, hq11⟩ := wh_out hq11
        have Xq11_1 : ∀ (z11 : Int32 × ob) (H : Heap) (locs : List Loc) (ls : Array Slot), q11 = (1, z11) → WD D A s.heap H locs [wX6 K a0 z11.2] → lv_has ls 6 [(0, .ref (a0 0)), (1, .int x0), (2, .int x1), (3, .int z1.1)] → W P l e (rmS 1 22) s m args below meth c H locs 0 0 (MQ below (QvS D A [wX6 K a0 r]) args s 0 0 A) (F0 m 88 ls []) := by
          intro z11 H locs ls eq11 h hl
          obtain rfl : z11 = q11.2 := by rw [eq11]
          obtain ⟨y12, e12⟩ : ∃ y : Int32, y = z1.1 + 1 := ⟨_, rfl⟩
          have hf := ltb hf e12
          refine lv_iinc (v := y12) (lv' := [(3, .int y12), (0, .ref (a0 0)), (1, .int x0), (2, .int x1)]) hx hb dX6_reads_88 hl (k := 3) rfl (by rw [e12]; rfl) (by decide) rfl (fun ls hl => ?_)
          refine lv_goto (tgt := 2) hx hb dX6_reads_91 (by decide) ?_
          exact ihq1 _ _ _ _ (itr_c huq1 (sor hf)) h (lv_sub hl [1, 2, 3, 0] rfl)
        have Lq11 : ∀ (n : Nat) (z11 : Int32 × ob) (H : Heap) (locs : List Loc) (ls : Array Slot), iter (f6_reads_L18 x0 x1 z1.1) n z11 = some q11 → WD D A s.heap H locs [wX6 K a0 z11.2] → lv_has ls 6 [(0, .ref (a0 0)), (1, .int x0), (2, .int x1), (3, .int z1.1), (4, .int z11.1)] → W P l e (rmS 1 22) s m args below meth c H locs 0 0 (MQ below (QvS D A [wX6 K a0 r]) args s 0 0 A) (F0 m 18 ls []) := by
          intro n
          induction n with
          | zero => intro z11 H locs ls hi; exact (iter_0 hi).elim
          | succ n ihq11 =>
            intro z11 H locs ls hi h hl
            obtain ⟨uq11, hf, huq11⟩ := iter_s hi
            unfold f6_reads_L18 at hf
            have hf := tob hf
            refine lv_iload hx hb dX6_reads_18 (lv_at hl 4 rfl) ?_
            refine lv_bipush (v := 13) hx hb dX6_reads_20 (by decide) ?_
            refine lv_icmp_ge (tgt := 88) hx hb dX6_reads_22 (by decide) (fun c13 => ?_) (fun c13 => ?_)
            · have hf := ifp hf c13
              exact Xq11_1 _ _ _ _ (itr_x huq11 (sor hf)) h (lv_sub hl [0, 1, 2, 3] rfl)
            · have hf := ifn hf c13
              refine lv_aload_n hx hb dX6_reads_25 rfl (lv_at hl 0 rfl) ?_
              refine r_get F h (i := 0) (k := 14) (.ref (a0 15)) inX6 rfl (by decide) w79 rfl rfl rfl dX6_reads_26 ?_
              refine lv_iload hx hb dX6_reads_29 (lv_at hl 4 rfl) ?_
              refine lv_iload_n hx hb dX6_reads_31 rfl (lv_at hl 2 rfl) ?_
              refine lv_iload_n hx hb dX6_reads_32 rfl (lv_at hl 3 rfl) ?_
              obtain ⟨q14, h14, hf⟩ := asb hf
              refine r_callS (As := [.int z11.1, .int x1, .int z1.1]) (rest := [.ref (a0 15)]) F h hl (c6_place l D K z11.1 x1 z1.1 q14 h14) w65 ⟨w63, w64, w2⟩ hsc6_place ⟨Nat.le_of_ble_eq_true rfl, Nat.le_of_ble_eq_true rfl⟩ ⟨Nat.le_refl 0, Nat.le_refl 0⟩ (Nat.le_of_ble_eq_true rfl) dX6_reads_33 (fun H locs h => ?_)
              obtain ⟨g15, hf⟩ := gdb hf
              refine r_iald F h (i := 0) (j := 7) rfl rfl (vin_ok g15) dX6_reads_36 ?_
              refine lv_topi (fun y16 e16 => ?_)
              have hf := ltb hf e16
              refine lv_istore (lv' := [(5, .int y16), (0, .ref (a0 0)), (1, .int x0), (2, .int x1), (3, .int z1.1), (4, .int z11.1)]) hx hb dX6_reads_37 hl (by decide) rfl (fun ls hl => ?_)
              refine lv_aload_n hx hb dX6_reads_39 rfl (lv_at hl 1 rfl) ?_
              refine r_get F h (i := 0) (k := 18) (.ref (a0 19)) inX6 rfl (by decide) w77 rfl rfl rfl dX6_reads_40 ?_
              refine lv_iload hx hb dX6_reads_43 (lv_at hl 5 rfl) ?_
              obtain ⟨g17, hf⟩ := gdb hf
              refine r_iald F h (i := 0) (j := 8) rfl rfl (vin_ok g17) dX6_reads_45 ?_
              obtain ⟨J18, eJ18, hf⟩ := rgn hf
              have JW18 : ∀ (v18 : ob) (H : Heap) (locs : List Loc) (ls : Array Slot), WD D A s.heap H locs [wX6 K a0 v18] → lv_has ls 6 [(0, .ref (a0 0)), (1, .int x0), (2, .int x1), (3, .int z1.1), (4, .int z11.1)] → J18 v18 = some uq11 → W P l e (rmS 1 22) s m args below meth c H locs 0 0 (MQ below (QvS D A [wX6 K a0 r]) args s 0 0 A) (F0 m 82 ls []) := by
                intro v18 H locs ls h hl hf
                have hf := jof eJ18 hf
                obtain ⟨y19, e19⟩ : ∃ y : Int32, y = z11.1 + 1 := ⟨_, rfl⟩
                have hf := ltb hf e19
                refine lv_iinc (v := y19) (lv' := [(4, .int y19), (0, .ref (a0 0)), (1, .int x0), (2, .int x1), (3, .int z1.1)]) hx hb dX6_reads_82 hl (k := 4) rfl (by rw [e19]; rfl) (by decide) rfl (fun ls hl => ?_)
                refine lv_goto (tgt := 18) hx hb dX6_reads_85 (by decide) ?_
                exact ihq11 _ _ _ _ (itr_c huq11 (sor hf)) h (lv_sub hl [1, 2, 3, 4, 0] rfl)
              refine lv_if_lt (tgt := 82) hx hb dX6_reads_46 (by decide) (fun c20 => ?_) (fun c20 => ?_)
              · have hf := ifp hf c20
                exact JW18 z11.2 _ _ _ h (lv_sub hl [1, 2, 3, 4, 5] rfl) (sob hf)
              · have hf := ifn hf c20
                refine lv_iload hx hb dX6_reads_49 (lv_at hl 0 rfl) ?_
                refine lv_if_lt (tgt := 82) hx hb dX6_reads_51 (by decide) (fun c21 => ?_) (fun c21 => ?_)
                · have hf := ifp hf c21
                  exact JW18 z11.2 _ _ _ h (lv_sub hl [1, 2, 3, 4, 5] rfl) (sob hf)
                · have hf := ifn hf c21
                  refine lv_aload_n hx hb dX6_reads_54 rfl (lv_at hl 1 rfl) ?_
                  refine r_get F h (i := 0) (k := 19) (.ref (a0 20)) inX6 rfl (by decide) w78 rfl rfl rfl dX6_reads_55 ?_
                  refine lv_iload_n hx hb dX6_reads_58 rfl (lv_at hl 4 rfl) ?_
                  refine lv_aload_n hx hb dX6_reads_59 rfl (lv_at hl 1 rfl) ?_
                  refine r_get F h (i := 0) (k := 19) (.ref (a0 20)) inX6 rfl (by decide) w78 rfl rfl rfl dX6_reads_60 ?_
                  refine lv_iload_n hx hb dX6_reads_63 rfl (lv_at hl 4 rfl) ?_
                  obtain ⟨g22, hf⟩ := gdb hf
                  refine r_iald F h (i := 0) (j := 9) rfl rfl (vin_ok g22) dX6_reads_64 ?_
                  refine lv_iload_n hx hb dX6_reads_65 rfl (lv_at hl 2 rfl) ?_
                  refine lv_aload_n hx hb dX6_reads_66 rfl (lv_at hl 1 rfl) ?_
                  refine r_get F h (i := 0) (k := 18) (.ref (a0 19)) inX6 rfl (by decide) w77 rfl rfl rfl dX6_reads_67 ?_
                  refine lv_iload hx hb dX6_reads_70 (lv_at hl 5 rfl) ?_
                  obtain ⟨g23, hf⟩ := gdb hf
                  refine r_iald F h (i := 0) (j := 8) rfl rfl (vin_ok g23) dX6_reads_72 ?_
                  refine lv_iload hx hb dX6_reads_73 (lv_at hl 0 rfl) ?_
                  obtain ⟨q24, h24, hf⟩ := asb hf
                  refine r_callS (As := [.int x0, .int (z11.2.2 18 z11.1.toNatClampNeg), .int y16]) (rest := [.int (z11.2.2 19 z1.1.toNatClampNeg), .int z1.1, .ref (a0 20)]) F h hl (c6_made l D K x0 (z11.2.2 18 z11.1.toNatClampNeg) y16 q24 h24) w82 ⟨w80, w81, w2⟩ hsc6_made ⟨Nat.le_of_ble_eq_true rfl, Nat.le_of_ble_eq_true rfl⟩ ⟨Nat.le_refl 0, Nat.le_refl 0⟩ (Nat.le_of_ble_eq_true rfl) dX6_reads_75 (fun H locs h => ?_)
                  obtain ⟨q25, h25, hf⟩ := asb hf
                  refine r_callS (As := [.int (z11.2.2 19 z1.1.toNatClampNeg), .int q24]) (rest := [.int z1.1, .ref (a0 20)]) F h hl (c6_lesser l D K (z11.2.2 19 z1.1.toNatClampNeg) q24 q25 h25) w85 ⟨w83, w84, w2⟩ hsc6_lesser ⟨Nat.le_of_ble_eq_true rfl, Nat.le_of_ble_eq_true rfl⟩ ⟨Nat.le_refl 0, Nat.le_refl 0⟩ (Nat.le_of_ble_eq_true rfl) dX6_reads_78 (fun H locs h => ?_)
                  obtain ⟨g26, hf⟩ := gdb hf
                  refine r_iast (o1 := sA z11.2 19 z1.1.toNatClampNeg q25) (w := fun t27 => wX6 K a0 t27) (S' := fun t27 => [wX6 K a0 t27]) F h (i := 0) (j := 9) rfl rfl (vin_ok g26) rfl (fun _ => rfl) dX6_reads_81 (fun t27 e27 H locs h => ?_)
                  have hf := ltb hf e27
                  exact JW18 t27 _ _ _ h (lv_sub hl [1, 2, 3, 4, 5] rfl) (sob hf)
        exact Lq11 _ _ _ _ _ hq11 h (lv_sub hl [1, 2, 3, 4, 0] rfl)
  exact Lq1 _ _ _ _ _ hq1 h (lv_sub hl [1, 2, 3, 0] rfl)
def f6_roundBy_L65 (g1 : Int32) (g2 : Int32) (g4 : Int32) (z5 : Int32 × Int32 × ob) : Option (Nat × (Int32 × Int32 × ob)) :=
  (if 13 ≤ z5.2.1 then (some (1, (z5.1, z5.2.1, z5.2.2))) else (gd (vin z5.2.1 13) <| ((if (z5.2.2.2 18 z5.2.1.toNatClampNeg) < 0 then (some (z5.1, z5.2.2)) else (gd (vin g4 70) <| gd (vin (g4 + 1) 70) <| (f6_place (z5.2.2.2 2 g4.toNatClampNeg) (z5.2.2.2 2 (g4 + 1).toNatClampNeg) z5.2.1).bind fun q14 => gd (vin z5.2.1 13) <| (f6_made g1 g2 (z5.2.2.2 18 z5.2.1.toNatClampNeg)).bind fun q16 => ((if z5.1 = 0 then (gd (vin q14 676) <| (if (z5.2.2.2 13 q14.toNatClampNeg) < 0 then (some 1) else (gd (vin q14 676) <| (if (z5.2.2.2 13 q14.toNatClampNeg) ≤ q16 then (some 0) else (some 1))))) else (some 1))).bind fun v17 => gd (vin q14 676) <| (f6_lesser (z5.2.2.2 13 q14.toNatClampNeg) q16).bind fun q19 => gd (vin q14 676) <| lt (sA z5.2.2 13 q14.toNatClampNeg q19) fun t21 => some (v17, t21)))).bind fun v9 => lt (z5.2.1 + 1) fun y10 => some (0, (v9.1, y10, v9.2))))
noncomputable def f6_roundBy_L22 (g1 : Int32) (g4 : Int32) (z4 : Int32 × ob) : Option (Nat × (Int32 × ob)) :=
  gd (vin (g4 + 3) 70) <| (if (z4.2.2 2 (g4 + 3).toNatClampNeg) ≤ z4.1 then (some (1, (z4.1, z4.2))) else (gd (vin ((g4 + 4) + z4.1) 70) <| (f6_reads g1 (z4.2.2 2 ((g4 + 4) + z4.1).toNatClampNeg) z4.2).bind fun q30 => lt (z4.1 + 1) fun y31 => some (0, (y31, q30))))
noncomputable def f6_roundBy (x0 : Int32) (x1 : Int32) (x2 : Int32) (o_this : ob) : Option (Int32 × ob) :=
  lt (7 * x0) fun y1 => gd (vin (y1 + 2) 70) <| (f6_standsAt (o_this.2 2 (y1 + 2).toNatClampNeg) o_this).bind fun q3 => (wh (f6_roundBy_L22 x1 y1) (0, q3)).bind fun q4 => (wh (f6_roundBy_L65 x1 x2 y1) (0, 0, q4.2.2)).bind fun q5 => gd (bz q5.2.1) <| some (q5.2.1, q5.2.2.2)
set_option maxRecDepth 100000 in
set_option maxHeartbeats 4000000 in
theorem c6_roundBy (l : Launch) (D : va_G) (K : Nat → ClassId) (a0 : Nat → Nat) (x0 : Int32) (x1 : Int32) (x2 : Int32) (o_this : ob) (r : Int32 × ob) (hf : f6_roundBy x0 x1 x2 o_this = some r) : CTi l yX6_roundBy cX6_roundBy 9 (some .boolean) 2 47 D K [.ref (a0 0), .int x0, .int x1, .int x2] [wX6 K a0 o_this] [wX6 K a0 r.2] r.1 := by
  unfold f6_roundBy at hf
  have hf := tob hf
  refine entI (by decide) (Nat.le_of_ble_eq_true rfl) (fun P e s m args below meth c A ls F h hl hin => ?_)
  have hx := F.1
  have hb := F.2.1
  have hl : lv_has ls 9 [(0, .ref (a0 0)), (1, .int x0), (2, .int x1), (3, .int x2)] := hl
  refine lv_bipush (v := 7) hx hb dX6_roundBy_0 (by decide) ?_
  refine lv_iload_n hx hb dX6_roundBy_2 rfl (lv_at hl 1 rfl) ?_
  refine lv_imul hx hb dX6_roundBy_3 ?_
  refine lv_topi (fun y1 e1 => ?_)
  have hf := ltb hf e1
  refine lv_istore (lv' := [(4, .int y1), (0, .ref (a0 0)), (1, .int x0), (2, .int x1), (3, .int x2)]) hx hb dX6_roundBy_4 hl (by decide) rfl (fun ls hl => ?_)
  refine lv_aload_n hx hb dX6_roundBy_6 rfl (lv_at hl 1 rfl) ?_
  refine lv_aload_n hx hb dX6_roundBy_7 rfl (lv_at hl 1 rfl) ?_
  refine r_get F h (i := 0) (k := 2) (.ref (a0 3)) inX6 rfl (by decide) w6 rfl rfl rfl dX6_roundBy_8 ?_
  refine lv_iload hx hb dX6_roundBy_11 (lv_at hl 0 rfl) ?_
  refine lv_iconst (v := 2) hx hb dX6_roundBy_13 (by decide) ?_
  refine lv_iadd hx hb dX6_roundBy_14 ?_
  obtain ⟨g2, hf⟩ := gdb hf
  refine r_iald F h (i := 0) (j := 1) rfl rfl (vin_ok g2) dX6_roundBy_15 ?_
  obtain ⟨q3, h3, hf⟩ := asb hf
  refine r_callVv (As := [.int (o_this.2 2 (y1 + 2).toNatClampNeg)]) (rest := []) (C0 := [wX6 K a0 o_this]) (C1 := [wX6 K a0 q3]) (Rr := []) (S' := [wX6 K a0 q3]) F h hl (c6_standsAt l D K a0 (o_this.2 2 (y1 + 2).toNatClampNeg) o_this q3 h3) [0] rfl rfl rfl rfl rfl (i := 0) rfl rfl w86 ⟨w87, w88, w89, w2⟩ hsc6_standsAt ⟨Nat.le_of_ble_eq_true rfl, Nat.le_of_ble_eq_true rfl⟩ ⟨Nat.le_refl 0, Nat.le_refl 0⟩ (Nat.le_of_ble_eq_true rfl) dX6_roundBy_16 (fun H locs h => ?_)
  refine lv_iconst (v := 0) hx hb dX6_roundBy_19 (by decide) ?_
  refine lv_istore (lv' := [(5, .int 0), (4, .int y1), (0, .ref (a0 0)), (1, .int x0), (2, .int x1), (3, .int x2)]) hx hb dX6_roundBy_20 hl (by decide) rfl (fun ls hl => ?_)
  obtain ⟨q4, hq4, hf⟩ := asb hf
  obtain ⟨nq4, hq4⟩ := wh_out hq4
  have Xq4_1 : ∀ (z4 : Int32 × ob) (H : Heap) (locs : List Loc) (ls : Array Slot), q4 = (1, z4) → WD D A s.heap H locs [wX6 K a0 z4.2] → lv_has ls 9 [(0, .ref (a0 0)), (2, .int x1), (3, .int x2), (4, .int y1)] → W P l e (rmS 2 47) s m args below meth c H locs 0 0 (MQ below (QiS D A [wX6 K a0 r.2] r.1) args s 0 0 A) (F0 m 59 ls []) := by
    intro z4 H locs ls eq4 h hl
    obtain rfl : z4 = q4.2 := by rw [eq4]
    refine lv_iconst (v := 0) hx hb dX6_roundBy_59 (by decide) ?_
    refine lv_istore (lv' := [(5, .int 0), (0, .ref (a0 0)), (2, .int x1), (3, .int x2), (4, .int y1)]) hx hb dX6_roundBy_60 hl (by decide) rfl (fun ls hl => ?_)
    refine lv_iconst (v := 0) hx hb dX6_roundBy_62 (by decide) ?_
    refine lv_istore (lv' := [(6, .int 0), (5, .int 0), (0, .ref (a0 0)), (2, .int x1), (3, .int x2), (4, .int y1)]) hx hb dX6_roundBy_63 hl (by decide) rfl (fun ls hl => ?_)
    obtain ⟨q5, hq5, hf⟩ := asb hf
    obtain ⟨nq5, hq5⟩ := wh_out hq5
    have Xq5_1 : ∀ (z5 : Int32 × Int32 × ob) (H : Heap) (locs : List Loc) (ls : Array Slot), q5 = (1, z5) → WD D A s.heap H locs [wX6 K a0 z5.2.2] → lv_has ls 9 [(5, .int z5.1)] → W P l e (rmS 2 47) s m args below meth c H locs 0 0 (MQ below (QiS D A [wX6 K a0 r.2] r.1) args s 0 0 A) (F0 m 178 ls []) := by
      intro z5 H locs ls eq5 h hl
      obtain rfl : z5 = q5.2 := by rw [eq5]
      refine lv_iload hx hb dX6_roundBy_178 (lv_at hl 0 rfl) ?_
      obtain ⟨g6, hf⟩ := gdb hf
      obtain rfl := sor hf
      exact r_retz F h g6 dX6_roundBy_180
    have Lq5 : ∀ (n : Nat) (z5 : Int32 × Int32 × ob) (H : Heap) (locs : List Loc) (ls : Array Slot), iter (f6_roundBy_L65 x1 x2 y1) n z5 = some q5 → WD D A s.heap H locs [wX6 K a0 z5.2.2] → lv_has ls 9 [(0, .ref (a0 0)), (2, .int x1), (3, .int x2), (4, .int y1), (5, .int z5.1), (6, .int z5.2.1)] → W P l e (rmS 2 47) s m args below meth c H locs 0 0 (MQ below (QiS D A [wX6 K a0 r.2] r.1) args s 0 0 A) (F0 m 65 ls []) := by
      intro n
      induction n with
      | zero => intro z5 H locs ls hi; exact (iter_0 hi).elim
      | succ n ihq5 =>
        intro z5 H locs ls hi h hl
        obtain ⟨uq5, hf, huq5⟩ := iter_s hi
        unfold f6_roundBy_L65 at hf
        have hf := tob hf
        refine lv_iload hx hb dX6_roundBy_65 (lv_at hl 5 rfl) ?_
        refine lv_bipush (v := 13) hx hb dX6_roundBy_67 (by decide) ?_
        refine lv_icmp_ge (tgt := 178) hx hb dX6_roundBy_69 (by decide) (fun c7 => ?_) (fun c7 => ?_)
        · have hf := ifp hf c7
          exact Xq5_1 _ _ _ _ (itr_x huq5 (sor hf)) h (lv_sub hl [4] rfl)
        · have hf := ifn hf c7
          refine lv_aload_n hx hb dX6_roundBy_72 rfl (lv_at hl 0 rfl) ?_
          refine r_get F h (i := 0) (k := 18) (.ref (a0 19)) inX6 rfl (by decide) w77 rfl rfl rfl dX6_roundBy_73 ?_
          refine lv_iload hx hb dX6_roundBy_76 (lv_at hl 5 rfl) ?_
          obtain ⟨g8, hf⟩ := gdb hf
          refine r_iald F h (i := 0) (j := 8) rfl rfl (vin_ok g8) dX6_roundBy_78 ?_
          obtain ⟨J9, eJ9, hf⟩ := rgn hf
          have JW9 : ∀ (v9 : Int32 × ob) (H : Heap) (locs : List Loc) (ls : Array Slot), WD D A s.heap H locs [wX6 K a0 v9.2] → lv_has ls 9 [(0, .ref (a0 0)), (2, .int x1), (3, .int x2), (4, .int y1), (5, .int v9.1), (6, .int z5.2.1)] → J9 v9 = some uq5 → W P l e (rmS 2 47) s m args below meth c H locs 0 0 (MQ below (QiS D A [wX6 K a0 r.2] r.1) args s 0 0 A) (F0 m 172 ls []) := by
            intro v9 H locs ls h hl hf
            have hf := jof eJ9 hf
            obtain ⟨y10, e10⟩ : ∃ y : Int32, y = z5.2.1 + 1 := ⟨_, rfl⟩
            have hf := ltb hf e10
            refine lv_iinc (v := y10) (lv' := [(6, .int y10), (0, .ref (a0 0)), (2, .int x1), (3, .int x2), (4, .int y1), (5, .int v9.1)]) hx hb dX6_roundBy_172 hl (k := 5) rfl (by rw [e10]; rfl) (by decide) rfl (fun ls hl => ?_)
            refine lv_goto (tgt := 65) hx hb dX6_roundBy_175 (by decide) ?_
            exact ihq5 _ _ _ _ (itr_c huq5 (sor hf)) h (lv_sub hl [1, 2, 3, 4, 5, 0] rfl)
          refine lv_if_lt (tgt := 172) hx hb dX6_roundBy_79 (by decide) (fun c11 => ?_) (fun c11 => ?_)
          · have hf := ifp hf c11
            exact JW9 (z5.1, z5.2.2) _ _ _ h (lv_sub hl [0, 1, 2, 3, 4, 5] rfl) (sob hf)
          · have hf := ifn hf c11
            refine lv_aload_n hx hb dX6_roundBy_82 rfl (lv_at hl 0 rfl) ?_
            refine r_get F h (i := 0) (k := 2) (.ref (a0 3)) inX6 rfl (by decide) w6 rfl rfl rfl dX6_roundBy_83 ?_
            refine lv_iload hx hb dX6_roundBy_86 (lv_at hl 3 rfl) ?_
            obtain ⟨g12, hf⟩ := gdb hf
            refine r_iald F h (i := 0) (j := 1) rfl rfl (vin_ok g12) dX6_roundBy_88 ?_
            refine lv_aload_n hx hb dX6_roundBy_89 rfl (lv_at hl 0 rfl) ?_
            refine r_get F h (i := 0) (k := 2) (.ref (a0 3)) inX6 rfl (by decide) w6 rfl rfl rfl dX6_roundBy_90 ?_
            refine lv_iload hx hb dX6_roundBy_93 (lv_at hl 3 rfl) ?_
            refine lv_iconst (v := 1) hx hb dX6_roundBy_95 (by decide) ?_
            refine lv_iadd hx hb dX6_roundBy_96 ?_
            obtain ⟨g13, hf⟩ := gdb hf
            refine r_iald F h (i := 0) (j := 1) rfl rfl (vin_ok g13) dX6_roundBy_97 ?_
            refine lv_iload hx hb dX6_roundBy_98 (lv_at hl 5 rfl) ?_
            obtain ⟨q14, h14, hf⟩ := asb hf
            refine r_callS (As := [.int (z5.2.2.2 2 y1.toNatClampNeg), .int (z5.2.2.2 2 (y1 + 1).toNatClampNeg), .int z5.2.1]) (rest := []) F h hl (c6_place l D K (z5.2.2.2 2 y1.toNatClampNeg) (z5.2.2.2 2 (y1 + 1).toNatClampNeg) z5.2.1 q14 h14) w65 ⟨w63, w64, w2⟩ hsc6_place ⟨Nat.le_of_ble_eq_true rfl, Nat.le_of_ble_eq_true rfl⟩ ⟨Nat.le_refl 0, Nat.le_refl 0⟩ (Nat.le_of_ble_eq_true rfl) dX6_roundBy_100 (fun H locs h => ?_)
            refine lv_istore (lv' := [(7, .int q14), (0, .ref (a0 0)), (2, .int x1), (3, .int x2), (4, .int y1), (5, .int z5.1), (6, .int z5.2.1)]) hx hb dX6_roundBy_103 hl (by decide) rfl (fun ls hl => ?_)
            refine lv_iload_n hx hb dX6_roundBy_105 rfl (lv_at hl 2 rfl) ?_
            refine lv_iload_n hx hb dX6_roundBy_106 rfl (lv_at hl 3 rfl) ?_
            refine lv_aload_n hx hb dX6_roundBy_107 rfl (lv_at hl 1 rfl) ?_
            refine r_get F h (i := 0) (k := 18) (.ref (a0 19)) inX6 rfl (by decide) w77 rfl rfl rfl dX6_roundBy_108 ?_
            refine lv_iload hx hb dX6_roundBy_111 (lv_at hl 6 rfl) ?_
            obtain ⟨g15, hf⟩ := gdb hf
            refine r_iald F h (i := 0) (j := 8) rfl rfl (vin_ok g15) dX6_roundBy_113 ?_
            obtain ⟨q16, h16, hf⟩ := asb hf
            refine r_callS (As := [.int x1, .int x2, .int (z5.2.2.2 18 z5.2.1.toNatClampNeg)]) (rest := []) F h hl (c6_made l D K x1 x2 (z5.2.2.2 18 z5.2.1.toNatClampNeg) q16 h16) w82 ⟨w80, w81, w2⟩ hsc6_made ⟨Nat.le_of_ble_eq_true rfl, Nat.le_of_ble_eq_true rfl⟩ ⟨Nat.le_refl 0, Nat.le_refl 0⟩ (Nat.le_of_ble_eq_true rfl) dX6_roundBy_114 (fun H locs h => ?_)
            refine lv_istore (lv' := [(8, .int q16), (7, .int q14), (0, .ref (a0 0)), (2, .int x1), (3, .int x2), (4, .int y1), (5, .int z5.1), (6, .int z5.2.1)]) hx hb dX6_roundBy_117 hl (by decide) rfl (fun ls hl => ?_)
            refine lv_iload hx hb dX6_roundBy_119 (lv_at hl 6 rfl) ?_
            obtain ⟨J17, eJ17, hf⟩ := rgn hf
            have JW17 : ∀ (v17 : Int32) (H : Heap) (locs : List Loc) (ls : Array Slot), WD D A s.heap H locs [wX6 K a0 z5.2.2] → lv_has ls 9 [(0, .ref (a0 0)), (2, .int x1), (3, .int x2), (4, .int y1), (6, .int z5.2.1), (7, .int q14), (8, .int q16)] → J17 v17 = some uq5 → W P l e (rmS 2 47) s m args below meth c H locs 0 0 (MQ below (QiS D A [wX6 K a0 r.2] r.1) args s 0 0 A) (F0 m 151 ls [.int v17]) := by
              intro v17 H locs ls h hl hf
              have hf := jof eJ17 hf
              refine lv_istore (lv' := [(5, .int v17), (0, .ref (a0 0)), (2, .int x1), (3, .int x2), (4, .int y1), (6, .int z5.2.1), (7, .int q14), (8, .int q16)]) hx hb dX6_roundBy_151 hl (by decide) rfl (fun ls hl => ?_)
              refine lv_aload_n hx hb dX6_roundBy_153 rfl (lv_at hl 1 rfl) ?_
              refine r_get F h (i := 0) (k := 13) (.ref (a0 14)) inX6 rfl (by decide) w62 rfl rfl rfl dX6_roundBy_154 ?_
              refine lv_iload hx hb dX6_roundBy_157 (lv_at hl 6 rfl) ?_
              refine lv_aload_n hx hb dX6_roundBy_159 rfl (lv_at hl 1 rfl) ?_
              refine r_get F h (i := 0) (k := 13) (.ref (a0 14)) inX6 rfl (by decide) w62 rfl rfl rfl dX6_roundBy_160 ?_
              refine lv_iload hx hb dX6_roundBy_163 (lv_at hl 6 rfl) ?_
              obtain ⟨g18, hf⟩ := gdb hf
              refine r_iald F h (i := 0) (j := 6) rfl rfl (vin_ok g18) dX6_roundBy_165 ?_
              refine lv_iload hx hb dX6_roundBy_166 (lv_at hl 7 rfl) ?_
              obtain ⟨q19, h19, hf⟩ := asb hf
              refine r_callS (As := [.int (z5.2.2.2 13 q14.toNatClampNeg), .int q16]) (rest := [.int q14, .ref (a0 14)]) F h hl (c6_lesser l D K (z5.2.2.2 13 q14.toNatClampNeg) q16 q19 h19) w85 ⟨w83, w84, w2⟩ hsc6_lesser ⟨Nat.le_of_ble_eq_true rfl, Nat.le_of_ble_eq_true rfl⟩ ⟨Nat.le_refl 0, Nat.le_refl 0⟩ (Nat.le_of_ble_eq_true rfl) dX6_roundBy_168 (fun H locs h => ?_)
              obtain ⟨g20, hf⟩ := gdb hf
              refine r_iast (o1 := sA z5.2.2 13 q14.toNatClampNeg q19) (w := fun t21 => wX6 K a0 t21) (S' := fun t21 => [wX6 K a0 t21]) F h (i := 0) (j := 6) rfl rfl (vin_ok g20) rfl (fun _ => rfl) dX6_roundBy_171 (fun t21 e21 H locs h => ?_)
              have hf := ltb hf e21
              exact JW9 (v17, t21) _ _ _ h (lv_sub hl [1, 2, 3, 4, 0, 5] rfl) (sob hf)
            refine lv_if_ne (tgt := 146) hx hb dX6_roundBy_121 (by decide) (fun c22 => ?_) (fun c22 => ?_)
            · have hf := ifn hf c22
              refine lv_iconst (v := 1) hx hb dX6_roundBy_146 (by decide) ?_
              refine lv_goto (tgt := 151) hx hb dX6_roundBy_147 (by decide) ?_
              exact JW17 1 _ _ _ h (lv_sub hl [2, 3, 4, 5, 7, 1, 0] rfl) (sob hf)
            · have hf := ifp hf c22
              refine lv_aload_n hx hb dX6_roundBy_124 rfl (lv_at hl 2 rfl) ?_
              refine r_get F h (i := 0) (k := 13) (.ref (a0 14)) inX6 rfl (by decide) w62 rfl rfl rfl dX6_roundBy_125 ?_
              refine lv_iload hx hb dX6_roundBy_128 (lv_at hl 1 rfl) ?_
              obtain ⟨g23, hf⟩ := gdb hf
              refine r_iald F h (i := 0) (j := 6) rfl rfl (vin_ok g23) dX6_roundBy_130 ?_
              refine lv_if_lt (tgt := 146) hx hb dX6_roundBy_131 (by decide) (fun c24 => ?_) (fun c24 => ?_)
              · have hf := ifp hf c24
                refine lv_iconst (v := 1) hx hb dX6_roundBy_146 (by decide) ?_
                refine lv_goto (tgt := 151) hx hb dX6_roundBy_147 (by decide) ?_
                exact JW17 1 _ _ _ h (lv_sub hl [2, 3, 4, 5, 7, 1, 0] rfl) (sob hf)
              · have hf := ifn hf c24
                refine lv_iload hx hb dX6_roundBy_134 (lv_at hl 0 rfl) ?_
                refine lv_aload_n hx hb dX6_roundBy_136 rfl (lv_at hl 2 rfl) ?_
                refine r_get F h (i := 0) (k := 13) (.ref (a0 14)) inX6 rfl (by decide) w62 rfl rfl rfl dX6_roundBy_137 ?_
                refine lv_iload hx hb dX6_roundBy_140 (lv_at hl 1 rfl) ?_
                obtain ⟨g25, hf⟩ := gdb hf
                refine r_iald F h (i := 0) (j := 6) rfl rfl (vin_ok g25) dX6_roundBy_142 ?_
                refine lv_icmp_ge (tgt := 150) hx hb dX6_roundBy_143 (by decide) (fun c26 => ?_) (fun c26 => ?_)
                · have hf := ifp hf c26
                  refine lv_iconst (v := 0) hx hb dX6_roundBy_150 (by decide) ?_
                  exact JW17 0 _ _ _ h (lv_sub hl [2, 3, 4, 5, 7, 1, 0] rfl) (sob hf)
                · have hf := ifn hf c26
                  refine lv_iconst (v := 1) hx hb dX6_roundBy_146 (by decide) ?_
                  refine lv_goto (tgt := 151) hx hb dX6_roundBy_147 (by decide) ?_
                  exact JW17 1 _ _ _ h (lv_sub hl [2, 3, 4, 5, 7, 1, 0] rfl) (sob hf)
    exact Lq5 _ _ _ _ _ hq5 h (lv_sub hl [2, 3, 4, 5, 1, 0] rfl)
  have Lq4 : ∀ (n : Nat) (z4 : Int32 × ob) (H : Heap) (locs : List Loc) (ls : Array Slot), iter (f6_roundBy_L22 x1 y1) n z4 = some q4 → WD D A s.heap H locs [wX6 K a0 z4.2] → lv_has ls 9 [(0, .ref (a0 0)), (2, .int x1), (3, .int x2), (4, .int y1), (5, .int z4.1)] → W P l e (rmS 2 47) s m args below meth c H locs 0 0 (MQ below (QiS D A [wX6 K a0 r.2] r.1) args s 0 0 A) (F0 m 22 ls []) := by
    intro n
    induction n with
    | zero => intro z4 H locs ls hi; exact (iter_0 hi).elim
    | succ n ihq4 =>
      intro z4 H locs ls hi h hl
      obtain ⟨uq4, hf, huq4⟩ := iter_s hi
      unfold f6_roundBy_L22 at hf
      have hf := tob hf
      refine lv_iload hx hb dX6_roundBy_22 (lv_at hl 4 rfl) ?_
      refine lv_aload_n hx hb dX6_roundBy_24 rfl (lv_at hl 0 rfl) ?_
      refine r_get F h (i := 0) (k := 2) (.ref (a0 3)) inX6 rfl (by decide) w6 rfl rfl rfl dX6_roundBy_25 ?_
      refine lv_iload hx hb dX6_roundBy_28 (lv_at hl 3 rfl) ?_
      refine lv_iconst (v := 3) hx hb dX6_roundBy_30 (by decide) ?_
      refine lv_iadd hx hb dX6_roundBy_31 ?_
      obtain ⟨g27, hf⟩ := gdb hf
      refine r_iald F h (i := 0) (j := 1) rfl rfl (vin_ok g27) dX6_roundBy_32 ?_
      refine lv_icmp_ge (tgt := 59) hx hb dX6_roundBy_33 (by decide) (fun c28 => ?_) (fun c28 => ?_)
      · have hf := ifp hf c28
        exact Xq4_1 _ _ _ _ (itr_x huq4 (sor hf)) h (lv_sub hl [0, 1, 2, 3] rfl)
      · have hf := ifn hf c28
        refine lv_aload_n hx hb dX6_roundBy_36 rfl (lv_at hl 0 rfl) ?_
        refine lv_iload_n hx hb dX6_roundBy_37 rfl (lv_at hl 1 rfl) ?_
        refine lv_aload_n hx hb dX6_roundBy_38 rfl (lv_at hl 0 rfl) ?_
        refine r_get F h (i := 0) (k := 2) (.ref (a0 3)) inX6 rfl (by decide) w6 rfl rfl rfl dX6_roundBy_39 ?_
        refine lv_iload hx hb dX6_roundBy_42 (lv_at hl 3 rfl) ?_
        refine lv_iconst (v := 4) hx hb dX6_roundBy_44 (by decide) ?_
        refine lv_iadd hx hb dX6_roundBy_45 ?_
        refine lv_iload hx hb dX6_roundBy_46 (lv_at hl 4 rfl) ?_
        refine lv_iadd hx hb dX6_roundBy_48 ?_
        obtain ⟨g29, hf⟩ := gdb hf
        refine r_iald F h (i := 0) (j := 1) rfl rfl (vin_ok g29) dX6_roundBy_49 ?_
        obtain ⟨q30, h30, hf⟩ := asb hf
        refine r_callVv (As := [.int x1, .int (z4.2.2 2 ((y1 + 4) + z4.1).toNatClampNeg)]) (rest := []) (C0 := [wX6 K a0 z4.2]) (C1 := [wX6 K a0 q30]) (Rr := []) (S' := [wX6 K a0 q30]) F h hl (c6_reads l D K a0 x1 (z4.2.2 2 ((y1 + 4) + z4.1).toNatClampNeg) z4.2 q30 h30) [0] rfl rfl rfl rfl rfl (i := 0) rfl rfl w90 ⟨w91, w92, w93, w2⟩ hsc6_reads ⟨Nat.le_of_ble_eq_true rfl, Nat.le_of_ble_eq_true rfl⟩ ⟨Nat.le_refl 0, Nat.le_refl 0⟩ (Nat.le_of_ble_eq_true rfl) dX6_roundBy_50 (fun H locs h => ?_)
        obtain ⟨y31, e31⟩ : ∃ y : Int32, y = z4.1 + 1 := ⟨_, rfl⟩
        have hf := ltb hf e31
        refine lv_iinc (v := y31) (lv' := [(5, .int y31), (0, .ref (a0 0)), (2, .int x1), (3, .int x2), (4, .int y1)]) hx hb dX6_roundBy_53 hl (k := 4) rfl (by rw [e31]; rfl) (by decide) rfl (fun ls hl => ?_)
        refine lv_goto (tgt := 22) hx hb dX6_roundBy_56 (by decide) ?_
        exact ihq4 _ _ _ _ (itr_c huq4 (sor hf)) h (lv_sub hl [1, 2, 3, 4, 0] rfl)
  exact Lq4 _ _ _ _ _ hq4 h (lv_sub hl [2, 4, 5, 1, 0] rfl)
noncomputable def f6_grows_L46 (g0 : Int32) (g1 : Int32) (z5 : Int32 × Int32 × ob) : Option (Nat × (Int32 × Int32 × ob)) :=
  (if (z5.2.2.1 1) ≤ z5.2.1 then (some (1, (z5.1, z5.2.1, z5.2.2))) else (((if z5.2.1 = g1 then (some (z5.1, z5.2.2)) else (((if g0 = 1 then (some 1) else (gd (vin ((7 * z5.2.1) + 6) 70) <| some (z5.2.2.2 2 ((7 * z5.2.1) + 6).toNatClampNeg)))).bind fun v13 => (f6_roundBy z5.2.1 g0 v13 z5.2.2).bind fun q14 => ((if z5.1 = 0 then ((if q14.1 = 0 then (some 0) else (some 1))) else (some 1))).bind fun v15 => some (v15, q14.2)))).bind fun v10 => lt (z5.2.1 + 1) fun y11 => some (0, (v10.1, y11, v10.2))))
def f6_grows_L13 (z4 : Int32 × ob) : Option (Nat × (Int32 × ob)) :=
  (if 676 ≤ z4.1 then (some (1, (z4.1, z4.2))) else (gd (vin z4.1 676) <| gd (vin z4.1 676) <| lt (sA z4.2 14 z4.1.toNatClampNeg (z4.2.2 13 z4.1.toNatClampNeg)) fun t23 => lt (z4.1 + 1) fun y24 => some (0, (y24, t23))))
noncomputable def f6_grows_L6 (g0 : Int32) (g1 : Int32) (z2 : Int32 × ob) : Option (Nat × (Int32 × ob)) :=
  (if z2.1 = 0 then (some (1, (z2.1, z2.2))) else ((wh f6_grows_L13 (0, z2.2)).bind fun q4 => (wh (f6_grows_L46 g0 g1) (0, 0, q4.2.2)).bind fun q5 => ((if q5.2.1 = 0 then (some 0) else (some 1))).bind fun v6 => lt (sI q5.2.2.2 17 ((q5.2.2.2.1 17) + v6)) fun t7 => some (0, (q5.2.1, t7))))
noncomputable def f6_grows (x0 : Int32) (x1 : Int32) (o_this : ob) : Option (ob) :=
  (f6_begins o_this).bind fun q1 => (wh (f6_grows_L6 x0 x1) (1, q1)).bind fun q2 => some q2.2.2
set_option maxRecDepth 100000 in
set_option maxHeartbeats 4000000 in
theorem c6_grows (l : Launch) (D : va_G) (K : Nat → ClassId) (a0 : Nat → Nat) (x0 : Int32) (x1 : Int32) (o_this : ob) (r : ob) (hf : f6_grows x0 x1 o_this = some r) : CTv l yX6_grows cX6_grows 6 3 75 D K [.ref (a0 0), .int x0, .int x1] [wX6 K a0 o_this] [wX6 K a0 r] := by
  unfold f6_grows at hf
  have hf := tob hf
  refine entV (by decide) (Nat.le_of_ble_eq_true rfl) (fun P e s m args below meth c A ls F h hl hin => ?_)
  have hx := F.1
  have hb := F.2.1
  have hl : lv_has ls 6 [(0, .ref (a0 0)), (1, .int x0), (2, .int x1)] := hl
  refine lv_aload_n hx hb dX6_grows_0 rfl (lv_at hl 0 rfl) ?_
  obtain ⟨q1, h1, hf⟩ := asb hf
  refine r_callVv (As := []) (rest := []) (C0 := [wX6 K a0 o_this]) (C1 := [wX6 K a0 q1]) (Rr := []) (S' := [wX6 K a0 q1]) F h hl (c6_begins l D K a0 o_this q1 h1) [0] rfl rfl rfl rfl rfl (i := 0) rfl rfl w94 ⟨w95, w96, w97, w2⟩ hsc6_begins ⟨Nat.le_of_ble_eq_true rfl, Nat.le_of_ble_eq_true rfl⟩ ⟨Nat.le_refl 0, Nat.le_refl 0⟩ (Nat.le_of_ble_eq_true rfl) dX6_grows_1 (fun H locs h => ?_)
  refine lv_iconst (v := 1) hx hb dX6_grows_4 (by decide) ?_
  refine lv_istore_n (lv' := [(3, .int 1), (0, .ref (a0 0)), (1, .int x0), (2, .int x1)]) hx hb dX6_grows_5 rfl hl (by decide) rfl (fun ls hl => ?_)
  obtain ⟨q2, hq2, hf⟩ := asb hf
  obtain ⟨nq2, hq2⟩ := wh_out hq2
  have Xq2_1 : ∀ (z2 : Int32 × ob) (H : Heap) (locs : List Loc) (ls : Array Slot), q2 = (1, z2) → WD D A s.heap H locs [wX6 K a0 z2.2] → lv_has ls 6 [] → W P l e (rmS 3 75) s m args below meth c H locs 0 0 (MQ below (QvS D A [wX6 K a0 r]) args s 0 0 A) (F0 m 134 ls []) := by
    intro z2 H locs ls eq2 h hl
    obtain rfl : z2 = q2.2 := by rw [eq2]
    obtain rfl := sor hf
    exact r_retv F h dX6_grows_134
  have Lq2 : ∀ (n : Nat) (z2 : Int32 × ob) (H : Heap) (locs : List Loc) (ls : Array Slot), iter (f6_grows_L6 x0 x1) n z2 = some q2 → WD D A s.heap H locs [wX6 K a0 z2.2] → lv_has ls 6 [(0, .ref (a0 0)), (1, .int x0), (2, .int x1), (3, .int z2.1)] → W P l e (rmS 3 75) s m args below meth c H locs 0 0 (MQ below (QvS D A [wX6 K a0 r]) args s 0 0 A) (F0 m 6 ls []) := by
    intro n
    induction n with
    | zero => intro z2 H locs ls hi; exact (iter_0 hi).elim
    | succ n ihq2 =>
      intro z2 H locs ls hi h hl
      obtain ⟨uq2, hf, huq2⟩ := iter_s hi
      unfold f6_grows_L6 at hf
      have hf := tob hf
      refine lv_iload_n hx hb dX6_grows_6 rfl (lv_at hl 3 rfl) ?_
      refine lv_if_eq (tgt := 134) hx hb dX6_grows_7 (by decide) (fun c3 => ?_) (fun c3 => ?_)
      · have hf := ifp hf c3
        exact Xq2_1 _ _ _ _ (itr_x huq2 (sor hf)) h (lv_sub hl [] rfl)
      · have hf := ifn hf c3
        refine lv_iconst (v := 0) hx hb dX6_grows_10 (by decide) ?_
        refine lv_istore (lv' := [(4, .int 0), (0, .ref (a0 0)), (1, .int x0), (2, .int x1), (3, .int z2.1)]) hx hb dX6_grows_11 hl (by decide) rfl (fun ls hl => ?_)
        obtain ⟨q4, hq4, hf⟩ := asb hf
        obtain ⟨nq4, hq4⟩ := wh_out hq4
        have Xq4_1 : ∀ (z4 : Int32 × ob) (H : Heap) (locs : List Loc) (ls : Array Slot), q4 = (1, z4) → WD D A s.heap H locs [wX6 K a0 z4.2] → lv_has ls 6 [(0, .ref (a0 0)), (1, .int x0), (2, .int x1)] → W P l e (rmS 3 75) s m args below meth c H locs 0 0 (MQ below (QvS D A [wX6 K a0 r]) args s 0 0 A) (F0 m 41 ls []) := by
          intro z4 H locs ls eq4 h hl
          obtain rfl : z4 = q4.2 := by rw [eq4]
          refine lv_iconst (v := 0) hx hb dX6_grows_41 (by decide) ?_
          refine lv_istore_n (lv' := [(3, .int 0), (0, .ref (a0 0)), (1, .int x0), (2, .int x1)]) hx hb dX6_grows_42 rfl hl (by decide) rfl (fun ls hl => ?_)
          refine lv_iconst (v := 0) hx hb dX6_grows_43 (by decide) ?_
          refine lv_istore (lv' := [(4, .int 0), (3, .int 0), (0, .ref (a0 0)), (1, .int x0), (2, .int x1)]) hx hb dX6_grows_44 hl (by decide) rfl (fun ls hl => ?_)
          obtain ⟨q5, hq5, hf⟩ := asb hf
          obtain ⟨nq5, hq5⟩ := wh_out hq5
          have Xq5_1 : ∀ (z5 : Int32 × Int32 × ob) (H : Heap) (locs : List Loc) (ls : Array Slot), q5 = (1, z5) → WD D A s.heap H locs [wX6 K a0 z5.2.2] → lv_has ls 6 [(0, .ref (a0 0)), (1, .int x0), (2, .int x1), (3, .int z5.1)] → W P l e (rmS 3 75) s m args below meth c H locs 0 0 (MQ below (QvS D A [wX6 K a0 r]) args s 0 0 A) (F0 m 113 ls []) := by
            intro z5 H locs ls eq5 h hl
            obtain rfl : z5 = q5.2 := by rw [eq5]
            refine lv_aload_n hx hb dX6_grows_113 rfl (lv_at hl 0 rfl) ?_
            refine lv_dup hx hb dX6_grows_114 rfl ?_
            refine r_get F h (i := 0) (k := 17) (.int (q5.2.2.2.1 17)) inX6 rfl (by decide) w68 rfl rfl rfl dX6_grows_115 ?_
            refine lv_iload_n hx hb dX6_grows_118 rfl (lv_at hl 3 rfl) ?_
            obtain ⟨J6, eJ6, hf⟩ := rgn hf
            have JW6 : ∀ (v6 : Int32) (H : Heap) (locs : List Loc) (ls : Array Slot), WD D A s.heap H locs [wX6 K a0 q5.2.2.2] → lv_has ls 6 [(0, .ref (a0 0)), (1, .int x0), (2, .int x1), (3, .int q5.2.1)] → J6 v6 = some uq2 → W P l e (rmS 3 75) s m args below meth c H locs 0 0 (MQ below (QvS D A [wX6 K a0 r]) args s 0 0 A) (F0 m 127 ls [.int v6, .int (q5.2.2.2.1 17), .ref (a0 0)]) := by
              intro v6 H locs ls h hl hf
              have hf := jof eJ6 hf
              refine lv_iadd hx hb dX6_grows_127 ?_
              refine r_put (o1 := sI q5.2.2.2 17 ((q5.2.2.2.1 17) + v6)) (w := fun t7 => wX6 K a0 t7) (S' := fun t7 => [wX6 K a0 t7]) F h (i := 0) (k := 17) inX6 tyX6_ok nmX6 rfl (by decide) w68 rfl rfl rfl rfl rfl (Nat.le_of_ble_eq_true rfl) rfl (fun _ => rfl) dX6_grows_128 (fun t7 e7 H locs h => ?_)
              have hf := ltb hf e7
              refine lv_goto (tgt := 6) hx hb dX6_grows_131 (by decide) ?_
              exact ihq2 _ _ _ _ (itr_c huq2 (sor hf)) h (lv_sub hl [0, 1, 2, 3] rfl)
            refine lv_if_eq (tgt := 126) hx hb dX6_grows_119 (by decide) (fun c8 => ?_) (fun c8 => ?_)
            · have hf := ifp hf c8
              refine lv_iconst (v := 0) hx hb dX6_grows_126 (by decide) ?_
              exact JW6 0 _ _ _ h (lv_sub hl [0, 1, 2, 3] rfl) (sob hf)
            · have hf := ifn hf c8
              refine lv_iconst (v := 1) hx hb dX6_grows_122 (by decide) ?_
              refine lv_goto (tgt := 127) hx hb dX6_grows_123 (by decide) ?_
              exact JW6 1 _ _ _ h (lv_sub hl [0, 1, 2, 3] rfl) (sob hf)
          have Lq5 : ∀ (n : Nat) (z5 : Int32 × Int32 × ob) (H : Heap) (locs : List Loc) (ls : Array Slot), iter (f6_grows_L46 x0 x1) n z5 = some q5 → WD D A s.heap H locs [wX6 K a0 z5.2.2] → lv_has ls 6 [(0, .ref (a0 0)), (1, .int x0), (2, .int x1), (3, .int z5.1), (4, .int z5.2.1)] → W P l e (rmS 3 75) s m args below meth c H locs 0 0 (MQ below (QvS D A [wX6 K a0 r]) args s 0 0 A) (F0 m 46 ls []) := by
            intro n
            induction n with
            | zero => intro z5 H locs ls hi; exact (iter_0 hi).elim
            | succ n ihq5 =>
              intro z5 H locs ls hi h hl
              obtain ⟨uq5, hf, huq5⟩ := iter_s hi
              unfold f6_grows_L46 at hf
              have hf := tob hf
              refine lv_iload hx hb dX6_grows_46 (lv_at hl 4 rfl) ?_
              refine lv_aload_n hx hb dX6_grows_48 rfl (lv_at hl 0 rfl) ?_
              refine r_get F h (i := 0) (k := 1) (.int (z5.2.2.1 1)) inX6 rfl (by decide) w4 rfl rfl rfl dX6_grows_49 ?_
              refine lv_icmp_ge (tgt := 113) hx hb dX6_grows_52 (by decide) (fun c9 => ?_) (fun c9 => ?_)
              · have hf := ifp hf c9
                exact Xq5_1 _ _ _ _ (itr_x huq5 (sor hf)) h (lv_sub hl [0, 1, 2, 3] rfl)
              · have hf := ifn hf c9
                refine lv_iload hx hb dX6_grows_55 (lv_at hl 4 rfl) ?_
                refine lv_iload_n hx hb dX6_grows_57 rfl (lv_at hl 2 rfl) ?_
                obtain ⟨J10, eJ10, hf⟩ := rgn hf
                have JW10 : ∀ (v10 : Int32 × ob) (H : Heap) (locs : List Loc) (ls : Array Slot), WD D A s.heap H locs [wX6 K a0 v10.2] → lv_has ls 6 [(0, .ref (a0 0)), (1, .int x0), (2, .int x1), (3, .int v10.1), (4, .int z5.2.1)] → J10 v10 = some uq5 → W P l e (rmS 3 75) s m args below meth c H locs 0 0 (MQ below (QvS D A [wX6 K a0 r]) args s 0 0 A) (F0 m 107 ls []) := by
                  intro v10 H locs ls h hl hf
                  have hf := jof eJ10 hf
                  obtain ⟨y11, e11⟩ : ∃ y : Int32, y = z5.2.1 + 1 := ⟨_, rfl⟩
                  have hf := ltb hf e11
                  refine lv_iinc (v := y11) (lv' := [(4, .int y11), (0, .ref (a0 0)), (1, .int x0), (2, .int x1), (3, .int v10.1)]) hx hb dX6_grows_107 hl (k := 4) rfl (by rw [e11]; rfl) (by decide) rfl (fun ls hl => ?_)
                  refine lv_goto (tgt := 46) hx hb dX6_grows_110 (by decide) ?_
                  exact ihq5 _ _ _ _ (itr_c huq5 (sor hf)) h (lv_sub hl [1, 2, 3, 4, 0] rfl)
                refine lv_icmp_eq (tgt := 107) hx hb dX6_grows_58 (by decide) (fun c12 => ?_) (fun c12 => ?_)
                · have hf := ifp hf c12
                  exact JW10 (z5.1, z5.2.2) _ _ _ h (lv_sub hl [0, 1, 2, 3, 4] rfl) (sob hf)
                · have hf := ifn hf c12
                  refine lv_aload_n hx hb dX6_grows_61 rfl (lv_at hl 0 rfl) ?_
                  refine lv_iload hx hb dX6_grows_62 (lv_at hl 4 rfl) ?_
                  refine lv_iload_n hx hb dX6_grows_64 rfl (lv_at hl 1 rfl) ?_
                  refine lv_iload_n hx hb dX6_grows_65 rfl (lv_at hl 1 rfl) ?_
                  refine lv_iconst (v := 1) hx hb dX6_grows_66 (by decide) ?_
                  obtain ⟨J13, eJ13, hf⟩ := rgn hf
                  have JW13 : ∀ (v13 : Int32) (H : Heap) (locs : List Loc) (ls : Array Slot), WD D A s.heap H locs [wX6 K a0 z5.2.2] → lv_has ls 6 [(0, .ref (a0 0)), (1, .int x0), (2, .int x1), (3, .int z5.1), (4, .int z5.2.1)] → J13 v13 = some uq5 → W P l e (rmS 3 75) s m args below meth c H locs 0 0 (MQ below (QvS D A [wX6 K a0 r]) args s 0 0 A) (F0 m 87 ls [.int v13, .int x0, .int z5.2.1, .ref (a0 0)]) := by
                    intro v13 H locs ls h hl hf
                    have hf := jof eJ13 hf
                    obtain ⟨q14, h14, hf⟩ := asb hf
                    refine r_callVi (As := [.int z5.2.1, .int x0, .int v13]) (rest := []) (C0 := [wX6 K a0 z5.2.2]) (C1 := [wX6 K a0 q14.2]) (Rr := []) (S' := [wX6 K a0 q14.2]) F h hl (c6_roundBy l D K a0 z5.2.1 x0 v13 z5.2.2 q14 h14) [0] rfl rfl rfl rfl rfl (i := 0) rfl rfl w98 ⟨w99, w100, w101, w2⟩ hsc6_roundBy ⟨Nat.le_of_ble_eq_true rfl, Nat.le_of_ble_eq_true rfl⟩ ⟨Nat.le_refl 0, Nat.le_refl 0⟩ (Nat.le_of_ble_eq_true rfl) dX6_grows_87 (fun H locs h => ?_)
                    refine lv_istore (lv' := [(5, .int q14.1), (0, .ref (a0 0)), (1, .int x0), (2, .int x1), (3, .int z5.1), (4, .int z5.2.1)]) hx hb dX6_grows_90 hl (by decide) rfl (fun ls hl => ?_)
                    refine lv_iload_n hx hb dX6_grows_92 rfl (lv_at hl 4 rfl) ?_
                    obtain ⟨J15, eJ15, hf⟩ := rgn hf
                    have JW15 : ∀ (v15 : Int32) (H : Heap) (locs : List Loc) (ls : Array Slot), WD D A s.heap H locs [wX6 K a0 q14.2] → lv_has ls 6 [(0, .ref (a0 0)), (1, .int x0), (2, .int x1), (4, .int z5.2.1)] → J15 v15 = some uq5 → W P l e (rmS 3 75) s m args below meth c H locs 0 0 (MQ below (QvS D A [wX6 K a0 r]) args s 0 0 A) (F0 m 106 ls [.int v15]) := by
                      intro v15 H locs ls h hl hf
                      have hf := jof eJ15 hf
                      refine lv_istore_n (lv' := [(3, .int v15), (0, .ref (a0 0)), (1, .int x0), (2, .int x1), (4, .int z5.2.1)]) hx hb dX6_grows_106 rfl hl (by decide) rfl (fun ls hl => ?_)
                      exact JW10 (v15, q14.2) _ _ _ h (lv_sub hl [1, 2, 3, 0, 4] rfl) (sob hf)
                    refine lv_if_ne (tgt := 101) hx hb dX6_grows_93 (by decide) (fun c16 => ?_) (fun c16 => ?_)
                    · have hf := ifn hf c16
                      refine lv_iconst (v := 1) hx hb dX6_grows_101 (by decide) ?_
                      refine lv_goto (tgt := 106) hx hb dX6_grows_102 (by decide) ?_
                      exact JW15 1 _ _ _ h (lv_sub hl [1, 2, 3, 5] rfl) (sob hf)
                    · have hf := ifp hf c16
                      refine lv_iload hx hb dX6_grows_96 (lv_at hl 0 rfl) ?_
                      refine lv_if_eq (tgt := 105) hx hb dX6_grows_98 (by decide) (fun c17 => ?_) (fun c17 => ?_)
                      · have hf := ifp hf c17
                        refine lv_iconst (v := 0) hx hb dX6_grows_105 (by decide) ?_
                        exact JW15 0 _ _ _ h (lv_sub hl [1, 2, 3, 5] rfl) (sob hf)
                      · have hf := ifn hf c17
                        refine lv_iconst (v := 1) hx hb dX6_grows_101 (by decide) ?_
                        refine lv_goto (tgt := 106) hx hb dX6_grows_102 (by decide) ?_
                        exact JW15 1 _ _ _ h (lv_sub hl [1, 2, 3, 5] rfl) (sob hf)
                  refine lv_icmp_ne (tgt := 74) hx hb dX6_grows_67 (by decide) (fun c18 => ?_) (fun c18 => ?_)
                  · have hf := ifn hf c18
                    refine lv_aload_n hx hb dX6_grows_74 rfl (lv_at hl 0 rfl) ?_
                    refine r_get F h (i := 0) (k := 2) (.ref (a0 3)) inX6 rfl (by decide) w6 rfl rfl rfl dX6_grows_75 ?_
                    refine lv_bipush (v := 7) hx hb dX6_grows_78 (by decide) ?_
                    refine lv_iload hx hb dX6_grows_80 (lv_at hl 4 rfl) ?_
                    refine lv_imul hx hb dX6_grows_82 ?_
                    refine lv_bipush (v := 6) hx hb dX6_grows_83 (by decide) ?_
                    refine lv_iadd hx hb dX6_grows_85 ?_
                    obtain ⟨g19, hf⟩ := gdb hf
                    refine r_iald F h (i := 0) (j := 1) rfl rfl (vin_ok g19) dX6_grows_86 ?_
                    exact JW13 (z5.2.2.2 2 ((7 * z5.2.1) + 6).toNatClampNeg) _ _ _ h (lv_sub hl [0, 1, 2, 3, 4] rfl) (sob hf)
                  · have hf := ifp hf c18
                    refine lv_iconst (v := 1) hx hb dX6_grows_70 (by decide) ?_
                    refine lv_goto (tgt := 87) hx hb dX6_grows_71 (by decide) ?_
                    exact JW13 1 _ _ _ h (lv_sub hl [0, 1, 2, 3, 4] rfl) (sob hf)
          exact Lq5 _ _ _ _ _ hq5 h (lv_sub hl [2, 3, 4, 1, 0] rfl)
        have Lq4 : ∀ (n : Nat) (z4 : Int32 × ob) (H : Heap) (locs : List Loc) (ls : Array Slot), iter f6_grows_L13 n z4 = some q4 → WD D A s.heap H locs [wX6 K a0 z4.2] → lv_has ls 6 [(0, .ref (a0 0)), (1, .int x0), (2, .int x1), (4, .int z4.1)] → W P l e (rmS 3 75) s m args below meth c H locs 0 0 (MQ below (QvS D A [wX6 K a0 r]) args s 0 0 A) (F0 m 13 ls []) := by
          intro n
          induction n with
          | zero => intro z4 H locs ls hi; exact (iter_0 hi).elim
          | succ n ihq4 =>
            intro z4 H locs ls hi h hl
            obtain ⟨uq4, hf, huq4⟩ := iter_s hi
            unfold f6_grows_L13 at hf
            have hf := tob hf
            refine lv_iload hx hb dX6_grows_13 (lv_at hl 3 rfl) ?_
            refine lv_sipush (v := 676) hx hb dX6_grows_15 (by decide) ?_
            refine lv_icmp_ge (tgt := 41) hx hb dX6_grows_18 (by decide) (fun c20 => ?_) (fun c20 => ?_)
            · have hf := ifp hf c20
              exact Xq4_1 _ _ _ _ (itr_x huq4 (sor hf)) h (lv_sub hl [0, 1, 2] rfl)
            · have hf := ifn hf c20
              refine lv_aload_n hx hb dX6_grows_21 rfl (lv_at hl 0 rfl) ?_
              refine r_get F h (i := 0) (k := 14) (.ref (a0 15)) inX6 rfl (by decide) w79 rfl rfl rfl dX6_grows_22 ?_
              refine lv_iload hx hb dX6_grows_25 (lv_at hl 3 rfl) ?_
              refine lv_aload_n hx hb dX6_grows_27 rfl (lv_at hl 0 rfl) ?_
              refine r_get F h (i := 0) (k := 13) (.ref (a0 14)) inX6 rfl (by decide) w62 rfl rfl rfl dX6_grows_28 ?_
              refine lv_iload hx hb dX6_grows_31 (lv_at hl 3 rfl) ?_
              obtain ⟨g21, hf⟩ := gdb hf
              refine r_iald F h (i := 0) (j := 6) rfl rfl (vin_ok g21) dX6_grows_33 ?_
              obtain ⟨g22, hf⟩ := gdb hf
              refine r_iast (o1 := sA z4.2 14 z4.1.toNatClampNeg (z4.2.2 13 z4.1.toNatClampNeg)) (w := fun t23 => wX6 K a0 t23) (S' := fun t23 => [wX6 K a0 t23]) F h (i := 0) (j := 7) rfl rfl (vin_ok g22) rfl (fun _ => rfl) dX6_grows_34 (fun t23 e23 H locs h => ?_)
              have hf := ltb hf e23
              obtain ⟨y24, e24⟩ : ∃ y : Int32, y = z4.1 + 1 := ⟨_, rfl⟩
              have hf := ltb hf e24
              refine lv_iinc (v := y24) (lv' := [(4, .int y24), (0, .ref (a0 0)), (1, .int x0), (2, .int x1)]) hx hb dX6_grows_35 hl (k := 3) rfl (by rw [e24]; rfl) (by decide) rfl (fun ls hl => ?_)
              refine lv_goto (tgt := 13) hx hb dX6_grows_38 (by decide) ?_
              exact ihq4 _ _ _ _ (itr_c huq4 (sor hf)) h (lv_sub hl [1, 2, 3, 0] rfl)
        exact Lq4 _ _ _ _ _ hq4 h (lv_sub hl [1, 2, 3, 0] rfl)
  exact Lq2 _ _ _ _ _ hq2 h (lv_sub hl [1, 2, 3, 0] rfl)
def f6_isEnd_L26 (g0 : Int32) (g1 : ob) (z2 : Int32 × Int32) : Option (Nat × (Int32 × Int32)) :=
  (if (g1.1 3) ≤ z2.2 then (some (1, (z2.1, z2.2))) else (((if z2.1 = 0 then (gd (vin ((6 * z2.2) + 1) 24) <| (if (g1.2 4 ((6 * z2.2) + 1).toNatClampNeg) = 0 then (gd (vin (6 * z2.2) 24) <| (if (g1.2 4 (6 * z2.2).toNatClampNeg) = g0 then (some 1) else (some 0))) else (some 0))) else (some 1))).bind fun v5 => lt (z2.2 + 1) fun y6 => some (0, (v5, y6))))
noncomputable def f6_isEnd (x0 : Int32) (o_this : ob) : Option (Int32) :=
  ((if x0 = (o_this.1 0) then (some 1) else ((if x0 = ((o_this.1 0) + 1) then (some 1) else (some 0))))).bind fun v1 => (wh (f6_isEnd_L26 x0 o_this) (v1, 0)).bind fun q2 => gd (bz q2.2.1) <| some q2.2.1
set_option maxRecDepth 100000 in
set_option maxHeartbeats 4000000 in
theorem c6_isEnd (l : Launch) (D : va_G) (K : Nat → ClassId) (a0 : Nat → Nat) (x0 : Int32) (o_this : ob) (r : Int32) (hf : f6_isEnd x0 o_this = some r) : CTi l yX6_isEnd cX6_isEnd 4 (some .boolean) 0 0 D K [.ref (a0 0), .int x0] [wX6 K a0 o_this] [wX6 K a0 o_this] r := by
  unfold f6_isEnd at hf
  have hf := tob hf
  refine entI (by decide) (Nat.le_of_ble_eq_true rfl) (fun P e s m args below meth c A ls F h hl hin => ?_)
  have hx := F.1
  have hb := F.2.1
  have hl : lv_has ls 4 [(0, .ref (a0 0)), (1, .int x0)] := hl
  refine lv_iload_n hx hb dX6_isEnd_0 rfl (lv_at hl 1 rfl) ?_
  refine lv_aload_n hx hb dX6_isEnd_1 rfl (lv_at hl 0 rfl) ?_
  refine r_get F h (i := 0) (k := 0) (.int (o_this.1 0)) inX6 rfl (by decide) w5 rfl rfl rfl dX6_isEnd_2 ?_
  obtain ⟨J1, eJ1, hf⟩ := rgn hf
  have JW1 : ∀ (v1 : Int32) (H : Heap) (locs : List Loc) (ls : Array Slot), WD D A s.heap H locs [wX6 K a0 o_this] → lv_has ls 4 [(0, .ref (a0 0)), (1, .int x0)] → J1 v1 = some r → W P l e (rmS 0 0) s m args below meth c H locs 0 0 (MQ below (QiS D A [wX6 K a0 o_this] r) args s 0 0 A) (F0 m 23 ls [.int v1]) := by
    intro v1 H locs ls h hl hf
    have hf := jof eJ1 hf
    refine lv_istore_n (lv' := [(2, .int v1), (0, .ref (a0 0)), (1, .int x0)]) hx hb dX6_isEnd_23 rfl hl (by decide) rfl (fun ls hl => ?_)
    refine lv_iconst (v := 0) hx hb dX6_isEnd_24 (by decide) ?_
    refine lv_istore_n (lv' := [(3, .int 0), (2, .int v1), (0, .ref (a0 0)), (1, .int x0)]) hx hb dX6_isEnd_25 rfl hl (by decide) rfl (fun ls hl => ?_)
    obtain ⟨q2, hq2, hf⟩ := asb hf
    obtain ⟨nq2, hq2⟩ := wh_out hq2
    have Xq2_1 : ∀ (z2 : Int32 × Int32) (H : Heap) (locs : List Loc) (ls : Array Slot), q2 = (1, z2) → WD D A s.heap H locs [wX6 K a0 o_this] → lv_has ls 4 [(2, .int z2.1)] → W P l e (rmS 0 0) s m args below meth c H locs 0 0 (MQ below (QiS D A [wX6 K a0 o_this] r) args s 0 0 A) (F0 m 77 ls []) := by
      intro z2 H locs ls eq2 h hl
      obtain rfl : z2 = q2.2 := by rw [eq2]
      refine lv_iload_n hx hb dX6_isEnd_77 rfl (lv_at hl 0 rfl) ?_
      obtain ⟨g3, hf⟩ := gdb hf
      obtain rfl := sor hf
      exact r_retz F h g3 dX6_isEnd_78
    have Lq2 : ∀ (n : Nat) (z2 : Int32 × Int32) (H : Heap) (locs : List Loc) (ls : Array Slot), iter (f6_isEnd_L26 x0 o_this) n z2 = some q2 → WD D A s.heap H locs [wX6 K a0 o_this] → lv_has ls 4 [(0, .ref (a0 0)), (1, .int x0), (2, .int z2.1), (3, .int z2.2)] → W P l e (rmS 0 0) s m args below meth c H locs 0 0 (MQ below (QiS D A [wX6 K a0 o_this] r) args s 0 0 A) (F0 m 26 ls []) := by
      intro n
      induction n with
      | zero => intro z2 H locs ls hi; exact (iter_0 hi).elim
      | succ n ihq2 =>
        intro z2 H locs ls hi h hl
        obtain ⟨uq2, hf, huq2⟩ := iter_s hi
        unfold f6_isEnd_L26 at hf
        have hf := tob hf
        refine lv_iload_n hx hb dX6_isEnd_26 rfl (lv_at hl 3 rfl) ?_
        refine lv_aload_n hx hb dX6_isEnd_27 rfl (lv_at hl 0 rfl) ?_
        refine r_get F h (i := 0) (k := 3) (.int (o_this.1 3)) inX6 rfl (by decide) w11 rfl rfl rfl dX6_isEnd_28 ?_
        refine lv_icmp_ge (tgt := 77) hx hb dX6_isEnd_31 (by decide) (fun c4 => ?_) (fun c4 => ?_)
        · have hf := ifp hf c4
          exact Xq2_1 _ _ _ _ (itr_x huq2 (sor hf)) h (lv_sub hl [2] rfl)
        · have hf := ifn hf c4
          refine lv_iload_n hx hb dX6_isEnd_34 rfl (lv_at hl 2 rfl) ?_
          obtain ⟨J5, eJ5, hf⟩ := rgn hf
          have JW5 : ∀ (v5 : Int32) (H : Heap) (locs : List Loc) (ls : Array Slot), WD D A s.heap H locs [wX6 K a0 o_this] → lv_has ls 4 [(0, .ref (a0 0)), (1, .int x0), (3, .int z2.2)] → J5 v5 = some uq2 → W P l e (rmS 0 0) s m args below meth c H locs 0 0 (MQ below (QiS D A [wX6 K a0 o_this] r) args s 0 0 A) (F0 m 70 ls [.int v5]) := by
            intro v5 H locs ls h hl hf
            have hf := jof eJ5 hf
            refine lv_istore_n (lv' := [(2, .int v5), (0, .ref (a0 0)), (1, .int x0), (3, .int z2.2)]) hx hb dX6_isEnd_70 rfl hl (by decide) rfl (fun ls hl => ?_)
            obtain ⟨y6, e6⟩ : ∃ y : Int32, y = z2.2 + 1 := ⟨_, rfl⟩
            have hf := ltb hf e6
            refine lv_iinc (v := y6) (lv' := [(3, .int y6), (2, .int v5), (0, .ref (a0 0)), (1, .int x0)]) hx hb dX6_isEnd_71 hl (k := 3) rfl (by rw [e6]; rfl) (by decide) rfl (fun ls hl => ?_)
            refine lv_goto (tgt := 26) hx hb dX6_isEnd_74 (by decide) ?_
            exact ihq2 _ _ _ _ (itr_c huq2 (sor hf)) h (lv_sub hl [2, 3, 1, 0] rfl)
          refine lv_if_ne (tgt := 65) hx hb dX6_isEnd_35 (by decide) (fun c7 => ?_) (fun c7 => ?_)
          · have hf := ifn hf c7
            refine lv_iconst (v := 1) hx hb dX6_isEnd_65 (by decide) ?_
            refine lv_goto (tgt := 70) hx hb dX6_isEnd_66 (by decide) ?_
            exact JW5 1 _ _ _ h (lv_sub hl [0, 1, 3] rfl) (sob hf)
          · have hf := ifp hf c7
            refine lv_aload_n hx hb dX6_isEnd_38 rfl (lv_at hl 0 rfl) ?_
            refine r_get F h (i := 0) (k := 4) (.ref (a0 5)) inX6 rfl (by decide) w12 rfl rfl rfl dX6_isEnd_39 ?_
            refine lv_bipush (v := 6) hx hb dX6_isEnd_42 (by decide) ?_
            refine lv_iload_n hx hb dX6_isEnd_44 rfl (lv_at hl 3 rfl) ?_
            refine lv_imul hx hb dX6_isEnd_45 ?_
            refine lv_iconst (v := 1) hx hb dX6_isEnd_46 (by decide) ?_
            refine lv_iadd hx hb dX6_isEnd_47 ?_
            obtain ⟨g8, hf⟩ := gdb hf
            refine r_iald F h (i := 0) (j := 2) rfl rfl (vin_ok g8) dX6_isEnd_48 ?_
            refine lv_if_ne (tgt := 69) hx hb dX6_isEnd_49 (by decide) (fun c9 => ?_) (fun c9 => ?_)
            · have hf := ifn hf c9
              refine lv_iconst (v := 0) hx hb dX6_isEnd_69 (by decide) ?_
              exact JW5 0 _ _ _ h (lv_sub hl [0, 1, 3] rfl) (sob hf)
            · have hf := ifp hf c9
              refine lv_aload_n hx hb dX6_isEnd_52 rfl (lv_at hl 0 rfl) ?_
              refine r_get F h (i := 0) (k := 4) (.ref (a0 5)) inX6 rfl (by decide) w12 rfl rfl rfl dX6_isEnd_53 ?_
              refine lv_bipush (v := 6) hx hb dX6_isEnd_56 (by decide) ?_
              refine lv_iload_n hx hb dX6_isEnd_58 rfl (lv_at hl 3 rfl) ?_
              refine lv_imul hx hb dX6_isEnd_59 ?_
              obtain ⟨g10, hf⟩ := gdb hf
              refine r_iald F h (i := 0) (j := 2) rfl rfl (vin_ok g10) dX6_isEnd_60 ?_
              refine lv_iload_n hx hb dX6_isEnd_61 rfl (lv_at hl 1 rfl) ?_
              refine lv_icmp_ne (tgt := 69) hx hb dX6_isEnd_62 (by decide) (fun c11 => ?_) (fun c11 => ?_)
              · have hf := ifn hf c11
                refine lv_iconst (v := 0) hx hb dX6_isEnd_69 (by decide) ?_
                exact JW5 0 _ _ _ h (lv_sub hl [0, 1, 3] rfl) (sob hf)
              · have hf := ifp hf c11
                refine lv_iconst (v := 1) hx hb dX6_isEnd_65 (by decide) ?_
                refine lv_goto (tgt := 70) hx hb dX6_isEnd_66 (by decide) ?_
                exact JW5 1 _ _ _ h (lv_sub hl [0, 1, 3] rfl) (sob hf)
    exact Lq2 _ _ _ _ _ hq2 h (lv_sub hl [2, 3, 1, 0] rfl)
  refine lv_icmp_eq (tgt := 18) hx hb dX6_isEnd_5 (by decide) (fun c12 => ?_) (fun c12 => ?_)
  · have hf := ifp hf c12
    refine lv_iconst (v := 1) hx hb dX6_isEnd_18 (by decide) ?_
    refine lv_goto (tgt := 23) hx hb dX6_isEnd_19 (by decide) ?_
    exact JW1 1 _ _ _ h (lv_sub hl [0, 1] rfl) (sob hf)
  · have hf := ifn hf c12
    refine lv_iload_n hx hb dX6_isEnd_8 rfl (lv_at hl 1 rfl) ?_
    refine lv_aload_n hx hb dX6_isEnd_9 rfl (lv_at hl 0 rfl) ?_
    refine r_get F h (i := 0) (k := 0) (.int (o_this.1 0)) inX6 rfl (by decide) w5 rfl rfl rfl dX6_isEnd_10 ?_
    refine lv_iconst (v := 1) hx hb dX6_isEnd_13 (by decide) ?_
    refine lv_iadd hx hb dX6_isEnd_14 ?_
    refine lv_icmp_ne (tgt := 22) hx hb dX6_isEnd_15 (by decide) (fun c13 => ?_) (fun c13 => ?_)
    · have hf := ifn hf c13
      refine lv_iconst (v := 0) hx hb dX6_isEnd_22 (by decide) ?_
      exact JW1 0 _ _ _ h (lv_sub hl [0, 1] rfl) (sob hf)
    · have hf := ifp hf c13
      refine lv_iconst (v := 1) hx hb dX6_isEnd_18 (by decide) ?_
      refine lv_goto (tgt := 23) hx hb dX6_isEnd_19 (by decide) ?_
      exact JW1 1 _ _ _ h (lv_sub hl [0, 1] rfl) (sob hf)
noncomputable def f6_least_L40 (g7 : ob) (z4 : Int32 × Int32) : Option (Nat × (Int32 × Int32)) :=
  (if 13 ≤ z4.2 then (some (1, (z4.1, z4.2))) else ((f6_isEnd z4.2 g7).bind fun q7 => ((if q7 = 0 then (some z4.1) else (gd (vin z4.2 13) <| (if (g7.2 18 z4.2.toNatClampNeg) < 0 then (some z4.1) else (gd (vin z4.2 13) <| (f6_lesser z4.1 (g7.2 18 z4.2.toNatClampNeg)).bind fun q14 => some q14))))).bind fun v8 => lt (z4.2 + 1) fun y9 => some (0, (v8, y9))))
noncomputable def f6_least_L15 (g0 : Int32) (z3 : Int32 × ob) : Option (Nat × (Int32 × ob)) :=
  (if z3.1 < 0 then (some (1, (z3.1, z3.2))) else (gd (vin z3.1 12) <| (f6_reads g0 (z3.2.2 7 z3.1.toNatClampNeg) z3.2).bind fun q17 => lt (z3.1 + (-1)) fun y18 => some (0, (y18, q17))))
noncomputable def f6_least (x0 : Int32) (o_this : ob) : Option (Int32 × ob) :=
  (f6_standsAt (o_this.1 5) o_this).bind fun q1 => lt ((q1.1 6) - 1) fun y2 => (wh (f6_least_L15 x0) (y2, q1)).bind fun q3 => (wh (f6_least_L40 q3.2.2) ((-1), 0)).bind fun q4 => (if 0 ≤ q4.2.1 then (some (q4.2.1, q3.2.2)) else (some ((-4), q3.2.2)))
set_option maxRecDepth 100000 in
set_option maxHeartbeats 4000000 in
theorem c6_least (l : Launch) (D : va_G) (K : Nat → ClassId) (a0 : Nat → Nat) (x0 : Int32) (o_this : ob) (r : Int32 × ob) (hf : f6_least x0 o_this = some r) : CTi l yX6_least cX6_least 4 (some .int) 2 47 D K [.ref (a0 0), .int x0] [wX6 K a0 o_this] [wX6 K a0 r.2] r.1 := by
  unfold f6_least at hf
  have hf := tob hf
  refine entI (by decide) (Nat.le_of_ble_eq_true rfl) (fun P e s m args below meth c A ls F h hl hin => ?_)
  have hx := F.1
  have hb := F.2.1
  have hl : lv_has ls 4 [(0, .ref (a0 0)), (1, .int x0)] := hl
  refine lv_aload_n hx hb dX6_least_0 rfl (lv_at hl 0 rfl) ?_
  refine lv_aload_n hx hb dX6_least_1 rfl (lv_at hl 0 rfl) ?_
  refine r_get F h (i := 0) (k := 5) (.int (o_this.1 5)) inX6 rfl (by decide) w15 rfl rfl rfl dX6_least_2 ?_
  obtain ⟨q1, h1, hf⟩ := asb hf
  refine r_callVv (As := [.int (o_this.1 5)]) (rest := []) (C0 := [wX6 K a0 o_this]) (C1 := [wX6 K a0 q1]) (Rr := []) (S' := [wX6 K a0 q1]) F h hl (c6_standsAt l D K a0 (o_this.1 5) o_this q1 h1) [0] rfl rfl rfl rfl rfl (i := 0) rfl rfl w86 ⟨w87, w88, w89, w2⟩ hsc6_standsAt ⟨Nat.le_of_ble_eq_true rfl, Nat.le_of_ble_eq_true rfl⟩ ⟨Nat.le_refl 0, Nat.le_refl 0⟩ (Nat.le_of_ble_eq_true rfl) dX6_least_5 (fun H locs h => ?_)
  refine lv_aload_n hx hb dX6_least_8 rfl (lv_at hl 0 rfl) ?_
  refine r_get F h (i := 0) (k := 6) (.int (q1.1 6)) inX6 rfl (by decide) w13 rfl rfl rfl dX6_least_9 ?_
  refine lv_iconst (v := 1) hx hb dX6_least_12 (by decide) ?_
  refine lv_isub hx hb dX6_least_13 ?_
  refine lv_topi (fun y2 e2 => ?_)
  have hf := ltb hf e2
  refine lv_istore_n (lv' := [(2, .int y2), (0, .ref (a0 0)), (1, .int x0)]) hx hb dX6_least_14 rfl hl (by decide) rfl (fun ls hl => ?_)
  obtain ⟨q3, hq3, hf⟩ := asb hf
  obtain ⟨nq3, hq3⟩ := wh_out hq3
  have Xq3_1 : ∀ (z3 : Int32 × ob) (H : Heap) (locs : List Loc) (ls : Array Slot), q3 = (1, z3) → WD D A s.heap H locs [wX6 K a0 z3.2] → lv_has ls 4 [(0, .ref (a0 0))] → W P l e (rmS 2 47) s m args below meth c H locs 0 0 (MQ below (QiS D A [wX6 K a0 r.2] r.1) args s 0 0 A) (F0 m 36 ls []) := by
    intro z3 H locs ls eq3 h hl
    obtain rfl : z3 = q3.2 := by rw [eq3]
    refine lv_iconst (v := (-1)) hx hb dX6_least_36 (by decide) ?_
    refine lv_istore_n (lv' := [(2, .int (-1)), (0, .ref (a0 0))]) hx hb dX6_least_37 rfl hl (by decide) rfl (fun ls hl => ?_)
    refine lv_iconst (v := 0) hx hb dX6_least_38 (by decide) ?_
    refine lv_istore_n (lv' := [(3, .int 0), (2, .int (-1)), (0, .ref (a0 0))]) hx hb dX6_least_39 rfl hl (by decide) rfl (fun ls hl => ?_)
    obtain ⟨q4, hq4, hf⟩ := asb hf
    obtain ⟨nq4, hq4⟩ := wh_out hq4
    have Xq4_1 : ∀ (z4 : Int32 × Int32) (H : Heap) (locs : List Loc) (ls : Array Slot), q4 = (1, z4) → WD D A s.heap H locs [wX6 K a0 q3.2.2] → lv_has ls 4 [(2, .int z4.1)] → W P l e (rmS 2 47) s m args below meth c H locs 0 0 (MQ below (QiS D A [wX6 K a0 r.2] r.1) args s 0 0 A) (F0 m 84 ls []) := by
      intro z4 H locs ls eq4 h hl
      obtain rfl : z4 = q4.2 := by rw [eq4]
      refine lv_iload_n hx hb dX6_least_84 rfl (lv_at hl 0 rfl) ?_
      refine lv_if_ge (tgt := 93) hx hb dX6_least_85 (by decide) (fun c5 => ?_) (fun c5 => ?_)
      · have hf := ifp hf c5
        refine lv_iload_n hx hb dX6_least_93 rfl (lv_at hl 0 rfl) ?_
        obtain rfl := sor hf
        exact r_reti F h dX6_least_94
      · have hf := ifn hf c5
        refine lv_bipush (v := (-4)) hx hb dX6_least_88 (by decide) ?_
        refine lv_goto (tgt := 94) hx hb dX6_least_90 (by decide) ?_
        obtain rfl := sor hf
        exact r_reti F h dX6_least_94
    have Lq4 : ∀ (n : Nat) (z4 : Int32 × Int32) (H : Heap) (locs : List Loc) (ls : Array Slot), iter (f6_least_L40 q3.2.2) n z4 = some q4 → WD D A s.heap H locs [wX6 K a0 q3.2.2] → lv_has ls 4 [(0, .ref (a0 0)), (2, .int z4.1), (3, .int z4.2)] → W P l e (rmS 2 47) s m args below meth c H locs 0 0 (MQ below (QiS D A [wX6 K a0 r.2] r.1) args s 0 0 A) (F0 m 40 ls []) := by
      intro n
      induction n with
      | zero => intro z4 H locs ls hi; exact (iter_0 hi).elim
      | succ n ihq4 =>
        intro z4 H locs ls hi h hl
        obtain ⟨uq4, hf, huq4⟩ := iter_s hi
        unfold f6_least_L40 at hf
        have hf := tob hf
        refine lv_iload_n hx hb dX6_least_40 rfl (lv_at hl 2 rfl) ?_
        refine lv_bipush (v := 13) hx hb dX6_least_41 (by decide) ?_
        refine lv_icmp_ge (tgt := 84) hx hb dX6_least_43 (by decide) (fun c6 => ?_) (fun c6 => ?_)
        · have hf := ifp hf c6
          exact Xq4_1 _ _ _ _ (itr_x huq4 (sor hf)) h (lv_sub hl [1] rfl)
        · have hf := ifn hf c6
          refine lv_aload_n hx hb dX6_least_46 rfl (lv_at hl 0 rfl) ?_
          refine lv_iload_n hx hb dX6_least_47 rfl (lv_at hl 2 rfl) ?_
          obtain ⟨q7, h7, hf⟩ := asb hf
          refine r_callVi (As := [.int z4.2]) (rest := []) (C0 := [wX6 K a0 q3.2.2]) (C1 := [wX6 K a0 q3.2.2]) (Rr := []) (S' := [wX6 K a0 q3.2.2]) F h hl (c6_isEnd l D K a0 z4.2 q3.2.2 q7 h7) [0] rfl rfl rfl rfl rfl (i := 0) rfl rfl w102 ⟨w103, w104, w105, w2⟩ hsc6_isEnd ⟨Nat.le_of_ble_eq_true rfl, Nat.le_of_ble_eq_true rfl⟩ ⟨Nat.le_refl 0, Nat.le_refl 0⟩ (Nat.le_of_ble_eq_true rfl) dX6_least_48 (fun H locs h => ?_)
          obtain ⟨J8, eJ8, hf⟩ := rgn hf
          have JW8 : ∀ (v8 : Int32) (H : Heap) (locs : List Loc) (ls : Array Slot), WD D A s.heap H locs [wX6 K a0 q3.2.2] → lv_has ls 4 [(0, .ref (a0 0)), (3, .int z4.2)] → J8 v8 = some uq4 → W P l e (rmS 2 47) s m args below meth c H locs 0 0 (MQ below (QiS D A [wX6 K a0 r.2] r.1) args s 0 0 A) (F0 m 77 ls [.int v8]) := by
            intro v8 H locs ls h hl hf
            have hf := jof eJ8 hf
            refine lv_istore_n (lv' := [(2, .int v8), (0, .ref (a0 0)), (3, .int z4.2)]) hx hb dX6_least_77 rfl hl (by decide) rfl (fun ls hl => ?_)
            obtain ⟨y9, e9⟩ : ∃ y : Int32, y = z4.2 + 1 := ⟨_, rfl⟩
            have hf := ltb hf e9
            refine lv_iinc (v := y9) (lv' := [(3, .int y9), (2, .int v8), (0, .ref (a0 0))]) hx hb dX6_least_78 hl (k := 2) rfl (by rw [e9]; rfl) (by decide) rfl (fun ls hl => ?_)
            refine lv_goto (tgt := 40) hx hb dX6_least_81 (by decide) ?_
            exact ihq4 _ _ _ _ (itr_c huq4 (sor hf)) h (lv_sub hl [2, 1, 0] rfl)
          refine lv_if_eq (tgt := 76) hx hb dX6_least_51 (by decide) (fun c10 => ?_) (fun c10 => ?_)
          · have hf := ifp hf c10
            refine lv_iload_n hx hb dX6_least_76 rfl (lv_at hl 1 rfl) ?_
            exact JW8 z4.1 _ _ _ h (lv_sub hl [0, 2] rfl) (sob hf)
          · have hf := ifn hf c10
            refine lv_aload_n hx hb dX6_least_54 rfl (lv_at hl 0 rfl) ?_
            refine r_get F h (i := 0) (k := 18) (.ref (a0 19)) inX6 rfl (by decide) w77 rfl rfl rfl dX6_least_55 ?_
            refine lv_iload_n hx hb dX6_least_58 rfl (lv_at hl 2 rfl) ?_
            obtain ⟨g11, hf⟩ := gdb hf
            refine r_iald F h (i := 0) (j := 8) rfl rfl (vin_ok g11) dX6_least_59 ?_
            refine lv_if_lt (tgt := 76) hx hb dX6_least_60 (by decide) (fun c12 => ?_) (fun c12 => ?_)
            · have hf := ifp hf c12
              refine lv_iload_n hx hb dX6_least_76 rfl (lv_at hl 1 rfl) ?_
              exact JW8 z4.1 _ _ _ h (lv_sub hl [0, 2] rfl) (sob hf)
            · have hf := ifn hf c12
              refine lv_iload_n hx hb dX6_least_63 rfl (lv_at hl 1 rfl) ?_
              refine lv_aload_n hx hb dX6_least_64 rfl (lv_at hl 0 rfl) ?_
              refine r_get F h (i := 0) (k := 18) (.ref (a0 19)) inX6 rfl (by decide) w77 rfl rfl rfl dX6_least_65 ?_
              refine lv_iload_n hx hb dX6_least_68 rfl (lv_at hl 2 rfl) ?_
              obtain ⟨g13, hf⟩ := gdb hf
              refine r_iald F h (i := 0) (j := 8) rfl rfl (vin_ok g13) dX6_least_69 ?_
              obtain ⟨q14, h14, hf⟩ := asb hf
              refine r_callS (As := [.int z4.1, .int (q3.2.2.2 18 z4.2.toNatClampNeg)]) (rest := []) F h hl (c6_lesser l D K z4.1 (q3.2.2.2 18 z4.2.toNatClampNeg) q14 h14) w85 ⟨w83, w84, w2⟩ hsc6_lesser ⟨Nat.le_of_ble_eq_true rfl, Nat.le_of_ble_eq_true rfl⟩ ⟨Nat.le_refl 0, Nat.le_refl 0⟩ (Nat.le_of_ble_eq_true rfl) dX6_least_70 (fun H locs h => ?_)
              refine lv_goto (tgt := 77) hx hb dX6_least_73 (by decide) ?_
              exact JW8 q14 _ _ _ h (lv_sub hl [0, 2] rfl) (sob hf)
    exact Lq4 _ _ _ _ _ hq4 h (lv_sub hl [2, 1, 0] rfl)
  have Lq3 : ∀ (n : Nat) (z3 : Int32 × ob) (H : Heap) (locs : List Loc) (ls : Array Slot), iter (f6_least_L15 x0) n z3 = some q3 → WD D A s.heap H locs [wX6 K a0 z3.2] → lv_has ls 4 [(0, .ref (a0 0)), (1, .int x0), (2, .int z3.1)] → W P l e (rmS 2 47) s m args below meth c H locs 0 0 (MQ below (QiS D A [wX6 K a0 r.2] r.1) args s 0 0 A) (F0 m 15 ls []) := by
    intro n
    induction n with
    | zero => intro z3 H locs ls hi; exact (iter_0 hi).elim
    | succ n ihq3 =>
      intro z3 H locs ls hi h hl
      obtain ⟨uq3, hf, huq3⟩ := iter_s hi
      unfold f6_least_L15 at hf
      have hf := tob hf
      refine lv_iload_n hx hb dX6_least_15 rfl (lv_at hl 2 rfl) ?_
      refine lv_if_lt (tgt := 36) hx hb dX6_least_16 (by decide) (fun c15 => ?_) (fun c15 => ?_)
      · have hf := ifp hf c15
        exact Xq3_1 _ _ _ _ (itr_x huq3 (sor hf)) h (lv_sub hl [0] rfl)
      · have hf := ifn hf c15
        refine lv_aload_n hx hb dX6_least_19 rfl (lv_at hl 0 rfl) ?_
        refine lv_iload_n hx hb dX6_least_20 rfl (lv_at hl 1 rfl) ?_
        refine lv_aload_n hx hb dX6_least_21 rfl (lv_at hl 0 rfl) ?_
        refine r_get F h (i := 0) (k := 7) (.ref (a0 8)) inX6 rfl (by decide) w14 rfl rfl rfl dX6_least_22 ?_
        refine lv_iload_n hx hb dX6_least_25 rfl (lv_at hl 2 rfl) ?_
        obtain ⟨g16, hf⟩ := gdb hf
        refine r_iald F h (i := 0) (j := 3) rfl rfl (vin_ok g16) dX6_least_26 ?_
        obtain ⟨q17, h17, hf⟩ := asb hf
        refine r_callVv (As := [.int x0, .int (z3.2.2 7 z3.1.toNatClampNeg)]) (rest := []) (C0 := [wX6 K a0 z3.2]) (C1 := [wX6 K a0 q17]) (Rr := []) (S' := [wX6 K a0 q17]) F h hl (c6_reads l D K a0 x0 (z3.2.2 7 z3.1.toNatClampNeg) z3.2 q17 h17) [0] rfl rfl rfl rfl rfl (i := 0) rfl rfl w90 ⟨w91, w92, w93, w2⟩ hsc6_reads ⟨Nat.le_of_ble_eq_true rfl, Nat.le_of_ble_eq_true rfl⟩ ⟨Nat.le_refl 0, Nat.le_refl 0⟩ (Nat.le_of_ble_eq_true rfl) dX6_least_27 (fun H locs h => ?_)
        obtain ⟨y18, e18⟩ : ∃ y : Int32, y = z3.1 + (-1) := ⟨_, rfl⟩
        have hf := ltb hf e18
        refine lv_iinc (v := y18) (lv' := [(2, .int y18), (0, .ref (a0 0)), (1, .int x0)]) hx hb dX6_least_30 hl (k := 2) rfl (by rw [e18]; rfl) (by decide) rfl (fun ls hl => ?_)
        refine lv_goto (tgt := 15) hx hb dX6_least_33 (by decide) ?_
        exact ihq3 _ _ _ _ (itr_c huq3 (sor hf)) h (lv_sub hl [1, 2, 0] rfl)
  exact Lq3 _ _ _ _ _ hq3 h (lv_sub hl [1, 2, 0] rfl)
noncomputable def f6_priceWithout (x0 : Int32) (o_this : ob) : Option (Int32 × ob) :=
  (f6_grows (o_this.1 8) x0 o_this).bind fun q1 => (f6_least (q1.1 8) q1).bind fun q2 => some (q2.1, q2.2)
set_option maxRecDepth 100000 in
set_option maxHeartbeats 4000000 in
theorem c6_priceWithout (l : Launch) (D : va_G) (K : Nat → ClassId) (a0 : Nat → Nat) (x0 : Int32) (o_this : ob) (r : Int32 × ob) (hf : f6_priceWithout x0 o_this = some r) : CTi l yX6_priceWithout cX6_priceWithout 2 (some .int) 4 100 D K [.ref (a0 0), .int x0] [wX6 K a0 o_this] [wX6 K a0 r.2] r.1 := by
  unfold f6_priceWithout at hf
  have hf := tob hf
  refine entI (by decide) (Nat.le_of_ble_eq_true rfl) (fun P e s m args below meth c A ls F h hl hin => ?_)
  have hx := F.1
  have hb := F.2.1
  have hl : lv_has ls 2 [(0, .ref (a0 0)), (1, .int x0)] := hl
  refine lv_aload_n hx hb dX6_priceWithout_0 rfl (lv_at hl 0 rfl) ?_
  refine lv_aload_n hx hb dX6_priceWithout_1 rfl (lv_at hl 0 rfl) ?_
  refine r_get F h (i := 0) (k := 8) (.int (o_this.1 8)) inX6 rfl (by decide) w29 rfl rfl rfl dX6_priceWithout_2 ?_
  refine lv_iload_n hx hb dX6_priceWithout_5 rfl (lv_at hl 1 rfl) ?_
  obtain ⟨q1, h1, hf⟩ := asb hf
  refine r_callVv (As := [.int (o_this.1 8), .int x0]) (rest := []) (C0 := [wX6 K a0 o_this]) (C1 := [wX6 K a0 q1]) (Rr := []) (S' := [wX6 K a0 q1]) F h hl (c6_grows l D K a0 (o_this.1 8) x0 o_this q1 h1) [0] rfl rfl rfl rfl rfl (i := 0) rfl rfl w106 ⟨w107, w108, w109, w2⟩ hsc6_grows ⟨Nat.le_of_ble_eq_true rfl, Nat.le_of_ble_eq_true rfl⟩ ⟨Nat.le_refl 0, Nat.le_refl 0⟩ (Nat.le_of_ble_eq_true rfl) dX6_priceWithout_6 (fun H locs h => ?_)
  refine lv_aload_n hx hb dX6_priceWithout_9 rfl (lv_at hl 0 rfl) ?_
  refine lv_aload_n hx hb dX6_priceWithout_10 rfl (lv_at hl 0 rfl) ?_
  refine r_get F h (i := 0) (k := 8) (.int (q1.1 8)) inX6 rfl (by decide) w29 rfl rfl rfl dX6_priceWithout_11 ?_
  obtain ⟨q2, h2, hf⟩ := asb hf
  refine r_callVi (As := [.int (q1.1 8)]) (rest := []) (C0 := [wX6 K a0 q1]) (C1 := [wX6 K a0 q2.2]) (Rr := []) (S' := [wX6 K a0 q2.2]) F h hl (c6_least l D K a0 (q1.1 8) q1 q2 h2) [0] rfl rfl rfl rfl rfl (i := 0) rfl rfl w110 ⟨w111, w112, w113, w2⟩ hsc6_least ⟨Nat.le_of_ble_eq_true rfl, Nat.le_of_ble_eq_true rfl⟩ ⟨Nat.le_refl 0, Nat.le_refl 0⟩ (Nat.le_of_ble_eq_true rfl) dX6_priceWithout_14 (fun H locs h => ?_)
  obtain rfl := sor hf
  exact r_reti F h dX6_priceWithout_17
noncomputable def f6_price (o_this : ob) : Option (Int32 × ob) :=
  (f6_priceWithout (-4) o_this).bind fun q1 => some (q1.1, q1.2)
set_option maxRecDepth 100000 in
set_option maxHeartbeats 4000000 in
theorem c6_price (l : Launch) (D : va_G) (K : Nat → ClassId) (a0 : Nat → Nat) (o_this : ob) (r : Int32 × ob) (hf : f6_price o_this = some r) : CTi l yX6_price cX6_price 1 (some .int) 5 121 D K [.ref (a0 0)] [wX6 K a0 o_this] [wX6 K a0 r.2] r.1 := by
  unfold f6_price at hf
  have hf := tob hf
  refine entI (by decide) (Nat.le_of_ble_eq_true rfl) (fun P e s m args below meth c A ls F h hl hin => ?_)
  have hx := F.1
  have hb := F.2.1
  have hl : lv_has ls 1 [(0, .ref (a0 0))] := hl
  refine lv_aload_n hx hb dX6_price_0 rfl (lv_at hl 0 rfl) ?_
  refine lv_bipush (v := (-4)) hx hb dX6_price_1 (by decide) ?_
  obtain ⟨q1, h1, hf⟩ := asb hf
  refine r_callVi (As := [.int (-4)]) (rest := []) (C0 := [wX6 K a0 o_this]) (C1 := [wX6 K a0 q1.2]) (Rr := []) (S' := [wX6 K a0 q1.2]) F h hl (c6_priceWithout l D K a0 (-4) o_this q1 h1) [0] rfl rfl rfl rfl rfl (i := 0) rfl rfl w114 ⟨w115, w116, w117, w2⟩ hsc6_priceWithout ⟨Nat.le_of_ble_eq_true rfl, Nat.le_of_ble_eq_true rfl⟩ ⟨Nat.le_refl 0, Nat.le_refl 0⟩ (Nat.le_of_ble_eq_true rfl) dX6_price_3 (fun H locs h => ?_)
  obtain rfl := sor hf
  exact r_reti F h dX6_price_6
noncomputable def f6_edge (x0 : Int32) (x1 : Int32) (x2 : Int32) (o_this : ob) : Option (Int32 × ob) :=
  (f6_begins o_this).bind fun q1 => (f6_in x0 0 ((q1.1 15) - 1)).bind fun q2 => (if q2 = 0 then (some ((-1), q1)) else ((f6_isLetter x1).bind fun q4 => (if q4 = 0 then (some ((-1), q1)) else ((f6_in x2 0 ((q1.1 15) - 1)).bind fun q6 => (if q6 = 0 then (some ((-1), q1)) else ((f6_grows (q1.1 8) (-4) q1).bind fun q8 => (f6_place x0 x1 x2).bind fun q9 => gd (vin q9 676) <| lt (q8.2 13 q9.toNatClampNeg) fun y11 => (if 0 ≤ y11 then (some (y11, q8)) else (some ((-4), q8)))))))))
set_option maxRecDepth 100000 in
set_option maxHeartbeats 4000000 in
theorem c6_edge (l : Launch) (D : va_G) (K : Nat → ClassId) (a0 : Nat → Nat) (x0 : Int32) (x1 : Int32) (x2 : Int32) (o_this : ob) (r : Int32 × ob) (hf : f6_edge x0 x1 x2 o_this = some r) : CTi l yX6_edge cX6_edge 5 (some .int) 4 100 D K [.ref (a0 0), .int x0, .int x1, .int x2] [wX6 K a0 o_this] [wX6 K a0 r.2] r.1 := by
  unfold f6_edge at hf
  have hf := tob hf
  refine entI (by decide) (Nat.le_of_ble_eq_true rfl) (fun P e s m args below meth c A ls F h hl hin => ?_)
  have hx := F.1
  have hb := F.2.1
  have hl : lv_has ls 5 [(0, .ref (a0 0)), (1, .int x0), (2, .int x1), (3, .int x2)] := hl
  refine lv_aload_n hx hb dX6_edge_0 rfl (lv_at hl 0 rfl) ?_
  obtain ⟨q1, h1, hf⟩ := asb hf
  refine r_callVv (As := []) (rest := []) (C0 := [wX6 K a0 o_this]) (C1 := [wX6 K a0 q1]) (Rr := []) (S' := [wX6 K a0 q1]) F h hl (c6_begins l D K a0 o_this q1 h1) [0] rfl rfl rfl rfl rfl (i := 0) rfl rfl w94 ⟨w95, w96, w97, w2⟩ hsc6_begins ⟨Nat.le_of_ble_eq_true rfl, Nat.le_of_ble_eq_true rfl⟩ ⟨Nat.le_refl 0, Nat.le_refl 0⟩ (Nat.le_of_ble_eq_true rfl) dX6_edge_1 (fun H locs h => ?_)
  refine lv_iload_n hx hb dX6_edge_4 rfl (lv_at hl 1 rfl) ?_
  refine lv_iconst (v := 0) hx hb dX6_edge_5 (by decide) ?_
  refine lv_aload_n hx hb dX6_edge_6 rfl (lv_at hl 0 rfl) ?_
  refine r_get F h (i := 0) (k := 15) (.int (q1.1 15)) inX6 rfl (by decide) w66 rfl rfl rfl dX6_edge_7 ?_
  refine lv_iconst (v := 1) hx hb dX6_edge_10 (by decide) ?_
  refine lv_isub hx hb dX6_edge_11 ?_
  obtain ⟨q2, h2, hf⟩ := asb hf
  refine r_callS (As := [.int x0, .int 0, .int ((q1.1 15) - 1)]) (rest := []) F h hl (c6_in l D K x0 0 ((q1.1 15) - 1) q2 h2) w3 ⟨w0, w1, w2⟩ hsc6_in ⟨Nat.le_of_ble_eq_true rfl, Nat.le_of_ble_eq_true rfl⟩ ⟨Nat.le_refl 0, Nat.le_refl 0⟩ (Nat.le_of_ble_eq_true rfl) dX6_edge_12 (fun H locs h => ?_)
  refine lv_if_eq (tgt := 39) hx hb dX6_edge_15 (by decide) (fun c3 => ?_) (fun c3 => ?_)
  · have hf := ifp hf c3
    refine lv_iconst (v := (-1)) hx hb dX6_edge_39 (by decide) ?_
    obtain rfl := sor hf
    exact r_reti F h dX6_edge_40
  · have hf := ifn hf c3
    refine lv_iload_n hx hb dX6_edge_18 rfl (lv_at hl 2 rfl) ?_
    obtain ⟨q4, h4, hf⟩ := asb hf
    refine r_callS (As := [.int x1]) (rest := []) F h hl (c6_isLetter l D K x1 q4 h4) w22 ⟨w20, w21, w2⟩ hsc6_isLetter ⟨Nat.le_of_ble_eq_true rfl, Nat.le_of_ble_eq_true rfl⟩ ⟨Nat.le_refl 0, Nat.le_refl 0⟩ (Nat.le_of_ble_eq_true rfl) dX6_edge_19 (fun H locs h => ?_)
    refine lv_if_eq (tgt := 39) hx hb dX6_edge_22 (by decide) (fun c5 => ?_) (fun c5 => ?_)
    · have hf := ifp hf c5
      refine lv_iconst (v := (-1)) hx hb dX6_edge_39 (by decide) ?_
      obtain rfl := sor hf
      exact r_reti F h dX6_edge_40
    · have hf := ifn hf c5
      refine lv_iload_n hx hb dX6_edge_25 rfl (lv_at hl 3 rfl) ?_
      refine lv_iconst (v := 0) hx hb dX6_edge_26 (by decide) ?_
      refine lv_aload_n hx hb dX6_edge_27 rfl (lv_at hl 0 rfl) ?_
      refine r_get F h (i := 0) (k := 15) (.int (q1.1 15)) inX6 rfl (by decide) w66 rfl rfl rfl dX6_edge_28 ?_
      refine lv_iconst (v := 1) hx hb dX6_edge_31 (by decide) ?_
      refine lv_isub hx hb dX6_edge_32 ?_
      obtain ⟨q6, h6, hf⟩ := asb hf
      refine r_callS (As := [.int x2, .int 0, .int ((q1.1 15) - 1)]) (rest := []) F h hl (c6_in l D K x2 0 ((q1.1 15) - 1) q6 h6) w3 ⟨w0, w1, w2⟩ hsc6_in ⟨Nat.le_of_ble_eq_true rfl, Nat.le_of_ble_eq_true rfl⟩ ⟨Nat.le_refl 0, Nat.le_refl 0⟩ (Nat.le_of_ble_eq_true rfl) dX6_edge_33 (fun H locs h => ?_)
      refine lv_if_ne (tgt := 41) hx hb dX6_edge_36 (by decide) (fun c7 => ?_) (fun c7 => ?_)
      · have hf := ifn hf c7
        refine lv_aload_n hx hb dX6_edge_41 rfl (lv_at hl 0 rfl) ?_
        refine lv_aload_n hx hb dX6_edge_42 rfl (lv_at hl 0 rfl) ?_
        refine r_get F h (i := 0) (k := 8) (.int (q1.1 8)) inX6 rfl (by decide) w29 rfl rfl rfl dX6_edge_43 ?_
        refine lv_bipush (v := (-4)) hx hb dX6_edge_46 (by decide) ?_
        obtain ⟨q8, h8, hf⟩ := asb hf
        refine r_callVv (As := [.int (q1.1 8), .int (-4)]) (rest := []) (C0 := [wX6 K a0 q1]) (C1 := [wX6 K a0 q8]) (Rr := []) (S' := [wX6 K a0 q8]) F h hl (c6_grows l D K a0 (q1.1 8) (-4) q1 q8 h8) [0] rfl rfl rfl rfl rfl (i := 0) rfl rfl w106 ⟨w107, w108, w109, w2⟩ hsc6_grows ⟨Nat.le_of_ble_eq_true rfl, Nat.le_of_ble_eq_true rfl⟩ ⟨Nat.le_refl 0, Nat.le_refl 0⟩ (Nat.le_of_ble_eq_true rfl) dX6_edge_48 (fun H locs h => ?_)
        refine lv_aload_n hx hb dX6_edge_51 rfl (lv_at hl 0 rfl) ?_
        refine r_get F h (i := 0) (k := 13) (.ref (a0 14)) inX6 rfl (by decide) w62 rfl rfl rfl dX6_edge_52 ?_
        refine lv_iload_n hx hb dX6_edge_55 rfl (lv_at hl 1 rfl) ?_
        refine lv_iload_n hx hb dX6_edge_56 rfl (lv_at hl 2 rfl) ?_
        refine lv_iload_n hx hb dX6_edge_57 rfl (lv_at hl 3 rfl) ?_
        obtain ⟨q9, h9, hf⟩ := asb hf
        refine r_callS (As := [.int x0, .int x1, .int x2]) (rest := [.ref (a0 14)]) F h hl (c6_place l D K x0 x1 x2 q9 h9) w65 ⟨w63, w64, w2⟩ hsc6_place ⟨Nat.le_of_ble_eq_true rfl, Nat.le_of_ble_eq_true rfl⟩ ⟨Nat.le_refl 0, Nat.le_refl 0⟩ (Nat.le_of_ble_eq_true rfl) dX6_edge_58 (fun H locs h => ?_)
        obtain ⟨g10, hf⟩ := gdb hf
        refine r_iald F h (i := 0) (j := 6) rfl rfl (vin_ok g10) dX6_edge_61 ?_
        refine lv_topi (fun y11 e11 => ?_)
        have hf := ltb hf e11
        refine lv_istore (lv' := [(4, .int y11), (0, .ref (a0 0)), (1, .int x0), (2, .int x1), (3, .int x2)]) hx hb dX6_edge_62 hl (by decide) rfl (fun ls hl => ?_)
        refine lv_iload hx hb dX6_edge_64 (lv_at hl 0 rfl) ?_
        refine lv_if_ge (tgt := 74) hx hb dX6_edge_66 (by decide) (fun c12 => ?_) (fun c12 => ?_)
        · have hf := ifp hf c12
          refine lv_iload hx hb dX6_edge_74 (lv_at hl 0 rfl) ?_
          obtain rfl := sor hf
          exact r_reti F h dX6_edge_76
        · have hf := ifn hf c12
          refine lv_bipush (v := (-4)) hx hb dX6_edge_69 (by decide) ?_
          refine lv_goto (tgt := 76) hx hb dX6_edge_71 (by decide) ?_
          obtain rfl := sor hf
          exact r_reti F h dX6_edge_76
      · have hf := ifp hf c7
        refine lv_iconst (v := (-1)) hx hb dX6_edge_39 (by decide) ?_
        obtain rfl := sor hf
        exact r_reti F h dX6_edge_40
noncomputable def f6_automaton (x0 : Int32) (o_this : ob) : Option (Int32 × ob) :=
  (f6_in x0 0 3).bind fun q1 => (if q1 = 0 then (some ((-1), o_this)) else ((f6_grows (o_this.1 8) (-4) o_this).bind fun q3 => (if x0 = 0 then (some (q3.1 15, q3)) else ((if x0 = 1 then (some (q3.1 16, q3)) else ((if x0 = 2 then ((f6_edges q3).bind fun q7 => some (q7, q3)) else (some (q3.1 17, q3)))))))))
set_option maxRecDepth 100000 in
set_option maxHeartbeats 4000000 in
theorem c6_automaton (l : Launch) (D : va_G) (K : Nat → ClassId) (a0 : Nat → Nat) (x0 : Int32) (o_this : ob) (r : Int32 × ob) (hf : f6_automaton x0 o_this = some r) : CTi l yX6_automaton cX6_automaton 2 (some .int) 4 100 D K [.ref (a0 0), .int x0] [wX6 K a0 o_this] [wX6 K a0 r.2] r.1 := by
  unfold f6_automaton at hf
  have hf := tob hf
  refine entI (by decide) (Nat.le_of_ble_eq_true rfl) (fun P e s m args below meth c A ls F h hl hin => ?_)
  have hx := F.1
  have hb := F.2.1
  have hl : lv_has ls 2 [(0, .ref (a0 0)), (1, .int x0)] := hl
  refine lv_iload_n hx hb dX6_automaton_0 rfl (lv_at hl 1 rfl) ?_
  refine lv_iconst (v := 0) hx hb dX6_automaton_1 (by decide) ?_
  refine lv_iconst (v := 3) hx hb dX6_automaton_2 (by decide) ?_
  obtain ⟨q1, h1, hf⟩ := asb hf
  refine r_callS (As := [.int x0, .int 0, .int 3]) (rest := []) F h hl (c6_in l D K x0 0 3 q1 h1) w3 ⟨w0, w1, w2⟩ hsc6_in ⟨Nat.le_of_ble_eq_true rfl, Nat.le_of_ble_eq_true rfl⟩ ⟨Nat.le_refl 0, Nat.le_refl 0⟩ (Nat.le_of_ble_eq_true rfl) dX6_automaton_3 (fun H locs h => ?_)
  refine lv_if_ne (tgt := 11) hx hb dX6_automaton_6 (by decide) (fun c2 => ?_) (fun c2 => ?_)
  · have hf := ifn hf c2
    refine lv_aload_n hx hb dX6_automaton_11 rfl (lv_at hl 0 rfl) ?_
    refine lv_aload_n hx hb dX6_automaton_12 rfl (lv_at hl 0 rfl) ?_
    refine r_get F h (i := 0) (k := 8) (.int (o_this.1 8)) inX6 rfl (by decide) w29 rfl rfl rfl dX6_automaton_13 ?_
    refine lv_bipush (v := (-4)) hx hb dX6_automaton_16 (by decide) ?_
    obtain ⟨q3, h3, hf⟩ := asb hf
    refine r_callVv (As := [.int (o_this.1 8), .int (-4)]) (rest := []) (C0 := [wX6 K a0 o_this]) (C1 := [wX6 K a0 q3]) (Rr := []) (S' := [wX6 K a0 q3]) F h hl (c6_grows l D K a0 (o_this.1 8) (-4) o_this q3 h3) [0] rfl rfl rfl rfl rfl (i := 0) rfl rfl w106 ⟨w107, w108, w109, w2⟩ hsc6_grows ⟨Nat.le_of_ble_eq_true rfl, Nat.le_of_ble_eq_true rfl⟩ ⟨Nat.le_refl 0, Nat.le_refl 0⟩ (Nat.le_of_ble_eq_true rfl) dX6_automaton_18 (fun H locs h => ?_)
    refine lv_iload_n hx hb dX6_automaton_21 rfl (lv_at hl 1 rfl) ?_
    refine lv_if_ne (tgt := 32) hx hb dX6_automaton_22 (by decide) (fun c4 => ?_) (fun c4 => ?_)
    · have hf := ifn hf c4
      refine lv_iload_n hx hb dX6_automaton_32 rfl (lv_at hl 1 rfl) ?_
      refine lv_iconst (v := 1) hx hb dX6_automaton_33 (by decide) ?_
      refine lv_icmp_ne (tgt := 44) hx hb dX6_automaton_34 (by decide) (fun c5 => ?_) (fun c5 => ?_)
      · have hf := ifn hf c5
        refine lv_iload_n hx hb dX6_automaton_44 rfl (lv_at hl 1 rfl) ?_
        refine lv_iconst (v := 2) hx hb dX6_automaton_45 (by decide) ?_
        refine lv_icmp_ne (tgt := 56) hx hb dX6_automaton_46 (by decide) (fun c6 => ?_) (fun c6 => ?_)
        · have hf := ifn hf c6
          refine lv_aload_n hx hb dX6_automaton_56 rfl (lv_at hl 0 rfl) ?_
          refine r_get F h (i := 0) (k := 17) (.int (q3.1 17)) inX6 rfl (by decide) w68 rfl rfl rfl dX6_automaton_57 ?_
          obtain rfl := sor hf
          exact r_reti F h dX6_automaton_60
        · have hf := ifp hf c6
          refine lv_aload_n hx hb dX6_automaton_49 rfl (lv_at hl 0 rfl) ?_
          obtain ⟨q7, h7, hf⟩ := asb hf
          refine r_callVi (As := []) (rest := []) (C0 := [wX6 K a0 q3]) (C1 := [wX6 K a0 q3]) (Rr := []) (S' := [wX6 K a0 q3]) F h hl (c6_edges l D K a0 q3 q7 h7) [0] rfl rfl rfl rfl rfl (i := 0) rfl rfl w69 ⟨w70, w71, w72, w2⟩ hsc6_edges ⟨Nat.le_of_ble_eq_true rfl, Nat.le_of_ble_eq_true rfl⟩ ⟨Nat.le_refl 0, Nat.le_refl 0⟩ (Nat.le_of_ble_eq_true rfl) dX6_automaton_50 (fun H locs h => ?_)
          refine lv_goto (tgt := 60) hx hb dX6_automaton_53 (by decide) ?_
          obtain rfl := sor hf
          exact r_reti F h dX6_automaton_60
      · have hf := ifp hf c5
        refine lv_aload_n hx hb dX6_automaton_37 rfl (lv_at hl 0 rfl) ?_
        refine r_get F h (i := 0) (k := 16) (.int (q3.1 16)) inX6 rfl (by decide) w67 rfl rfl rfl dX6_automaton_38 ?_
        refine lv_goto (tgt := 60) hx hb dX6_automaton_41 (by decide) ?_
        obtain rfl := sor hf
        exact r_reti F h dX6_automaton_60
    · have hf := ifp hf c4
      refine lv_aload_n hx hb dX6_automaton_25 rfl (lv_at hl 0 rfl) ?_
      refine r_get F h (i := 0) (k := 15) (.int (q3.1 15)) inX6 rfl (by decide) w66 rfl rfl rfl dX6_automaton_26 ?_
      refine lv_goto (tgt := 60) hx hb dX6_automaton_29 (by decide) ?_
      obtain rfl := sor hf
      exact r_reti F h dX6_automaton_60
  · have hf := ifp hf c2
    refine lv_iconst (v := (-1)) hx hb dX6_automaton_9 (by decide) ?_
    obtain rfl := sor hf
    exact r_reti F h dX6_automaton_10
noncomputable def f6_needed_L13 (z3 : Int32 × Int32 × ob) : Option (Nat × (Int32 × Int32 × ob)) :=
  (if (z3.2.2.1 1) ≤ z3.2.1 then (some (1, (z3.1, z3.2.1, z3.2.2))) else ((f6_priceWithout z3.2.1 z3.2.2).bind fun q5 => ((if q5.1 = (-4) then (some (1 <<< (z3.2.1 &&& 31))) else (some 0))).bind fun v6 => lt (z3.1 ||| v6) fun y7 => lt (z3.2.1 + 1) fun y8 => some (0, (y7, y8, q5.2))))
noncomputable def f6_needed (o_this : ob) : Option (Int32 × ob) :=
  (f6_price o_this).bind fun q1 => (if q1.1 = (-4) then (some (0, q1.2)) else ((wh f6_needed_L13 (0, 0, q1.2)).bind fun q3 => some (q3.2.1, q3.2.2.2)))
set_option maxRecDepth 100000 in
set_option maxHeartbeats 4000000 in
theorem c6_needed (l : Launch) (D : va_G) (K : Nat → ClassId) (a0 : Nat → Nat) (o_this : ob) (r : Int32 × ob) (hf : f6_needed o_this = some r) : CTi l yX6_needed cX6_needed 3 (some .int) 6 141 D K [.ref (a0 0)] [wX6 K a0 o_this] [wX6 K a0 r.2] r.1 := by
  unfold f6_needed at hf
  have hf := tob hf
  refine entI (by decide) (Nat.le_of_ble_eq_true rfl) (fun P e s m args below meth c A ls F h hl hin => ?_)
  have hx := F.1
  have hb := F.2.1
  have hl : lv_has ls 3 [(0, .ref (a0 0))] := hl
  refine lv_iconst (v := 0) hx hb dX6_needed_0 (by decide) ?_
  refine lv_istore_n (lv' := [(1, .int 0), (0, .ref (a0 0))]) hx hb dX6_needed_1 rfl hl (by decide) rfl (fun ls hl => ?_)
  refine lv_aload_n hx hb dX6_needed_2 rfl (lv_at hl 1 rfl) ?_
  obtain ⟨q1, h1, hf⟩ := asb hf
  refine r_callVi (As := []) (rest := []) (C0 := [wX6 K a0 o_this]) (C1 := [wX6 K a0 q1.2]) (Rr := []) (S' := [wX6 K a0 q1.2]) F h hl (c6_price l D K a0 o_this q1 h1) [0] rfl rfl rfl rfl rfl (i := 0) rfl rfl w118 ⟨w119, w120, w121, w2⟩ hsc6_price ⟨Nat.le_of_ble_eq_true rfl, Nat.le_of_ble_eq_true rfl⟩ ⟨Nat.le_refl 0, Nat.le_refl 0⟩ (Nat.le_of_ble_eq_true rfl) dX6_needed_3 (fun H locs h => ?_)
  refine lv_bipush (v := (-4)) hx hb dX6_needed_6 (by decide) ?_
  refine lv_icmp_eq (tgt := 47) hx hb dX6_needed_8 (by decide) (fun c2 => ?_) (fun c2 => ?_)
  · have hf := ifp hf c2
    refine lv_iload_n hx hb dX6_needed_47 rfl (lv_at hl 0 rfl) ?_
    obtain rfl := sor hf
    exact r_reti F h dX6_needed_48
  · have hf := ifn hf c2
    refine lv_iconst (v := 0) hx hb dX6_needed_11 (by decide) ?_
    refine lv_istore_n (lv' := [(2, .int 0), (1, .int 0), (0, .ref (a0 0))]) hx hb dX6_needed_12 rfl hl (by decide) rfl (fun ls hl => ?_)
    obtain ⟨q3, hq3, hf⟩ := asb hf
    obtain ⟨nq3, hq3⟩ := wh_out hq3
    have Xq3_1 : ∀ (z3 : Int32 × Int32 × ob) (H : Heap) (locs : List Loc) (ls : Array Slot), q3 = (1, z3) → WD D A s.heap H locs [wX6 K a0 z3.2.2] → lv_has ls 3 [(1, .int z3.1)] → W P l e (rmS 6 141) s m args below meth c H locs 0 0 (MQ below (QiS D A [wX6 K a0 r.2] r.1) args s 0 0 A) (F0 m 47 ls []) := by
      intro z3 H locs ls eq3 h hl
      obtain rfl : z3 = q3.2 := by rw [eq3]
      refine lv_iload_n hx hb dX6_needed_47 rfl (lv_at hl 0 rfl) ?_
      obtain rfl := sor hf
      exact r_reti F h dX6_needed_48
    have Lq3 : ∀ (n : Nat) (z3 : Int32 × Int32 × ob) (H : Heap) (locs : List Loc) (ls : Array Slot), iter f6_needed_L13 n z3 = some q3 → WD D A s.heap H locs [wX6 K a0 z3.2.2] → lv_has ls 3 [(0, .ref (a0 0)), (1, .int z3.1), (2, .int z3.2.1)] → W P l e (rmS 6 141) s m args below meth c H locs 0 0 (MQ below (QiS D A [wX6 K a0 r.2] r.1) args s 0 0 A) (F0 m 13 ls []) := by
      intro n
      induction n with
      | zero => intro z3 H locs ls hi; exact (iter_0 hi).elim
      | succ n ihq3 =>
        intro z3 H locs ls hi h hl
        obtain ⟨uq3, hf, huq3⟩ := iter_s hi
        unfold f6_needed_L13 at hf
        have hf := tob hf
        refine lv_iload_n hx hb dX6_needed_13 rfl (lv_at hl 2 rfl) ?_
        refine lv_aload_n hx hb dX6_needed_14 rfl (lv_at hl 0 rfl) ?_
        refine r_get F h (i := 0) (k := 1) (.int (z3.2.2.1 1)) inX6 rfl (by decide) w4 rfl rfl rfl dX6_needed_15 ?_
        refine lv_icmp_ge (tgt := 47) hx hb dX6_needed_18 (by decide) (fun c4 => ?_) (fun c4 => ?_)
        · have hf := ifp hf c4
          exact Xq3_1 _ _ _ _ (itr_x huq3 (sor hf)) h (lv_sub hl [1] rfl)
        · have hf := ifn hf c4
          refine lv_iload_n hx hb dX6_needed_21 rfl (lv_at hl 1 rfl) ?_
          refine lv_aload_n hx hb dX6_needed_22 rfl (lv_at hl 0 rfl) ?_
          refine lv_iload_n hx hb dX6_needed_23 rfl (lv_at hl 2 rfl) ?_
          obtain ⟨q5, h5, hf⟩ := asb hf
          refine r_callVi (As := [.int z3.2.1]) (rest := [.int z3.1]) (C0 := [wX6 K a0 z3.2.2]) (C1 := [wX6 K a0 q5.2]) (Rr := []) (S' := [wX6 K a0 q5.2]) F h hl (c6_priceWithout l D K a0 z3.2.1 z3.2.2 q5 h5) [0] rfl rfl rfl rfl rfl (i := 0) rfl rfl w114 ⟨w115, w116, w117, w2⟩ hsc6_priceWithout ⟨Nat.le_of_ble_eq_true rfl, Nat.le_of_ble_eq_true rfl⟩ ⟨Nat.le_refl 0, Nat.le_refl 0⟩ (Nat.le_of_ble_eq_true rfl) dX6_needed_24 (fun H locs h => ?_)
          refine lv_bipush (v := (-4)) hx hb dX6_needed_27 (by decide) ?_
          obtain ⟨J6, eJ6, hf⟩ := rgn hf
          have JW6 : ∀ (v6 : Int32) (H : Heap) (locs : List Loc) (ls : Array Slot), WD D A s.heap H locs [wX6 K a0 q5.2] → lv_has ls 3 [(0, .ref (a0 0)), (2, .int z3.2.1)] → J6 v6 = some uq3 → W P l e (rmS 6 141) s m args below meth c H locs 0 0 (MQ below (QiS D A [wX6 K a0 r.2] r.1) args s 0 0 A) (F0 m 39 ls [.int v6, .int z3.1]) := by
            intro v6 H locs ls h hl hf
            have hf := jof eJ6 hf
            refine lv_ior hx hb dX6_needed_39 ?_
            refine lv_topi (fun y7 e7 => ?_)
            have hf := ltb hf e7
            refine lv_istore_n (lv' := [(1, .int y7), (0, .ref (a0 0)), (2, .int z3.2.1)]) hx hb dX6_needed_40 rfl hl (by decide) rfl (fun ls hl => ?_)
            obtain ⟨y8, e8⟩ : ∃ y : Int32, y = z3.2.1 + 1 := ⟨_, rfl⟩
            have hf := ltb hf e8
            refine lv_iinc (v := y8) (lv' := [(2, .int y8), (1, .int y7), (0, .ref (a0 0))]) hx hb dX6_needed_41 hl (k := 2) rfl (by rw [e8]; rfl) (by decide) rfl (fun ls hl => ?_)
            refine lv_goto (tgt := 13) hx hb dX6_needed_44 (by decide) ?_
            exact ihq3 _ _ _ _ (itr_c huq3 (sor hf)) h (lv_sub hl [2, 1, 0] rfl)
          refine lv_icmp_ne (tgt := 38) hx hb dX6_needed_29 (by decide) (fun c9 => ?_) (fun c9 => ?_)
          · have hf := ifn hf c9
            refine lv_iconst (v := 0) hx hb dX6_needed_38 (by decide) ?_
            exact JW6 0 _ _ _ h (lv_sub hl [0, 2] rfl) (sob hf)
          · have hf := ifp hf c9
            refine lv_iconst (v := 1) hx hb dX6_needed_32 (by decide) ?_
            refine lv_iload_n hx hb dX6_needed_33 rfl (lv_at hl 2 rfl) ?_
            refine lv_ishl hx hb dX6_needed_34 ?_
            refine lv_goto (tgt := 39) hx hb dX6_needed_35 (by decide) ?_
            exact JW6 (1 <<< (z3.2.1 &&& 31)) _ _ _ h (lv_sub hl [0, 2] rfl) (sob hf)
    exact Lq3 _ _ _ _ _ hq3 h (lv_sub hl [2, 1, 0] rfl)
noncomputable def f6_dear_L55 (g0 : Int32) (g3 : Int32) (g5 : Int32) (z9 : Int32 × ob) : Option (Nat × (Int32 × ob)) :=
  (if z9.1 ≤ g5 then (some (1, (z9.1, z9.2))) else ((f6_price z9.2).bind fun q13 => (if q13.1 = g3 then (some (1, (z9.1, q13.2))) else (lt (z9.1 + (-1)) fun y15 => gd (vin ((7 * g0) + 6) 70) <| lt (sA q13.2 2 ((7 * g0) + 6).toNatClampNeg y15) fun t17 => some (0, (y15, t17))))))
noncomputable def f6_dear (x0 : Int32) (o_this : ob) : Option (Int32 × ob) :=
  (f6_isRule x0 o_this).bind fun q1 => (if q1 = 0 then (some ((-1), o_this)) else ((f6_price o_this).bind fun q3 => (if q3.1 = (-4) then (some ((-4), q3.2)) else (gd (vin ((7 * x0) + 6) 70) <| lt (q3.2.2 2 ((7 * x0) + 6).toNatClampNeg) fun y6 => gd (vin ((7 * x0) + 6) 70) <| lt (sA q3.2 2 ((7 * x0) + 6).toNatClampNeg 9) fun t8 => (wh (f6_dear_L55 x0 q3.1 y6) (9, t8)).bind fun q9 => gd (vin ((7 * x0) + 6) 70) <| lt (sA q9.2.2 2 ((7 * x0) + 6).toNatClampNeg y6) fun t11 => some (q9.2.1, t11)))))
set_option maxRecDepth 100000 in
set_option maxHeartbeats 4000000 in
theorem c6_dear (l : Launch) (D : va_G) (K : Nat → ClassId) (a0 : Nat → Nat) (x0 : Int32) (o_this : ob) (r : Int32 × ob) (hf : f6_dear x0 o_this = some r) : CTi l yX6_dear cX6_dear 5 (some .int) 6 141 D K [.ref (a0 0), .int x0] [wX6 K a0 o_this] [wX6 K a0 r.2] r.1 := by
  unfold f6_dear at hf
  have hf := tob hf
  refine entI (by decide) (Nat.le_of_ble_eq_true rfl) (fun P e s m args below meth c A ls F h hl hin => ?_)
  have hx := F.1
  have hb := F.2.1
  have hl : lv_has ls 5 [(0, .ref (a0 0)), (1, .int x0)] := hl
  refine lv_aload_n hx hb dX6_dear_0 rfl (lv_at hl 0 rfl) ?_
  refine lv_iload_n hx hb dX6_dear_1 rfl (lv_at hl 1 rfl) ?_
  obtain ⟨q1, h1, hf⟩ := asb hf
  refine r_callVi (As := [.int x0]) (rest := []) (C0 := [wX6 K a0 o_this]) (C1 := [wX6 K a0 o_this]) (Rr := []) (S' := [wX6 K a0 o_this]) F h hl (c6_isRule l D K a0 x0 o_this q1 h1) [0] rfl rfl rfl rfl rfl (i := 0) rfl rfl w7 ⟨w8, w9, w10, w2⟩ hsc6_isRule ⟨Nat.le_of_ble_eq_true rfl, Nat.le_of_ble_eq_true rfl⟩ ⟨Nat.le_refl 0, Nat.le_refl 0⟩ (Nat.le_of_ble_eq_true rfl) dX6_dear_2 (fun H locs h => ?_)
  refine lv_if_ne (tgt := 10) hx hb dX6_dear_5 (by decide) (fun c2 => ?_) (fun c2 => ?_)
  · have hf := ifn hf c2
    refine lv_aload_n hx hb dX6_dear_10 rfl (lv_at hl 0 rfl) ?_
    obtain ⟨q3, h3, hf⟩ := asb hf
    refine r_callVi (As := []) (rest := []) (C0 := [wX6 K a0 o_this]) (C1 := [wX6 K a0 q3.2]) (Rr := []) (S' := [wX6 K a0 q3.2]) F h hl (c6_price l D K a0 o_this q3 h3) [0] rfl rfl rfl rfl rfl (i := 0) rfl rfl w118 ⟨w119, w120, w121, w2⟩ hsc6_price ⟨Nat.le_of_ble_eq_true rfl, Nat.le_of_ble_eq_true rfl⟩ ⟨Nat.le_refl 0, Nat.le_refl 0⟩ (Nat.le_of_ble_eq_true rfl) dX6_dear_11 (fun H locs h => ?_)
    refine lv_istore_n (lv' := [(2, .int q3.1), (0, .ref (a0 0)), (1, .int x0)]) hx hb dX6_dear_14 rfl hl (by decide) rfl (fun ls hl => ?_)
    refine lv_iload_n hx hb dX6_dear_15 rfl (lv_at hl 0 rfl) ?_
    refine lv_bipush (v := (-4)) hx hb dX6_dear_16 (by decide) ?_
    refine lv_icmp_ne (tgt := 24) hx hb dX6_dear_18 (by decide) (fun c4 => ?_) (fun c4 => ?_)
    · have hf := ifn hf c4
      refine lv_aload_n hx hb dX6_dear_24 rfl (lv_at hl 1 rfl) ?_
      refine r_get F h (i := 0) (k := 2) (.ref (a0 3)) inX6 rfl (by decide) w6 rfl rfl rfl dX6_dear_25 ?_
      refine lv_bipush (v := 7) hx hb dX6_dear_28 (by decide) ?_
      refine lv_iload_n hx hb dX6_dear_30 rfl (lv_at hl 2 rfl) ?_
      refine lv_imul hx hb dX6_dear_31 ?_
      refine lv_bipush (v := 6) hx hb dX6_dear_32 (by decide) ?_
      refine lv_iadd hx hb dX6_dear_34 ?_
      obtain ⟨g5, hf⟩ := gdb hf
      refine r_iald F h (i := 0) (j := 1) rfl rfl (vin_ok g5) dX6_dear_35 ?_
      refine lv_topi (fun y6 e6 => ?_)
      have hf := ltb hf e6
      refine lv_istore_n (lv' := [(3, .int y6), (2, .int q3.1), (0, .ref (a0 0)), (1, .int x0)]) hx hb dX6_dear_36 rfl hl (by decide) rfl (fun ls hl => ?_)
      refine lv_bipush (v := 9) hx hb dX6_dear_37 (by decide) ?_
      refine lv_istore (lv' := [(4, .int 9), (3, .int y6), (2, .int q3.1), (0, .ref (a0 0)), (1, .int x0)]) hx hb dX6_dear_39 hl (by decide) rfl (fun ls hl => ?_)
      refine lv_aload_n hx hb dX6_dear_41 rfl (lv_at hl 3 rfl) ?_
      refine r_get F h (i := 0) (k := 2) (.ref (a0 3)) inX6 rfl (by decide) w6 rfl rfl rfl dX6_dear_42 ?_
      refine lv_bipush (v := 7) hx hb dX6_dear_45 (by decide) ?_
      refine lv_iload_n hx hb dX6_dear_47 rfl (lv_at hl 4 rfl) ?_
      refine lv_imul hx hb dX6_dear_48 ?_
      refine lv_bipush (v := 6) hx hb dX6_dear_49 (by decide) ?_
      refine lv_iadd hx hb dX6_dear_51 ?_
      refine lv_bipush (v := 9) hx hb dX6_dear_52 (by decide) ?_
      obtain ⟨g7, hf⟩ := gdb hf
      refine r_iast (o1 := sA q3.2 2 ((7 * x0) + 6).toNatClampNeg 9) (w := fun t8 => wX6 K a0 t8) (S' := fun t8 => [wX6 K a0 t8]) F h (i := 0) (j := 1) rfl rfl (vin_ok g7) rfl (fun _ => rfl) dX6_dear_54 (fun t8 e8 H locs h => ?_)
      have hf := ltb hf e8
      obtain ⟨q9, hq9, hf⟩ := asb hf
      obtain ⟨nq9, hq9⟩ := wh_out hq9
      have Xq9_1 : ∀ (z9 : Int32 × ob) (H : Heap) (locs : List Loc) (ls : Array Slot), q9 = (1, z9) → WD D A s.heap H locs [wX6 K a0 z9.2] → lv_has ls 5 [(0, .ref (a0 0)), (1, .int x0), (3, .int y6), (4, .int z9.1)] → W P l e (rmS 6 141) s m args below meth c H locs 0 0 (MQ below (QiS D A [wX6 K a0 r.2] r.1) args s 0 0 A) (F0 m 89 ls []) := by
        intro z9 H locs ls eq9 h hl
        obtain rfl : z9 = q9.2 := by rw [eq9]
        refine lv_aload_n hx hb dX6_dear_89 rfl (lv_at hl 0 rfl) ?_
        refine r_get F h (i := 0) (k := 2) (.ref (a0 3)) inX6 rfl (by decide) w6 rfl rfl rfl dX6_dear_90 ?_
        refine lv_bipush (v := 7) hx hb dX6_dear_93 (by decide) ?_
        refine lv_iload_n hx hb dX6_dear_95 rfl (lv_at hl 1 rfl) ?_
        refine lv_imul hx hb dX6_dear_96 ?_
        refine lv_bipush (v := 6) hx hb dX6_dear_97 (by decide) ?_
        refine lv_iadd hx hb dX6_dear_99 ?_
        refine lv_iload_n hx hb dX6_dear_100 rfl (lv_at hl 2 rfl) ?_
        obtain ⟨g10, hf⟩ := gdb hf
        refine r_iast (o1 := sA q9.2.2 2 ((7 * x0) + 6).toNatClampNeg y6) (w := fun t11 => wX6 K a0 t11) (S' := fun t11 => [wX6 K a0 t11]) F h (i := 0) (j := 1) rfl rfl (vin_ok g10) rfl (fun _ => rfl) dX6_dear_101 (fun t11 e11 H locs h => ?_)
        have hf := ltb hf e11
        refine lv_iload hx hb dX6_dear_102 (lv_at hl 3 rfl) ?_
        obtain rfl := sor hf
        exact r_reti F h dX6_dear_104
      have Lq9 : ∀ (n : Nat) (z9 : Int32 × ob) (H : Heap) (locs : List Loc) (ls : Array Slot), iter (f6_dear_L55 x0 q3.1 y6) n z9 = some q9 → WD D A s.heap H locs [wX6 K a0 z9.2] → lv_has ls 5 [(0, .ref (a0 0)), (1, .int x0), (2, .int q3.1), (3, .int y6), (4, .int z9.1)] → W P l e (rmS 6 141) s m args below meth c H locs 0 0 (MQ below (QiS D A [wX6 K a0 r.2] r.1) args s 0 0 A) (F0 m 55 ls []) := by
        intro n
        induction n with
        | zero => intro z9 H locs ls hi; exact (iter_0 hi).elim
        | succ n ihq9 =>
          intro z9 H locs ls hi h hl
          obtain ⟨uq9, hf, huq9⟩ := iter_s hi
          unfold f6_dear_L55 at hf
          have hf := tob hf
          refine lv_iload hx hb dX6_dear_55 (lv_at hl 4 rfl) ?_
          refine lv_iload_n hx hb dX6_dear_57 rfl (lv_at hl 3 rfl) ?_
          refine lv_icmp_le (tgt := 89) hx hb dX6_dear_58 (by decide) (fun c12 => ?_) (fun c12 => ?_)
          · have hf := ifp hf c12
            exact Xq9_1 _ _ _ _ (itr_x huq9 (sor hf)) h (lv_sub hl [0, 1, 3, 4] rfl)
          · have hf := ifn hf c12
            refine lv_aload_n hx hb dX6_dear_61 rfl (lv_at hl 0 rfl) ?_
            obtain ⟨q13, h13, hf⟩ := asb hf
            refine r_callVi (As := []) (rest := []) (C0 := [wX6 K a0 z9.2]) (C1 := [wX6 K a0 q13.2]) (Rr := []) (S' := [wX6 K a0 q13.2]) F h hl (c6_price l D K a0 z9.2 q13 h13) [0] rfl rfl rfl rfl rfl (i := 0) rfl rfl w118 ⟨w119, w120, w121, w2⟩ hsc6_price ⟨Nat.le_of_ble_eq_true rfl, Nat.le_of_ble_eq_true rfl⟩ ⟨Nat.le_refl 0, Nat.le_refl 0⟩ (Nat.le_of_ble_eq_true rfl) dX6_dear_62 (fun H locs h => ?_)
            refine lv_iload_n hx hb dX6_dear_65 rfl (lv_at hl 2 rfl) ?_
            refine lv_icmp_eq (tgt := 89) hx hb dX6_dear_66 (by decide) (fun c14 => ?_) (fun c14 => ?_)
            · have hf := ifp hf c14
              exact Xq9_1 _ _ _ _ (itr_x huq9 (sor hf)) h (lv_sub hl [0, 1, 3, 4] rfl)
            · have hf := ifn hf c14
              obtain ⟨y15, e15⟩ : ∃ y : Int32, y = z9.1 + (-1) := ⟨_, rfl⟩
              have hf := ltb hf e15
              refine lv_iinc (v := y15) (lv' := [(4, .int y15), (0, .ref (a0 0)), (1, .int x0), (2, .int q3.1), (3, .int y6)]) hx hb dX6_dear_69 hl (k := 4) rfl (by rw [e15]; rfl) (by decide) rfl (fun ls hl => ?_)
              refine lv_aload_n hx hb dX6_dear_72 rfl (lv_at hl 1 rfl) ?_
              refine r_get F h (i := 0) (k := 2) (.ref (a0 3)) inX6 rfl (by decide) w6 rfl rfl rfl dX6_dear_73 ?_
              refine lv_bipush (v := 7) hx hb dX6_dear_76 (by decide) ?_
              refine lv_iload_n hx hb dX6_dear_78 rfl (lv_at hl 2 rfl) ?_
              refine lv_imul hx hb dX6_dear_79 ?_
              refine lv_bipush (v := 6) hx hb dX6_dear_80 (by decide) ?_
              refine lv_iadd hx hb dX6_dear_82 ?_
              refine lv_iload hx hb dX6_dear_83 (lv_at hl 0 rfl) ?_
              obtain ⟨g16, hf⟩ := gdb hf
              refine r_iast (o1 := sA q13.2 2 ((7 * x0) + 6).toNatClampNeg y15) (w := fun t17 => wX6 K a0 t17) (S' := fun t17 => [wX6 K a0 t17]) F h (i := 0) (j := 1) rfl rfl (vin_ok g16) rfl (fun _ => rfl) dX6_dear_85 (fun t17 e17 H locs h => ?_)
              have hf := ltb hf e17
              refine lv_goto (tgt := 55) hx hb dX6_dear_86 (by decide) ?_
              exact ihq9 _ _ _ _ (itr_c huq9 (sor hf)) h (lv_sub hl [1, 2, 3, 4, 0] rfl)
      exact Lq9 _ _ _ _ _ hq9 h (lv_sub hl [3, 4, 2, 1, 0] rfl)
    · have hf := ifp hf c4
      refine lv_bipush (v := (-4)) hx hb dX6_dear_21 (by decide) ?_
      obtain rfl := sor hf
      exact r_reti F h dX6_dear_23
  · have hf := ifp hf c2
    refine lv_iconst (v := (-1)) hx hb dX6_dear_8 (by decide) ?_
    obtain rfl := sor hf
    exact r_reti F h dX6_dear_9
