def f6_popsBy (x0 : Int32) (x1 : Int32) (x2 : Int32) (o_this : ob) : Option (Int32) :=
  gd (vin (((12 * x0) + (3 * x1)) + x2) 36) <| some (o_this.2 25 (((12 * x0) + (3 * x1)) + x2).toNatClampNeg)
set_option maxRecDepth 100000 in
set_option maxHeartbeats 4000000 in
theorem c6_popsBy (l : Launch) (D : va_G) (K : Nat → ClassId) (a0 : Nat → Nat) (x0 : Int32) (x1 : Int32) (x2 : Int32) (o_this : ob) (r : Int32) (hf : f6_popsBy x0 x1 x2 o_this = some r) : CTi l yX6_popsBy cX6_popsBy 4 (some .int) 0 0 D K [.ref (a0 0), .int x0, .int x1, .int x2] [wX6 K a0 o_this] [wX6 K a0 o_this] r := by
  unfold f6_popsBy at hf
  have hf := tob hf
  refine entI (by decide) (Nat.le_of_ble_eq_true rfl) (fun P e s m args below meth c A ls F h hl hin => ?_)
  have hx := F.1
  have hb := F.2.1
  have hl : lv_has ls 4 [(0, .ref (a0 0)), (1, .int x0), (2, .int x1), (3, .int x2)] := hl
  refine lv_aload_n hx hb dX6_popsBy_0 rfl (lv_at hl 0 rfl) ?_
  refine r_get F h (i := 0) (k := 25) (.ref (a0 26)) inX6 rfl (by decide) w155 rfl rfl rfl dX6_popsBy_1 ?_
  refine lv_bipush (v := 12) hx hb dX6_popsBy_4 (by decide) ?_
  refine lv_iload_n hx hb dX6_popsBy_6 rfl (lv_at hl 1 rfl) ?_
  refine lv_imul hx hb dX6_popsBy_7 ?_
  refine lv_iconst (v := 3) hx hb dX6_popsBy_8 (by decide) ?_
  refine lv_iload_n hx hb dX6_popsBy_9 rfl (lv_at hl 2 rfl) ?_
  refine lv_imul hx hb dX6_popsBy_10 ?_
  refine lv_iadd hx hb dX6_popsBy_11 ?_
  refine lv_iload_n hx hb dX6_popsBy_12 rfl (lv_at hl 3 rfl) ?_
  refine lv_iadd hx hb dX6_popsBy_13 ?_
  obtain ⟨g1, hf⟩ := gdb hf
  refine r_iald F h (i := 0) (j := 14) rfl rfl (vin_ok g1) dX6_popsBy_14 ?_
  obtain rfl := sor hf
  exact r_reti F h dX6_popsBy_15
def f6_isGone_L84 (g0 : Int32) (g1 : Int32) (g2 : ob) (g3 : Int32) (g5 : Int32) (z9 : Int32 × Int32) : Option (Nat × (Int32 × Int32)) :=
  (if (g2.1 0) ≤ z9.2 then (some (1, (z9.1, z9.2))) else (((if z9.1 = 0 then ((f6_popsBy g3 g5 z9.2 g2).bind fun q15 => (if q15 = 1 then (gd (vin ((7 * g0) + 5) 70) <| (f6_popsBy z9.2 (g2.2 2 ((7 * g0) + 5).toNatClampNeg) g1 g2).bind fun q18 => (if q18 = 1 then (some 1) else (some 0))) else (some 0))) else (some 1))).bind fun v12 => lt (z9.2 + 1) fun y13 => some (0, (v12, y13))))
noncomputable def f6_isGone (x0 : Int32) (x1 : Int32) (o_this : ob) : Option (Int32) :=
  gd (vin ((7 * x0) + 2) 70) <| lt (o_this.2 2 ((7 * x0) + 2).toNatClampNeg) fun y2 => gd (vin ((7 * x0) + 3) 70) <| lt (o_this.2 2 ((7 * x0) + 3).toNatClampNeg) fun y4 => gd (vin ((7 * x0) + 4) 70) <| lt (o_this.2 2 ((7 * x0) + 4).toNatClampNeg) fun y6 => (if y4 = 0 then ((if y2 = x1 then (some 1) else (some 0))) else ((if y4 = 1 then ((f6_popsBy y2 y6 x1 o_this).bind fun q20 => (if q20 = 1 then (some 1) else (some 0))) else ((wh (f6_isGone_L84 x0 x1 o_this y2 y6) (0, 0)).bind fun q9 => gd (bz q9.2.1) <| some q9.2.1))))
set_option maxRecDepth 100000 in
set_option maxHeartbeats 4000000 in
theorem c6_isGone (l : Launch) (D : va_G) (K : Nat → ClassId) (a0 : Nat → Nat) (x0 : Int32) (x1 : Int32) (o_this : ob) (r : Int32) (hf : f6_isGone x0 x1 o_this = some r) : CTi l yX6_isGone cX6_isGone 8 (some .boolean) 1 23 D K [.ref (a0 0), .int x0, .int x1] [wX6 K a0 o_this] [wX6 K a0 o_this] r := by
  unfold f6_isGone at hf
  have hf := tob hf
  refine entI (by decide) (Nat.le_of_ble_eq_true rfl) (fun P e s m args below meth c A ls F h hl hin => ?_)
  have hx := F.1
  have hb := F.2.1
  have hl : lv_has ls 8 [(0, .ref (a0 0)), (1, .int x0), (2, .int x1)] := hl
  refine lv_aload_n hx hb dX6_isGone_0 rfl (lv_at hl 0 rfl) ?_
  refine r_get F h (i := 0) (k := 2) (.ref (a0 3)) inX6 rfl (by decide) w6 rfl rfl rfl dX6_isGone_1 ?_
  refine lv_bipush (v := 7) hx hb dX6_isGone_4 (by decide) ?_
  refine lv_iload_n hx hb dX6_isGone_6 rfl (lv_at hl 1 rfl) ?_
  refine lv_imul hx hb dX6_isGone_7 ?_
  refine lv_iconst (v := 2) hx hb dX6_isGone_8 (by decide) ?_
  refine lv_iadd hx hb dX6_isGone_9 ?_
  obtain ⟨g1, hf⟩ := gdb hf
  refine r_iald F h (i := 0) (j := 1) rfl rfl (vin_ok g1) dX6_isGone_10 ?_
  refine lv_topi (fun y2 e2 => ?_)
  have hf := ltb hf e2
  refine lv_istore_n (lv' := [(3, .int y2), (0, .ref (a0 0)), (1, .int x0), (2, .int x1)]) hx hb dX6_isGone_11 rfl hl (by decide) rfl (fun ls hl => ?_)
  refine lv_aload_n hx hb dX6_isGone_12 rfl (lv_at hl 1 rfl) ?_
  refine r_get F h (i := 0) (k := 2) (.ref (a0 3)) inX6 rfl (by decide) w6 rfl rfl rfl dX6_isGone_13 ?_
  refine lv_bipush (v := 7) hx hb dX6_isGone_16 (by decide) ?_
  refine lv_iload_n hx hb dX6_isGone_18 rfl (lv_at hl 2 rfl) ?_
  refine lv_imul hx hb dX6_isGone_19 ?_
  refine lv_iconst (v := 3) hx hb dX6_isGone_20 (by decide) ?_
  refine lv_iadd hx hb dX6_isGone_21 ?_
  obtain ⟨g3, hf⟩ := gdb hf
  refine r_iald F h (i := 0) (j := 1) rfl rfl (vin_ok g3) dX6_isGone_22 ?_
  refine lv_topi (fun y4 e4 => ?_)
  have hf := ltb hf e4
  refine lv_istore (lv' := [(4, .int y4), (3, .int y2), (0, .ref (a0 0)), (1, .int x0), (2, .int x1)]) hx hb dX6_isGone_23 hl (by decide) rfl (fun ls hl => ?_)
  refine lv_aload_n hx hb dX6_isGone_25 rfl (lv_at hl 2 rfl) ?_
  refine r_get F h (i := 0) (k := 2) (.ref (a0 3)) inX6 rfl (by decide) w6 rfl rfl rfl dX6_isGone_26 ?_
  refine lv_bipush (v := 7) hx hb dX6_isGone_29 (by decide) ?_
  refine lv_iload_n hx hb dX6_isGone_31 rfl (lv_at hl 3 rfl) ?_
  refine lv_imul hx hb dX6_isGone_32 ?_
  refine lv_iconst (v := 4) hx hb dX6_isGone_33 (by decide) ?_
  refine lv_iadd hx hb dX6_isGone_34 ?_
  obtain ⟨g5, hf⟩ := gdb hf
  refine r_iald F h (i := 0) (j := 1) rfl rfl (vin_ok g5) dX6_isGone_35 ?_
  refine lv_topi (fun y6 e6 => ?_)
  have hf := ltb hf e6
  refine lv_istore (lv' := [(5, .int y6), (4, .int y4), (3, .int y2), (0, .ref (a0 0)), (1, .int x0), (2, .int x1)]) hx hb dX6_isGone_36 hl (by decide) rfl (fun ls hl => ?_)
  refine lv_iload hx hb dX6_isGone_38 (lv_at hl 1 rfl) ?_
  refine lv_if_ne (tgt := 54) hx hb dX6_isGone_40 (by decide) (fun c7 => ?_) (fun c7 => ?_)
  · have hf := ifn hf c7
    refine lv_iload hx hb dX6_isGone_54 (lv_at hl 1 rfl) ?_
    refine lv_iconst (v := 1) hx hb dX6_isGone_56 (by decide) ?_
    refine lv_icmp_ne (tgt := 78) hx hb dX6_isGone_57 (by decide) (fun c8 => ?_) (fun c8 => ?_)
    · have hf := ifn hf c8
      refine lv_iconst (v := 0) hx hb dX6_isGone_78 (by decide) ?_
      refine lv_istore (lv' := [(6, .int 0), (5, .int y6), (4, .int y4), (3, .int y2), (0, .ref (a0 0)), (1, .int x0), (2, .int x1)]) hx hb dX6_isGone_79 hl (by decide) rfl (fun ls hl => ?_)
      refine lv_iconst (v := 0) hx hb dX6_isGone_81 (by decide) ?_
      refine lv_istore (lv' := [(7, .int 0), (6, .int 0), (5, .int y6), (4, .int y4), (3, .int y2), (0, .ref (a0 0)), (1, .int x0), (2, .int x1)]) hx hb dX6_isGone_82 hl (by decide) rfl (fun ls hl => ?_)
      obtain ⟨q9, hq9, hf⟩ := asb hf
      obtain ⟨nq9, hq9⟩ := wh_out hq9
      have Xq9_1 : ∀ (z9 : Int32 × Int32) (H : Heap) (locs : List Loc) (ls : Array Slot), q9 = (1, z9) → WD D A s.heap H locs [wX6 K a0 o_this] → lv_has ls 8 [(6, .int z9.1)] → W P l e (rmS 1 23) s m args below meth c H locs 0 0 (MQ below (QiS D A [wX6 K a0 o_this] r) args s 0 0 A) (F0 m 146 ls []) := by
        intro z9 H locs ls eq9 h hl
        obtain rfl : z9 = q9.2 := by rw [eq9]
        refine lv_iload hx hb dX6_isGone_146 (lv_at hl 0 rfl) ?_
        obtain ⟨g10, hf⟩ := gdb hf
        obtain rfl := sor hf
        exact r_retz F h g10 dX6_isGone_148
      have Lq9 : ∀ (n : Nat) (z9 : Int32 × Int32) (H : Heap) (locs : List Loc) (ls : Array Slot), iter (f6_isGone_L84 x0 x1 o_this y2 y6) n z9 = some q9 → WD D A s.heap H locs [wX6 K a0 o_this] → lv_has ls 8 [(0, .ref (a0 0)), (1, .int x0), (2, .int x1), (3, .int y2), (5, .int y6), (6, .int z9.1), (7, .int z9.2)] → W P l e (rmS 1 23) s m args below meth c H locs 0 0 (MQ below (QiS D A [wX6 K a0 o_this] r) args s 0 0 A) (F0 m 84 ls []) := by
        intro n
        induction n with
        | zero => intro z9 H locs ls hi; exact (iter_0 hi).elim
        | succ n ihq9 =>
          intro z9 H locs ls hi h hl
          obtain ⟨uq9, hf, huq9⟩ := iter_s hi
          unfold f6_isGone_L84 at hf
          have hf := tob hf
          refine lv_iload hx hb dX6_isGone_84 (lv_at hl 6 rfl) ?_
          refine lv_aload_n hx hb dX6_isGone_86 rfl (lv_at hl 0 rfl) ?_
          refine r_get F h (i := 0) (k := 0) (.int (o_this.1 0)) inX6 rfl (by decide) w5 rfl rfl rfl dX6_isGone_87 ?_
          refine lv_icmp_ge (tgt := 146) hx hb dX6_isGone_90 (by decide) (fun c11 => ?_) (fun c11 => ?_)
          · have hf := ifp hf c11
            exact Xq9_1 _ _ _ _ (itr_x huq9 (sor hf)) h (lv_sub hl [5] rfl)
          · have hf := ifn hf c11
            refine lv_iload hx hb dX6_isGone_93 (lv_at hl 5 rfl) ?_
            obtain ⟨J12, eJ12, hf⟩ := rgn hf
            have JW12 : ∀ (v12 : Int32) (H : Heap) (locs : List Loc) (ls : Array Slot), WD D A s.heap H locs [wX6 K a0 o_this] → lv_has ls 8 [(0, .ref (a0 0)), (1, .int x0), (2, .int x1), (3, .int y2), (5, .int y6), (7, .int z9.2)] → J12 v12 = some uq9 → W P l e (rmS 1 23) s m args below meth c H locs 0 0 (MQ below (QiS D A [wX6 K a0 o_this] r) args s 0 0 A) (F0 m 138 ls [.int v12]) := by
              intro v12 H locs ls h hl hf
              have hf := jof eJ12 hf
              refine lv_istore (lv' := [(6, .int v12), (0, .ref (a0 0)), (1, .int x0), (2, .int x1), (3, .int y2), (5, .int y6), (7, .int z9.2)]) hx hb dX6_isGone_138 hl (by decide) rfl (fun ls hl => ?_)
              obtain ⟨y13, e13⟩ : ∃ y : Int32, y = z9.2 + 1 := ⟨_, rfl⟩
              have hf := ltb hf e13
              refine lv_iinc (v := y13) (lv' := [(7, .int y13), (6, .int v12), (0, .ref (a0 0)), (1, .int x0), (2, .int x1), (3, .int y2), (5, .int y6)]) hx hb dX6_isGone_140 hl (k := 6) rfl (by rw [e13]; rfl) (by decide) rfl (fun ls hl => ?_)
              refine lv_goto (tgt := 84) hx hb dX6_isGone_143 (by decide) ?_
              exact ihq9 _ _ _ _ (itr_c huq9 (sor hf)) h (lv_sub hl [2, 3, 4, 5, 6, 1, 0] rfl)
            refine lv_if_ne (tgt := 133) hx hb dX6_isGone_95 (by decide) (fun c14 => ?_) (fun c14 => ?_)
            · have hf := ifn hf c14
              refine lv_iconst (v := 1) hx hb dX6_isGone_133 (by decide) ?_
              refine lv_goto (tgt := 138) hx hb dX6_isGone_134 (by decide) ?_
              exact JW12 1 _ _ _ h (lv_sub hl [0, 1, 2, 3, 4, 6] rfl) (sob hf)
            · have hf := ifp hf c14
              refine lv_aload_n hx hb dX6_isGone_98 rfl (lv_at hl 0 rfl) ?_
              refine lv_iload_n hx hb dX6_isGone_99 rfl (lv_at hl 3 rfl) ?_
              refine lv_iload hx hb dX6_isGone_100 (lv_at hl 4 rfl) ?_
              refine lv_iload hx hb dX6_isGone_102 (lv_at hl 6 rfl) ?_
              obtain ⟨q15, h15, hf⟩ := asb hf
              refine r_callVi (As := [.int y2, .int y6, .int z9.2]) (rest := []) (C0 := [wX6 K a0 o_this]) (C1 := [wX6 K a0 o_this]) (Rr := []) (S' := [wX6 K a0 o_this]) F h hl (c6_popsBy l D K a0 y2 y6 z9.2 o_this q15 h15) [0] rfl rfl rfl rfl rfl (i := 0) rfl rfl w156 ⟨w157, w158, w159, w2⟩ hsc6_popsBy ⟨Nat.le_of_ble_eq_true rfl, Nat.le_of_ble_eq_true rfl⟩ ⟨Nat.le_refl 0, Nat.le_refl 0⟩ (Nat.le_of_ble_eq_true rfl) dX6_isGone_104 (fun H locs h => ?_)
              refine lv_iconst (v := 1) hx hb dX6_isGone_107 (by decide) ?_
              refine lv_icmp_ne (tgt := 137) hx hb dX6_isGone_108 (by decide) (fun c16 => ?_) (fun c16 => ?_)
              · have hf := ifn hf c16
                refine lv_iconst (v := 0) hx hb dX6_isGone_137 (by decide) ?_
                exact JW12 0 _ _ _ h (lv_sub hl [0, 1, 2, 3, 4, 6] rfl) (sob hf)
              · have hf := ifp hf c16
                refine lv_aload_n hx hb dX6_isGone_111 rfl (lv_at hl 0 rfl) ?_
                refine lv_iload hx hb dX6_isGone_112 (lv_at hl 6 rfl) ?_
                refine lv_aload_n hx hb dX6_isGone_114 rfl (lv_at hl 0 rfl) ?_
                refine r_get F h (i := 0) (k := 2) (.ref (a0 3)) inX6 rfl (by decide) w6 rfl rfl rfl dX6_isGone_115 ?_
                refine lv_bipush (v := 7) hx hb dX6_isGone_118 (by decide) ?_
                refine lv_iload_n hx hb dX6_isGone_120 rfl (lv_at hl 1 rfl) ?_
                refine lv_imul hx hb dX6_isGone_121 ?_
                refine lv_iconst (v := 5) hx hb dX6_isGone_122 (by decide) ?_
                refine lv_iadd hx hb dX6_isGone_123 ?_
                obtain ⟨g17, hf⟩ := gdb hf
                refine r_iald F h (i := 0) (j := 1) rfl rfl (vin_ok g17) dX6_isGone_124 ?_
                refine lv_iload_n hx hb dX6_isGone_125 rfl (lv_at hl 2 rfl) ?_
                obtain ⟨q18, h18, hf⟩ := asb hf
                refine r_callVi (As := [.int z9.2, .int (o_this.2 2 ((7 * x0) + 5).toNatClampNeg), .int x1]) (rest := []) (C0 := [wX6 K a0 o_this]) (C1 := [wX6 K a0 o_this]) (Rr := []) (S' := [wX6 K a0 o_this]) F h hl (c6_popsBy l D K a0 z9.2 (o_this.2 2 ((7 * x0) + 5).toNatClampNeg) x1 o_this q18 h18) [0] rfl rfl rfl rfl rfl (i := 0) rfl rfl w156 ⟨w157, w158, w159, w2⟩ hsc6_popsBy ⟨Nat.le_of_ble_eq_true rfl, Nat.le_of_ble_eq_true rfl⟩ ⟨Nat.le_refl 0, Nat.le_refl 0⟩ (Nat.le_of_ble_eq_true rfl) dX6_isGone_126 (fun H locs h => ?_)
                refine lv_iconst (v := 1) hx hb dX6_isGone_129 (by decide) ?_
                refine lv_icmp_ne (tgt := 137) hx hb dX6_isGone_130 (by decide) (fun c19 => ?_) (fun c19 => ?_)
                · have hf := ifn hf c19
                  refine lv_iconst (v := 0) hx hb dX6_isGone_137 (by decide) ?_
                  exact JW12 0 _ _ _ h (lv_sub hl [0, 1, 2, 3, 4, 6] rfl) (sob hf)
                · have hf := ifp hf c19
                  refine lv_iconst (v := 1) hx hb dX6_isGone_133 (by decide) ?_
                  refine lv_goto (tgt := 138) hx hb dX6_isGone_134 (by decide) ?_
                  exact JW12 1 _ _ _ h (lv_sub hl [0, 1, 2, 3, 4, 6] rfl) (sob hf)
      exact Lq9 _ _ _ _ _ hq9 h (lv_sub hl [5, 6, 7, 4, 2, 1, 0] rfl)
    · have hf := ifp hf c8
      refine lv_aload_n hx hb dX6_isGone_60 rfl (lv_at hl 3 rfl) ?_
      refine lv_iload_n hx hb dX6_isGone_61 rfl (lv_at hl 2 rfl) ?_
      refine lv_iload hx hb dX6_isGone_62 (lv_at hl 0 rfl) ?_
      refine lv_iload_n hx hb dX6_isGone_64 rfl (lv_at hl 5 rfl) ?_
      obtain ⟨q20, h20, hf⟩ := asb hf
      refine r_callVi (As := [.int y2, .int y6, .int x1]) (rest := []) (C0 := [wX6 K a0 o_this]) (C1 := [wX6 K a0 o_this]) (Rr := []) (S' := [wX6 K a0 o_this]) F h hl (c6_popsBy l D K a0 y2 y6 x1 o_this q20 h20) [0] rfl rfl rfl rfl rfl (i := 0) rfl rfl w156 ⟨w157, w158, w159, w2⟩ hsc6_popsBy ⟨Nat.le_of_ble_eq_true rfl, Nat.le_of_ble_eq_true rfl⟩ ⟨Nat.le_refl 0, Nat.le_refl 0⟩ (Nat.le_of_ble_eq_true rfl) dX6_isGone_65 (fun H locs h => ?_)
      refine lv_iconst (v := 1) hx hb dX6_isGone_68 (by decide) ?_
      refine lv_icmp_ne (tgt := 76) hx hb dX6_isGone_69 (by decide) (fun c21 => ?_) (fun c21 => ?_)
      · have hf := ifn hf c21
        refine lv_iconst (v := 0) hx hb dX6_isGone_76 (by decide) ?_
        obtain rfl := sor hf
        exact r_retz F h rfl dX6_isGone_77
      · have hf := ifp hf c21
        refine lv_iconst (v := 1) hx hb dX6_isGone_72 (by decide) ?_
        refine lv_goto (tgt := 77) hx hb dX6_isGone_73 (by decide) ?_
        obtain rfl := sor hf
        exact r_retz F h rfl dX6_isGone_77
  · have hf := ifp hf c7
    refine lv_iload_n hx hb dX6_isGone_43 rfl (lv_at hl 2 rfl) ?_
    refine lv_iload_n hx hb dX6_isGone_44 rfl (lv_at hl 5 rfl) ?_
    refine lv_icmp_ne (tgt := 52) hx hb dX6_isGone_45 (by decide) (fun c22 => ?_) (fun c22 => ?_)
    · have hf := ifn hf c22
      refine lv_iconst (v := 0) hx hb dX6_isGone_52 (by decide) ?_
      obtain rfl := sor hf
      exact r_retz F h rfl dX6_isGone_53
    · have hf := ifp hf c22
      refine lv_iconst (v := 1) hx hb dX6_isGone_48 (by decide) ?_
      refine lv_goto (tgt := 53) hx hb dX6_isGone_49 (by decide) ?_
      obtain rfl := sor hf
      exact r_retz F h rfl dX6_isGone_53
noncomputable def f6_setPops_L41 (g10 : Int32) (z6 : Int32 × Int32 × ob) : Option (Nat × (Int32 × Int32 × ob)) :=
  (if (z6.2.2.1 0) ≤ z6.2.1 then (some (1, (z6.1, z6.2.1, z6.2.2))) else (gd (vin (7 * g10) 70) <| gd (vin ((7 * g10) + 1) 70) <| lt (((12 * (z6.2.2.2 2 (7 * g10).toNatClampNeg)) + (3 * (z6.2.2.2 2 ((7 * g10) + 1).toNatClampNeg))) + z6.2.1) fun y11 => gd (vin y11 36) <| ((if (z6.2.2.2 25 y11.toNatClampNeg) = 0 then ((f6_isGone g10 z6.2.1 z6.2.2).bind fun q16 => (if q16 = 0 then (some (z6.1, z6.2.2)) else (gd (vin y11 36) <| lt (sA z6.2.2 25 y11.toNatClampNeg 1) fun t19 => some (1, t19)))) else (some (z6.1, z6.2.2)))).bind fun v13 => lt (z6.2.1 + 1) fun y14 => some (0, (v13.1, y14, v13.2))))
noncomputable def f6_setPops_L31 (z4 : Int32 × Int32 × ob) : Option (Nat × (Int32 × Int32 × ob)) :=
  (if (z4.2.2.1 1) ≤ z4.2.1 then (some (1, (z4.1, z4.2.1, z4.2.2))) else ((wh (f6_setPops_L41 z4.2.1) (z4.1, 0, z4.2.2)).bind fun q6 => lt (z4.2.1 + 1) fun y7 => some (0, (q6.2.1, y7, q6.2.2.2))))
noncomputable def f6_setPops_L23 (z2 : Int32 × ob) : Option (Nat × (Int32 × ob)) :=
  (if z2.1 = 0 then (some (1, (z2.1, z2.2))) else ((wh f6_setPops_L31 (0, 0, z2.2)).bind fun q4 => some (0, (q4.2.1, q4.2.2.2))))
def f6_setPops_L2 (z1 : Int32 × ob) : Option (Nat × (Int32 × ob)) :=
  (if 36 ≤ z1.1 then (some (1, (z1.1, z1.2))) else (gd (vin z1.1 36) <| lt (sA z1.2 25 z1.1.toNatClampNeg 0) fun t22 => lt (z1.1 + 1) fun y23 => some (0, (y23, t22))))
noncomputable def f6_setPops (o_this : ob) : Option (ob) :=
  (wh f6_setPops_L2 (0, o_this)).bind fun q1 => (wh f6_setPops_L23 (1, q1.2.2)).bind fun q2 => some q2.2.2
set_option maxRecDepth 100000 in
set_option maxHeartbeats 4000000 in
theorem c6_setPops (l : Launch) (D : va_G) (K : Nat → ClassId) (a0 : Nat → Nat) (o_this : ob) (r : ob) (hf : f6_setPops o_this = some r) : CTv l yX6_setPops cX6_setPops 5 2 50 D K [.ref (a0 0)] [wX6 K a0 o_this] [wX6 K a0 r] := by
  unfold f6_setPops at hf
  have hf := tob hf
  refine entV (by decide) (Nat.le_of_ble_eq_true rfl) (fun P e s m args below meth c A ls F h hl hin => ?_)
  have hx := F.1
  have hb := F.2.1
  have hl : lv_has ls 5 [(0, .ref (a0 0))] := hl
  refine lv_iconst (v := 0) hx hb dX6_setPops_0 (by decide) ?_
  refine lv_istore_n (lv' := [(1, .int 0), (0, .ref (a0 0))]) hx hb dX6_setPops_1 rfl hl (by decide) rfl (fun ls hl => ?_)
  obtain ⟨q1, hq1, hf⟩ := asb hf
  obtain ⟨nq1, hq1⟩ := wh_out hq1
  have Xq1_1 : ∀ (z1 : Int32 × ob) (H : Heap) (locs : List Loc) (ls : Array Slot), q1 = (1, z1) → WD D A s.heap H locs [wX6 K a0 z1.2] → lv_has ls 5 [(0, .ref (a0 0))] → W P l e (rmS 2 50) s m args below meth c H locs 0 0 (MQ below (QvS D A [wX6 K a0 r]) args s 0 0 A) (F0 m 21 ls []) := by
    intro z1 H locs ls eq1 h hl
    obtain rfl : z1 = q1.2 := by rw [eq1]
    refine lv_iconst (v := 1) hx hb dX6_setPops_21 (by decide) ?_
    refine lv_istore_n (lv' := [(1, .int 1), (0, .ref (a0 0))]) hx hb dX6_setPops_22 rfl hl (by decide) rfl (fun ls hl => ?_)
    obtain ⟨q2, hq2, hf⟩ := asb hf
    obtain ⟨nq2, hq2⟩ := wh_out hq2
    have Xq2_1 : ∀ (z2 : Int32 × ob) (H : Heap) (locs : List Loc) (ls : Array Slot), q2 = (1, z2) → WD D A s.heap H locs [wX6 K a0 z2.2] → lv_has ls 5 [] → W P l e (rmS 2 50) s m args below meth c H locs 0 0 (MQ below (QvS D A [wX6 K a0 r]) args s 0 0 A) (F0 m 123 ls []) := by
      intro z2 H locs ls eq2 h hl
      obtain rfl : z2 = q2.2 := by rw [eq2]
      obtain rfl := sor hf
      exact r_retv F h dX6_setPops_123
    have Lq2 : ∀ (n : Nat) (z2 : Int32 × ob) (H : Heap) (locs : List Loc) (ls : Array Slot), iter f6_setPops_L23 n z2 = some q2 → WD D A s.heap H locs [wX6 K a0 z2.2] → lv_has ls 5 [(0, .ref (a0 0)), (1, .int z2.1)] → W P l e (rmS 2 50) s m args below meth c H locs 0 0 (MQ below (QvS D A [wX6 K a0 r]) args s 0 0 A) (F0 m 23 ls []) := by
      intro n
      induction n with
      | zero => intro z2 H locs ls hi; exact (iter_0 hi).elim
      | succ n ihq2 =>
        intro z2 H locs ls hi h hl
        obtain ⟨uq2, hf, huq2⟩ := iter_s hi
        unfold f6_setPops_L23 at hf
        have hf := tob hf
        refine lv_iload_n hx hb dX6_setPops_23 rfl (lv_at hl 1 rfl) ?_
        refine lv_if_eq (tgt := 123) hx hb dX6_setPops_24 (by decide) (fun c3 => ?_) (fun c3 => ?_)
        · have hf := ifp hf c3
          exact Xq2_1 _ _ _ _ (itr_x huq2 (sor hf)) h (lv_sub hl [] rfl)
        · have hf := ifn hf c3
          refine lv_iconst (v := 0) hx hb dX6_setPops_27 (by decide) ?_
          refine lv_istore_n (lv' := [(1, .int 0), (0, .ref (a0 0))]) hx hb dX6_setPops_28 rfl hl (by decide) rfl (fun ls hl => ?_)
          refine lv_iconst (v := 0) hx hb dX6_setPops_29 (by decide) ?_
          refine lv_istore_n (lv' := [(2, .int 0), (1, .int 0), (0, .ref (a0 0))]) hx hb dX6_setPops_30 rfl hl (by decide) rfl (fun ls hl => ?_)
          obtain ⟨q4, hq4, hf⟩ := asb hf
          obtain ⟨nq4, hq4⟩ := wh_out hq4
          have Xq4_1 : ∀ (z4 : Int32 × Int32 × ob) (H : Heap) (locs : List Loc) (ls : Array Slot), q4 = (1, z4) → WD D A s.heap H locs [wX6 K a0 z4.2.2] → lv_has ls 5 [(0, .ref (a0 0)), (1, .int z4.1)] → W P l e (rmS 2 50) s m args below meth c H locs 0 0 (MQ below (QvS D A [wX6 K a0 r]) args s 0 0 A) (F0 m 120 ls []) := by
            intro z4 H locs ls eq4 h hl
            obtain rfl : z4 = q4.2 := by rw [eq4]
            refine lv_goto (tgt := 23) hx hb dX6_setPops_120 (by decide) ?_
            exact ihq2 _ _ _ _ (itr_c huq2 (sor hf)) h (lv_sub hl [0, 1] rfl)
          have Lq4 : ∀ (n : Nat) (z4 : Int32 × Int32 × ob) (H : Heap) (locs : List Loc) (ls : Array Slot), iter f6_setPops_L31 n z4 = some q4 → WD D A s.heap H locs [wX6 K a0 z4.2.2] → lv_has ls 5 [(0, .ref (a0 0)), (1, .int z4.1), (2, .int z4.2.1)] → W P l e (rmS 2 50) s m args below meth c H locs 0 0 (MQ below (QvS D A [wX6 K a0 r]) args s 0 0 A) (F0 m 31 ls []) := by
            intro n
            induction n with
            | zero => intro z4 H locs ls hi; exact (iter_0 hi).elim
            | succ n ihq4 =>
              intro z4 H locs ls hi h hl
              obtain ⟨uq4, hf, huq4⟩ := iter_s hi
              unfold f6_setPops_L31 at hf
              have hf := tob hf
              refine lv_iload_n hx hb dX6_setPops_31 rfl (lv_at hl 2 rfl) ?_
              refine lv_aload_n hx hb dX6_setPops_32 rfl (lv_at hl 0 rfl) ?_
              refine r_get F h (i := 0) (k := 1) (.int (z4.2.2.1 1)) inX6 rfl (by decide) w4 rfl rfl rfl dX6_setPops_33 ?_
              refine lv_icmp_ge (tgt := 120) hx hb dX6_setPops_36 (by decide) (fun c5 => ?_) (fun c5 => ?_)
              · have hf := ifp hf c5
                exact Xq4_1 _ _ _ _ (itr_x huq4 (sor hf)) h (lv_sub hl [0, 1] rfl)
              · have hf := ifn hf c5
                refine lv_iconst (v := 0) hx hb dX6_setPops_39 (by decide) ?_
                refine lv_istore_n (lv' := [(3, .int 0), (0, .ref (a0 0)), (1, .int z4.1), (2, .int z4.2.1)]) hx hb dX6_setPops_40 rfl hl (by decide) rfl (fun ls hl => ?_)
                obtain ⟨q6, hq6, hf⟩ := asb hf
                obtain ⟨nq6, hq6⟩ := wh_out hq6
                have Xq6_1 : ∀ (z6 : Int32 × Int32 × ob) (H : Heap) (locs : List Loc) (ls : Array Slot), q6 = (1, z6) → WD D A s.heap H locs [wX6 K a0 z6.2.2] → lv_has ls 5 [(0, .ref (a0 0)), (1, .int z6.1), (2, .int z4.2.1)] → W P l e (rmS 2 50) s m args below meth c H locs 0 0 (MQ below (QvS D A [wX6 K a0 r]) args s 0 0 A) (F0 m 114 ls []) := by
                  intro z6 H locs ls eq6 h hl
                  obtain rfl : z6 = q6.2 := by rw [eq6]
                  obtain ⟨y7, e7⟩ : ∃ y : Int32, y = z4.2.1 + 1 := ⟨_, rfl⟩
                  have hf := ltb hf e7
                  refine lv_iinc (v := y7) (lv' := [(2, .int y7), (0, .ref (a0 0)), (1, .int q6.2.1)]) hx hb dX6_setPops_114 hl (k := 2) rfl (by rw [e7]; rfl) (by decide) rfl (fun ls hl => ?_)
                  refine lv_goto (tgt := 31) hx hb dX6_setPops_117 (by decide) ?_
                  exact ihq4 _ _ _ _ (itr_c huq4 (sor hf)) h (lv_sub hl [1, 2, 0] rfl)
                have Lq6 : ∀ (n : Nat) (z6 : Int32 × Int32 × ob) (H : Heap) (locs : List Loc) (ls : Array Slot), iter (f6_setPops_L41 z4.2.1) n z6 = some q6 → WD D A s.heap H locs [wX6 K a0 z6.2.2] → lv_has ls 5 [(0, .ref (a0 0)), (1, .int z6.1), (2, .int z4.2.1), (3, .int z6.2.1)] → W P l e (rmS 2 50) s m args below meth c H locs 0 0 (MQ below (QvS D A [wX6 K a0 r]) args s 0 0 A) (F0 m 41 ls []) := by
                  intro n
                  induction n with
                  | zero => intro z6 H locs ls hi; exact (iter_0 hi).elim
                  | succ n ihq6 =>
                    intro z6 H locs ls hi h hl
                    obtain ⟨uq6, hf, huq6⟩ := iter_s hi
                    unfold f6_setPops_L41 at hf
                    have hf := tob hf
                    refine lv_iload_n hx hb dX6_setPops_41 rfl (lv_at hl 3 rfl) ?_
                    refine lv_aload_n hx hb dX6_setPops_42 rfl (lv_at hl 0 rfl) ?_
                    refine r_get F h (i := 0) (k := 0) (.int (z6.2.2.1 0)) inX6 rfl (by decide) w5 rfl rfl rfl dX6_setPops_43 ?_
                    refine lv_icmp_ge (tgt := 114) hx hb dX6_setPops_46 (by decide) (fun c8 => ?_) (fun c8 => ?_)
                    · have hf := ifp hf c8
                      exact Xq6_1 _ _ _ _ (itr_x huq6 (sor hf)) h (lv_sub hl [0, 1, 2] rfl)
                    · have hf := ifn hf c8
                      refine lv_bipush (v := 12) hx hb dX6_setPops_49 (by decide) ?_
                      refine lv_aload_n hx hb dX6_setPops_51 rfl (lv_at hl 0 rfl) ?_
                      refine r_get F h (i := 0) (k := 2) (.ref (a0 3)) inX6 rfl (by decide) w6 rfl rfl rfl dX6_setPops_52 ?_
                      refine lv_bipush (v := 7) hx hb dX6_setPops_55 (by decide) ?_
                      refine lv_iload_n hx hb dX6_setPops_57 rfl (lv_at hl 2 rfl) ?_
                      refine lv_imul hx hb dX6_setPops_58 ?_
                      obtain ⟨g9, hf⟩ := gdb hf
                      refine r_iald F h (i := 0) (j := 1) rfl rfl (vin_ok g9) dX6_setPops_59 ?_
                      refine lv_imul hx hb dX6_setPops_60 ?_
                      refine lv_iconst (v := 3) hx hb dX6_setPops_61 (by decide) ?_
                      refine lv_aload_n hx hb dX6_setPops_62 rfl (lv_at hl 0 rfl) ?_
                      refine r_get F h (i := 0) (k := 2) (.ref (a0 3)) inX6 rfl (by decide) w6 rfl rfl rfl dX6_setPops_63 ?_
                      refine lv_bipush (v := 7) hx hb dX6_setPops_66 (by decide) ?_
                      refine lv_iload_n hx hb dX6_setPops_68 rfl (lv_at hl 2 rfl) ?_
                      refine lv_imul hx hb dX6_setPops_69 ?_
                      refine lv_iconst (v := 1) hx hb dX6_setPops_70 (by decide) ?_
                      refine lv_iadd hx hb dX6_setPops_71 ?_
                      obtain ⟨g10, hf⟩ := gdb hf
                      refine r_iald F h (i := 0) (j := 1) rfl rfl (vin_ok g10) dX6_setPops_72 ?_
                      refine lv_imul hx hb dX6_setPops_73 ?_
                      refine lv_iadd hx hb dX6_setPops_74 ?_
                      refine lv_iload_n hx hb dX6_setPops_75 rfl (lv_at hl 3 rfl) ?_
                      refine lv_iadd hx hb dX6_setPops_76 ?_
                      refine lv_topi (fun y11 e11 => ?_)
                      have hf := ltb hf e11
                      refine lv_istore (lv' := [(4, .int y11), (0, .ref (a0 0)), (1, .int z6.1), (2, .int z4.2.1), (3, .int z6.2.1)]) hx hb dX6_setPops_77 hl (by decide) rfl (fun ls hl => ?_)
                      refine lv_aload_n hx hb dX6_setPops_79 rfl (lv_at hl 1 rfl) ?_
                      refine r_get F h (i := 0) (k := 25) (.ref (a0 26)) inX6 rfl (by decide) w155 rfl rfl rfl dX6_setPops_80 ?_
                      refine lv_iload hx hb dX6_setPops_83 (lv_at hl 0 rfl) ?_
                      obtain ⟨g12, hf⟩ := gdb hf
                      refine r_iald F h (i := 0) (j := 14) rfl rfl (vin_ok g12) dX6_setPops_85 ?_
                      obtain ⟨J13, eJ13, hf⟩ := rgn hf
                      have JW13 : ∀ (v13 : Int32 × ob) (H : Heap) (locs : List Loc) (ls : Array Slot), WD D A s.heap H locs [wX6 K a0 v13.2] → lv_has ls 5 [(0, .ref (a0 0)), (1, .int v13.1), (2, .int z4.2.1), (3, .int z6.2.1)] → J13 v13 = some uq6 → W P l e (rmS 2 50) s m args below meth c H locs 0 0 (MQ below (QvS D A [wX6 K a0 r]) args s 0 0 A) (F0 m 108 ls []) := by
                        intro v13 H locs ls h hl hf
                        have hf := jof eJ13 hf
                        obtain ⟨y14, e14⟩ : ∃ y : Int32, y = z6.2.1 + 1 := ⟨_, rfl⟩
                        have hf := ltb hf e14
                        refine lv_iinc (v := y14) (lv' := [(3, .int y14), (0, .ref (a0 0)), (1, .int v13.1), (2, .int z4.2.1)]) hx hb dX6_setPops_108 hl (k := 3) rfl (by rw [e14]; rfl) (by decide) rfl (fun ls hl => ?_)
                        refine lv_goto (tgt := 41) hx hb dX6_setPops_111 (by decide) ?_
                        exact ihq6 _ _ _ _ (itr_c huq6 (sor hf)) h (lv_sub hl [1, 2, 3, 0] rfl)
                      refine lv_if_ne (tgt := 108) hx hb dX6_setPops_86 (by decide) (fun c15 => ?_) (fun c15 => ?_)
                      · have hf := ifn hf c15
                        exact JW13 (z6.1, z6.2.2) _ _ _ h (lv_sub hl [1, 2, 3, 4] rfl) (sob hf)
                      · have hf := ifp hf c15
                        refine lv_aload_n hx hb dX6_setPops_89 rfl (lv_at hl 1 rfl) ?_
                        refine lv_iload_n hx hb dX6_setPops_90 rfl (lv_at hl 3 rfl) ?_
                        refine lv_iload_n hx hb dX6_setPops_91 rfl (lv_at hl 4 rfl) ?_
                        obtain ⟨q16, h16, hf⟩ := asb hf
                        refine r_callVi (As := [.int z4.2.1, .int z6.2.1]) (rest := []) (C0 := [wX6 K a0 z6.2.2]) (C1 := [wX6 K a0 z6.2.2]) (Rr := []) (S' := [wX6 K a0 z6.2.2]) F h hl (c6_isGone l D K a0 z4.2.1 z6.2.1 z6.2.2 q16 h16) [0] rfl rfl rfl rfl rfl (i := 0) rfl rfl w160 ⟨w161, w162, w163, w2⟩ hsc6_isGone ⟨Nat.le_of_ble_eq_true rfl, Nat.le_of_ble_eq_true rfl⟩ ⟨Nat.le_refl 0, Nat.le_refl 0⟩ (Nat.le_of_ble_eq_true rfl) dX6_setPops_92 (fun H locs h => ?_)
                        refine lv_if_eq (tgt := 108) hx hb dX6_setPops_95 (by decide) (fun c17 => ?_) (fun c17 => ?_)
                        · have hf := ifp hf c17
                          exact JW13 (z6.1, z6.2.2) _ _ _ h (lv_sub hl [1, 2, 3, 4] rfl) (sob hf)
                        · have hf := ifn hf c17
                          refine lv_aload_n hx hb dX6_setPops_98 rfl (lv_at hl 1 rfl) ?_
                          refine r_get F h (i := 0) (k := 25) (.ref (a0 26)) inX6 rfl (by decide) w155 rfl rfl rfl dX6_setPops_99 ?_
                          refine lv_iload hx hb dX6_setPops_102 (lv_at hl 0 rfl) ?_
                          refine lv_iconst (v := 1) hx hb dX6_setPops_104 (by decide) ?_
                          obtain ⟨g18, hf⟩ := gdb hf
                          refine r_iast (o1 := sA z6.2.2 25 y11.toNatClampNeg 1) (w := fun t19 => wX6 K a0 t19) (S' := fun t19 => [wX6 K a0 t19]) F h (i := 0) (j := 14) rfl rfl (vin_ok g18) rfl (fun _ => rfl) dX6_setPops_105 (fun t19 e19 H locs h => ?_)
                          have hf := ltb hf e19
                          refine lv_iconst (v := 1) hx hb dX6_setPops_106 (by decide) ?_
                          refine lv_istore_n (lv' := [(1, .int 1), (4, .int y11), (0, .ref (a0 0)), (2, .int z4.2.1), (3, .int z6.2.1)]) hx hb dX6_setPops_107 rfl hl (by decide) rfl (fun ls hl => ?_)
                          exact JW13 (1, t19) _ _ _ h (lv_sub hl [2, 0, 3, 4] rfl) (sob hf)
                exact Lq6 _ _ _ _ _ hq6 h (lv_sub hl [1, 2, 3, 0] rfl)
          exact Lq4 _ _ _ _ _ hq4 h (lv_sub hl [2, 1, 0] rfl)
    exact Lq2 _ _ _ _ _ hq2 h (lv_sub hl [1, 0] rfl)
  have Lq1 : ∀ (n : Nat) (z1 : Int32 × ob) (H : Heap) (locs : List Loc) (ls : Array Slot), iter f6_setPops_L2 n z1 = some q1 → WD D A s.heap H locs [wX6 K a0 z1.2] → lv_has ls 5 [(0, .ref (a0 0)), (1, .int z1.1)] → W P l e (rmS 2 50) s m args below meth c H locs 0 0 (MQ below (QvS D A [wX6 K a0 r]) args s 0 0 A) (F0 m 2 ls []) := by
    intro n
    induction n with
    | zero => intro z1 H locs ls hi; exact (iter_0 hi).elim
    | succ n ihq1 =>
      intro z1 H locs ls hi h hl
      obtain ⟨uq1, hf, huq1⟩ := iter_s hi
      unfold f6_setPops_L2 at hf
      have hf := tob hf
      refine lv_iload_n hx hb dX6_setPops_2 rfl (lv_at hl 1 rfl) ?_
      refine lv_bipush (v := 36) hx hb dX6_setPops_3 (by decide) ?_
      refine lv_icmp_ge (tgt := 21) hx hb dX6_setPops_5 (by decide) (fun c20 => ?_) (fun c20 => ?_)
      · have hf := ifp hf c20
        exact Xq1_1 _ _ _ _ (itr_x huq1 (sor hf)) h (lv_sub hl [0] rfl)
      · have hf := ifn hf c20
        refine lv_aload_n hx hb dX6_setPops_8 rfl (lv_at hl 0 rfl) ?_
        refine r_get F h (i := 0) (k := 25) (.ref (a0 26)) inX6 rfl (by decide) w155 rfl rfl rfl dX6_setPops_9 ?_
        refine lv_iload_n hx hb dX6_setPops_12 rfl (lv_at hl 1 rfl) ?_
        refine lv_iconst (v := 0) hx hb dX6_setPops_13 (by decide) ?_
        obtain ⟨g21, hf⟩ := gdb hf
        refine r_iast (o1 := sA z1.2 25 z1.1.toNatClampNeg 0) (w := fun t22 => wX6 K a0 t22) (S' := fun t22 => [wX6 K a0 t22]) F h (i := 0) (j := 14) rfl rfl (vin_ok g21) rfl (fun _ => rfl) dX6_setPops_14 (fun t22 e22 H locs h => ?_)
        have hf := ltb hf e22
        obtain ⟨y23, e23⟩ : ∃ y : Int32, y = z1.1 + 1 := ⟨_, rfl⟩
        have hf := ltb hf e23
        refine lv_iinc (v := y23) (lv' := [(1, .int y23), (0, .ref (a0 0))]) hx hb dX6_setPops_15 hl (k := 1) rfl (by rw [e23]; rfl) (by decide) rfl (fun ls hl => ?_)
        refine lv_goto (tgt := 2) hx hb dX6_setPops_18 (by decide) ?_
        exact ihq1 _ _ _ _ (itr_c huq1 (sor hf)) h (lv_sub hl [1, 0] rfl)
  exact Lq1 _ _ _ _ _ hq1 h (lv_sub hl [1, 0] rfl)
def f6_headsOfPile_L129 (g14 : Int32) (z8 : Int32 × ob) : Option (Nat × (Int32 × ob)) :=
  (if 3 ≤ z8.1 then (some (1, (z8.1, z8.2))) else (gd (vin z8.1 3) <| lt (sA z8.2 27 z8.1.toNatClampNeg ((g14 >>> (z8.1 &&& 31)) &&& 1)) fun t12 => lt (z8.1 + 1) fun y13 => some (0, (y13, t12))))
def f6_headsOfPile_L90 (g10 : Int32) (g12 : Int32) (g27 : ob) (z21 : Int32 × Int32) : Option (Nat × (Int32 × Int32)) :=
  (if (g27.1 0) ≤ z21.2 then (some (1, (z21.1, z21.2))) else ((f6_popsBy g12 g10 z21.2 g27).bind fun q23 => lt (z21.1 ||| (q23 <<< (z21.2 &&& 31))) fun y24 => lt (z21.2 + 1) fun y25 => some (0, (y24, y25))))
noncomputable def f6_headsOfPile_L55 (g10 : Int32) (z7 : Int32 × Int32 × ob) : Option (Nat × (Int32 × Int32 × ob)) :=
  (if (z7.2.2.1 0) ≤ z7.2.1 then (some (1, (z7.1, z7.2.1, z7.2.2))) else (gd (vin z7.2.1 3) <| ((if (z7.2.2.2 27 z7.2.1.toNatClampNeg) = 1 then (gd (vin ((4 * z7.2.1) + g10) 12) <| lt (sA z7.2.2 26 ((4 * z7.2.1) + g10).toNatClampNeg 1) fun t20 => (wh (f6_headsOfPile_L90 g10 z7.2.1 t20) (z7.1, 0)).bind fun q21 => some (q21.2.1, t20)) else (some (z7.1, z7.2.2)))).bind fun v16 => lt (z7.2.1 + 1) fun y17 => some (0, (v16.1, y17, v16.2))))
noncomputable def f6_headsOfPile_L39 (z3 : Int32 × ob) : Option (Nat × (Int32 × ob)) :=
  (if z3.1 < 0 then (some (1, (z3.1, z3.2))) else (gd (vin z3.1 12) <| lt (z3.2.2 7 z3.1.toNatClampNeg) fun y6 => (wh (f6_headsOfPile_L55 y6) (0, 0, z3.2)).bind fun q7 => (wh (f6_headsOfPile_L129 q7.2.1) (0, q7.2.2.2)).bind fun q8 => lt (z3.1 + (-1)) fun y9 => some (0, (y9, q8.2.2))))
def f6_headsOfPile_L2 (z1 : Int32 × ob) : Option (Nat × (Int32 × ob)) :=
  (if 3 ≤ z1.1 then (some (1, (z1.1, z1.2))) else (((if z1.1 = (z1.2.1 5) then (some 1) else (some 0))).bind fun v27 => gd (vin z1.1 3) <| lt (sA z1.2 27 z1.1.toNatClampNeg v27) fun t29 => lt (z1.1 + 1) fun y30 => some (0, (y30, t29))))
noncomputable def f6_headsOfPile (o_this : ob) : Option (ob) :=
  (wh f6_headsOfPile_L2 (0, o_this)).bind fun q1 => lt ((q1.2.2.1 6) - 1) fun y2 => (wh f6_headsOfPile_L39 (y2, q1.2.2)).bind fun q3 => some q3.2.2
set_option maxRecDepth 100000 in
set_option maxHeartbeats 4000000 in
theorem c6_headsOfPile (l : Launch) (D : va_G) (K : Nat → ClassId) (a0 : Nat → Nat) (o_this : ob) (r : ob) (hf : f6_headsOfPile o_this = some r) : CTv l yX6_headsOfPile cX6_headsOfPile 6 1 23 D K [.ref (a0 0)] [wX6 K a0 o_this] [wX6 K a0 r] := by
  unfold f6_headsOfPile at hf
  have hf := tob hf
  refine entV (by decide) (Nat.le_of_ble_eq_true rfl) (fun P e s m args below meth c A ls F h hl hin => ?_)
  have hx := F.1
  have hb := F.2.1
  have hl : lv_has ls 6 [(0, .ref (a0 0))] := hl
  refine lv_iconst (v := 0) hx hb dX6_headsOfPile_0 (by decide) ?_
  refine lv_istore_n (lv' := [(1, .int 0), (0, .ref (a0 0))]) hx hb dX6_headsOfPile_1 rfl hl (by decide) rfl (fun ls hl => ?_)
  obtain ⟨q1, hq1, hf⟩ := asb hf
  obtain ⟨nq1, hq1⟩ := wh_out hq1
  have Xq1_1 : ∀ (z1 : Int32 × ob) (H : Heap) (locs : List Loc) (ls : Array Slot), q1 = (1, z1) → WD D A s.heap H locs [wX6 K a0 z1.2] → lv_has ls 6 [(0, .ref (a0 0))] → W P l e (rmS 1 23) s m args below meth c H locs 0 0 (MQ below (QvS D A [wX6 K a0 r]) args s 0 0 A) (F0 m 32 ls []) := by
    intro z1 H locs ls eq1 h hl
    obtain rfl : z1 = q1.2 := by rw [eq1]
    refine lv_aload_n hx hb dX6_headsOfPile_32 rfl (lv_at hl 0 rfl) ?_
    refine r_get F h (i := 0) (k := 6) (.int (q1.2.2.1 6)) inX6 rfl (by decide) w13 rfl rfl rfl dX6_headsOfPile_33 ?_
    refine lv_iconst (v := 1) hx hb dX6_headsOfPile_36 (by decide) ?_
    refine lv_isub hx hb dX6_headsOfPile_37 ?_
    refine lv_topi (fun y2 e2 => ?_)
    have hf := ltb hf e2
    refine lv_istore_n (lv' := [(1, .int y2), (0, .ref (a0 0))]) hx hb dX6_headsOfPile_38 rfl hl (by decide) rfl (fun ls hl => ?_)
    obtain ⟨q3, hq3, hf⟩ := asb hf
    obtain ⟨nq3, hq3⟩ := wh_out hq3
    have Xq3_1 : ∀ (z3 : Int32 × ob) (H : Heap) (locs : List Loc) (ls : Array Slot), q3 = (1, z3) → WD D A s.heap H locs [wX6 K a0 z3.2] → lv_has ls 6 [] → W P l e (rmS 1 23) s m args below meth c H locs 0 0 (MQ below (QvS D A [wX6 K a0 r]) args s 0 0 A) (F0 m 160 ls []) := by
      intro z3 H locs ls eq3 h hl
      obtain rfl : z3 = q3.2 := by rw [eq3]
      obtain rfl := sor hf
      exact r_retv F h dX6_headsOfPile_160
    have Lq3 : ∀ (n : Nat) (z3 : Int32 × ob) (H : Heap) (locs : List Loc) (ls : Array Slot), iter f6_headsOfPile_L39 n z3 = some q3 → WD D A s.heap H locs [wX6 K a0 z3.2] → lv_has ls 6 [(0, .ref (a0 0)), (1, .int z3.1)] → W P l e (rmS 1 23) s m args below meth c H locs 0 0 (MQ below (QvS D A [wX6 K a0 r]) args s 0 0 A) (F0 m 39 ls []) := by
      intro n
      induction n with
      | zero => intro z3 H locs ls hi; exact (iter_0 hi).elim
      | succ n ihq3 =>
        intro z3 H locs ls hi h hl
        obtain ⟨uq3, hf, huq3⟩ := iter_s hi
        unfold f6_headsOfPile_L39 at hf
        have hf := tob hf
        refine lv_iload_n hx hb dX6_headsOfPile_39 rfl (lv_at hl 1 rfl) ?_
        refine lv_if_lt (tgt := 160) hx hb dX6_headsOfPile_40 (by decide) (fun c4 => ?_) (fun c4 => ?_)
        · have hf := ifp hf c4
          exact Xq3_1 _ _ _ _ (itr_x huq3 (sor hf)) h (lv_sub hl [] rfl)
        · have hf := ifn hf c4
          refine lv_aload_n hx hb dX6_headsOfPile_43 rfl (lv_at hl 0 rfl) ?_
          refine r_get F h (i := 0) (k := 7) (.ref (a0 8)) inX6 rfl (by decide) w14 rfl rfl rfl dX6_headsOfPile_44 ?_
          refine lv_iload_n hx hb dX6_headsOfPile_47 rfl (lv_at hl 1 rfl) ?_
          obtain ⟨g5, hf⟩ := gdb hf
          refine r_iald F h (i := 0) (j := 3) rfl rfl (vin_ok g5) dX6_headsOfPile_48 ?_
          refine lv_topi (fun y6 e6 => ?_)
          have hf := ltb hf e6
          refine lv_istore_n (lv' := [(2, .int y6), (0, .ref (a0 0)), (1, .int z3.1)]) hx hb dX6_headsOfPile_49 rfl hl (by decide) rfl (fun ls hl => ?_)
          refine lv_iconst (v := 0) hx hb dX6_headsOfPile_50 (by decide) ?_
          refine lv_istore_n (lv' := [(3, .int 0), (2, .int y6), (0, .ref (a0 0)), (1, .int z3.1)]) hx hb dX6_headsOfPile_51 rfl hl (by decide) rfl (fun ls hl => ?_)
          refine lv_iconst (v := 0) hx hb dX6_headsOfPile_52 (by decide) ?_
          refine lv_istore (lv' := [(4, .int 0), (3, .int 0), (2, .int y6), (0, .ref (a0 0)), (1, .int z3.1)]) hx hb dX6_headsOfPile_53 hl (by decide) rfl (fun ls hl => ?_)
          obtain ⟨q7, hq7, hf⟩ := asb hf
          obtain ⟨nq7, hq7⟩ := wh_out hq7
          have Xq7_1 : ∀ (z7 : Int32 × Int32 × ob) (H : Heap) (locs : List Loc) (ls : Array Slot), q7 = (1, z7) → WD D A s.heap H locs [wX6 K a0 z7.2.2] → lv_has ls 6 [(0, .ref (a0 0)), (1, .int z3.1), (3, .int z7.1)] → W P l e (rmS 1 23) s m args below meth c H locs 0 0 (MQ below (QvS D A [wX6 K a0 r]) args s 0 0 A) (F0 m 126 ls []) := by
            intro z7 H locs ls eq7 h hl
            obtain rfl : z7 = q7.2 := by rw [eq7]
            refine lv_iconst (v := 0) hx hb dX6_headsOfPile_126 (by decide) ?_
            refine lv_istore (lv' := [(4, .int 0), (0, .ref (a0 0)), (1, .int z3.1), (3, .int q7.2.1)]) hx hb dX6_headsOfPile_127 hl (by decide) rfl (fun ls hl => ?_)
            obtain ⟨q8, hq8, hf⟩ := asb hf
            obtain ⟨nq8, hq8⟩ := wh_out hq8
            have Xq8_1 : ∀ (z8 : Int32 × ob) (H : Heap) (locs : List Loc) (ls : Array Slot), q8 = (1, z8) → WD D A s.heap H locs [wX6 K a0 z8.2] → lv_has ls 6 [(0, .ref (a0 0)), (1, .int z3.1)] → W P l e (rmS 1 23) s m args below meth c H locs 0 0 (MQ below (QvS D A [wX6 K a0 r]) args s 0 0 A) (F0 m 154 ls []) := by
              intro z8 H locs ls eq8 h hl
              obtain rfl : z8 = q8.2 := by rw [eq8]
              obtain ⟨y9, e9⟩ : ∃ y : Int32, y = z3.1 + (-1) := ⟨_, rfl⟩
              have hf := ltb hf e9
              refine lv_iinc (v := y9) (lv' := [(1, .int y9), (0, .ref (a0 0))]) hx hb dX6_headsOfPile_154 hl (k := 1) rfl (by rw [e9]; rfl) (by decide) rfl (fun ls hl => ?_)
              refine lv_goto (tgt := 39) hx hb dX6_headsOfPile_157 (by decide) ?_
              exact ihq3 _ _ _ _ (itr_c huq3 (sor hf)) h (lv_sub hl [1, 0] rfl)
            have Lq8 : ∀ (n : Nat) (z8 : Int32 × ob) (H : Heap) (locs : List Loc) (ls : Array Slot), iter (f6_headsOfPile_L129 q7.2.1) n z8 = some q8 → WD D A s.heap H locs [wX6 K a0 z8.2] → lv_has ls 6 [(0, .ref (a0 0)), (1, .int z3.1), (3, .int q7.2.1), (4, .int z8.1)] → W P l e (rmS 1 23) s m args below meth c H locs 0 0 (MQ below (QvS D A [wX6 K a0 r]) args s 0 0 A) (F0 m 129 ls []) := by
              intro n
              induction n with
              | zero => intro z8 H locs ls hi; exact (iter_0 hi).elim
              | succ n ihq8 =>
                intro z8 H locs ls hi h hl
                obtain ⟨uq8, hf, huq8⟩ := iter_s hi
                unfold f6_headsOfPile_L129 at hf
                have hf := tob hf
                refine lv_iload hx hb dX6_headsOfPile_129 (lv_at hl 3 rfl) ?_
                refine lv_iconst (v := 3) hx hb dX6_headsOfPile_131 (by decide) ?_
                refine lv_icmp_ge (tgt := 154) hx hb dX6_headsOfPile_132 (by decide) (fun c10 => ?_) (fun c10 => ?_)
                · have hf := ifp hf c10
                  exact Xq8_1 _ _ _ _ (itr_x huq8 (sor hf)) h (lv_sub hl [0, 1] rfl)
                · have hf := ifn hf c10
                  refine lv_aload_n hx hb dX6_headsOfPile_135 rfl (lv_at hl 0 rfl) ?_
                  refine r_get F h (i := 0) (k := 27) (.ref (a0 28)) inX6 rfl (by decide) w164 rfl rfl rfl dX6_headsOfPile_136 ?_
                  refine lv_iload hx hb dX6_headsOfPile_139 (lv_at hl 3 rfl) ?_
                  refine lv_iload_n hx hb dX6_headsOfPile_141 rfl (lv_at hl 2 rfl) ?_
                  refine lv_iload hx hb dX6_headsOfPile_142 (lv_at hl 3 rfl) ?_
                  refine lv_ishr hx hb dX6_headsOfPile_144 ?_
                  refine lv_iconst (v := 1) hx hb dX6_headsOfPile_145 (by decide) ?_
                  refine lv_iand hx hb dX6_headsOfPile_146 ?_
                  obtain ⟨g11, hf⟩ := gdb hf
                  refine r_iast (o1 := sA z8.2 27 z8.1.toNatClampNeg ((q7.2.1 >>> (z8.1 &&& 31)) &&& 1)) (w := fun t12 => wX6 K a0 t12) (S' := fun t12 => [wX6 K a0 t12]) F h (i := 0) (j := 16) rfl rfl (vin_ok g11) rfl (fun _ => rfl) dX6_headsOfPile_147 (fun t12 e12 H locs h => ?_)
                  have hf := ltb hf e12
                  obtain ⟨y13, e13⟩ : ∃ y : Int32, y = z8.1 + 1 := ⟨_, rfl⟩
                  have hf := ltb hf e13
                  refine lv_iinc (v := y13) (lv' := [(4, .int y13), (0, .ref (a0 0)), (1, .int z3.1), (3, .int q7.2.1)]) hx hb dX6_headsOfPile_148 hl (k := 3) rfl (by rw [e13]; rfl) (by decide) rfl (fun ls hl => ?_)
                  refine lv_goto (tgt := 129) hx hb dX6_headsOfPile_151 (by decide) ?_
                  exact ihq8 _ _ _ _ (itr_c huq8 (sor hf)) h (lv_sub hl [1, 2, 3, 0] rfl)
            exact Lq8 _ _ _ _ _ hq8 h (lv_sub hl [1, 2, 3, 0] rfl)
          have Lq7 : ∀ (n : Nat) (z7 : Int32 × Int32 × ob) (H : Heap) (locs : List Loc) (ls : Array Slot), iter (f6_headsOfPile_L55 y6) n z7 = some q7 → WD D A s.heap H locs [wX6 K a0 z7.2.2] → lv_has ls 6 [(0, .ref (a0 0)), (1, .int z3.1), (2, .int y6), (3, .int z7.1), (4, .int z7.2.1)] → W P l e (rmS 1 23) s m args below meth c H locs 0 0 (MQ below (QvS D A [wX6 K a0 r]) args s 0 0 A) (F0 m 55 ls []) := by
            intro n
            induction n with
            | zero => intro z7 H locs ls hi; exact (iter_0 hi).elim
            | succ n ihq7 =>
              intro z7 H locs ls hi h hl
              obtain ⟨uq7, hf, huq7⟩ := iter_s hi
              unfold f6_headsOfPile_L55 at hf
              have hf := tob hf
              refine lv_iload hx hb dX6_headsOfPile_55 (lv_at hl 4 rfl) ?_
              refine lv_aload_n hx hb dX6_headsOfPile_57 rfl (lv_at hl 0 rfl) ?_
              refine r_get F h (i := 0) (k := 0) (.int (z7.2.2.1 0)) inX6 rfl (by decide) w5 rfl rfl rfl dX6_headsOfPile_58 ?_
              refine lv_icmp_ge (tgt := 126) hx hb dX6_headsOfPile_61 (by decide) (fun c14 => ?_) (fun c14 => ?_)
              · have hf := ifp hf c14
                exact Xq7_1 _ _ _ _ (itr_x huq7 (sor hf)) h (lv_sub hl [0, 1, 3] rfl)
              · have hf := ifn hf c14
                refine lv_aload_n hx hb dX6_headsOfPile_64 rfl (lv_at hl 0 rfl) ?_
                refine r_get F h (i := 0) (k := 27) (.ref (a0 28)) inX6 rfl (by decide) w164 rfl rfl rfl dX6_headsOfPile_65 ?_
                refine lv_iload hx hb dX6_headsOfPile_68 (lv_at hl 4 rfl) ?_
                obtain ⟨g15, hf⟩ := gdb hf
                refine r_iald F h (i := 0) (j := 16) rfl rfl (vin_ok g15) dX6_headsOfPile_70 ?_
                refine lv_iconst (v := 1) hx hb dX6_headsOfPile_71 (by decide) ?_
                obtain ⟨J16, eJ16, hf⟩ := rgn hf
                have JW16 : ∀ (v16 : Int32 × ob) (H : Heap) (locs : List Loc) (ls : Array Slot), WD D A s.heap H locs [wX6 K a0 v16.2] → lv_has ls 6 [(0, .ref (a0 0)), (1, .int z3.1), (2, .int y6), (3, .int v16.1), (4, .int z7.2.1)] → J16 v16 = some uq7 → W P l e (rmS 1 23) s m args below meth c H locs 0 0 (MQ below (QvS D A [wX6 K a0 r]) args s 0 0 A) (F0 m 120 ls []) := by
                  intro v16 H locs ls h hl hf
                  have hf := jof eJ16 hf
                  obtain ⟨y17, e17⟩ : ∃ y : Int32, y = z7.2.1 + 1 := ⟨_, rfl⟩
                  have hf := ltb hf e17
                  refine lv_iinc (v := y17) (lv' := [(4, .int y17), (0, .ref (a0 0)), (1, .int z3.1), (2, .int y6), (3, .int v16.1)]) hx hb dX6_headsOfPile_120 hl (k := 4) rfl (by rw [e17]; rfl) (by decide) rfl (fun ls hl => ?_)
                  refine lv_goto (tgt := 55) hx hb dX6_headsOfPile_123 (by decide) ?_
                  exact ihq7 _ _ _ _ (itr_c huq7 (sor hf)) h (lv_sub hl [1, 2, 3, 4, 0] rfl)
                refine lv_icmp_ne (tgt := 120) hx hb dX6_headsOfPile_72 (by decide) (fun c18 => ?_) (fun c18 => ?_)
                · have hf := ifn hf c18
                  exact JW16 (z7.1, z7.2.2) _ _ _ h (lv_sub hl [0, 1, 2, 3, 4] rfl) (sob hf)
                · have hf := ifp hf c18
                  refine lv_aload_n hx hb dX6_headsOfPile_75 rfl (lv_at hl 0 rfl) ?_
                  refine r_get F h (i := 0) (k := 26) (.ref (a0 27)) inX6 rfl (by decide) w165 rfl rfl rfl dX6_headsOfPile_76 ?_
                  refine lv_iconst (v := 4) hx hb dX6_headsOfPile_79 (by decide) ?_
                  refine lv_iload hx hb dX6_headsOfPile_80 (lv_at hl 4 rfl) ?_
                  refine lv_imul hx hb dX6_headsOfPile_82 ?_
                  refine lv_iload_n hx hb dX6_headsOfPile_83 rfl (lv_at hl 2 rfl) ?_
                  refine lv_iadd hx hb dX6_headsOfPile_84 ?_
                  refine lv_iconst (v := 1) hx hb dX6_headsOfPile_85 (by decide) ?_
                  obtain ⟨g19, hf⟩ := gdb hf
                  refine r_iast (o1 := sA z7.2.2 26 ((4 * z7.2.1) + y6).toNatClampNeg 1) (w := fun t20 => wX6 K a0 t20) (S' := fun t20 => [wX6 K a0 t20]) F h (i := 0) (j := 15) rfl rfl (vin_ok g19) rfl (fun _ => rfl) dX6_headsOfPile_86 (fun t20 e20 H locs h => ?_)
                  have hf := ltb hf e20
                  refine lv_iconst (v := 0) hx hb dX6_headsOfPile_87 (by decide) ?_
                  refine lv_istore (lv' := [(5, .int 0), (0, .ref (a0 0)), (1, .int z3.1), (2, .int y6), (3, .int z7.1), (4, .int z7.2.1)]) hx hb dX6_headsOfPile_88 hl (by decide) rfl (fun ls hl => ?_)
                  obtain ⟨q21, hq21, hf⟩ := asb hf
                  obtain ⟨nq21, hq21⟩ := wh_out hq21
                  have Xq21_1 : ∀ (z21 : Int32 × Int32) (H : Heap) (locs : List Loc) (ls : Array Slot), q21 = (1, z21) → WD D A s.heap H locs [wX6 K a0 t20] → lv_has ls 6 [(0, .ref (a0 0)), (1, .int z3.1), (2, .int y6), (3, .int z21.1), (4, .int z7.2.1)] → W P l e (rmS 1 23) s m args below meth c H locs 0 0 (MQ below (QvS D A [wX6 K a0 r]) args s 0 0 A) (F0 m 120 ls []) := by
                    intro z21 H locs ls eq21 h hl
                    obtain rfl : z21 = q21.2 := by rw [eq21]
                    exact JW16 (q21.2.1, t20) _ _ _ h (lv_sub hl [0, 1, 2, 3, 4] rfl) (sob hf)
                  have Lq21 : ∀ (n : Nat) (z21 : Int32 × Int32) (H : Heap) (locs : List Loc) (ls : Array Slot), iter (f6_headsOfPile_L90 y6 z7.2.1 t20) n z21 = some q21 → WD D A s.heap H locs [wX6 K a0 t20] → lv_has ls 6 [(0, .ref (a0 0)), (1, .int z3.1), (2, .int y6), (3, .int z21.1), (4, .int z7.2.1), (5, .int z21.2)] → W P l e (rmS 1 23) s m args below meth c H locs 0 0 (MQ below (QvS D A [wX6 K a0 r]) args s 0 0 A) (F0 m 90 ls []) := by
                    intro n
                    induction n with
                    | zero => intro z21 H locs ls hi; exact (iter_0 hi).elim
                    | succ n ihq21 =>
                      intro z21 H locs ls hi h hl
                      obtain ⟨uq21, hf, huq21⟩ := iter_s hi
                      unfold f6_headsOfPile_L90 at hf
                      have hf := tob hf
                      refine lv_iload hx hb dX6_headsOfPile_90 (lv_at hl 5 rfl) ?_
                      refine lv_aload_n hx hb dX6_headsOfPile_92 rfl (lv_at hl 0 rfl) ?_
                      refine r_get F h (i := 0) (k := 0) (.int (t20.1 0)) inX6 rfl (by decide) w5 rfl rfl rfl dX6_headsOfPile_93 ?_
                      refine lv_icmp_ge (tgt := 120) hx hb dX6_headsOfPile_96 (by decide) (fun c22 => ?_) (fun c22 => ?_)
                      · have hf := ifp hf c22
                        exact Xq21_1 _ _ _ _ (itr_x huq21 (sor hf)) h (lv_sub hl [0, 1, 2, 3, 4] rfl)
                      · have hf := ifn hf c22
                        refine lv_iload_n hx hb dX6_headsOfPile_99 rfl (lv_at hl 3 rfl) ?_
                        refine lv_aload_n hx hb dX6_headsOfPile_100 rfl (lv_at hl 0 rfl) ?_
                        refine lv_iload hx hb dX6_headsOfPile_101 (lv_at hl 4 rfl) ?_
                        refine lv_iload_n hx hb dX6_headsOfPile_103 rfl (lv_at hl 2 rfl) ?_
                        refine lv_iload hx hb dX6_headsOfPile_104 (lv_at hl 5 rfl) ?_
                        obtain ⟨q23, h23, hf⟩ := asb hf
                        refine r_callVi (As := [.int z7.2.1, .int y6, .int z21.2]) (rest := [.int z21.1]) (C0 := [wX6 K a0 t20]) (C1 := [wX6 K a0 t20]) (Rr := []) (S' := [wX6 K a0 t20]) F h hl (c6_popsBy l D K a0 z7.2.1 y6 z21.2 t20 q23 h23) [0] rfl rfl rfl rfl rfl (i := 0) rfl rfl w156 ⟨w157, w158, w159, w2⟩ hsc6_popsBy ⟨Nat.le_of_ble_eq_true rfl, Nat.le_of_ble_eq_true rfl⟩ ⟨Nat.le_refl 0, Nat.le_refl 0⟩ (Nat.le_of_ble_eq_true rfl) dX6_headsOfPile_106 (fun H locs h => ?_)
                        refine lv_iload hx hb dX6_headsOfPile_109 (lv_at hl 5 rfl) ?_
                        refine lv_ishl hx hb dX6_headsOfPile_111 ?_
                        refine lv_ior hx hb dX6_headsOfPile_112 ?_
                        refine lv_topi (fun y24 e24 => ?_)
                        have hf := ltb hf e24
                        refine lv_istore_n (lv' := [(3, .int y24), (0, .ref (a0 0)), (1, .int z3.1), (2, .int y6), (4, .int z7.2.1), (5, .int z21.2)]) hx hb dX6_headsOfPile_113 rfl hl (by decide) rfl (fun ls hl => ?_)
                        obtain ⟨y25, e25⟩ : ∃ y : Int32, y = z21.2 + 1 := ⟨_, rfl⟩
                        have hf := ltb hf e25
                        refine lv_iinc (v := y25) (lv' := [(5, .int y25), (3, .int y24), (0, .ref (a0 0)), (1, .int z3.1), (2, .int y6), (4, .int z7.2.1)]) hx hb dX6_headsOfPile_114 hl (k := 5) rfl (by rw [e25]; rfl) (by decide) rfl (fun ls hl => ?_)
                        refine lv_goto (tgt := 90) hx hb dX6_headsOfPile_117 (by decide) ?_
                        exact ihq21 _ _ _ _ (itr_c huq21 (sor hf)) h (lv_sub hl [2, 3, 4, 1, 5, 0] rfl)
                  exact Lq21 _ _ _ _ _ hq21 h (lv_sub hl [1, 2, 3, 4, 5, 0] rfl)
          exact Lq7 _ _ _ _ _ hq7 h (lv_sub hl [3, 4, 2, 1, 0] rfl)
    exact Lq3 _ _ _ _ _ hq3 h (lv_sub hl [1, 0] rfl)
  have Lq1 : ∀ (n : Nat) (z1 : Int32 × ob) (H : Heap) (locs : List Loc) (ls : Array Slot), iter f6_headsOfPile_L2 n z1 = some q1 → WD D A s.heap H locs [wX6 K a0 z1.2] → lv_has ls 6 [(0, .ref (a0 0)), (1, .int z1.1)] → W P l e (rmS 1 23) s m args below meth c H locs 0 0 (MQ below (QvS D A [wX6 K a0 r]) args s 0 0 A) (F0 m 2 ls []) := by
    intro n
    induction n with
    | zero => intro z1 H locs ls hi; exact (iter_0 hi).elim
    | succ n ihq1 =>
      intro z1 H locs ls hi h hl
      obtain ⟨uq1, hf, huq1⟩ := iter_s hi
      unfold f6_headsOfPile_L2 at hf
      have hf := tob hf
      refine lv_iload_n hx hb dX6_headsOfPile_2 rfl (lv_at hl 1 rfl) ?_
      refine lv_iconst (v := 3) hx hb dX6_headsOfPile_3 (by decide) ?_
      refine lv_icmp_ge (tgt := 32) hx hb dX6_headsOfPile_4 (by decide) (fun c26 => ?_) (fun c26 => ?_)
      · have hf := ifp hf c26
        exact Xq1_1 _ _ _ _ (itr_x huq1 (sor hf)) h (lv_sub hl [0] rfl)
      · have hf := ifn hf c26
        refine lv_aload_n hx hb dX6_headsOfPile_7 rfl (lv_at hl 0 rfl) ?_
        refine r_get F h (i := 0) (k := 27) (.ref (a0 28)) inX6 rfl (by decide) w164 rfl rfl rfl dX6_headsOfPile_8 ?_
        refine lv_iload_n hx hb dX6_headsOfPile_11 rfl (lv_at hl 1 rfl) ?_
        refine lv_iload_n hx hb dX6_headsOfPile_12 rfl (lv_at hl 1 rfl) ?_
        refine lv_aload_n hx hb dX6_headsOfPile_13 rfl (lv_at hl 0 rfl) ?_
        refine r_get F h (i := 0) (k := 5) (.int (z1.2.1 5)) inX6 rfl (by decide) w15 rfl rfl rfl dX6_headsOfPile_14 ?_
        obtain ⟨J27, eJ27, hf⟩ := rgn hf
        have JW27 : ∀ (v27 : Int32) (H : Heap) (locs : List Loc) (ls : Array Slot), WD D A s.heap H locs [wX6 K a0 z1.2] → lv_has ls 6 [(0, .ref (a0 0)), (1, .int z1.1)] → J27 v27 = some uq1 → W P l e (rmS 1 23) s m args below meth c H locs 0 0 (MQ below (QvS D A [wX6 K a0 r]) args s 0 0 A) (F0 m 25 ls [.int v27, .int z1.1, .ref (a0 28)]) := by
          intro v27 H locs ls h hl hf
          have hf := jof eJ27 hf
          obtain ⟨g28, hf⟩ := gdb hf
          refine r_iast (o1 := sA z1.2 27 z1.1.toNatClampNeg v27) (w := fun t29 => wX6 K a0 t29) (S' := fun t29 => [wX6 K a0 t29]) F h (i := 0) (j := 16) rfl rfl (vin_ok g28) rfl (fun _ => rfl) dX6_headsOfPile_25 (fun t29 e29 H locs h => ?_)
          have hf := ltb hf e29
          obtain ⟨y30, e30⟩ : ∃ y : Int32, y = z1.1 + 1 := ⟨_, rfl⟩
          have hf := ltb hf e30
          refine lv_iinc (v := y30) (lv' := [(1, .int y30), (0, .ref (a0 0))]) hx hb dX6_headsOfPile_26 hl (k := 1) rfl (by rw [e30]; rfl) (by decide) rfl (fun ls hl => ?_)
          refine lv_goto (tgt := 2) hx hb dX6_headsOfPile_29 (by decide) ?_
          exact ihq1 _ _ _ _ (itr_c huq1 (sor hf)) h (lv_sub hl [1, 0] rfl)
        refine lv_icmp_ne (tgt := 24) hx hb dX6_headsOfPile_17 (by decide) (fun c31 => ?_) (fun c31 => ?_)
        · have hf := ifn hf c31
          refine lv_iconst (v := 0) hx hb dX6_headsOfPile_24 (by decide) ?_
          exact JW27 0 _ _ _ h (lv_sub hl [0, 1] rfl) (sob hf)
        · have hf := ifp hf c31
          refine lv_iconst (v := 1) hx hb dX6_headsOfPile_20 (by decide) ?_
          refine lv_goto (tgt := 25) hx hb dX6_headsOfPile_21 (by decide) ?_
          exact JW27 1 _ _ _ h (lv_sub hl [0, 1] rfl) (sob hf)
  exact Lq1 _ _ _ _ _ hq1 h (lv_sub hl [1, 0] rfl)
def f6_headMany_L4 (g0 : ob) (z1 : Int32 × Int32) : Option (Nat × (Int32 × Int32)) :=
  (if 12 ≤ z1.2 then (some (1, (z1.1, z1.2))) else (gd (vin z1.2 12) <| lt (z1.1 + (g0.2 26 z1.2.toNatClampNeg)) fun y4 => lt (z1.2 + 1) fun y5 => some (0, (y4, y5))))
noncomputable def f6_headMany (o_this : ob) : Option (Int32) :=
  (wh (f6_headMany_L4 o_this) (0, 0)).bind fun q1 => some q1.2.1
set_option maxRecDepth 100000 in
set_option maxHeartbeats 4000000 in
theorem c6_headMany (l : Launch) (D : va_G) (K : Nat → ClassId) (a0 : Nat → Nat) (o_this : ob) (r : Int32) (hf : f6_headMany o_this = some r) : CTi l yX6_headMany cX6_headMany 3 (some .int) 0 0 D K [.ref (a0 0)] [wX6 K a0 o_this] [wX6 K a0 o_this] r := by
  unfold f6_headMany at hf
  have hf := tob hf
  refine entI (by decide) (Nat.le_of_ble_eq_true rfl) (fun P e s m args below meth c A ls F h hl hin => ?_)
  have hx := F.1
  have hb := F.2.1
  have hl : lv_has ls 3 [(0, .ref (a0 0))] := hl
  refine lv_iconst (v := 0) hx hb dX6_headMany_0 (by decide) ?_
  refine lv_istore_n (lv' := [(1, .int 0), (0, .ref (a0 0))]) hx hb dX6_headMany_1 rfl hl (by decide) rfl (fun ls hl => ?_)
  refine lv_iconst (v := 0) hx hb dX6_headMany_2 (by decide) ?_
  refine lv_istore_n (lv' := [(2, .int 0), (1, .int 0), (0, .ref (a0 0))]) hx hb dX6_headMany_3 rfl hl (by decide) rfl (fun ls hl => ?_)
  obtain ⟨q1, hq1, hf⟩ := asb hf
  obtain ⟨nq1, hq1⟩ := wh_out hq1
  have Xq1_1 : ∀ (z1 : Int32 × Int32) (H : Heap) (locs : List Loc) (ls : Array Slot), q1 = (1, z1) → WD D A s.heap H locs [wX6 K a0 o_this] → lv_has ls 3 [(1, .int z1.1)] → W P l e (rmS 0 0) s m args below meth c H locs 0 0 (MQ below (QiS D A [wX6 K a0 o_this] r) args s 0 0 A) (F0 m 25 ls []) := by
    intro z1 H locs ls eq1 h hl
    obtain rfl : z1 = q1.2 := by rw [eq1]
    refine lv_iload_n hx hb dX6_headMany_25 rfl (lv_at hl 0 rfl) ?_
    obtain rfl := sor hf
    exact r_reti F h dX6_headMany_26
  have Lq1 : ∀ (n : Nat) (z1 : Int32 × Int32) (H : Heap) (locs : List Loc) (ls : Array Slot), iter (f6_headMany_L4 o_this) n z1 = some q1 → WD D A s.heap H locs [wX6 K a0 o_this] → lv_has ls 3 [(0, .ref (a0 0)), (1, .int z1.1), (2, .int z1.2)] → W P l e (rmS 0 0) s m args below meth c H locs 0 0 (MQ below (QiS D A [wX6 K a0 o_this] r) args s 0 0 A) (F0 m 4 ls []) := by
    intro n
    induction n with
    | zero => intro z1 H locs ls hi; exact (iter_0 hi).elim
    | succ n ihq1 =>
      intro z1 H locs ls hi h hl
      obtain ⟨uq1, hf, huq1⟩ := iter_s hi
      unfold f6_headMany_L4 at hf
      have hf := tob hf
      refine lv_iload_n hx hb dX6_headMany_4 rfl (lv_at hl 2 rfl) ?_
      refine lv_bipush (v := 12) hx hb dX6_headMany_5 (by decide) ?_
      refine lv_icmp_ge (tgt := 25) hx hb dX6_headMany_7 (by decide) (fun c2 => ?_) (fun c2 => ?_)
      · have hf := ifp hf c2
        exact Xq1_1 _ _ _ _ (itr_x huq1 (sor hf)) h (lv_sub hl [1] rfl)
      · have hf := ifn hf c2
        refine lv_iload_n hx hb dX6_headMany_10 rfl (lv_at hl 1 rfl) ?_
        refine lv_aload_n hx hb dX6_headMany_11 rfl (lv_at hl 0 rfl) ?_
        refine r_get F h (i := 0) (k := 26) (.ref (a0 27)) inX6 rfl (by decide) w165 rfl rfl rfl dX6_headMany_12 ?_
        refine lv_iload_n hx hb dX6_headMany_15 rfl (lv_at hl 2 rfl) ?_
        obtain ⟨g3, hf⟩ := gdb hf
        refine r_iald F h (i := 0) (j := 15) rfl rfl (vin_ok g3) dX6_headMany_16 ?_
        refine lv_iadd hx hb dX6_headMany_17 ?_
        refine lv_topi (fun y4 e4 => ?_)
        have hf := ltb hf e4
        refine lv_istore_n (lv' := [(1, .int y4), (0, .ref (a0 0)), (2, .int z1.2)]) hx hb dX6_headMany_18 rfl hl (by decide) rfl (fun ls hl => ?_)
        obtain ⟨y5, e5⟩ : ∃ y : Int32, y = z1.2 + 1 := ⟨_, rfl⟩
        have hf := ltb hf e5
        refine lv_iinc (v := y5) (lv' := [(2, .int y5), (1, .int y4), (0, .ref (a0 0))]) hx hb dX6_headMany_19 hl (k := 2) rfl (by rw [e5]; rfl) (by decide) rfl (fun ls hl => ?_)
        refine lv_goto (tgt := 4) hx hb dX6_headMany_22 (by decide) ?_
        exact ihq1 _ _ _ _ (itr_c huq1 (sor hf)) h (lv_sub hl [2, 1, 0] rfl)
  exact Lq1 _ _ _ _ _ hq1 h (lv_sub hl [2, 1, 0] rfl)
def f6_headsOf_L52 (g0 : Int32) (g2 : Int32) (g3 : Int32) (z6 : Int32 × ob) : Option (Nat × (Int32 × ob)) :=
  (if (z6.2.1 0) ≤ z6.1 then (some (1, (z6.1, z6.2))) else ((if g3 = 2 then (gd (vin ((7 * g0) + 4) 70) <| (f6_popsBy g2 (z6.2.2 2 ((7 * g0) + 4).toNatClampNeg) z6.1 z6.2).bind fun q10 => ((if q10 = 1 then (gd (vin ((7 * g0) + 5) 70) <| gd (vin ((4 * z6.1) + (z6.2.2 2 ((7 * g0) + 5).toNatClampNeg)) 12) <| lt (sA z6.2 26 ((4 * z6.1) + (z6.2.2 2 ((7 * g0) + 5).toNatClampNeg)).toNatClampNeg 1) fun t16 => some t16) else (some z6.2))).bind fun v11 => lt (z6.1 + 1) fun y12 => some (0, (y12, v11))) else (some (1, (z6.1, z6.2))))))
noncomputable def f6_headsOf (x0 : Int32) (o_this : ob) : Option (ob) :=
  gd (vin ((7 * x0) + 2) 70) <| lt (o_this.2 2 ((7 * x0) + 2).toNatClampNeg) fun y2 => gd (vin ((7 * x0) + 3) 70) <| lt (o_this.2 2 ((7 * x0) + 3).toNatClampNeg) fun y4 => ((if y4 ≤ 0 then (some o_this) else (gd (vin ((7 * x0) + 4) 70) <| gd (vin ((4 * y2) + (o_this.2 2 ((7 * x0) + 4).toNatClampNeg)) 12) <| lt (sA o_this 26 ((4 * y2) + (o_this.2 2 ((7 * x0) + 4).toNatClampNeg)).toNatClampNeg 1) fun t20 => some t20))).bind fun v5 => (wh (f6_headsOf_L52 x0 y2 y4) (0, v5)).bind fun q6 => some q6.2.2
set_option maxRecDepth 100000 in
set_option maxHeartbeats 4000000 in
theorem c6_headsOf (l : Launch) (D : va_G) (K : Nat → ClassId) (a0 : Nat → Nat) (x0 : Int32) (o_this : ob) (r : ob) (hf : f6_headsOf x0 o_this = some r) : CTv l yX6_headsOf cX6_headsOf 5 1 23 D K [.ref (a0 0), .int x0] [wX6 K a0 o_this] [wX6 K a0 r] := by
  unfold f6_headsOf at hf
  have hf := tob hf
  refine entV (by decide) (Nat.le_of_ble_eq_true rfl) (fun P e s m args below meth c A ls F h hl hin => ?_)
  have hx := F.1
  have hb := F.2.1
  have hl : lv_has ls 5 [(0, .ref (a0 0)), (1, .int x0)] := hl
  refine lv_aload_n hx hb dX6_headsOf_0 rfl (lv_at hl 0 rfl) ?_
  refine r_get F h (i := 0) (k := 2) (.ref (a0 3)) inX6 rfl (by decide) w6 rfl rfl rfl dX6_headsOf_1 ?_
  refine lv_bipush (v := 7) hx hb dX6_headsOf_4 (by decide) ?_
  refine lv_iload_n hx hb dX6_headsOf_6 rfl (lv_at hl 1 rfl) ?_
  refine lv_imul hx hb dX6_headsOf_7 ?_
  refine lv_iconst (v := 2) hx hb dX6_headsOf_8 (by decide) ?_
  refine lv_iadd hx hb dX6_headsOf_9 ?_
  obtain ⟨g1, hf⟩ := gdb hf
  refine r_iald F h (i := 0) (j := 1) rfl rfl (vin_ok g1) dX6_headsOf_10 ?_
  refine lv_topi (fun y2 e2 => ?_)
  have hf := ltb hf e2
  refine lv_istore_n (lv' := [(2, .int y2), (0, .ref (a0 0)), (1, .int x0)]) hx hb dX6_headsOf_11 rfl hl (by decide) rfl (fun ls hl => ?_)
  refine lv_aload_n hx hb dX6_headsOf_12 rfl (lv_at hl 1 rfl) ?_
  refine r_get F h (i := 0) (k := 2) (.ref (a0 3)) inX6 rfl (by decide) w6 rfl rfl rfl dX6_headsOf_13 ?_
  refine lv_bipush (v := 7) hx hb dX6_headsOf_16 (by decide) ?_
  refine lv_iload_n hx hb dX6_headsOf_18 rfl (lv_at hl 2 rfl) ?_
  refine lv_imul hx hb dX6_headsOf_19 ?_
  refine lv_iconst (v := 3) hx hb dX6_headsOf_20 (by decide) ?_
  refine lv_iadd hx hb dX6_headsOf_21 ?_
  obtain ⟨g3, hf⟩ := gdb hf
  refine r_iald F h (i := 0) (j := 1) rfl rfl (vin_ok g3) dX6_headsOf_22 ?_
  refine lv_topi (fun y4 e4 => ?_)
  have hf := ltb hf e4
  refine lv_istore_n (lv' := [(3, .int y4), (2, .int y2), (0, .ref (a0 0)), (1, .int x0)]) hx hb dX6_headsOf_23 rfl hl (by decide) rfl (fun ls hl => ?_)
  refine lv_iload_n hx hb dX6_headsOf_24 rfl (lv_at hl 0 rfl) ?_
  obtain ⟨J5, eJ5, hf⟩ := rgn hf
  have JW5 : ∀ (v5 : ob) (H : Heap) (locs : List Loc) (ls : Array Slot), WD D A s.heap H locs [wX6 K a0 v5] → lv_has ls 5 [(0, .ref (a0 0)), (1, .int x0), (2, .int y2), (3, .int y4)] → J5 v5 = some r → W P l e (rmS 1 23) s m args below meth c H locs 0 0 (MQ below (QvS D A [wX6 K a0 r]) args s 0 0 A) (F0 m 49 ls []) := by
    intro v5 H locs ls h hl hf
    have hf := jof eJ5 hf
    refine lv_iconst (v := 0) hx hb dX6_headsOf_49 (by decide) ?_
    refine lv_istore (lv' := [(4, .int 0), (0, .ref (a0 0)), (1, .int x0), (2, .int y2), (3, .int y4)]) hx hb dX6_headsOf_50 hl (by decide) rfl (fun ls hl => ?_)
    obtain ⟨q6, hq6, hf⟩ := asb hf
    obtain ⟨nq6, hq6⟩ := wh_out hq6
    have Xq6_1 : ∀ (z6 : Int32 × ob) (H : Heap) (locs : List Loc) (ls : Array Slot), q6 = (1, z6) → WD D A s.heap H locs [wX6 K a0 z6.2] → lv_has ls 5 [] → W P l e (rmS 1 23) s m args below meth c H locs 0 0 (MQ below (QvS D A [wX6 K a0 r]) args s 0 0 A) (F0 m 116 ls []) := by
      intro z6 H locs ls eq6 h hl
      obtain rfl : z6 = q6.2 := by rw [eq6]
      obtain rfl := sor hf
      exact r_retv F h dX6_headsOf_116
    have Lq6 : ∀ (n : Nat) (z6 : Int32 × ob) (H : Heap) (locs : List Loc) (ls : Array Slot), iter (f6_headsOf_L52 x0 y2 y4) n z6 = some q6 → WD D A s.heap H locs [wX6 K a0 z6.2] → lv_has ls 5 [(0, .ref (a0 0)), (1, .int x0), (2, .int y2), (3, .int y4), (4, .int z6.1)] → W P l e (rmS 1 23) s m args below meth c H locs 0 0 (MQ below (QvS D A [wX6 K a0 r]) args s 0 0 A) (F0 m 52 ls []) := by
      intro n
      induction n with
      | zero => intro z6 H locs ls hi; exact (iter_0 hi).elim
      | succ n ihq6 =>
        intro z6 H locs ls hi h hl
        obtain ⟨uq6, hf, huq6⟩ := iter_s hi
        unfold f6_headsOf_L52 at hf
        have hf := tob hf
        refine lv_iload hx hb dX6_headsOf_52 (lv_at hl 4 rfl) ?_
        refine lv_aload_n hx hb dX6_headsOf_54 rfl (lv_at hl 0 rfl) ?_
        refine r_get F h (i := 0) (k := 0) (.int (z6.2.1 0)) inX6 rfl (by decide) w5 rfl rfl rfl dX6_headsOf_55 ?_
        refine lv_icmp_ge (tgt := 116) hx hb dX6_headsOf_58 (by decide) (fun c7 => ?_) (fun c7 => ?_)
        · have hf := ifp hf c7
          exact Xq6_1 _ _ _ _ (itr_x huq6 (sor hf)) h (lv_sub hl [] rfl)
        · have hf := ifn hf c7
          refine lv_iload_n hx hb dX6_headsOf_61 rfl (lv_at hl 3 rfl) ?_
          refine lv_iconst (v := 2) hx hb dX6_headsOf_62 (by decide) ?_
          refine lv_icmp_ne (tgt := 116) hx hb dX6_headsOf_63 (by decide) (fun c8 => ?_) (fun c8 => ?_)
          · have hf := ifn hf c8
            exact Xq6_1 _ _ _ _ (itr_x huq6 (sor hf)) h (lv_sub hl [] rfl)
          · have hf := ifp hf c8
            refine lv_aload_n hx hb dX6_headsOf_66 rfl (lv_at hl 0 rfl) ?_
            refine lv_iload_n hx hb dX6_headsOf_67 rfl (lv_at hl 2 rfl) ?_
            refine lv_aload_n hx hb dX6_headsOf_68 rfl (lv_at hl 0 rfl) ?_
            refine r_get F h (i := 0) (k := 2) (.ref (a0 3)) inX6 rfl (by decide) w6 rfl rfl rfl dX6_headsOf_69 ?_
            refine lv_bipush (v := 7) hx hb dX6_headsOf_72 (by decide) ?_
            refine lv_iload_n hx hb dX6_headsOf_74 rfl (lv_at hl 1 rfl) ?_
            refine lv_imul hx hb dX6_headsOf_75 ?_
            refine lv_iconst (v := 4) hx hb dX6_headsOf_76 (by decide) ?_
            refine lv_iadd hx hb dX6_headsOf_77 ?_
            obtain ⟨g9, hf⟩ := gdb hf
            refine r_iald F h (i := 0) (j := 1) rfl rfl (vin_ok g9) dX6_headsOf_78 ?_
            refine lv_iload hx hb dX6_headsOf_79 (lv_at hl 4 rfl) ?_
            obtain ⟨q10, h10, hf⟩ := asb hf
            refine r_callVi (As := [.int y2, .int (z6.2.2 2 ((7 * x0) + 4).toNatClampNeg), .int z6.1]) (rest := []) (C0 := [wX6 K a0 z6.2]) (C1 := [wX6 K a0 z6.2]) (Rr := []) (S' := [wX6 K a0 z6.2]) F h hl (c6_popsBy l D K a0 y2 (z6.2.2 2 ((7 * x0) + 4).toNatClampNeg) z6.1 z6.2 q10 h10) [0] rfl rfl rfl rfl rfl (i := 0) rfl rfl w156 ⟨w157, w158, w159, w2⟩ hsc6_popsBy ⟨Nat.le_of_ble_eq_true rfl, Nat.le_of_ble_eq_true rfl⟩ ⟨Nat.le_refl 0, Nat.le_refl 0⟩ (Nat.le_of_ble_eq_true rfl) dX6_headsOf_81 (fun H locs h => ?_)
            refine lv_iconst (v := 1) hx hb dX6_headsOf_84 (by decide) ?_
            obtain ⟨J11, eJ11, hf⟩ := rgn hf
            have JW11 : ∀ (v11 : ob) (H : Heap) (locs : List Loc) (ls : Array Slot), WD D A s.heap H locs [wX6 K a0 v11] → lv_has ls 5 [(0, .ref (a0 0)), (1, .int x0), (2, .int y2), (3, .int y4), (4, .int z6.1)] → J11 v11 = some uq6 → W P l e (rmS 1 23) s m args below meth c H locs 0 0 (MQ below (QvS D A [wX6 K a0 r]) args s 0 0 A) (F0 m 110 ls []) := by
              intro v11 H locs ls h hl hf
              have hf := jof eJ11 hf
              obtain ⟨y12, e12⟩ : ∃ y : Int32, y = z6.1 + 1 := ⟨_, rfl⟩
              have hf := ltb hf e12
              refine lv_iinc (v := y12) (lv' := [(4, .int y12), (0, .ref (a0 0)), (1, .int x0), (2, .int y2), (3, .int y4)]) hx hb dX6_headsOf_110 hl (k := 4) rfl (by rw [e12]; rfl) (by decide) rfl (fun ls hl => ?_)
              refine lv_goto (tgt := 52) hx hb dX6_headsOf_113 (by decide) ?_
              exact ihq6 _ _ _ _ (itr_c huq6 (sor hf)) h (lv_sub hl [1, 2, 3, 4, 0] rfl)
            refine lv_icmp_ne (tgt := 110) hx hb dX6_headsOf_85 (by decide) (fun c13 => ?_) (fun c13 => ?_)
            · have hf := ifn hf c13
              exact JW11 z6.2 _ _ _ h (lv_sub hl [0, 1, 2, 3, 4] rfl) (sob hf)
            · have hf := ifp hf c13
              refine lv_aload_n hx hb dX6_headsOf_88 rfl (lv_at hl 0 rfl) ?_
              refine r_get F h (i := 0) (k := 26) (.ref (a0 27)) inX6 rfl (by decide) w165 rfl rfl rfl dX6_headsOf_89 ?_
              refine lv_iconst (v := 4) hx hb dX6_headsOf_92 (by decide) ?_
              refine lv_iload hx hb dX6_headsOf_93 (lv_at hl 4 rfl) ?_
              refine lv_imul hx hb dX6_headsOf_95 ?_
              refine lv_aload_n hx hb dX6_headsOf_96 rfl (lv_at hl 0 rfl) ?_
              refine r_get F h (i := 0) (k := 2) (.ref (a0 3)) inX6 rfl (by decide) w6 rfl rfl rfl dX6_headsOf_97 ?_
              refine lv_bipush (v := 7) hx hb dX6_headsOf_100 (by decide) ?_
              refine lv_iload_n hx hb dX6_headsOf_102 rfl (lv_at hl 1 rfl) ?_
              refine lv_imul hx hb dX6_headsOf_103 ?_
              refine lv_iconst (v := 5) hx hb dX6_headsOf_104 (by decide) ?_
              refine lv_iadd hx hb dX6_headsOf_105 ?_
              obtain ⟨g14, hf⟩ := gdb hf
              refine r_iald F h (i := 0) (j := 1) rfl rfl (vin_ok g14) dX6_headsOf_106 ?_
              refine lv_iadd hx hb dX6_headsOf_107 ?_
              refine lv_iconst (v := 1) hx hb dX6_headsOf_108 (by decide) ?_
              obtain ⟨g15, hf⟩ := gdb hf
              refine r_iast (o1 := sA z6.2 26 ((4 * z6.1) + (z6.2.2 2 ((7 * x0) + 5).toNatClampNeg)).toNatClampNeg 1) (w := fun t16 => wX6 K a0 t16) (S' := fun t16 => [wX6 K a0 t16]) F h (i := 0) (j := 15) rfl rfl (vin_ok g15) rfl (fun _ => rfl) dX6_headsOf_109 (fun t16 e16 H locs h => ?_)
              have hf := ltb hf e16
              exact JW11 t16 _ _ _ h (lv_sub hl [0, 1, 2, 3, 4] rfl) (sob hf)
    exact Lq6 _ _ _ _ _ hq6 h (lv_sub hl [1, 2, 3, 4, 0] rfl)
  refine lv_if_le (tgt := 49) hx hb dX6_headsOf_25 (by decide) (fun c17 => ?_) (fun c17 => ?_)
  · have hf := ifp hf c17
    exact JW5 o_this _ _ _ h (lv_sub hl [2, 3, 1, 0] rfl) (sob hf)
  · have hf := ifn hf c17
    refine lv_aload_n hx hb dX6_headsOf_28 rfl (lv_at hl 2 rfl) ?_
    refine r_get F h (i := 0) (k := 26) (.ref (a0 27)) inX6 rfl (by decide) w165 rfl rfl rfl dX6_headsOf_29 ?_
    refine lv_iconst (v := 4) hx hb dX6_headsOf_32 (by decide) ?_
    refine lv_iload_n hx hb dX6_headsOf_33 rfl (lv_at hl 1 rfl) ?_
    refine lv_imul hx hb dX6_headsOf_34 ?_
    refine lv_aload_n hx hb dX6_headsOf_35 rfl (lv_at hl 2 rfl) ?_
    refine r_get F h (i := 0) (k := 2) (.ref (a0 3)) inX6 rfl (by decide) w6 rfl rfl rfl dX6_headsOf_36 ?_
    refine lv_bipush (v := 7) hx hb dX6_headsOf_39 (by decide) ?_
    refine lv_iload_n hx hb dX6_headsOf_41 rfl (lv_at hl 3 rfl) ?_
    refine lv_imul hx hb dX6_headsOf_42 ?_
    refine lv_iconst (v := 4) hx hb dX6_headsOf_43 (by decide) ?_
    refine lv_iadd hx hb dX6_headsOf_44 ?_
    obtain ⟨g18, hf⟩ := gdb hf
    refine r_iald F h (i := 0) (j := 1) rfl rfl (vin_ok g18) dX6_headsOf_45 ?_
    refine lv_iadd hx hb dX6_headsOf_46 ?_
    refine lv_iconst (v := 1) hx hb dX6_headsOf_47 (by decide) ?_
    obtain ⟨g19, hf⟩ := gdb hf
    refine r_iast (o1 := sA o_this 26 ((4 * y2) + (o_this.2 2 ((7 * x0) + 4).toNatClampNeg)).toNatClampNeg 1) (w := fun t20 => wX6 K a0 t20) (S' := fun t20 => [wX6 K a0 t20]) F h (i := 0) (j := 15) rfl rfl (vin_ok g19) rfl (fun _ => rfl) dX6_headsOf_48 (fun t20 e20 H locs h => ?_)
    have hf := ltb hf e20
    exact JW5 t20 _ _ _ h (lv_sub hl [2, 3, 1, 0] rfl) (sob hf)
noncomputable def f6_setHeads_L46 (z8 : Int32 × ob) : Option (Nat × (Int32 × ob)) :=
  (if (z8.2.1 1) ≤ z8.1 then (some (1, (z8.1, z8.2))) else (gd (vin (7 * z8.1) 70) <| gd (vin ((7 * z8.1) + 1) 70) <| gd (vin ((4 * (z8.2.2 2 (7 * z8.1).toNatClampNeg)) + (z8.2.2 2 ((7 * z8.1) + 1).toNatClampNeg)) 12) <| ((if (z8.2.2 26 ((4 * (z8.2.2 2 (7 * z8.1).toNatClampNeg)) + (z8.2.2 2 ((7 * z8.1) + 1).toNatClampNeg)).toNatClampNeg) = 1 then ((f6_headsOf z8.1 z8.2).bind fun q16 => some q16) else (some z8.2))).bind fun v13 => lt (z8.1 + 1) fun y14 => some (0, (y14, v13))))
noncomputable def f6_setHeads_L31 (z4 : Int32 × ob) : Option (Nat × (Int32 × ob)) :=
  (f6_headMany z4.2).bind fun q5 => (if z4.1 = q5 then (some (1, (z4.1, z4.2))) else ((f6_headMany z4.2).bind fun q7 => (wh f6_setHeads_L46 (0, z4.2)).bind fun q8 => some (0, (q7, q8.2.2))))
def f6_setHeads_L6 (z2 : Int32 × ob) : Option (Nat × (Int32 × ob)) :=
  (if 12 ≤ z2.1 then (some (1, (z2.1, z2.2))) else (gd (vin z2.1 12) <| lt (sA z2.2 26 z2.1.toNatClampNeg 0) fun t19 => lt (z2.1 + 1) fun y20 => some (0, (y20, t19))))
noncomputable def f6_setHeads (o_this : ob) : Option (ob) :=
  (f6_setPops o_this).bind fun q1 => (wh f6_setHeads_L6 (0, q1)).bind fun q2 => (f6_headsOfPile q2.2.2).bind fun q3 => (wh f6_setHeads_L31 ((-1), q3)).bind fun q4 => some q4.2.2
set_option maxRecDepth 100000 in
set_option maxHeartbeats 4000000 in
theorem c6_setHeads (l : Launch) (D : va_G) (K : Nat → ClassId) (a0 : Nat → Nat) (o_this : ob) (r : ob) (hf : f6_setHeads o_this = some r) : CTv l yX6_setHeads cX6_setHeads 3 3 74 D K [.ref (a0 0)] [wX6 K a0 o_this] [wX6 K a0 r] := by
  unfold f6_setHeads at hf
  have hf := tob hf
  refine entV (by decide) (Nat.le_of_ble_eq_true rfl) (fun P e s m args below meth c A ls F h hl hin => ?_)
  have hx := F.1
  have hb := F.2.1
  have hl : lv_has ls 3 [(0, .ref (a0 0))] := hl
  refine lv_aload_n hx hb dX6_setHeads_0 rfl (lv_at hl 0 rfl) ?_
  obtain ⟨q1, h1, hf⟩ := asb hf
  refine r_callVv (As := []) (rest := []) (C0 := [wX6 K a0 o_this]) (C1 := [wX6 K a0 q1]) (Rr := []) (S' := [wX6 K a0 q1]) F h hl (c6_setPops l D K a0 o_this q1 h1) [0] rfl rfl rfl rfl rfl (i := 0) rfl rfl w166 ⟨w167, w168, w169, w2⟩ hsc6_setPops ⟨Nat.le_of_ble_eq_true rfl, Nat.le_of_ble_eq_true rfl⟩ ⟨Nat.le_refl 0, Nat.le_refl 0⟩ (Nat.le_of_ble_eq_true rfl) dX6_setHeads_1 (fun H locs h => ?_)
  refine lv_iconst (v := 0) hx hb dX6_setHeads_4 (by decide) ?_
  refine lv_istore_n (lv' := [(1, .int 0), (0, .ref (a0 0))]) hx hb dX6_setHeads_5 rfl hl (by decide) rfl (fun ls hl => ?_)
  obtain ⟨q2, hq2, hf⟩ := asb hf
  obtain ⟨nq2, hq2⟩ := wh_out hq2
  have Xq2_1 : ∀ (z2 : Int32 × ob) (H : Heap) (locs : List Loc) (ls : Array Slot), q2 = (1, z2) → WD D A s.heap H locs [wX6 K a0 z2.2] → lv_has ls 3 [(0, .ref (a0 0))] → W P l e (rmS 3 74) s m args below meth c H locs 0 0 (MQ below (QvS D A [wX6 K a0 r]) args s 0 0 A) (F0 m 25 ls []) := by
    intro z2 H locs ls eq2 h hl
    obtain rfl : z2 = q2.2 := by rw [eq2]
    refine lv_aload_n hx hb dX6_setHeads_25 rfl (lv_at hl 0 rfl) ?_
    obtain ⟨q3, h3, hf⟩ := asb hf
    refine r_callVv (As := []) (rest := []) (C0 := [wX6 K a0 q2.2.2]) (C1 := [wX6 K a0 q3]) (Rr := []) (S' := [wX6 K a0 q3]) F h hl (c6_headsOfPile l D K a0 q2.2.2 q3 h3) [0] rfl rfl rfl rfl rfl (i := 0) rfl rfl w170 ⟨w171, w172, w173, w2⟩ hsc6_headsOfPile ⟨Nat.le_of_ble_eq_true rfl, Nat.le_of_ble_eq_true rfl⟩ ⟨Nat.le_refl 0, Nat.le_refl 0⟩ (Nat.le_of_ble_eq_true rfl) dX6_setHeads_26 (fun H locs h => ?_)
    refine lv_iconst (v := (-1)) hx hb dX6_setHeads_29 (by decide) ?_
    refine lv_istore_n (lv' := [(1, .int (-1)), (0, .ref (a0 0))]) hx hb dX6_setHeads_30 rfl hl (by decide) rfl (fun ls hl => ?_)
    obtain ⟨q4, hq4, hf⟩ := asb hf
    obtain ⟨nq4, hq4⟩ := wh_out hq4
    have Xq4_1 : ∀ (z4 : Int32 × ob) (H : Heap) (locs : List Loc) (ls : Array Slot), q4 = (1, z4) → WD D A s.heap H locs [wX6 K a0 z4.2] → lv_has ls 3 [] → W P l e (rmS 3 74) s m args below meth c H locs 0 0 (MQ below (QvS D A [wX6 K a0 r]) args s 0 0 A) (F0 m 100 ls []) := by
      intro z4 H locs ls eq4 h hl
      obtain rfl : z4 = q4.2 := by rw [eq4]
      obtain rfl := sor hf
      exact r_retv F h dX6_setHeads_100
    have Lq4 : ∀ (n : Nat) (z4 : Int32 × ob) (H : Heap) (locs : List Loc) (ls : Array Slot), iter f6_setHeads_L31 n z4 = some q4 → WD D A s.heap H locs [wX6 K a0 z4.2] → lv_has ls 3 [(0, .ref (a0 0)), (1, .int z4.1)] → W P l e (rmS 3 74) s m args below meth c H locs 0 0 (MQ below (QvS D A [wX6 K a0 r]) args s 0 0 A) (F0 m 31 ls []) := by
      intro n
      induction n with
      | zero => intro z4 H locs ls hi; exact (iter_0 hi).elim
      | succ n ihq4 =>
        intro z4 H locs ls hi h hl
        obtain ⟨uq4, hf, huq4⟩ := iter_s hi
        unfold f6_setHeads_L31 at hf
        have hf := tob hf
        refine lv_iload_n hx hb dX6_setHeads_31 rfl (lv_at hl 1 rfl) ?_
        refine lv_aload_n hx hb dX6_setHeads_32 rfl (lv_at hl 0 rfl) ?_
        obtain ⟨q5, h5, hf⟩ := asb hf
        refine r_callVi (As := []) (rest := [.int z4.1]) (C0 := [wX6 K a0 z4.2]) (C1 := [wX6 K a0 z4.2]) (Rr := []) (S' := [wX6 K a0 z4.2]) F h hl (c6_headMany l D K a0 z4.2 q5 h5) [0] rfl rfl rfl rfl rfl (i := 0) rfl rfl w174 ⟨w175, w176, w177, w2⟩ hsc6_headMany ⟨Nat.le_of_ble_eq_true rfl, Nat.le_of_ble_eq_true rfl⟩ ⟨Nat.le_refl 0, Nat.le_refl 0⟩ (Nat.le_of_ble_eq_true rfl) dX6_setHeads_33 (fun H locs h => ?_)
        refine lv_icmp_eq (tgt := 100) hx hb dX6_setHeads_36 (by decide) (fun c6 => ?_) (fun c6 => ?_)
        · have hf := ifp hf c6
          exact Xq4_1 _ _ _ _ (itr_x huq4 (sor hf)) h (lv_sub hl [] rfl)
        · have hf := ifn hf c6
          refine lv_aload_n hx hb dX6_setHeads_39 rfl (lv_at hl 0 rfl) ?_
          obtain ⟨q7, h7, hf⟩ := asb hf
          refine r_callVi (As := []) (rest := []) (C0 := [wX6 K a0 z4.2]) (C1 := [wX6 K a0 z4.2]) (Rr := []) (S' := [wX6 K a0 z4.2]) F h hl (c6_headMany l D K a0 z4.2 q7 h7) [0] rfl rfl rfl rfl rfl (i := 0) rfl rfl w174 ⟨w175, w176, w177, w2⟩ hsc6_headMany ⟨Nat.le_of_ble_eq_true rfl, Nat.le_of_ble_eq_true rfl⟩ ⟨Nat.le_refl 0, Nat.le_refl 0⟩ (Nat.le_of_ble_eq_true rfl) dX6_setHeads_40 (fun H locs h => ?_)
          refine lv_istore_n (lv' := [(1, .int q7), (0, .ref (a0 0))]) hx hb dX6_setHeads_43 rfl hl (by decide) rfl (fun ls hl => ?_)
          refine lv_iconst (v := 0) hx hb dX6_setHeads_44 (by decide) ?_
          refine lv_istore_n (lv' := [(2, .int 0), (1, .int q7), (0, .ref (a0 0))]) hx hb dX6_setHeads_45 rfl hl (by decide) rfl (fun ls hl => ?_)
          obtain ⟨q8, hq8, hf⟩ := asb hf
          obtain ⟨nq8, hq8⟩ := wh_out hq8
          have Xq8_1 : ∀ (z8 : Int32 × ob) (H : Heap) (locs : List Loc) (ls : Array Slot), q8 = (1, z8) → WD D A s.heap H locs [wX6 K a0 z8.2] → lv_has ls 3 [(0, .ref (a0 0)), (1, .int q7)] → W P l e (rmS 3 74) s m args below meth c H locs 0 0 (MQ below (QvS D A [wX6 K a0 r]) args s 0 0 A) (F0 m 97 ls []) := by
            intro z8 H locs ls eq8 h hl
            obtain rfl : z8 = q8.2 := by rw [eq8]
            refine lv_goto (tgt := 31) hx hb dX6_setHeads_97 (by decide) ?_
            exact ihq4 _ _ _ _ (itr_c huq4 (sor hf)) h (lv_sub hl [0, 1] rfl)
          have Lq8 : ∀ (n : Nat) (z8 : Int32 × ob) (H : Heap) (locs : List Loc) (ls : Array Slot), iter f6_setHeads_L46 n z8 = some q8 → WD D A s.heap H locs [wX6 K a0 z8.2] → lv_has ls 3 [(0, .ref (a0 0)), (1, .int q7), (2, .int z8.1)] → W P l e (rmS 3 74) s m args below meth c H locs 0 0 (MQ below (QvS D A [wX6 K a0 r]) args s 0 0 A) (F0 m 46 ls []) := by
            intro n
            induction n with
            | zero => intro z8 H locs ls hi; exact (iter_0 hi).elim
            | succ n ihq8 =>
              intro z8 H locs ls hi h hl
              obtain ⟨uq8, hf, huq8⟩ := iter_s hi
              unfold f6_setHeads_L46 at hf
              have hf := tob hf
              refine lv_iload_n hx hb dX6_setHeads_46 rfl (lv_at hl 2 rfl) ?_
              refine lv_aload_n hx hb dX6_setHeads_47 rfl (lv_at hl 0 rfl) ?_
              refine r_get F h (i := 0) (k := 1) (.int (z8.2.1 1)) inX6 rfl (by decide) w4 rfl rfl rfl dX6_setHeads_48 ?_
              refine lv_icmp_ge (tgt := 97) hx hb dX6_setHeads_51 (by decide) (fun c9 => ?_) (fun c9 => ?_)
              · have hf := ifp hf c9
                exact Xq8_1 _ _ _ _ (itr_x huq8 (sor hf)) h (lv_sub hl [0, 1] rfl)
              · have hf := ifn hf c9
                refine lv_aload_n hx hb dX6_setHeads_54 rfl (lv_at hl 0 rfl) ?_
                refine r_get F h (i := 0) (k := 26) (.ref (a0 27)) inX6 rfl (by decide) w165 rfl rfl rfl dX6_setHeads_55 ?_
                refine lv_iconst (v := 4) hx hb dX6_setHeads_58 (by decide) ?_
                refine lv_aload_n hx hb dX6_setHeads_59 rfl (lv_at hl 0 rfl) ?_
                refine r_get F h (i := 0) (k := 2) (.ref (a0 3)) inX6 rfl (by decide) w6 rfl rfl rfl dX6_setHeads_60 ?_
                refine lv_bipush (v := 7) hx hb dX6_setHeads_63 (by decide) ?_
                refine lv_iload_n hx hb dX6_setHeads_65 rfl (lv_at hl 2 rfl) ?_
                refine lv_imul hx hb dX6_setHeads_66 ?_
                obtain ⟨g10, hf⟩ := gdb hf
                refine r_iald F h (i := 0) (j := 1) rfl rfl (vin_ok g10) dX6_setHeads_67 ?_
                refine lv_imul hx hb dX6_setHeads_68 ?_
                refine lv_aload_n hx hb dX6_setHeads_69 rfl (lv_at hl 0 rfl) ?_
                refine r_get F h (i := 0) (k := 2) (.ref (a0 3)) inX6 rfl (by decide) w6 rfl rfl rfl dX6_setHeads_70 ?_
                refine lv_bipush (v := 7) hx hb dX6_setHeads_73 (by decide) ?_
                refine lv_iload_n hx hb dX6_setHeads_75 rfl (lv_at hl 2 rfl) ?_
                refine lv_imul hx hb dX6_setHeads_76 ?_
                refine lv_iconst (v := 1) hx hb dX6_setHeads_77 (by decide) ?_
                refine lv_iadd hx hb dX6_setHeads_78 ?_
                obtain ⟨g11, hf⟩ := gdb hf
                refine r_iald F h (i := 0) (j := 1) rfl rfl (vin_ok g11) dX6_setHeads_79 ?_
                refine lv_iadd hx hb dX6_setHeads_80 ?_
                obtain ⟨g12, hf⟩ := gdb hf
                refine r_iald F h (i := 0) (j := 15) rfl rfl (vin_ok g12) dX6_setHeads_81 ?_
                refine lv_iconst (v := 1) hx hb dX6_setHeads_82 (by decide) ?_
                obtain ⟨J13, eJ13, hf⟩ := rgn hf
                have JW13 : ∀ (v13 : ob) (H : Heap) (locs : List Loc) (ls : Array Slot), WD D A s.heap H locs [wX6 K a0 v13] → lv_has ls 3 [(0, .ref (a0 0)), (1, .int q7), (2, .int z8.1)] → J13 v13 = some uq8 → W P l e (rmS 3 74) s m args below meth c H locs 0 0 (MQ below (QvS D A [wX6 K a0 r]) args s 0 0 A) (F0 m 91 ls []) := by
                  intro v13 H locs ls h hl hf
                  have hf := jof eJ13 hf
                  obtain ⟨y14, e14⟩ : ∃ y : Int32, y = z8.1 + 1 := ⟨_, rfl⟩
                  have hf := ltb hf e14
                  refine lv_iinc (v := y14) (lv' := [(2, .int y14), (0, .ref (a0 0)), (1, .int q7)]) hx hb dX6_setHeads_91 hl (k := 2) rfl (by rw [e14]; rfl) (by decide) rfl (fun ls hl => ?_)
                  refine lv_goto (tgt := 46) hx hb dX6_setHeads_94 (by decide) ?_
                  exact ihq8 _ _ _ _ (itr_c huq8 (sor hf)) h (lv_sub hl [1, 2, 0] rfl)
                refine lv_icmp_ne (tgt := 91) hx hb dX6_setHeads_83 (by decide) (fun c15 => ?_) (fun c15 => ?_)
                · have hf := ifn hf c15
                  exact JW13 z8.2 _ _ _ h (lv_sub hl [0, 1, 2] rfl) (sob hf)
                · have hf := ifp hf c15
                  refine lv_aload_n hx hb dX6_setHeads_86 rfl (lv_at hl 0 rfl) ?_
                  refine lv_iload_n hx hb dX6_setHeads_87 rfl (lv_at hl 2 rfl) ?_
                  obtain ⟨q16, h16, hf⟩ := asb hf
                  refine r_callVv (As := [.int z8.1]) (rest := []) (C0 := [wX6 K a0 z8.2]) (C1 := [wX6 K a0 q16]) (Rr := []) (S' := [wX6 K a0 q16]) F h hl (c6_headsOf l D K a0 z8.1 z8.2 q16 h16) [0] rfl rfl rfl rfl rfl (i := 0) rfl rfl w178 ⟨w179, w180, w181, w2⟩ hsc6_headsOf ⟨Nat.le_of_ble_eq_true rfl, Nat.le_of_ble_eq_true rfl⟩ ⟨Nat.le_refl 0, Nat.le_refl 0⟩ (Nat.le_of_ble_eq_true rfl) dX6_setHeads_88 (fun H locs h => ?_)
                  exact JW13 q16 _ _ _ h (lv_sub hl [0, 1, 2] rfl) (sob hf)
          exact Lq8 _ _ _ _ _ hq8 h (lv_sub hl [2, 1, 0] rfl)
    exact Lq4 _ _ _ _ _ hq4 h (lv_sub hl [1, 0] rfl)
  have Lq2 : ∀ (n : Nat) (z2 : Int32 × ob) (H : Heap) (locs : List Loc) (ls : Array Slot), iter f6_setHeads_L6 n z2 = some q2 → WD D A s.heap H locs [wX6 K a0 z2.2] → lv_has ls 3 [(0, .ref (a0 0)), (1, .int z2.1)] → W P l e (rmS 3 74) s m args below meth c H locs 0 0 (MQ below (QvS D A [wX6 K a0 r]) args s 0 0 A) (F0 m 6 ls []) := by
    intro n
    induction n with
    | zero => intro z2 H locs ls hi; exact (iter_0 hi).elim
    | succ n ihq2 =>
      intro z2 H locs ls hi h hl
      obtain ⟨uq2, hf, huq2⟩ := iter_s hi
      unfold f6_setHeads_L6 at hf
      have hf := tob hf
      refine lv_iload_n hx hb dX6_setHeads_6 rfl (lv_at hl 1 rfl) ?_
      refine lv_bipush (v := 12) hx hb dX6_setHeads_7 (by decide) ?_
      refine lv_icmp_ge (tgt := 25) hx hb dX6_setHeads_9 (by decide) (fun c17 => ?_) (fun c17 => ?_)
      · have hf := ifp hf c17
        exact Xq2_1 _ _ _ _ (itr_x huq2 (sor hf)) h (lv_sub hl [0] rfl)
      · have hf := ifn hf c17
        refine lv_aload_n hx hb dX6_setHeads_12 rfl (lv_at hl 0 rfl) ?_
        refine r_get F h (i := 0) (k := 26) (.ref (a0 27)) inX6 rfl (by decide) w165 rfl rfl rfl dX6_setHeads_13 ?_
        refine lv_iload_n hx hb dX6_setHeads_16 rfl (lv_at hl 1 rfl) ?_
        refine lv_iconst (v := 0) hx hb dX6_setHeads_17 (by decide) ?_
        obtain ⟨g18, hf⟩ := gdb hf
        refine r_iast (o1 := sA z2.2 26 z2.1.toNatClampNeg 0) (w := fun t19 => wX6 K a0 t19) (S' := fun t19 => [wX6 K a0 t19]) F h (i := 0) (j := 15) rfl rfl (vin_ok g18) rfl (fun _ => rfl) dX6_setHeads_18 (fun t19 e19 H locs h => ?_)
        have hf := ltb hf e19
        obtain ⟨y20, e20⟩ : ∃ y : Int32, y = z2.1 + 1 := ⟨_, rfl⟩
        have hf := ltb hf e20
        refine lv_iinc (v := y20) (lv' := [(1, .int y20), (0, .ref (a0 0))]) hx hb dX6_setHeads_19 hl (k := 1) rfl (by rw [e20]; rfl) (by decide) rfl (fun ls hl => ?_)
        refine lv_goto (tgt := 6) hx hb dX6_setHeads_22 (by decide) ?_
        exact ihq2 _ _ _ _ (itr_c huq2 (sor hf)) h (lv_sub hl [1, 0] rfl)
  exact Lq2 _ _ _ _ _ hq2 h (lv_sub hl [1, 0] rfl)
noncomputable def f6_heads (x0 : Int32) (x1 : Int32) (o_this : ob) : Option (Int32 × ob) :=
  (f6_isState x0 o_this).bind fun q1 => (if q1 = 0 then (some ((-1), o_this)) else ((f6_isLetter x1).bind fun q3 => (if q3 = 0 then (some ((-1), o_this)) else ((f6_setHeads o_this).bind fun q5 => gd (vin ((4 * x0) + x1) 12) <| some (q5.2 26 ((4 * x0) + x1).toNatClampNeg, q5)))))
set_option maxRecDepth 100000 in
set_option maxHeartbeats 4000000 in
theorem c6_heads (l : Launch) (D : va_G) (K : Nat → ClassId) (a0 : Nat → Nat) (x0 : Int32) (x1 : Int32) (o_this : ob) (r : Int32 × ob) (hf : f6_heads x0 x1 o_this = some r) : CTi l yX6_heads cX6_heads 3 (some .int) 4 96 D K [.ref (a0 0), .int x0, .int x1] [wX6 K a0 o_this] [wX6 K a0 r.2] r.1 := by
  unfold f6_heads at hf
  have hf := tob hf
  refine entI (by decide) (Nat.le_of_ble_eq_true rfl) (fun P e s m args below meth c A ls F h hl hin => ?_)
  have hx := F.1
  have hb := F.2.1
  have hl : lv_has ls 3 [(0, .ref (a0 0)), (1, .int x0), (2, .int x1)] := hl
  refine lv_aload_n hx hb dX6_heads_0 rfl (lv_at hl 0 rfl) ?_
  refine lv_iload_n hx hb dX6_heads_1 rfl (lv_at hl 1 rfl) ?_
  obtain ⟨q1, h1, hf⟩ := asb hf
  refine r_callVi (As := [.int x0]) (rest := []) (C0 := [wX6 K a0 o_this]) (C1 := [wX6 K a0 o_this]) (Rr := []) (S' := [wX6 K a0 o_this]) F h hl (c6_isState l D K a0 x0 o_this q1 h1) [0] rfl rfl rfl rfl rfl (i := 0) rfl rfl w54 ⟨w55, w56, w57, w2⟩ hsc6_isState ⟨Nat.le_of_ble_eq_true rfl, Nat.le_of_ble_eq_true rfl⟩ ⟨Nat.le_refl 0, Nat.le_refl 0⟩ (Nat.le_of_ble_eq_true rfl) dX6_heads_2 (fun H locs h => ?_)
  refine lv_if_eq (tgt := 15) hx hb dX6_heads_5 (by decide) (fun c2 => ?_) (fun c2 => ?_)
  · have hf := ifp hf c2
    refine lv_iconst (v := (-1)) hx hb dX6_heads_15 (by decide) ?_
    obtain rfl := sor hf
    exact r_reti F h dX6_heads_16
  · have hf := ifn hf c2
    refine lv_iload_n hx hb dX6_heads_8 rfl (lv_at hl 2 rfl) ?_
    obtain ⟨q3, h3, hf⟩ := asb hf
    refine r_callS (As := [.int x1]) (rest := []) F h hl (c6_isLetter l D K x1 q3 h3) w22 ⟨w20, w21, w2⟩ hsc6_isLetter ⟨Nat.le_of_ble_eq_true rfl, Nat.le_of_ble_eq_true rfl⟩ ⟨Nat.le_refl 0, Nat.le_refl 0⟩ (Nat.le_of_ble_eq_true rfl) dX6_heads_9 (fun H locs h => ?_)
    refine lv_if_ne (tgt := 17) hx hb dX6_heads_12 (by decide) (fun c4 => ?_) (fun c4 => ?_)
    · have hf := ifn hf c4
      refine lv_aload_n hx hb dX6_heads_17 rfl (lv_at hl 0 rfl) ?_
      obtain ⟨q5, h5, hf⟩ := asb hf
      refine r_callVv (As := []) (rest := []) (C0 := [wX6 K a0 o_this]) (C1 := [wX6 K a0 q5]) (Rr := []) (S' := [wX6 K a0 q5]) F h hl (c6_setHeads l D K a0 o_this q5 h5) [0] rfl rfl rfl rfl rfl (i := 0) rfl rfl w182 ⟨w183, w184, w185, w2⟩ hsc6_setHeads ⟨Nat.le_of_ble_eq_true rfl, Nat.le_of_ble_eq_true rfl⟩ ⟨Nat.le_refl 0, Nat.le_refl 0⟩ (Nat.le_of_ble_eq_true rfl) dX6_heads_18 (fun H locs h => ?_)
      refine lv_aload_n hx hb dX6_heads_21 rfl (lv_at hl 0 rfl) ?_
      refine r_get F h (i := 0) (k := 26) (.ref (a0 27)) inX6 rfl (by decide) w165 rfl rfl rfl dX6_heads_22 ?_
      refine lv_iconst (v := 4) hx hb dX6_heads_25 (by decide) ?_
      refine lv_iload_n hx hb dX6_heads_26 rfl (lv_at hl 1 rfl) ?_
      refine lv_imul hx hb dX6_heads_27 ?_
      refine lv_iload_n hx hb dX6_heads_28 rfl (lv_at hl 2 rfl) ?_
      refine lv_iadd hx hb dX6_heads_29 ?_
      obtain ⟨g6, hf⟩ := gdb hf
      refine r_iald F h (i := 0) (j := 15) rfl rfl (vin_ok g6) dX6_heads_30 ?_
      obtain rfl := sor hf
      exact r_reti F h dX6_heads_31
    · have hf := ifp hf c4
      refine lv_iconst (v := (-1)) hx hb dX6_heads_15 (by decide) ?_
      obtain rfl := sor hf
      exact r_reti F h dX6_heads_16
noncomputable def f6_empty (x0 : Int32) (o_this : ob) : Option (Int32 × ob) :=
  (f6_isState x0 o_this).bind fun q1 => (if q1 = 0 then (some ((-1), o_this)) else ((f6_setHeads o_this).bind fun q3 => gd (vin x0 3) <| some (q3.2 27 x0.toNatClampNeg, q3)))
set_option maxRecDepth 100000 in
set_option maxHeartbeats 4000000 in
theorem c6_empty (l : Launch) (D : va_G) (K : Nat → ClassId) (a0 : Nat → Nat) (x0 : Int32) (o_this : ob) (r : Int32 × ob) (hf : f6_empty x0 o_this = some r) : CTi l yX6_empty cX6_empty 2 (some .int) 4 96 D K [.ref (a0 0), .int x0] [wX6 K a0 o_this] [wX6 K a0 r.2] r.1 := by
  unfold f6_empty at hf
  have hf := tob hf
  refine entI (by decide) (Nat.le_of_ble_eq_true rfl) (fun P e s m args below meth c A ls F h hl hin => ?_)
  have hx := F.1
  have hb := F.2.1
  have hl : lv_has ls 2 [(0, .ref (a0 0)), (1, .int x0)] := hl
  refine lv_aload_n hx hb dX6_empty_0 rfl (lv_at hl 0 rfl) ?_
  refine lv_iload_n hx hb dX6_empty_1 rfl (lv_at hl 1 rfl) ?_
  obtain ⟨q1, h1, hf⟩ := asb hf
  refine r_callVi (As := [.int x0]) (rest := []) (C0 := [wX6 K a0 o_this]) (C1 := [wX6 K a0 o_this]) (Rr := []) (S' := [wX6 K a0 o_this]) F h hl (c6_isState l D K a0 x0 o_this q1 h1) [0] rfl rfl rfl rfl rfl (i := 0) rfl rfl w54 ⟨w55, w56, w57, w2⟩ hsc6_isState ⟨Nat.le_of_ble_eq_true rfl, Nat.le_of_ble_eq_true rfl⟩ ⟨Nat.le_refl 0, Nat.le_refl 0⟩ (Nat.le_of_ble_eq_true rfl) dX6_empty_2 (fun H locs h => ?_)
  refine lv_if_ne (tgt := 10) hx hb dX6_empty_5 (by decide) (fun c2 => ?_) (fun c2 => ?_)
  · have hf := ifn hf c2
    refine lv_aload_n hx hb dX6_empty_10 rfl (lv_at hl 0 rfl) ?_
    obtain ⟨q3, h3, hf⟩ := asb hf
    refine r_callVv (As := []) (rest := []) (C0 := [wX6 K a0 o_this]) (C1 := [wX6 K a0 q3]) (Rr := []) (S' := [wX6 K a0 q3]) F h hl (c6_setHeads l D K a0 o_this q3 h3) [0] rfl rfl rfl rfl rfl (i := 0) rfl rfl w182 ⟨w183, w184, w185, w2⟩ hsc6_setHeads ⟨Nat.le_of_ble_eq_true rfl, Nat.le_of_ble_eq_true rfl⟩ ⟨Nat.le_refl 0, Nat.le_refl 0⟩ (Nat.le_of_ble_eq_true rfl) dX6_empty_11 (fun H locs h => ?_)
    refine lv_aload_n hx hb dX6_empty_14 rfl (lv_at hl 0 rfl) ?_
    refine r_get F h (i := 0) (k := 27) (.ref (a0 28)) inX6 rfl (by decide) w164 rfl rfl rfl dX6_empty_15 ?_
    refine lv_iload_n hx hb dX6_empty_18 rfl (lv_at hl 1 rfl) ?_
    obtain ⟨g4, hf⟩ := gdb hf
    refine r_iald F h (i := 0) (j := 16) rfl rfl (vin_ok g4) dX6_empty_19 ?_
    obtain rfl := sor hf
    exact r_reti F h dX6_empty_20
  · have hf := ifp hf c2
    refine lv_iconst (v := (-1)) hx hb dX6_empty_8 (by decide) ?_
    obtain rfl := sor hf
    exact r_reti F h dX6_empty_9
def f6_stuck_L42 (g1 : ob) (g4 : Int32) (z8 : Int32 × Int32) : Option (Nat × (Int32 × Int32)) :=
  (if (g1.1 1) ≤ z8.2 then (some (1, (z8.1, z8.2))) else (((if z8.1 = 0 then ((f6_fits z8.2 (g4 / 4) (g4 - g4 / 4 * 4) g1).bind fun q19 => (if q19 = 0 then (some 0) else (some 1))) else (some 1))).bind fun v16 => lt (z8.2 + 1) fun y17 => some (0, (v16, y17))))
noncomputable def f6_stuck_L27 (g1 : ob) (z6 : Int32 × Int32) : Option (Nat × (Int32 × Int32)) :=
  (if (4 * (g1.1 0)) ≤ z6.2 then (some (1, (z6.1, z6.2))) else ((wh (f6_stuck_L42 g1 z6.2) (0, 0)).bind fun q8 => gd (vin z6.2 12) <| ((if (g1.2 26 z6.2.toNatClampNeg) = 1 then ((if q8.2.1 = 0 then (some 1) else (some 0))) else (some 0))).bind fun v10 => lt (z6.1 + v10) fun y11 => lt (z6.2 + 1) fun y12 => some (0, (y11, y12))))
noncomputable def f6_stuck (o_this : ob) : Option (Int32 × ob) :=
  (f6_setHeads o_this).bind fun q1 => gd (vin 0 3) <| gd (vin 1 3) <| gd (vin 2 3) <| lt (((q1.2 27 (0 : Int32).toNatClampNeg) + (q1.2 27 (1 : Int32).toNatClampNeg)) + (q1.2 27 (2 : Int32).toNatClampNeg)) fun y5 => (wh (f6_stuck_L27 q1) (y5, 0)).bind fun q6 => some (q6.2.1, q1)
set_option maxRecDepth 100000 in
set_option maxHeartbeats 4000000 in
theorem c6_stuck (l : Launch) (D : va_G) (K : Nat → ClassId) (a0 : Nat → Nat) (o_this : ob) (r : Int32 × ob) (hf : f6_stuck o_this = some r) : CTi l yX6_stuck cX6_stuck 5 (some .int) 4 96 D K [.ref (a0 0)] [wX6 K a0 o_this] [wX6 K a0 r.2] r.1 := by
  unfold f6_stuck at hf
  have hf := tob hf
  refine entI (by decide) (Nat.le_of_ble_eq_true rfl) (fun P e s m args below meth c A ls F h hl hin => ?_)
  have hx := F.1
  have hb := F.2.1
  have hl : lv_has ls 5 [(0, .ref (a0 0))] := hl
  refine lv_aload_n hx hb dX6_stuck_0 rfl (lv_at hl 0 rfl) ?_
  obtain ⟨q1, h1, hf⟩ := asb hf
  refine r_callVv (As := []) (rest := []) (C0 := [wX6 K a0 o_this]) (C1 := [wX6 K a0 q1]) (Rr := []) (S' := [wX6 K a0 q1]) F h hl (c6_setHeads l D K a0 o_this q1 h1) [0] rfl rfl rfl rfl rfl (i := 0) rfl rfl w182 ⟨w183, w184, w185, w2⟩ hsc6_setHeads ⟨Nat.le_of_ble_eq_true rfl, Nat.le_of_ble_eq_true rfl⟩ ⟨Nat.le_refl 0, Nat.le_refl 0⟩ (Nat.le_of_ble_eq_true rfl) dX6_stuck_1 (fun H locs h => ?_)
  refine lv_aload_n hx hb dX6_stuck_4 rfl (lv_at hl 0 rfl) ?_
  refine r_get F h (i := 0) (k := 27) (.ref (a0 28)) inX6 rfl (by decide) w164 rfl rfl rfl dX6_stuck_5 ?_
  refine lv_iconst (v := 0) hx hb dX6_stuck_8 (by decide) ?_
  obtain ⟨g2, hf⟩ := gdb hf
  refine r_iald F h (i := 0) (j := 16) rfl rfl (vin_ok g2) dX6_stuck_9 ?_
  refine lv_aload_n hx hb dX6_stuck_10 rfl (lv_at hl 0 rfl) ?_
  refine r_get F h (i := 0) (k := 27) (.ref (a0 28)) inX6 rfl (by decide) w164 rfl rfl rfl dX6_stuck_11 ?_
  refine lv_iconst (v := 1) hx hb dX6_stuck_14 (by decide) ?_
  obtain ⟨g3, hf⟩ := gdb hf
  refine r_iald F h (i := 0) (j := 16) rfl rfl (vin_ok g3) dX6_stuck_15 ?_
  refine lv_iadd hx hb dX6_stuck_16 ?_
  refine lv_aload_n hx hb dX6_stuck_17 rfl (lv_at hl 0 rfl) ?_
  refine r_get F h (i := 0) (k := 27) (.ref (a0 28)) inX6 rfl (by decide) w164 rfl rfl rfl dX6_stuck_18 ?_
  refine lv_iconst (v := 2) hx hb dX6_stuck_21 (by decide) ?_
  obtain ⟨g4, hf⟩ := gdb hf
  refine r_iald F h (i := 0) (j := 16) rfl rfl (vin_ok g4) dX6_stuck_22 ?_
  refine lv_iadd hx hb dX6_stuck_23 ?_
  refine lv_topi (fun y5 e5 => ?_)
  have hf := ltb hf e5
  refine lv_istore_n (lv' := [(1, .int y5), (0, .ref (a0 0))]) hx hb dX6_stuck_24 rfl hl (by decide) rfl (fun ls hl => ?_)
  refine lv_iconst (v := 0) hx hb dX6_stuck_25 (by decide) ?_
  refine lv_istore_n (lv' := [(2, .int 0), (1, .int y5), (0, .ref (a0 0))]) hx hb dX6_stuck_26 rfl hl (by decide) rfl (fun ls hl => ?_)
  obtain ⟨q6, hq6, hf⟩ := asb hf
  obtain ⟨nq6, hq6⟩ := wh_out hq6
  have Xq6_1 : ∀ (z6 : Int32 × Int32) (H : Heap) (locs : List Loc) (ls : Array Slot), q6 = (1, z6) → WD D A s.heap H locs [wX6 K a0 q1] → lv_has ls 5 [(1, .int z6.1)] → W P l e (rmS 4 96) s m args below meth c H locs 0 0 (MQ below (QiS D A [wX6 K a0 r.2] r.1) args s 0 0 A) (F0 m 110 ls []) := by
    intro z6 H locs ls eq6 h hl
    obtain rfl : z6 = q6.2 := by rw [eq6]
    refine lv_iload_n hx hb dX6_stuck_110 rfl (lv_at hl 0 rfl) ?_
    obtain rfl := sor hf
    exact r_reti F h dX6_stuck_111
  have Lq6 : ∀ (n : Nat) (z6 : Int32 × Int32) (H : Heap) (locs : List Loc) (ls : Array Slot), iter (f6_stuck_L27 q1) n z6 = some q6 → WD D A s.heap H locs [wX6 K a0 q1] → lv_has ls 5 [(0, .ref (a0 0)), (1, .int z6.1), (2, .int z6.2)] → W P l e (rmS 4 96) s m args below meth c H locs 0 0 (MQ below (QiS D A [wX6 K a0 r.2] r.1) args s 0 0 A) (F0 m 27 ls []) := by
    intro n
    induction n with
    | zero => intro z6 H locs ls hi; exact (iter_0 hi).elim
    | succ n ihq6 =>
      intro z6 H locs ls hi h hl
      obtain ⟨uq6, hf, huq6⟩ := iter_s hi
      unfold f6_stuck_L27 at hf
      have hf := tob hf
      refine lv_iload_n hx hb dX6_stuck_27 rfl (lv_at hl 2 rfl) ?_
      refine lv_iconst (v := 4) hx hb dX6_stuck_28 (by decide) ?_
      refine lv_aload_n hx hb dX6_stuck_29 rfl (lv_at hl 0 rfl) ?_
      refine r_get F h (i := 0) (k := 0) (.int (q1.1 0)) inX6 rfl (by decide) w5 rfl rfl rfl dX6_stuck_30 ?_
      refine lv_imul hx hb dX6_stuck_33 ?_
      refine lv_icmp_ge (tgt := 110) hx hb dX6_stuck_34 (by decide) (fun c7 => ?_) (fun c7 => ?_)
      · have hf := ifp hf c7
        exact Xq6_1 _ _ _ _ (itr_x huq6 (sor hf)) h (lv_sub hl [1] rfl)
      · have hf := ifn hf c7
        refine lv_iconst (v := 0) hx hb dX6_stuck_37 (by decide) ?_
        refine lv_istore_n (lv' := [(3, .int 0), (0, .ref (a0 0)), (1, .int z6.1), (2, .int z6.2)]) hx hb dX6_stuck_38 rfl hl (by decide) rfl (fun ls hl => ?_)
        refine lv_iconst (v := 0) hx hb dX6_stuck_39 (by decide) ?_
        refine lv_istore (lv' := [(4, .int 0), (3, .int 0), (0, .ref (a0 0)), (1, .int z6.1), (2, .int z6.2)]) hx hb dX6_stuck_40 hl (by decide) rfl (fun ls hl => ?_)
        obtain ⟨q8, hq8, hf⟩ := asb hf
        obtain ⟨nq8, hq8⟩ := wh_out hq8
        have Xq8_1 : ∀ (z8 : Int32 × Int32) (H : Heap) (locs : List Loc) (ls : Array Slot), q8 = (1, z8) → WD D A s.heap H locs [wX6 K a0 q1] → lv_has ls 5 [(0, .ref (a0 0)), (1, .int z6.1), (2, .int z6.2), (3, .int z8.1)] → W P l e (rmS 4 96) s m args below meth c H locs 0 0 (MQ below (QiS D A [wX6 K a0 r.2] r.1) args s 0 0 A) (F0 m 82 ls []) := by
          intro z8 H locs ls eq8 h hl
          obtain rfl : z8 = q8.2 := by rw [eq8]
          refine lv_iload_n hx hb dX6_stuck_82 rfl (lv_at hl 1 rfl) ?_
          refine lv_aload_n hx hb dX6_stuck_83 rfl (lv_at hl 0 rfl) ?_
          refine r_get F h (i := 0) (k := 26) (.ref (a0 27)) inX6 rfl (by decide) w165 rfl rfl rfl dX6_stuck_84 ?_
          refine lv_iload_n hx hb dX6_stuck_87 rfl (lv_at hl 2 rfl) ?_
          obtain ⟨g9, hf⟩ := gdb hf
          refine r_iald F h (i := 0) (j := 15) rfl rfl (vin_ok g9) dX6_stuck_88 ?_
          refine lv_iconst (v := 1) hx hb dX6_stuck_89 (by decide) ?_
          obtain ⟨J10, eJ10, hf⟩ := rgn hf
          have JW10 : ∀ (v10 : Int32) (H : Heap) (locs : List Loc) (ls : Array Slot), WD D A s.heap H locs [wX6 K a0 q1] → lv_has ls 5 [(0, .ref (a0 0)), (2, .int z6.2)] → J10 v10 = some uq6 → W P l e (rmS 4 96) s m args below meth c H locs 0 0 (MQ below (QiS D A [wX6 K a0 r.2] r.1) args s 0 0 A) (F0 m 102 ls [.int v10, .int z6.1]) := by
            intro v10 H locs ls h hl hf
            have hf := jof eJ10 hf
            refine lv_iadd hx hb dX6_stuck_102 ?_
            refine lv_topi (fun y11 e11 => ?_)
            have hf := ltb hf e11
            refine lv_istore_n (lv' := [(1, .int y11), (0, .ref (a0 0)), (2, .int z6.2)]) hx hb dX6_stuck_103 rfl hl (by decide) rfl (fun ls hl => ?_)
            obtain ⟨y12, e12⟩ : ∃ y : Int32, y = z6.2 + 1 := ⟨_, rfl⟩
            have hf := ltb hf e12
            refine lv_iinc (v := y12) (lv' := [(2, .int y12), (1, .int y11), (0, .ref (a0 0))]) hx hb dX6_stuck_104 hl (k := 2) rfl (by rw [e12]; rfl) (by decide) rfl (fun ls hl => ?_)
            refine lv_goto (tgt := 27) hx hb dX6_stuck_107 (by decide) ?_
            exact ihq6 _ _ _ _ (itr_c huq6 (sor hf)) h (lv_sub hl [2, 1, 0] rfl)
          refine lv_icmp_ne (tgt := 101) hx hb dX6_stuck_90 (by decide) (fun c13 => ?_) (fun c13 => ?_)
          · have hf := ifn hf c13
            refine lv_iconst (v := 0) hx hb dX6_stuck_101 (by decide) ?_
            exact JW10 0 _ _ _ h (lv_sub hl [0, 2] rfl) (sob hf)
          · have hf := ifp hf c13
            refine lv_iload_n hx hb dX6_stuck_93 rfl (lv_at hl 3 rfl) ?_
            refine lv_if_ne (tgt := 101) hx hb dX6_stuck_94 (by decide) (fun c14 => ?_) (fun c14 => ?_)
            · have hf := ifn hf c14
              refine lv_iconst (v := 0) hx hb dX6_stuck_101 (by decide) ?_
              exact JW10 0 _ _ _ h (lv_sub hl [0, 2] rfl) (sob hf)
            · have hf := ifp hf c14
              refine lv_iconst (v := 1) hx hb dX6_stuck_97 (by decide) ?_
              refine lv_goto (tgt := 102) hx hb dX6_stuck_98 (by decide) ?_
              exact JW10 1 _ _ _ h (lv_sub hl [0, 2] rfl) (sob hf)
        have Lq8 : ∀ (n : Nat) (z8 : Int32 × Int32) (H : Heap) (locs : List Loc) (ls : Array Slot), iter (f6_stuck_L42 q1 z6.2) n z8 = some q8 → WD D A s.heap H locs [wX6 K a0 q1] → lv_has ls 5 [(0, .ref (a0 0)), (1, .int z6.1), (2, .int z6.2), (3, .int z8.1), (4, .int z8.2)] → W P l e (rmS 4 96) s m args below meth c H locs 0 0 (MQ below (QiS D A [wX6 K a0 r.2] r.1) args s 0 0 A) (F0 m 42 ls []) := by
          intro n
          induction n with
          | zero => intro z8 H locs ls hi; exact (iter_0 hi).elim
          | succ n ihq8 =>
            intro z8 H locs ls hi h hl
            obtain ⟨uq8, hf, huq8⟩ := iter_s hi
            unfold f6_stuck_L42 at hf
            have hf := tob hf
            refine lv_iload hx hb dX6_stuck_42 (lv_at hl 4 rfl) ?_
            refine lv_aload_n hx hb dX6_stuck_44 rfl (lv_at hl 0 rfl) ?_
            refine r_get F h (i := 0) (k := 1) (.int (q1.1 1)) inX6 rfl (by decide) w4 rfl rfl rfl dX6_stuck_45 ?_
            refine lv_icmp_ge (tgt := 82) hx hb dX6_stuck_48 (by decide) (fun c15 => ?_) (fun c15 => ?_)
            · have hf := ifp hf c15
              exact Xq8_1 _ _ _ _ (itr_x huq8 (sor hf)) h (lv_sub hl [0, 1, 2, 3] rfl)
            · have hf := ifn hf c15
              refine lv_iload_n hx hb dX6_stuck_51 rfl (lv_at hl 3 rfl) ?_
              obtain ⟨J16, eJ16, hf⟩ := rgn hf
              have JW16 : ∀ (v16 : Int32) (H : Heap) (locs : List Loc) (ls : Array Slot), WD D A s.heap H locs [wX6 K a0 q1] → lv_has ls 5 [(0, .ref (a0 0)), (1, .int z6.1), (2, .int z6.2), (4, .int z8.2)] → J16 v16 = some uq8 → W P l e (rmS 4 96) s m args below meth c H locs 0 0 (MQ below (QiS D A [wX6 K a0 r.2] r.1) args s 0 0 A) (F0 m 75 ls [.int v16]) := by
                intro v16 H locs ls h hl hf
                have hf := jof eJ16 hf
                refine lv_istore_n (lv' := [(3, .int v16), (0, .ref (a0 0)), (1, .int z6.1), (2, .int z6.2), (4, .int z8.2)]) hx hb dX6_stuck_75 rfl hl (by decide) rfl (fun ls hl => ?_)
                obtain ⟨y17, e17⟩ : ∃ y : Int32, y = z8.2 + 1 := ⟨_, rfl⟩
                have hf := ltb hf e17
                refine lv_iinc (v := y17) (lv' := [(4, .int y17), (3, .int v16), (0, .ref (a0 0)), (1, .int z6.1), (2, .int z6.2)]) hx hb dX6_stuck_76 hl (k := 4) rfl (by rw [e17]; rfl) (by decide) rfl (fun ls hl => ?_)
                refine lv_goto (tgt := 42) hx hb dX6_stuck_79 (by decide) ?_
                exact ihq8 _ _ _ _ (itr_c huq8 (sor hf)) h (lv_sub hl [2, 3, 4, 1, 0] rfl)
              refine lv_if_ne (tgt := 70) hx hb dX6_stuck_52 (by decide) (fun c18 => ?_) (fun c18 => ?_)
              · have hf := ifn hf c18
                refine lv_iconst (v := 1) hx hb dX6_stuck_70 (by decide) ?_
                refine lv_goto (tgt := 75) hx hb dX6_stuck_71 (by decide) ?_
                exact JW16 1 _ _ _ h (lv_sub hl [0, 1, 2, 4] rfl) (sob hf)
              · have hf := ifp hf c18
                refine lv_aload_n hx hb dX6_stuck_55 rfl (lv_at hl 0 rfl) ?_
                refine lv_iload hx hb dX6_stuck_56 (lv_at hl 4 rfl) ?_
                refine lv_iload_n hx hb dX6_stuck_58 rfl (lv_at hl 2 rfl) ?_
                refine lv_iconst (v := 4) hx hb dX6_stuck_59 (by decide) ?_
                refine lv_idiv hx hb dX6_stuck_60 (by decide) ?_
                refine lv_iload_n hx hb dX6_stuck_61 rfl (lv_at hl 2 rfl) ?_
                refine lv_iconst (v := 4) hx hb dX6_stuck_62 (by decide) ?_
                refine lv_irem hx hb dX6_stuck_63 (by decide) ?_
                obtain ⟨q19, h19, hf⟩ := asb hf
                refine r_callVi (As := [.int z8.2, .int (z6.2 / 4), .int (z6.2 - z6.2 / 4 * 4)]) (rest := []) (C0 := [wX6 K a0 q1]) (C1 := [wX6 K a0 q1]) (Rr := []) (S' := [wX6 K a0 q1]) F h hl (c6_fits l D K a0 z8.2 (z6.2 / 4) (z6.2 - z6.2 / 4 * 4) q1 q19 h19) [0] rfl rfl rfl rfl rfl (i := 0) rfl rfl w46 ⟨w47, w48, w49, w2⟩ hsc6_fits ⟨Nat.le_of_ble_eq_true rfl, Nat.le_of_ble_eq_true rfl⟩ ⟨Nat.le_refl 0, Nat.le_refl 0⟩ (Nat.le_of_ble_eq_true rfl) dX6_stuck_64 (fun H locs h => ?_)
                refine lv_if_eq (tgt := 74) hx hb dX6_stuck_67 (by decide) (fun c20 => ?_) (fun c20 => ?_)
                · have hf := ifp hf c20
                  refine lv_iconst (v := 0) hx hb dX6_stuck_74 (by decide) ?_
                  exact JW16 0 _ _ _ h (lv_sub hl [0, 1, 2, 4] rfl) (sob hf)
                · have hf := ifn hf c20
                  refine lv_iconst (v := 1) hx hb dX6_stuck_70 (by decide) ?_
                  refine lv_goto (tgt := 75) hx hb dX6_stuck_71 (by decide) ?_
                  exact JW16 1 _ _ _ h (lv_sub hl [0, 1, 2, 4] rfl) (sob hf)
        exact Lq8 _ _ _ _ _ hq8 h (lv_sub hl [2, 3, 4, 1, 0] rfl)
  exact Lq6 _ _ _ _ _ hq6 h (lv_sub hl [2, 1, 0] rfl)
def f6_fitting_L4 (g0 : ob) (z1 : Int32 × Int32) : Option (Nat × (Int32 × Int32)) :=
  (if (g0.1 1) ≤ z1.2 then (some (1, (z1.1, z1.2))) else ((if (g0.1 6) ≤ 0 then (some (1, (z1.1, z1.2))) else (gd (vin ((g0.1 6) - 1) 12) <| (f6_fits z1.2 (g0.1 5) (g0.2 7 ((g0.1 6) - 1).toNatClampNeg) g0).bind fun q5 => ((if q5 = 0 then (some 0) else (some 1))).bind fun v6 => lt (z1.1 + v6) fun y7 => lt (z1.2 + 1) fun y8 => some (0, (y7, y8))))))
noncomputable def f6_fitting (o_this : ob) : Option (Int32) :=
  (wh (f6_fitting_L4 o_this) (0, 0)).bind fun q1 => some q1.2.1
set_option maxRecDepth 100000 in
set_option maxHeartbeats 4000000 in
theorem c6_fitting (l : Launch) (D : va_G) (K : Nat → ClassId) (a0 : Nat → Nat) (o_this : ob) (r : Int32) (hf : f6_fitting o_this = some r) : CTi l yX6_fitting cX6_fitting 3 (some .int) 1 23 D K [.ref (a0 0)] [wX6 K a0 o_this] [wX6 K a0 o_this] r := by
  unfold f6_fitting at hf
  have hf := tob hf
  refine entI (by decide) (Nat.le_of_ble_eq_true rfl) (fun P e s m args below meth c A ls F h hl hin => ?_)
  have hx := F.1
  have hb := F.2.1
  have hl : lv_has ls 3 [(0, .ref (a0 0))] := hl
  refine lv_iconst (v := 0) hx hb dX6_fitting_0 (by decide) ?_
  refine lv_istore_n (lv' := [(1, .int 0), (0, .ref (a0 0))]) hx hb dX6_fitting_1 rfl hl (by decide) rfl (fun ls hl => ?_)
  refine lv_iconst (v := 0) hx hb dX6_fitting_2 (by decide) ?_
  refine lv_istore_n (lv' := [(2, .int 0), (1, .int 0), (0, .ref (a0 0))]) hx hb dX6_fitting_3 rfl hl (by decide) rfl (fun ls hl => ?_)
  obtain ⟨q1, hq1, hf⟩ := asb hf
  obtain ⟨nq1, hq1⟩ := wh_out hq1
  have Xq1_1 : ∀ (z1 : Int32 × Int32) (H : Heap) (locs : List Loc) (ls : Array Slot), q1 = (1, z1) → WD D A s.heap H locs [wX6 K a0 o_this] → lv_has ls 3 [(1, .int z1.1)] → W P l e (rmS 1 23) s m args below meth c H locs 0 0 (MQ below (QiS D A [wX6 K a0 o_this] r) args s 0 0 A) (F0 m 56 ls []) := by
    intro z1 H locs ls eq1 h hl
    obtain rfl : z1 = q1.2 := by rw [eq1]
    refine lv_iload_n hx hb dX6_fitting_56 rfl (lv_at hl 0 rfl) ?_
    obtain rfl := sor hf
    exact r_reti F h dX6_fitting_57
  have Lq1 : ∀ (n : Nat) (z1 : Int32 × Int32) (H : Heap) (locs : List Loc) (ls : Array Slot), iter (f6_fitting_L4 o_this) n z1 = some q1 → WD D A s.heap H locs [wX6 K a0 o_this] → lv_has ls 3 [(0, .ref (a0 0)), (1, .int z1.1), (2, .int z1.2)] → W P l e (rmS 1 23) s m args below meth c H locs 0 0 (MQ below (QiS D A [wX6 K a0 o_this] r) args s 0 0 A) (F0 m 4 ls []) := by
    intro n
    induction n with
    | zero => intro z1 H locs ls hi; exact (iter_0 hi).elim
    | succ n ihq1 =>
      intro z1 H locs ls hi h hl
      obtain ⟨uq1, hf, huq1⟩ := iter_s hi
      unfold f6_fitting_L4 at hf
      have hf := tob hf
      refine lv_iload_n hx hb dX6_fitting_4 rfl (lv_at hl 2 rfl) ?_
      refine lv_aload_n hx hb dX6_fitting_5 rfl (lv_at hl 0 rfl) ?_
      refine r_get F h (i := 0) (k := 1) (.int (o_this.1 1)) inX6 rfl (by decide) w4 rfl rfl rfl dX6_fitting_6 ?_
      refine lv_icmp_ge (tgt := 56) hx hb dX6_fitting_9 (by decide) (fun c2 => ?_) (fun c2 => ?_)
      · have hf := ifp hf c2
        exact Xq1_1 _ _ _ _ (itr_x huq1 (sor hf)) h (lv_sub hl [1] rfl)
      · have hf := ifn hf c2
        refine lv_aload_n hx hb dX6_fitting_12 rfl (lv_at hl 0 rfl) ?_
        refine r_get F h (i := 0) (k := 6) (.int (o_this.1 6)) inX6 rfl (by decide) w13 rfl rfl rfl dX6_fitting_13 ?_
        refine lv_if_le (tgt := 56) hx hb dX6_fitting_16 (by decide) (fun c3 => ?_) (fun c3 => ?_)
        · have hf := ifp hf c3
          exact Xq1_1 _ _ _ _ (itr_x huq1 (sor hf)) h (lv_sub hl [1] rfl)
        · have hf := ifn hf c3
          refine lv_iload_n hx hb dX6_fitting_19 rfl (lv_at hl 1 rfl) ?_
          refine lv_aload_n hx hb dX6_fitting_20 rfl (lv_at hl 0 rfl) ?_
          refine lv_iload_n hx hb dX6_fitting_21 rfl (lv_at hl 2 rfl) ?_
          refine lv_aload_n hx hb dX6_fitting_22 rfl (lv_at hl 0 rfl) ?_
          refine r_get F h (i := 0) (k := 5) (.int (o_this.1 5)) inX6 rfl (by decide) w15 rfl rfl rfl dX6_fitting_23 ?_
          refine lv_aload_n hx hb dX6_fitting_26 rfl (lv_at hl 0 rfl) ?_
          refine r_get F h (i := 0) (k := 7) (.ref (a0 8)) inX6 rfl (by decide) w14 rfl rfl rfl dX6_fitting_27 ?_
          refine lv_aload_n hx hb dX6_fitting_30 rfl (lv_at hl 0 rfl) ?_
          refine r_get F h (i := 0) (k := 6) (.int (o_this.1 6)) inX6 rfl (by decide) w13 rfl rfl rfl dX6_fitting_31 ?_
          refine lv_iconst (v := 1) hx hb dX6_fitting_34 (by decide) ?_
          refine lv_isub hx hb dX6_fitting_35 ?_
          obtain ⟨g4, hf⟩ := gdb hf
          refine r_iald F h (i := 0) (j := 3) rfl rfl (vin_ok g4) dX6_fitting_36 ?_
          obtain ⟨q5, h5, hf⟩ := asb hf
          refine r_callVi (As := [.int z1.2, .int (o_this.1 5), .int (o_this.2 7 ((o_this.1 6) - 1).toNatClampNeg)]) (rest := [.int z1.1]) (C0 := [wX6 K a0 o_this]) (C1 := [wX6 K a0 o_this]) (Rr := []) (S' := [wX6 K a0 o_this]) F h hl (c6_fits l D K a0 z1.2 (o_this.1 5) (o_this.2 7 ((o_this.1 6) - 1).toNatClampNeg) o_this q5 h5) [0] rfl rfl rfl rfl rfl (i := 0) rfl rfl w46 ⟨w47, w48, w49, w2⟩ hsc6_fits ⟨Nat.le_of_ble_eq_true rfl, Nat.le_of_ble_eq_true rfl⟩ ⟨Nat.le_refl 0, Nat.le_refl 0⟩ (Nat.le_of_ble_eq_true rfl) dX6_fitting_37 (fun H locs h => ?_)
          obtain ⟨J6, eJ6, hf⟩ := rgn hf
          have JW6 : ∀ (v6 : Int32) (H : Heap) (locs : List Loc) (ls : Array Slot), WD D A s.heap H locs [wX6 K a0 o_this] → lv_has ls 3 [(0, .ref (a0 0)), (2, .int z1.2)] → J6 v6 = some uq1 → W P l e (rmS 1 23) s m args below meth c H locs 0 0 (MQ below (QiS D A [wX6 K a0 o_this] r) args s 0 0 A) (F0 m 48 ls [.int v6, .int z1.1]) := by
            intro v6 H locs ls h hl hf
            have hf := jof eJ6 hf
            refine lv_iadd hx hb dX6_fitting_48 ?_
            refine lv_topi (fun y7 e7 => ?_)
            have hf := ltb hf e7
            refine lv_istore_n (lv' := [(1, .int y7), (0, .ref (a0 0)), (2, .int z1.2)]) hx hb dX6_fitting_49 rfl hl (by decide) rfl (fun ls hl => ?_)
            obtain ⟨y8, e8⟩ : ∃ y : Int32, y = z1.2 + 1 := ⟨_, rfl⟩
            have hf := ltb hf e8
            refine lv_iinc (v := y8) (lv' := [(2, .int y8), (1, .int y7), (0, .ref (a0 0))]) hx hb dX6_fitting_50 hl (k := 2) rfl (by rw [e8]; rfl) (by decide) rfl (fun ls hl => ?_)
            refine lv_goto (tgt := 4) hx hb dX6_fitting_53 (by decide) ?_
            exact ihq1 _ _ _ _ (itr_c huq1 (sor hf)) h (lv_sub hl [2, 1, 0] rfl)
          refine lv_if_eq (tgt := 47) hx hb dX6_fitting_40 (by decide) (fun c9 => ?_) (fun c9 => ?_)
          · have hf := ifp hf c9
            refine lv_iconst (v := 0) hx hb dX6_fitting_47 (by decide) ?_
            exact JW6 0 _ _ _ h (lv_sub hl [0, 2] rfl) (sob hf)
          · have hf := ifn hf c9
            refine lv_iconst (v := 1) hx hb dX6_fitting_43 (by decide) ?_
            refine lv_goto (tgt := 48) hx hb dX6_fitting_44 (by decide) ?_
            exact JW6 1 _ _ _ h (lv_sub hl [0, 2] rfl) (sob hf)
  exact Lq1 _ _ _ _ _ hq1 h (lv_sub hl [2, 1, 0] rfl)
def f6_fittingAt_L4 (g1 : ob) (z1 : Int32 × Int32) : Option (Nat × (Int32 × Int32)) :=
  (if (g1.1 1) ≤ z1.2 then (some (2, (z1.1, z1.2))) else (gd (vin ((g1.1 6) - 1) 12) <| (f6_fits z1.2 (g1.1 5) (g1.2 7 ((g1.1 6) - 1).toNatClampNeg) g1).bind fun q4 => (if q4 = 0 then (lt (z1.2 + 1) fun y6 => some (0, (z1.1, y6))) else ((if z1.1 = 0 then (some (1, (z1.1, z1.2))) else (lt (z1.1 + (-1)) fun y8 => lt (z1.2 + 1) fun y9 => some (0, (y8, y9))))))))
noncomputable def f6_fittingAt (x0 : Int32) (o_this : ob) : Option (Int32) :=
  (wh (f6_fittingAt_L4 o_this) (x0, 0)).bind fun q1 => (if q1.1 = 1 then (some q1.2.2) else (some (-4)))
set_option maxRecDepth 100000 in
set_option maxHeartbeats 4000000 in
theorem c6_fittingAt (l : Launch) (D : va_G) (K : Nat → ClassId) (a0 : Nat → Nat) (x0 : Int32) (o_this : ob) (r : Int32) (hf : f6_fittingAt x0 o_this = some r) : CTi l yX6_fittingAt cX6_fittingAt 4 (some .int) 1 23 D K [.ref (a0 0), .int x0] [wX6 K a0 o_this] [wX6 K a0 o_this] r := by
  unfold f6_fittingAt at hf
  have hf := tob hf
  refine entI (by decide) (Nat.le_of_ble_eq_true rfl) (fun P e s m args below meth c A ls F h hl hin => ?_)
  have hx := F.1
  have hb := F.2.1
  have hl : lv_has ls 4 [(0, .ref (a0 0)), (1, .int x0)] := hl
  refine lv_iload_n hx hb dX6_fittingAt_0 rfl (lv_at hl 1 rfl) ?_
  refine lv_istore_n (lv' := [(2, .int x0), (0, .ref (a0 0)), (1, .int x0)]) hx hb dX6_fittingAt_1 rfl hl (by decide) rfl (fun ls hl => ?_)
  refine lv_iconst (v := 0) hx hb dX6_fittingAt_2 (by decide) ?_
  refine lv_istore_n (lv' := [(3, .int 0), (2, .int x0), (0, .ref (a0 0)), (1, .int x0)]) hx hb dX6_fittingAt_3 rfl hl (by decide) rfl (fun ls hl => ?_)
  obtain ⟨q1, hq1, hf⟩ := asb hf
  obtain ⟨nq1, hq1⟩ := wh_out hq1
  have Xq1_1 : ∀ (z1 : Int32 × Int32) (H : Heap) (locs : List Loc) (ls : Array Slot), q1 = (1, z1) → WD D A s.heap H locs [wX6 K a0 o_this] → lv_has ls 4 [(3, .int z1.2)] → W P l e (rmS 1 23) s m args below meth c H locs 0 0 (MQ below (QiS D A [wX6 K a0 o_this] r) args s 0 0 A) (F0 m 39 ls []) := by
    intro z1 H locs ls eq1 h hl
    obtain rfl : z1 = q1.2 := by rw [eq1]
    have hf := ifp hf (show q1.1 = 1 by rw [eq1])
    refine lv_iload_n hx hb dX6_fittingAt_39 rfl (lv_at hl 0 rfl) ?_
    obtain rfl := sor hf
    exact r_reti F h dX6_fittingAt_40
  have Xq1_2 : ∀ (z1 : Int32 × Int32) (H : Heap) (locs : List Loc) (ls : Array Slot), q1 = (2, z1) → WD D A s.heap H locs [wX6 K a0 o_this] → lv_has ls 4 [] → W P l e (rmS 1 23) s m args below meth c H locs 0 0 (MQ below (QiS D A [wX6 K a0 o_this] r) args s 0 0 A) (F0 m 50 ls []) := by
    intro z1 H locs ls eq1 h hl
    obtain rfl : z1 = q1.2 := by rw [eq1]
    have hf := ifn hf (show ¬ q1.1 = 1 by rw [show q1.1 = 2 by rw [eq1]]; decide)
    refine lv_bipush (v := (-4)) hx hb dX6_fittingAt_50 (by decide) ?_
    obtain rfl := sor hf
    exact r_reti F h dX6_fittingAt_52
  have Lq1 : ∀ (n : Nat) (z1 : Int32 × Int32) (H : Heap) (locs : List Loc) (ls : Array Slot), iter (f6_fittingAt_L4 o_this) n z1 = some q1 → WD D A s.heap H locs [wX6 K a0 o_this] → lv_has ls 4 [(0, .ref (a0 0)), (2, .int z1.1), (3, .int z1.2)] → W P l e (rmS 1 23) s m args below meth c H locs 0 0 (MQ below (QiS D A [wX6 K a0 o_this] r) args s 0 0 A) (F0 m 4 ls []) := by
    intro n
    induction n with
    | zero => intro z1 H locs ls hi; exact (iter_0 hi).elim
    | succ n ihq1 =>
      intro z1 H locs ls hi h hl
      obtain ⟨uq1, hf, huq1⟩ := iter_s hi
      unfold f6_fittingAt_L4 at hf
      have hf := tob hf
      refine lv_iload_n hx hb dX6_fittingAt_4 rfl (lv_at hl 2 rfl) ?_
      refine lv_aload_n hx hb dX6_fittingAt_5 rfl (lv_at hl 0 rfl) ?_
      refine r_get F h (i := 0) (k := 1) (.int (o_this.1 1)) inX6 rfl (by decide) w4 rfl rfl rfl dX6_fittingAt_6 ?_
      refine lv_icmp_ge (tgt := 50) hx hb dX6_fittingAt_9 (by decide) (fun c2 => ?_) (fun c2 => ?_)
      · have hf := ifp hf c2
        exact Xq1_2 _ _ _ _ (itr_x huq1 (sor hf)) h (lv_sub hl [] rfl)
      · have hf := ifn hf c2
        refine lv_aload_n hx hb dX6_fittingAt_12 rfl (lv_at hl 0 rfl) ?_
        refine lv_iload_n hx hb dX6_fittingAt_13 rfl (lv_at hl 2 rfl) ?_
        refine lv_aload_n hx hb dX6_fittingAt_14 rfl (lv_at hl 0 rfl) ?_
        refine r_get F h (i := 0) (k := 5) (.int (o_this.1 5)) inX6 rfl (by decide) w15 rfl rfl rfl dX6_fittingAt_15 ?_
        refine lv_aload_n hx hb dX6_fittingAt_18 rfl (lv_at hl 0 rfl) ?_
        refine r_get F h (i := 0) (k := 7) (.ref (a0 8)) inX6 rfl (by decide) w14 rfl rfl rfl dX6_fittingAt_19 ?_
        refine lv_aload_n hx hb dX6_fittingAt_22 rfl (lv_at hl 0 rfl) ?_
        refine r_get F h (i := 0) (k := 6) (.int (o_this.1 6)) inX6 rfl (by decide) w13 rfl rfl rfl dX6_fittingAt_23 ?_
        refine lv_iconst (v := 1) hx hb dX6_fittingAt_26 (by decide) ?_
        refine lv_isub hx hb dX6_fittingAt_27 ?_
        obtain ⟨g3, hf⟩ := gdb hf
        refine r_iald F h (i := 0) (j := 3) rfl rfl (vin_ok g3) dX6_fittingAt_28 ?_
        obtain ⟨q4, h4, hf⟩ := asb hf
        refine r_callVi (As := [.int z1.2, .int (o_this.1 5), .int (o_this.2 7 ((o_this.1 6) - 1).toNatClampNeg)]) (rest := []) (C0 := [wX6 K a0 o_this]) (C1 := [wX6 K a0 o_this]) (Rr := []) (S' := [wX6 K a0 o_this]) F h hl (c6_fits l D K a0 z1.2 (o_this.1 5) (o_this.2 7 ((o_this.1 6) - 1).toNatClampNeg) o_this q4 h4) [0] rfl rfl rfl rfl rfl (i := 0) rfl rfl w46 ⟨w47, w48, w49, w2⟩ hsc6_fits ⟨Nat.le_of_ble_eq_true rfl, Nat.le_of_ble_eq_true rfl⟩ ⟨Nat.le_refl 0, Nat.le_refl 0⟩ (Nat.le_of_ble_eq_true rfl) dX6_fittingAt_29 (fun H locs h => ?_)
        refine lv_if_eq (tgt := 44) hx hb dX6_fittingAt_32 (by decide) (fun c5 => ?_) (fun c5 => ?_)
        · have hf := ifp hf c5
          obtain ⟨y6, e6⟩ : ∃ y : Int32, y = z1.2 + 1 := ⟨_, rfl⟩
          have hf := ltb hf e6
          refine lv_iinc (v := y6) (lv' := [(3, .int y6), (0, .ref (a0 0)), (2, .int z1.1)]) hx hb dX6_fittingAt_44 hl (k := 2) rfl (by rw [e6]; rfl) (by decide) rfl (fun ls hl => ?_)
          refine lv_goto (tgt := 4) hx hb dX6_fittingAt_47 (by decide) ?_
          exact ihq1 _ _ _ _ (itr_c huq1 (sor hf)) h (lv_sub hl [1, 2, 0] rfl)
        · have hf := ifn hf c5
          refine lv_iload_n hx hb dX6_fittingAt_35 rfl (lv_at hl 1 rfl) ?_
          refine lv_if_ne (tgt := 41) hx hb dX6_fittingAt_36 (by decide) (fun c7 => ?_) (fun c7 => ?_)
          · have hf := ifn hf c7
            obtain ⟨y8, e8⟩ : ∃ y : Int32, y = z1.1 + (-1) := ⟨_, rfl⟩
            have hf := ltb hf e8
            refine lv_iinc (v := y8) (lv' := [(2, .int y8), (0, .ref (a0 0)), (3, .int z1.2)]) hx hb dX6_fittingAt_41 hl (k := 1) rfl (by rw [e8]; rfl) (by decide) rfl (fun ls hl => ?_)
            obtain ⟨y9, e9⟩ : ∃ y : Int32, y = z1.2 + 1 := ⟨_, rfl⟩
            have hf := ltb hf e9
            refine lv_iinc (v := y9) (lv' := [(3, .int y9), (2, .int y8), (0, .ref (a0 0))]) hx hb dX6_fittingAt_44 hl (k := 2) rfl (by rw [e9]; rfl) (by decide) rfl (fun ls hl => ?_)
            refine lv_goto (tgt := 4) hx hb dX6_fittingAt_47 (by decide) ?_
            exact ihq1 _ _ _ _ (itr_c huq1 (sor hf)) h (lv_sub hl [2, 1, 0] rfl)
          · have hf := ifp hf c7
            exact Xq1_1 _ _ _ _ (itr_x huq1 (sor hf)) h (lv_sub hl [2] rfl)
  exact Lq1 _ _ _ _ _ hq1 h (lv_sub hl [2, 1, 0] rfl)
noncomputable def f6_walks (x0 : Int32) (x1 : Int32) (o_this : ob) : Option (Int32 × ob) :=
  (f6_fitting o_this).bind fun q1 => (if q1 = 0 then (some (0, o_this)) else (gd (nzl (q1.toInt64)) <| (f6_fittingAt ((((((((7919 * (x0.toInt64)) + (6151 * (x1.toInt64))) + 1) * (((7919 * (x0.toInt64)) + (6151 * (x1.toInt64))) + 1)) - ((((7919 * (x0.toInt64)) + (6151 * (x1.toInt64))) + 1) * (((7919 * (x0.toInt64)) + (6151 * (x1.toInt64))) + 1)) / 65521 * 65521) / 4) - ((((((7919 * (x0.toInt64)) + (6151 * (x1.toInt64))) + 1) * (((7919 * (x0.toInt64)) + (6151 * (x1.toInt64))) + 1)) - ((((7919 * (x0.toInt64)) + (6151 * (x1.toInt64))) + 1) * (((7919 * (x0.toInt64)) + (6151 * (x1.toInt64))) + 1)) / 65521 * 65521) / 4) / (q1.toInt64) * (q1.toInt64)).toInt32) o_this).bind fun q4 => gd (vin ((7 * q4) + 3) 70) <| (if (((o_this.1 6) - 1) + (o_this.2 2 ((7 * q4) + 3).toNatClampNeg)) ≤ 12 then ((f6_steps q4 o_this).bind fun q7 => some (1, q7)) else (some (0, o_this)))))
set_option maxRecDepth 100000 in
set_option maxHeartbeats 4000000 in
theorem c6_walks (l : Launch) (D : va_G) (K : Nat → ClassId) (a0 : Nat → Nat) (x0 : Int32) (x1 : Int32) (o_this : ob) (r : Int32 × ob) (hf : f6_walks x0 x1 o_this = some r) : CTi l yX6_walks cX6_walks 7 (some .boolean) 2 46 D K [.ref (a0 0), .int x0, .int x1] [wX6 K a0 o_this] [wX6 K a0 r.2] r.1 := by
  unfold f6_walks at hf
  have hf := tob hf
  refine entI (by decide) (Nat.le_of_ble_eq_true rfl) (fun P e s m args below meth c A ls F h hl hin => ?_)
  have hx := F.1
  have hb := F.2.1
  have hl : lv_has ls 7 [(0, .ref (a0 0)), (1, .int x0), (2, .int x1)] := hl
  refine lv_aload_n hx hb dX6_walks_0 rfl (lv_at hl 0 rfl) ?_
  obtain ⟨q1, h1, hf⟩ := asb hf
  refine r_callVi (As := []) (rest := []) (C0 := [wX6 K a0 o_this]) (C1 := [wX6 K a0 o_this]) (Rr := []) (S' := [wX6 K a0 o_this]) F h hl (c6_fitting l D K a0 o_this q1 h1) [0] rfl rfl rfl rfl rfl (i := 0) rfl rfl w190 ⟨w191, w192, w193, w2⟩ hsc6_fitting ⟨Nat.le_of_ble_eq_true rfl, Nat.le_of_ble_eq_true rfl⟩ ⟨Nat.le_refl 0, Nat.le_refl 0⟩ (Nat.le_of_ble_eq_true rfl) dX6_walks_1 (fun H locs h => ?_)
  refine lv_istore_n (lv' := [(3, .int q1), (0, .ref (a0 0)), (1, .int x0), (2, .int x1)]) hx hb dX6_walks_4 rfl hl (by decide) rfl (fun ls hl => ?_)
  refine lv_iload_n hx hb dX6_walks_5 rfl (lv_at hl 0 rfl) ?_
  refine lv_if_ne (tgt := 11) hx hb dX6_walks_6 (by decide) (fun c2 => ?_) (fun c2 => ?_)
  · have hf := ifn hf c2
    refine r_ldc2 F 7919 w186 dX6_walks_11 ?_
    refine lv_iload_n hx hb dX6_walks_14 rfl (lv_at hl 2 rfl) ?_
    refine lv_i2l hx hb dX6_walks_15 rfl ?_
    refine lv_lmul hx hb dX6_walks_16 ?_
    refine r_ldc2 F 6151 w187 dX6_walks_17 ?_
    refine lv_iload_n hx hb dX6_walks_20 rfl (lv_at hl 3 rfl) ?_
    refine lv_i2l hx hb dX6_walks_21 rfl ?_
    refine lv_lmul hx hb dX6_walks_22 ?_
    refine lv_ladd hx hb dX6_walks_23 ?_
    refine lv_lconst (v := 1) hx hb dX6_walks_24 (by decide) ?_
    refine lv_ladd hx hb dX6_walks_25 ?_
    refine lv_lstore (lv' := [(4, .long (((7919 * (x0.toInt64)) + (6151 * (x1.toInt64))) + 1)), (3, .int q1), (0, .ref (a0 0)), (1, .int x0), (2, .int x1)]) hx hb dX6_walks_26 hl (by decide) rfl (fun ls hl => ?_)
    refine lv_aload_n hx hb dX6_walks_28 rfl (lv_at hl 2 rfl) ?_
    refine lv_lload hx hb dX6_walks_29 (lv_at hl 0 rfl) ?_
    refine lv_lload hx hb dX6_walks_31 (lv_at hl 0 rfl) ?_
    refine lv_lmul hx hb dX6_walks_33 ?_
    refine r_ldc2 F 65521 w188 dX6_walks_34 ?_
    refine lv_lrem hx hb dX6_walks_37 (by decide) ?_
    refine r_ldc2 F 4 w189 dX6_walks_38 ?_
    refine lv_ldiv hx hb dX6_walks_41 (by decide) ?_
    refine lv_iload_n hx hb dX6_walks_42 rfl (lv_at hl 1 rfl) ?_
    refine lv_i2l hx hb dX6_walks_43 rfl ?_
    obtain ⟨g3, hf⟩ := gdb hf
    refine lv_lrem hx hb dX6_walks_44 (nzl_ok g3) ?_
    refine lv_l2i hx hb dX6_walks_45 rfl ?_
    obtain ⟨q4, h4, hf⟩ := asb hf
    refine r_callVi (As := [.int ((((((((7919 * (x0.toInt64)) + (6151 * (x1.toInt64))) + 1) * (((7919 * (x0.toInt64)) + (6151 * (x1.toInt64))) + 1)) - ((((7919 * (x0.toInt64)) + (6151 * (x1.toInt64))) + 1) * (((7919 * (x0.toInt64)) + (6151 * (x1.toInt64))) + 1)) / 65521 * 65521) / 4) - ((((((7919 * (x0.toInt64)) + (6151 * (x1.toInt64))) + 1) * (((7919 * (x0.toInt64)) + (6151 * (x1.toInt64))) + 1)) - ((((7919 * (x0.toInt64)) + (6151 * (x1.toInt64))) + 1) * (((7919 * (x0.toInt64)) + (6151 * (x1.toInt64))) + 1)) / 65521 * 65521) / 4) / (q1.toInt64) * (q1.toInt64)).toInt32)]) (rest := []) (C0 := [wX6 K a0 o_this]) (C1 := [wX6 K a0 o_this]) (Rr := []) (S' := [wX6 K a0 o_this]) F h hl (c6_fittingAt l D K a0 ((((((((7919 * (x0.toInt64)) + (6151 * (x1.toInt64))) + 1) * (((7919 * (x0.toInt64)) + (6151 * (x1.toInt64))) + 1)) - ((((7919 * (x0.toInt64)) + (6151 * (x1.toInt64))) + 1) * (((7919 * (x0.toInt64)) + (6151 * (x1.toInt64))) + 1)) / 65521 * 65521) / 4) - ((((((7919 * (x0.toInt64)) + (6151 * (x1.toInt64))) + 1) * (((7919 * (x0.toInt64)) + (6151 * (x1.toInt64))) + 1)) - ((((7919 * (x0.toInt64)) + (6151 * (x1.toInt64))) + 1) * (((7919 * (x0.toInt64)) + (6151 * (x1.toInt64))) + 1)) / 65521 * 65521) / 4) / (q1.toInt64) * (q1.toInt64)).toInt32) o_this q4 h4) [0] rfl rfl rfl rfl rfl (i := 0) rfl rfl w194 ⟨w195, w196, w197, w2⟩ hsc6_fittingAt ⟨Nat.le_of_ble_eq_true rfl, Nat.le_of_ble_eq_true rfl⟩ ⟨Nat.le_refl 0, Nat.le_refl 0⟩ (Nat.le_of_ble_eq_true rfl) dX6_walks_46 (fun H locs h => ?_)
    refine lv_istore (lv' := [(6, .int q4), (4, .long (((7919 * (x0.toInt64)) + (6151 * (x1.toInt64))) + 1)), (3, .int q1), (0, .ref (a0 0)), (1, .int x0), (2, .int x1)]) hx hb dX6_walks_49 hl (by decide) rfl (fun ls hl => ?_)
    refine lv_aload_n hx hb dX6_walks_51 rfl (lv_at hl 3 rfl) ?_
    refine r_get F h (i := 0) (k := 6) (.int (o_this.1 6)) inX6 rfl (by decide) w13 rfl rfl rfl dX6_walks_52 ?_
    refine lv_iconst (v := 1) hx hb dX6_walks_55 (by decide) ?_
    refine lv_isub hx hb dX6_walks_56 ?_
    refine lv_aload_n hx hb dX6_walks_57 rfl (lv_at hl 3 rfl) ?_
    refine r_get F h (i := 0) (k := 2) (.ref (a0 3)) inX6 rfl (by decide) w6 rfl rfl rfl dX6_walks_58 ?_
    refine lv_bipush (v := 7) hx hb dX6_walks_61 (by decide) ?_
    refine lv_iload hx hb dX6_walks_63 (lv_at hl 0 rfl) ?_
    refine lv_imul hx hb dX6_walks_65 ?_
    refine lv_iconst (v := 3) hx hb dX6_walks_66 (by decide) ?_
    refine lv_iadd hx hb dX6_walks_67 ?_
    obtain ⟨g5, hf⟩ := gdb hf
    refine r_iald F h (i := 0) (j := 1) rfl rfl (vin_ok g5) dX6_walks_68 ?_
    refine lv_iadd hx hb dX6_walks_69 ?_
    refine lv_bipush (v := 12) hx hb dX6_walks_70 (by decide) ?_
    refine lv_icmp_le (tgt := 77) hx hb dX6_walks_72 (by decide) (fun c6 => ?_) (fun c6 => ?_)
    · have hf := ifp hf c6
      refine lv_aload_n hx hb dX6_walks_77 rfl (lv_at hl 3 rfl) ?_
      refine lv_iload hx hb dX6_walks_78 (lv_at hl 0 rfl) ?_
      obtain ⟨q7, h7, hf⟩ := asb hf
      refine r_callVv (As := [.int q4]) (rest := []) (C0 := [wX6 K a0 o_this]) (C1 := [wX6 K a0 q7]) (Rr := []) (S' := [wX6 K a0 q7]) F h hl (c6_steps l D K a0 q4 o_this q7 h7) [0] rfl rfl rfl rfl rfl (i := 0) rfl rfl w50 ⟨w51, w52, w53, w2⟩ hsc6_steps ⟨Nat.le_of_ble_eq_true rfl, Nat.le_of_ble_eq_true rfl⟩ ⟨Nat.le_refl 0, Nat.le_refl 0⟩ (Nat.le_of_ble_eq_true rfl) dX6_walks_80 (fun H locs h => ?_)
      refine lv_iconst (v := 1) hx hb dX6_walks_83 (by decide) ?_
      obtain rfl := sor hf
      exact r_retz F h rfl dX6_walks_84
    · have hf := ifn hf c6
      refine lv_iconst (v := 0) hx hb dX6_walks_75 (by decide) ?_
      obtain rfl := sor hf
      exact r_retz F h rfl dX6_walks_76
  · have hf := ifp hf c2
    refine lv_iconst (v := 0) hx hb dX6_walks_9 (by decide) ?_
    obtain rfl := sor hf
    exact r_retz F h rfl dX6_walks_10
noncomputable def f6_walk_L44 (g0 : Int32) (g1 : Int32) (z8 : Int32 × ob) : Option (Nat × (Int32 × ob)) :=
  (if g1 ≤ z8.1 then (some (1, (z8.1, z8.2))) else ((f6_walks g0 z8.1 z8.2).bind fun q14 => (if q14.1 = 0 then (some (1, (z8.1, q14.2))) else (lt (z8.1 + 1) fun y16 => some (0, (y16, q14.2))))))
noncomputable def f6_walk (x0 : Int32) (x1 : Int32) (x2 : Int32) (o_this : ob) : Option (Int32 × ob) :=
  (f6_in x0 0 9999).bind fun q1 => (if q1 = 0 then (some ((-1), o_this)) else ((f6_in x1 1 60).bind fun q3 => (if q3 = 0 then (some ((-1), o_this)) else ((f6_in x2 0 2).bind fun q5 => (if q5 = 0 then (some ((-1), o_this)) else ((f6_writes_before 0 o_this).bind fun q7 => (wh (f6_walk_L44 x0 x1) (0, q7)).bind fun q8 => ((if x2 = 0 then (some q8.2.1) else ((if x2 = 1 then (some (q8.2.2.1 6)) else (some (q8.2.2.1 5)))))).bind fun v9 => (f6_readsBack_before 0 q8.2.2).bind fun q10 => some (v9, q10)))))))
set_option maxRecDepth 100000 in
set_option maxHeartbeats 4000000 in
theorem c6_walk (l : Launch) (D : va_G) (K : Nat → ClassId) (a0 : Nat → Nat) (x0 : Int32) (x1 : Int32) (x2 : Int32) (o_this : ob) (r : Int32 × ob) (hf : f6_walk x0 x1 x2 o_this = some r) : CTi l yX6_walk cX6_walk 6 (some .int) 3 72 D K [.ref (a0 0), .int x0, .int x1, .int x2] [wX6 K a0 o_this] [wX6 K a0 r.2] r.1 := by
  unfold f6_walk at hf
  have hf := tob hf
  refine entI (by decide) (Nat.le_of_ble_eq_true rfl) (fun P e s m args below meth c A ls F h hl hin => ?_)
  have hx := F.1
  have hb := F.2.1
  have hl : lv_has ls 6 [(0, .ref (a0 0)), (1, .int x0), (2, .int x1), (3, .int x2)] := hl
  refine lv_iload_n hx hb dX6_walk_0 rfl (lv_at hl 1 rfl) ?_
  refine lv_iconst (v := 0) hx hb dX6_walk_1 (by decide) ?_
  refine lv_sipush (v := 9999) hx hb dX6_walk_2 (by decide) ?_
  obtain ⟨q1, h1, hf⟩ := asb hf
  refine r_callS (As := [.int x0, .int 0, .int 9999]) (rest := []) F h hl (c6_in l D K x0 0 9999 q1 h1) w3 ⟨w0, w1, w2⟩ hsc6_in ⟨Nat.le_of_ble_eq_true rfl, Nat.le_of_ble_eq_true rfl⟩ ⟨Nat.le_refl 0, Nat.le_refl 0⟩ (Nat.le_of_ble_eq_true rfl) dX6_walk_5 (fun H locs h => ?_)
  refine lv_if_eq (tgt := 30) hx hb dX6_walk_8 (by decide) (fun c2 => ?_) (fun c2 => ?_)
  · have hf := ifp hf c2
    refine lv_iconst (v := (-1)) hx hb dX6_walk_30 (by decide) ?_
    obtain rfl := sor hf
    exact r_reti F h dX6_walk_31
  · have hf := ifn hf c2
    refine lv_iload_n hx hb dX6_walk_11 rfl (lv_at hl 2 rfl) ?_
    refine lv_iconst (v := 1) hx hb dX6_walk_12 (by decide) ?_
    refine lv_bipush (v := 60) hx hb dX6_walk_13 (by decide) ?_
    obtain ⟨q3, h3, hf⟩ := asb hf
    refine r_callS (As := [.int x1, .int 1, .int 60]) (rest := []) F h hl (c6_in l D K x1 1 60 q3 h3) w3 ⟨w0, w1, w2⟩ hsc6_in ⟨Nat.le_of_ble_eq_true rfl, Nat.le_of_ble_eq_true rfl⟩ ⟨Nat.le_refl 0, Nat.le_refl 0⟩ (Nat.le_of_ble_eq_true rfl) dX6_walk_15 (fun H locs h => ?_)
    refine lv_if_eq (tgt := 30) hx hb dX6_walk_18 (by decide) (fun c4 => ?_) (fun c4 => ?_)
    · have hf := ifp hf c4
      refine lv_iconst (v := (-1)) hx hb dX6_walk_30 (by decide) ?_
      obtain rfl := sor hf
      exact r_reti F h dX6_walk_31
    · have hf := ifn hf c4
      refine lv_iload_n hx hb dX6_walk_21 rfl (lv_at hl 3 rfl) ?_
      refine lv_iconst (v := 0) hx hb dX6_walk_22 (by decide) ?_
      refine lv_iconst (v := 2) hx hb dX6_walk_23 (by decide) ?_
      obtain ⟨q5, h5, hf⟩ := asb hf
      refine r_callS (As := [.int x2, .int 0, .int 2]) (rest := []) F h hl (c6_in l D K x2 0 2 q5 h5) w3 ⟨w0, w1, w2⟩ hsc6_in ⟨Nat.le_of_ble_eq_true rfl, Nat.le_of_ble_eq_true rfl⟩ ⟨Nat.le_refl 0, Nat.le_refl 0⟩ (Nat.le_of_ble_eq_true rfl) dX6_walk_24 (fun H locs h => ?_)
      refine lv_if_ne (tgt := 32) hx hb dX6_walk_27 (by decide) (fun c6 => ?_) (fun c6 => ?_)
      · have hf := ifn hf c6
        refine lv_aload_n hx hb dX6_walk_32 rfl (lv_at hl 0 rfl) ?_
        refine lv_aload_n hx hb dX6_walk_33 rfl (lv_at hl 0 rfl) ?_
        refine r_get F h (i := 0) (k := 28) (.ref (a0 29)) inX6 rfl (by decide) w198 rfl rfl rfl dX6_walk_34 ?_
        refine lv_iconst (v := 0) hx hb dX6_walk_37 (by decide) ?_
        obtain ⟨q7, h7, hf⟩ := asb hf
        refine r_callVv (As := [.ref (a0 29), .int 0]) (rest := []) (C0 := [wX6 K a0 o_this]) (C1 := [wX6 K a0 q7]) (Rr := []) (S' := [wX6 K a0 q7]) F h hl (c6_writes_before l D K a0 0 o_this q7 h7) [0] rfl rfl rfl rfl rfl (i := 0) rfl rfl w33 ⟨w34, w35, w36, w2⟩ hsc6_writes_before ⟨Nat.le_of_ble_eq_true rfl, Nat.le_of_ble_eq_true rfl⟩ ⟨Nat.le_refl 0, Nat.le_refl 0⟩ (Nat.le_of_ble_eq_true rfl) dX6_walk_38 (fun H locs h => ?_)
        refine lv_iconst (v := 0) hx hb dX6_walk_41 (by decide) ?_
        refine lv_istore (lv' := [(4, .int 0), (0, .ref (a0 0)), (1, .int x0), (2, .int x1), (3, .int x2)]) hx hb dX6_walk_42 hl (by decide) rfl (fun ls hl => ?_)
        obtain ⟨q8, hq8, hf⟩ := asb hf
        obtain ⟨nq8, hq8⟩ := wh_out hq8
        have Xq8_1 : ∀ (z8 : Int32 × ob) (H : Heap) (locs : List Loc) (ls : Array Slot), q8 = (1, z8) → WD D A s.heap H locs [wX6 K a0 z8.2] → lv_has ls 6 [(0, .ref (a0 0)), (3, .int x2), (4, .int z8.1)] → W P l e (rmS 3 72) s m args below meth c H locs 0 0 (MQ below (QiS D A [wX6 K a0 r.2] r.1) args s 0 0 A) (F0 m 66 ls []) := by
          intro z8 H locs ls eq8 h hl
          obtain rfl : z8 = q8.2 := by rw [eq8]
          refine lv_iload_n hx hb dX6_walk_66 rfl (lv_at hl 1 rfl) ?_
          obtain ⟨J9, eJ9, hf⟩ := rgn hf
          have JW9 : ∀ (v9 : Int32) (H : Heap) (locs : List Loc) (ls : Array Slot), WD D A s.heap H locs [wX6 K a0 q8.2.2] → lv_has ls 6 [(0, .ref (a0 0))] → J9 v9 = some r → W P l e (rmS 3 72) s m args below meth c H locs 0 0 (MQ below (QiS D A [wX6 K a0 r.2] r.1) args s 0 0 A) (F0 m 91 ls [.int v9]) := by
            intro v9 H locs ls h hl hf
            have hf := jof eJ9 hf
            refine lv_istore (lv' := [(5, .int v9), (0, .ref (a0 0))]) hx hb dX6_walk_91 hl (by decide) rfl (fun ls hl => ?_)
            refine lv_aload_n hx hb dX6_walk_93 rfl (lv_at hl 1 rfl) ?_
            refine lv_aload_n hx hb dX6_walk_94 rfl (lv_at hl 1 rfl) ?_
            refine r_get F h (i := 0) (k := 28) (.ref (a0 29)) inX6 rfl (by decide) w198 rfl rfl rfl dX6_walk_95 ?_
            refine lv_iconst (v := 0) hx hb dX6_walk_98 (by decide) ?_
            obtain ⟨q10, h10, hf⟩ := asb hf
            refine r_callVv (As := [.ref (a0 29), .int 0]) (rest := []) (C0 := [wX6 K a0 q8.2.2]) (C1 := [wX6 K a0 q10]) (Rr := []) (S' := [wX6 K a0 q10]) F h hl (c6_readsBack_before l D K a0 0 q8.2.2 q10 h10) [0] rfl rfl rfl rfl rfl (i := 0) rfl rfl w37 ⟨w38, w39, w40, w2⟩ hsc6_readsBack_before ⟨Nat.le_of_ble_eq_true rfl, Nat.le_of_ble_eq_true rfl⟩ ⟨Nat.le_refl 0, Nat.le_refl 0⟩ (Nat.le_of_ble_eq_true rfl) dX6_walk_99 (fun H locs h => ?_)
            refine lv_iload hx hb dX6_walk_102 (lv_at hl 0 rfl) ?_
            obtain rfl := sor hf
            exact r_reti F h dX6_walk_104
          refine lv_if_ne (tgt := 75) hx hb dX6_walk_67 (by decide) (fun c11 => ?_) (fun c11 => ?_)
          · have hf := ifn hf c11
            refine lv_iload_n hx hb dX6_walk_75 rfl (lv_at hl 1 rfl) ?_
            refine lv_iconst (v := 1) hx hb dX6_walk_76 (by decide) ?_
            refine lv_icmp_ne (tgt := 87) hx hb dX6_walk_77 (by decide) (fun c12 => ?_) (fun c12 => ?_)
            · have hf := ifn hf c12
              refine lv_aload_n hx hb dX6_walk_87 rfl (lv_at hl 0 rfl) ?_
              refine r_get F h (i := 0) (k := 5) (.int (q8.2.2.1 5)) inX6 rfl (by decide) w15 rfl rfl rfl dX6_walk_88 ?_
              exact JW9 (q8.2.2.1 5) _ _ _ h (lv_sub hl [0] rfl) (sob hf)
            · have hf := ifp hf c12
              refine lv_aload_n hx hb dX6_walk_80 rfl (lv_at hl 0 rfl) ?_
              refine r_get F h (i := 0) (k := 6) (.int (q8.2.2.1 6)) inX6 rfl (by decide) w13 rfl rfl rfl dX6_walk_81 ?_
              refine lv_goto (tgt := 91) hx hb dX6_walk_84 (by decide) ?_
              exact JW9 (q8.2.2.1 6) _ _ _ h (lv_sub hl [0] rfl) (sob hf)
          · have hf := ifp hf c11
            refine lv_iload hx hb dX6_walk_70 (lv_at hl 2 rfl) ?_
            refine lv_goto (tgt := 91) hx hb dX6_walk_72 (by decide) ?_
            exact JW9 q8.2.1 _ _ _ h (lv_sub hl [0] rfl) (sob hf)
        have Lq8 : ∀ (n : Nat) (z8 : Int32 × ob) (H : Heap) (locs : List Loc) (ls : Array Slot), iter (f6_walk_L44 x0 x1) n z8 = some q8 → WD D A s.heap H locs [wX6 K a0 z8.2] → lv_has ls 6 [(0, .ref (a0 0)), (1, .int x0), (2, .int x1), (3, .int x2), (4, .int z8.1)] → W P l e (rmS 3 72) s m args below meth c H locs 0 0 (MQ below (QiS D A [wX6 K a0 r.2] r.1) args s 0 0 A) (F0 m 44 ls []) := by
          intro n
          induction n with
          | zero => intro z8 H locs ls hi; exact (iter_0 hi).elim
          | succ n ihq8 =>
            intro z8 H locs ls hi h hl
            obtain ⟨uq8, hf, huq8⟩ := iter_s hi
            unfold f6_walk_L44 at hf
            have hf := tob hf
            refine lv_iload hx hb dX6_walk_44 (lv_at hl 4 rfl) ?_
            refine lv_iload_n hx hb dX6_walk_46 rfl (lv_at hl 2 rfl) ?_
            refine lv_icmp_ge (tgt := 66) hx hb dX6_walk_47 (by decide) (fun c13 => ?_) (fun c13 => ?_)
            · have hf := ifp hf c13
              exact Xq8_1 _ _ _ _ (itr_x huq8 (sor hf)) h (lv_sub hl [0, 3, 4] rfl)
            · have hf := ifn hf c13
              refine lv_aload_n hx hb dX6_walk_50 rfl (lv_at hl 0 rfl) ?_
              refine lv_iload_n hx hb dX6_walk_51 rfl (lv_at hl 1 rfl) ?_
              refine lv_iload hx hb dX6_walk_52 (lv_at hl 4 rfl) ?_
              obtain ⟨q14, h14, hf⟩ := asb hf
              refine r_callVi (As := [.int x0, .int z8.1]) (rest := []) (C0 := [wX6 K a0 z8.2]) (C1 := [wX6 K a0 q14.2]) (Rr := []) (S' := [wX6 K a0 q14.2]) F h hl (c6_walks l D K a0 x0 z8.1 z8.2 q14 h14) [0] rfl rfl rfl rfl rfl (i := 0) rfl rfl w199 ⟨w200, w201, w202, w2⟩ hsc6_walks ⟨Nat.le_of_ble_eq_true rfl, Nat.le_of_ble_eq_true rfl⟩ ⟨Nat.le_refl 0, Nat.le_refl 0⟩ (Nat.le_of_ble_eq_true rfl) dX6_walk_54 (fun H locs h => ?_)
              refine lv_if_eq (tgt := 66) hx hb dX6_walk_57 (by decide) (fun c15 => ?_) (fun c15 => ?_)
              · have hf := ifp hf c15
                exact Xq8_1 _ _ _ _ (itr_x huq8 (sor hf)) h (lv_sub hl [0, 3, 4] rfl)
              · have hf := ifn hf c15
                obtain ⟨y16, e16⟩ : ∃ y : Int32, y = z8.1 + 1 := ⟨_, rfl⟩
                have hf := ltb hf e16
                refine lv_iinc (v := y16) (lv' := [(4, .int y16), (0, .ref (a0 0)), (1, .int x0), (2, .int x1), (3, .int x2)]) hx hb dX6_walk_60 hl (k := 4) rfl (by rw [e16]; rfl) (by decide) rfl (fun ls hl => ?_)
                refine lv_goto (tgt := 44) hx hb dX6_walk_63 (by decide) ?_
                exact ihq8 _ _ _ _ (itr_c huq8 (sor hf)) h (lv_sub hl [1, 2, 3, 4, 0] rfl)
        exact Lq8 _ _ _ _ _ hq8 h (lv_sub hl [1, 2, 3, 4, 0] rfl)
      · have hf := ifp hf c6
        refine lv_iconst (v := (-1)) hx hb dX6_walk_30 (by decide) ?_
        obtain rfl := sor hf
        exact r_reti F h dX6_walk_31
