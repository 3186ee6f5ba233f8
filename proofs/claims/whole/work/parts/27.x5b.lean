noncomputable def f5_remember (o_this : ob) (o_now : ob) (o_past : Nat → ob) : Option (ob × (Nat → ob)) :=
  gd (vin (o_this.1 4) 8) <| (f4_copyFrom (o_past ((o_this.1 4).toNatClampNeg)) o_now).bind fun q2 => lt (va_up o_past ((o_this.1 4).toNatClampNeg) q2) fun t3 => lt (sI o_this 4 (((o_this.1 4) + 1) - ((o_this.1 4) + 1) / 8 * 8)) fun t4 => (if 8 ≤ (t4.1 5) then (lt (sI t4 14 0) fun t6 => some (t6, t3)) else (lt (sI t4 5 ((t4.1 5) + 1)) fun t7 => lt (sI t7 14 0) fun t8 => some (t8, t3)))
set_option maxRecDepth 100000 in
set_option maxHeartbeats 4000000 in
theorem c5_remember (l : Launch) (D : va_G) (K : Nat → ClassId) (aa : Nat → Nat → Nat) (o_this : ob) (o_now : ob) (o_past : Nat → ob) (r : ob × (Nat → ob)) (hf : f5_remember o_this o_now o_past = some r) : CTv l yX5_remember cX5_remember 1 2 62 D K [.ref (aa 0 0)] [wX5 K aa o_this, wX4 K (aa 2) o_now, wF K 8 (fun i => aa (9 + i)) o_past] [wX5 K aa r.1, wX4 K (aa 2) o_now, wF K 8 (fun i => aa (9 + i)) r.2] := by
  unfold f5_remember at hf
  have hf := tob hf
  refine entV (by decide) (Nat.le_of_ble_eq_true rfl) (fun P e s m args below meth c A ls F h hl hin => ?_)
  have hx := F.1
  have hb := F.2.1
  have hl : lv_has ls 1 [(0, .ref (aa 0 0))] := hl
  refine lv_aload_n hx hb dX5_remember_0 rfl (lv_at hl 0 rfl) ?_
  refine r_get F h (i := 0) (k := 3) (.ref (aa 0 4)) inX5 rfl (by decide) w646 rfl rfl rfl dX5_remember_1 ?_
  refine lv_aload_n hx hb dX5_remember_4 rfl (lv_at hl 0 rfl) ?_
  refine r_get F h (i := 0) (k := 4) (.int (o_this.1 4)) inX5 rfl (by decide) w647 rfl rfl rfl dX5_remember_5 ?_
  obtain ⟨g1, hf⟩ := gdb hf
  refine r_aald F h (i := 0) (j := 1) rfl rfl (vin_ok g1) dX5_remember_8 ?_
  refine lv_aload_n hx hb dX5_remember_9 rfl (lv_at hl 0 rfl) ?_
  refine r_get F h (i := 0) (k := 1) (.ref ((aa 2) 0)) inX5 rfl (by decide) w513 rfl rfl rfl dX5_remember_10 ?_
  obtain ⟨q2, h2, hf⟩ := asb hf
  have h : WD D A s.heap _ _ [wX5 K aa o_this, wX4 K (aa 2) o_now, wX4 K (aa (9 + (o_this.1 4).toNatClampNeg)) (o_past ((o_this.1 4).toNatClampNeg)), wFx K 8 (fun i => aa (9 + i)) o_past ((o_this.1 4).toNatClampNeg)] := h.perm (seg_split (pre := [wX5 K aa o_this, wX4 K (aa 2) o_now]) (post := []) (fam_split K 8 (fun i => aa (9 + i)) o_past (vin_lt g1)))
  refine r_callVv (As := [.ref ((aa 2) 0)]) (rest := []) (C0 := [wX4 K (aa (9 + (o_this.1 4).toNatClampNeg)) ((o_past ((o_this.1 4).toNatClampNeg))), wX4 K (aa 2) o_now]) (C1 := [wX4 K (aa (9 + (o_this.1 4).toNatClampNeg)) q2, wX4 K (aa 2) o_now]) (Rr := [wX5 K aa o_this, wFx K 8 (fun i => aa (9 + i)) o_past ((o_this.1 4).toNatClampNeg)]) (S' := [wX5 K aa o_this, wX4 K (aa 2) o_now, wX4 K (aa (9 + (o_this.1 4).toNatClampNeg)) q2, wFx K 8 (fun i => aa (9 + i)) o_past ((o_this.1 4).toNatClampNeg)]) F h hl (c4_copyFrom l D K (aa (9 + (o_this.1 4).toNatClampNeg)) (aa 2) (o_past ((o_this.1 4).toNatClampNeg)) o_now q2 h2) [2, 1, 0, 3] rfl rfl rfl rfl rfl (i := 2) rfl rfl w553 ⟨w554, w555, w556, w276⟩ hsc4_copyFrom ⟨Nat.le_of_ble_eq_true rfl, Nat.le_of_ble_eq_true rfl⟩ ⟨Nat.le_refl 0, Nat.le_refl 0⟩ (Nat.le_of_ble_eq_true rfl) dX5_remember_13 (fun H locs h => ?_)
  obtain ⟨t3, e3⟩ : ∃ t : Nat → ob, t = va_up o_past ((o_this.1 4).toNatClampNeg) q2 := ⟨_, rfl⟩
  have hf := ltb hf e3
  have h : WD D A s.heap _ _ [wX5 K aa o_this, wX4 K (aa 2) o_now, wF K 8 (fun i => aa (9 + i)) t3] := h.perm (seg_merge (pre := [wX5 K aa o_this, wX4 K (aa 2) o_now]) (post := []) (e3 ▸ fam_merge K 8 (fun i => aa (9 + i)) o_past (vin_lt g1) q2))
  refine lv_aload_n hx hb dX5_remember_16 rfl (lv_at hl 0 rfl) ?_
  refine lv_aload_n hx hb dX5_remember_17 rfl (lv_at hl 0 rfl) ?_
  refine r_get F h (i := 0) (k := 4) (.int (o_this.1 4)) inX5 rfl (by decide) w647 rfl rfl rfl dX5_remember_18 ?_
  refine lv_iconst (v := 1) hx hb dX5_remember_21 (by decide) ?_
  refine lv_iadd hx hb dX5_remember_22 ?_
  refine lv_bipush (v := 8) hx hb dX5_remember_23 (by decide) ?_
  refine lv_irem hx hb dX5_remember_25 (by decide) ?_
  refine r_put (o1 := sI o_this 4 (((o_this.1 4) + 1) - ((o_this.1 4) + 1) / 8 * 8)) (w := fun t4 => wX5 K aa t4) (S' := fun t4 => [wX5 K aa t4, wX4 K (aa 2) o_now, wF K 8 (fun i => aa (9 + i)) t3]) F h (i := 0) (k := 4) inX5 tyX5_ok nmX5 rfl (by decide) w647 rfl rfl rfl rfl rfl (Nat.le_of_ble_eq_true rfl) rfl (fun _ => rfl) dX5_remember_26 (fun t4 e4 H locs h => ?_)
  have hf := ltb hf e4
  refine lv_aload_n hx hb dX5_remember_29 rfl (lv_at hl 0 rfl) ?_
  refine r_get F h (i := 0) (k := 5) (.int (t4.1 5)) inX5 rfl (by decide) w551 rfl rfl rfl dX5_remember_30 ?_
  refine lv_bipush (v := 8) hx hb dX5_remember_33 (by decide) ?_
  refine lv_icmp_ge (tgt := 48) hx hb dX5_remember_35 (by decide) (fun c5 => ?_) (fun c5 => ?_)
  · have hf := ifp hf c5
    refine lv_aload_n hx hb dX5_remember_48 rfl (lv_at hl 0 rfl) ?_
    refine lv_iconst (v := 0) hx hb dX5_remember_49 (by decide) ?_
    refine r_put (o1 := sI t4 14 0) (w := fun t6 => wX5 K aa t6) (S' := fun t6 => [wX5 K aa t6, wX4 K (aa 2) o_now, wF K 8 (fun i => aa (9 + i)) t3]) F h (i := 0) (k := 14) inX5 tyX5_ok nmX5 rfl (by decide) w518 rfl rfl rfl rfl rfl (Nat.le_of_ble_eq_true rfl) rfl (fun _ => rfl) dX5_remember_50 (fun t6 e6 H locs h => ?_)
    have hf := ltb hf e6
    obtain rfl := sor hf
    exact r_retv F h dX5_remember_53
  · have hf := ifn hf c5
    refine lv_aload_n hx hb dX5_remember_38 rfl (lv_at hl 0 rfl) ?_
    refine lv_dup hx hb dX5_remember_39 rfl ?_
    refine r_get F h (i := 0) (k := 5) (.int (t4.1 5)) inX5 rfl (by decide) w551 rfl rfl rfl dX5_remember_40 ?_
    refine lv_iconst (v := 1) hx hb dX5_remember_43 (by decide) ?_
    refine lv_iadd hx hb dX5_remember_44 ?_
    refine r_put (o1 := sI t4 5 ((t4.1 5) + 1)) (w := fun t7 => wX5 K aa t7) (S' := fun t7 => [wX5 K aa t7, wX4 K (aa 2) o_now, wF K 8 (fun i => aa (9 + i)) t3]) F h (i := 0) (k := 5) inX5 tyX5_ok nmX5 rfl (by decide) w551 rfl rfl rfl rfl rfl (Nat.le_of_ble_eq_true rfl) rfl (fun _ => rfl) dX5_remember_45 (fun t7 e7 H locs h => ?_)
    have hf := ltb hf e7
    refine lv_aload_n hx hb dX5_remember_48 rfl (lv_at hl 0 rfl) ?_
    refine lv_iconst (v := 0) hx hb dX5_remember_49 (by decide) ?_
    refine r_put (o1 := sI t7 14 0) (w := fun t8 => wX5 K aa t8) (S' := fun t8 => [wX5 K aa t8, wX4 K (aa 2) o_now, wF K 8 (fun i => aa (9 + i)) t3]) F h (i := 0) (k := 14) inX5 tyX5_ok nmX5 rfl (by decide) w518 rfl rfl rfl rfl rfl (Nat.le_of_ble_eq_true rfl) rfl (fun _ => rfl) dX5_remember_50 (fun t8 e8 H locs h => ?_)
    have hf := ltb hf e8
    obtain rfl := sor hf
    exact r_retv F h dX5_remember_53
noncomputable def f5_undo (o_this : ob) (o_now : ob) (o_past : Nat → ob) : Option (Int32 × ob × ob) :=
  (if (o_this.1 5) = 0 then (some ((-2), o_this, o_now)) else (lt (sI o_this 4 ((((o_this.1 4) + 8) - 1) - (((o_this.1 4) + 8) - 1) / 8 * 8)) fun t2 => lt (sI t2 5 ((t2.1 5) - 1)) fun t3 => gd (vin (t3.1 4) 8) <| (f4_copyFrom o_now (o_past ((t3.1 4).toNatClampNeg))).bind fun q5 => (f5_noteNewRules t3).bind fun q6 => some (q6.1 5, q6, q5)))
set_option maxRecDepth 100000 in
set_option maxHeartbeats 4000000 in
theorem c5_undo (l : Launch) (D : va_G) (K : Nat → ClassId) (aa : Nat → Nat → Nat) (o_this : ob) (o_now : ob) (o_past : Nat → ob) (r : Int32 × ob × ob) (hf : f5_undo o_this o_now o_past = some r) : CTi l yX5_undo cX5_undo 1 (some .int) 2 62 D K [.ref (aa 0 0)] [wX5 K aa o_this, wX4 K (aa 2) o_now, wF K 8 (fun i => aa (9 + i)) o_past] [wX5 K aa r.2.1, wX4 K (aa 2) r.2.2, wF K 8 (fun i => aa (9 + i)) o_past] r.1 := by
  unfold f5_undo at hf
  have hf := tob hf
  refine entI (by decide) (Nat.le_of_ble_eq_true rfl) (fun P e s m args below meth c A ls F h hl hin => ?_)
  have hx := F.1
  have hb := F.2.1
  have hl : lv_has ls 1 [(0, .ref (aa 0 0))] := hl
  refine lv_aload_n hx hb dX5_undo_0 rfl (lv_at hl 0 rfl) ?_
  refine r_get F h (i := 0) (k := 5) (.int (o_this.1 5)) inX5 rfl (by decide) w551 rfl rfl rfl dX5_undo_1 ?_
  refine lv_if_ne (tgt := 10) hx hb dX5_undo_4 (by decide) (fun c1 => ?_) (fun c1 => ?_)
  · have hf := ifn hf c1
    refine lv_aload_n hx hb dX5_undo_10 rfl (lv_at hl 0 rfl) ?_
    refine lv_aload_n hx hb dX5_undo_11 rfl (lv_at hl 0 rfl) ?_
    refine r_get F h (i := 0) (k := 4) (.int (o_this.1 4)) inX5 rfl (by decide) w647 rfl rfl rfl dX5_undo_12 ?_
    refine lv_bipush (v := 8) hx hb dX5_undo_15 (by decide) ?_
    refine lv_iadd hx hb dX5_undo_17 ?_
    refine lv_iconst (v := 1) hx hb dX5_undo_18 (by decide) ?_
    refine lv_isub hx hb dX5_undo_19 ?_
    refine lv_bipush (v := 8) hx hb dX5_undo_20 (by decide) ?_
    refine lv_irem hx hb dX5_undo_22 (by decide) ?_
    refine r_put (o1 := sI o_this 4 ((((o_this.1 4) + 8) - 1) - (((o_this.1 4) + 8) - 1) / 8 * 8)) (w := fun t2 => wX5 K aa t2) (S' := fun t2 => [wX5 K aa t2, wX4 K (aa 2) o_now, wF K 8 (fun i => aa (9 + i)) o_past]) F h (i := 0) (k := 4) inX5 tyX5_ok nmX5 rfl (by decide) w647 rfl rfl rfl rfl rfl (Nat.le_of_ble_eq_true rfl) rfl (fun _ => rfl) dX5_undo_23 (fun t2 e2 H locs h => ?_)
    have hf := ltb hf e2
    refine lv_aload_n hx hb dX5_undo_26 rfl (lv_at hl 0 rfl) ?_
    refine lv_dup hx hb dX5_undo_27 rfl ?_
    refine r_get F h (i := 0) (k := 5) (.int (t2.1 5)) inX5 rfl (by decide) w551 rfl rfl rfl dX5_undo_28 ?_
    refine lv_iconst (v := 1) hx hb dX5_undo_31 (by decide) ?_
    refine lv_isub hx hb dX5_undo_32 ?_
    refine r_put (o1 := sI t2 5 ((t2.1 5) - 1)) (w := fun t3 => wX5 K aa t3) (S' := fun t3 => [wX5 K aa t3, wX4 K (aa 2) o_now, wF K 8 (fun i => aa (9 + i)) o_past]) F h (i := 0) (k := 5) inX5 tyX5_ok nmX5 rfl (by decide) w551 rfl rfl rfl rfl rfl (Nat.le_of_ble_eq_true rfl) rfl (fun _ => rfl) dX5_undo_33 (fun t3 e3 H locs h => ?_)
    have hf := ltb hf e3
    refine lv_aload_n hx hb dX5_undo_36 rfl (lv_at hl 0 rfl) ?_
    refine r_get F h (i := 0) (k := 1) (.ref ((aa 2) 0)) inX5 rfl (by decide) w513 rfl rfl rfl dX5_undo_37 ?_
    refine lv_aload_n hx hb dX5_undo_40 rfl (lv_at hl 0 rfl) ?_
    refine r_get F h (i := 0) (k := 3) (.ref (aa 0 4)) inX5 rfl (by decide) w646 rfl rfl rfl dX5_undo_41 ?_
    refine lv_aload_n hx hb dX5_undo_44 rfl (lv_at hl 0 rfl) ?_
    refine r_get F h (i := 0) (k := 4) (.int (t3.1 4)) inX5 rfl (by decide) w647 rfl rfl rfl dX5_undo_45 ?_
    obtain ⟨g4, hf⟩ := gdb hf
    refine r_aald F h (i := 0) (j := 1) rfl rfl (vin_ok g4) dX5_undo_48 ?_
    obtain ⟨q5, h5, hf⟩ := asb hf
    have h : WD D A s.heap _ _ [wX5 K aa t3, wX4 K (aa 2) o_now, wX4 K (aa (9 + (t3.1 4).toNatClampNeg)) (o_past ((t3.1 4).toNatClampNeg)), wFx K 8 (fun i => aa (9 + i)) o_past ((t3.1 4).toNatClampNeg)] := h.perm (seg_split (pre := [wX5 K aa t3, wX4 K (aa 2) o_now]) (post := []) (fam_split K 8 (fun i => aa (9 + i)) o_past (vin_lt g4)))
    refine r_callVv (As := [.ref (aa (9 + (t3.1 4).toNatClampNeg) 0)]) (rest := []) (C0 := [wX4 K (aa 2) o_now, wX4 K (aa (9 + (t3.1 4).toNatClampNeg)) ((o_past ((t3.1 4).toNatClampNeg)))]) (C1 := [wX4 K (aa 2) q5, wX4 K (aa (9 + (t3.1 4).toNatClampNeg)) ((o_past ((t3.1 4).toNatClampNeg)))]) (Rr := [wX5 K aa t3, wFx K 8 (fun i => aa (9 + i)) o_past ((t3.1 4).toNatClampNeg)]) (S' := [wX5 K aa t3, wX4 K (aa 2) q5, wX4 K (aa (9 + (t3.1 4).toNatClampNeg)) ((o_past ((t3.1 4).toNatClampNeg))), wFx K 8 (fun i => aa (9 + i)) o_past ((t3.1 4).toNatClampNeg)]) F h hl (c4_copyFrom l D K (aa 2) (aa (9 + (t3.1 4).toNatClampNeg)) o_now (o_past ((t3.1 4).toNatClampNeg)) q5 h5) [1, 2, 0, 3] rfl rfl rfl rfl rfl (i := 1) rfl rfl w553 ⟨w554, w555, w556, w276⟩ hsc4_copyFrom ⟨Nat.le_of_ble_eq_true rfl, Nat.le_of_ble_eq_true rfl⟩ ⟨Nat.le_refl 0, Nat.le_refl 0⟩ (Nat.le_of_ble_eq_true rfl) dX5_undo_49 (fun H locs h => ?_)
    have h : WD D A s.heap _ _ [wX5 K aa t3, wX4 K (aa 2) q5, wF K 8 (fun i => aa (9 + i)) o_past] := h.perm (seg_merge (pre := [wX5 K aa t3, wX4 K (aa 2) q5]) (post := []) (fam_split K 8 (fun i => aa (9 + i)) o_past (vin_lt g4)).symm)
    refine lv_aload_n hx hb dX5_undo_52 rfl (lv_at hl 0 rfl) ?_
    obtain ⟨q6, h6, hf⟩ := asb hf
    refine r_callVv (As := []) (rest := []) (C0 := [wX5 K aa t3]) (C1 := [wX5 K aa q6]) (Rr := [wX4 K (aa 2) q5, wF K 8 (fun i => aa (9 + i)) o_past]) (S' := [wX5 K aa q6, wX4 K (aa 2) q5, wF K 8 (fun i => aa (9 + i)) o_past]) F h hl (c5_noteNewRules l D K aa t3 q6 h6) [0, 1, 2] rfl rfl rfl rfl rfl (i := 0) rfl rfl w557 ⟨w558, w559, w560, w266⟩ hsc5_noteNewRules ⟨Nat.le_of_ble_eq_true rfl, Nat.le_of_ble_eq_true rfl⟩ ⟨Nat.le_refl 0, Nat.le_refl 0⟩ (Nat.le_of_ble_eq_true rfl) dX5_undo_53 (fun H locs h => ?_)
    refine lv_aload_n hx hb dX5_undo_56 rfl (lv_at hl 0 rfl) ?_
    refine r_get F h (i := 0) (k := 5) (.int (q6.1 5)) inX5 rfl (by decide) w551 rfl rfl rfl dX5_undo_57 ?_
    obtain rfl := sor hf
    exact r_reti F h dX5_undo_60
  · have hf := ifp hf c1
    refine lv_bipush (v := (-2)) hx hb dX5_undo_7 (by decide) ?_
    obtain rfl := sor hf
    exact r_reti F h dX5_undo_9
noncomputable def f5_keep (o_this : ob) (o_now : ob) (o_saved : Nat → ob) : Option (Int32 × ob × (Nat → ob)) :=
  (if (o_this.1 7) < 2 then (gd (vin (o_this.1 7) 2) <| (f4_copyFrom (o_saved ((o_this.1 7).toNatClampNeg)) o_now).bind fun q3 => lt (va_up o_saved ((o_this.1 7).toNatClampNeg) q3) fun t4 => lt (sI o_this 7 ((o_this.1 7) + 1)) fun t5 => some (t5.1 7, t5, t4)) else (some ((-3), o_this, o_saved)))
set_option maxRecDepth 100000 in
set_option maxHeartbeats 4000000 in
theorem c5_keep (l : Launch) (D : va_G) (K : Nat → ClassId) (aa : Nat → Nat → Nat) (o_this : ob) (o_now : ob) (o_saved : Nat → ob) (r : Int32 × ob × (Nat → ob)) (hf : f5_keep o_this o_now o_saved = some r) : CTi l yX5_keep cX5_keep 1 (some .int) 2 62 D K [.ref (aa 0 0)] [wX5 K aa o_this, wX4 K (aa 2) o_now, wF K 2 (fun i => aa (17 + i)) o_saved] [wX5 K aa r.2.1, wX4 K (aa 2) o_now, wF K 2 (fun i => aa (17 + i)) r.2.2] r.1 := by
  unfold f5_keep at hf
  have hf := tob hf
  refine entI (by decide) (Nat.le_of_ble_eq_true rfl) (fun P e s m args below meth c A ls F h hl hin => ?_)
  have hx := F.1
  have hb := F.2.1
  have hl : lv_has ls 1 [(0, .ref (aa 0 0))] := hl
  refine lv_aload_n hx hb dX5_keep_0 rfl (lv_at hl 0 rfl) ?_
  refine r_get F h (i := 0) (k := 7) (.int (o_this.1 7)) inX5 rfl (by decide) w552 rfl rfl rfl dX5_keep_1 ?_
  refine lv_iconst (v := 2) hx hb dX5_keep_4 (by decide) ?_
  refine lv_icmp_lt (tgt := 11) hx hb dX5_keep_5 (by decide) (fun c1 => ?_) (fun c1 => ?_)
  · have hf := ifp hf c1
    refine lv_aload_n hx hb dX5_keep_11 rfl (lv_at hl 0 rfl) ?_
    refine r_get F h (i := 0) (k := 6) (.ref (aa 0 7)) inX5 rfl (by decide) w648 rfl rfl rfl dX5_keep_12 ?_
    refine lv_aload_n hx hb dX5_keep_15 rfl (lv_at hl 0 rfl) ?_
    refine r_get F h (i := 0) (k := 7) (.int (o_this.1 7)) inX5 rfl (by decide) w552 rfl rfl rfl dX5_keep_16 ?_
    obtain ⟨g2, hf⟩ := gdb hf
    refine r_aald F h (i := 0) (j := 2) rfl rfl (vin_ok g2) dX5_keep_19 ?_
    refine lv_aload_n hx hb dX5_keep_20 rfl (lv_at hl 0 rfl) ?_
    refine r_get F h (i := 0) (k := 1) (.ref ((aa 2) 0)) inX5 rfl (by decide) w513 rfl rfl rfl dX5_keep_21 ?_
    obtain ⟨q3, h3, hf⟩ := asb hf
    have h : WD D A s.heap _ _ [wX5 K aa o_this, wX4 K (aa 2) o_now, wX4 K (aa (17 + (o_this.1 7).toNatClampNeg)) (o_saved ((o_this.1 7).toNatClampNeg)), wFx K 2 (fun i => aa (17 + i)) o_saved ((o_this.1 7).toNatClampNeg)] := h.perm (seg_split (pre := [wX5 K aa o_this, wX4 K (aa 2) o_now]) (post := []) (fam_split K 2 (fun i => aa (17 + i)) o_saved (vin_lt g2)))
    refine r_callVv (As := [.ref ((aa 2) 0)]) (rest := []) (C0 := [wX4 K (aa (17 + (o_this.1 7).toNatClampNeg)) ((o_saved ((o_this.1 7).toNatClampNeg))), wX4 K (aa 2) o_now]) (C1 := [wX4 K (aa (17 + (o_this.1 7).toNatClampNeg)) q3, wX4 K (aa 2) o_now]) (Rr := [wX5 K aa o_this, wFx K 2 (fun i => aa (17 + i)) o_saved ((o_this.1 7).toNatClampNeg)]) (S' := [wX5 K aa o_this, wX4 K (aa 2) o_now, wX4 K (aa (17 + (o_this.1 7).toNatClampNeg)) q3, wFx K 2 (fun i => aa (17 + i)) o_saved ((o_this.1 7).toNatClampNeg)]) F h hl (c4_copyFrom l D K (aa (17 + (o_this.1 7).toNatClampNeg)) (aa 2) (o_saved ((o_this.1 7).toNatClampNeg)) o_now q3 h3) [2, 1, 0, 3] rfl rfl rfl rfl rfl (i := 2) rfl rfl w553 ⟨w554, w555, w556, w276⟩ hsc4_copyFrom ⟨Nat.le_of_ble_eq_true rfl, Nat.le_of_ble_eq_true rfl⟩ ⟨Nat.le_refl 0, Nat.le_refl 0⟩ (Nat.le_of_ble_eq_true rfl) dX5_keep_24 (fun H locs h => ?_)
    obtain ⟨t4, e4⟩ : ∃ t : Nat → ob, t = va_up o_saved ((o_this.1 7).toNatClampNeg) q3 := ⟨_, rfl⟩
    have hf := ltb hf e4
    have h : WD D A s.heap _ _ [wX5 K aa o_this, wX4 K (aa 2) o_now, wF K 2 (fun i => aa (17 + i)) t4] := h.perm (seg_merge (pre := [wX5 K aa o_this, wX4 K (aa 2) o_now]) (post := []) (e4 ▸ fam_merge K 2 (fun i => aa (17 + i)) o_saved (vin_lt g2) q3))
    refine lv_aload_n hx hb dX5_keep_27 rfl (lv_at hl 0 rfl) ?_
    refine lv_dup hx hb dX5_keep_28 rfl ?_
    refine r_get F h (i := 0) (k := 7) (.int (o_this.1 7)) inX5 rfl (by decide) w552 rfl rfl rfl dX5_keep_29 ?_
    refine lv_iconst (v := 1) hx hb dX5_keep_32 (by decide) ?_
    refine lv_iadd hx hb dX5_keep_33 ?_
    refine r_put (o1 := sI o_this 7 ((o_this.1 7) + 1)) (w := fun t5 => wX5 K aa t5) (S' := fun t5 => [wX5 K aa t5, wX4 K (aa 2) o_now, wF K 2 (fun i => aa (17 + i)) t4]) F h (i := 0) (k := 7) inX5 tyX5_ok nmX5 rfl (by decide) w552 rfl rfl rfl rfl rfl (Nat.le_of_ble_eq_true rfl) rfl (fun _ => rfl) dX5_keep_34 (fun t5 e5 H locs h => ?_)
    have hf := ltb hf e5
    refine lv_aload_n hx hb dX5_keep_37 rfl (lv_at hl 0 rfl) ?_
    refine r_get F h (i := 0) (k := 7) (.int (t5.1 7)) inX5 rfl (by decide) w552 rfl rfl rfl dX5_keep_38 ?_
    obtain rfl := sor hf
    exact r_reti F h dX5_keep_41
  · have hf := ifn hf c1
    refine lv_bipush (v := (-3)) hx hb dX5_keep_8 (by decide) ?_
    obtain rfl := sor hf
    exact r_reti F h dX5_keep_10
noncomputable def f5_back (o_this : ob) (o_now : ob) (o_saved : Nat → ob) : Option (Int32 × ob × ob) :=
  (if (o_this.1 7) = 0 then (some ((-2), o_this, o_now)) else (lt (sI o_this 7 ((o_this.1 7) - 1)) fun t2 => gd (vin (t2.1 7) 2) <| (f4_copyFrom o_now (o_saved ((t2.1 7).toNatClampNeg))).bind fun q4 => lt (sI t2 5 0) fun t5 => (f5_noteNewRules t5).bind fun q6 => some (q6.1 7, q6, q4)))
set_option maxRecDepth 100000 in
set_option maxHeartbeats 4000000 in
theorem c5_back (l : Launch) (D : va_G) (K : Nat → ClassId) (aa : Nat → Nat → Nat) (o_this : ob) (o_now : ob) (o_saved : Nat → ob) (r : Int32 × ob × ob) (hf : f5_back o_this o_now o_saved = some r) : CTi l yX5_back cX5_back 1 (some .int) 2 62 D K [.ref (aa 0 0)] [wX5 K aa o_this, wX4 K (aa 2) o_now, wF K 2 (fun i => aa (17 + i)) o_saved] [wX5 K aa r.2.1, wX4 K (aa 2) r.2.2, wF K 2 (fun i => aa (17 + i)) o_saved] r.1 := by
  unfold f5_back at hf
  have hf := tob hf
  refine entI (by decide) (Nat.le_of_ble_eq_true rfl) (fun P e s m args below meth c A ls F h hl hin => ?_)
  have hx := F.1
  have hb := F.2.1
  have hl : lv_has ls 1 [(0, .ref (aa 0 0))] := hl
  refine lv_aload_n hx hb dX5_back_0 rfl (lv_at hl 0 rfl) ?_
  refine r_get F h (i := 0) (k := 7) (.int (o_this.1 7)) inX5 rfl (by decide) w552 rfl rfl rfl dX5_back_1 ?_
  refine lv_if_ne (tgt := 10) hx hb dX5_back_4 (by decide) (fun c1 => ?_) (fun c1 => ?_)
  · have hf := ifn hf c1
    refine lv_aload_n hx hb dX5_back_10 rfl (lv_at hl 0 rfl) ?_
    refine lv_dup hx hb dX5_back_11 rfl ?_
    refine r_get F h (i := 0) (k := 7) (.int (o_this.1 7)) inX5 rfl (by decide) w552 rfl rfl rfl dX5_back_12 ?_
    refine lv_iconst (v := 1) hx hb dX5_back_15 (by decide) ?_
    refine lv_isub hx hb dX5_back_16 ?_
    refine r_put (o1 := sI o_this 7 ((o_this.1 7) - 1)) (w := fun t2 => wX5 K aa t2) (S' := fun t2 => [wX5 K aa t2, wX4 K (aa 2) o_now, wF K 2 (fun i => aa (17 + i)) o_saved]) F h (i := 0) (k := 7) inX5 tyX5_ok nmX5 rfl (by decide) w552 rfl rfl rfl rfl rfl (Nat.le_of_ble_eq_true rfl) rfl (fun _ => rfl) dX5_back_17 (fun t2 e2 H locs h => ?_)
    have hf := ltb hf e2
    refine lv_aload_n hx hb dX5_back_20 rfl (lv_at hl 0 rfl) ?_
    refine r_get F h (i := 0) (k := 1) (.ref ((aa 2) 0)) inX5 rfl (by decide) w513 rfl rfl rfl dX5_back_21 ?_
    refine lv_aload_n hx hb dX5_back_24 rfl (lv_at hl 0 rfl) ?_
    refine r_get F h (i := 0) (k := 6) (.ref (aa 0 7)) inX5 rfl (by decide) w648 rfl rfl rfl dX5_back_25 ?_
    refine lv_aload_n hx hb dX5_back_28 rfl (lv_at hl 0 rfl) ?_
    refine r_get F h (i := 0) (k := 7) (.int (t2.1 7)) inX5 rfl (by decide) w552 rfl rfl rfl dX5_back_29 ?_
    obtain ⟨g3, hf⟩ := gdb hf
    refine r_aald F h (i := 0) (j := 2) rfl rfl (vin_ok g3) dX5_back_32 ?_
    obtain ⟨q4, h4, hf⟩ := asb hf
    have h : WD D A s.heap _ _ [wX5 K aa t2, wX4 K (aa 2) o_now, wX4 K (aa (17 + (t2.1 7).toNatClampNeg)) (o_saved ((t2.1 7).toNatClampNeg)), wFx K 2 (fun i => aa (17 + i)) o_saved ((t2.1 7).toNatClampNeg)] := h.perm (seg_split (pre := [wX5 K aa t2, wX4 K (aa 2) o_now]) (post := []) (fam_split K 2 (fun i => aa (17 + i)) o_saved (vin_lt g3)))
    refine r_callVv (As := [.ref (aa (17 + (t2.1 7).toNatClampNeg) 0)]) (rest := []) (C0 := [wX4 K (aa 2) o_now, wX4 K (aa (17 + (t2.1 7).toNatClampNeg)) ((o_saved ((t2.1 7).toNatClampNeg)))]) (C1 := [wX4 K (aa 2) q4, wX4 K (aa (17 + (t2.1 7).toNatClampNeg)) ((o_saved ((t2.1 7).toNatClampNeg)))]) (Rr := [wX5 K aa t2, wFx K 2 (fun i => aa (17 + i)) o_saved ((t2.1 7).toNatClampNeg)]) (S' := [wX5 K aa t2, wX4 K (aa 2) q4, wX4 K (aa (17 + (t2.1 7).toNatClampNeg)) ((o_saved ((t2.1 7).toNatClampNeg))), wFx K 2 (fun i => aa (17 + i)) o_saved ((t2.1 7).toNatClampNeg)]) F h hl (c4_copyFrom l D K (aa 2) (aa (17 + (t2.1 7).toNatClampNeg)) o_now (o_saved ((t2.1 7).toNatClampNeg)) q4 h4) [1, 2, 0, 3] rfl rfl rfl rfl rfl (i := 1) rfl rfl w553 ⟨w554, w555, w556, w276⟩ hsc4_copyFrom ⟨Nat.le_of_ble_eq_true rfl, Nat.le_of_ble_eq_true rfl⟩ ⟨Nat.le_refl 0, Nat.le_refl 0⟩ (Nat.le_of_ble_eq_true rfl) dX5_back_33 (fun H locs h => ?_)
    have h : WD D A s.heap _ _ [wX5 K aa t2, wX4 K (aa 2) q4, wF K 2 (fun i => aa (17 + i)) o_saved] := h.perm (seg_merge (pre := [wX5 K aa t2, wX4 K (aa 2) q4]) (post := []) (fam_split K 2 (fun i => aa (17 + i)) o_saved (vin_lt g3)).symm)
    refine lv_aload_n hx hb dX5_back_36 rfl (lv_at hl 0 rfl) ?_
    refine lv_iconst (v := 0) hx hb dX5_back_37 (by decide) ?_
    refine r_put (o1 := sI t2 5 0) (w := fun t5 => wX5 K aa t5) (S' := fun t5 => [wX5 K aa t5, wX4 K (aa 2) q4, wF K 2 (fun i => aa (17 + i)) o_saved]) F h (i := 0) (k := 5) inX5 tyX5_ok nmX5 rfl (by decide) w551 rfl rfl rfl rfl rfl (Nat.le_of_ble_eq_true rfl) rfl (fun _ => rfl) dX5_back_38 (fun t5 e5 H locs h => ?_)
    have hf := ltb hf e5
    refine lv_aload_n hx hb dX5_back_41 rfl (lv_at hl 0 rfl) ?_
    obtain ⟨q6, h6, hf⟩ := asb hf
    refine r_callVv (As := []) (rest := []) (C0 := [wX5 K aa t5]) (C1 := [wX5 K aa q6]) (Rr := [wX4 K (aa 2) q4, wF K 2 (fun i => aa (17 + i)) o_saved]) (S' := [wX5 K aa q6, wX4 K (aa 2) q4, wF K 2 (fun i => aa (17 + i)) o_saved]) F h hl (c5_noteNewRules l D K aa t5 q6 h6) [0, 1, 2] rfl rfl rfl rfl rfl (i := 0) rfl rfl w557 ⟨w558, w559, w560, w266⟩ hsc5_noteNewRules ⟨Nat.le_of_ble_eq_true rfl, Nat.le_of_ble_eq_true rfl⟩ ⟨Nat.le_refl 0, Nat.le_refl 0⟩ (Nat.le_of_ble_eq_true rfl) dX5_back_42 (fun H locs h => ?_)
    refine lv_aload_n hx hb dX5_back_45 rfl (lv_at hl 0 rfl) ?_
    refine r_get F h (i := 0) (k := 7) (.int (q6.1 7)) inX5 rfl (by decide) w552 rfl rfl rfl dX5_back_46 ?_
    obtain rfl := sor hf
    exact r_reti F h dX5_back_49
  · have hf := ifp hf c1
    refine lv_bipush (v := (-2)) hx hb dX5_back_7 (by decide) ?_
    obtain rfl := sor hf
    exact r_reti F h dX5_back_9
noncomputable def f5_push (x0 : Int32) (o_this : ob) (o_now : ob) (o_past : Nat → ob) : Option (Int32 × ob × ob × (Nat → ob)) :=
  (f5_isLetter x0).bind fun q1 => (if q1 = 0 then (some ((-1), o_this, o_now, o_past)) else ((if (o_now.1 14) < 12 then ((f5_remember o_this o_now o_past).bind fun q4 => (f4_putLetter x0 o_now).bind fun q5 => some (q5.1 14, q4.1, q5, q4.2)) else (some ((-3), o_this, o_now, o_past)))))
set_option maxRecDepth 100000 in
set_option maxHeartbeats 4000000 in
theorem c5_push (l : Launch) (D : va_G) (K : Nat → ClassId) (aa : Nat → Nat → Nat) (x0 : Int32) (o_this : ob) (o_now : ob) (o_past : Nat → ob) (r : Int32 × ob × ob × (Nat → ob)) (hf : f5_push x0 o_this o_now o_past = some r) : CTi l yX5_push cX5_push 2 (some .int) 3 82 D K [.ref (aa 0 0), .int x0] [wX5 K aa o_this, wX4 K (aa 2) o_now, wF K 8 (fun i => aa (9 + i)) o_past] [wX5 K aa r.2.1, wX4 K (aa 2) r.2.2.1, wF K 8 (fun i => aa (9 + i)) r.2.2.2] r.1 := by
  unfold f5_push at hf
  have hf := tob hf
  refine entI (by decide) (Nat.le_of_ble_eq_true rfl) (fun P e s m args below meth c A ls F h hl hin => ?_)
  have hx := F.1
  have hb := F.2.1
  have hl : lv_has ls 2 [(0, .ref (aa 0 0)), (1, .int x0)] := hl
  refine lv_iload_n hx hb dX5_push_0 rfl (lv_at hl 1 rfl) ?_
  obtain ⟨q1, h1, hf⟩ := asb hf
  refine r_callS (As := [.int x0]) (rest := []) F h hl (c5_isLetter l D K x0 q1 h1) w600 ⟨w598, w599, w266⟩ hsc5_isLetter ⟨Nat.le_of_ble_eq_true rfl, Nat.le_of_ble_eq_true rfl⟩ ⟨Nat.le_refl 0, Nat.le_refl 0⟩ (Nat.le_of_ble_eq_true rfl) dX5_push_1 (fun H locs h => ?_)
  refine lv_if_ne (tgt := 9) hx hb dX5_push_4 (by decide) (fun c2 => ?_) (fun c2 => ?_)
  · have hf := ifn hf c2
    refine lv_aload_n hx hb dX5_push_9 rfl (lv_at hl 0 rfl) ?_
    refine r_get F h (i := 0) (k := 1) (.ref ((aa 2) 0)) inX5 rfl (by decide) w513 rfl rfl rfl dX5_push_10 ?_
    refine r_get F h (i := 1) (k := 14) (.int (o_now.1 14)) inX4 rfl (by decide) w578 rfl rfl rfl dX5_push_13 ?_
    refine lv_bipush (v := 12) hx hb dX5_push_16 (by decide) ?_
    refine lv_icmp_lt (tgt := 24) hx hb dX5_push_18 (by decide) (fun c3 => ?_) (fun c3 => ?_)
    · have hf := ifp hf c3
      refine lv_aload_n hx hb dX5_push_24 rfl (lv_at hl 0 rfl) ?_
      obtain ⟨q4, h4, hf⟩ := asb hf
      refine r_callVv (As := []) (rest := []) (C0 := [wX5 K aa o_this, wX4 K (aa 2) o_now, wF K 8 (fun i => aa (9 + i)) o_past]) (C1 := [wX5 K aa q4.1, wX4 K (aa 2) o_now, wF K 8 (fun i => aa (9 + i)) q4.2]) (Rr := []) (S' := [wX5 K aa q4.1, wX4 K (aa 2) o_now, wF K 8 (fun i => aa (9 + i)) q4.2]) F h hl (c5_remember l D K aa o_this o_now o_past q4 h4) [0, 1, 2] rfl rfl rfl rfl rfl (i := 0) rfl rfl w649 ⟨w650, w651, w652, w266⟩ hsc5_remember ⟨Nat.le_of_ble_eq_true rfl, Nat.le_of_ble_eq_true rfl⟩ ⟨Nat.le_refl 0, Nat.le_refl 0⟩ (Nat.le_of_ble_eq_true rfl) dX5_push_25 (fun H locs h => ?_)
      refine lv_aload_n hx hb dX5_push_28 rfl (lv_at hl 0 rfl) ?_
      refine r_get F h (i := 0) (k := 1) (.ref ((aa 2) 0)) inX5 rfl (by decide) w513 rfl rfl rfl dX5_push_29 ?_
      refine lv_iload_n hx hb dX5_push_32 rfl (lv_at hl 1 rfl) ?_
      obtain ⟨q5, h5, hf⟩ := asb hf
      refine r_callVv (As := [.int x0]) (rest := []) (C0 := [wX4 K (aa 2) o_now]) (C1 := [wX4 K (aa 2) q5]) (Rr := [wX5 K aa q4.1, wF K 8 (fun i => aa (9 + i)) q4.2]) (S' := [wX5 K aa q4.1, wX4 K (aa 2) q5, wF K 8 (fun i => aa (9 + i)) q4.2]) F h hl (c4_putLetter l D K (aa 2) x0 o_now q5 h5) [1, 0, 2] rfl rfl rfl rfl rfl (i := 1) rfl rfl w277 ⟨w653, w279, w280, w276⟩ hsc4_putLetter ⟨Nat.le_of_ble_eq_true rfl, Nat.le_of_ble_eq_true rfl⟩ ⟨Nat.le_refl 0, Nat.le_refl 0⟩ (Nat.le_of_ble_eq_true rfl) dX5_push_33 (fun H locs h => ?_)
      refine lv_aload_n hx hb dX5_push_36 rfl (lv_at hl 0 rfl) ?_
      refine r_get F h (i := 0) (k := 1) (.ref ((aa 2) 0)) inX5 rfl (by decide) w513 rfl rfl rfl dX5_push_37 ?_
      refine r_get F h (i := 1) (k := 14) (.int (q5.1 14)) inX4 rfl (by decide) w578 rfl rfl rfl dX5_push_40 ?_
      obtain rfl := sor hf
      exact r_reti F h dX5_push_43
    · have hf := ifn hf c3
      refine lv_bipush (v := (-3)) hx hb dX5_push_21 (by decide) ?_
      obtain rfl := sor hf
      exact r_reti F h dX5_push_23
  · have hf := ifp hf c2
    refine lv_iconst (v := (-1)) hx hb dX5_push_7 (by decide) ?_
    obtain rfl := sor hf
    exact r_reti F h dX5_push_8
noncomputable def f5_pop (o_this : ob) (o_now : ob) (o_past : Nat → ob) : Option (Int32 × ob × ob × (Nat → ob)) :=
  (if (o_now.1 14) = 0 then (some ((-2), o_this, o_now, o_past)) else ((f5_remember o_this o_now o_past).bind fun q2 => (f4_takeLetter o_now).bind fun q3 => some (q3.1, q2.1, q3.2, q2.2)))
set_option maxRecDepth 100000 in
set_option maxHeartbeats 4000000 in
theorem c5_pop (l : Launch) (D : va_G) (K : Nat → ClassId) (aa : Nat → Nat → Nat) (o_this : ob) (o_now : ob) (o_past : Nat → ob) (r : Int32 × ob × ob × (Nat → ob)) (hf : f5_pop o_this o_now o_past = some r) : CTi l yX5_pop cX5_pop 1 (some .int) 3 82 D K [.ref (aa 0 0)] [wX5 K aa o_this, wX4 K (aa 2) o_now, wF K 8 (fun i => aa (9 + i)) o_past] [wX5 K aa r.2.1, wX4 K (aa 2) r.2.2.1, wF K 8 (fun i => aa (9 + i)) r.2.2.2] r.1 := by
  unfold f5_pop at hf
  have hf := tob hf
  refine entI (by decide) (Nat.le_of_ble_eq_true rfl) (fun P e s m args below meth c A ls F h hl hin => ?_)
  have hx := F.1
  have hb := F.2.1
  have hl : lv_has ls 1 [(0, .ref (aa 0 0))] := hl
  refine lv_aload_n hx hb dX5_pop_0 rfl (lv_at hl 0 rfl) ?_
  refine r_get F h (i := 0) (k := 1) (.ref ((aa 2) 0)) inX5 rfl (by decide) w513 rfl rfl rfl dX5_pop_1 ?_
  refine r_get F h (i := 1) (k := 14) (.int (o_now.1 14)) inX4 rfl (by decide) w578 rfl rfl rfl dX5_pop_4 ?_
  refine lv_if_ne (tgt := 13) hx hb dX5_pop_7 (by decide) (fun c1 => ?_) (fun c1 => ?_)
  · have hf := ifn hf c1
    refine lv_aload_n hx hb dX5_pop_13 rfl (lv_at hl 0 rfl) ?_
    obtain ⟨q2, h2, hf⟩ := asb hf
    refine r_callVv (As := []) (rest := []) (C0 := [wX5 K aa o_this, wX4 K (aa 2) o_now, wF K 8 (fun i => aa (9 + i)) o_past]) (C1 := [wX5 K aa q2.1, wX4 K (aa 2) o_now, wF K 8 (fun i => aa (9 + i)) q2.2]) (Rr := []) (S' := [wX5 K aa q2.1, wX4 K (aa 2) o_now, wF K 8 (fun i => aa (9 + i)) q2.2]) F h hl (c5_remember l D K aa o_this o_now o_past q2 h2) [0, 1, 2] rfl rfl rfl rfl rfl (i := 0) rfl rfl w649 ⟨w650, w651, w652, w266⟩ hsc5_remember ⟨Nat.le_of_ble_eq_true rfl, Nat.le_of_ble_eq_true rfl⟩ ⟨Nat.le_refl 0, Nat.le_refl 0⟩ (Nat.le_of_ble_eq_true rfl) dX5_pop_14 (fun H locs h => ?_)
    refine lv_aload_n hx hb dX5_pop_17 rfl (lv_at hl 0 rfl) ?_
    refine r_get F h (i := 0) (k := 1) (.ref ((aa 2) 0)) inX5 rfl (by decide) w513 rfl rfl rfl dX5_pop_18 ?_
    obtain ⟨q3, h3, hf⟩ := asb hf
    refine r_callVi (As := []) (rest := []) (C0 := [wX4 K (aa 2) o_now]) (C1 := [wX4 K (aa 2) q3.2]) (Rr := [wX5 K aa q2.1, wF K 8 (fun i => aa (9 + i)) q2.2]) (S' := [wX5 K aa q2.1, wX4 K (aa 2) q3.2, wF K 8 (fun i => aa (9 + i)) q2.2]) F h hl (c4_takeLetter l D K (aa 2) o_now q3 h3) [1, 0, 2] rfl rfl rfl rfl rfl (i := 1) rfl rfl w272 ⟨w654, w274, w275, w276⟩ hsc4_takeLetter ⟨Nat.le_of_ble_eq_true rfl, Nat.le_of_ble_eq_true rfl⟩ ⟨Nat.le_refl 0, Nat.le_refl 0⟩ (Nat.le_of_ble_eq_true rfl) dX5_pop_21 (fun H locs h => ?_)
    obtain rfl := sor hf
    exact r_reti F h dX5_pop_24
  · have hf := ifp hf c1
    refine lv_bipush (v := (-2)) hx hb dX5_pop_10 (by decide) ?_
    obtain rfl := sor hf
    exact r_reti F h dX5_pop_12
noncomputable def f5_step (x0 : Int32) (o_this : ob) (o_now : ob) (o_past : Nat → ob) : Option (Int32 × ob × ob × (Nat → ob)) :=
  (f5_isRule x0 o_this o_now).bind fun q1 => (if q1 = 0 then (some ((-1), o_this, o_now, o_past)) else ((f4_applies x0 o_now).bind fun q3 => (if q3 = 0 then (some ((-2), o_this, o_now, o_past)) else ((f4_heightAfter x0 o_now).bind fun q5 => (if q5 ≤ 12 then ((f5_remember o_this o_now o_past).bind fun q7 => (f4_apply x0 o_now).bind fun q8 => some (q8.1 14, q7.1, q8, q7.2)) else (some ((-3), o_this, o_now, o_past)))))))
set_option maxRecDepth 100000 in
set_option maxHeartbeats 4000000 in
theorem c5_step (l : Launch) (D : va_G) (K : Nat → ClassId) (aa : Nat → Nat → Nat) (x0 : Int32) (o_this : ob) (o_now : ob) (o_past : Nat → ob) (r : Int32 × ob × ob × (Nat → ob)) (hf : f5_step x0 o_this o_now o_past = some r) : CTi l yX5_step cX5_step 2 (some .int) 3 82 D K [.ref (aa 0 0), .int x0] [wX5 K aa o_this, wX4 K (aa 2) o_now, wF K 8 (fun i => aa (9 + i)) o_past] [wX5 K aa r.2.1, wX4 K (aa 2) r.2.2.1, wF K 8 (fun i => aa (9 + i)) r.2.2.2] r.1 := by
  unfold f5_step at hf
  have hf := tob hf
  refine entI (by decide) (Nat.le_of_ble_eq_true rfl) (fun P e s m args below meth c A ls F h hl hin => ?_)
  have hx := F.1
  have hb := F.2.1
  have hl : lv_has ls 2 [(0, .ref (aa 0 0)), (1, .int x0)] := hl
  refine lv_aload_n hx hb dX5_step_0 rfl (lv_at hl 0 rfl) ?_
  refine lv_iload_n hx hb dX5_step_1 rfl (lv_at hl 1 rfl) ?_
  obtain ⟨q1, h1, hf⟩ := asb hf
  refine r_callVi (As := [.int x0]) (rest := []) (C0 := [wX5 K aa o_this, wX4 K (aa 2) o_now]) (C1 := [wX5 K aa o_this, wX4 K (aa 2) o_now]) (Rr := [wF K 8 (fun i => aa (9 + i)) o_past]) (S' := [wX5 K aa o_this, wX4 K (aa 2) o_now, wF K 8 (fun i => aa (9 + i)) o_past]) F h hl (c5_isRule l D K aa x0 o_this o_now q1 h1) [0, 1, 2] rfl rfl rfl rfl rfl (i := 0) rfl rfl w569 ⟨w570, w571, w572, w266⟩ hsc5_isRule ⟨Nat.le_of_ble_eq_true rfl, Nat.le_of_ble_eq_true rfl⟩ ⟨Nat.le_refl 0, Nat.le_refl 0⟩ (Nat.le_of_ble_eq_true rfl) dX5_step_2 (fun H locs h => ?_)
  refine lv_if_ne (tgt := 10) hx hb dX5_step_5 (by decide) (fun c2 => ?_) (fun c2 => ?_)
  · have hf := ifn hf c2
    refine lv_aload_n hx hb dX5_step_10 rfl (lv_at hl 0 rfl) ?_
    refine r_get F h (i := 0) (k := 1) (.ref ((aa 2) 0)) inX5 rfl (by decide) w513 rfl rfl rfl dX5_step_11 ?_
    refine lv_iload_n hx hb dX5_step_14 rfl (lv_at hl 1 rfl) ?_
    obtain ⟨q3, h3, hf⟩ := asb hf
    refine r_callVi (As := [.int x0]) (rest := []) (C0 := [wX4 K (aa 2) o_now]) (C1 := [wX4 K (aa 2) o_now]) (Rr := [wX5 K aa o_this, wF K 8 (fun i => aa (9 + i)) o_past]) (S' := [wX5 K aa o_this, wX4 K (aa 2) o_now, wF K 8 (fun i => aa (9 + i)) o_past]) F h hl (c4_applies l D K (aa 2) x0 o_now q3 h3) [1, 0, 2] rfl rfl rfl rfl rfl (i := 1) rfl rfl w281 ⟨w655, w283, w284, w276⟩ hsc4_applies ⟨Nat.le_of_ble_eq_true rfl, Nat.le_of_ble_eq_true rfl⟩ ⟨Nat.le_refl 0, Nat.le_refl 0⟩ (Nat.le_of_ble_eq_true rfl) dX5_step_15 (fun H locs h => ?_)
    refine lv_if_ne (tgt := 24) hx hb dX5_step_18 (by decide) (fun c4 => ?_) (fun c4 => ?_)
    · have hf := ifn hf c4
      refine lv_aload_n hx hb dX5_step_24 rfl (lv_at hl 0 rfl) ?_
      refine r_get F h (i := 0) (k := 1) (.ref ((aa 2) 0)) inX5 rfl (by decide) w513 rfl rfl rfl dX5_step_25 ?_
      refine lv_iload_n hx hb dX5_step_28 rfl (lv_at hl 1 rfl) ?_
      obtain ⟨q5, h5, hf⟩ := asb hf
      refine r_callVi (As := [.int x0]) (rest := []) (C0 := [wX4 K (aa 2) o_now]) (C1 := [wX4 K (aa 2) o_now]) (Rr := [wX5 K aa o_this, wF K 8 (fun i => aa (9 + i)) o_past]) (S' := [wX5 K aa o_this, wX4 K (aa 2) o_now, wF K 8 (fun i => aa (9 + i)) o_past]) F h hl (c4_heightAfter l D K (aa 2) x0 o_now q5 h5) [1, 0, 2] rfl rfl rfl rfl rfl (i := 1) rfl rfl w638 ⟨w639, w640, w641, w276⟩ hsc4_heightAfter ⟨Nat.le_of_ble_eq_true rfl, Nat.le_of_ble_eq_true rfl⟩ ⟨Nat.le_refl 0, Nat.le_refl 0⟩ (Nat.le_of_ble_eq_true rfl) dX5_step_29 (fun H locs h => ?_)
      refine lv_bipush (v := 12) hx hb dX5_step_32 (by decide) ?_
      refine lv_icmp_le (tgt := 40) hx hb dX5_step_34 (by decide) (fun c6 => ?_) (fun c6 => ?_)
      · have hf := ifp hf c6
        refine lv_aload_n hx hb dX5_step_40 rfl (lv_at hl 0 rfl) ?_
        obtain ⟨q7, h7, hf⟩ := asb hf
        refine r_callVv (As := []) (rest := []) (C0 := [wX5 K aa o_this, wX4 K (aa 2) o_now, wF K 8 (fun i => aa (9 + i)) o_past]) (C1 := [wX5 K aa q7.1, wX4 K (aa 2) o_now, wF K 8 (fun i => aa (9 + i)) q7.2]) (Rr := []) (S' := [wX5 K aa q7.1, wX4 K (aa 2) o_now, wF K 8 (fun i => aa (9 + i)) q7.2]) F h hl (c5_remember l D K aa o_this o_now o_past q7 h7) [0, 1, 2] rfl rfl rfl rfl rfl (i := 0) rfl rfl w649 ⟨w650, w651, w652, w266⟩ hsc5_remember ⟨Nat.le_of_ble_eq_true rfl, Nat.le_of_ble_eq_true rfl⟩ ⟨Nat.le_refl 0, Nat.le_refl 0⟩ (Nat.le_of_ble_eq_true rfl) dX5_step_41 (fun H locs h => ?_)
        refine lv_aload_n hx hb dX5_step_44 rfl (lv_at hl 0 rfl) ?_
        refine r_get F h (i := 0) (k := 1) (.ref ((aa 2) 0)) inX5 rfl (by decide) w513 rfl rfl rfl dX5_step_45 ?_
        refine lv_iload_n hx hb dX5_step_48 rfl (lv_at hl 1 rfl) ?_
        obtain ⟨q8, h8, hf⟩ := asb hf
        refine r_callVv (As := [.int x0]) (rest := []) (C0 := [wX4 K (aa 2) o_now]) (C1 := [wX4 K (aa 2) q8]) (Rr := [wX5 K aa q7.1, wF K 8 (fun i => aa (9 + i)) q7.2]) (S' := [wX5 K aa q7.1, wX4 K (aa 2) q8, wF K 8 (fun i => aa (9 + i)) q7.2]) F h hl (c4_apply l D K (aa 2) x0 o_now q8 h8) [1, 0, 2] rfl rfl rfl rfl rfl (i := 1) rfl rfl w642 ⟨w643, w644, w645, w276⟩ hsc4_apply ⟨Nat.le_of_ble_eq_true rfl, Nat.le_of_ble_eq_true rfl⟩ ⟨Nat.le_refl 0, Nat.le_refl 0⟩ (Nat.le_of_ble_eq_true rfl) dX5_step_49 (fun H locs h => ?_)
        refine lv_aload_n hx hb dX5_step_52 rfl (lv_at hl 0 rfl) ?_
        refine r_get F h (i := 0) (k := 1) (.ref ((aa 2) 0)) inX5 rfl (by decide) w513 rfl rfl rfl dX5_step_53 ?_
        refine r_get F h (i := 1) (k := 14) (.int (q8.1 14)) inX4 rfl (by decide) w578 rfl rfl rfl dX5_step_56 ?_
        obtain rfl := sor hf
        exact r_reti F h dX5_step_59
      · have hf := ifn hf c6
        refine lv_bipush (v := (-3)) hx hb dX5_step_37 (by decide) ?_
        obtain rfl := sor hf
        exact r_reti F h dX5_step_39
    · have hf := ifp hf c4
      refine lv_bipush (v := (-2)) hx hb dX5_step_21 (by decide) ?_
      obtain rfl := sor hf
      exact r_reti F h dX5_step_23
  · have hf := ifp hf c2
    refine lv_iconst (v := (-1)) hx hb dX5_step_8 (by decide) ?_
    obtain rfl := sor hf
    exact r_reti F h dX5_step_9
noncomputable def f5_go (x0 : Int32) (o_this : ob) (o_now : ob) (o_past : Nat → ob) : Option (Int32 × ob × ob × (Nat → ob)) :=
  (f5_isState x0 o_this o_now).bind fun q1 => (if q1 = 0 then (some ((-1), o_this, o_now, o_past)) else (lt (o_now.1 13) fun y3 => (if x0 = y3 then (some ((-2), o_this, o_now, o_past)) else ((f5_remember o_this o_now o_past).bind fun q5 => lt (sI o_now 13 x0) fun t6 => some (y3, q5.1, t6, q5.2)))))
set_option maxRecDepth 100000 in
set_option maxHeartbeats 4000000 in
theorem c5_go (l : Launch) (D : va_G) (K : Nat → ClassId) (aa : Nat → Nat → Nat) (x0 : Int32) (o_this : ob) (o_now : ob) (o_past : Nat → ob) (r : Int32 × ob × ob × (Nat → ob)) (hf : f5_go x0 o_this o_now o_past = some r) : CTi l yX5_go cX5_go 3 (some .int) 3 82 D K [.ref (aa 0 0), .int x0] [wX5 K aa o_this, wX4 K (aa 2) o_now, wF K 8 (fun i => aa (9 + i)) o_past] [wX5 K aa r.2.1, wX4 K (aa 2) r.2.2.1, wF K 8 (fun i => aa (9 + i)) r.2.2.2] r.1 := by
  unfold f5_go at hf
  have hf := tob hf
  refine entI (by decide) (Nat.le_of_ble_eq_true rfl) (fun P e s m args below meth c A ls F h hl hin => ?_)
  have hx := F.1
  have hb := F.2.1
  have hl : lv_has ls 3 [(0, .ref (aa 0 0)), (1, .int x0)] := hl
  refine lv_aload_n hx hb dX5_go_0 rfl (lv_at hl 0 rfl) ?_
  refine lv_iload_n hx hb dX5_go_1 rfl (lv_at hl 1 rfl) ?_
  obtain ⟨q1, h1, hf⟩ := asb hf
  refine r_callVi (As := [.int x0]) (rest := []) (C0 := [wX5 K aa o_this, wX4 K (aa 2) o_now]) (C1 := [wX5 K aa o_this, wX4 K (aa 2) o_now]) (Rr := [wF K 8 (fun i => aa (9 + i)) o_past]) (S' := [wX5 K aa o_this, wX4 K (aa 2) o_now, wF K 8 (fun i => aa (9 + i)) o_past]) F h hl (c5_isState l D K aa x0 o_this o_now q1 h1) [0, 1, 2] rfl rfl rfl rfl rfl (i := 0) rfl rfl w602 ⟨w603, w604, w605, w266⟩ hsc5_isState ⟨Nat.le_of_ble_eq_true rfl, Nat.le_of_ble_eq_true rfl⟩ ⟨Nat.le_refl 0, Nat.le_refl 0⟩ (Nat.le_of_ble_eq_true rfl) dX5_go_2 (fun H locs h => ?_)
  refine lv_if_ne (tgt := 10) hx hb dX5_go_5 (by decide) (fun c2 => ?_) (fun c2 => ?_)
  · have hf := ifn hf c2
    refine lv_aload_n hx hb dX5_go_10 rfl (lv_at hl 0 rfl) ?_
    refine r_get F h (i := 0) (k := 1) (.ref ((aa 2) 0)) inX5 rfl (by decide) w513 rfl rfl rfl dX5_go_11 ?_
    refine r_get F h (i := 1) (k := 13) (.int (o_now.1 13)) inX4 rfl (by decide) w580 rfl rfl rfl dX5_go_14 ?_
    refine lv_topi (fun y3 e3 => ?_)
    have hf := ltb hf e3
    refine lv_istore_n (lv' := [(2, .int y3), (0, .ref (aa 0 0)), (1, .int x0)]) hx hb dX5_go_17 rfl hl (by decide) rfl (fun ls hl => ?_)
    refine lv_iload_n hx hb dX5_go_18 rfl (lv_at hl 2 rfl) ?_
    refine lv_iload_n hx hb dX5_go_19 rfl (lv_at hl 0 rfl) ?_
    refine lv_icmp_ne (tgt := 26) hx hb dX5_go_20 (by decide) (fun c4 => ?_) (fun c4 => ?_)
    · have hf := ifn hf c4
      refine lv_aload_n hx hb dX5_go_26 rfl (lv_at hl 1 rfl) ?_
      obtain ⟨q5, h5, hf⟩ := asb hf
      refine r_callVv (As := []) (rest := []) (C0 := [wX5 K aa o_this, wX4 K (aa 2) o_now, wF K 8 (fun i => aa (9 + i)) o_past]) (C1 := [wX5 K aa q5.1, wX4 K (aa 2) o_now, wF K 8 (fun i => aa (9 + i)) q5.2]) (Rr := []) (S' := [wX5 K aa q5.1, wX4 K (aa 2) o_now, wF K 8 (fun i => aa (9 + i)) q5.2]) F h hl (c5_remember l D K aa o_this o_now o_past q5 h5) [0, 1, 2] rfl rfl rfl rfl rfl (i := 0) rfl rfl w649 ⟨w650, w651, w652, w266⟩ hsc5_remember ⟨Nat.le_of_ble_eq_true rfl, Nat.le_of_ble_eq_true rfl⟩ ⟨Nat.le_refl 0, Nat.le_refl 0⟩ (Nat.le_of_ble_eq_true rfl) dX5_go_27 (fun H locs h => ?_)
      refine lv_aload_n hx hb dX5_go_30 rfl (lv_at hl 1 rfl) ?_
      refine r_get F h (i := 0) (k := 1) (.ref ((aa 2) 0)) inX5 rfl (by decide) w513 rfl rfl rfl dX5_go_31 ?_
      refine lv_iload_n hx hb dX5_go_34 rfl (lv_at hl 2 rfl) ?_
      refine r_put (o1 := sI o_now 13 x0) (w := fun t6 => wX4 K (aa 2) t6) (S' := fun t6 => [wX5 K aa q5.1, wX4 K (aa 2) t6, wF K 8 (fun i => aa (9 + i)) q5.2]) F h (i := 1) (k := 13) inX4 tyX4_ok nmX4 rfl (by decide) w580 rfl rfl rfl rfl rfl (Nat.le_of_ble_eq_true rfl) rfl (fun _ => rfl) dX5_go_35 (fun t6 e6 H locs h => ?_)
      have hf := ltb hf e6
      refine lv_iload_n hx hb dX5_go_38 rfl (lv_at hl 0 rfl) ?_
      obtain rfl := sor hf
      exact r_reti F h dX5_go_39
    · have hf := ifp hf c4
      refine lv_bipush (v := (-2)) hx hb dX5_go_23 (by decide) ?_
      obtain rfl := sor hf
      exact r_reti F h dX5_go_25
  · have hf := ifp hf c2
    refine lv_iconst (v := (-1)) hx hb dX5_go_8 (by decide) ?_
    obtain rfl := sor hf
    exact r_reti F h dX5_go_9
noncomputable def f5_enter (x0 : Int32) (x1 : Int32) (x2 : Int32) (x3 : Int32) (x4 : Int32) (o_this : ob) (o_now : ob) (o_past : Nat → ob) : Option (Int32 × ob × ob × (Nat → ob)) :=
  (f5_isState x0 o_this o_now).bind fun q1 => (if q1 = 0 then (some ((-1), o_this, o_now, o_past)) else ((f5_isLetter x1).bind fun q3 => (if q3 = 0 then (some ((-1), o_this, o_now, o_past)) else ((f5_isState x2 o_this o_now).bind fun q5 => (if q5 = 0 then (some ((-1), o_this, o_now, o_past)) else ((if x3 < 0 then (some ((-1), o_this, o_now, o_past)) else ((if 21 ≤ x3 then (some ((-1), o_this, o_now, o_past)) else ((f5_isCost x4).bind fun q9 => (if q9 = 0 then (some ((-1), o_this, o_now, o_past)) else ((if (o_now.1 1) < 10 then ((f5_remember o_this o_now o_past).bind fun q12 => (f4_addRule x0 x1 x2 x3 x4 o_now).bind fun q13 => (f5_noteNewRules q12.1).bind fun q14 => some ((q13.2.1 1) - 1, q14, q13.2, q12.2)) else (some ((-3), o_this, o_now, o_past)))))))))))))))
set_option maxRecDepth 100000 in
set_option maxHeartbeats 4000000 in
theorem c5_enter (l : Launch) (D : va_G) (K : Nat → ClassId) (aa : Nat → Nat → Nat) (x0 : Int32) (x1 : Int32) (x2 : Int32) (x3 : Int32) (x4 : Int32) (o_this : ob) (o_now : ob) (o_past : Nat → ob) (r : Int32 × ob × ob × (Nat → ob)) (hf : f5_enter x0 x1 x2 x3 x4 o_this o_now o_past = some r) : CTi l yX5_enter cX5_enter 6 (some .int) 3 82 D K [.ref (aa 0 0), .int x0, .int x1, .int x2, .int x3, .int x4] [wX5 K aa o_this, wX4 K (aa 2) o_now, wF K 8 (fun i => aa (9 + i)) o_past] [wX5 K aa r.2.1, wX4 K (aa 2) r.2.2.1, wF K 8 (fun i => aa (9 + i)) r.2.2.2] r.1 := by
  unfold f5_enter at hf
  have hf := tob hf
  refine entI (by decide) (Nat.le_of_ble_eq_true rfl) (fun P e s m args below meth c A ls F h hl hin => ?_)
  have hx := F.1
  have hb := F.2.1
  have hl : lv_has ls 6 [(0, .ref (aa 0 0)), (1, .int x0), (2, .int x1), (3, .int x2), (4, .int x3), (5, .int x4)] := hl
  refine lv_aload_n hx hb dX5_enter_0 rfl (lv_at hl 0 rfl) ?_
  refine lv_iload_n hx hb dX5_enter_1 rfl (lv_at hl 1 rfl) ?_
  obtain ⟨q1, h1, hf⟩ := asb hf
  refine r_callVi (As := [.int x0]) (rest := []) (C0 := [wX5 K aa o_this, wX4 K (aa 2) o_now]) (C1 := [wX5 K aa o_this, wX4 K (aa 2) o_now]) (Rr := [wF K 8 (fun i => aa (9 + i)) o_past]) (S' := [wX5 K aa o_this, wX4 K (aa 2) o_now, wF K 8 (fun i => aa (9 + i)) o_past]) F h hl (c5_isState l D K aa x0 o_this o_now q1 h1) [0, 1, 2] rfl rfl rfl rfl rfl (i := 0) rfl rfl w602 ⟨w603, w604, w605, w266⟩ hsc5_isState ⟨Nat.le_of_ble_eq_true rfl, Nat.le_of_ble_eq_true rfl⟩ ⟨Nat.le_refl 0, Nat.le_refl 0⟩ (Nat.le_of_ble_eq_true rfl) dX5_enter_2 (fun H locs h => ?_)
  refine lv_if_eq (tgt := 43) hx hb dX5_enter_5 (by decide) (fun c2 => ?_) (fun c2 => ?_)
  · have hf := ifp hf c2
    refine lv_iconst (v := (-1)) hx hb dX5_enter_43 (by decide) ?_
    obtain rfl := sor hf
    exact r_reti F h dX5_enter_44
  · have hf := ifn hf c2
    refine lv_iload_n hx hb dX5_enter_8 rfl (lv_at hl 2 rfl) ?_
    obtain ⟨q3, h3, hf⟩ := asb hf
    refine r_callS (As := [.int x1]) (rest := []) F h hl (c5_isLetter l D K x1 q3 h3) w600 ⟨w598, w599, w266⟩ hsc5_isLetter ⟨Nat.le_of_ble_eq_true rfl, Nat.le_of_ble_eq_true rfl⟩ ⟨Nat.le_refl 0, Nat.le_refl 0⟩ (Nat.le_of_ble_eq_true rfl) dX5_enter_9 (fun H locs h => ?_)
    refine lv_if_eq (tgt := 43) hx hb dX5_enter_12 (by decide) (fun c4 => ?_) (fun c4 => ?_)
    · have hf := ifp hf c4
      refine lv_iconst (v := (-1)) hx hb dX5_enter_43 (by decide) ?_
      obtain rfl := sor hf
      exact r_reti F h dX5_enter_44
    · have hf := ifn hf c4
      refine lv_aload_n hx hb dX5_enter_15 rfl (lv_at hl 0 rfl) ?_
      refine lv_iload_n hx hb dX5_enter_16 rfl (lv_at hl 3 rfl) ?_
      obtain ⟨q5, h5, hf⟩ := asb hf
      refine r_callVi (As := [.int x2]) (rest := []) (C0 := [wX5 K aa o_this, wX4 K (aa 2) o_now]) (C1 := [wX5 K aa o_this, wX4 K (aa 2) o_now]) (Rr := [wF K 8 (fun i => aa (9 + i)) o_past]) (S' := [wX5 K aa o_this, wX4 K (aa 2) o_now, wF K 8 (fun i => aa (9 + i)) o_past]) F h hl (c5_isState l D K aa x2 o_this o_now q5 h5) [0, 1, 2] rfl rfl rfl rfl rfl (i := 0) rfl rfl w602 ⟨w603, w604, w605, w266⟩ hsc5_isState ⟨Nat.le_of_ble_eq_true rfl, Nat.le_of_ble_eq_true rfl⟩ ⟨Nat.le_refl 0, Nat.le_refl 0⟩ (Nat.le_of_ble_eq_true rfl) dX5_enter_17 (fun H locs h => ?_)
      refine lv_if_eq (tgt := 43) hx hb dX5_enter_20 (by decide) (fun c6 => ?_) (fun c6 => ?_)
      · have hf := ifp hf c6
        refine lv_iconst (v := (-1)) hx hb dX5_enter_43 (by decide) ?_
        obtain rfl := sor hf
        exact r_reti F h dX5_enter_44
      · have hf := ifn hf c6
        refine lv_iload hx hb dX5_enter_23 (lv_at hl 4 rfl) ?_
        refine lv_if_lt (tgt := 43) hx hb dX5_enter_25 (by decide) (fun c7 => ?_) (fun c7 => ?_)
        · have hf := ifp hf c7
          refine lv_iconst (v := (-1)) hx hb dX5_enter_43 (by decide) ?_
          obtain rfl := sor hf
          exact r_reti F h dX5_enter_44
        · have hf := ifn hf c7
          refine lv_iload hx hb dX5_enter_28 (lv_at hl 4 rfl) ?_
          refine lv_bipush (v := 21) hx hb dX5_enter_30 (by decide) ?_
          refine lv_icmp_ge (tgt := 43) hx hb dX5_enter_32 (by decide) (fun c8 => ?_) (fun c8 => ?_)
          · have hf := ifp hf c8
            refine lv_iconst (v := (-1)) hx hb dX5_enter_43 (by decide) ?_
            obtain rfl := sor hf
            exact r_reti F h dX5_enter_44
          · have hf := ifn hf c8
            refine lv_iload hx hb dX5_enter_35 (lv_at hl 5 rfl) ?_
            obtain ⟨q9, h9, hf⟩ := asb hf
            refine r_callS (As := [.int x4]) (rest := []) F h hl (c5_isCost l D K x4 q9 h9) w658 ⟨w656, w657, w266⟩ hsc5_isCost ⟨Nat.le_of_ble_eq_true rfl, Nat.le_of_ble_eq_true rfl⟩ ⟨Nat.le_refl 0, Nat.le_refl 0⟩ (Nat.le_of_ble_eq_true rfl) dX5_enter_37 (fun H locs h => ?_)
            refine lv_if_ne (tgt := 45) hx hb dX5_enter_40 (by decide) (fun c10 => ?_) (fun c10 => ?_)
            · have hf := ifn hf c10
              refine lv_aload_n hx hb dX5_enter_45 rfl (lv_at hl 0 rfl) ?_
              refine r_get F h (i := 0) (k := 1) (.ref ((aa 2) 0)) inX5 rfl (by decide) w513 rfl rfl rfl dX5_enter_46 ?_
              refine r_get F h (i := 1) (k := 1) (.int (o_now.1 1)) inX4 rfl (by decide) w514 rfl rfl rfl dX5_enter_49 ?_
              refine lv_bipush (v := 10) hx hb dX5_enter_52 (by decide) ?_
              refine lv_icmp_lt (tgt := 60) hx hb dX5_enter_54 (by decide) (fun c11 => ?_) (fun c11 => ?_)
              · have hf := ifp hf c11
                refine lv_aload_n hx hb dX5_enter_60 rfl (lv_at hl 0 rfl) ?_
                obtain ⟨q12, h12, hf⟩ := asb hf
                refine r_callVv (As := []) (rest := []) (C0 := [wX5 K aa o_this, wX4 K (aa 2) o_now, wF K 8 (fun i => aa (9 + i)) o_past]) (C1 := [wX5 K aa q12.1, wX4 K (aa 2) o_now, wF K 8 (fun i => aa (9 + i)) q12.2]) (Rr := []) (S' := [wX5 K aa q12.1, wX4 K (aa 2) o_now, wF K 8 (fun i => aa (9 + i)) q12.2]) F h hl (c5_remember l D K aa o_this o_now o_past q12 h12) [0, 1, 2] rfl rfl rfl rfl rfl (i := 0) rfl rfl w649 ⟨w650, w651, w652, w266⟩ hsc5_remember ⟨Nat.le_of_ble_eq_true rfl, Nat.le_of_ble_eq_true rfl⟩ ⟨Nat.le_refl 0, Nat.le_refl 0⟩ (Nat.le_of_ble_eq_true rfl) dX5_enter_61 (fun H locs h => ?_)
                refine lv_aload_n hx hb dX5_enter_64 rfl (lv_at hl 0 rfl) ?_
                refine r_get F h (i := 0) (k := 1) (.ref ((aa 2) 0)) inX5 rfl (by decide) w513 rfl rfl rfl dX5_enter_65 ?_
                refine lv_iload_n hx hb dX5_enter_68 rfl (lv_at hl 1 rfl) ?_
                refine lv_iload_n hx hb dX5_enter_69 rfl (lv_at hl 2 rfl) ?_
                refine lv_iload_n hx hb dX5_enter_70 rfl (lv_at hl 3 rfl) ?_
                refine lv_iload hx hb dX5_enter_71 (lv_at hl 4 rfl) ?_
                refine lv_iload hx hb dX5_enter_73 (lv_at hl 5 rfl) ?_
                obtain ⟨q13, h13, hf⟩ := asb hf
                refine r_callVi (As := [.int x0, .int x1, .int x2, .int x3, .int x4]) (rest := []) (C0 := [wX4 K (aa 2) o_now]) (C1 := [wX4 K (aa 2) q13.2]) (Rr := [wX5 K aa q12.1, wF K 8 (fun i => aa (9 + i)) q12.2]) (S' := [wX5 K aa q12.1, wX4 K (aa 2) q13.2, wF K 8 (fun i => aa (9 + i)) q12.2]) F h hl (c4_addRule l D K (aa 2) x0 x1 x2 x3 x4 o_now q13 h13) [1, 0, 2] rfl rfl rfl rfl rfl (i := 1) rfl rfl w317 ⟨w659, w319, w320, w276⟩ hsc4_addRule ⟨Nat.le_of_ble_eq_true rfl, Nat.le_of_ble_eq_true rfl⟩ ⟨Nat.le_refl 0, Nat.le_refl 0⟩ (Nat.le_of_ble_eq_true rfl) dX5_enter_75 (fun H locs h => ?_)
                refine lv_pop hx hb dX5_enter_78 rfl ?_
                refine lv_aload_n hx hb dX5_enter_79 rfl (lv_at hl 0 rfl) ?_
                obtain ⟨q14, h14, hf⟩ := asb hf
                refine r_callVv (As := []) (rest := []) (C0 := [wX5 K aa q12.1]) (C1 := [wX5 K aa q14]) (Rr := [wX4 K (aa 2) q13.2, wF K 8 (fun i => aa (9 + i)) q12.2]) (S' := [wX5 K aa q14, wX4 K (aa 2) q13.2, wF K 8 (fun i => aa (9 + i)) q12.2]) F h hl (c5_noteNewRules l D K aa q12.1 q14 h14) [0, 1, 2] rfl rfl rfl rfl rfl (i := 0) rfl rfl w557 ⟨w558, w559, w560, w266⟩ hsc5_noteNewRules ⟨Nat.le_of_ble_eq_true rfl, Nat.le_of_ble_eq_true rfl⟩ ⟨Nat.le_refl 0, Nat.le_refl 0⟩ (Nat.le_of_ble_eq_true rfl) dX5_enter_80 (fun H locs h => ?_)
                refine lv_aload_n hx hb dX5_enter_83 rfl (lv_at hl 0 rfl) ?_
                refine r_get F h (i := 0) (k := 1) (.ref ((aa 2) 0)) inX5 rfl (by decide) w513 rfl rfl rfl dX5_enter_84 ?_
                refine r_get F h (i := 1) (k := 1) (.int (q13.2.1 1)) inX4 rfl (by decide) w514 rfl rfl rfl dX5_enter_87 ?_
                refine lv_iconst (v := 1) hx hb dX5_enter_90 (by decide) ?_
                refine lv_isub hx hb dX5_enter_91 ?_
                obtain rfl := sor hf
                exact r_reti F h dX5_enter_92
              · have hf := ifn hf c11
                refine lv_bipush (v := (-3)) hx hb dX5_enter_57 (by decide) ?_
                obtain rfl := sor hf
                exact r_reti F h dX5_enter_59
            · have hf := ifp hf c10
              refine lv_iconst (v := (-1)) hx hb dX5_enter_43 (by decide) ?_
              obtain rfl := sor hf
              exact r_reti F h dX5_enter_44
noncomputable def f5_drop (x0 : Int32) (o_this : ob) (o_now : ob) (o_past : Nat → ob) : Option (Int32 × ob × ob × (Nat → ob)) :=
  (f5_isRule x0 o_this o_now).bind fun q1 => (if q1 = 0 then (some ((-1), o_this, o_now, o_past)) else ((if (o_now.1 1) = 1 then (some ((-2), o_this, o_now, o_past)) else ((f5_remember o_this o_now o_past).bind fun q4 => (f4_removeRule x0 o_now).bind fun q5 => (f5_noteNewRules q4.1).bind fun q6 => some (q5.1 1, q6, q5, q4.2)))))
set_option maxRecDepth 100000 in
set_option maxHeartbeats 4000000 in
theorem c5_drop (l : Launch) (D : va_G) (K : Nat → ClassId) (aa : Nat → Nat → Nat) (x0 : Int32) (o_this : ob) (o_now : ob) (o_past : Nat → ob) (r : Int32 × ob × ob × (Nat → ob)) (hf : f5_drop x0 o_this o_now o_past = some r) : CTi l yX5_drop cX5_drop 2 (some .int) 3 82 D K [.ref (aa 0 0), .int x0] [wX5 K aa o_this, wX4 K (aa 2) o_now, wF K 8 (fun i => aa (9 + i)) o_past] [wX5 K aa r.2.1, wX4 K (aa 2) r.2.2.1, wF K 8 (fun i => aa (9 + i)) r.2.2.2] r.1 := by
  unfold f5_drop at hf
  have hf := tob hf
  refine entI (by decide) (Nat.le_of_ble_eq_true rfl) (fun P e s m args below meth c A ls F h hl hin => ?_)
  have hx := F.1
  have hb := F.2.1
  have hl : lv_has ls 2 [(0, .ref (aa 0 0)), (1, .int x0)] := hl
  refine lv_aload_n hx hb dX5_drop_0 rfl (lv_at hl 0 rfl) ?_
  refine lv_iload_n hx hb dX5_drop_1 rfl (lv_at hl 1 rfl) ?_
  obtain ⟨q1, h1, hf⟩ := asb hf
  refine r_callVi (As := [.int x0]) (rest := []) (C0 := [wX5 K aa o_this, wX4 K (aa 2) o_now]) (C1 := [wX5 K aa o_this, wX4 K (aa 2) o_now]) (Rr := [wF K 8 (fun i => aa (9 + i)) o_past]) (S' := [wX5 K aa o_this, wX4 K (aa 2) o_now, wF K 8 (fun i => aa (9 + i)) o_past]) F h hl (c5_isRule l D K aa x0 o_this o_now q1 h1) [0, 1, 2] rfl rfl rfl rfl rfl (i := 0) rfl rfl w569 ⟨w570, w571, w572, w266⟩ hsc5_isRule ⟨Nat.le_of_ble_eq_true rfl, Nat.le_of_ble_eq_true rfl⟩ ⟨Nat.le_refl 0, Nat.le_refl 0⟩ (Nat.le_of_ble_eq_true rfl) dX5_drop_2 (fun H locs h => ?_)
  refine lv_if_ne (tgt := 10) hx hb dX5_drop_5 (by decide) (fun c2 => ?_) (fun c2 => ?_)
  · have hf := ifn hf c2
    refine lv_aload_n hx hb dX5_drop_10 rfl (lv_at hl 0 rfl) ?_
    refine r_get F h (i := 0) (k := 1) (.ref ((aa 2) 0)) inX5 rfl (by decide) w513 rfl rfl rfl dX5_drop_11 ?_
    refine r_get F h (i := 1) (k := 1) (.int (o_now.1 1)) inX4 rfl (by decide) w514 rfl rfl rfl dX5_drop_14 ?_
    refine lv_iconst (v := 1) hx hb dX5_drop_17 (by decide) ?_
    refine lv_icmp_ne (tgt := 24) hx hb dX5_drop_18 (by decide) (fun c3 => ?_) (fun c3 => ?_)
    · have hf := ifn hf c3
      refine lv_aload_n hx hb dX5_drop_24 rfl (lv_at hl 0 rfl) ?_
      obtain ⟨q4, h4, hf⟩ := asb hf
      refine r_callVv (As := []) (rest := []) (C0 := [wX5 K aa o_this, wX4 K (aa 2) o_now, wF K 8 (fun i => aa (9 + i)) o_past]) (C1 := [wX5 K aa q4.1, wX4 K (aa 2) o_now, wF K 8 (fun i => aa (9 + i)) q4.2]) (Rr := []) (S' := [wX5 K aa q4.1, wX4 K (aa 2) o_now, wF K 8 (fun i => aa (9 + i)) q4.2]) F h hl (c5_remember l D K aa o_this o_now o_past q4 h4) [0, 1, 2] rfl rfl rfl rfl rfl (i := 0) rfl rfl w649 ⟨w650, w651, w652, w266⟩ hsc5_remember ⟨Nat.le_of_ble_eq_true rfl, Nat.le_of_ble_eq_true rfl⟩ ⟨Nat.le_refl 0, Nat.le_refl 0⟩ (Nat.le_of_ble_eq_true rfl) dX5_drop_25 (fun H locs h => ?_)
      refine lv_aload_n hx hb dX5_drop_28 rfl (lv_at hl 0 rfl) ?_
      refine r_get F h (i := 0) (k := 1) (.ref ((aa 2) 0)) inX5 rfl (by decide) w513 rfl rfl rfl dX5_drop_29 ?_
      refine lv_iload_n hx hb dX5_drop_32 rfl (lv_at hl 1 rfl) ?_
      obtain ⟨q5, h5, hf⟩ := asb hf
      refine r_callVv (As := [.int x0]) (rest := []) (C0 := [wX4 K (aa 2) o_now]) (C1 := [wX4 K (aa 2) q5]) (Rr := [wX5 K aa q4.1, wF K 8 (fun i => aa (9 + i)) q4.2]) (S' := [wX5 K aa q4.1, wX4 K (aa 2) q5, wF K 8 (fun i => aa (9 + i)) q4.2]) F h hl (c4_removeRule l D K (aa 2) x0 o_now q5 h5) [1, 0, 2] rfl rfl rfl rfl rfl (i := 1) rfl rfl w660 ⟨w661, w662, w663, w276⟩ hsc4_removeRule ⟨Nat.le_of_ble_eq_true rfl, Nat.le_of_ble_eq_true rfl⟩ ⟨Nat.le_refl 0, Nat.le_refl 0⟩ (Nat.le_of_ble_eq_true rfl) dX5_drop_33 (fun H locs h => ?_)
      refine lv_aload_n hx hb dX5_drop_36 rfl (lv_at hl 0 rfl) ?_
      obtain ⟨q6, h6, hf⟩ := asb hf
      refine r_callVv (As := []) (rest := []) (C0 := [wX5 K aa q4.1]) (C1 := [wX5 K aa q6]) (Rr := [wX4 K (aa 2) q5, wF K 8 (fun i => aa (9 + i)) q4.2]) (S' := [wX5 K aa q6, wX4 K (aa 2) q5, wF K 8 (fun i => aa (9 + i)) q4.2]) F h hl (c5_noteNewRules l D K aa q4.1 q6 h6) [0, 1, 2] rfl rfl rfl rfl rfl (i := 0) rfl rfl w557 ⟨w558, w559, w560, w266⟩ hsc5_noteNewRules ⟨Nat.le_of_ble_eq_true rfl, Nat.le_of_ble_eq_true rfl⟩ ⟨Nat.le_refl 0, Nat.le_refl 0⟩ (Nat.le_of_ble_eq_true rfl) dX5_drop_37 (fun H locs h => ?_)
      refine lv_aload_n hx hb dX5_drop_40 rfl (lv_at hl 0 rfl) ?_
      refine r_get F h (i := 0) (k := 1) (.ref ((aa 2) 0)) inX5 rfl (by decide) w513 rfl rfl rfl dX5_drop_41 ?_
      refine r_get F h (i := 1) (k := 1) (.int (q5.1 1)) inX4 rfl (by decide) w514 rfl rfl rfl dX5_drop_44 ?_
      obtain rfl := sor hf
      exact r_reti F h dX5_drop_47
    · have hf := ifp hf c3
      refine lv_bipush (v := (-2)) hx hb dX5_drop_21 (by decide) ?_
      obtain rfl := sor hf
      exact r_reti F h dX5_drop_23
  · have hf := ifp hf c2
    refine lv_iconst (v := (-1)) hx hb dX5_drop_8 (by decide) ?_
    obtain rfl := sor hf
    exact r_reti F h dX5_drop_9
noncomputable def f5_weigh (x0 : Int32) (x1 : Int32) (o_this : ob) (o_now : ob) (o_past : Nat → ob) : Option (Int32 × ob × ob × (Nat → ob)) :=
  (f5_isRule x0 o_this o_now).bind fun q1 => (if q1 = 0 then (some ((-1), o_this, o_now, o_past)) else ((f5_isCost x1).bind fun q3 => (if q3 = 0 then (some ((-1), o_this, o_now, o_past)) else (gd (vin x0 10) <| lt (o_now.2 6 x0.toNatClampNeg) fun y6 => (if x1 = y6 then (some ((-2), o_this, o_now, o_past)) else ((f5_remember o_this o_now o_past).bind fun q8 => gd (vin x0 10) <| lt (sA o_now 6 x0.toNatClampNeg x1) fun t10 => (f5_noteNewRules q8.1).bind fun q11 => some (y6, q11, t10, q8.2)))))))
set_option maxRecDepth 100000 in
set_option maxHeartbeats 4000000 in
theorem c5_weigh (l : Launch) (D : va_G) (K : Nat → ClassId) (aa : Nat → Nat → Nat) (x0 : Int32) (x1 : Int32) (o_this : ob) (o_now : ob) (o_past : Nat → ob) (r : Int32 × ob × ob × (Nat → ob)) (hf : f5_weigh x0 x1 o_this o_now o_past = some r) : CTi l yX5_weigh cX5_weigh 4 (some .int) 3 82 D K [.ref (aa 0 0), .int x0, .int x1] [wX5 K aa o_this, wX4 K (aa 2) o_now, wF K 8 (fun i => aa (9 + i)) o_past] [wX5 K aa r.2.1, wX4 K (aa 2) r.2.2.1, wF K 8 (fun i => aa (9 + i)) r.2.2.2] r.1 := by
  unfold f5_weigh at hf
  have hf := tob hf
  refine entI (by decide) (Nat.le_of_ble_eq_true rfl) (fun P e s m args below meth c A ls F h hl hin => ?_)
  have hx := F.1
  have hb := F.2.1
  have hl : lv_has ls 4 [(0, .ref (aa 0 0)), (1, .int x0), (2, .int x1)] := hl
  refine lv_aload_n hx hb dX5_weigh_0 rfl (lv_at hl 0 rfl) ?_
  refine lv_iload_n hx hb dX5_weigh_1 rfl (lv_at hl 1 rfl) ?_
  obtain ⟨q1, h1, hf⟩ := asb hf
  refine r_callVi (As := [.int x0]) (rest := []) (C0 := [wX5 K aa o_this, wX4 K (aa 2) o_now]) (C1 := [wX5 K aa o_this, wX4 K (aa 2) o_now]) (Rr := [wF K 8 (fun i => aa (9 + i)) o_past]) (S' := [wX5 K aa o_this, wX4 K (aa 2) o_now, wF K 8 (fun i => aa (9 + i)) o_past]) F h hl (c5_isRule l D K aa x0 o_this o_now q1 h1) [0, 1, 2] rfl rfl rfl rfl rfl (i := 0) rfl rfl w569 ⟨w570, w571, w572, w266⟩ hsc5_isRule ⟨Nat.le_of_ble_eq_true rfl, Nat.le_of_ble_eq_true rfl⟩ ⟨Nat.le_refl 0, Nat.le_refl 0⟩ (Nat.le_of_ble_eq_true rfl) dX5_weigh_2 (fun H locs h => ?_)
  refine lv_if_eq (tgt := 15) hx hb dX5_weigh_5 (by decide) (fun c2 => ?_) (fun c2 => ?_)
  · have hf := ifp hf c2
    refine lv_iconst (v := (-1)) hx hb dX5_weigh_15 (by decide) ?_
    obtain rfl := sor hf
    exact r_reti F h dX5_weigh_16
  · have hf := ifn hf c2
    refine lv_iload_n hx hb dX5_weigh_8 rfl (lv_at hl 2 rfl) ?_
    obtain ⟨q3, h3, hf⟩ := asb hf
    refine r_callS (As := [.int x1]) (rest := []) F h hl (c5_isCost l D K x1 q3 h3) w658 ⟨w656, w657, w266⟩ hsc5_isCost ⟨Nat.le_of_ble_eq_true rfl, Nat.le_of_ble_eq_true rfl⟩ ⟨Nat.le_refl 0, Nat.le_refl 0⟩ (Nat.le_of_ble_eq_true rfl) dX5_weigh_9 (fun H locs h => ?_)
    refine lv_if_ne (tgt := 17) hx hb dX5_weigh_12 (by decide) (fun c4 => ?_) (fun c4 => ?_)
    · have hf := ifn hf c4
      refine lv_aload_n hx hb dX5_weigh_17 rfl (lv_at hl 0 rfl) ?_
      refine r_get F h (i := 0) (k := 1) (.ref ((aa 2) 0)) inX5 rfl (by decide) w513 rfl rfl rfl dX5_weigh_18 ?_
      refine r_get F h (i := 1) (k := 6) (.ref ((aa 2) 7)) inX4 rfl (by decide) w568 rfl rfl rfl dX5_weigh_21 ?_
      refine lv_iload_n hx hb dX5_weigh_24 rfl (lv_at hl 1 rfl) ?_
      obtain ⟨g5, hf⟩ := gdb hf
      refine r_iald F h (i := 1) (j := 5) rfl rfl (vin_ok g5) dX5_weigh_25 ?_
      refine lv_topi (fun y6 e6 => ?_)
      have hf := ltb hf e6
      refine lv_istore_n (lv' := [(3, .int y6), (0, .ref (aa 0 0)), (1, .int x0), (2, .int x1)]) hx hb dX5_weigh_26 rfl hl (by decide) rfl (fun ls hl => ?_)
      refine lv_iload_n hx hb dX5_weigh_27 rfl (lv_at hl 3 rfl) ?_
      refine lv_iload_n hx hb dX5_weigh_28 rfl (lv_at hl 0 rfl) ?_
      refine lv_icmp_ne (tgt := 35) hx hb dX5_weigh_29 (by decide) (fun c7 => ?_) (fun c7 => ?_)
      · have hf := ifn hf c7
        refine lv_aload_n hx hb dX5_weigh_35 rfl (lv_at hl 1 rfl) ?_
        obtain ⟨q8, h8, hf⟩ := asb hf
        refine r_callVv (As := []) (rest := []) (C0 := [wX5 K aa o_this, wX4 K (aa 2) o_now, wF K 8 (fun i => aa (9 + i)) o_past]) (C1 := [wX5 K aa q8.1, wX4 K (aa 2) o_now, wF K 8 (fun i => aa (9 + i)) q8.2]) (Rr := []) (S' := [wX5 K aa q8.1, wX4 K (aa 2) o_now, wF K 8 (fun i => aa (9 + i)) q8.2]) F h hl (c5_remember l D K aa o_this o_now o_past q8 h8) [0, 1, 2] rfl rfl rfl rfl rfl (i := 0) rfl rfl w649 ⟨w650, w651, w652, w266⟩ hsc5_remember ⟨Nat.le_of_ble_eq_true rfl, Nat.le_of_ble_eq_true rfl⟩ ⟨Nat.le_refl 0, Nat.le_refl 0⟩ (Nat.le_of_ble_eq_true rfl) dX5_weigh_36 (fun H locs h => ?_)
        refine lv_aload_n hx hb dX5_weigh_39 rfl (lv_at hl 1 rfl) ?_
        refine r_get F h (i := 0) (k := 1) (.ref ((aa 2) 0)) inX5 rfl (by decide) w513 rfl rfl rfl dX5_weigh_40 ?_
        refine r_get F h (i := 1) (k := 6) (.ref ((aa 2) 7)) inX4 rfl (by decide) w568 rfl rfl rfl dX5_weigh_43 ?_
        refine lv_iload_n hx hb dX5_weigh_46 rfl (lv_at hl 2 rfl) ?_
        refine lv_iload_n hx hb dX5_weigh_47 rfl (lv_at hl 3 rfl) ?_
        obtain ⟨g9, hf⟩ := gdb hf
        refine r_iast (o1 := sA o_now 6 x0.toNatClampNeg x1) (w := fun t10 => wX4 K (aa 2) t10) (S' := fun t10 => [wX5 K aa q8.1, wX4 K (aa 2) t10, wF K 8 (fun i => aa (9 + i)) q8.2]) F h (i := 1) (j := 5) rfl rfl (vin_ok g9) rfl (fun _ => rfl) dX5_weigh_48 (fun t10 e10 H locs h => ?_)
        have hf := ltb hf e10
        refine lv_aload_n hx hb dX5_weigh_49 rfl (lv_at hl 1 rfl) ?_
        obtain ⟨q11, h11, hf⟩ := asb hf
        refine r_callVv (As := []) (rest := []) (C0 := [wX5 K aa q8.1]) (C1 := [wX5 K aa q11]) (Rr := [wX4 K (aa 2) t10, wF K 8 (fun i => aa (9 + i)) q8.2]) (S' := [wX5 K aa q11, wX4 K (aa 2) t10, wF K 8 (fun i => aa (9 + i)) q8.2]) F h hl (c5_noteNewRules l D K aa q8.1 q11 h11) [0, 1, 2] rfl rfl rfl rfl rfl (i := 0) rfl rfl w557 ⟨w558, w559, w560, w266⟩ hsc5_noteNewRules ⟨Nat.le_of_ble_eq_true rfl, Nat.le_of_ble_eq_true rfl⟩ ⟨Nat.le_refl 0, Nat.le_refl 0⟩ (Nat.le_of_ble_eq_true rfl) dX5_weigh_50 (fun H locs h => ?_)
        refine lv_iload_n hx hb dX5_weigh_53 rfl (lv_at hl 0 rfl) ?_
        obtain rfl := sor hf
        exact r_reti F h dX5_weigh_54
      · have hf := ifp hf c7
        refine lv_bipush (v := (-2)) hx hb dX5_weigh_32 (by decide) ?_
        obtain rfl := sor hf
        exact r_reti F h dX5_weigh_34
    · have hf := ifp hf c4
      refine lv_iconst (v := (-1)) hx hb dX5_weigh_15 (by decide) ?_
      obtain rfl := sor hf
      exact r_reti F h dX5_weigh_16
noncomputable def f5_mode (x0 : Int32) (o_this : ob) (o_now : ob) (o_past : Nat → ob) : Option (Int32 × ob × ob × (Nat → ob)) :=
  (if x0 < 0 then (some ((-1), o_this, o_now, o_past)) else ((if x0 < 3 then (lt (o_now.1 12) fun y3 => (if x0 = y3 then (some ((-2), o_this, o_now, o_past)) else ((f5_remember o_this o_now o_past).bind fun q5 => lt (sI o_now 12 x0) fun t6 => (f5_noteNewRules q5.1).bind fun q7 => some (y3, q7, t6, q5.2)))) else (some ((-1), o_this, o_now, o_past)))))
set_option maxRecDepth 100000 in
set_option maxHeartbeats 4000000 in
theorem c5_mode (l : Launch) (D : va_G) (K : Nat → ClassId) (aa : Nat → Nat → Nat) (x0 : Int32) (o_this : ob) (o_now : ob) (o_past : Nat → ob) (r : Int32 × ob × ob × (Nat → ob)) (hf : f5_mode x0 o_this o_now o_past = some r) : CTi l yX5_mode cX5_mode 3 (some .int) 3 82 D K [.ref (aa 0 0), .int x0] [wX5 K aa o_this, wX4 K (aa 2) o_now, wF K 8 (fun i => aa (9 + i)) o_past] [wX5 K aa r.2.1, wX4 K (aa 2) r.2.2.1, wF K 8 (fun i => aa (9 + i)) r.2.2.2] r.1 := by
  unfold f5_mode at hf
  have hf := tob hf
  refine entI (by decide) (Nat.le_of_ble_eq_true rfl) (fun P e s m args below meth c A ls F h hl hin => ?_)
  have hx := F.1
  have hb := F.2.1
  have hl : lv_has ls 3 [(0, .ref (aa 0 0)), (1, .int x0)] := hl
  refine lv_iload_n hx hb dX5_mode_0 rfl (lv_at hl 1 rfl) ?_
  refine lv_if_lt (tgt := 9) hx hb dX5_mode_1 (by decide) (fun c1 => ?_) (fun c1 => ?_)
  · have hf := ifp hf c1
    refine lv_iconst (v := (-1)) hx hb dX5_mode_9 (by decide) ?_
    obtain rfl := sor hf
    exact r_reti F h dX5_mode_10
  · have hf := ifn hf c1
    refine lv_iload_n hx hb dX5_mode_4 rfl (lv_at hl 1 rfl) ?_
    refine lv_iconst (v := 3) hx hb dX5_mode_5 (by decide) ?_
    refine lv_icmp_lt (tgt := 11) hx hb dX5_mode_6 (by decide) (fun c2 => ?_) (fun c2 => ?_)
    · have hf := ifp hf c2
      refine lv_aload_n hx hb dX5_mode_11 rfl (lv_at hl 0 rfl) ?_
      refine r_get F h (i := 0) (k := 1) (.ref ((aa 2) 0)) inX5 rfl (by decide) w513 rfl rfl rfl dX5_mode_12 ?_
      refine r_get F h (i := 1) (k := 12) (.int (o_now.1 12)) inX4 rfl (by decide) w520 rfl rfl rfl dX5_mode_15 ?_
      refine lv_topi (fun y3 e3 => ?_)
      have hf := ltb hf e3
      refine lv_istore_n (lv' := [(2, .int y3), (0, .ref (aa 0 0)), (1, .int x0)]) hx hb dX5_mode_18 rfl hl (by decide) rfl (fun ls hl => ?_)
      refine lv_iload_n hx hb dX5_mode_19 rfl (lv_at hl 2 rfl) ?_
      refine lv_iload_n hx hb dX5_mode_20 rfl (lv_at hl 0 rfl) ?_
      refine lv_icmp_ne (tgt := 27) hx hb dX5_mode_21 (by decide) (fun c4 => ?_) (fun c4 => ?_)
      · have hf := ifn hf c4
        refine lv_aload_n hx hb dX5_mode_27 rfl (lv_at hl 1 rfl) ?_
        obtain ⟨q5, h5, hf⟩ := asb hf
        refine r_callVv (As := []) (rest := []) (C0 := [wX5 K aa o_this, wX4 K (aa 2) o_now, wF K 8 (fun i => aa (9 + i)) o_past]) (C1 := [wX5 K aa q5.1, wX4 K (aa 2) o_now, wF K 8 (fun i => aa (9 + i)) q5.2]) (Rr := []) (S' := [wX5 K aa q5.1, wX4 K (aa 2) o_now, wF K 8 (fun i => aa (9 + i)) q5.2]) F h hl (c5_remember l D K aa o_this o_now o_past q5 h5) [0, 1, 2] rfl rfl rfl rfl rfl (i := 0) rfl rfl w649 ⟨w650, w651, w652, w266⟩ hsc5_remember ⟨Nat.le_of_ble_eq_true rfl, Nat.le_of_ble_eq_true rfl⟩ ⟨Nat.le_refl 0, Nat.le_refl 0⟩ (Nat.le_of_ble_eq_true rfl) dX5_mode_28 (fun H locs h => ?_)
        refine lv_aload_n hx hb dX5_mode_31 rfl (lv_at hl 1 rfl) ?_
        refine r_get F h (i := 0) (k := 1) (.ref ((aa 2) 0)) inX5 rfl (by decide) w513 rfl rfl rfl dX5_mode_32 ?_
        refine lv_iload_n hx hb dX5_mode_35 rfl (lv_at hl 2 rfl) ?_
        refine r_put (o1 := sI o_now 12 x0) (w := fun t6 => wX4 K (aa 2) t6) (S' := fun t6 => [wX5 K aa q5.1, wX4 K (aa 2) t6, wF K 8 (fun i => aa (9 + i)) q5.2]) F h (i := 1) (k := 12) inX4 tyX4_ok nmX4 rfl (by decide) w520 rfl rfl rfl rfl rfl (Nat.le_of_ble_eq_true rfl) rfl (fun _ => rfl) dX5_mode_36 (fun t6 e6 H locs h => ?_)
        have hf := ltb hf e6
        refine lv_aload_n hx hb dX5_mode_39 rfl (lv_at hl 1 rfl) ?_
        obtain ⟨q7, h7, hf⟩ := asb hf
        refine r_callVv (As := []) (rest := []) (C0 := [wX5 K aa q5.1]) (C1 := [wX5 K aa q7]) (Rr := [wX4 K (aa 2) t6, wF K 8 (fun i => aa (9 + i)) q5.2]) (S' := [wX5 K aa q7, wX4 K (aa 2) t6, wF K 8 (fun i => aa (9 + i)) q5.2]) F h hl (c5_noteNewRules l D K aa q5.1 q7 h7) [0, 1, 2] rfl rfl rfl rfl rfl (i := 0) rfl rfl w557 ⟨w558, w559, w560, w266⟩ hsc5_noteNewRules ⟨Nat.le_of_ble_eq_true rfl, Nat.le_of_ble_eq_true rfl⟩ ⟨Nat.le_refl 0, Nat.le_refl 0⟩ (Nat.le_of_ble_eq_true rfl) dX5_mode_40 (fun H locs h => ?_)
        refine lv_iload_n hx hb dX5_mode_43 rfl (lv_at hl 0 rfl) ?_
        obtain rfl := sor hf
        exact r_reti F h dX5_mode_44
      · have hf := ifp hf c4
        refine lv_bipush (v := (-2)) hx hb dX5_mode_24 (by decide) ?_
        obtain rfl := sor hf
        exact r_reti F h dX5_mode_26
    · have hf := ifn hf c2
      refine lv_iconst (v := (-1)) hx hb dX5_mode_9 (by decide) ?_
      obtain rfl := sor hf
      exact r_reti F h dX5_mode_10
