def f5_isRule (x0 : Int32) (o_this : ob) (o_now : ob) : Option (Int32) :=
  (if x0 < 0 then (some 0) else ((if (o_now.1 1) ≤ x0 then (some 0) else (some 1))))
set_option maxRecDepth 100000 in
set_option maxHeartbeats 4000000 in
theorem c5_isRule (l : Launch) (D : va_G) (K : Nat → ClassId) (aa : Nat → Nat → Nat) (x0 : Int32) (o_this : ob) (o_now : ob) (r : Int32) (hf : f5_isRule x0 o_this o_now = some r) : CTi l yX5_isRule cX5_isRule 2 (some .boolean) 0 0 D K [.ref (aa 0 0), .int x0] [wX5 K aa o_this, wX4 K (aa 2) o_now] [wX5 K aa o_this, wX4 K (aa 2) o_now] r := by
  unfold f5_isRule at hf
  have hf := tob hf
  refine entI (by decide) (Nat.le_of_ble_eq_true rfl) (fun P e s m args below meth c A ls F h hl hin => ?_)
  have hx := F.1
  have hb := F.2.1
  have hl : lv_has ls 2 [(0, .ref (aa 0 0)), (1, .int x0)] := hl
  refine lv_iload_n hx hb dX5_isRule_0 rfl (lv_at hl 1 rfl) ?_
  refine lv_if_lt (tgt := 19) hx hb dX5_isRule_1 (by decide) (fun c1 => ?_) (fun c1 => ?_)
  · have hf := ifp hf c1
    refine lv_iconst (v := 0) hx hb dX5_isRule_19 (by decide) ?_
    obtain rfl := sor hf
    exact r_retz F h rfl dX5_isRule_20
  · have hf := ifn hf c1
    refine lv_iload_n hx hb dX5_isRule_4 rfl (lv_at hl 1 rfl) ?_
    refine lv_aload_n hx hb dX5_isRule_5 rfl (lv_at hl 0 rfl) ?_
    refine r_get F h (i := 0) (k := 1) (.ref ((aa 2) 0)) inX5 rfl (by decide) w513 rfl rfl rfl dX5_isRule_6 ?_
    refine r_get F h (i := 1) (k := 1) (.int (o_now.1 1)) inX4 rfl (by decide) w514 rfl rfl rfl dX5_isRule_9 ?_
    refine lv_icmp_ge (tgt := 19) hx hb dX5_isRule_12 (by decide) (fun c2 => ?_) (fun c2 => ?_)
    · have hf := ifp hf c2
      refine lv_iconst (v := 0) hx hb dX5_isRule_19 (by decide) ?_
      obtain rfl := sor hf
      exact r_retz F h rfl dX5_isRule_20
    · have hf := ifn hf c2
      refine lv_iconst (v := 1) hx hb dX5_isRule_15 (by decide) ?_
      refine lv_goto (tgt := 20) hx hb dX5_isRule_16 (by decide) ?_
      obtain rfl := sor hf
      exact r_retz F h rfl dX5_isRule_20
def f5_isState (x0 : Int32) (o_this : ob) (o_now : ob) : Option (Int32) :=
  (if x0 < 0 then (some 0) else ((if (o_now.1 0) ≤ x0 then (some 0) else (some 1))))
set_option maxRecDepth 100000 in
set_option maxHeartbeats 4000000 in
theorem c5_isState (l : Launch) (D : va_G) (K : Nat → ClassId) (aa : Nat → Nat → Nat) (x0 : Int32) (o_this : ob) (o_now : ob) (r : Int32) (hf : f5_isState x0 o_this o_now = some r) : CTi l yX5_isState cX5_isState 2 (some .boolean) 0 0 D K [.ref (aa 0 0), .int x0] [wX5 K aa o_this, wX4 K (aa 2) o_now] [wX5 K aa o_this, wX4 K (aa 2) o_now] r := by
  unfold f5_isState at hf
  have hf := tob hf
  refine entI (by decide) (Nat.le_of_ble_eq_true rfl) (fun P e s m args below meth c A ls F h hl hin => ?_)
  have hx := F.1
  have hb := F.2.1
  have hl : lv_has ls 2 [(0, .ref (aa 0 0)), (1, .int x0)] := hl
  refine lv_iload_n hx hb dX5_isState_0 rfl (lv_at hl 1 rfl) ?_
  refine lv_if_lt (tgt := 19) hx hb dX5_isState_1 (by decide) (fun c1 => ?_) (fun c1 => ?_)
  · have hf := ifp hf c1
    refine lv_iconst (v := 0) hx hb dX5_isState_19 (by decide) ?_
    obtain rfl := sor hf
    exact r_retz F h rfl dX5_isState_20
  · have hf := ifn hf c1
    refine lv_iload_n hx hb dX5_isState_4 rfl (lv_at hl 1 rfl) ?_
    refine lv_aload_n hx hb dX5_isState_5 rfl (lv_at hl 0 rfl) ?_
    refine r_get F h (i := 0) (k := 1) (.ref ((aa 2) 0)) inX5 rfl (by decide) w513 rfl rfl rfl dX5_isState_6 ?_
    refine r_get F h (i := 1) (k := 0) (.int (o_now.1 0)) inX4 rfl (by decide) w515 rfl rfl rfl dX5_isState_9 ?_
    refine lv_icmp_ge (tgt := 19) hx hb dX5_isState_12 (by decide) (fun c2 => ?_) (fun c2 => ?_)
    · have hf := ifp hf c2
      refine lv_iconst (v := 0) hx hb dX5_isState_19 (by decide) ?_
      obtain rfl := sor hf
      exact r_retz F h rfl dX5_isState_20
    · have hf := ifn hf c2
      refine lv_iconst (v := 1) hx hb dX5_isState_15 (by decide) ?_
      refine lv_goto (tgt := 20) hx hb dX5_isState_16 (by decide) ?_
      obtain rfl := sor hf
      exact r_retz F h rfl dX5_isState_20
def f5_noteNewRules (o_this : ob) : Option (ob) :=
  lt (sI o_this 9 0) fun t1 => lt (sI t1 11 0) fun t2 => lt (sI t2 14 0) fun t3 => some t3
set_option maxRecDepth 100000 in
set_option maxHeartbeats 4000000 in
theorem c5_noteNewRules (l : Launch) (D : va_G) (K : Nat → ClassId) (aa : Nat → Nat → Nat) (o_this : ob) (r : ob) (hf : f5_noteNewRules o_this = some r) : CTv l yX5_noteNewRules cX5_noteNewRules 1 0 0 D K [.ref (aa 0 0)] [wX5 K aa o_this] [wX5 K aa r] := by
  unfold f5_noteNewRules at hf
  have hf := tob hf
  refine entV (by decide) (Nat.le_of_ble_eq_true rfl) (fun P e s m args below meth c A ls F h hl hin => ?_)
  have hx := F.1
  have hb := F.2.1
  have hl : lv_has ls 1 [(0, .ref (aa 0 0))] := hl
  refine lv_aload_n hx hb dX5_noteNewRules_0 rfl (lv_at hl 0 rfl) ?_
  refine lv_iconst (v := 0) hx hb dX5_noteNewRules_1 (by decide) ?_
  refine r_put (o1 := sI o_this 9 0) (w := fun t1 => wX5 K aa t1) (S' := fun t1 => [wX5 K aa t1]) F h (i := 0) (k := 9) inX5 tyX5_ok nmX5 rfl (by decide) w516 rfl rfl rfl rfl rfl (Nat.le_of_ble_eq_true rfl) rfl (fun _ => rfl) dX5_noteNewRules_2 (fun t1 e1 H locs h => ?_)
  have hf := ltb hf e1
  refine lv_aload_n hx hb dX5_noteNewRules_5 rfl (lv_at hl 0 rfl) ?_
  refine lv_iconst (v := 0) hx hb dX5_noteNewRules_6 (by decide) ?_
  refine r_put (o1 := sI t1 11 0) (w := fun t2 => wX5 K aa t2) (S' := fun t2 => [wX5 K aa t2]) F h (i := 0) (k := 11) inX5 tyX5_ok nmX5 rfl (by decide) w517 rfl rfl rfl rfl rfl (Nat.le_of_ble_eq_true rfl) rfl (fun _ => rfl) dX5_noteNewRules_7 (fun t2 e2 H locs h => ?_)
  have hf := ltb hf e2
  refine lv_aload_n hx hb dX5_noteNewRules_10 rfl (lv_at hl 0 rfl) ?_
  refine lv_iconst (v := 0) hx hb dX5_noteNewRules_11 (by decide) ?_
  refine r_put (o1 := sI t2 14 0) (w := fun t3 => wX5 K aa t3) (S' := fun t3 => [wX5 K aa t3]) F h (i := 0) (k := 14) inX5 tyX5_ok nmX5 rfl (by decide) w518 rfl rfl rfl rfl rfl (Nat.le_of_ble_eq_true rfl) rfl (fun _ => rfl) dX5_noteNewRules_12 (fun t3 e3 H locs h => ?_)
  have hf := ltb hf e3
  obtain rfl := sor hf
  exact r_retv F h dX5_noteNewRules_15
noncomputable def f5_renewNet (o_this : ob) (o_now : ob) (o_net : ob) : Option (ob × ob) :=
  (if (o_this.1 9) = 0 then ((f0_build (o_now.1 12) (-1) 0 o_net o_now).bind fun q2 => lt (sI o_this 9 1) fun t3 => some (t3, q2)) else (some (o_this, o_net)))
set_option maxRecDepth 100000 in
set_option maxHeartbeats 4000000 in
theorem c5_renewNet (l : Launch) (D : va_G) (K : Nat → ClassId) (aa : Nat → Nat → Nat) (o_this : ob) (o_now : ob) (o_net : ob) (r : ob × ob) (hf : f5_renewNet o_this o_now o_net = some r) : CTv l yX5_renewNet cX5_renewNet 1 5 123 D K [.ref (aa 0 0)] [wX5 K aa o_this, wX4 K (aa 2) o_now, wX0 K (aa 4) o_net] [wX5 K aa r.1, wX4 K (aa 2) o_now, wX0 K (aa 4) r.2] := by
  unfold f5_renewNet at hf
  have hf := tob hf
  refine entV (by decide) (Nat.le_of_ble_eq_true rfl) (fun P e s m args below meth c A ls F h hl hin => ?_)
  have hx := F.1
  have hb := F.2.1
  have hl : lv_has ls 1 [(0, .ref (aa 0 0))] := hl
  refine lv_aload_n hx hb dX5_renewNet_0 rfl (lv_at hl 0 rfl) ?_
  refine r_get F h (i := 0) (k := 9) (.int (o_this.1 9)) inX5 rfl (by decide) w516 rfl rfl rfl dX5_renewNet_1 ?_
  refine lv_if_ne (tgt := 32) hx hb dX5_renewNet_4 (by decide) (fun c1 => ?_) (fun c1 => ?_)
  · have hf := ifn hf c1
    obtain rfl := sor hf
    exact r_retv F h dX5_renewNet_32
  · have hf := ifp hf c1
    refine lv_aload_n hx hb dX5_renewNet_7 rfl (lv_at hl 0 rfl) ?_
    refine r_get F h (i := 0) (k := 8) (.ref ((aa 4) 0)) inX5 rfl (by decide) w519 rfl rfl rfl dX5_renewNet_8 ?_
    refine lv_aload_n hx hb dX5_renewNet_11 rfl (lv_at hl 0 rfl) ?_
    refine r_get F h (i := 0) (k := 1) (.ref ((aa 2) 0)) inX5 rfl (by decide) w513 rfl rfl rfl dX5_renewNet_12 ?_
    refine lv_aload_n hx hb dX5_renewNet_15 rfl (lv_at hl 0 rfl) ?_
    refine r_get F h (i := 0) (k := 1) (.ref ((aa 2) 0)) inX5 rfl (by decide) w513 rfl rfl rfl dX5_renewNet_16 ?_
    refine r_get F h (i := 1) (k := 12) (.int (o_now.1 12)) inX4 rfl (by decide) w520 rfl rfl rfl dX5_renewNet_19 ?_
    refine lv_iconst (v := (-1)) hx hb dX5_renewNet_22 (by decide) ?_
    refine lv_iconst (v := 0) hx hb dX5_renewNet_23 (by decide) ?_
    obtain ⟨q2, h2, hf⟩ := asb hf
    refine r_callVv (As := [.ref ((aa 2) 0), .int (o_now.1 12), .int (-1), .int 0]) (rest := []) (C0 := [wX0 K (aa 4) o_net, wX4 K (aa 2) o_now]) (C1 := [wX0 K (aa 4) q2, wX4 K (aa 2) o_now]) (Rr := [wX5 K aa o_this]) (S' := [wX5 K aa o_this, wX4 K (aa 2) o_now, wX0 K (aa 4) q2]) F h hl (c0_build l D K (aa 4) (aa 2) (o_now.1 12) (-1) 0 o_net o_now q2 h2) [2, 1, 0] rfl rfl rfl rfl rfl (i := 2) rfl rfl w521 ⟨w522, w523, w524, w376⟩ hsc0_build ⟨Nat.le_of_ble_eq_true rfl, Nat.le_of_ble_eq_true rfl⟩ ⟨Nat.le_refl 0, Nat.le_refl 0⟩ (Nat.le_of_ble_eq_true rfl) dX5_renewNet_24 (fun H locs h => ?_)
    refine lv_aload_n hx hb dX5_renewNet_27 rfl (lv_at hl 0 rfl) ?_
    refine lv_iconst (v := 1) hx hb dX5_renewNet_28 (by decide) ?_
    refine r_put (o1 := sI o_this 9 1) (w := fun t3 => wX5 K aa t3) (S' := fun t3 => [wX5 K aa t3, wX4 K (aa 2) o_now, wX0 K (aa 4) q2]) F h (i := 0) (k := 9) inX5 tyX5_ok nmX5 rfl (by decide) w516 rfl rfl rfl rfl rfl (Nat.le_of_ble_eq_true rfl) rfl (fun _ => rfl) dX5_renewNet_29 (fun t3 e3 H locs h => ?_)
    have hf := ltb hf e3
    obtain rfl := sor hf
    exact r_retv F h dX5_renewNet_32
noncomputable def f5_renewRoute (o_this : ob) (o_now : ob) (o_paces : ob) (o_route : ob) : Option (ob × ob × ob) :=
  ((if (o_this.1 11) = 0 then ((f0_build 1 (-1) 0 o_paces o_now).bind fun q6 => lt (sI o_this 11 1) fun t7 => some (t7, q6)) else (some (o_this, o_paces)))).bind fun v1 => (if (v1.1.1 14) = 0 then ((f2_begin o_route o_now v1.2).bind fun q3 => lt (sI v1.1 14 1) fun t4 => some (t4, v1.2, q3)) else (some (v1.1, v1.2, o_route)))
set_option maxRecDepth 100000 in
set_option maxHeartbeats 4000000 in
theorem c5_renewRoute (l : Launch) (D : va_G) (K : Nat → ClassId) (aa : Nat → Nat → Nat) (o_this : ob) (o_now : ob) (o_paces : ob) (o_route : ob) (r : ob × ob × ob) (hf : f5_renewRoute o_this o_now o_paces o_route = some r) : CTv l yX5_renewRoute cX5_renewRoute 1 5 123 D K [.ref (aa 0 0)] [wX5 K aa o_this, wX4 K (aa 2) o_now, wX0 K (aa 5) o_paces, wX2 K (aa 7) o_route] [wX5 K aa r.1, wX4 K (aa 2) o_now, wX0 K (aa 5) r.2.1, wX2 K (aa 7) r.2.2] := by
  unfold f5_renewRoute at hf
  have hf := tob hf
  refine entV (by decide) (Nat.le_of_ble_eq_true rfl) (fun P e s m args below meth c A ls F h hl hin => ?_)
  have hx := F.1
  have hb := F.2.1
  have hl : lv_has ls 1 [(0, .ref (aa 0 0))] := hl
  refine lv_aload_n hx hb dX5_renewRoute_0 rfl (lv_at hl 0 rfl) ?_
  refine r_get F h (i := 0) (k := 11) (.int (o_this.1 11)) inX5 rfl (by decide) w517 rfl rfl rfl dX5_renewRoute_1 ?_
  obtain ⟨J1, eJ1, hf⟩ := rgn hf
  have JW1 : ∀ (v1 : ob × ob) (H : Heap) (locs : List Loc) (ls : Array Slot), WD D A s.heap H locs [wX5 K aa v1.1, wX4 K (aa 2) o_now, wX0 K (aa 5) v1.2, wX2 K (aa 7) o_route] → lv_has ls 1 [(0, .ref (aa 0 0))] → J1 v1 = some r → W P l e (rmS 5 123) s m args below meth c H locs 0 0 (MQ below (QvS D A [wX5 K aa r.1, wX4 K (aa 2) o_now, wX0 K (aa 5) r.2.1, wX2 K (aa 7) r.2.2]) args s 0 0 A) (F0 m 26 ls []) := by
    intro v1 H locs ls h hl hf
    have hf := jof eJ1 hf
    refine lv_aload_n hx hb dX5_renewRoute_26 rfl (lv_at hl 0 rfl) ?_
    refine r_get F h (i := 0) (k := 14) (.int (v1.1.1 14)) inX5 rfl (by decide) w518 rfl rfl rfl dX5_renewRoute_27 ?_
    refine lv_if_ne (tgt := 53) hx hb dX5_renewRoute_30 (by decide) (fun c2 => ?_) (fun c2 => ?_)
    · have hf := ifn hf c2
      obtain rfl := sor hf
      exact r_retv F h dX5_renewRoute_53
    · have hf := ifp hf c2
      refine lv_aload_n hx hb dX5_renewRoute_33 rfl (lv_at hl 0 rfl) ?_
      refine r_get F h (i := 0) (k := 13) (.ref ((aa 7) 0)) inX5 rfl (by decide) w525 rfl rfl rfl dX5_renewRoute_34 ?_
      refine lv_aload_n hx hb dX5_renewRoute_37 rfl (lv_at hl 0 rfl) ?_
      refine r_get F h (i := 0) (k := 1) (.ref ((aa 2) 0)) inX5 rfl (by decide) w513 rfl rfl rfl dX5_renewRoute_38 ?_
      refine lv_aload_n hx hb dX5_renewRoute_41 rfl (lv_at hl 0 rfl) ?_
      refine r_get F h (i := 0) (k := 10) (.ref ((aa 5) 0)) inX5 rfl (by decide) w526 rfl rfl rfl dX5_renewRoute_42 ?_
      obtain ⟨q3, h3, hf⟩ := asb hf
      refine r_callVv (As := [.ref ((aa 2) 0), .ref ((aa 5) 0)]) (rest := []) (C0 := [wX2 K (aa 7) o_route, wX4 K (aa 2) o_now, wX0 K (aa 5) v1.2]) (C1 := [wX2 K (aa 7) q3, wX4 K (aa 2) o_now, wX0 K (aa 5) v1.2]) (Rr := [wX5 K aa v1.1]) (S' := [wX5 K aa v1.1, wX4 K (aa 2) o_now, wX0 K (aa 5) v1.2, wX2 K (aa 7) q3]) F h hl (c2_begin l D K (aa 7) (aa 2) (aa 5) o_route o_now v1.2 q3 h3) [3, 1, 2, 0] rfl rfl rfl rfl rfl (i := 3) rfl rfl w527 ⟨w528, w529, w530, w452⟩ hsc2_begin ⟨Nat.le_of_ble_eq_true rfl, Nat.le_of_ble_eq_true rfl⟩ ⟨Nat.le_refl 0, Nat.le_refl 0⟩ (Nat.le_of_ble_eq_true rfl) dX5_renewRoute_45 (fun H locs h => ?_)
      refine lv_aload_n hx hb dX5_renewRoute_48 rfl (lv_at hl 0 rfl) ?_
      refine lv_iconst (v := 1) hx hb dX5_renewRoute_49 (by decide) ?_
      refine r_put (o1 := sI v1.1 14 1) (w := fun t4 => wX5 K aa t4) (S' := fun t4 => [wX5 K aa t4, wX4 K (aa 2) o_now, wX0 K (aa 5) v1.2, wX2 K (aa 7) q3]) F h (i := 0) (k := 14) inX5 tyX5_ok nmX5 rfl (by decide) w518 rfl rfl rfl rfl rfl (Nat.le_of_ble_eq_true rfl) rfl (fun _ => rfl) dX5_renewRoute_50 (fun t4 e4 H locs h => ?_)
      have hf := ltb hf e4
      obtain rfl := sor hf
      exact r_retv F h dX5_renewRoute_53
  refine lv_if_ne (tgt := 26) hx hb dX5_renewRoute_4 (by decide) (fun c5 => ?_) (fun c5 => ?_)
  · have hf := ifn hf c5
    exact JW1 (o_this, o_paces) _ _ _ h (lv_sub hl [0] rfl) (sob hf)
  · have hf := ifp hf c5
    refine lv_aload_n hx hb dX5_renewRoute_7 rfl (lv_at hl 0 rfl) ?_
    refine r_get F h (i := 0) (k := 10) (.ref ((aa 5) 0)) inX5 rfl (by decide) w526 rfl rfl rfl dX5_renewRoute_8 ?_
    refine lv_aload_n hx hb dX5_renewRoute_11 rfl (lv_at hl 0 rfl) ?_
    refine r_get F h (i := 0) (k := 1) (.ref ((aa 2) 0)) inX5 rfl (by decide) w513 rfl rfl rfl dX5_renewRoute_12 ?_
    refine lv_iconst (v := 1) hx hb dX5_renewRoute_15 (by decide) ?_
    refine lv_iconst (v := (-1)) hx hb dX5_renewRoute_16 (by decide) ?_
    refine lv_iconst (v := 0) hx hb dX5_renewRoute_17 (by decide) ?_
    obtain ⟨q6, h6, hf⟩ := asb hf
    refine r_callVv (As := [.ref ((aa 2) 0), .int 1, .int (-1), .int 0]) (rest := []) (C0 := [wX0 K (aa 5) o_paces, wX4 K (aa 2) o_now]) (C1 := [wX0 K (aa 5) q6, wX4 K (aa 2) o_now]) (Rr := [wX5 K aa o_this, wX2 K (aa 7) o_route]) (S' := [wX5 K aa o_this, wX4 K (aa 2) o_now, wX0 K (aa 5) q6, wX2 K (aa 7) o_route]) F h hl (c0_build l D K (aa 5) (aa 2) 1 (-1) 0 o_paces o_now q6 h6) [2, 1, 0, 3] rfl rfl rfl rfl rfl (i := 2) rfl rfl w521 ⟨w522, w523, w524, w376⟩ hsc0_build ⟨Nat.le_of_ble_eq_true rfl, Nat.le_of_ble_eq_true rfl⟩ ⟨Nat.le_refl 0, Nat.le_refl 0⟩ (Nat.le_of_ble_eq_true rfl) dX5_renewRoute_18 (fun H locs h => ?_)
    refine lv_aload_n hx hb dX5_renewRoute_21 rfl (lv_at hl 0 rfl) ?_
    refine lv_iconst (v := 1) hx hb dX5_renewRoute_22 (by decide) ?_
    refine r_put (o1 := sI o_this 11 1) (w := fun t7 => wX5 K aa t7) (S' := fun t7 => [wX5 K aa t7, wX4 K (aa 2) o_now, wX0 K (aa 5) q6, wX2 K (aa 7) o_route]) F h (i := 0) (k := 11) inX5 tyX5_ok nmX5 rfl (by decide) w517 rfl rfl rfl rfl rfl (Nat.le_of_ble_eq_true rfl) rfl (fun _ => rfl) dX5_renewRoute_23 (fun t7 e7 H locs h => ?_)
    have hf := ltb hf e7
    exact JW1 (t7, q6) _ _ _ h (lv_sub hl [0] rfl) (sob hf)
noncomputable def f5_priceWith (x0 : Int32) (x1 : Int32) (o_this : ob) (o_now : ob) (o_trial : ob) : Option (Int32 × ob) :=
  (f0_build (o_now.1 12) x0 x1 o_trial o_now).bind fun q1 => (f0_priceOf q1 o_now).bind fun q2 => some (q2.1, q2.2)
set_option maxRecDepth 100000 in
set_option maxHeartbeats 4000000 in
theorem c5_priceWith (l : Launch) (D : va_G) (K : Nat → ClassId) (aa : Nat → Nat → Nat) (x0 : Int32) (x1 : Int32) (o_this : ob) (o_now : ob) (o_trial : ob) (r : Int32 × ob) (hf : f5_priceWith x0 x1 o_this o_now o_trial = some r) : CTi l yX5_priceWith cX5_priceWith 3 (some .int) 5 123 D K [.ref (aa 0 0), .int x0, .int x1] [wX5 K aa o_this, wX4 K (aa 2) o_now, wX0 K (aa 6) o_trial] [wX5 K aa o_this, wX4 K (aa 2) o_now, wX0 K (aa 6) r.2] r.1 := by
  unfold f5_priceWith at hf
  have hf := tob hf
  refine entI (by decide) (Nat.le_of_ble_eq_true rfl) (fun P e s m args below meth c A ls F h hl hin => ?_)
  have hx := F.1
  have hb := F.2.1
  have hl : lv_has ls 3 [(0, .ref (aa 0 0)), (1, .int x0), (2, .int x1)] := hl
  refine lv_aload_n hx hb dX5_priceWith_0 rfl (lv_at hl 0 rfl) ?_
  refine r_get F h (i := 0) (k := 12) (.ref ((aa 6) 0)) inX5 rfl (by decide) w531 rfl rfl rfl dX5_priceWith_1 ?_
  refine lv_aload_n hx hb dX5_priceWith_4 rfl (lv_at hl 0 rfl) ?_
  refine r_get F h (i := 0) (k := 1) (.ref ((aa 2) 0)) inX5 rfl (by decide) w513 rfl rfl rfl dX5_priceWith_5 ?_
  refine lv_aload_n hx hb dX5_priceWith_8 rfl (lv_at hl 0 rfl) ?_
  refine r_get F h (i := 0) (k := 1) (.ref ((aa 2) 0)) inX5 rfl (by decide) w513 rfl rfl rfl dX5_priceWith_9 ?_
  refine r_get F h (i := 1) (k := 12) (.int (o_now.1 12)) inX4 rfl (by decide) w520 rfl rfl rfl dX5_priceWith_12 ?_
  refine lv_iload_n hx hb dX5_priceWith_15 rfl (lv_at hl 1 rfl) ?_
  refine lv_iload_n hx hb dX5_priceWith_16 rfl (lv_at hl 2 rfl) ?_
  obtain ⟨q1, h1, hf⟩ := asb hf
  refine r_callVv (As := [.ref ((aa 2) 0), .int (o_now.1 12), .int x0, .int x1]) (rest := []) (C0 := [wX0 K (aa 6) o_trial, wX4 K (aa 2) o_now]) (C1 := [wX0 K (aa 6) q1, wX4 K (aa 2) o_now]) (Rr := [wX5 K aa o_this]) (S' := [wX5 K aa o_this, wX4 K (aa 2) o_now, wX0 K (aa 6) q1]) F h hl (c0_build l D K (aa 6) (aa 2) (o_now.1 12) x0 x1 o_trial o_now q1 h1) [2, 1, 0] rfl rfl rfl rfl rfl (i := 2) rfl rfl w521 ⟨w522, w523, w524, w376⟩ hsc0_build ⟨Nat.le_of_ble_eq_true rfl, Nat.le_of_ble_eq_true rfl⟩ ⟨Nat.le_refl 0, Nat.le_refl 0⟩ (Nat.le_of_ble_eq_true rfl) dX5_priceWith_17 (fun H locs h => ?_)
  refine lv_aload_n hx hb dX5_priceWith_20 rfl (lv_at hl 0 rfl) ?_
  refine r_get F h (i := 0) (k := 12) (.ref ((aa 6) 0)) inX5 rfl (by decide) w531 rfl rfl rfl dX5_priceWith_21 ?_
  refine lv_aload_n hx hb dX5_priceWith_24 rfl (lv_at hl 0 rfl) ?_
  refine r_get F h (i := 0) (k := 1) (.ref ((aa 2) 0)) inX5 rfl (by decide) w513 rfl rfl rfl dX5_priceWith_25 ?_
  obtain ⟨q2, h2, hf⟩ := asb hf
  refine r_callVi (As := [.ref ((aa 2) 0)]) (rest := []) (C0 := [wX0 K (aa 6) q1, wX4 K (aa 2) o_now]) (C1 := [wX0 K (aa 6) q2.2, wX4 K (aa 2) o_now]) (Rr := [wX5 K aa o_this]) (S' := [wX5 K aa o_this, wX4 K (aa 2) o_now, wX0 K (aa 6) q2.2]) F h hl (c0_priceOf l D K (aa 6) (aa 2) q1 o_now q2 h2) [2, 1, 0] rfl rfl rfl rfl rfl (i := 2) rfl rfl w532 ⟨w533, w534, w535, w376⟩ hsc0_priceOf ⟨Nat.le_of_ble_eq_true rfl, Nat.le_of_ble_eq_true rfl⟩ ⟨Nat.le_refl 0, Nat.le_refl 0⟩ (Nat.le_of_ble_eq_true rfl) dX5_priceWith_28 (fun H locs h => ?_)
  obtain rfl := sor hf
  exact r_reti F h dX5_priceWith_31
def f5_write (x0 : Int32) (o_this : ob) (o_script : ob) : Option (Int32 × ob) :=
  (if x0 < 32 then (some ((-1), o_script)) else ((if x0 ≤ 126 then ((f3_append ((x0.toUInt32 % 65536).toInt32) o_script).bind fun q3 => (if q3.1 = 0 then (some ((-3), q3.2)) else (some (q3.2.1 1, q3.2)))) else (some ((-1), o_script)))))
set_option maxRecDepth 100000 in
set_option maxHeartbeats 4000000 in
theorem c5_write (l : Launch) (D : va_G) (K : Nat → ClassId) (aa : Nat → Nat → Nat) (x0 : Int32) (o_this : ob) (o_script : ob) (r : Int32 × ob) (hf : f5_write x0 o_this o_script = some r) : CTi l yX5_write cX5_write 2 (some .int) 1 21 D K [.ref (aa 0 0), .int x0] [wX5 K aa o_this, wX3 K (aa 1) o_script] [wX5 K aa o_this, wX3 K (aa 1) r.2] r.1 := by
  unfold f5_write at hf
  have hf := tob hf
  refine entI (by decide) (Nat.le_of_ble_eq_true rfl) (fun P e s m args below meth c A ls F h hl hin => ?_)
  have hx := F.1
  have hb := F.2.1
  have hl : lv_has ls 2 [(0, .ref (aa 0 0)), (1, .int x0)] := hl
  refine lv_iload_n hx hb dX5_write_0 rfl (lv_at hl 1 rfl) ?_
  refine lv_bipush (v := 32) hx hb dX5_write_1 (by decide) ?_
  refine lv_icmp_lt (tgt := 12) hx hb dX5_write_3 (by decide) (fun c1 => ?_) (fun c1 => ?_)
  · have hf := ifp hf c1
    refine lv_iconst (v := (-1)) hx hb dX5_write_12 (by decide) ?_
    obtain rfl := sor hf
    exact r_reti F h dX5_write_13
  · have hf := ifn hf c1
    refine lv_iload_n hx hb dX5_write_6 rfl (lv_at hl 1 rfl) ?_
    refine lv_bipush (v := 126) hx hb dX5_write_7 (by decide) ?_
    refine lv_icmp_le (tgt := 14) hx hb dX5_write_9 (by decide) (fun c2 => ?_) (fun c2 => ?_)
    · have hf := ifp hf c2
      refine lv_aload_n hx hb dX5_write_14 rfl (lv_at hl 0 rfl) ?_
      refine r_get F h (i := 0) (k := 0) (.ref ((aa 1) 0)) inX5 rfl (by decide) w536 rfl rfl rfl dX5_write_15 ?_
      refine lv_iload_n hx hb dX5_write_18 rfl (lv_at hl 1 rfl) ?_
      refine lv_i2c hx hb dX5_write_19 rfl ?_
      obtain ⟨q3, h3, hf⟩ := asb hf
      refine r_callVi (As := [.int ((x0.toUInt32 % 65536).toInt32)]) (rest := []) (C0 := [wX3 K (aa 1) o_script]) (C1 := [wX3 K (aa 1) q3.2]) (Rr := [wX5 K aa o_this]) (S' := [wX5 K aa o_this, wX3 K (aa 1) q3.2]) F h hl (c3_append l D K (aa 1) ((x0.toUInt32 % 65536).toInt32) o_script q3 h3) [1, 0] rfl rfl rfl rfl rfl (i := 1) rfl rfl w538 ⟨w539, w540, w541, w297⟩ hsc3_append ⟨Nat.le_of_ble_eq_true rfl, Nat.le_of_ble_eq_true rfl⟩ ⟨Nat.le_refl 0, Nat.le_refl 0⟩ (Nat.le_of_ble_eq_true rfl) dX5_write_20 (fun H locs h => ?_)
      refine lv_if_eq (tgt := 36) hx hb dX5_write_23 (by decide) (fun c4 => ?_) (fun c4 => ?_)
      · have hf := ifp hf c4
        refine lv_bipush (v := (-3)) hx hb dX5_write_36 (by decide) ?_
        obtain rfl := sor hf
        exact r_reti F h dX5_write_38
      · have hf := ifn hf c4
        refine lv_aload_n hx hb dX5_write_26 rfl (lv_at hl 0 rfl) ?_
        refine r_get F h (i := 0) (k := 0) (.ref ((aa 1) 0)) inX5 rfl (by decide) w536 rfl rfl rfl dX5_write_27 ?_
        refine r_get F h (i := 1) (k := 1) (.int (q3.2.1 1)) inX3 rfl (by decide) w537 rfl rfl rfl dX5_write_30 ?_
        refine lv_goto (tgt := 38) hx hb dX5_write_33 (by decide) ?_
        obtain rfl := sor hf
        exact r_reti F h dX5_write_38
    · have hf := ifn hf c2
      refine lv_iconst (v := (-1)) hx hb dX5_write_12 (by decide) ?_
      obtain rfl := sor hf
      exact r_reti F h dX5_write_13
def f5_wipe (o_this : ob) (o_script : ob) : Option (Int32 × ob) :=
  lt (o_script.1 1) fun y1 => (f3_clear o_script).bind fun q2 => some (y1, q2)
set_option maxRecDepth 100000 in
set_option maxHeartbeats 4000000 in
theorem c5_wipe (l : Launch) (D : va_G) (K : Nat → ClassId) (aa : Nat → Nat → Nat) (o_this : ob) (o_script : ob) (r : Int32 × ob) (hf : f5_wipe o_this o_script = some r) : CTi l yX5_wipe cX5_wipe 2 (some .int) 1 20 D K [.ref (aa 0 0)] [wX5 K aa o_this, wX3 K (aa 1) o_script] [wX5 K aa o_this, wX3 K (aa 1) r.2] r.1 := by
  unfold f5_wipe at hf
  have hf := tob hf
  refine entI (by decide) (Nat.le_of_ble_eq_true rfl) (fun P e s m args below meth c A ls F h hl hin => ?_)
  have hx := F.1
  have hb := F.2.1
  have hl : lv_has ls 2 [(0, .ref (aa 0 0))] := hl
  refine lv_aload_n hx hb dX5_wipe_0 rfl (lv_at hl 0 rfl) ?_
  refine r_get F h (i := 0) (k := 0) (.ref ((aa 1) 0)) inX5 rfl (by decide) w536 rfl rfl rfl dX5_wipe_1 ?_
  refine r_get F h (i := 1) (k := 1) (.int (o_script.1 1)) inX3 rfl (by decide) w537 rfl rfl rfl dX5_wipe_4 ?_
  refine lv_topi (fun y1 e1 => ?_)
  have hf := ltb hf e1
  refine lv_istore_n (lv' := [(1, .int y1), (0, .ref (aa 0 0))]) hx hb dX5_wipe_7 rfl hl (by decide) rfl (fun ls hl => ?_)
  refine lv_aload_n hx hb dX5_wipe_8 rfl (lv_at hl 1 rfl) ?_
  refine r_get F h (i := 0) (k := 0) (.ref ((aa 1) 0)) inX5 rfl (by decide) w536 rfl rfl rfl dX5_wipe_9 ?_
  obtain ⟨q2, h2, hf⟩ := asb hf
  refine r_callVv (As := []) (rest := []) (C0 := [wX3 K (aa 1) o_script]) (C1 := [wX3 K (aa 1) q2]) (Rr := [wX5 K aa o_this]) (S' := [wX5 K aa o_this, wX3 K (aa 1) q2]) F h hl (c3_clear l D K (aa 1) o_script q2 h2) [1, 0] rfl rfl rfl rfl rfl (i := 1) rfl rfl w542 ⟨w543, w544, w545, w297⟩ hsc3_clear ⟨Nat.le_of_ble_eq_true rfl, Nat.le_of_ble_eq_true rfl⟩ ⟨Nat.le_refl 0, Nat.le_refl 0⟩ (Nat.le_of_ble_eq_true rfl) dX5_wipe_12 (fun H locs h => ?_)
  refine lv_iload_n hx hb dX5_wipe_15 rfl (lv_at hl 0 rfl) ?_
  obtain rfl := sor hf
  exact r_reti F h dX5_wipe_16
noncomputable def f5_fault (o_this : ob) (o_script : ob) (o_draft : ob) : Option (Int32 × ob × ob) :=
  (f3_readInto o_script o_draft).bind fun q1 => some (q1.1, q1.2.1, q1.2.2)
set_option maxRecDepth 100000 in
set_option maxHeartbeats 4000000 in
theorem c5_fault (l : Launch) (D : va_G) (K : Nat → ClassId) (aa : Nat → Nat → Nat) (o_this : ob) (o_script : ob) (o_draft : ob) (r : Int32 × ob × ob) (hf : f5_fault o_this o_script o_draft = some r) : CTi l yX5_fault cX5_fault 1 (some .int) 5 117 D K [.ref (aa 0 0)] [wX5 K aa o_this, wX3 K (aa 1) o_script, wX4 K (aa 3) o_draft] [wX5 K aa o_this, wX3 K (aa 1) r.2.1, wX4 K (aa 3) r.2.2] r.1 := by
  unfold f5_fault at hf
  have hf := tob hf
  refine entI (by decide) (Nat.le_of_ble_eq_true rfl) (fun P e s m args below meth c A ls F h hl hin => ?_)
  have hx := F.1
  have hb := F.2.1
  have hl : lv_has ls 1 [(0, .ref (aa 0 0))] := hl
  refine lv_aload_n hx hb dX5_fault_0 rfl (lv_at hl 0 rfl) ?_
  refine r_get F h (i := 0) (k := 0) (.ref ((aa 1) 0)) inX5 rfl (by decide) w536 rfl rfl rfl dX5_fault_1 ?_
  refine lv_aload_n hx hb dX5_fault_4 rfl (lv_at hl 0 rfl) ?_
  refine r_get F h (i := 0) (k := 2) (.ref ((aa 3) 0)) inX5 rfl (by decide) w546 rfl rfl rfl dX5_fault_5 ?_
  obtain ⟨q1, h1, hf⟩ := asb hf
  refine r_callVi (As := [.ref ((aa 3) 0)]) (rest := []) (C0 := [wX3 K (aa 1) o_script, wX4 K (aa 3) o_draft]) (C1 := [wX3 K (aa 1) q1.2.1, wX4 K (aa 3) q1.2.2]) (Rr := [wX5 K aa o_this]) (S' := [wX5 K aa o_this, wX3 K (aa 1) q1.2.1, wX4 K (aa 3) q1.2.2]) F h hl (c3_readInto l D K (aa 1) (aa 3) o_script o_draft q1 h1) [1, 2, 0] rfl rfl rfl rfl rfl (i := 1) rfl rfl w547 ⟨w548, w549, w550, w297⟩ hsc3_readInto ⟨Nat.le_of_ble_eq_true rfl, Nat.le_of_ble_eq_true rfl⟩ ⟨Nat.le_refl 0, Nat.le_refl 0⟩ (Nat.le_of_ble_eq_true rfl) dX5_fault_8 (fun H locs h => ?_)
  obtain rfl := sor hf
  exact r_reti F h dX5_fault_11
noncomputable def f5_lay (o_this : ob) (o_script : ob) (o_now : ob) (o_draft : ob) : Option (Int32 × ob × ob × ob × ob) :=
  (f3_readInto o_script o_draft).bind fun q1 => (if q1.1 = (-4) then ((if (q1.2.2.1 1) = 0 then (some ((-2), o_this, q1.2.1, o_now, q1.2.2)) else ((f4_copyFrom o_now q1.2.2).bind fun q4 => lt (sI o_this 5 0) fun t5 => lt (sI t5 7 0) fun t6 => (f5_noteNewRules t6).bind fun q7 => some (q4.1 1, q7, q1.2.1, q4, q1.2.2)))) else (some ((-2), o_this, q1.2.1, o_now, q1.2.2)))
set_option maxRecDepth 100000 in
set_option maxHeartbeats 4000000 in
theorem c5_lay (l : Launch) (D : va_G) (K : Nat → ClassId) (aa : Nat → Nat → Nat) (o_this : ob) (o_script : ob) (o_now : ob) (o_draft : ob) (r : Int32 × ob × ob × ob × ob) (hf : f5_lay o_this o_script o_now o_draft = some r) : CTi l yX5_lay cX5_lay 1 (some .int) 5 117 D K [.ref (aa 0 0)] [wX5 K aa o_this, wX3 K (aa 1) o_script, wX4 K (aa 2) o_now, wX4 K (aa 3) o_draft] [wX5 K aa r.2.1, wX3 K (aa 1) r.2.2.1, wX4 K (aa 2) r.2.2.2.1, wX4 K (aa 3) r.2.2.2.2] r.1 := by
  unfold f5_lay at hf
  have hf := tob hf
  refine entI (by decide) (Nat.le_of_ble_eq_true rfl) (fun P e s m args below meth c A ls F h hl hin => ?_)
  have hx := F.1
  have hb := F.2.1
  have hl : lv_has ls 1 [(0, .ref (aa 0 0))] := hl
  refine lv_aload_n hx hb dX5_lay_0 rfl (lv_at hl 0 rfl) ?_
  refine r_get F h (i := 0) (k := 0) (.ref ((aa 1) 0)) inX5 rfl (by decide) w536 rfl rfl rfl dX5_lay_1 ?_
  refine lv_aload_n hx hb dX5_lay_4 rfl (lv_at hl 0 rfl) ?_
  refine r_get F h (i := 0) (k := 2) (.ref ((aa 3) 0)) inX5 rfl (by decide) w546 rfl rfl rfl dX5_lay_5 ?_
  obtain ⟨q1, h1, hf⟩ := asb hf
  refine r_callVi (As := [.ref ((aa 3) 0)]) (rest := []) (C0 := [wX3 K (aa 1) o_script, wX4 K (aa 3) o_draft]) (C1 := [wX3 K (aa 1) q1.2.1, wX4 K (aa 3) q1.2.2]) (Rr := [wX5 K aa o_this, wX4 K (aa 2) o_now]) (S' := [wX5 K aa o_this, wX3 K (aa 1) q1.2.1, wX4 K (aa 2) o_now, wX4 K (aa 3) q1.2.2]) F h hl (c3_readInto l D K (aa 1) (aa 3) o_script o_draft q1 h1) [1, 3, 0, 2] rfl rfl rfl rfl rfl (i := 1) rfl rfl w547 ⟨w548, w549, w550, w297⟩ hsc3_readInto ⟨Nat.le_of_ble_eq_true rfl, Nat.le_of_ble_eq_true rfl⟩ ⟨Nat.le_refl 0, Nat.le_refl 0⟩ (Nat.le_of_ble_eq_true rfl) dX5_lay_8 (fun H locs h => ?_)
  refine lv_bipush (v := (-4)) hx hb dX5_lay_11 (by decide) ?_
  refine lv_icmp_ne (tgt := 26) hx hb dX5_lay_13 (by decide) (fun c2 => ?_) (fun c2 => ?_)
  · have hf := ifn hf c2
    refine lv_bipush (v := (-2)) hx hb dX5_lay_26 (by decide) ?_
    obtain rfl := sor hf
    exact r_reti F h dX5_lay_28
  · have hf := ifp hf c2
    refine lv_aload_n hx hb dX5_lay_16 rfl (lv_at hl 0 rfl) ?_
    refine r_get F h (i := 0) (k := 2) (.ref ((aa 3) 0)) inX5 rfl (by decide) w546 rfl rfl rfl dX5_lay_17 ?_
    refine r_get F h (i := 3) (k := 1) (.int (q1.2.2.1 1)) inX4 rfl (by decide) w514 rfl rfl rfl dX5_lay_20 ?_
    refine lv_if_ne (tgt := 29) hx hb dX5_lay_23 (by decide) (fun c3 => ?_) (fun c3 => ?_)
    · have hf := ifn hf c3
      refine lv_aload_n hx hb dX5_lay_29 rfl (lv_at hl 0 rfl) ?_
      refine r_get F h (i := 0) (k := 1) (.ref ((aa 2) 0)) inX5 rfl (by decide) w513 rfl rfl rfl dX5_lay_30 ?_
      refine lv_aload_n hx hb dX5_lay_33 rfl (lv_at hl 0 rfl) ?_
      refine r_get F h (i := 0) (k := 2) (.ref ((aa 3) 0)) inX5 rfl (by decide) w546 rfl rfl rfl dX5_lay_34 ?_
      obtain ⟨q4, h4, hf⟩ := asb hf
      refine r_callVv (As := [.ref ((aa 3) 0)]) (rest := []) (C0 := [wX4 K (aa 2) o_now, wX4 K (aa 3) q1.2.2]) (C1 := [wX4 K (aa 2) q4, wX4 K (aa 3) q1.2.2]) (Rr := [wX5 K aa o_this, wX3 K (aa 1) q1.2.1]) (S' := [wX5 K aa o_this, wX3 K (aa 1) q1.2.1, wX4 K (aa 2) q4, wX4 K (aa 3) q1.2.2]) F h hl (c4_copyFrom l D K (aa 2) (aa 3) o_now q1.2.2 q4 h4) [2, 3, 0, 1] rfl rfl rfl rfl rfl (i := 2) rfl rfl w553 ⟨w554, w555, w556, w276⟩ hsc4_copyFrom ⟨Nat.le_of_ble_eq_true rfl, Nat.le_of_ble_eq_true rfl⟩ ⟨Nat.le_refl 0, Nat.le_refl 0⟩ (Nat.le_of_ble_eq_true rfl) dX5_lay_37 (fun H locs h => ?_)
      refine lv_aload_n hx hb dX5_lay_40 rfl (lv_at hl 0 rfl) ?_
      refine lv_iconst (v := 0) hx hb dX5_lay_41 (by decide) ?_
      refine r_put (o1 := sI o_this 5 0) (w := fun t5 => wX5 K aa t5) (S' := fun t5 => [wX5 K aa t5, wX3 K (aa 1) q1.2.1, wX4 K (aa 2) q4, wX4 K (aa 3) q1.2.2]) F h (i := 0) (k := 5) inX5 tyX5_ok nmX5 rfl (by decide) w551 rfl rfl rfl rfl rfl (Nat.le_of_ble_eq_true rfl) rfl (fun _ => rfl) dX5_lay_42 (fun t5 e5 H locs h => ?_)
      have hf := ltb hf e5
      refine lv_aload_n hx hb dX5_lay_45 rfl (lv_at hl 0 rfl) ?_
      refine lv_iconst (v := 0) hx hb dX5_lay_46 (by decide) ?_
      refine r_put (o1 := sI t5 7 0) (w := fun t6 => wX5 K aa t6) (S' := fun t6 => [wX5 K aa t6, wX3 K (aa 1) q1.2.1, wX4 K (aa 2) q4, wX4 K (aa 3) q1.2.2]) F h (i := 0) (k := 7) inX5 tyX5_ok nmX5 rfl (by decide) w552 rfl rfl rfl rfl rfl (Nat.le_of_ble_eq_true rfl) rfl (fun _ => rfl) dX5_lay_47 (fun t6 e6 H locs h => ?_)
      have hf := ltb hf e6
      refine lv_aload_n hx hb dX5_lay_50 rfl (lv_at hl 0 rfl) ?_
      obtain ⟨q7, h7, hf⟩ := asb hf
      refine r_callVv (As := []) (rest := []) (C0 := [wX5 K aa t6]) (C1 := [wX5 K aa q7]) (Rr := [wX3 K (aa 1) q1.2.1, wX4 K (aa 2) q4, wX4 K (aa 3) q1.2.2]) (S' := [wX5 K aa q7, wX3 K (aa 1) q1.2.1, wX4 K (aa 2) q4, wX4 K (aa 3) q1.2.2]) F h hl (c5_noteNewRules l D K aa t6 q7 h7) [0, 1, 2, 3] rfl rfl rfl rfl rfl (i := 0) rfl rfl w557 ⟨w558, w559, w560, w266⟩ hsc5_noteNewRules ⟨Nat.le_of_ble_eq_true rfl, Nat.le_of_ble_eq_true rfl⟩ ⟨Nat.le_refl 0, Nat.le_refl 0⟩ (Nat.le_of_ble_eq_true rfl) dX5_lay_51 (fun H locs h => ?_)
      refine lv_aload_n hx hb dX5_lay_54 rfl (lv_at hl 0 rfl) ?_
      refine r_get F h (i := 0) (k := 1) (.ref ((aa 2) 0)) inX5 rfl (by decide) w513 rfl rfl rfl dX5_lay_55 ?_
      refine r_get F h (i := 2) (k := 1) (.int (q4.1 1)) inX4 rfl (by decide) w514 rfl rfl rfl dX5_lay_58 ?_
      obtain rfl := sor hf
      exact r_reti F h dX5_lay_61
    · have hf := ifp hf c3
      refine lv_bipush (v := (-2)) hx hb dX5_lay_26 (by decide) ?_
      obtain rfl := sor hf
      exact r_reti F h dX5_lay_28
def f5_rule (x0 : Int32) (x1 : Int32) (o_this : ob) (o_now : ob) : Option (Int32) :=
  (f5_isRule x0 o_this o_now).bind fun q1 => (if q1 = 0 then (some (-1)) else ((if x1 = 0 then (gd (vin x0 10) <| some (o_now.2 2 x0.toNatClampNeg)) else (if x1 = 1 then (gd (vin x0 10) <| some (o_now.2 3 x0.toNatClampNeg)) else (if x1 = 2 then (gd (vin x0 10) <| some (o_now.2 4 x0.toNatClampNeg)) else (if x1 = 3 then (gd (vin x0 10) <| (f5_lettersIn (o_now.2 5 x0.toNatClampNeg)).bind fun q8 => some q8) else (if x1 = 4 then (gd (vin x0 10) <| (f5_firstLetter (o_now.2 5 x0.toNatClampNeg)).bind fun q10 => some q10) else (if x1 = 5 then (gd (vin x0 10) <| (f5_secondLetter (o_now.2 5 x0.toNatClampNeg)).bind fun q12 => some q12) else (if x1 = 6 then (gd (vin x0 10) <| some (o_now.2 6 x0.toNatClampNeg)) else (some (-1)))))))))))
set_option maxRecDepth 100000 in
set_option maxHeartbeats 4000000 in
theorem c5_rule (l : Launch) (D : va_G) (K : Nat → ClassId) (aa : Nat → Nat → Nat) (x0 : Int32) (x1 : Int32) (o_this : ob) (o_now : ob) (r : Int32) (hf : f5_rule x0 x1 o_this o_now = some r) : CTi l yX5_rule cX5_rule 3 (some .int) 1 21 D K [.ref (aa 0 0), .int x0, .int x1] [wX5 K aa o_this, wX4 K (aa 2) o_now] [wX5 K aa o_this, wX4 K (aa 2) o_now] r := by
  unfold f5_rule at hf
  have hf := tob hf
  refine entI (by decide) (Nat.le_of_ble_eq_true rfl) (fun P e s m args below meth c A ls F h hl hin => ?_)
  have hx := F.1
  have hb := F.2.1
  have hl : lv_has ls 3 [(0, .ref (aa 0 0)), (1, .int x0), (2, .int x1)] := hl
  refine lv_aload_n hx hb dX5_rule_0 rfl (lv_at hl 0 rfl) ?_
  refine lv_iload_n hx hb dX5_rule_1 rfl (lv_at hl 1 rfl) ?_
  obtain ⟨q1, h1, hf⟩ := asb hf
  refine r_callVi (As := [.int x0]) (rest := []) (C0 := [wX5 K aa o_this, wX4 K (aa 2) o_now]) (C1 := [wX5 K aa o_this, wX4 K (aa 2) o_now]) (Rr := []) (S' := [wX5 K aa o_this, wX4 K (aa 2) o_now]) F h hl (c5_isRule l D K aa x0 o_this o_now q1 h1) [0, 1] rfl rfl rfl rfl rfl (i := 0) rfl rfl w569 ⟨w570, w571, w572, w266⟩ hsc5_isRule ⟨Nat.le_of_ble_eq_true rfl, Nat.le_of_ble_eq_true rfl⟩ ⟨Nat.le_refl 0, Nat.le_refl 0⟩ (Nat.le_of_ble_eq_true rfl) dX5_rule_2 (fun H locs h => ?_)
  refine lv_if_ne (tgt := 10) hx hb dX5_rule_5 (by decide) (fun c2 => ?_) (fun c2 => ?_)
  · have hf := ifn hf c2
    refine lv_iload_n hx hb dX5_rule_10 rfl (lv_at hl 2 rfl) ?_
    by_cases c3_0 : x1 = 0
    · have hf := ifp hf c3_0
      refine lv_tableIn (tgt := 52) hx hb dX5_rule_11 (by rw [c3_0]; decide) (by rw [c3_0]; decide) (by rw [c3_0]; rfl) (by decide) ?_
      refine lv_aload_n hx hb dX5_rule_52 rfl (lv_at hl 0 rfl) ?_
      refine r_get F h (i := 0) (k := 1) (.ref ((aa 2) 0)) inX5 rfl (by decide) w513 rfl rfl rfl dX5_rule_53 ?_
      refine r_get F h (i := 1) (k := 2) (.ref ((aa 2) 3)) inX4 rfl (by decide) w561 rfl rfl rfl dX5_rule_56 ?_
      refine lv_iload_n hx hb dX5_rule_59 rfl (lv_at hl 1 rfl) ?_
      obtain ⟨g4, hf⟩ := gdb hf
      refine r_iald F h (i := 1) (j := 1) rfl rfl (vin_ok g4) dX5_rule_60 ?_
      obtain rfl := sor hf
      exact r_reti F h dX5_rule_61
    have hf := ifn hf c3_0
    by_cases c3_1 : x1 = 1
    · have hf := ifp hf c3_1
      refine lv_tableIn (tgt := 62) hx hb dX5_rule_11 (by rw [c3_1]; decide) (by rw [c3_1]; decide) (by rw [c3_1]; rfl) (by decide) ?_
      refine lv_aload_n hx hb dX5_rule_62 rfl (lv_at hl 0 rfl) ?_
      refine r_get F h (i := 0) (k := 1) (.ref ((aa 2) 0)) inX5 rfl (by decide) w513 rfl rfl rfl dX5_rule_63 ?_
      refine r_get F h (i := 1) (k := 3) (.ref ((aa 2) 4)) inX4 rfl (by decide) w562 rfl rfl rfl dX5_rule_66 ?_
      refine lv_iload_n hx hb dX5_rule_69 rfl (lv_at hl 1 rfl) ?_
      obtain ⟨g5, hf⟩ := gdb hf
      refine r_iald F h (i := 1) (j := 2) rfl rfl (vin_ok g5) dX5_rule_70 ?_
      obtain rfl := sor hf
      exact r_reti F h dX5_rule_71
    have hf := ifn hf c3_1
    by_cases c3_2 : x1 = 2
    · have hf := ifp hf c3_2
      refine lv_tableIn (tgt := 72) hx hb dX5_rule_11 (by rw [c3_2]; decide) (by rw [c3_2]; decide) (by rw [c3_2]; rfl) (by decide) ?_
      refine lv_aload_n hx hb dX5_rule_72 rfl (lv_at hl 0 rfl) ?_
      refine r_get F h (i := 0) (k := 1) (.ref ((aa 2) 0)) inX5 rfl (by decide) w513 rfl rfl rfl dX5_rule_73 ?_
      refine r_get F h (i := 1) (k := 4) (.ref ((aa 2) 5)) inX4 rfl (by decide) w563 rfl rfl rfl dX5_rule_76 ?_
      refine lv_iload_n hx hb dX5_rule_79 rfl (lv_at hl 1 rfl) ?_
      obtain ⟨g6, hf⟩ := gdb hf
      refine r_iald F h (i := 1) (j := 3) rfl rfl (vin_ok g6) dX5_rule_80 ?_
      obtain rfl := sor hf
      exact r_reti F h dX5_rule_81
    have hf := ifn hf c3_2
    by_cases c3_3 : x1 = 3
    · have hf := ifp hf c3_3
      refine lv_tableIn (tgt := 82) hx hb dX5_rule_11 (by rw [c3_3]; decide) (by rw [c3_3]; decide) (by rw [c3_3]; rfl) (by decide) ?_
      refine lv_aload_n hx hb dX5_rule_82 rfl (lv_at hl 0 rfl) ?_
      refine r_get F h (i := 0) (k := 1) (.ref ((aa 2) 0)) inX5 rfl (by decide) w513 rfl rfl rfl dX5_rule_83 ?_
      refine r_get F h (i := 1) (k := 5) (.ref ((aa 2) 6)) inX4 rfl (by decide) w564 rfl rfl rfl dX5_rule_86 ?_
      refine lv_iload_n hx hb dX5_rule_89 rfl (lv_at hl 1 rfl) ?_
      obtain ⟨g7, hf⟩ := gdb hf
      refine r_iald F h (i := 1) (j := 4) rfl rfl (vin_ok g7) dX5_rule_90 ?_
      obtain ⟨q8, h8, hf⟩ := asb hf
      refine r_callS (As := [.int (o_now.2 5 x0.toNatClampNeg)]) (rest := []) F h hl (c5_lettersIn l D K (o_now.2 5 x0.toNatClampNeg) q8 h8) w267 ⟨w565, w265, w266⟩ hsc5_lettersIn ⟨Nat.le_of_ble_eq_true rfl, Nat.le_of_ble_eq_true rfl⟩ ⟨Nat.le_refl 0, Nat.le_refl 0⟩ (Nat.le_of_ble_eq_true rfl) dX5_rule_91 (fun H locs h => ?_)
      obtain rfl := sor hf
      exact r_reti F h dX5_rule_94
    have hf := ifn hf c3_3
    by_cases c3_4 : x1 = 4
    · have hf := ifp hf c3_4
      refine lv_tableIn (tgt := 95) hx hb dX5_rule_11 (by rw [c3_4]; decide) (by rw [c3_4]; decide) (by rw [c3_4]; rfl) (by decide) ?_
      refine lv_aload_n hx hb dX5_rule_95 rfl (lv_at hl 0 rfl) ?_
      refine r_get F h (i := 0) (k := 1) (.ref ((aa 2) 0)) inX5 rfl (by decide) w513 rfl rfl rfl dX5_rule_96 ?_
      refine r_get F h (i := 1) (k := 5) (.ref ((aa 2) 6)) inX4 rfl (by decide) w564 rfl rfl rfl dX5_rule_99 ?_
      refine lv_iload_n hx hb dX5_rule_102 rfl (lv_at hl 1 rfl) ?_
      obtain ⟨g9, hf⟩ := gdb hf
      refine r_iald F h (i := 1) (j := 4) rfl rfl (vin_ok g9) dX5_rule_103 ?_
      obtain ⟨q10, h10, hf⟩ := asb hf
      refine r_callS (As := [.int (o_now.2 5 x0.toNatClampNeg)]) (rest := []) F h hl (c5_firstLetter l D K (o_now.2 5 x0.toNatClampNeg) q10 h10) w269 ⟨w566, w268, w266⟩ hsc5_firstLetter ⟨Nat.le_of_ble_eq_true rfl, Nat.le_of_ble_eq_true rfl⟩ ⟨Nat.le_refl 0, Nat.le_refl 0⟩ (Nat.le_of_ble_eq_true rfl) dX5_rule_104 (fun H locs h => ?_)
      obtain rfl := sor hf
      exact r_reti F h dX5_rule_107
    have hf := ifn hf c3_4
    by_cases c3_5 : x1 = 5
    · have hf := ifp hf c3_5
      refine lv_tableIn (tgt := 108) hx hb dX5_rule_11 (by rw [c3_5]; decide) (by rw [c3_5]; decide) (by rw [c3_5]; rfl) (by decide) ?_
      refine lv_aload_n hx hb dX5_rule_108 rfl (lv_at hl 0 rfl) ?_
      refine r_get F h (i := 0) (k := 1) (.ref ((aa 2) 0)) inX5 rfl (by decide) w513 rfl rfl rfl dX5_rule_109 ?_
      refine r_get F h (i := 1) (k := 5) (.ref ((aa 2) 6)) inX4 rfl (by decide) w564 rfl rfl rfl dX5_rule_112 ?_
      refine lv_iload_n hx hb dX5_rule_115 rfl (lv_at hl 1 rfl) ?_
      obtain ⟨g11, hf⟩ := gdb hf
      refine r_iald F h (i := 1) (j := 4) rfl rfl (vin_ok g11) dX5_rule_116 ?_
      obtain ⟨q12, h12, hf⟩ := asb hf
      refine r_callS (As := [.int (o_now.2 5 x0.toNatClampNeg)]) (rest := []) F h hl (c5_secondLetter l D K (o_now.2 5 x0.toNatClampNeg) q12 h12) w271 ⟨w567, w270, w266⟩ hsc5_secondLetter ⟨Nat.le_of_ble_eq_true rfl, Nat.le_of_ble_eq_true rfl⟩ ⟨Nat.le_refl 0, Nat.le_refl 0⟩ (Nat.le_of_ble_eq_true rfl) dX5_rule_117 (fun H locs h => ?_)
      obtain rfl := sor hf
      exact r_reti F h dX5_rule_120
    have hf := ifn hf c3_5
    by_cases c3_6 : x1 = 6
    · have hf := ifp hf c3_6
      refine lv_tableIn (tgt := 121) hx hb dX5_rule_11 (by rw [c3_6]; decide) (by rw [c3_6]; decide) (by rw [c3_6]; rfl) (by decide) ?_
      refine lv_aload_n hx hb dX5_rule_121 rfl (lv_at hl 0 rfl) ?_
      refine r_get F h (i := 0) (k := 1) (.ref ((aa 2) 0)) inX5 rfl (by decide) w513 rfl rfl rfl dX5_rule_122 ?_
      refine r_get F h (i := 1) (k := 6) (.ref ((aa 2) 7)) inX4 rfl (by decide) w568 rfl rfl rfl dX5_rule_125 ?_
      refine lv_iload_n hx hb dX5_rule_128 rfl (lv_at hl 1 rfl) ?_
      obtain ⟨g13, hf⟩ := gdb hf
      refine r_iald F h (i := 1) (j := 5) rfl rfl (vin_ok g13) dX5_rule_129 ?_
      obtain rfl := sor hf
      exact r_reti F h dX5_rule_130
    have hf := ifn hf c3_6
    refine lv_tableOut (tgt := 131) hx hb dX5_rule_11 (tab_out_0_6 c3_0 c3_1 c3_2 c3_3 c3_4 c3_5 c3_6) (by decide) ?_
    refine lv_iconst (v := (-1)) hx hb dX5_rule_131 (by decide) ?_
    obtain rfl := sor hf
    exact r_reti F h dX5_rule_132
  · have hf := ifp hf c2
    refine lv_iconst (v := (-1)) hx hb dX5_rule_8 (by decide) ?_
    obtain rfl := sor hf
    exact r_reti F h dX5_rule_9
def f5_target (x0 : Int32) (x1 : Int32) (o_this : ob) (o_now : ob) : Option (Int32) :=
  (if x0 < 0 then (some (-1)) else ((if (o_now.1 7) ≤ x0 then (some (-1)) else ((if x1 < 0 then (some (-1)) else ((if x1 ≤ 5 then ((if x1 = 0 then (gd (vin x0 4) <| some (o_now.2 8 x0.toNatClampNeg)) else (if x1 = 1 then (gd (vin x0 4) <| some (o_now.2 9 x0.toNatClampNeg)) else (if x1 = 2 then (gd (vin x0 4) <| (if (o_now.2 10 x0.toNatClampNeg) = 0 then (some 0) else (some 1))) else (gd (vin x0 4) <| (if (o_now.2 9 x0.toNatClampNeg) ≤ (x1 - 3) then (some (-4)) else (gd (vin (((x0 * 3) + x1) - 3) 12) <| some (o_now.2 11 (((x0 * 3) + x1) - 3).toNatClampNeg)))))))) else (some (-1)))))))))
set_option maxRecDepth 100000 in
set_option maxHeartbeats 4000000 in
theorem c5_target (l : Launch) (D : va_G) (K : Nat → ClassId) (aa : Nat → Nat → Nat) (x0 : Int32) (x1 : Int32) (o_this : ob) (o_now : ob) (r : Int32) (hf : f5_target x0 x1 o_this o_now = some r) : CTi l yX5_target cX5_target 3 (some .int) 0 0 D K [.ref (aa 0 0), .int x0, .int x1] [wX5 K aa o_this, wX4 K (aa 2) o_now] [wX5 K aa o_this, wX4 K (aa 2) o_now] r := by
  unfold f5_target at hf
  have hf := tob hf
  refine entI (by decide) (Nat.le_of_ble_eq_true rfl) (fun P e s m args below meth c A ls F h hl hin => ?_)
  have hx := F.1
  have hb := F.2.1
  have hl : lv_has ls 3 [(0, .ref (aa 0 0)), (1, .int x0), (2, .int x1)] := hl
  refine lv_iload_n hx hb dX5_target_0 rfl (lv_at hl 1 rfl) ?_
  refine lv_if_lt (tgt := 24) hx hb dX5_target_1 (by decide) (fun c1 => ?_) (fun c1 => ?_)
  · have hf := ifp hf c1
    refine lv_iconst (v := (-1)) hx hb dX5_target_24 (by decide) ?_
    obtain rfl := sor hf
    exact r_reti F h dX5_target_25
  · have hf := ifn hf c1
    refine lv_iload_n hx hb dX5_target_4 rfl (lv_at hl 1 rfl) ?_
    refine lv_aload_n hx hb dX5_target_5 rfl (lv_at hl 0 rfl) ?_
    refine r_get F h (i := 0) (k := 1) (.ref ((aa 2) 0)) inX5 rfl (by decide) w513 rfl rfl rfl dX5_target_6 ?_
    refine r_get F h (i := 1) (k := 7) (.int (o_now.1 7)) inX4 rfl (by decide) w573 rfl rfl rfl dX5_target_9 ?_
    refine lv_icmp_ge (tgt := 24) hx hb dX5_target_12 (by decide) (fun c2 => ?_) (fun c2 => ?_)
    · have hf := ifp hf c2
      refine lv_iconst (v := (-1)) hx hb dX5_target_24 (by decide) ?_
      obtain rfl := sor hf
      exact r_reti F h dX5_target_25
    · have hf := ifn hf c2
      refine lv_iload_n hx hb dX5_target_15 rfl (lv_at hl 2 rfl) ?_
      refine lv_if_lt (tgt := 24) hx hb dX5_target_16 (by decide) (fun c3 => ?_) (fun c3 => ?_)
      · have hf := ifp hf c3
        refine lv_iconst (v := (-1)) hx hb dX5_target_24 (by decide) ?_
        obtain rfl := sor hf
        exact r_reti F h dX5_target_25
      · have hf := ifn hf c3
        refine lv_iload_n hx hb dX5_target_19 rfl (lv_at hl 2 rfl) ?_
        refine lv_iconst (v := 5) hx hb dX5_target_20 (by decide) ?_
        refine lv_icmp_le (tgt := 26) hx hb dX5_target_21 (by decide) (fun c4 => ?_) (fun c4 => ?_)
        · have hf := ifp hf c4
          refine lv_iload_n hx hb dX5_target_26 rfl (lv_at hl 2 rfl) ?_
          by_cases c5_0 : x1 = 0
          · have hf := ifp hf c5_0
            refine lv_tableIn (tgt := 52) hx hb dX5_target_27 (by rw [c5_0]; decide) (by rw [c5_0]; decide) (by rw [c5_0]; rfl) (by decide) ?_
            refine lv_aload_n hx hb dX5_target_52 rfl (lv_at hl 0 rfl) ?_
            refine r_get F h (i := 0) (k := 1) (.ref ((aa 2) 0)) inX5 rfl (by decide) w513 rfl rfl rfl dX5_target_53 ?_
            refine r_get F h (i := 1) (k := 8) (.ref ((aa 2) 9)) inX4 rfl (by decide) w574 rfl rfl rfl dX5_target_56 ?_
            refine lv_iload_n hx hb dX5_target_59 rfl (lv_at hl 1 rfl) ?_
            obtain ⟨g6, hf⟩ := gdb hf
            refine r_iald F h (i := 1) (j := 6) rfl rfl (vin_ok g6) dX5_target_60 ?_
            obtain rfl := sor hf
            exact r_reti F h dX5_target_61
          have hf := ifn hf c5_0
          by_cases c5_1 : x1 = 1
          · have hf := ifp hf c5_1
            refine lv_tableIn (tgt := 62) hx hb dX5_target_27 (by rw [c5_1]; decide) (by rw [c5_1]; decide) (by rw [c5_1]; rfl) (by decide) ?_
            refine lv_aload_n hx hb dX5_target_62 rfl (lv_at hl 0 rfl) ?_
            refine r_get F h (i := 0) (k := 1) (.ref ((aa 2) 0)) inX5 rfl (by decide) w513 rfl rfl rfl dX5_target_63 ?_
            refine r_get F h (i := 1) (k := 9) (.ref ((aa 2) 10)) inX4 rfl (by decide) w575 rfl rfl rfl dX5_target_66 ?_
            refine lv_iload_n hx hb dX5_target_69 rfl (lv_at hl 1 rfl) ?_
            obtain ⟨g7, hf⟩ := gdb hf
            refine r_iald F h (i := 1) (j := 7) rfl rfl (vin_ok g7) dX5_target_70 ?_
            obtain rfl := sor hf
            exact r_reti F h dX5_target_71
          have hf := ifn hf c5_1
          by_cases c5_2 : x1 = 2
          · have hf := ifp hf c5_2
            refine lv_tableIn (tgt := 72) hx hb dX5_target_27 (by rw [c5_2]; decide) (by rw [c5_2]; decide) (by rw [c5_2]; rfl) (by decide) ?_
            refine lv_aload_n hx hb dX5_target_72 rfl (lv_at hl 0 rfl) ?_
            refine r_get F h (i := 0) (k := 1) (.ref ((aa 2) 0)) inX5 rfl (by decide) w513 rfl rfl rfl dX5_target_73 ?_
            refine r_get F h (i := 1) (k := 10) (.ref ((aa 2) 11)) inX4 rfl (by decide) w576 rfl rfl rfl dX5_target_76 ?_
            refine lv_iload_n hx hb dX5_target_79 rfl (lv_at hl 1 rfl) ?_
            obtain ⟨g8, hf⟩ := gdb hf
            refine r_zald F h (i := 1) (j := 8) rfl rfl (vin_ok g8) dX5_target_80 ?_
            refine lv_if_eq (tgt := 88) hx hb dX5_target_81 (by decide) (fun c9 => ?_) (fun c9 => ?_)
            · have hf := ifp hf c9
              refine lv_iconst (v := 0) hx hb dX5_target_88 (by decide) ?_
              obtain rfl := sor hf
              exact r_reti F h dX5_target_89
            · have hf := ifn hf c9
              refine lv_iconst (v := 1) hx hb dX5_target_84 (by decide) ?_
              refine lv_goto (tgt := 89) hx hb dX5_target_85 (by decide) ?_
              obtain rfl := sor hf
              exact r_reti F h dX5_target_89
          have hf := ifn hf c5_2
          refine lv_tableOut (tgt := 90) hx hb dX5_target_27 (tab_out_0_2 c5_0 c5_1 c5_2) (by decide) ?_
          refine lv_iload_n hx hb dX5_target_90 rfl (lv_at hl 2 rfl) ?_
          refine lv_iconst (v := 3) hx hb dX5_target_91 (by decide) ?_
          refine lv_isub hx hb dX5_target_92 ?_
          refine lv_aload_n hx hb dX5_target_93 rfl (lv_at hl 0 rfl) ?_
          refine r_get F h (i := 0) (k := 1) (.ref ((aa 2) 0)) inX5 rfl (by decide) w513 rfl rfl rfl dX5_target_94 ?_
          refine r_get F h (i := 1) (k := 9) (.ref ((aa 2) 10)) inX4 rfl (by decide) w575 rfl rfl rfl dX5_target_97 ?_
          refine lv_iload_n hx hb dX5_target_100 rfl (lv_at hl 1 rfl) ?_
          obtain ⟨g10, hf⟩ := gdb hf
          refine r_iald F h (i := 1) (j := 7) rfl rfl (vin_ok g10) dX5_target_101 ?_
          refine lv_icmp_ge (tgt := 123) hx hb dX5_target_102 (by decide) (fun c11 => ?_) (fun c11 => ?_)
          · have hf := ifp hf c11
            refine lv_bipush (v := (-4)) hx hb dX5_target_123 (by decide) ?_
            obtain rfl := sor hf
            exact r_reti F h dX5_target_125
          · have hf := ifn hf c11
            refine lv_aload_n hx hb dX5_target_105 rfl (lv_at hl 0 rfl) ?_
            refine r_get F h (i := 0) (k := 1) (.ref ((aa 2) 0)) inX5 rfl (by decide) w513 rfl rfl rfl dX5_target_106 ?_
            refine r_get F h (i := 1) (k := 11) (.ref ((aa 2) 12)) inX4 rfl (by decide) w577 rfl rfl rfl dX5_target_109 ?_
            refine lv_iload_n hx hb dX5_target_112 rfl (lv_at hl 1 rfl) ?_
            refine lv_iconst (v := 3) hx hb dX5_target_113 (by decide) ?_
            refine lv_imul hx hb dX5_target_114 ?_
            refine lv_iload_n hx hb dX5_target_115 rfl (lv_at hl 2 rfl) ?_
            refine lv_iadd hx hb dX5_target_116 ?_
            refine lv_iconst (v := 3) hx hb dX5_target_117 (by decide) ?_
            refine lv_isub hx hb dX5_target_118 ?_
            obtain ⟨g12, hf⟩ := gdb hf
            refine r_iald F h (i := 1) (j := 9) rfl rfl (vin_ok g12) dX5_target_119 ?_
            refine lv_goto (tgt := 125) hx hb dX5_target_120 (by decide) ?_
            obtain rfl := sor hf
            exact r_reti F h dX5_target_125
        · have hf := ifn hf c4
          refine lv_iconst (v := (-1)) hx hb dX5_target_24 (by decide) ?_
          obtain rfl := sor hf
          exact r_reti F h dX5_target_25
def f5_stack (x0 : Int32) (o_this : ob) (o_now : ob) : Option (Int32) :=
  (if (-2) ≤ x0 then ((if x0 = (-2) then (some (o_now.1 13)) else ((if x0 = (-1) then (some (o_now.1 14)) else ((if (o_now.1 14) ≤ x0 then (some (-4)) else (gd (vin (((o_now.1 14) - 1) - x0) 12) <| some (o_now.2 15 (((o_now.1 14) - 1) - x0).toNatClampNeg)))))))) else (some (-1)))
set_option maxRecDepth 100000 in
set_option maxHeartbeats 4000000 in
theorem c5_stack (l : Launch) (D : va_G) (K : Nat → ClassId) (aa : Nat → Nat → Nat) (x0 : Int32) (o_this : ob) (o_now : ob) (r : Int32) (hf : f5_stack x0 o_this o_now = some r) : CTi l yX5_stack cX5_stack 2 (some .int) 0 0 D K [.ref (aa 0 0), .int x0] [wX5 K aa o_this, wX4 K (aa 2) o_now] [wX5 K aa o_this, wX4 K (aa 2) o_now] r := by
  unfold f5_stack at hf
  have hf := tob hf
  refine entI (by decide) (Nat.le_of_ble_eq_true rfl) (fun P e s m args below meth c A ls F h hl hin => ?_)
  have hx := F.1
  have hb := F.2.1
  have hl : lv_has ls 2 [(0, .ref (aa 0 0)), (1, .int x0)] := hl
  refine lv_iload_n hx hb dX5_stack_0 rfl (lv_at hl 1 rfl) ?_
  refine lv_bipush (v := (-2)) hx hb dX5_stack_1 (by decide) ?_
  refine lv_icmp_ge (tgt := 8) hx hb dX5_stack_3 (by decide) (fun c1 => ?_) (fun c1 => ?_)
  · have hf := ifp hf c1
    refine lv_iload_n hx hb dX5_stack_8 rfl (lv_at hl 1 rfl) ?_
    refine lv_bipush (v := (-2)) hx hb dX5_stack_9 (by decide) ?_
    refine lv_icmp_ne (tgt := 22) hx hb dX5_stack_11 (by decide) (fun c2 => ?_) (fun c2 => ?_)
    · have hf := ifn hf c2
      refine lv_iload_n hx hb dX5_stack_22 rfl (lv_at hl 1 rfl) ?_
      refine lv_iconst (v := (-1)) hx hb dX5_stack_23 (by decide) ?_
      refine lv_icmp_ne (tgt := 35) hx hb dX5_stack_24 (by decide) (fun c3 => ?_) (fun c3 => ?_)
      · have hf := ifn hf c3
        refine lv_iload_n hx hb dX5_stack_35 rfl (lv_at hl 1 rfl) ?_
        refine lv_aload_n hx hb dX5_stack_36 rfl (lv_at hl 0 rfl) ?_
        refine r_get F h (i := 0) (k := 1) (.ref ((aa 2) 0)) inX5 rfl (by decide) w513 rfl rfl rfl dX5_stack_37 ?_
        refine r_get F h (i := 1) (k := 14) (.int (o_now.1 14)) inX4 rfl (by decide) w578 rfl rfl rfl dX5_stack_40 ?_
        refine lv_icmp_ge (tgt := 68) hx hb dX5_stack_43 (by decide) (fun c4 => ?_) (fun c4 => ?_)
        · have hf := ifp hf c4
          refine lv_bipush (v := (-4)) hx hb dX5_stack_68 (by decide) ?_
          obtain rfl := sor hf
          exact r_reti F h dX5_stack_70
        · have hf := ifn hf c4
          refine lv_aload_n hx hb dX5_stack_46 rfl (lv_at hl 0 rfl) ?_
          refine r_get F h (i := 0) (k := 1) (.ref ((aa 2) 0)) inX5 rfl (by decide) w513 rfl rfl rfl dX5_stack_47 ?_
          refine r_get F h (i := 1) (k := 15) (.ref ((aa 2) 16)) inX4 rfl (by decide) w579 rfl rfl rfl dX5_stack_50 ?_
          refine lv_aload_n hx hb dX5_stack_53 rfl (lv_at hl 0 rfl) ?_
          refine r_get F h (i := 0) (k := 1) (.ref ((aa 2) 0)) inX5 rfl (by decide) w513 rfl rfl rfl dX5_stack_54 ?_
          refine r_get F h (i := 1) (k := 14) (.int (o_now.1 14)) inX4 rfl (by decide) w578 rfl rfl rfl dX5_stack_57 ?_
          refine lv_iconst (v := 1) hx hb dX5_stack_60 (by decide) ?_
          refine lv_isub hx hb dX5_stack_61 ?_
          refine lv_iload_n hx hb dX5_stack_62 rfl (lv_at hl 1 rfl) ?_
          refine lv_isub hx hb dX5_stack_63 ?_
          obtain ⟨g5, hf⟩ := gdb hf
          refine r_iald F h (i := 1) (j := 10) rfl rfl (vin_ok g5) dX5_stack_64 ?_
          refine lv_goto (tgt := 70) hx hb dX5_stack_65 (by decide) ?_
          obtain rfl := sor hf
          exact r_reti F h dX5_stack_70
      · have hf := ifp hf c3
        refine lv_aload_n hx hb dX5_stack_27 rfl (lv_at hl 0 rfl) ?_
        refine r_get F h (i := 0) (k := 1) (.ref ((aa 2) 0)) inX5 rfl (by decide) w513 rfl rfl rfl dX5_stack_28 ?_
        refine r_get F h (i := 1) (k := 14) (.int (o_now.1 14)) inX4 rfl (by decide) w578 rfl rfl rfl dX5_stack_31 ?_
        obtain rfl := sor hf
        exact r_reti F h dX5_stack_34
    · have hf := ifp hf c2
      refine lv_aload_n hx hb dX5_stack_14 rfl (lv_at hl 0 rfl) ?_
      refine r_get F h (i := 0) (k := 1) (.ref ((aa 2) 0)) inX5 rfl (by decide) w513 rfl rfl rfl dX5_stack_15 ?_
      refine r_get F h (i := 1) (k := 13) (.int (o_now.1 13)) inX4 rfl (by decide) w580 rfl rfl rfl dX5_stack_18 ?_
      obtain rfl := sor hf
      exact r_reti F h dX5_stack_21
  · have hf := ifn hf c1
    refine lv_iconst (v := (-1)) hx hb dX5_stack_6 (by decide) ?_
    obtain rfl := sor hf
    exact r_reti F h dX5_stack_7
noncomputable def f5_price (o_this : ob) (o_now : ob) (o_net : ob) : Option (Int32 × ob × ob) :=
  (f5_renewNet o_this o_now o_net).bind fun q1 => (f0_priceOf q1.2 o_now).bind fun q2 => some (q2.1, q1.1, q2.2)
set_option maxRecDepth 100000 in
set_option maxHeartbeats 4000000 in
theorem c5_price (l : Launch) (D : va_G) (K : Nat → ClassId) (aa : Nat → Nat → Nat) (o_this : ob) (o_now : ob) (o_net : ob) (r : Int32 × ob × ob) (hf : f5_price o_this o_now o_net = some r) : CTi l yX5_price cX5_price 1 (some .int) 6 143 D K [.ref (aa 0 0)] [wX5 K aa o_this, wX4 K (aa 2) o_now, wX0 K (aa 4) o_net] [wX5 K aa r.2.1, wX4 K (aa 2) o_now, wX0 K (aa 4) r.2.2] r.1 := by
  unfold f5_price at hf
  have hf := tob hf
  refine entI (by decide) (Nat.le_of_ble_eq_true rfl) (fun P e s m args below meth c A ls F h hl hin => ?_)
  have hx := F.1
  have hb := F.2.1
  have hl : lv_has ls 1 [(0, .ref (aa 0 0))] := hl
  refine lv_aload_n hx hb dX5_price_0 rfl (lv_at hl 0 rfl) ?_
  obtain ⟨q1, h1, hf⟩ := asb hf
  refine r_callVv (As := []) (rest := []) (C0 := [wX5 K aa o_this, wX4 K (aa 2) o_now, wX0 K (aa 4) o_net]) (C1 := [wX5 K aa q1.1, wX4 K (aa 2) o_now, wX0 K (aa 4) q1.2]) (Rr := []) (S' := [wX5 K aa q1.1, wX4 K (aa 2) o_now, wX0 K (aa 4) q1.2]) F h hl (c5_renewNet l D K aa o_this o_now o_net q1 h1) [0, 1, 2] rfl rfl rfl rfl rfl (i := 0) rfl rfl w581 ⟨w582, w583, w584, w266⟩ hsc5_renewNet ⟨Nat.le_of_ble_eq_true rfl, Nat.le_of_ble_eq_true rfl⟩ ⟨Nat.le_refl 0, Nat.le_refl 0⟩ (Nat.le_of_ble_eq_true rfl) dX5_price_1 (fun H locs h => ?_)
  refine lv_aload_n hx hb dX5_price_4 rfl (lv_at hl 0 rfl) ?_
  refine r_get F h (i := 0) (k := 8) (.ref ((aa 4) 0)) inX5 rfl (by decide) w519 rfl rfl rfl dX5_price_5 ?_
  refine lv_aload_n hx hb dX5_price_8 rfl (lv_at hl 0 rfl) ?_
  refine r_get F h (i := 0) (k := 1) (.ref ((aa 2) 0)) inX5 rfl (by decide) w513 rfl rfl rfl dX5_price_9 ?_
  obtain ⟨q2, h2, hf⟩ := asb hf
  refine r_callVi (As := [.ref ((aa 2) 0)]) (rest := []) (C0 := [wX0 K (aa 4) q1.2, wX4 K (aa 2) o_now]) (C1 := [wX0 K (aa 4) q2.2, wX4 K (aa 2) o_now]) (Rr := [wX5 K aa q1.1]) (S' := [wX5 K aa q1.1, wX4 K (aa 2) o_now, wX0 K (aa 4) q2.2]) F h hl (c0_priceOf l D K (aa 4) (aa 2) q1.2 o_now q2 h2) [2, 1, 0] rfl rfl rfl rfl rfl (i := 2) rfl rfl w532 ⟨w533, w534, w535, w376⟩ hsc0_priceOf ⟨Nat.le_of_ble_eq_true rfl, Nat.le_of_ble_eq_true rfl⟩ ⟨Nat.le_refl 0, Nat.le_refl 0⟩ (Nat.le_of_ble_eq_true rfl) dX5_price_12 (fun H locs h => ?_)
  obtain rfl := sor hf
  exact r_reti F h dX5_price_15
noncomputable def f5_run (x0 : Int32) (o_this : ob) (o_now : ob) (o_paces : ob) (o_route : ob) : Option (Int32 × ob × ob × ob) :=
  (if (-1) ≤ x0 then ((f5_renewRoute o_this o_now o_paces o_route).bind fun q2 => (f2_steps q2.2.2).bind fun q3 => (if q3 = (-4) then (some ((-4), q2.1, q2.2.1, q2.2.2)) else ((if x0 < q3 then ((if x0 = (-1) then (some (q3, q2.1, q2.2.1, q2.2.2)) else (((if (q2.2.2.1 6) ≤ (x0 + 1) then (some q2.2.2) else ((f2_begin q2.2.2 o_now q2.2.1).bind fun q10 => some q10))).bind fun v7 => (f2_ruleAt x0 v7 o_now q2.2.1).bind fun q8 => some (q8.1, q2.1, q2.2.1, q8.2)))) else (some ((-4), q2.1, q2.2.1, q2.2.2)))))) else (some ((-1), o_this, o_paces, o_route)))
set_option maxRecDepth 100000 in
set_option maxHeartbeats 4000000 in
theorem c5_run (l : Launch) (D : va_G) (K : Nat → ClassId) (aa : Nat → Nat → Nat) (x0 : Int32) (o_this : ob) (o_now : ob) (o_paces : ob) (o_route : ob) (r : Int32 × ob × ob × ob) (hf : f5_run x0 o_this o_now o_paces o_route = some r) : CTi l yX5_run cX5_run 3 (some .int) 6 155 D K [.ref (aa 0 0), .int x0] [wX5 K aa o_this, wX4 K (aa 2) o_now, wX0 K (aa 5) o_paces, wX2 K (aa 7) o_route] [wX5 K aa r.2.1, wX4 K (aa 2) o_now, wX0 K (aa 5) r.2.2.1, wX2 K (aa 7) r.2.2.2] r.1 := by
  unfold f5_run at hf
  have hf := tob hf
  refine entI (by decide) (Nat.le_of_ble_eq_true rfl) (fun P e s m args below meth c A ls F h hl hin => ?_)
  have hx := F.1
  have hb := F.2.1
  have hl : lv_has ls 3 [(0, .ref (aa 0 0)), (1, .int x0)] := hl
  refine lv_iload_n hx hb dX5_run_0 rfl (lv_at hl 1 rfl) ?_
  refine lv_iconst (v := (-1)) hx hb dX5_run_1 (by decide) ?_
  refine lv_icmp_ge (tgt := 7) hx hb dX5_run_2 (by decide) (fun c1 => ?_) (fun c1 => ?_)
  · have hf := ifp hf c1
    refine lv_aload_n hx hb dX5_run_7 rfl (lv_at hl 0 rfl) ?_
    obtain ⟨q2, h2, hf⟩ := asb hf
    refine r_callVv (As := []) (rest := []) (C0 := [wX5 K aa o_this, wX4 K (aa 2) o_now, wX0 K (aa 5) o_paces, wX2 K (aa 7) o_route]) (C1 := [wX5 K aa q2.1, wX4 K (aa 2) o_now, wX0 K (aa 5) q2.2.1, wX2 K (aa 7) q2.2.2]) (Rr := []) (S' := [wX5 K aa q2.1, wX4 K (aa 2) o_now, wX0 K (aa 5) q2.2.1, wX2 K (aa 7) q2.2.2]) F h hl (c5_renewRoute l D K aa o_this o_now o_paces o_route q2 h2) [0, 1, 2, 3] rfl rfl rfl rfl rfl (i := 0) rfl rfl w586 ⟨w587, w588, w589, w266⟩ hsc5_renewRoute ⟨Nat.le_of_ble_eq_true rfl, Nat.le_of_ble_eq_true rfl⟩ ⟨Nat.le_refl 0, Nat.le_refl 0⟩ (Nat.le_of_ble_eq_true rfl) dX5_run_8 (fun H locs h => ?_)
    refine lv_aload_n hx hb dX5_run_11 rfl (lv_at hl 0 rfl) ?_
    refine r_get F h (i := 0) (k := 13) (.ref ((aa 7) 0)) inX5 rfl (by decide) w525 rfl rfl rfl dX5_run_12 ?_
    obtain ⟨q3, h3, hf⟩ := asb hf
    refine r_callVi (As := []) (rest := []) (C0 := [wX2 K (aa 7) q2.2.2]) (C1 := [wX2 K (aa 7) q2.2.2]) (Rr := [wX5 K aa q2.1, wX4 K (aa 2) o_now, wX0 K (aa 5) q2.2.1]) (S' := [wX5 K aa q2.1, wX4 K (aa 2) o_now, wX0 K (aa 5) q2.2.1, wX2 K (aa 7) q2.2.2]) F h hl (c2_steps l D K (aa 7) q2.2.2 q3 h3) [3, 0, 1, 2] rfl rfl rfl rfl rfl (i := 3) rfl rfl w590 ⟨w591, w592, w593, w452⟩ hsc2_steps ⟨Nat.le_of_ble_eq_true rfl, Nat.le_of_ble_eq_true rfl⟩ ⟨Nat.le_refl 0, Nat.le_refl 0⟩ (Nat.le_of_ble_eq_true rfl) dX5_run_15 (fun H locs h => ?_)
    refine lv_istore_n (lv' := [(2, .int q3), (0, .ref (aa 0 0)), (1, .int x0)]) hx hb dX5_run_18 rfl hl (by decide) rfl (fun ls hl => ?_)
    refine lv_iload_n hx hb dX5_run_19 rfl (lv_at hl 0 rfl) ?_
    refine lv_bipush (v := (-4)) hx hb dX5_run_20 (by decide) ?_
    refine lv_icmp_eq (tgt := 30) hx hb dX5_run_22 (by decide) (fun c4 => ?_) (fun c4 => ?_)
    · have hf := ifp hf c4
      refine lv_bipush (v := (-4)) hx hb dX5_run_30 (by decide) ?_
      obtain rfl := sor hf
      exact r_reti F h dX5_run_32
    · have hf := ifn hf c4
      refine lv_iload_n hx hb dX5_run_25 rfl (lv_at hl 2 rfl) ?_
      refine lv_iload_n hx hb dX5_run_26 rfl (lv_at hl 0 rfl) ?_
      refine lv_icmp_lt (tgt := 33) hx hb dX5_run_27 (by decide) (fun c5 => ?_) (fun c5 => ?_)
      · have hf := ifp hf c5
        refine lv_iload_n hx hb dX5_run_33 rfl (lv_at hl 2 rfl) ?_
        refine lv_iconst (v := (-1)) hx hb dX5_run_34 (by decide) ?_
        refine lv_icmp_ne (tgt := 40) hx hb dX5_run_35 (by decide) (fun c6 => ?_) (fun c6 => ?_)
        · have hf := ifn hf c6
          refine lv_iload_n hx hb dX5_run_40 rfl (lv_at hl 2 rfl) ?_
          refine lv_iconst (v := 1) hx hb dX5_run_41 (by decide) ?_
          refine lv_iadd hx hb dX5_run_42 ?_
          refine lv_aload_n hx hb dX5_run_43 rfl (lv_at hl 1 rfl) ?_
          refine r_get F h (i := 0) (k := 13) (.ref ((aa 7) 0)) inX5 rfl (by decide) w525 rfl rfl rfl dX5_run_44 ?_
          refine r_get F h (i := 3) (k := 6) (.int (q2.2.2.1 6)) inX2 rfl (by decide) w585 rfl rfl rfl dX5_run_47 ?_
          obtain ⟨J7, eJ7, hf⟩ := rgn hf
          have JW7 : ∀ (v7 : ob) (H : Heap) (locs : List Loc) (ls : Array Slot), WD D A s.heap H locs [wX5 K aa q2.1, wX4 K (aa 2) o_now, wX0 K (aa 5) q2.2.1, wX2 K (aa 7) v7] → lv_has ls 3 [(0, .ref (aa 0 0)), (1, .int x0)] → J7 v7 = some r → W P l e (rmS 6 155) s m args below meth c H locs 0 0 (MQ below (QiS D A [wX5 K aa r.2.1, wX4 K (aa 2) o_now, wX0 K (aa 5) r.2.2.1, wX2 K (aa 7) r.2.2.2] r.1) args s 0 0 A) (F0 m 68 ls []) := by
            intro v7 H locs ls h hl hf
            have hf := jof eJ7 hf
            refine lv_aload_n hx hb dX5_run_68 rfl (lv_at hl 0 rfl) ?_
            refine r_get F h (i := 0) (k := 13) (.ref ((aa 7) 0)) inX5 rfl (by decide) w525 rfl rfl rfl dX5_run_69 ?_
            refine lv_iload_n hx hb dX5_run_72 rfl (lv_at hl 1 rfl) ?_
            refine lv_aload_n hx hb dX5_run_73 rfl (lv_at hl 0 rfl) ?_
            refine r_get F h (i := 0) (k := 1) (.ref ((aa 2) 0)) inX5 rfl (by decide) w513 rfl rfl rfl dX5_run_74 ?_
            refine lv_aload_n hx hb dX5_run_77 rfl (lv_at hl 0 rfl) ?_
            refine r_get F h (i := 0) (k := 10) (.ref ((aa 5) 0)) inX5 rfl (by decide) w526 rfl rfl rfl dX5_run_78 ?_
            obtain ⟨q8, h8, hf⟩ := asb hf
            refine r_callVi (As := [.int x0, .ref ((aa 2) 0), .ref ((aa 5) 0)]) (rest := []) (C0 := [wX2 K (aa 7) v7, wX4 K (aa 2) o_now, wX0 K (aa 5) q2.2.1]) (C1 := [wX2 K (aa 7) q8.2, wX4 K (aa 2) o_now, wX0 K (aa 5) q2.2.1]) (Rr := [wX5 K aa q2.1]) (S' := [wX5 K aa q2.1, wX4 K (aa 2) o_now, wX0 K (aa 5) q2.2.1, wX2 K (aa 7) q8.2]) F h hl (c2_ruleAt l D K (aa 7) (aa 2) (aa 5) x0 v7 o_now q2.2.1 q8 h8) [3, 1, 2, 0] rfl rfl rfl rfl rfl (i := 3) rfl rfl w594 ⟨w595, w596, w597, w452⟩ hsc2_ruleAt ⟨Nat.le_of_ble_eq_true rfl, Nat.le_of_ble_eq_true rfl⟩ ⟨Nat.le_refl 0, Nat.le_refl 0⟩ (Nat.le_of_ble_eq_true rfl) dX5_run_81 (fun H locs h => ?_)
            obtain rfl := sor hf
            exact r_reti F h dX5_run_84
          refine lv_icmp_ge (tgt := 68) hx hb dX5_run_50 (by decide) (fun c9 => ?_) (fun c9 => ?_)
          · have hf := ifp hf c9
            exact JW7 q2.2.2 _ _ _ h (lv_sub hl [1, 2] rfl) (sob hf)
          · have hf := ifn hf c9
            refine lv_aload_n hx hb dX5_run_53 rfl (lv_at hl 1 rfl) ?_
            refine r_get F h (i := 0) (k := 13) (.ref ((aa 7) 0)) inX5 rfl (by decide) w525 rfl rfl rfl dX5_run_54 ?_
            refine lv_aload_n hx hb dX5_run_57 rfl (lv_at hl 1 rfl) ?_
            refine r_get F h (i := 0) (k := 1) (.ref ((aa 2) 0)) inX5 rfl (by decide) w513 rfl rfl rfl dX5_run_58 ?_
            refine lv_aload_n hx hb dX5_run_61 rfl (lv_at hl 1 rfl) ?_
            refine r_get F h (i := 0) (k := 10) (.ref ((aa 5) 0)) inX5 rfl (by decide) w526 rfl rfl rfl dX5_run_62 ?_
            obtain ⟨q10, h10, hf⟩ := asb hf
            refine r_callVv (As := [.ref ((aa 2) 0), .ref ((aa 5) 0)]) (rest := []) (C0 := [wX2 K (aa 7) q2.2.2, wX4 K (aa 2) o_now, wX0 K (aa 5) q2.2.1]) (C1 := [wX2 K (aa 7) q10, wX4 K (aa 2) o_now, wX0 K (aa 5) q2.2.1]) (Rr := [wX5 K aa q2.1]) (S' := [wX5 K aa q2.1, wX4 K (aa 2) o_now, wX0 K (aa 5) q2.2.1, wX2 K (aa 7) q10]) F h hl (c2_begin l D K (aa 7) (aa 2) (aa 5) q2.2.2 o_now q2.2.1 q10 h10) [3, 1, 2, 0] rfl rfl rfl rfl rfl (i := 3) rfl rfl w527 ⟨w528, w529, w530, w452⟩ hsc2_begin ⟨Nat.le_of_ble_eq_true rfl, Nat.le_of_ble_eq_true rfl⟩ ⟨Nat.le_refl 0, Nat.le_refl 0⟩ (Nat.le_of_ble_eq_true rfl) dX5_run_65 (fun H locs h => ?_)
            exact JW7 q10 _ _ _ h (lv_sub hl [1, 2] rfl) (sob hf)
        · have hf := ifp hf c6
          refine lv_iload_n hx hb dX5_run_38 rfl (lv_at hl 0 rfl) ?_
          obtain rfl := sor hf
          exact r_reti F h dX5_run_39
      · have hf := ifn hf c5
        refine lv_bipush (v := (-4)) hx hb dX5_run_30 (by decide) ?_
        obtain rfl := sor hf
        exact r_reti F h dX5_run_32
  · have hf := ifn hf c1
    refine lv_iconst (v := (-1)) hx hb dX5_run_5 (by decide) ?_
    obtain rfl := sor hf
    exact r_reti F h dX5_run_6
noncomputable def f5_heads (x0 : Int32) (x1 : Int32) (o_this : ob) (o_now : ob) (o_reach : ob) : Option (Int32 × ob) :=
  (f5_isState x0 o_this o_now).bind fun q1 => (if q1 = 0 then (some ((-1), o_reach)) else ((f5_isLetter x1).bind fun q3 => (if q3 = 0 then (some ((-1), o_reach)) else ((f1_explore o_reach o_now).bind fun q5 => (f1_hasHead x0 x1 q5).bind fun q6 => (if q6 = 0 then (some (0, q5)) else (some (1, q5)))))))
set_option maxRecDepth 100000 in
set_option maxHeartbeats 4000000 in
theorem c5_heads (l : Launch) (D : va_G) (K : Nat → ClassId) (aa : Nat → Nat → Nat) (x0 : Int32) (x1 : Int32) (o_this : ob) (o_now : ob) (o_reach : ob) (r : Int32 × ob) (hf : f5_heads x0 x1 o_this o_now o_reach = some r) : CTi l yX5_heads cX5_heads 3 (some .int) 4 96 D K [.ref (aa 0 0), .int x0, .int x1] [wX5 K aa o_this, wX4 K (aa 2) o_now, wX1 K (aa 8) o_reach] [wX5 K aa o_this, wX4 K (aa 2) o_now, wX1 K (aa 8) r.2] r.1 := by
  unfold f5_heads at hf
  have hf := tob hf
  refine entI (by decide) (Nat.le_of_ble_eq_true rfl) (fun P e s m args below meth c A ls F h hl hin => ?_)
  have hx := F.1
  have hb := F.2.1
  have hl : lv_has ls 3 [(0, .ref (aa 0 0)), (1, .int x0), (2, .int x1)] := hl
  refine lv_aload_n hx hb dX5_heads_0 rfl (lv_at hl 0 rfl) ?_
  refine lv_iload_n hx hb dX5_heads_1 rfl (lv_at hl 1 rfl) ?_
  obtain ⟨q1, h1, hf⟩ := asb hf
  refine r_callVi (As := [.int x0]) (rest := []) (C0 := [wX5 K aa o_this, wX4 K (aa 2) o_now]) (C1 := [wX5 K aa o_this, wX4 K (aa 2) o_now]) (Rr := [wX1 K (aa 8) o_reach]) (S' := [wX5 K aa o_this, wX4 K (aa 2) o_now, wX1 K (aa 8) o_reach]) F h hl (c5_isState l D K aa x0 o_this o_now q1 h1) [0, 1, 2] rfl rfl rfl rfl rfl (i := 0) rfl rfl w602 ⟨w603, w604, w605, w266⟩ hsc5_isState ⟨Nat.le_of_ble_eq_true rfl, Nat.le_of_ble_eq_true rfl⟩ ⟨Nat.le_refl 0, Nat.le_refl 0⟩ (Nat.le_of_ble_eq_true rfl) dX5_heads_2 (fun H locs h => ?_)
  refine lv_if_eq (tgt := 15) hx hb dX5_heads_5 (by decide) (fun c2 => ?_) (fun c2 => ?_)
  · have hf := ifp hf c2
    refine lv_iconst (v := (-1)) hx hb dX5_heads_15 (by decide) ?_
    obtain rfl := sor hf
    exact r_reti F h dX5_heads_16
  · have hf := ifn hf c2
    refine lv_iload_n hx hb dX5_heads_8 rfl (lv_at hl 2 rfl) ?_
    obtain ⟨q3, h3, hf⟩ := asb hf
    refine r_callS (As := [.int x1]) (rest := []) F h hl (c5_isLetter l D K x1 q3 h3) w600 ⟨w598, w599, w266⟩ hsc5_isLetter ⟨Nat.le_of_ble_eq_true rfl, Nat.le_of_ble_eq_true rfl⟩ ⟨Nat.le_refl 0, Nat.le_refl 0⟩ (Nat.le_of_ble_eq_true rfl) dX5_heads_9 (fun H locs h => ?_)
    refine lv_if_ne (tgt := 17) hx hb dX5_heads_12 (by decide) (fun c4 => ?_) (fun c4 => ?_)
    · have hf := ifn hf c4
      refine lv_aload_n hx hb dX5_heads_17 rfl (lv_at hl 0 rfl) ?_
      refine r_get F h (i := 0) (k := 15) (.ref ((aa 8) 0)) inX5 rfl (by decide) w601 rfl rfl rfl dX5_heads_18 ?_
      refine lv_aload_n hx hb dX5_heads_21 rfl (lv_at hl 0 rfl) ?_
      refine r_get F h (i := 0) (k := 1) (.ref ((aa 2) 0)) inX5 rfl (by decide) w513 rfl rfl rfl dX5_heads_22 ?_
      obtain ⟨q5, h5, hf⟩ := asb hf
      refine r_callVv (As := [.ref ((aa 2) 0)]) (rest := []) (C0 := [wX1 K (aa 8) o_reach, wX4 K (aa 2) o_now]) (C1 := [wX1 K (aa 8) q5, wX4 K (aa 2) o_now]) (Rr := [wX5 K aa o_this]) (S' := [wX5 K aa o_this, wX4 K (aa 2) o_now, wX1 K (aa 8) q5]) F h hl (c1_explore l D K (aa 8) (aa 2) o_reach o_now q5 h5) [2, 1, 0] rfl rfl rfl rfl rfl (i := 2) rfl rfl w606 ⟨w607, w608, w609, w480⟩ hsc1_explore ⟨Nat.le_of_ble_eq_true rfl, Nat.le_of_ble_eq_true rfl⟩ ⟨Nat.le_refl 0, Nat.le_refl 0⟩ (Nat.le_of_ble_eq_true rfl) dX5_heads_25 (fun H locs h => ?_)
      refine lv_aload_n hx hb dX5_heads_28 rfl (lv_at hl 0 rfl) ?_
      refine r_get F h (i := 0) (k := 15) (.ref ((aa 8) 0)) inX5 rfl (by decide) w601 rfl rfl rfl dX5_heads_29 ?_
      refine lv_iload_n hx hb dX5_heads_32 rfl (lv_at hl 1 rfl) ?_
      refine lv_iload_n hx hb dX5_heads_33 rfl (lv_at hl 2 rfl) ?_
      obtain ⟨q6, h6, hf⟩ := asb hf
      refine r_callVi (As := [.int x0, .int x1]) (rest := []) (C0 := [wX1 K (aa 8) q5]) (C1 := [wX1 K (aa 8) q5]) (Rr := [wX5 K aa o_this, wX4 K (aa 2) o_now]) (S' := [wX5 K aa o_this, wX4 K (aa 2) o_now, wX1 K (aa 8) q5]) F h hl (c1_hasHead l D K (aa 8) x0 x1 q5 q6 h6) [2, 0, 1] rfl rfl rfl rfl rfl (i := 2) rfl rfl w497 ⟨w610, w499, w500, w480⟩ hsc1_hasHead ⟨Nat.le_of_ble_eq_true rfl, Nat.le_of_ble_eq_true rfl⟩ ⟨Nat.le_refl 0, Nat.le_refl 0⟩ (Nat.le_of_ble_eq_true rfl) dX5_heads_34 (fun H locs h => ?_)
      refine lv_if_eq (tgt := 44) hx hb dX5_heads_37 (by decide) (fun c7 => ?_) (fun c7 => ?_)
      · have hf := ifp hf c7
        refine lv_iconst (v := 0) hx hb dX5_heads_44 (by decide) ?_
        obtain rfl := sor hf
        exact r_reti F h dX5_heads_45
      · have hf := ifn hf c7
        refine lv_iconst (v := 1) hx hb dX5_heads_40 (by decide) ?_
        refine lv_goto (tgt := 45) hx hb dX5_heads_41 (by decide) ?_
        obtain rfl := sor hf
        exact r_reti F h dX5_heads_45
    · have hf := ifp hf c4
      refine lv_iconst (v := (-1)) hx hb dX5_heads_15 (by decide) ?_
      obtain rfl := sor hf
      exact r_reti F h dX5_heads_16
noncomputable def f5_empty (x0 : Int32) (o_this : ob) (o_now : ob) (o_reach : ob) : Option (Int32 × ob) :=
  (f5_isState x0 o_this o_now).bind fun q1 => (if q1 = 0 then (some ((-1), o_reach)) else ((f1_explore o_reach o_now).bind fun q3 => some (((q3.1 2) >>> (x0 &&& 31)) &&& 1, q3)))
set_option maxRecDepth 100000 in
set_option maxHeartbeats 4000000 in
theorem c5_empty (l : Launch) (D : va_G) (K : Nat → ClassId) (aa : Nat → Nat → Nat) (x0 : Int32) (o_this : ob) (o_now : ob) (o_reach : ob) (r : Int32 × ob) (hf : f5_empty x0 o_this o_now o_reach = some r) : CTi l yX5_empty cX5_empty 2 (some .int) 4 96 D K [.ref (aa 0 0), .int x0] [wX5 K aa o_this, wX4 K (aa 2) o_now, wX1 K (aa 8) o_reach] [wX5 K aa o_this, wX4 K (aa 2) o_now, wX1 K (aa 8) r.2] r.1 := by
  unfold f5_empty at hf
  have hf := tob hf
  refine entI (by decide) (Nat.le_of_ble_eq_true rfl) (fun P e s m args below meth c A ls F h hl hin => ?_)
  have hx := F.1
  have hb := F.2.1
  have hl : lv_has ls 2 [(0, .ref (aa 0 0)), (1, .int x0)] := hl
  refine lv_aload_n hx hb dX5_empty_0 rfl (lv_at hl 0 rfl) ?_
  refine lv_iload_n hx hb dX5_empty_1 rfl (lv_at hl 1 rfl) ?_
  obtain ⟨q1, h1, hf⟩ := asb hf
  refine r_callVi (As := [.int x0]) (rest := []) (C0 := [wX5 K aa o_this, wX4 K (aa 2) o_now]) (C1 := [wX5 K aa o_this, wX4 K (aa 2) o_now]) (Rr := [wX1 K (aa 8) o_reach]) (S' := [wX5 K aa o_this, wX4 K (aa 2) o_now, wX1 K (aa 8) o_reach]) F h hl (c5_isState l D K aa x0 o_this o_now q1 h1) [0, 1, 2] rfl rfl rfl rfl rfl (i := 0) rfl rfl w602 ⟨w603, w604, w605, w266⟩ hsc5_isState ⟨Nat.le_of_ble_eq_true rfl, Nat.le_of_ble_eq_true rfl⟩ ⟨Nat.le_refl 0, Nat.le_refl 0⟩ (Nat.le_of_ble_eq_true rfl) dX5_empty_2 (fun H locs h => ?_)
  refine lv_if_ne (tgt := 10) hx hb dX5_empty_5 (by decide) (fun c2 => ?_) (fun c2 => ?_)
  · have hf := ifn hf c2
    refine lv_aload_n hx hb dX5_empty_10 rfl (lv_at hl 0 rfl) ?_
    refine r_get F h (i := 0) (k := 15) (.ref ((aa 8) 0)) inX5 rfl (by decide) w601 rfl rfl rfl dX5_empty_11 ?_
    refine lv_aload_n hx hb dX5_empty_14 rfl (lv_at hl 0 rfl) ?_
    refine r_get F h (i := 0) (k := 1) (.ref ((aa 2) 0)) inX5 rfl (by decide) w513 rfl rfl rfl dX5_empty_15 ?_
    obtain ⟨q3, h3, hf⟩ := asb hf
    refine r_callVv (As := [.ref ((aa 2) 0)]) (rest := []) (C0 := [wX1 K (aa 8) o_reach, wX4 K (aa 2) o_now]) (C1 := [wX1 K (aa 8) q3, wX4 K (aa 2) o_now]) (Rr := [wX5 K aa o_this]) (S' := [wX5 K aa o_this, wX4 K (aa 2) o_now, wX1 K (aa 8) q3]) F h hl (c1_explore l D K (aa 8) (aa 2) o_reach o_now q3 h3) [2, 1, 0] rfl rfl rfl rfl rfl (i := 2) rfl rfl w606 ⟨w607, w608, w609, w480⟩ hsc1_explore ⟨Nat.le_of_ble_eq_true rfl, Nat.le_of_ble_eq_true rfl⟩ ⟨Nat.le_refl 0, Nat.le_refl 0⟩ (Nat.le_of_ble_eq_true rfl) dX5_empty_18 (fun H locs h => ?_)
    refine lv_aload_n hx hb dX5_empty_21 rfl (lv_at hl 0 rfl) ?_
    refine r_get F h (i := 0) (k := 15) (.ref ((aa 8) 0)) inX5 rfl (by decide) w601 rfl rfl rfl dX5_empty_22 ?_
    refine r_get F h (i := 2) (k := 2) (.int (q3.1 2)) inX1 rfl (by decide) w611 rfl rfl rfl dX5_empty_25 ?_
    refine lv_iload_n hx hb dX5_empty_28 rfl (lv_at hl 1 rfl) ?_
    refine lv_ishr hx hb dX5_empty_29 ?_
    refine lv_iconst (v := 1) hx hb dX5_empty_30 (by decide) ?_
    refine lv_iand hx hb dX5_empty_31 ?_
    obtain rfl := sor hf
    exact r_reti F h dX5_empty_32
  · have hf := ifp hf c2
    refine lv_iconst (v := (-1)) hx hb dX5_empty_8 (by decide) ?_
    obtain rfl := sor hf
    exact r_reti F h dX5_empty_9
noncomputable def f5_edge (x0 : Int32) (x1 : Int32) (x2 : Int32) (o_this : ob) (o_now : ob) (o_net : ob) : Option (Int32 × ob × ob) :=
  (f5_renewNet o_this o_now o_net).bind fun q1 => (f0_isNode x0 q1.2).bind fun q2 => (if q2 = 0 then (some ((-1), q1.1, q1.2)) else ((f5_isLetter x1).bind fun q4 => (if q4 = 0 then (some ((-1), q1.1, q1.2)) else ((f0_isNode x2 q1.2).bind fun q6 => (if q6 = 0 then (some ((-1), q1.1, q1.2)) else ((f5_edgeAt x0 x1 x2).bind fun q8 => gd (vin q8 676) <| lt (rL (q1.2.2 4) q8.toNatClampNeg) fun y10 => (if 1000000000000 ≤ y10 then (some ((-4), q1.1, q1.2)) else (some (y10.toInt32, q1.1, q1.2)))))))))
set_option maxRecDepth 100000 in
set_option maxHeartbeats 4000000 in
theorem c5_edge (l : Launch) (D : va_G) (K : Nat → ClassId) (aa : Nat → Nat → Nat) (x0 : Int32) (x1 : Int32) (x2 : Int32) (o_this : ob) (o_now : ob) (o_net : ob) (r : Int32 × ob × ob) (hf : f5_edge x0 x1 x2 o_this o_now o_net = some r) : CTi l yX5_edge cX5_edge 6 (some .int) 6 143 D K [.ref (aa 0 0), .int x0, .int x1, .int x2] [wX5 K aa o_this, wX4 K (aa 2) o_now, wX0 K (aa 4) o_net] [wX5 K aa r.2.1, wX4 K (aa 2) o_now, wX0 K (aa 4) r.2.2] r.1 := by
  unfold f5_edge at hf
  have hf := tob hf
  refine entI (by decide) (Nat.le_of_ble_eq_true rfl) (fun P e s m args below meth c A ls F h hl hin => ?_)
  have hx := F.1
  have hb := F.2.1
  have hl : lv_has ls 6 [(0, .ref (aa 0 0)), (1, .int x0), (2, .int x1), (3, .int x2)] := hl
  refine lv_aload_n hx hb dX5_edge_0 rfl (lv_at hl 0 rfl) ?_
  obtain ⟨q1, h1, hf⟩ := asb hf
  refine r_callVv (As := []) (rest := []) (C0 := [wX5 K aa o_this, wX4 K (aa 2) o_now, wX0 K (aa 4) o_net]) (C1 := [wX5 K aa q1.1, wX4 K (aa 2) o_now, wX0 K (aa 4) q1.2]) (Rr := []) (S' := [wX5 K aa q1.1, wX4 K (aa 2) o_now, wX0 K (aa 4) q1.2]) F h hl (c5_renewNet l D K aa o_this o_now o_net q1 h1) [0, 1, 2] rfl rfl rfl rfl rfl (i := 0) rfl rfl w581 ⟨w582, w583, w584, w266⟩ hsc5_renewNet ⟨Nat.le_of_ble_eq_true rfl, Nat.le_of_ble_eq_true rfl⟩ ⟨Nat.le_refl 0, Nat.le_refl 0⟩ (Nat.le_of_ble_eq_true rfl) dX5_edge_1 (fun H locs h => ?_)
  refine lv_aload_n hx hb dX5_edge_4 rfl (lv_at hl 0 rfl) ?_
  refine r_get F h (i := 0) (k := 8) (.ref ((aa 4) 0)) inX5 rfl (by decide) w519 rfl rfl rfl dX5_edge_5 ?_
  refine lv_iload_n hx hb dX5_edge_8 rfl (lv_at hl 1 rfl) ?_
  obtain ⟨q2, h2, hf⟩ := asb hf
  refine r_callVi (As := [.int x0]) (rest := []) (C0 := [wX0 K (aa 4) q1.2]) (C1 := [wX0 K (aa 4) q1.2]) (Rr := [wX5 K aa q1.1, wX4 K (aa 2) o_now]) (S' := [wX5 K aa q1.1, wX4 K (aa 2) o_now, wX0 K (aa 4) q1.2]) F h hl (c0_isNode l D K (aa 4) x0 q1.2 q2 h2) [2, 0, 1] rfl rfl rfl rfl rfl (i := 2) rfl rfl w615 ⟨w616, w617, w618, w376⟩ hsc0_isNode ⟨Nat.le_of_ble_eq_true rfl, Nat.le_of_ble_eq_true rfl⟩ ⟨Nat.le_refl 0, Nat.le_refl 0⟩ (Nat.le_of_ble_eq_true rfl) dX5_edge_9 (fun H locs h => ?_)
  refine lv_if_eq (tgt := 33) hx hb dX5_edge_12 (by decide) (fun c3 => ?_) (fun c3 => ?_)
  · have hf := ifp hf c3
    refine lv_iconst (v := (-1)) hx hb dX5_edge_33 (by decide) ?_
    obtain rfl := sor hf
    exact r_reti F h dX5_edge_34
  · have hf := ifn hf c3
    refine lv_iload_n hx hb dX5_edge_15 rfl (lv_at hl 2 rfl) ?_
    obtain ⟨q4, h4, hf⟩ := asb hf
    refine r_callS (As := [.int x1]) (rest := []) F h hl (c5_isLetter l D K x1 q4 h4) w600 ⟨w598, w599, w266⟩ hsc5_isLetter ⟨Nat.le_of_ble_eq_true rfl, Nat.le_of_ble_eq_true rfl⟩ ⟨Nat.le_refl 0, Nat.le_refl 0⟩ (Nat.le_of_ble_eq_true rfl) dX5_edge_16 (fun H locs h => ?_)
    refine lv_if_eq (tgt := 33) hx hb dX5_edge_19 (by decide) (fun c5 => ?_) (fun c5 => ?_)
    · have hf := ifp hf c5
      refine lv_iconst (v := (-1)) hx hb dX5_edge_33 (by decide) ?_
      obtain rfl := sor hf
      exact r_reti F h dX5_edge_34
    · have hf := ifn hf c5
      refine lv_aload_n hx hb dX5_edge_22 rfl (lv_at hl 0 rfl) ?_
      refine r_get F h (i := 0) (k := 8) (.ref ((aa 4) 0)) inX5 rfl (by decide) w519 rfl rfl rfl dX5_edge_23 ?_
      refine lv_iload_n hx hb dX5_edge_26 rfl (lv_at hl 3 rfl) ?_
      obtain ⟨q6, h6, hf⟩ := asb hf
      refine r_callVi (As := [.int x2]) (rest := []) (C0 := [wX0 K (aa 4) q1.2]) (C1 := [wX0 K (aa 4) q1.2]) (Rr := [wX5 K aa q1.1, wX4 K (aa 2) o_now]) (S' := [wX5 K aa q1.1, wX4 K (aa 2) o_now, wX0 K (aa 4) q1.2]) F h hl (c0_isNode l D K (aa 4) x2 q1.2 q6 h6) [2, 0, 1] rfl rfl rfl rfl rfl (i := 2) rfl rfl w615 ⟨w616, w617, w618, w376⟩ hsc0_isNode ⟨Nat.le_of_ble_eq_true rfl, Nat.le_of_ble_eq_true rfl⟩ ⟨Nat.le_refl 0, Nat.le_refl 0⟩ (Nat.le_of_ble_eq_true rfl) dX5_edge_27 (fun H locs h => ?_)
      refine lv_if_ne (tgt := 35) hx hb dX5_edge_30 (by decide) (fun c7 => ?_) (fun c7 => ?_)
      · have hf := ifn hf c7
        refine lv_aload_n hx hb dX5_edge_35 rfl (lv_at hl 0 rfl) ?_
        refine r_get F h (i := 0) (k := 8) (.ref ((aa 4) 0)) inX5 rfl (by decide) w519 rfl rfl rfl dX5_edge_36 ?_
        refine r_get F h (i := 2) (k := 4) (.ref ((aa 4) 5)) inX0 rfl (by decide) w612 rfl rfl rfl dX5_edge_39 ?_
        refine lv_iload_n hx hb dX5_edge_42 rfl (lv_at hl 1 rfl) ?_
        refine lv_iload_n hx hb dX5_edge_43 rfl (lv_at hl 2 rfl) ?_
        refine lv_iload_n hx hb dX5_edge_44 rfl (lv_at hl 3 rfl) ?_
        obtain ⟨q8, h8, hf⟩ := asb hf
        refine r_callS (As := [.int x0, .int x1, .int x2]) (rest := [.ref ((aa 4) 5)]) F h hl (c5_edgeAt l D K x0 x1 x2 q8 h8) w367 ⟨w613, w366, w266⟩ hsc5_edgeAt ⟨Nat.le_of_ble_eq_true rfl, Nat.le_of_ble_eq_true rfl⟩ ⟨Nat.le_refl 0, Nat.le_refl 0⟩ (Nat.le_of_ble_eq_true rfl) dX5_edge_45 (fun H locs h => ?_)
        obtain ⟨g9, hf⟩ := gdb hf
        refine r_lald F h (i := 2) (j := 1) rfl rfl (vin_ok g9) dX5_edge_48 ?_
        refine lv_topl (fun y10 e10 => ?_)
        have hf := ltb hf e10
        refine lv_lstore (lv' := [(4, .long y10), (0, .ref (aa 0 0)), (1, .int x0), (2, .int x1), (3, .int x2)]) hx hb dX5_edge_49 hl (by decide) rfl (fun ls hl => ?_)
        refine lv_lload hx hb dX5_edge_51 (lv_at hl 0 rfl) ?_
        refine r_ldc2 F 1000000000000 w614 dX5_edge_53 ?_
        refine W.lcmp hx hb dX5_edge_56 ?_
        refine lv_if_ge (tgt := 66) hx hb dX5_edge_57 (by decide) (fun c11 => ?_) (fun c11 => ?_)
        · have hf := ifp hf ((lg_cmp_ge y10 1000000000000).mp c11)
          refine lv_bipush (v := (-4)) hx hb dX5_edge_66 (by decide) ?_
          obtain rfl := sor hf
          exact r_reti F h dX5_edge_68
        · have hf := ifn hf (fun z => c11 ((lg_cmp_ge y10 1000000000000).mpr z))
          refine lv_lload hx hb dX5_edge_60 (lv_at hl 0 rfl) ?_
          refine lv_l2i hx hb dX5_edge_62 rfl ?_
          refine lv_goto (tgt := 68) hx hb dX5_edge_63 (by decide) ?_
          obtain rfl := sor hf
          exact r_reti F h dX5_edge_68
      · have hf := ifp hf c7
        refine lv_iconst (v := (-1)) hx hb dX5_edge_33 (by decide) ?_
        obtain rfl := sor hf
        exact r_reti F h dX5_edge_34
noncomputable def f5_automaton (x0 : Int32) (o_this : ob) (o_now : ob) (o_net : ob) : Option (Int32 × ob × ob) :=
  (f5_renewNet o_this o_now o_net).bind fun q1 => (if x0 = 0 then (some (q1.2.1 0, q1.1, q1.2)) else (if x0 = 1 then (some (q1.2.1 1, q1.1, q1.2)) else (if x0 = 2 then (some (q1.2.1 2, q1.1, q1.2)) else (if x0 = 3 then (some (q1.2.1 3, q1.1, q1.2)) else (some ((-1), q1.1, q1.2))))))
set_option maxRecDepth 100000 in
set_option maxHeartbeats 4000000 in
theorem c5_automaton (l : Launch) (D : va_G) (K : Nat → ClassId) (aa : Nat → Nat → Nat) (x0 : Int32) (o_this : ob) (o_now : ob) (o_net : ob) (r : Int32 × ob × ob) (hf : f5_automaton x0 o_this o_now o_net = some r) : CTi l yX5_automaton cX5_automaton 2 (some .int) 6 143 D K [.ref (aa 0 0), .int x0] [wX5 K aa o_this, wX4 K (aa 2) o_now, wX0 K (aa 4) o_net] [wX5 K aa r.2.1, wX4 K (aa 2) o_now, wX0 K (aa 4) r.2.2] r.1 := by
  unfold f5_automaton at hf
  have hf := tob hf
  refine entI (by decide) (Nat.le_of_ble_eq_true rfl) (fun P e s m args below meth c A ls F h hl hin => ?_)
  have hx := F.1
  have hb := F.2.1
  have hl : lv_has ls 2 [(0, .ref (aa 0 0)), (1, .int x0)] := hl
  refine lv_aload_n hx hb dX5_automaton_0 rfl (lv_at hl 0 rfl) ?_
  obtain ⟨q1, h1, hf⟩ := asb hf
  refine r_callVv (As := []) (rest := []) (C0 := [wX5 K aa o_this, wX4 K (aa 2) o_now, wX0 K (aa 4) o_net]) (C1 := [wX5 K aa q1.1, wX4 K (aa 2) o_now, wX0 K (aa 4) q1.2]) (Rr := []) (S' := [wX5 K aa q1.1, wX4 K (aa 2) o_now, wX0 K (aa 4) q1.2]) F h hl (c5_renewNet l D K aa o_this o_now o_net q1 h1) [0, 1, 2] rfl rfl rfl rfl rfl (i := 0) rfl rfl w581 ⟨w582, w583, w584, w266⟩ hsc5_renewNet ⟨Nat.le_of_ble_eq_true rfl, Nat.le_of_ble_eq_true rfl⟩ ⟨Nat.le_refl 0, Nat.le_refl 0⟩ (Nat.le_of_ble_eq_true rfl) dX5_automaton_1 (fun H locs h => ?_)
  refine lv_iload_n hx hb dX5_automaton_4 rfl (lv_at hl 1 rfl) ?_
  by_cases c2_0 : x0 = 0
  · have hf := ifp hf c2_0
    refine lv_tableIn (tgt := 36) hx hb dX5_automaton_5 (by rw [c2_0]; decide) (by rw [c2_0]; decide) (by rw [c2_0]; rfl) (by decide) ?_
    refine lv_aload_n hx hb dX5_automaton_36 rfl (lv_at hl 0 rfl) ?_
    refine r_get F h (i := 0) (k := 8) (.ref ((aa 4) 0)) inX5 rfl (by decide) w519 rfl rfl rfl dX5_automaton_37 ?_
    refine r_get F h (i := 2) (k := 0) (.int (q1.2.1 0)) inX0 rfl (by decide) w619 rfl rfl rfl dX5_automaton_40 ?_
    obtain rfl := sor hf
    exact r_reti F h dX5_automaton_43
  have hf := ifn hf c2_0
  by_cases c2_1 : x0 = 1
  · have hf := ifp hf c2_1
    refine lv_tableIn (tgt := 44) hx hb dX5_automaton_5 (by rw [c2_1]; decide) (by rw [c2_1]; decide) (by rw [c2_1]; rfl) (by decide) ?_
    refine lv_aload_n hx hb dX5_automaton_44 rfl (lv_at hl 0 rfl) ?_
    refine r_get F h (i := 0) (k := 8) (.ref ((aa 4) 0)) inX5 rfl (by decide) w519 rfl rfl rfl dX5_automaton_45 ?_
    refine r_get F h (i := 2) (k := 1) (.int (q1.2.1 1)) inX0 rfl (by decide) w620 rfl rfl rfl dX5_automaton_48 ?_
    obtain rfl := sor hf
    exact r_reti F h dX5_automaton_51
  have hf := ifn hf c2_1
  by_cases c2_2 : x0 = 2
  · have hf := ifp hf c2_2
    refine lv_tableIn (tgt := 52) hx hb dX5_automaton_5 (by rw [c2_2]; decide) (by rw [c2_2]; decide) (by rw [c2_2]; rfl) (by decide) ?_
    refine lv_aload_n hx hb dX5_automaton_52 rfl (lv_at hl 0 rfl) ?_
    refine r_get F h (i := 0) (k := 8) (.ref ((aa 4) 0)) inX5 rfl (by decide) w519 rfl rfl rfl dX5_automaton_53 ?_
    refine r_get F h (i := 2) (k := 2) (.int (q1.2.1 2)) inX0 rfl (by decide) w621 rfl rfl rfl dX5_automaton_56 ?_
    obtain rfl := sor hf
    exact r_reti F h dX5_automaton_59
  have hf := ifn hf c2_2
  by_cases c2_3 : x0 = 3
  · have hf := ifp hf c2_3
    refine lv_tableIn (tgt := 60) hx hb dX5_automaton_5 (by rw [c2_3]; decide) (by rw [c2_3]; decide) (by rw [c2_3]; rfl) (by decide) ?_
    refine lv_aload_n hx hb dX5_automaton_60 rfl (lv_at hl 0 rfl) ?_
    refine r_get F h (i := 0) (k := 8) (.ref ((aa 4) 0)) inX5 rfl (by decide) w519 rfl rfl rfl dX5_automaton_61 ?_
    refine r_get F h (i := 2) (k := 3) (.int (q1.2.1 3)) inX0 rfl (by decide) w622 rfl rfl rfl dX5_automaton_64 ?_
    obtain rfl := sor hf
    exact r_reti F h dX5_automaton_67
  have hf := ifn hf c2_3
  refine lv_tableOut (tgt := 68) hx hb dX5_automaton_5 (tab_out_0_3 c2_0 c2_1 c2_2 c2_3) (by decide) ?_
  refine lv_iconst (v := (-1)) hx hb dX5_automaton_68 (by decide) ?_
  obtain rfl := sor hf
  exact r_reti F h dX5_automaton_69
noncomputable def f5_needed_L15 (g1 : ob) (z3 : Int32 × Int32 × ob) : Option (Nat × (Int32 × Int32 × ob)) :=
  (if (g1.1 1) ≤ z3.2.1 then (some (1, (z3.1, z3.2.1, z3.2.2))) else ((f0_build 2 z3.2.1 (-1) z3.2.2 g1).bind fun q5 => (f0_priceOf q5 g1).bind fun q6 => ((if q6.1 = (-4) then (lt (z3.1 ||| (1 <<< (z3.2.1 &&& 31))) fun y10 => some y10) else (some z3.1))).bind fun v7 => lt (z3.2.1 + 1) fun y8 => some (0, (v7, y8, q6.2))))
noncomputable def f5_needed (o_this : ob) (o_now : ob) (o_net : ob) (o_trial : ob) : Option (Int32 × ob × ob × ob) :=
  (f5_price o_this o_now o_net).bind fun q1 => (if q1.1 = (-4) then (some (0, q1.2.1, q1.2.2, o_trial)) else ((wh (f5_needed_L15 o_now) (0, 0, o_trial)).bind fun q3 => some (q3.2.1, q1.2.1, q1.2.2, q3.2.2.2)))
set_option maxRecDepth 100000 in
set_option maxHeartbeats 4000000 in
theorem c5_needed (l : Launch) (D : va_G) (K : Nat → ClassId) (aa : Nat → Nat → Nat) (o_this : ob) (o_now : ob) (o_net : ob) (o_trial : ob) (r : Int32 × ob × ob × ob) (hf : f5_needed o_this o_now o_net o_trial = some r) : CTi l yX5_needed cX5_needed 3 (some .int) 7 163 D K [.ref (aa 0 0)] [wX5 K aa o_this, wX4 K (aa 2) o_now, wX0 K (aa 4) o_net, wX0 K (aa 6) o_trial] [wX5 K aa r.2.1, wX4 K (aa 2) o_now, wX0 K (aa 4) r.2.2.1, wX0 K (aa 6) r.2.2.2] r.1 := by
  unfold f5_needed at hf
  have hf := tob hf
  refine entI (by decide) (Nat.le_of_ble_eq_true rfl) (fun P e s m args below meth c A ls F h hl hin => ?_)
  have hx := F.1
  have hb := F.2.1
  have hl : lv_has ls 3 [(0, .ref (aa 0 0))] := hl
  refine lv_aload_n hx hb dX5_needed_0 rfl (lv_at hl 0 rfl) ?_
  obtain ⟨q1, h1, hf⟩ := asb hf
  refine r_callVi (As := []) (rest := []) (C0 := [wX5 K aa o_this, wX4 K (aa 2) o_now, wX0 K (aa 4) o_net]) (C1 := [wX5 K aa q1.2.1, wX4 K (aa 2) o_now, wX0 K (aa 4) q1.2.2]) (Rr := [wX0 K (aa 6) o_trial]) (S' := [wX5 K aa q1.2.1, wX4 K (aa 2) o_now, wX0 K (aa 4) q1.2.2, wX0 K (aa 6) o_trial]) F h hl (c5_price l D K aa o_this o_now o_net q1 h1) [0, 1, 2, 3] rfl rfl rfl rfl rfl (i := 0) rfl rfl w623 ⟨w624, w625, w626, w266⟩ hsc5_price ⟨Nat.le_of_ble_eq_true rfl, Nat.le_of_ble_eq_true rfl⟩ ⟨Nat.le_refl 0, Nat.le_refl 0⟩ (Nat.le_of_ble_eq_true rfl) dX5_needed_1 (fun H locs h => ?_)
  refine lv_bipush (v := (-4)) hx hb dX5_needed_4 (by decide) ?_
  refine lv_icmp_ne (tgt := 11) hx hb dX5_needed_6 (by decide) (fun c2 => ?_) (fun c2 => ?_)
  · have hf := ifn hf c2
    refine lv_iconst (v := 0) hx hb dX5_needed_11 (by decide) ?_
    refine lv_istore_n (lv' := [(1, .int 0), (0, .ref (aa 0 0))]) hx hb dX5_needed_12 rfl hl (by decide) rfl (fun ls hl => ?_)
    refine lv_iconst (v := 0) hx hb dX5_needed_13 (by decide) ?_
    refine lv_istore_n (lv' := [(2, .int 0), (1, .int 0), (0, .ref (aa 0 0))]) hx hb dX5_needed_14 rfl hl (by decide) rfl (fun ls hl => ?_)
    obtain ⟨q3, hq3, hf⟩ := asb hf
    obtain ⟨nq3, hq3⟩ := wh_out hq3
    have Xq3_1 : ∀ (z3 : Int32 × Int32 × ob) (H : Heap) (locs : List Loc) (ls : Array Slot), q3 = (1, z3) → WD D A s.heap H locs [wX5 K aa q1.2.1, wX4 K (aa 2) o_now, wX0 K (aa 4) q1.2.2, wX0 K (aa 6) z3.2.2] → lv_has ls 3 [(1, .int z3.1)] → W P l e (rmS 7 163) s m args below meth c H locs 0 0 (MQ below (QiS D A [wX5 K aa r.2.1, wX4 K (aa 2) o_now, wX0 K (aa 4) r.2.2.1, wX0 K (aa 6) r.2.2.2] r.1) args s 0 0 A) (F0 m 68 ls []) := by
      intro z3 H locs ls eq3 h hl
      obtain rfl : z3 = q3.2 := by rw [eq3]
      refine lv_iload_n hx hb dX5_needed_68 rfl (lv_at hl 0 rfl) ?_
      obtain rfl := sor hf
      exact r_reti F h dX5_needed_69
    have Lq3 : ∀ (n : Nat) (z3 : Int32 × Int32 × ob) (H : Heap) (locs : List Loc) (ls : Array Slot), iter (f5_needed_L15 o_now) n z3 = some q3 → WD D A s.heap H locs [wX5 K aa q1.2.1, wX4 K (aa 2) o_now, wX0 K (aa 4) q1.2.2, wX0 K (aa 6) z3.2.2] → lv_has ls 3 [(0, .ref (aa 0 0)), (1, .int z3.1), (2, .int z3.2.1)] → W P l e (rmS 7 163) s m args below meth c H locs 0 0 (MQ below (QiS D A [wX5 K aa r.2.1, wX4 K (aa 2) o_now, wX0 K (aa 4) r.2.2.1, wX0 K (aa 6) r.2.2.2] r.1) args s 0 0 A) (F0 m 15 ls []) := by
      intro n
      induction n with
      | zero => intro z3 H locs ls hi; exact (iter_0 hi).elim
      | succ n ihq3 =>
        intro z3 H locs ls hi h hl
        obtain ⟨uq3, hf, huq3⟩ := iter_s hi
        unfold f5_needed_L15 at hf
        have hf := tob hf
        refine lv_iload_n hx hb dX5_needed_15 rfl (lv_at hl 2 rfl) ?_
        refine lv_aload_n hx hb dX5_needed_16 rfl (lv_at hl 0 rfl) ?_
        refine r_get F h (i := 0) (k := 1) (.ref ((aa 2) 0)) inX5 rfl (by decide) w513 rfl rfl rfl dX5_needed_17 ?_
        refine r_get F h (i := 1) (k := 1) (.int (o_now.1 1)) inX4 rfl (by decide) w514 rfl rfl rfl dX5_needed_20 ?_
        refine lv_icmp_ge (tgt := 68) hx hb dX5_needed_23 (by decide) (fun c4 => ?_) (fun c4 => ?_)
        · have hf := ifp hf c4
          exact Xq3_1 _ _ _ _ (itr_x huq3 (sor hf)) h (lv_sub hl [1] rfl)
        · have hf := ifn hf c4
          refine lv_aload_n hx hb dX5_needed_26 rfl (lv_at hl 0 rfl) ?_
          refine r_get F h (i := 0) (k := 12) (.ref ((aa 6) 0)) inX5 rfl (by decide) w531 rfl rfl rfl dX5_needed_27 ?_
          refine lv_aload_n hx hb dX5_needed_30 rfl (lv_at hl 0 rfl) ?_
          refine r_get F h (i := 0) (k := 1) (.ref ((aa 2) 0)) inX5 rfl (by decide) w513 rfl rfl rfl dX5_needed_31 ?_
          refine lv_iconst (v := 2) hx hb dX5_needed_34 (by decide) ?_
          refine lv_iload_n hx hb dX5_needed_35 rfl (lv_at hl 2 rfl) ?_
          refine lv_iconst (v := (-1)) hx hb dX5_needed_36 (by decide) ?_
          obtain ⟨q5, h5, hf⟩ := asb hf
          refine r_callVv (As := [.ref ((aa 2) 0), .int 2, .int z3.2.1, .int (-1)]) (rest := []) (C0 := [wX0 K (aa 6) z3.2.2, wX4 K (aa 2) o_now]) (C1 := [wX0 K (aa 6) q5, wX4 K (aa 2) o_now]) (Rr := [wX5 K aa q1.2.1, wX0 K (aa 4) q1.2.2]) (S' := [wX5 K aa q1.2.1, wX4 K (aa 2) o_now, wX0 K (aa 4) q1.2.2, wX0 K (aa 6) q5]) F h hl (c0_build l D K (aa 6) (aa 2) 2 z3.2.1 (-1) z3.2.2 o_now q5 h5) [3, 1, 0, 2] rfl rfl rfl rfl rfl (i := 3) rfl rfl w521 ⟨w522, w523, w524, w376⟩ hsc0_build ⟨Nat.le_of_ble_eq_true rfl, Nat.le_of_ble_eq_true rfl⟩ ⟨Nat.le_refl 0, Nat.le_refl 0⟩ (Nat.le_of_ble_eq_true rfl) dX5_needed_37 (fun H locs h => ?_)
          refine lv_aload_n hx hb dX5_needed_40 rfl (lv_at hl 0 rfl) ?_
          refine r_get F h (i := 0) (k := 12) (.ref ((aa 6) 0)) inX5 rfl (by decide) w531 rfl rfl rfl dX5_needed_41 ?_
          refine lv_aload_n hx hb dX5_needed_44 rfl (lv_at hl 0 rfl) ?_
          refine r_get F h (i := 0) (k := 1) (.ref ((aa 2) 0)) inX5 rfl (by decide) w513 rfl rfl rfl dX5_needed_45 ?_
          obtain ⟨q6, h6, hf⟩ := asb hf
          refine r_callVi (As := [.ref ((aa 2) 0)]) (rest := []) (C0 := [wX0 K (aa 6) q5, wX4 K (aa 2) o_now]) (C1 := [wX0 K (aa 6) q6.2, wX4 K (aa 2) o_now]) (Rr := [wX5 K aa q1.2.1, wX0 K (aa 4) q1.2.2]) (S' := [wX5 K aa q1.2.1, wX4 K (aa 2) o_now, wX0 K (aa 4) q1.2.2, wX0 K (aa 6) q6.2]) F h hl (c0_priceOf l D K (aa 6) (aa 2) q5 o_now q6 h6) [3, 1, 0, 2] rfl rfl rfl rfl rfl (i := 3) rfl rfl w532 ⟨w533, w534, w535, w376⟩ hsc0_priceOf ⟨Nat.le_of_ble_eq_true rfl, Nat.le_of_ble_eq_true rfl⟩ ⟨Nat.le_refl 0, Nat.le_refl 0⟩ (Nat.le_of_ble_eq_true rfl) dX5_needed_48 (fun H locs h => ?_)
          refine lv_bipush (v := (-4)) hx hb dX5_needed_51 (by decide) ?_
          obtain ⟨J7, eJ7, hf⟩ := rgn hf
          have JW7 : ∀ (v7 : Int32) (H : Heap) (locs : List Loc) (ls : Array Slot), WD D A s.heap H locs [wX5 K aa q1.2.1, wX4 K (aa 2) o_now, wX0 K (aa 4) q1.2.2, wX0 K (aa 6) q6.2] → lv_has ls 3 [(0, .ref (aa 0 0)), (1, .int v7), (2, .int z3.2.1)] → J7 v7 = some uq3 → W P l e (rmS 7 163) s m args below meth c H locs 0 0 (MQ below (QiS D A [wX5 K aa r.2.1, wX4 K (aa 2) o_now, wX0 K (aa 4) r.2.2.1, wX0 K (aa 6) r.2.2.2] r.1) args s 0 0 A) (F0 m 62 ls []) := by
            intro v7 H locs ls h hl hf
            have hf := jof eJ7 hf
            obtain ⟨y8, e8⟩ : ∃ y : Int32, y = z3.2.1 + 1 := ⟨_, rfl⟩
            have hf := ltb hf e8
            refine lv_iinc (v := y8) (lv' := [(2, .int y8), (0, .ref (aa 0 0)), (1, .int v7)]) hx hb dX5_needed_62 hl (k := 2) rfl (by rw [e8]; rfl) (by decide) rfl (fun ls hl => ?_)
            refine lv_goto (tgt := 15) hx hb dX5_needed_65 (by decide) ?_
            exact ihq3 _ _ _ _ (itr_c huq3 (sor hf)) h (lv_sub hl [1, 2, 0] rfl)
          refine lv_icmp_ne (tgt := 62) hx hb dX5_needed_53 (by decide) (fun c9 => ?_) (fun c9 => ?_)
          · have hf := ifn hf c9
            exact JW7 z3.1 _ _ _ h (lv_sub hl [0, 1, 2] rfl) (sob hf)
          · have hf := ifp hf c9
            refine lv_iload_n hx hb dX5_needed_56 rfl (lv_at hl 1 rfl) ?_
            refine lv_iconst (v := 1) hx hb dX5_needed_57 (by decide) ?_
            refine lv_iload_n hx hb dX5_needed_58 rfl (lv_at hl 2 rfl) ?_
            refine lv_ishl hx hb dX5_needed_59 ?_
            refine lv_ior hx hb dX5_needed_60 ?_
            refine lv_topi (fun y10 e10 => ?_)
            have hf := ltb hf e10
            refine lv_istore_n (lv' := [(1, .int y10), (0, .ref (aa 0 0)), (2, .int z3.2.1)]) hx hb dX5_needed_61 rfl hl (by decide) rfl (fun ls hl => ?_)
            exact JW7 y10 _ _ _ h (lv_sub hl [1, 0, 2] rfl) (sob hf)
    exact Lq3 _ _ _ _ _ hq3 h (lv_sub hl [2, 1, 0] rfl)
  · have hf := ifp hf c2
    refine lv_iconst (v := 0) hx hb dX5_needed_9 (by decide) ?_
    obtain rfl := sor hf
    exact r_reti F h dX5_needed_10
noncomputable def f5_dear_L50 (g0 : Int32) (g2 : ob) (g6 : Int32) (g7 : ob) (z9 : Int32 × ob) : Option (Nat × (Int32 × ob)) :=
  (if 9 ≤ z9.1 then (some (2, (z9.1, z9.2))) else ((f5_priceWith g0 z9.1 g7 g2 z9.2).bind fun q11 => (if q11.1 = g6 then (lt (z9.1 + 1) fun y13 => some (0, (y13, q11.2))) else (some (1, (z9.1, q11.2))))))
noncomputable def f5_dear (x0 : Int32) (o_this : ob) (o_now : ob) (o_net : ob) (o_trial : ob) : Option (Int32 × ob × ob × ob) :=
  (f5_isRule x0 o_this o_now).bind fun q1 => (if q1 = 0 then (some ((-1), o_this, o_net, o_trial)) else ((f5_price o_this o_now o_net).bind fun q3 => (if q3.1 = (-4) then (some ((-4), q3.2.1, q3.2.2, o_trial)) else ((f5_priceWith x0 9 q3.2.1 o_now o_trial).bind fun q5 => (if q5.1 = q3.1 then (some (9, q3.2.1, q3.2.2, q5.2)) else (gd (vin x0 10) <| lt ((o_now.2 6 x0.toNatClampNeg) + 1) fun y8 => (wh (f5_dear_L50 x0 o_now q3.1 q3.2.1) (y8, q5.2)).bind fun q9 => (if q9.1 = 1 then (some (q9.2.1 - 1, q3.2.1, q3.2.2, q9.2.2)) else (some (8, q3.2.1, q3.2.2, q9.2.2)))))))))
set_option maxRecDepth 100000 in
set_option maxHeartbeats 4000000 in
theorem c5_dear (l : Launch) (D : va_G) (K : Nat → ClassId) (aa : Nat → Nat → Nat) (x0 : Int32) (o_this : ob) (o_now : ob) (o_net : ob) (o_trial : ob) (r : Int32 × ob × ob × ob) (hf : f5_dear x0 o_this o_now o_net o_trial = some r) : CTi l yX5_dear cX5_dear 4 (some .int) 7 163 D K [.ref (aa 0 0), .int x0] [wX5 K aa o_this, wX4 K (aa 2) o_now, wX0 K (aa 4) o_net, wX0 K (aa 6) o_trial] [wX5 K aa r.2.1, wX4 K (aa 2) o_now, wX0 K (aa 4) r.2.2.1, wX0 K (aa 6) r.2.2.2] r.1 := by
  unfold f5_dear at hf
  have hf := tob hf
  refine entI (by decide) (Nat.le_of_ble_eq_true rfl) (fun P e s m args below meth c A ls F h hl hin => ?_)
  have hx := F.1
  have hb := F.2.1
  have hl : lv_has ls 4 [(0, .ref (aa 0 0)), (1, .int x0)] := hl
  refine lv_aload_n hx hb dX5_dear_0 rfl (lv_at hl 0 rfl) ?_
  refine lv_iload_n hx hb dX5_dear_1 rfl (lv_at hl 1 rfl) ?_
  obtain ⟨q1, h1, hf⟩ := asb hf
  refine r_callVi (As := [.int x0]) (rest := []) (C0 := [wX5 K aa o_this, wX4 K (aa 2) o_now]) (C1 := [wX5 K aa o_this, wX4 K (aa 2) o_now]) (Rr := [wX0 K (aa 4) o_net, wX0 K (aa 6) o_trial]) (S' := [wX5 K aa o_this, wX4 K (aa 2) o_now, wX0 K (aa 4) o_net, wX0 K (aa 6) o_trial]) F h hl (c5_isRule l D K aa x0 o_this o_now q1 h1) [0, 1, 2, 3] rfl rfl rfl rfl rfl (i := 0) rfl rfl w569 ⟨w570, w571, w572, w266⟩ hsc5_isRule ⟨Nat.le_of_ble_eq_true rfl, Nat.le_of_ble_eq_true rfl⟩ ⟨Nat.le_refl 0, Nat.le_refl 0⟩ (Nat.le_of_ble_eq_true rfl) dX5_dear_2 (fun H locs h => ?_)
  refine lv_if_ne (tgt := 10) hx hb dX5_dear_5 (by decide) (fun c2 => ?_) (fun c2 => ?_)
  · have hf := ifn hf c2
    refine lv_aload_n hx hb dX5_dear_10 rfl (lv_at hl 0 rfl) ?_
    obtain ⟨q3, h3, hf⟩ := asb hf
    refine r_callVi (As := []) (rest := []) (C0 := [wX5 K aa o_this, wX4 K (aa 2) o_now, wX0 K (aa 4) o_net]) (C1 := [wX5 K aa q3.2.1, wX4 K (aa 2) o_now, wX0 K (aa 4) q3.2.2]) (Rr := [wX0 K (aa 6) o_trial]) (S' := [wX5 K aa q3.2.1, wX4 K (aa 2) o_now, wX0 K (aa 4) q3.2.2, wX0 K (aa 6) o_trial]) F h hl (c5_price l D K aa o_this o_now o_net q3 h3) [0, 1, 2, 3] rfl rfl rfl rfl rfl (i := 0) rfl rfl w623 ⟨w624, w625, w626, w266⟩ hsc5_price ⟨Nat.le_of_ble_eq_true rfl, Nat.le_of_ble_eq_true rfl⟩ ⟨Nat.le_refl 0, Nat.le_refl 0⟩ (Nat.le_of_ble_eq_true rfl) dX5_dear_11 (fun H locs h => ?_)
    refine lv_istore_n (lv' := [(2, .int q3.1), (0, .ref (aa 0 0)), (1, .int x0)]) hx hb dX5_dear_14 rfl hl (by decide) rfl (fun ls hl => ?_)
    refine lv_iload_n hx hb dX5_dear_15 rfl (lv_at hl 0 rfl) ?_
    refine lv_bipush (v := (-4)) hx hb dX5_dear_16 (by decide) ?_
    refine lv_icmp_ne (tgt := 24) hx hb dX5_dear_18 (by decide) (fun c4 => ?_) (fun c4 => ?_)
    · have hf := ifn hf c4
      refine lv_aload_n hx hb dX5_dear_24 rfl (lv_at hl 1 rfl) ?_
      refine lv_iload_n hx hb dX5_dear_25 rfl (lv_at hl 2 rfl) ?_
      refine lv_bipush (v := 9) hx hb dX5_dear_26 (by decide) ?_
      obtain ⟨q5, h5, hf⟩ := asb hf
      refine r_callVi (As := [.int x0, .int 9]) (rest := []) (C0 := [wX5 K aa q3.2.1, wX4 K (aa 2) o_now, wX0 K (aa 6) o_trial]) (C1 := [wX5 K aa q3.2.1, wX4 K (aa 2) o_now, wX0 K (aa 6) q5.2]) (Rr := [wX0 K (aa 4) q3.2.2]) (S' := [wX5 K aa q3.2.1, wX4 K (aa 2) o_now, wX0 K (aa 4) q3.2.2, wX0 K (aa 6) q5.2]) F h hl (c5_priceWith l D K aa x0 9 q3.2.1 o_now o_trial q5 h5) [0, 1, 3, 2] rfl rfl rfl rfl rfl (i := 0) rfl rfl w627 ⟨w628, w629, w630, w266⟩ hsc5_priceWith ⟨Nat.le_of_ble_eq_true rfl, Nat.le_of_ble_eq_true rfl⟩ ⟨Nat.le_refl 0, Nat.le_refl 0⟩ (Nat.le_of_ble_eq_true rfl) dX5_dear_28 (fun H locs h => ?_)
      refine lv_iload_n hx hb dX5_dear_31 rfl (lv_at hl 0 rfl) ?_
      refine lv_icmp_ne (tgt := 38) hx hb dX5_dear_32 (by decide) (fun c6 => ?_) (fun c6 => ?_)
      · have hf := ifn hf c6
        refine lv_aload_n hx hb dX5_dear_38 rfl (lv_at hl 1 rfl) ?_
        refine r_get F h (i := 0) (k := 1) (.ref ((aa 2) 0)) inX5 rfl (by decide) w513 rfl rfl rfl dX5_dear_39 ?_
        refine r_get F h (i := 1) (k := 6) (.ref ((aa 2) 7)) inX4 rfl (by decide) w568 rfl rfl rfl dX5_dear_42 ?_
        refine lv_iload_n hx hb dX5_dear_45 rfl (lv_at hl 2 rfl) ?_
        obtain ⟨g7, hf⟩ := gdb hf
        refine r_iald F h (i := 1) (j := 5) rfl rfl (vin_ok g7) dX5_dear_46 ?_
        refine lv_iconst (v := 1) hx hb dX5_dear_47 (by decide) ?_
        refine lv_iadd hx hb dX5_dear_48 ?_
        refine lv_topi (fun y8 e8 => ?_)
        have hf := ltb hf e8
        refine lv_istore_n (lv' := [(3, .int y8), (2, .int q3.1), (0, .ref (aa 0 0)), (1, .int x0)]) hx hb dX5_dear_49 rfl hl (by decide) rfl (fun ls hl => ?_)
        obtain ⟨q9, hq9, hf⟩ := asb hf
        obtain ⟨nq9, hq9⟩ := wh_out hq9
        have Xq9_1 : ∀ (z9 : Int32 × ob) (H : Heap) (locs : List Loc) (ls : Array Slot), q9 = (1, z9) → WD D A s.heap H locs [wX5 K aa q3.2.1, wX4 K (aa 2) o_now, wX0 K (aa 4) q3.2.2, wX0 K (aa 6) z9.2] → lv_has ls 4 [(3, .int z9.1)] → W P l e (rmS 7 163) s m args below meth c H locs 0 0 (MQ below (QiS D A [wX5 K aa r.2.1, wX4 K (aa 2) o_now, wX0 K (aa 4) r.2.2.1, wX0 K (aa 6) r.2.2.2] r.1) args s 0 0 A) (F0 m 66 ls []) := by
          intro z9 H locs ls eq9 h hl
          obtain rfl : z9 = q9.2 := by rw [eq9]
          have hf := ifp hf (show q9.1 = 1 by rw [eq9])
          refine lv_iload_n hx hb dX5_dear_66 rfl (lv_at hl 0 rfl) ?_
          refine lv_iconst (v := 1) hx hb dX5_dear_67 (by decide) ?_
          refine lv_isub hx hb dX5_dear_68 ?_
          obtain rfl := sor hf
          exact r_reti F h dX5_dear_69
        have Xq9_2 : ∀ (z9 : Int32 × ob) (H : Heap) (locs : List Loc) (ls : Array Slot), q9 = (2, z9) → WD D A s.heap H locs [wX5 K aa q3.2.1, wX4 K (aa 2) o_now, wX0 K (aa 4) q3.2.2, wX0 K (aa 6) z9.2] → lv_has ls 4 [] → W P l e (rmS 7 163) s m args below meth c H locs 0 0 (MQ below (QiS D A [wX5 K aa r.2.1, wX4 K (aa 2) o_now, wX0 K (aa 4) r.2.2.1, wX0 K (aa 6) r.2.2.2] r.1) args s 0 0 A) (F0 m 76 ls []) := by
          intro z9 H locs ls eq9 h hl
          obtain rfl : z9 = q9.2 := by rw [eq9]
          have hf := ifn hf (show ¬ q9.1 = 1 by rw [show q9.1 = 2 by rw [eq9]]; decide)
          refine lv_bipush (v := 8) hx hb dX5_dear_76 (by decide) ?_
          obtain rfl := sor hf
          exact r_reti F h dX5_dear_78
        have Lq9 : ∀ (n : Nat) (z9 : Int32 × ob) (H : Heap) (locs : List Loc) (ls : Array Slot), iter (f5_dear_L50 x0 o_now q3.1 q3.2.1) n z9 = some q9 → WD D A s.heap H locs [wX5 K aa q3.2.1, wX4 K (aa 2) o_now, wX0 K (aa 4) q3.2.2, wX0 K (aa 6) z9.2] → lv_has ls 4 [(0, .ref (aa 0 0)), (1, .int x0), (2, .int q3.1), (3, .int z9.1)] → W P l e (rmS 7 163) s m args below meth c H locs 0 0 (MQ below (QiS D A [wX5 K aa r.2.1, wX4 K (aa 2) o_now, wX0 K (aa 4) r.2.2.1, wX0 K (aa 6) r.2.2.2] r.1) args s 0 0 A) (F0 m 50 ls []) := by
          intro n
          induction n with
          | zero => intro z9 H locs ls hi; exact (iter_0 hi).elim
          | succ n ihq9 =>
            intro z9 H locs ls hi h hl
            obtain ⟨uq9, hf, huq9⟩ := iter_s hi
            unfold f5_dear_L50 at hf
            have hf := tob hf
            refine lv_iload_n hx hb dX5_dear_50 rfl (lv_at hl 3 rfl) ?_
            refine lv_bipush (v := 9) hx hb dX5_dear_51 (by decide) ?_
            refine lv_icmp_ge (tgt := 76) hx hb dX5_dear_53 (by decide) (fun c10 => ?_) (fun c10 => ?_)
            · have hf := ifp hf c10
              exact Xq9_2 _ _ _ _ (itr_x huq9 (sor hf)) h (lv_sub hl [] rfl)
            · have hf := ifn hf c10
              refine lv_aload_n hx hb dX5_dear_56 rfl (lv_at hl 0 rfl) ?_
              refine lv_iload_n hx hb dX5_dear_57 rfl (lv_at hl 1 rfl) ?_
              refine lv_iload_n hx hb dX5_dear_58 rfl (lv_at hl 3 rfl) ?_
              obtain ⟨q11, h11, hf⟩ := asb hf
              refine r_callVi (As := [.int x0, .int z9.1]) (rest := []) (C0 := [wX5 K aa q3.2.1, wX4 K (aa 2) o_now, wX0 K (aa 6) z9.2]) (C1 := [wX5 K aa q3.2.1, wX4 K (aa 2) o_now, wX0 K (aa 6) q11.2]) (Rr := [wX0 K (aa 4) q3.2.2]) (S' := [wX5 K aa q3.2.1, wX4 K (aa 2) o_now, wX0 K (aa 4) q3.2.2, wX0 K (aa 6) q11.2]) F h hl (c5_priceWith l D K aa x0 z9.1 q3.2.1 o_now z9.2 q11 h11) [0, 1, 3, 2] rfl rfl rfl rfl rfl (i := 0) rfl rfl w627 ⟨w628, w629, w630, w266⟩ hsc5_priceWith ⟨Nat.le_of_ble_eq_true rfl, Nat.le_of_ble_eq_true rfl⟩ ⟨Nat.le_refl 0, Nat.le_refl 0⟩ (Nat.le_of_ble_eq_true rfl) dX5_dear_59 (fun H locs h => ?_)
              refine lv_iload_n hx hb dX5_dear_62 rfl (lv_at hl 2 rfl) ?_
              refine lv_icmp_eq (tgt := 70) hx hb dX5_dear_63 (by decide) (fun c12 => ?_) (fun c12 => ?_)
              · have hf := ifp hf c12
                obtain ⟨y13, e13⟩ : ∃ y : Int32, y = z9.1 + 1 := ⟨_, rfl⟩
                have hf := ltb hf e13
                refine lv_iinc (v := y13) (lv' := [(3, .int y13), (0, .ref (aa 0 0)), (1, .int x0), (2, .int q3.1)]) hx hb dX5_dear_70 hl (k := 3) rfl (by rw [e13]; rfl) (by decide) rfl (fun ls hl => ?_)
                refine lv_goto (tgt := 50) hx hb dX5_dear_73 (by decide) ?_
                exact ihq9 _ _ _ _ (itr_c huq9 (sor hf)) h (lv_sub hl [1, 2, 3, 0] rfl)
              · have hf := ifn hf c12
                exact Xq9_1 _ _ _ _ (itr_x huq9 (sor hf)) h (lv_sub hl [3] rfl)
        exact Lq9 _ _ _ _ _ hq9 h (lv_sub hl [2, 3, 1, 0] rfl)
      · have hf := ifp hf c6
        refine lv_bipush (v := 9) hx hb dX5_dear_35 (by decide) ?_
        obtain rfl := sor hf
        exact r_reti F h dX5_dear_37
    · have hf := ifp hf c4
      refine lv_bipush (v := (-4)) hx hb dX5_dear_21 (by decide) ?_
      obtain rfl := sor hf
      exact r_reti F h dX5_dear_23
  · have hf := ifp hf c2
    refine lv_iconst (v := (-1)) hx hb dX5_dear_8 (by decide) ?_
    obtain rfl := sor hf
    exact r_reti F h dX5_dear_9
noncomputable def f5_walk_L50 (g0 : Int32) (g1 : Int32) (z8 : Int32 × Int32 × ob) : Option (Nat × (Int32 × Int32 × ob)) :=
  (if g1 ≤ z8.2.1 then (some (2, (z8.1, z8.2.1, z8.2.2))) else ((f5_drawn g0 z8.2.1).bind fun q14 => (f4_choose q14 z8.2.2).bind fun q15 => (if q15 = (-1) then (some (2, (z8.1, z8.2.1, z8.2.2))) else ((f4_heightAfter q15 z8.2.2).bind fun q17 => (if q17 ≤ 12 then ((f4_apply q15 z8.2.2).bind fun q19 => lt (z8.1 + 1) fun y20 => lt (z8.2.1 + 1) fun y21 => some (0, (y20, y21, q19))) else (some (1, (z8.1, z8.2.1, z8.2.2))))))))
noncomputable def f5_walk (x0 : Int32) (x1 : Int32) (x2 : Int32) (o_this : ob) (o_now : ob) (o_draft : ob) : Option (Int32 × ob) :=
  (if x0 < 0 then (some ((-1), o_draft)) else ((if 9999 < x0 then (some ((-1), o_draft)) else ((if x1 < 1 then (some ((-1), o_draft)) else ((if 60 < x1 then (some ((-1), o_draft)) else ((if x2 < 0 then (some ((-1), o_draft)) else ((if x2 ≤ 2 then ((f4_copyFrom o_draft o_now).bind fun q7 => (wh (f5_walk_L50 x0 x1) (0, 0, q7)).bind fun q8 => (if q8.1 = 1 then ((if x2 = 0 then (some (q8.2.1, q8.2.2.2)) else ((if x2 = 1 then (some (q8.2.2.2.1 14, q8.2.2.2)) else (some (q8.2.2.2.1 13, q8.2.2.2)))))) else ((if x2 = 0 then (some (q8.2.1, q8.2.2.2)) else ((if x2 = 1 then (some (q8.2.2.2.1 14, q8.2.2.2)) else (some (q8.2.2.2.1 13, q8.2.2.2)))))))) else (some ((-1), o_draft)))))))))))))
set_option maxRecDepth 100000 in
set_option maxHeartbeats 4000000 in
theorem c5_walk (l : Launch) (D : va_G) (K : Nat → ClassId) (aa : Nat → Nat → Nat) (x0 : Int32) (x1 : Int32) (x2 : Int32) (o_this : ob) (o_now : ob) (o_draft : ob) (r : Int32 × ob) (hf : f5_walk x0 x1 x2 o_this o_now o_draft = some r) : CTi l yX5_walk cX5_walk 7 (some .int) 2 62 D K [.ref (aa 0 0), .int x0, .int x1, .int x2] [wX5 K aa o_this, wX4 K (aa 2) o_now, wX4 K (aa 3) o_draft] [wX5 K aa o_this, wX4 K (aa 2) o_now, wX4 K (aa 3) r.2] r.1 := by
  unfold f5_walk at hf
  have hf := tob hf
  refine entI (by decide) (Nat.le_of_ble_eq_true rfl) (fun P e s m args below meth c A ls F h hl hin => ?_)
  have hx := F.1
  have hb := F.2.1
  have hl : lv_has ls 7 [(0, .ref (aa 0 0)), (1, .int x0), (2, .int x1), (3, .int x2)] := hl
  refine lv_iload_n hx hb dX5_walk_0 rfl (lv_at hl 1 rfl) ?_
  refine lv_if_lt (tgt := 31) hx hb dX5_walk_1 (by decide) (fun c1 => ?_) (fun c1 => ?_)
  · have hf := ifp hf c1
    refine lv_iconst (v := (-1)) hx hb dX5_walk_31 (by decide) ?_
    obtain rfl := sor hf
    exact r_reti F h dX5_walk_32
  · have hf := ifn hf c1
    refine lv_iload_n hx hb dX5_walk_4 rfl (lv_at hl 1 rfl) ?_
    refine lv_sipush (v := 9999) hx hb dX5_walk_5 (by decide) ?_
    refine lv_icmp_gt (tgt := 31) hx hb dX5_walk_8 (by decide) (fun c2 => ?_) (fun c2 => ?_)
    · have hf := ifp hf c2
      refine lv_iconst (v := (-1)) hx hb dX5_walk_31 (by decide) ?_
      obtain rfl := sor hf
      exact r_reti F h dX5_walk_32
    · have hf := ifn hf c2
      refine lv_iload_n hx hb dX5_walk_11 rfl (lv_at hl 2 rfl) ?_
      refine lv_iconst (v := 1) hx hb dX5_walk_12 (by decide) ?_
      refine lv_icmp_lt (tgt := 31) hx hb dX5_walk_13 (by decide) (fun c3 => ?_) (fun c3 => ?_)
      · have hf := ifp hf c3
        refine lv_iconst (v := (-1)) hx hb dX5_walk_31 (by decide) ?_
        obtain rfl := sor hf
        exact r_reti F h dX5_walk_32
      · have hf := ifn hf c3
        refine lv_iload_n hx hb dX5_walk_16 rfl (lv_at hl 2 rfl) ?_
        refine lv_bipush (v := 60) hx hb dX5_walk_17 (by decide) ?_
        refine lv_icmp_gt (tgt := 31) hx hb dX5_walk_19 (by decide) (fun c4 => ?_) (fun c4 => ?_)
        · have hf := ifp hf c4
          refine lv_iconst (v := (-1)) hx hb dX5_walk_31 (by decide) ?_
          obtain rfl := sor hf
          exact r_reti F h dX5_walk_32
        · have hf := ifn hf c4
          refine lv_iload_n hx hb dX5_walk_22 rfl (lv_at hl 3 rfl) ?_
          refine lv_if_lt (tgt := 31) hx hb dX5_walk_23 (by decide) (fun c5 => ?_) (fun c5 => ?_)
          · have hf := ifp hf c5
            refine lv_iconst (v := (-1)) hx hb dX5_walk_31 (by decide) ?_
            obtain rfl := sor hf
            exact r_reti F h dX5_walk_32
          · have hf := ifn hf c5
            refine lv_iload_n hx hb dX5_walk_26 rfl (lv_at hl 3 rfl) ?_
            refine lv_iconst (v := 2) hx hb dX5_walk_27 (by decide) ?_
            refine lv_icmp_le (tgt := 33) hx hb dX5_walk_28 (by decide) (fun c6 => ?_) (fun c6 => ?_)
            · have hf := ifp hf c6
              refine lv_aload_n hx hb dX5_walk_33 rfl (lv_at hl 0 rfl) ?_
              refine r_get F h (i := 0) (k := 2) (.ref ((aa 3) 0)) inX5 rfl (by decide) w546 rfl rfl rfl dX5_walk_34 ?_
              refine lv_aload_n hx hb dX5_walk_37 rfl (lv_at hl 0 rfl) ?_
              refine r_get F h (i := 0) (k := 1) (.ref ((aa 2) 0)) inX5 rfl (by decide) w513 rfl rfl rfl dX5_walk_38 ?_
              obtain ⟨q7, h7, hf⟩ := asb hf
              refine r_callVv (As := [.ref ((aa 2) 0)]) (rest := []) (C0 := [wX4 K (aa 3) o_draft, wX4 K (aa 2) o_now]) (C1 := [wX4 K (aa 3) q7, wX4 K (aa 2) o_now]) (Rr := [wX5 K aa o_this]) (S' := [wX5 K aa o_this, wX4 K (aa 2) o_now, wX4 K (aa 3) q7]) F h hl (c4_copyFrom l D K (aa 3) (aa 2) o_draft o_now q7 h7) [2, 1, 0] rfl rfl rfl rfl rfl (i := 2) rfl rfl w553 ⟨w554, w555, w556, w276⟩ hsc4_copyFrom ⟨Nat.le_of_ble_eq_true rfl, Nat.le_of_ble_eq_true rfl⟩ ⟨Nat.le_refl 0, Nat.le_refl 0⟩ (Nat.le_of_ble_eq_true rfl) dX5_walk_41 (fun H locs h => ?_)
              refine lv_iconst (v := 0) hx hb dX5_walk_44 (by decide) ?_
              refine lv_istore (lv' := [(4, .int 0), (0, .ref (aa 0 0)), (1, .int x0), (2, .int x1), (3, .int x2)]) hx hb dX5_walk_45 hl (by decide) rfl (fun ls hl => ?_)
              refine lv_iconst (v := 0) hx hb dX5_walk_47 (by decide) ?_
              refine lv_istore (lv' := [(5, .int 0), (4, .int 0), (0, .ref (aa 0 0)), (1, .int x0), (2, .int x1), (3, .int x2)]) hx hb dX5_walk_48 hl (by decide) rfl (fun ls hl => ?_)
              obtain ⟨q8, hq8, hf⟩ := asb hf
              obtain ⟨nq8, hq8⟩ := wh_out hq8
              have Xq8_1 : ∀ (z8 : Int32 × Int32 × ob) (H : Heap) (locs : List Loc) (ls : Array Slot), q8 = (1, z8) → WD D A s.heap H locs [wX5 K aa o_this, wX4 K (aa 2) o_now, wX4 K (aa 3) z8.2.2] → lv_has ls 7 [(0, .ref (aa 0 0)), (3, .int x2), (4, .int z8.1)] → W P l e (rmS 2 62) s m args below meth c H locs 0 0 (MQ below (QiS D A [wX5 K aa o_this, wX4 K (aa 2) o_now, wX4 K (aa 3) r.2] r.1) args s 0 0 A) (F0 m 91 ls []) := by
                intro z8 H locs ls eq8 h hl
                obtain rfl : z8 = q8.2 := by rw [eq8]
                have hf := ifp hf (show q8.1 = 1 by rw [eq8])
                refine lv_goto (tgt := 112) hx hb dX5_walk_91 (by decide) ?_
                refine lv_iload_n hx hb dX5_walk_112 rfl (lv_at hl 1 rfl) ?_
                refine lv_if_ne (tgt := 119) hx hb dX5_walk_113 (by decide) (fun c9 => ?_) (fun c9 => ?_)
                · have hf := ifn hf c9
                  refine lv_iload_n hx hb dX5_walk_119 rfl (lv_at hl 1 rfl) ?_
                  refine lv_iconst (v := 1) hx hb dX5_walk_120 (by decide) ?_
                  refine lv_icmp_ne (tgt := 134) hx hb dX5_walk_121 (by decide) (fun c10 => ?_) (fun c10 => ?_)
                  · have hf := ifn hf c10
                    refine lv_aload_n hx hb dX5_walk_134 rfl (lv_at hl 0 rfl) ?_
                    refine r_get F h (i := 0) (k := 2) (.ref ((aa 3) 0)) inX5 rfl (by decide) w546 rfl rfl rfl dX5_walk_135 ?_
                    refine r_get F h (i := 2) (k := 13) (.int (q8.2.2.2.1 13)) inX4 rfl (by decide) w580 rfl rfl rfl dX5_walk_138 ?_
                    obtain rfl := sor hf
                    exact r_reti F h dX5_walk_141
                  · have hf := ifp hf c10
                    refine lv_aload_n hx hb dX5_walk_124 rfl (lv_at hl 0 rfl) ?_
                    refine r_get F h (i := 0) (k := 2) (.ref ((aa 3) 0)) inX5 rfl (by decide) w546 rfl rfl rfl dX5_walk_125 ?_
                    refine r_get F h (i := 2) (k := 14) (.int (q8.2.2.2.1 14)) inX4 rfl (by decide) w578 rfl rfl rfl dX5_walk_128 ?_
                    refine lv_goto (tgt := 141) hx hb dX5_walk_131 (by decide) ?_
                    obtain rfl := sor hf
                    exact r_reti F h dX5_walk_141
                · have hf := ifp hf c9
                  refine lv_iload hx hb dX5_walk_116 (lv_at hl 2 rfl) ?_
                  obtain rfl := sor hf
                  exact r_reti F h dX5_walk_118
              have Xq8_2 : ∀ (z8 : Int32 × Int32 × ob) (H : Heap) (locs : List Loc) (ls : Array Slot), q8 = (2, z8) → WD D A s.heap H locs [wX5 K aa o_this, wX4 K (aa 2) o_now, wX4 K (aa 3) z8.2.2] → lv_has ls 7 [(0, .ref (aa 0 0)), (3, .int x2), (4, .int z8.1)] → W P l e (rmS 2 62) s m args below meth c H locs 0 0 (MQ below (QiS D A [wX5 K aa o_this, wX4 K (aa 2) o_now, wX4 K (aa 3) r.2] r.1) args s 0 0 A) (F0 m 112 ls []) := by
                intro z8 H locs ls eq8 h hl
                obtain rfl : z8 = q8.2 := by rw [eq8]
                have hf := ifn hf (show ¬ q8.1 = 1 by rw [show q8.1 = 2 by rw [eq8]]; decide)
                refine lv_iload_n hx hb dX5_walk_112 rfl (lv_at hl 1 rfl) ?_
                refine lv_if_ne (tgt := 119) hx hb dX5_walk_113 (by decide) (fun c11 => ?_) (fun c11 => ?_)
                · have hf := ifn hf c11
                  refine lv_iload_n hx hb dX5_walk_119 rfl (lv_at hl 1 rfl) ?_
                  refine lv_iconst (v := 1) hx hb dX5_walk_120 (by decide) ?_
                  refine lv_icmp_ne (tgt := 134) hx hb dX5_walk_121 (by decide) (fun c12 => ?_) (fun c12 => ?_)
                  · have hf := ifn hf c12
                    refine lv_aload_n hx hb dX5_walk_134 rfl (lv_at hl 0 rfl) ?_
                    refine r_get F h (i := 0) (k := 2) (.ref ((aa 3) 0)) inX5 rfl (by decide) w546 rfl rfl rfl dX5_walk_135 ?_
                    refine r_get F h (i := 2) (k := 13) (.int (q8.2.2.2.1 13)) inX4 rfl (by decide) w580 rfl rfl rfl dX5_walk_138 ?_
                    obtain rfl := sor hf
                    exact r_reti F h dX5_walk_141
                  · have hf := ifp hf c12
                    refine lv_aload_n hx hb dX5_walk_124 rfl (lv_at hl 0 rfl) ?_
                    refine r_get F h (i := 0) (k := 2) (.ref ((aa 3) 0)) inX5 rfl (by decide) w546 rfl rfl rfl dX5_walk_125 ?_
                    refine r_get F h (i := 2) (k := 14) (.int (q8.2.2.2.1 14)) inX4 rfl (by decide) w578 rfl rfl rfl dX5_walk_128 ?_
                    refine lv_goto (tgt := 141) hx hb dX5_walk_131 (by decide) ?_
                    obtain rfl := sor hf
                    exact r_reti F h dX5_walk_141
                · have hf := ifp hf c11
                  refine lv_iload hx hb dX5_walk_116 (lv_at hl 2 rfl) ?_
                  obtain rfl := sor hf
                  exact r_reti F h dX5_walk_118
              have Lq8 : ∀ (n : Nat) (z8 : Int32 × Int32 × ob) (H : Heap) (locs : List Loc) (ls : Array Slot), iter (f5_walk_L50 x0 x1) n z8 = some q8 → WD D A s.heap H locs [wX5 K aa o_this, wX4 K (aa 2) o_now, wX4 K (aa 3) z8.2.2] → lv_has ls 7 [(0, .ref (aa 0 0)), (1, .int x0), (2, .int x1), (3, .int x2), (4, .int z8.1), (5, .int z8.2.1)] → W P l e (rmS 2 62) s m args below meth c H locs 0 0 (MQ below (QiS D A [wX5 K aa o_this, wX4 K (aa 2) o_now, wX4 K (aa 3) r.2] r.1) args s 0 0 A) (F0 m 50 ls []) := by
                intro n
                induction n with
                | zero => intro z8 H locs ls hi; exact (iter_0 hi).elim
                | succ n ihq8 =>
                  intro z8 H locs ls hi h hl
                  obtain ⟨uq8, hf, huq8⟩ := iter_s hi
                  unfold f5_walk_L50 at hf
                  have hf := tob hf
                  refine lv_iload hx hb dX5_walk_50 (lv_at hl 5 rfl) ?_
                  refine lv_iload_n hx hb dX5_walk_52 rfl (lv_at hl 2 rfl) ?_
                  refine lv_icmp_ge (tgt := 112) hx hb dX5_walk_53 (by decide) (fun c13 => ?_) (fun c13 => ?_)
                  · have hf := ifp hf c13
                    exact Xq8_2 _ _ _ _ (itr_x huq8 (sor hf)) h (lv_sub hl [0, 3, 4] rfl)
                  · have hf := ifn hf c13
                    refine lv_aload_n hx hb dX5_walk_56 rfl (lv_at hl 0 rfl) ?_
                    refine r_get F h (i := 0) (k := 2) (.ref ((aa 3) 0)) inX5 rfl (by decide) w546 rfl rfl rfl dX5_walk_57 ?_
                    refine lv_iload_n hx hb dX5_walk_60 rfl (lv_at hl 1 rfl) ?_
                    refine lv_iload hx hb dX5_walk_61 (lv_at hl 5 rfl) ?_
                    obtain ⟨q14, h14, hf⟩ := asb hf
                    refine r_callS (As := [.int x0, .int z8.2.1]) (rest := [.ref ((aa 3) 0)]) F h hl (c5_drawn l D K x0 z8.2.1 q14 h14) w633 ⟨w631, w632, w266⟩ hsc5_drawn ⟨Nat.le_of_ble_eq_true rfl, Nat.le_of_ble_eq_true rfl⟩ ⟨Nat.le_refl 0, Nat.le_refl 0⟩ (Nat.le_of_ble_eq_true rfl) dX5_walk_63 (fun H locs h => ?_)
                    obtain ⟨q15, h15, hf⟩ := asb hf
                    refine r_callVi (As := [.int q14]) (rest := []) (C0 := [wX4 K (aa 3) z8.2.2]) (C1 := [wX4 K (aa 3) z8.2.2]) (Rr := [wX5 K aa o_this, wX4 K (aa 2) o_now]) (S' := [wX5 K aa o_this, wX4 K (aa 2) o_now, wX4 K (aa 3) z8.2.2]) F h hl (c4_choose l D K (aa 3) q14 z8.2.2 q15 h15) [2, 0, 1] rfl rfl rfl rfl rfl (i := 2) rfl rfl w634 ⟨w635, w636, w637, w276⟩ hsc4_choose ⟨Nat.le_of_ble_eq_true rfl, Nat.le_of_ble_eq_true rfl⟩ ⟨Nat.le_refl 0, Nat.le_refl 0⟩ (Nat.le_of_ble_eq_true rfl) dX5_walk_66 (fun H locs h => ?_)
                    refine lv_istore (lv' := [(6, .int q15), (0, .ref (aa 0 0)), (1, .int x0), (2, .int x1), (3, .int x2), (4, .int z8.1), (5, .int z8.2.1)]) hx hb dX5_walk_69 hl (by decide) rfl (fun ls hl => ?_)
                    refine lv_iload hx hb dX5_walk_71 (lv_at hl 0 rfl) ?_
                    refine lv_iconst (v := (-1)) hx hb dX5_walk_73 (by decide) ?_
                    refine lv_icmp_eq (tgt := 112) hx hb dX5_walk_74 (by decide) (fun c16 => ?_) (fun c16 => ?_)
                    · have hf := ifp hf c16
                      exact Xq8_2 _ _ _ _ (itr_x huq8 (sor hf)) h (lv_sub hl [1, 4, 5] rfl)
                    · have hf := ifn hf c16
                      refine lv_aload_n hx hb dX5_walk_77 rfl (lv_at hl 1 rfl) ?_
                      refine r_get F h (i := 0) (k := 2) (.ref ((aa 3) 0)) inX5 rfl (by decide) w546 rfl rfl rfl dX5_walk_78 ?_
                      refine lv_iload hx hb dX5_walk_81 (lv_at hl 0 rfl) ?_
                      obtain ⟨q17, h17, hf⟩ := asb hf
                      refine r_callVi (As := [.int q15]) (rest := []) (C0 := [wX4 K (aa 3) z8.2.2]) (C1 := [wX4 K (aa 3) z8.2.2]) (Rr := [wX5 K aa o_this, wX4 K (aa 2) o_now]) (S' := [wX5 K aa o_this, wX4 K (aa 2) o_now, wX4 K (aa 3) z8.2.2]) F h hl (c4_heightAfter l D K (aa 3) q15 z8.2.2 q17 h17) [2, 0, 1] rfl rfl rfl rfl rfl (i := 2) rfl rfl w638 ⟨w639, w640, w641, w276⟩ hsc4_heightAfter ⟨Nat.le_of_ble_eq_true rfl, Nat.le_of_ble_eq_true rfl⟩ ⟨Nat.le_refl 0, Nat.le_refl 0⟩ (Nat.le_of_ble_eq_true rfl) dX5_walk_83 (fun H locs h => ?_)
                      refine lv_bipush (v := 12) hx hb dX5_walk_86 (by decide) ?_
                      refine lv_icmp_le (tgt := 94) hx hb dX5_walk_88 (by decide) (fun c18 => ?_) (fun c18 => ?_)
                      · have hf := ifp hf c18
                        refine lv_aload_n hx hb dX5_walk_94 rfl (lv_at hl 1 rfl) ?_
                        refine r_get F h (i := 0) (k := 2) (.ref ((aa 3) 0)) inX5 rfl (by decide) w546 rfl rfl rfl dX5_walk_95 ?_
                        refine lv_iload hx hb dX5_walk_98 (lv_at hl 0 rfl) ?_
                        obtain ⟨q19, h19, hf⟩ := asb hf
                        refine r_callVv (As := [.int q15]) (rest := []) (C0 := [wX4 K (aa 3) z8.2.2]) (C1 := [wX4 K (aa 3) q19]) (Rr := [wX5 K aa o_this, wX4 K (aa 2) o_now]) (S' := [wX5 K aa o_this, wX4 K (aa 2) o_now, wX4 K (aa 3) q19]) F h hl (c4_apply l D K (aa 3) q15 z8.2.2 q19 h19) [2, 0, 1] rfl rfl rfl rfl rfl (i := 2) rfl rfl w642 ⟨w643, w644, w645, w276⟩ hsc4_apply ⟨Nat.le_of_ble_eq_true rfl, Nat.le_of_ble_eq_true rfl⟩ ⟨Nat.le_refl 0, Nat.le_refl 0⟩ (Nat.le_of_ble_eq_true rfl) dX5_walk_100 (fun H locs h => ?_)
                        obtain ⟨y20, e20⟩ : ∃ y : Int32, y = z8.1 + 1 := ⟨_, rfl⟩
                        have hf := ltb hf e20
                        refine lv_iinc (v := y20) (lv' := [(4, .int y20), (6, .int q15), (0, .ref (aa 0 0)), (1, .int x0), (2, .int x1), (3, .int x2), (5, .int z8.2.1)]) hx hb dX5_walk_103 hl (k := 5) rfl (by rw [e20]; rfl) (by decide) rfl (fun ls hl => ?_)
                        obtain ⟨y21, e21⟩ : ∃ y : Int32, y = z8.2.1 + 1 := ⟨_, rfl⟩
                        have hf := ltb hf e21
                        refine lv_iinc (v := y21) (lv' := [(5, .int y21), (4, .int y20), (6, .int q15), (0, .ref (aa 0 0)), (1, .int x0), (2, .int x1), (3, .int x2)]) hx hb dX5_walk_106 hl (k := 6) rfl (by rw [e21]; rfl) (by decide) rfl (fun ls hl => ?_)
                        refine lv_goto (tgt := 50) hx hb dX5_walk_109 (by decide) ?_
                        exact ihq8 _ _ _ _ (itr_c huq8 (sor hf)) h (lv_sub hl [3, 4, 5, 6, 1, 0] rfl)
                      · have hf := ifn hf c18
                        exact Xq8_1 _ _ _ _ (itr_x huq8 (sor hf)) h (lv_sub hl [1, 4, 5] rfl)
              exact Lq8 _ _ _ _ _ hq8 h (lv_sub hl [2, 3, 4, 5, 1, 0] rfl)
            · have hf := ifn hf c6
              refine lv_iconst (v := (-1)) hx hb dX5_walk_31 (by decide) ?_
              obtain rfl := sor hf
              exact r_reti F h dX5_walk_32
def f5_count (x0 : Int32) (o_this : ob) (o_script : ob) (o_now : ob) : Option (Int32) :=
  (if x0 = 0 then (some (o_now.1 0)) else (if x0 = 1 then (some (o_now.1 1)) else (if x0 = 2 then (some (o_now.1 7)) else (if x0 = 3 then (some (o_now.1 12)) else (if x0 = 4 then (some (o_this.1 5)) else (if x0 = 5 then (some (o_this.1 7)) else (if x0 = 6 then (some (o_script.1 1)) else (some (-1)))))))))
set_option maxRecDepth 100000 in
set_option maxHeartbeats 4000000 in
theorem c5_count (l : Launch) (D : va_G) (K : Nat → ClassId) (aa : Nat → Nat → Nat) (x0 : Int32) (o_this : ob) (o_script : ob) (o_now : ob) (r : Int32) (hf : f5_count x0 o_this o_script o_now = some r) : CTi l yX5_count cX5_count 2 (some .int) 0 0 D K [.ref (aa 0 0), .int x0] [wX5 K aa o_this, wX3 K (aa 1) o_script, wX4 K (aa 2) o_now] [wX5 K aa o_this, wX3 K (aa 1) o_script, wX4 K (aa 2) o_now] r := by
  unfold f5_count at hf
  have hf := tob hf
  refine entI (by decide) (Nat.le_of_ble_eq_true rfl) (fun P e s m args below meth c A ls F h hl hin => ?_)
  have hx := F.1
  have hb := F.2.1
  have hl : lv_has ls 2 [(0, .ref (aa 0 0)), (1, .int x0)] := hl
  refine lv_iload_n hx hb dX5_count_0 rfl (lv_at hl 1 rfl) ?_
  by_cases c1_0 : x0 = 0
  · have hf := ifp hf c1_0
    refine lv_tableIn (tgt := 44) hx hb dX5_count_1 (by rw [c1_0]; decide) (by rw [c1_0]; decide) (by rw [c1_0]; rfl) (by decide) ?_
    refine lv_aload_n hx hb dX5_count_44 rfl (lv_at hl 0 rfl) ?_
    refine r_get F h (i := 0) (k := 1) (.ref ((aa 2) 0)) inX5 rfl (by decide) w513 rfl rfl rfl dX5_count_45 ?_
    refine r_get F h (i := 2) (k := 0) (.int (o_now.1 0)) inX4 rfl (by decide) w515 rfl rfl rfl dX5_count_48 ?_
    obtain rfl := sor hf
    exact r_reti F h dX5_count_51
  have hf := ifn hf c1_0
  by_cases c1_1 : x0 = 1
  · have hf := ifp hf c1_1
    refine lv_tableIn (tgt := 52) hx hb dX5_count_1 (by rw [c1_1]; decide) (by rw [c1_1]; decide) (by rw [c1_1]; rfl) (by decide) ?_
    refine lv_aload_n hx hb dX5_count_52 rfl (lv_at hl 0 rfl) ?_
    refine r_get F h (i := 0) (k := 1) (.ref ((aa 2) 0)) inX5 rfl (by decide) w513 rfl rfl rfl dX5_count_53 ?_
    refine r_get F h (i := 2) (k := 1) (.int (o_now.1 1)) inX4 rfl (by decide) w514 rfl rfl rfl dX5_count_56 ?_
    obtain rfl := sor hf
    exact r_reti F h dX5_count_59
  have hf := ifn hf c1_1
  by_cases c1_2 : x0 = 2
  · have hf := ifp hf c1_2
    refine lv_tableIn (tgt := 60) hx hb dX5_count_1 (by rw [c1_2]; decide) (by rw [c1_2]; decide) (by rw [c1_2]; rfl) (by decide) ?_
    refine lv_aload_n hx hb dX5_count_60 rfl (lv_at hl 0 rfl) ?_
    refine r_get F h (i := 0) (k := 1) (.ref ((aa 2) 0)) inX5 rfl (by decide) w513 rfl rfl rfl dX5_count_61 ?_
    refine r_get F h (i := 2) (k := 7) (.int (o_now.1 7)) inX4 rfl (by decide) w573 rfl rfl rfl dX5_count_64 ?_
    obtain rfl := sor hf
    exact r_reti F h dX5_count_67
  have hf := ifn hf c1_2
  by_cases c1_3 : x0 = 3
  · have hf := ifp hf c1_3
    refine lv_tableIn (tgt := 68) hx hb dX5_count_1 (by rw [c1_3]; decide) (by rw [c1_3]; decide) (by rw [c1_3]; rfl) (by decide) ?_
    refine lv_aload_n hx hb dX5_count_68 rfl (lv_at hl 0 rfl) ?_
    refine r_get F h (i := 0) (k := 1) (.ref ((aa 2) 0)) inX5 rfl (by decide) w513 rfl rfl rfl dX5_count_69 ?_
    refine r_get F h (i := 2) (k := 12) (.int (o_now.1 12)) inX4 rfl (by decide) w520 rfl rfl rfl dX5_count_72 ?_
    obtain rfl := sor hf
    exact r_reti F h dX5_count_75
  have hf := ifn hf c1_3
  by_cases c1_4 : x0 = 4
  · have hf := ifp hf c1_4
    refine lv_tableIn (tgt := 76) hx hb dX5_count_1 (by rw [c1_4]; decide) (by rw [c1_4]; decide) (by rw [c1_4]; rfl) (by decide) ?_
    refine lv_aload_n hx hb dX5_count_76 rfl (lv_at hl 0 rfl) ?_
    refine r_get F h (i := 0) (k := 5) (.int (o_this.1 5)) inX5 rfl (by decide) w551 rfl rfl rfl dX5_count_77 ?_
    obtain rfl := sor hf
    exact r_reti F h dX5_count_80
  have hf := ifn hf c1_4
  by_cases c1_5 : x0 = 5
  · have hf := ifp hf c1_5
    refine lv_tableIn (tgt := 81) hx hb dX5_count_1 (by rw [c1_5]; decide) (by rw [c1_5]; decide) (by rw [c1_5]; rfl) (by decide) ?_
    refine lv_aload_n hx hb dX5_count_81 rfl (lv_at hl 0 rfl) ?_
    refine r_get F h (i := 0) (k := 7) (.int (o_this.1 7)) inX5 rfl (by decide) w552 rfl rfl rfl dX5_count_82 ?_
    obtain rfl := sor hf
    exact r_reti F h dX5_count_85
  have hf := ifn hf c1_5
  by_cases c1_6 : x0 = 6
  · have hf := ifp hf c1_6
    refine lv_tableIn (tgt := 86) hx hb dX5_count_1 (by rw [c1_6]; decide) (by rw [c1_6]; decide) (by rw [c1_6]; rfl) (by decide) ?_
    refine lv_aload_n hx hb dX5_count_86 rfl (lv_at hl 0 rfl) ?_
    refine r_get F h (i := 0) (k := 0) (.ref ((aa 1) 0)) inX5 rfl (by decide) w536 rfl rfl rfl dX5_count_87 ?_
    refine r_get F h (i := 1) (k := 1) (.int (o_script.1 1)) inX3 rfl (by decide) w537 rfl rfl rfl dX5_count_90 ?_
    obtain rfl := sor hf
    exact r_reti F h dX5_count_93
  have hf := ifn hf c1_6
  refine lv_tableOut (tgt := 94) hx hb dX5_count_1 (tab_out_0_6 c1_0 c1_1 c1_2 c1_3 c1_4 c1_5 c1_6) (by decide) ?_
  refine lv_iconst (v := (-1)) hx hb dX5_count_94 (by decide) ?_
  obtain rfl := sor hf
  exact r_reti F h dX5_count_95
