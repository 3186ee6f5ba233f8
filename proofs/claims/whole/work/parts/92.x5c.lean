noncomputable def f5_stuck_L37 (g1 : ob) (g3 : ob) (g6 : Int32) (z5 : Int32 × Int32) : Option (Nat × (Int32 × Int32)) :=
  (if 4 ≤ z5.2 then (some (1, (z5.1, z5.2))) else ((f1_hasHead g6 z5.2 g3).bind fun q8 => ((if q8 = 0 then (some z5.1) else ((f4_rulesFor g6 z5.2 g1).bind fun q12 => (if q12 = 0 then (lt (z5.1 + 1) fun y14 => some y14) else (some z5.1))))).bind fun v9 => lt (z5.2 + 1) fun y10 => some (0, (v9, y10))))
noncomputable def f5_stuck_L24 (g1 : ob) (g3 : ob) (z3 : Int32 × Int32) : Option (Nat × (Int32 × Int32)) :=
  (if (g1.1 0) ≤ z3.2 then (some (1, (z3.1, z3.2))) else ((wh (f5_stuck_L37 g1 g3 z3.2) (z3.1, 0)).bind fun q5 => lt (z3.2 + 1) fun y6 => some (0, (q5.2.1, y6))))
noncomputable def f5_stuck (o_this : ob) (o_now : ob) (o_reach : ob) : Option (Int32 × ob) :=
  (f1_explore o_reach o_now).bind fun q1 => (fj6_bitCount_0f7a4 (q1.1 2)).bind fun q2 => (wh (f5_stuck_L24 o_now q1) (q2, 0)).bind fun q3 => some (q3.2.1, q1)
set_option maxRecDepth 100000 in
set_option maxHeartbeats 4000000 in
theorem c5_stuck (l : Launch) (D : va_G) (K : Nat → ClassId) (aa : Nat → Nat → Nat) (o_this : ob) (o_now : ob) (o_reach : ob) (r : Int32 × ob) (hf : f5_stuck o_this o_now o_reach = some r) : CTi l yX5_stuck cX5_stuck 4 (some .int) 4 96 D K [.ref (aa 0 0)] [wX5 K aa o_this, wX4 K (aa 2) o_now, wX1 K (aa 8) o_reach] [wX5 K aa o_this, wX4 K (aa 2) o_now, wX1 K (aa 8) r.2] r.1 := by
  unfold f5_stuck at hf
  have hf := tob hf
  refine entI (by decide) (Nat.le_of_ble_eq_true rfl) (fun P e s m args below meth c A ls F h hl hin => ?_)
  have hx := F.1
  have hb := F.2.1
  have hl : lv_has ls 4 [(0, .ref (aa 0 0))] := hl
  refine lv_aload_n hx hb dX5_stuck_0 rfl (lv_at hl 0 rfl) ?_
  refine r_get F h (i := 0) (k := 15) (.ref ((aa 8) 0)) inX5 rfl (by decide) w601 rfl rfl rfl dX5_stuck_1 ?_
  refine lv_aload_n hx hb dX5_stuck_4 rfl (lv_at hl 0 rfl) ?_
  refine r_get F h (i := 0) (k := 1) (.ref ((aa 2) 0)) inX5 rfl (by decide) w513 rfl rfl rfl dX5_stuck_5 ?_
  obtain ⟨q1, h1, hf⟩ := asb hf
  refine r_callVv (As := [.ref ((aa 2) 0)]) (rest := []) (C0 := [wX1 K (aa 8) o_reach, wX4 K (aa 2) o_now]) (C1 := [wX1 K (aa 8) q1, wX4 K (aa 2) o_now]) (Rr := [wX5 K aa o_this]) (S' := [wX5 K aa o_this, wX4 K (aa 2) o_now, wX1 K (aa 8) q1]) F h hl (c1_explore l D K (aa 8) (aa 2) o_reach o_now q1 h1) [2, 1, 0] rfl rfl rfl rfl rfl (i := 2) rfl rfl w606 ⟨w607, w608, w609, w480⟩ hsc1_explore ⟨Nat.le_of_ble_eq_true rfl, Nat.le_of_ble_eq_true rfl⟩ ⟨Nat.le_refl 0, Nat.le_refl 0⟩ (Nat.le_of_ble_eq_true rfl) dX5_stuck_8 (fun H locs h => ?_)
  refine lv_aload_n hx hb dX5_stuck_11 rfl (lv_at hl 0 rfl) ?_
  refine r_get F h (i := 0) (k := 15) (.ref ((aa 8) 0)) inX5 rfl (by decide) w601 rfl rfl rfl dX5_stuck_12 ?_
  refine r_get F h (i := 2) (k := 2) (.int (q1.1 2)) inX1 rfl (by decide) w611 rfl rfl rfl dX5_stuck_15 ?_
  obtain ⟨q2, h2, hf⟩ := asb hf
  refine r_callS (As := [.int (q1.1 2)]) (rest := []) F h hl (cj6_bitCount_0f7a4 l D K (q1.1 2) q2 h2) w670 ⟨w667, w668, w669⟩ hscj6_bitCount_0f7a4 ⟨Nat.le_of_ble_eq_true rfl, Nat.le_of_ble_eq_true rfl⟩ ⟨Nat.le_refl 0, Nat.le_refl 0⟩ (Nat.le_of_ble_eq_true rfl) dX5_stuck_18 (fun H locs h => ?_)
  refine lv_istore_n (lv' := [(1, .int q2), (0, .ref (aa 0 0))]) hx hb dX5_stuck_21 rfl hl (by decide) rfl (fun ls hl => ?_)
  refine lv_iconst (v := 0) hx hb dX5_stuck_22 (by decide) ?_
  refine lv_istore_n (lv' := [(2, .int 0), (1, .int q2), (0, .ref (aa 0 0))]) hx hb dX5_stuck_23 rfl hl (by decide) rfl (fun ls hl => ?_)
  obtain ⟨q3, hq3, hf⟩ := asb hf
  obtain ⟨nq3, hq3⟩ := wh_out hq3
  have Xq3_1 : ∀ (z3 : Int32 × Int32) (H : Heap) (locs : List Loc) (ls : Array Slot), q3 = (1, z3) → WD D A s.heap H locs [wX5 K aa o_this, wX4 K (aa 2) o_now, wX1 K (aa 8) q1] → lv_has ls 4 [(1, .int z3.1)] → W P l e (rmS 4 96) s m args below meth c H locs 0 0 (MQ below (QiS D A [wX5 K aa o_this, wX4 K (aa 2) o_now, wX1 K (aa 8) r.2] r.1) args s 0 0 A) (F0 m 81 ls []) := by
    intro z3 H locs ls eq3 h hl
    obtain rfl : z3 = q3.2 := by rw [eq3]
    refine lv_iload_n hx hb dX5_stuck_81 rfl (lv_at hl 0 rfl) ?_
    obtain rfl := sor hf
    exact r_reti F h dX5_stuck_82
  have Lq3 : ∀ (n : Nat) (z3 : Int32 × Int32) (H : Heap) (locs : List Loc) (ls : Array Slot), iter (f5_stuck_L24 o_now q1) n z3 = some q3 → WD D A s.heap H locs [wX5 K aa o_this, wX4 K (aa 2) o_now, wX1 K (aa 8) q1] → lv_has ls 4 [(0, .ref (aa 0 0)), (1, .int z3.1), (2, .int z3.2)] → W P l e (rmS 4 96) s m args below meth c H locs 0 0 (MQ below (QiS D A [wX5 K aa o_this, wX4 K (aa 2) o_now, wX1 K (aa 8) r.2] r.1) args s 0 0 A) (F0 m 24 ls []) := by
    intro n
    induction n with
    | zero => intro z3 H locs ls hi; exact (iter_0 hi).elim
    | succ n ihq3 =>
      intro z3 H locs ls hi h hl
      obtain ⟨uq3, hf, huq3⟩ := iter_s hi
      unfold f5_stuck_L24 at hf
      have hf := tob hf
      refine lv_iload_n hx hb dX5_stuck_24 rfl (lv_at hl 2 rfl) ?_
      refine lv_aload_n hx hb dX5_stuck_25 rfl (lv_at hl 0 rfl) ?_
      refine r_get F h (i := 0) (k := 1) (.ref ((aa 2) 0)) inX5 rfl (by decide) w513 rfl rfl rfl dX5_stuck_26 ?_
      refine r_get F h (i := 1) (k := 0) (.int (o_now.1 0)) inX4 rfl (by decide) w515 rfl rfl rfl dX5_stuck_29 ?_
      refine lv_icmp_ge (tgt := 81) hx hb dX5_stuck_32 (by decide) (fun c4 => ?_) (fun c4 => ?_)
      · have hf := ifp hf c4
        exact Xq3_1 _ _ _ _ (itr_x huq3 (sor hf)) h (lv_sub hl [1] rfl)
      · have hf := ifn hf c4
        refine lv_iconst (v := 0) hx hb dX5_stuck_35 (by decide) ?_
        refine lv_istore_n (lv' := [(3, .int 0), (0, .ref (aa 0 0)), (1, .int z3.1), (2, .int z3.2)]) hx hb dX5_stuck_36 rfl hl (by decide) rfl (fun ls hl => ?_)
        obtain ⟨q5, hq5, hf⟩ := asb hf
        obtain ⟨nq5, hq5⟩ := wh_out hq5
        have Xq5_1 : ∀ (z5 : Int32 × Int32) (H : Heap) (locs : List Loc) (ls : Array Slot), q5 = (1, z5) → WD D A s.heap H locs [wX5 K aa o_this, wX4 K (aa 2) o_now, wX1 K (aa 8) q1] → lv_has ls 4 [(0, .ref (aa 0 0)), (1, .int z5.1), (2, .int z3.2)] → W P l e (rmS 4 96) s m args below meth c H locs 0 0 (MQ below (QiS D A [wX5 K aa o_this, wX4 K (aa 2) o_now, wX1 K (aa 8) r.2] r.1) args s 0 0 A) (F0 m 75 ls []) := by
          intro z5 H locs ls eq5 h hl
          obtain rfl : z5 = q5.2 := by rw [eq5]
          obtain ⟨y6, e6⟩ : ∃ y : Int32, y = z3.2 + 1 := ⟨_, rfl⟩
          have hf := ltb hf e6
          refine lv_iinc (v := y6) (lv' := [(2, .int y6), (0, .ref (aa 0 0)), (1, .int q5.2.1)]) hx hb dX5_stuck_75 hl (k := 2) rfl (by rw [e6]; rfl) (by decide) rfl (fun ls hl => ?_)
          refine lv_goto (tgt := 24) hx hb dX5_stuck_78 (by decide) ?_
          exact ihq3 _ _ _ _ (itr_c huq3 (sor hf)) h (lv_sub hl [1, 2, 0] rfl)
        have Lq5 : ∀ (n : Nat) (z5 : Int32 × Int32) (H : Heap) (locs : List Loc) (ls : Array Slot), iter (f5_stuck_L37 o_now q1 z3.2) n z5 = some q5 → WD D A s.heap H locs [wX5 K aa o_this, wX4 K (aa 2) o_now, wX1 K (aa 8) q1] → lv_has ls 4 [(0, .ref (aa 0 0)), (1, .int z5.1), (2, .int z3.2), (3, .int z5.2)] → W P l e (rmS 4 96) s m args below meth c H locs 0 0 (MQ below (QiS D A [wX5 K aa o_this, wX4 K (aa 2) o_now, wX1 K (aa 8) r.2] r.1) args s 0 0 A) (F0 m 37 ls []) := by
          intro n
          induction n with
          | zero => intro z5 H locs ls hi; exact (iter_0 hi).elim
          | succ n ihq5 =>
            intro z5 H locs ls hi h hl
            obtain ⟨uq5, hf, huq5⟩ := iter_s hi
            unfold f5_stuck_L37 at hf
            have hf := tob hf
            refine lv_iload_n hx hb dX5_stuck_37 rfl (lv_at hl 3 rfl) ?_
            refine lv_iconst (v := 4) hx hb dX5_stuck_38 (by decide) ?_
            refine lv_icmp_ge (tgt := 75) hx hb dX5_stuck_39 (by decide) (fun c7 => ?_) (fun c7 => ?_)
            · have hf := ifp hf c7
              exact Xq5_1 _ _ _ _ (itr_x huq5 (sor hf)) h (lv_sub hl [0, 1, 2] rfl)
            · have hf := ifn hf c7
              refine lv_aload_n hx hb dX5_stuck_42 rfl (lv_at hl 0 rfl) ?_
              refine r_get F h (i := 0) (k := 15) (.ref ((aa 8) 0)) inX5 rfl (by decide) w601 rfl rfl rfl dX5_stuck_43 ?_
              refine lv_iload_n hx hb dX5_stuck_46 rfl (lv_at hl 2 rfl) ?_
              refine lv_iload_n hx hb dX5_stuck_47 rfl (lv_at hl 3 rfl) ?_
              obtain ⟨q8, h8, hf⟩ := asb hf
              refine r_callVi (As := [.int z3.2, .int z5.2]) (rest := []) (C0 := [wX1 K (aa 8) q1]) (C1 := [wX1 K (aa 8) q1]) (Rr := [wX5 K aa o_this, wX4 K (aa 2) o_now]) (S' := [wX5 K aa o_this, wX4 K (aa 2) o_now, wX1 K (aa 8) q1]) F h hl (c1_hasHead l D K (aa 8) z3.2 z5.2 q1 q8 h8) [2, 0, 1] rfl rfl rfl rfl rfl (i := 2) rfl rfl w497 ⟨w610, w499, w500, w480⟩ hsc1_hasHead ⟨Nat.le_of_ble_eq_true rfl, Nat.le_of_ble_eq_true rfl⟩ ⟨Nat.le_refl 0, Nat.le_refl 0⟩ (Nat.le_of_ble_eq_true rfl) dX5_stuck_48 (fun H locs h => ?_)
              obtain ⟨J9, eJ9, hf⟩ := rgn hf
              have JW9 : ∀ (v9 : Int32) (H : Heap) (locs : List Loc) (ls : Array Slot), WD D A s.heap H locs [wX5 K aa o_this, wX4 K (aa 2) o_now, wX1 K (aa 8) q1] → lv_has ls 4 [(0, .ref (aa 0 0)), (1, .int v9), (2, .int z3.2), (3, .int z5.2)] → J9 v9 = some uq5 → W P l e (rmS 4 96) s m args below meth c H locs 0 0 (MQ below (QiS D A [wX5 K aa o_this, wX4 K (aa 2) o_now, wX1 K (aa 8) r.2] r.1) args s 0 0 A) (F0 m 69 ls []) := by
                intro v9 H locs ls h hl hf
                have hf := jof eJ9 hf
                obtain ⟨y10, e10⟩ : ∃ y : Int32, y = z5.2 + 1 := ⟨_, rfl⟩
                have hf := ltb hf e10
                refine lv_iinc (v := y10) (lv' := [(3, .int y10), (0, .ref (aa 0 0)), (1, .int v9), (2, .int z3.2)]) hx hb dX5_stuck_69 hl (k := 3) rfl (by rw [e10]; rfl) (by decide) rfl (fun ls hl => ?_)
                refine lv_goto (tgt := 37) hx hb dX5_stuck_72 (by decide) ?_
                exact ihq5 _ _ _ _ (itr_c huq5 (sor hf)) h (lv_sub hl [1, 2, 3, 0] rfl)
              refine lv_if_eq (tgt := 69) hx hb dX5_stuck_51 (by decide) (fun c11 => ?_) (fun c11 => ?_)
              · have hf := ifp hf c11
                exact JW9 z5.1 _ _ _ h (lv_sub hl [0, 1, 2, 3] rfl) (sob hf)
              · have hf := ifn hf c11
                refine lv_aload_n hx hb dX5_stuck_54 rfl (lv_at hl 0 rfl) ?_
                refine r_get F h (i := 0) (k := 1) (.ref ((aa 2) 0)) inX5 rfl (by decide) w513 rfl rfl rfl dX5_stuck_55 ?_
                refine lv_iload_n hx hb dX5_stuck_58 rfl (lv_at hl 2 rfl) ?_
                refine lv_iload_n hx hb dX5_stuck_59 rfl (lv_at hl 3 rfl) ?_
                obtain ⟨q12, h12, hf⟩ := asb hf
                refine r_callVi (As := [.int z3.2, .int z5.2]) (rest := []) (C0 := [wX4 K (aa 2) o_now]) (C1 := [wX4 K (aa 2) o_now]) (Rr := [wX5 K aa o_this, wX1 K (aa 8) q1]) (S' := [wX5 K aa o_this, wX4 K (aa 2) o_now, wX1 K (aa 8) q1]) F h hl (c4_rulesFor l D K (aa 2) z3.2 z5.2 o_now q12 h12) [1, 0, 2] rfl rfl rfl rfl rfl (i := 1) rfl rfl w285 ⟨w671, w287, w288, w276⟩ hsc4_rulesFor ⟨Nat.le_of_ble_eq_true rfl, Nat.le_of_ble_eq_true rfl⟩ ⟨Nat.le_refl 0, Nat.le_refl 0⟩ (Nat.le_of_ble_eq_true rfl) dX5_stuck_60 (fun H locs h => ?_)
                refine lv_if_ne (tgt := 69) hx hb dX5_stuck_63 (by decide) (fun c13 => ?_) (fun c13 => ?_)
                · have hf := ifn hf c13
                  exact JW9 z5.1 _ _ _ h (lv_sub hl [0, 1, 2, 3] rfl) (sob hf)
                · have hf := ifp hf c13
                  obtain ⟨y14, e14⟩ : ∃ y : Int32, y = z5.1 + 1 := ⟨_, rfl⟩
                  have hf := ltb hf e14
                  refine lv_iinc (v := y14) (lv' := [(1, .int y14), (0, .ref (aa 0 0)), (2, .int z3.2), (3, .int z5.2)]) hx hb dX5_stuck_66 hl (k := 1) rfl (by rw [e14]; rfl) (by decide) rfl (fun ls hl => ?_)
                  exact JW9 y14 _ _ _ h (lv_sub hl [1, 0, 2, 3] rfl) (sob hf)
        exact Lq5 _ _ _ _ _ hq5 h (lv_sub hl [1, 2, 3, 0] rfl)
  exact Lq3 _ _ _ _ _ hq3 h (lv_sub hl [2, 1, 0] rfl)
