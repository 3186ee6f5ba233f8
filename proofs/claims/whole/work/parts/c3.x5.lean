theorem zw_80 : Cond.fieldLink RX5 26 "CallTowers" "past" "[LCallTowers$Tower;" ∈ TBL := tk_2 133 (by decide +kernel) (by decide +kernel)
theorem zw_81 : Cond.classLink RX5 16 RX4 ∈ TBL := tk_1 45 (by decide +kernel) (by decide +kernel)
theorem zw_82 : Cond.instantiable RX4 16 ∈ TBL := tk_1 46 (by decide +kernel) (by decide +kernel)
theorem zw_83 : Cond.initialized RX4 ∈ TBL := tk_1 3 (by decide +kernel) (by decide +kernel)
theorem zw_84 : Cond.code yX4_init cX4_init 1 none ∈ TBL := tk_1 49 (by decide +kernel) (by decide +kernel)
theorem zw_85 : Cond.instanceMethod yX4_init ∈ TBL := tk_1 48 (by decide +kernel) (by decide +kernel)
theorem zw_86 : Cond.fieldLink RX5 30 "CallTowers" "saved" "[LCallTowers$Tower;" ∈ TBL := tk_2 136 (by decide +kernel) (by decide +kernel)
theorem zw_87 : Cond.code yJ0_length_8abf5 cJ0_length_8abf5 1 (some .int) ∈ TBL := tk_2 10 (by decide +kernel) (by decide +kernel)
theorem zw_88 : Cond.methodLink RX5 62 yJ0_length_8abf5 ∈ TBL := tk_2 7 (by decide +kernel) (by decide +kernel)
theorem zw_89 : Cond.instanceMethod yJ0_length_8abf5 ∈ TBL := tk_2 8 (by decide +kernel) (by decide +kernel)
theorem zw_90 : Cond.selects RJ0 yJ0_length_8abf5 yJ0_length_8abf5 ∈ TBL := tk_2 9 (by decide +kernel) (by decide +kernel)
theorem zw_91 : Cond.fieldLink RX5 12 "CallTowers" "script" "LCallTowers$Script;" ∈ TBL := tk_2 130 (by decide +kernel) (by decide +kernel)
theorem zw_92 : Cond.code yJ0_charAt_5068e cJ0_charAt_5068e 2 (some .char) ∈ TBL := tk_2 20 (by decide +kernel) (by decide +kernel)
theorem zw_93 : Cond.methodLink RX5 68 yJ0_charAt_5068e ∈ TBL := tk_2 17 (by decide +kernel) (by decide +kernel)
theorem zw_94 : Cond.instanceMethod yJ0_charAt_5068e ∈ TBL := tk_2 18 (by decide +kernel) (by decide +kernel)
theorem zw_95 : Cond.selects RJ0 yJ0_charAt_5068e yJ0_charAt_5068e ∈ TBL := tk_2 19 (by decide +kernel) (by decide +kernel)
theorem zw_96 : Cond.code yX3_append cX3_append 2 (some .boolean) ∈ TBL := tk_2 58 (by decide +kernel) (by decide +kernel)
theorem zw_97 : Cond.methodLink RX5 72 yX3_append ∈ TBL := tk_2 55 (by decide +kernel) (by decide +kernel)
theorem zw_98 : Cond.instanceMethod yX3_append ∈ TBL := tk_2 56 (by decide +kernel) (by decide +kernel)
theorem zw_99 : Cond.selects RX3 yX3_append yX3_append ∈ TBL := tk_2 57 (by decide +kernel) (by decide +kernel)
theorem zw_100 : Cond.initialized RX3 ∈ TBL := tk_1 2 (by decide +kernel) (by decide +kernel)
/-! the constructor of the system under test -/
def bs0 : List Int32 := [110, 50, 59, 114, 48, 44, 97, 44, 48, 44, 98, 97, 44, 50, 59, 114, 48, 44, 98, 44, 49, 44, 44, 49, 59, 114, 49, 44, 97, 44, 49, 44, 44, 51, 59, 114, 49, 44, 98, 44, 48, 44, 98, 44, 48, 59, 114, 49, 44, 97, 44, 48, 44, 99, 44, 53, 59, 114, 48, 44, 99, 44, 48, 44, 99, 99, 44, 49, 59, 114, 48, 44, 99, 44, 49, 44, 44, 52, 59, 116, 49, 44, 59, 116, 48, 44, 99, 99, 46, 59, 99, 48, 44, 97, 97, 59, 109, 48, 59]
def T0 (i : Nat) : Nat := (bs0.getD i 0).toNatClampNeg
theorem bs0_len : bs0.length = 99 := by decide +kernel
theorem bs0_ok : ∀ i, i < 99 → bs0.getD i 0 = nI (T0 i) ∧ 32 ≤ T0 i ∧ T0 i ≤ 126 := by decide +kernel
theorem bs0_ch : ∀ i, i < 99 → (((bs0.getD i 0) &&& 255).toUInt32 % 65536).toInt32 = nI (T0 i) := by decide +kernel
theorem nar_ch : ∀ t, t < 127 → narrow .char (.int (nI t)) = .int (nI t) := fun t ht => by
  have h : ∀ t, t < 127 → ((nI t).toUInt32 % 65536).toInt32 = nI t := by decide
  have e := h t ht
  show Value.int _ = _
  exact congrArg Value.int e
theorem vpn_ch (t : Nat) (ht : t < 127) : vp_nar .char (nI t) = nI t := by
  unfold vp_nar
  rw [nar_ch t ht]
section QROWS
variable {p : Program} {l : Launch} {e : Env} {R : Room} {s : State} {m : MethodId} {args : Array Value} {below : List Frame} {meth : Method} {c : Code} {H : Heap} {locs : List Loc} {cells slots : Nat} {Q : State → Prop}
variable {pc : Nat} {ls : Array Slot} {rest : List Value} {cc : ByteArray} {own : String} {nL : Nat} {ret : Option FieldType} {D : va_G} {K : Nat → ClassId} {A : Nat → Prop} {H0 : Heap} {S : List va_W}
abbrev aq (f : Nat → Option Nat) (n : Nat) (cA : ClassId) : va_E := .inl (cA, n, .inr (.inr (.inr (.inr f))))
theorem r_newq (F : FX p s m args meth c cc own nL ret D K) (hO : va_AO RX4 s) (h : WD D A H0 H locs S) {n : Int32} {N' index : Nat} (hw : Cond.classLink own index RX4 ∈ TBL) (hn : ¬ n < 0) (hN : n.toNatClampNeg = N') (hbytes : N' * 4 ≤ 536870912) (hcs : cells + 1 ≤ R.cells ∧ slots + N' ≤ R.slots) (hdg : decode cc pc = .ok (.anewarray index, 3))
    (kk : ∀ (q : Nat) (H1 : Heap), WD D A H0 H1 locs (S ++ [[(q, aq (fun _ => none) N' (K 3))]]) → W p l e R s m args below meth c H1 locs (cells + 1) (slots + N') Q (F0 m (pc + 3) ls (.ref q :: rest))) : W p l e R s m args below meth c H locs cells slots Q (F0 m pc ls (.int n :: rest)) := by
  have hts := F.2.2.2.2.1
  have hK := F.2.2.2.2.2.1
  refine va_newq (C := RX4) F.1 F.2.1 F.2.2.2.1 (hts _ hw) hO hK h.1 h.2.1 h.2.2.1 h.2.2.2 hn hN hbytes hcs.1 hcs.2 hdg (fun q cA H1 hK1 hP hD hS => kk q H1 ?_)
  have e : cA = K 3 := Option.some.inj ((va_nmO (nm := "[" ++ (FieldType.object RX4).toString) (hK1.2 5 (cA, .object RX4) rfl).2 rfl).symm.trans (va_nmO (hK.2 3 (K 3, .object RX4) rfl).2 rfl))
  subst e
  refine ⟨?_, ?_, hS, h.2.2.2⟩
  · rw [WL_snoc]; exact hP
  · rw [WL_snoc]; exact hD
theorem r_astq (F : FX p s m args meth c cc own nL ret D K) (h : WD D A H0 H locs S) {i j i2 n a v : Nat} {seg seg2 : va_W} {f : Nat → Option Nat} {vs : List Value} {ix : Int32} (hs : S[i]? = some seg) (hj : seg[j]? = some (a, aq f n (K 3))) (hs2 : S[i2]? = some seg2) (hj2 : seg2[0]? = some (v, .inr (4, vs))) (hin : vp_in ix n) (hdg : decode cc pc = .ok (.aastore, 1))
    (kk : ∀ (H1 : Heap) (locs1 : List Loc), WD D A H0 H1 locs1 (S.set i (seg.set j (a, aq (va_up f ix.toNatClampNeg (some v)) n (K 3)))) → W p l e R s m args below meth c H1 locs1 cells slots Q (F0 m (pc + 1) ls rest)) : W p l e R s m args below meth c H locs cells slots Q (F0 m pc ls (.ref v :: .int ix :: .ref a :: rest)) := by
  obtain ⟨q0, h1, h2⟩ := seg_at hs hj
  obtain ⟨q1, h3, -⟩ := seg_at hs2 hj2
  exact va_astq (r := (RX4, TX4, 16)) F.1 F.2.1 F.2.2.2.2.2.1 h.1 h.2.1 h.2.2.1 q0 3 q1 4 h1 rfl h3 rfl hin hdg fun H1 locs1 a1 a2 a3 => kk H1 locs1 (WD.setG h2 h.2.2.2 a1 a2 a3)
end QROWS
theorem WD.arr {D : va_G} {A : Nat → Prop} {H0 H : Heap} {locs : List Loc} {S : List va_W} (h : WD D A H0 H locs S) {i a n : Nat} {cA : ClassId} {f g : Nat → Option Nat} (hs : S[i]? = some [(a, aq f n cA)]) (e : ∀ j, j < n → f j = g j) : WD D A H0 H locs (S.set i [(a, aq g n cA)]) := by
  obtain ⟨q0, h1, h2⟩ := seg_at (j := 0) hs rfl
  have e2 := h2 (a, aq g n cA)
  have ec : vp_cell cA (n, .inr (.inr (.inr (.inr f)))) = vp_cell cA (n, .inr (.inr (.inr (.inr g)))) := by
    rw [vp_cell_q, vp_cell_q]
    unfold arrV
    congr 1
    congr 1
    funext j
    show va_rf (f j.val) = va_rf (g j.val)
    rw [e j.val j.isLt]
  obtain ⟨hP, hD, hS, hA⟩ := h
  refine ⟨?_, ?_, hS, hA⟩
  · show va_P D vwCl (WL (S.set i (([(a, aq f n cA)] : va_W).set 0 (a, aq g n cA)))) H
    rw [← e2]
    intro k q hk
    by_cases qk : k = q0
    · subst qk
      have hl := (List.getElem?_eq_some_iff.mp h1).1
      rw [List.getElem?_set_self hl] at hk
      cases hk
      have := hP k _ h1
      show H[a]? = some (vp_cell _ _)
      rw [← ec]
      exact this
    · rw [List.getElem?_set_ne (fun e => qk e.symm)] at hk
      exact hP k q hk
  · show va_D A (WL (S.set i (([(a, aq f n cA)] : va_W).set 0 (a, aq g n cA))))
    rw [← e2]
    exact hD.set h1
theorem wF_snoc (K : Nat → ClassId) (n : Nat) (ap : Nat → Nat → Nat) (ad : Nat → Nat) (o : ob) : wF K n ap (fun _ => o) ++ wX4 K ad o = wF K (n + 1) (va_up ap n ad) (fun _ => o) := by
  unfold wF
  rw [List.range_succ, List.flatMap_append]
  have e : (List.range n).flatMap (fun i => wX4 K (va_up ap n ad i) o) = (List.range n).flatMap (fun i => wX4 K (ap i) o) := by
    rw [List.flatMap_def, List.flatMap_def]
    congr 1
    apply List.map_congr_left
    intro j hj
    have hne : j ≠ n := by have := List.mem_range.mp hj; omega
    rw [va_up_ne _ _ hne]
  rw [e]
  show _ = _ ++ (wX4 K (va_up ap n ad n) o ++ [])
  rw [va_up_self, List.append_nil]
theorem WD.glue {D : va_G} {A : Nat → Prop} {H0 H : Heap} {locs : List Loc} {S : List va_W} {w1 w2 w : va_W} (h : WD D A H0 H locs (S ++ [w1, w2])) (e : w1 ++ w2 = w) : WD D A H0 H locs (S ++ [w]) := by
  subst e
  refine h.perm (List.Perm.of_eq ?_)
  unfold WL
  rw [List.flatten_append, List.flatten_append]
  simp
theorem WD.glue0 {D : va_G} {A : Nat → Prop} {H0 H : Heap} {locs : List Loc} {S : List va_W} (h : WD D A H0 H locs S) : WD D A H0 H locs (S ++ [[]]) := by
  refine h.perm (List.Perm.of_eq ?_)
  rw [WL_snoc, List.append_nil]
theorem hs4_init : yX4_init.cls ≠ "java/lang/invoke/MethodHandle" ∧ yX4_init.cls ≠ "java/lang/invoke/VarHandle" ∧ (parseMethodDescriptor yX4_init.desc).map (fun d => d.parameters.length) = some 0 := by decide +kernel
theorem hs0_init : yX0_init.cls ≠ "java/lang/invoke/MethodHandle" ∧ yX0_init.cls ≠ "java/lang/invoke/VarHandle" ∧ (parseMethodDescriptor yX0_init.desc).map (fun d => d.parameters.length) = some 0 := by decide +kernel
theorem hs1_init : yX1_init.cls ≠ "java/lang/invoke/MethodHandle" ∧ yX1_init.cls ≠ "java/lang/invoke/VarHandle" ∧ (parseMethodDescriptor yX1_init.desc).map (fun d => d.parameters.length) = some 0 := by decide +kernel
theorem hs2_init : yX2_init.cls ≠ "java/lang/invoke/MethodHandle" ∧ yX2_init.cls ≠ "java/lang/invoke/VarHandle" ∧ (parseMethodDescriptor yX2_init.desc).map (fun d => d.parameters.length) = some 0 := by decide +kernel
theorem hs3_init : yX3_init.cls ≠ "java/lang/invoke/MethodHandle" ∧ yX3_init.cls ≠ "java/lang/invoke/VarHandle" ∧ (parseMethodDescriptor yX3_init.desc).map (fun d => d.parameters.length) = some 0 := by decide +kernel
set_option maxRecDepth 100000 in
set_option maxHeartbeats 4000000 in
theorem x5_past {p : Program} {l : Launch} {e : Env} {fr lo : Nat} {s : State} {m : MethodId} {args : Array Value} {below : List Frame} {meth : Method} {c : Code} {Q : State → Prop} {D : va_G} {K : Nat → ClassId} {A : Nat → Prop} (F : FX p s m args meth c cX5_init RX5 2 none D K) (hfr : 2 ≤ fr ∧ 36 ≤ lo) {hh qa c0 s0 : Nat} {fs : List Value} {w1 w2 w3 w5 w6 w7 w8 w9 w10 : va_W} (hc : c0 + 88 ≤ 163 ∧ s0 + 816 ≤ 8502) (hf : fs[3]? = some (.ref qa))
    (kk : ∀ (ap : Nat → Nat → Nat) (H : Heap) (locs : List Loc) (ls : Array Slot), WD D A s.heap H locs [[(hh, .inr (5, fs))], w1, w2, w3, [(qa, aq (fun j => if j < 8 then some (ap j 0) else none) 8 (K 3))], w5, w6, w7, w8, w9, w10, wF K 8 ap (fun _ => zo)] → lv_has ls 2 [(0, .ref hh)] → W p l e (rmN fr lo 163 8502) s m args below meth c H locs (c0 + 88) (s0 + 816) Q (F0 m 136 ls [])) :
    ∀ (n i : Nat), i + n = 8 → ∀ (ap : Nat → Nat → Nat) (H : Heap) (locs : List Loc) (ls : Array Slot), WD D A s.heap H locs [[(hh, .inr (5, fs))], w1, w2, w3, [(qa, aq (fun j => if j < i then some (ap j 0) else none) 8 (K 3))], w5, w6, w7, w8, w9, w10, wF K i ap (fun _ => zo)] → lv_has ls 2 [(0, .ref hh), (1, .int (nI i))] → W p l e (rmN fr lo 163 8502) s m args below meth c H locs (c0 + 11 * i) (s0 + 102 * i) Q (F0 m 111 ls []) := by
  have hx := F.1
  have hb := F.2.1
  intro n
  induction n with
  | zero =>
    intro i hi ap H locs ls h hl
    obtain rfl : i = 8 := by omega
    refine lv_iload_n hx hb dX5_init_111 rfl (lv_at hl 1 rfl) ?_
    refine lv_bipush (v := 8) hx hb dX5_init_112 (by decide) ?_
    refine lv_icmp_ge (tgt := 136) hx hb dX5_init_114 (by decide) (fun _ => ?_) (fun c1 => absurd (by decide) c1)
    exact kk ap H locs ls h (lv_sub hl [0] rfl)
  | succ n ih =>
    intro i hi ap H locs ls h hl
    refine lv_iload_n hx hb dX5_init_111 rfl (lv_at hl 1 rfl) ?_
    refine lv_bipush (v := 8) hx hb dX5_init_112 (by decide) ?_
    refine lv_icmp_ge (tgt := 136) hx hb dX5_init_114 (by decide) (fun c1 => absurd c1 (nI_ge (b := 8) (by omega) (by decide))) (fun _ => ?_)
    refine lv_aload_n hx hb dX5_init_117 rfl (lv_at hl 0 rfl) ?_
    refine r_get F h (i := 0) (k := 3) (.ref qa) inX5 rfl (by decide) zw_80 rfl rfl hf dX5_init_118 ?_
    refine lv_iload_n hx hb dX5_init_121 rfl (lv_at hl 1 rfl) ?_
    refine r_new F h (ci := 4) (fs := [.int 0, .int 0, .null, .null, .null, .null, .null, .int 0, .null, .null, .null, .null, .int 0, .int 0, .int 0, .null]) inX4 tyX4_ok rfl (by decide +kernel) ⟨zw_81, zw_82, zw_83⟩ ⟨by show c0 + 11 * i + 1 ≤ 163; omega, by show s0 + 102 * i + 16 ≤ 8502; omega⟩ dX5_init_122 (fun q H h => ?_)
    refine lv_dup hx hb dX5_init_125 rfl ?_
    refine r_ctorN (rest := [.ref q, .int (nI i), .ref qa]) F h hl (kX4_init l D K q) zw_84 ⟨by decide +kernel, zw_85, zw_83⟩ rfl hs4_init ⟨by show 1 + 1 ≤ fr; omega, by show 8 + (1 + 11) + 16 ≤ lo; omega⟩ ⟨by show c0 + 11 * i + 1 + 10 ≤ 163; omega, by show s0 + 102 * i + 16 + 86 ≤ 8502; omega⟩ (Nat.le_of_ble_eq_true rfl) dX5_init_126 (fun H locs ad h => ?_)
    refine r_astq F h (i := 4) (j := 0) (i2 := 12) rfl rfl rfl rfl (vp_in_nI (by omega) (by omega)) dX5_init_129 (fun H locs h => ?_)
    have h : WD D A s.heap H locs ([[(hh, .inr (5, fs))], w1, w2, w3, [(qa, aq (va_up (fun j => if j < i then some (ap j 0) else none) (nI i).toNatClampNeg (some q)) 8 (K 3))], w5, w6, w7, w8, w9, w10] ++ [wF K i ap (fun _ => zo), wX4 K (ah q ad) zo]) := h
    have h := h.glue (wF_snoc K i ap (ah q ad) zo)
    have h : WD D A s.heap H locs [[(hh, .inr (5, fs))], w1, w2, w3, [(qa, aq (va_up (fun j => if j < i then some (ap j 0) else none) (nI i).toNatClampNeg (some q)) 8 (K 3))], w5, w6, w7, w8, w9, w10, wF K (i + 1) (va_up ap i (ah q ad)) (fun _ => zo)] := h
    have h := h.arr (i := 4) (g := fun j => if j < i + 1 then some (va_up ap i (ah q ad) j 0) else none) rfl (fun j hj => by
      rw [nI_clamp (by omega)]
      by_cases qj : j = i
      · subst qj
        rw [va_up_self, if_pos (by omega), va_up_self]
        rfl
      · rw [va_up_ne _ _ qj, va_up_ne _ _ qj]
        by_cases q2 : j < i
        · rw [if_pos q2, if_pos (by omega)]
        · rw [if_neg q2, if_neg (by omega)])
    have h : WD D A s.heap H locs [[(hh, .inr (5, fs))], w1, w2, w3, [(qa, aq (fun j => if j < i + 1 then some (va_up ap i (ah q ad) j 0) else none) 8 (K 3))], w5, w6, w7, w8, w9, w10, wF K (i + 1) (va_up ap i (ah q ad)) (fun _ => zo)] := h
    obtain ⟨y, ey⟩ : ∃ y : Int32, y = nI i + 1 := ⟨_, rfl⟩
    refine lv_iinc (v := y) (lv' := [(1, .int y), (0, .ref hh)]) hx hb dX5_init_130 hl (k := 1) rfl (by rw [ey]; rfl) (by decide) rfl (fun ls hl => ?_)
    refine lv_goto (tgt := 111) hx hb dX5_init_133 (by decide) ?_
    rw [ey, nI_1] at hl
    refine W.widen (k := c0 + 11 * (i + 1)) (n := s0 + 102 * (i + 1)) (by omega) (by omega) ?_
    exact ih (i + 1) (by omega) _ _ _ _ h (lv_sub hl [1, 0] rfl)
set_option maxRecDepth 100000 in
set_option maxHeartbeats 4000000 in
theorem x5_saved {p : Program} {l : Launch} {e : Env} {fr lo : Nat} {s : State} {m : MethodId} {args : Array Value} {below : List Frame} {meth : Method} {c : Code} {Q : State → Prop} {D : va_G} {K : Nat → ClassId} {A : Nat → Prop} (F : FX p s m args meth c cX5_init RX5 2 none D K) (hfr : 2 ≤ fr ∧ 36 ≤ lo) {hh qa c0 s0 : Nat} {fs : List Value} {w1 w2 w3 w4 w6 w7 w8 w9 w10 w11 : va_W} (hc : c0 + 22 ≤ 163 ∧ s0 + 204 ≤ 8502) (hf : fs[6]? = some (.ref qa))
    (kk : ∀ (ap : Nat → Nat → Nat) (H : Heap) (locs : List Loc) (ls : Array Slot), WD D A s.heap H locs [[(hh, .inr (5, fs))], w1, w2, w3, w4, [(qa, aq (fun j => if j < 2 then some (ap j 0) else none) 2 (K 3))], w6, w7, w8, w9, w10, w11, wF K 2 ap (fun _ => zo)] → lv_has ls 2 [(0, .ref hh)] → W p l e (rmN fr lo 163 8502) s m args below meth c H locs (c0 + 22) (s0 + 204) Q (F0 m 162 ls [])) :
    ∀ (n i : Nat), i + n = 2 → ∀ (ap : Nat → Nat → Nat) (H : Heap) (locs : List Loc) (ls : Array Slot), WD D A s.heap H locs [[(hh, .inr (5, fs))], w1, w2, w3, w4, [(qa, aq (fun j => if j < i then some (ap j 0) else none) 2 (K 3))], w6, w7, w8, w9, w10, w11, wF K i ap (fun _ => zo)] → lv_has ls 2 [(0, .ref hh), (1, .int (nI i))] → W p l e (rmN fr lo 163 8502) s m args below meth c H locs (c0 + 11 * i) (s0 + 102 * i) Q (F0 m 138 ls []) := by
  have hx := F.1
  have hb := F.2.1
  intro n
  induction n with
  | zero =>
    intro i hi ap H locs ls h hl
    obtain rfl : i = 2 := by omega
    refine lv_iload_n hx hb dX5_init_138 rfl (lv_at hl 1 rfl) ?_
    refine lv_iconst (v := 2) hx hb dX5_init_139 (by decide) ?_
    refine lv_icmp_ge (tgt := 162) hx hb dX5_init_140 (by decide) (fun _ => ?_) (fun c1 => absurd (by decide) c1)
    exact kk ap H locs ls h (lv_sub hl [0] rfl)
  | succ n ih =>
    intro i hi ap H locs ls h hl
    refine lv_iload_n hx hb dX5_init_138 rfl (lv_at hl 1 rfl) ?_
    refine lv_iconst (v := 2) hx hb dX5_init_139 (by decide) ?_
    refine lv_icmp_ge (tgt := 162) hx hb dX5_init_140 (by decide) (fun c1 => absurd c1 (nI_ge (b := 2) (by omega) (by decide))) (fun _ => ?_)
    refine lv_aload_n hx hb dX5_init_143 rfl (lv_at hl 0 rfl) ?_
    refine r_get F h (i := 0) (k := 6) (.ref qa) inX5 rfl (by decide) zw_86 rfl rfl hf dX5_init_144 ?_
    refine lv_iload_n hx hb dX5_init_147 rfl (lv_at hl 1 rfl) ?_
    refine r_new F h (ci := 4) (fs := [.int 0, .int 0, .null, .null, .null, .null, .null, .int 0, .null, .null, .null, .null, .int 0, .int 0, .int 0, .null]) inX4 tyX4_ok rfl (by decide +kernel) ⟨zw_81, zw_82, zw_83⟩ ⟨by show c0 + 11 * i + 1 ≤ 163; omega, by show s0 + 102 * i + 16 ≤ 8502; omega⟩ dX5_init_148 (fun q H h => ?_)
    refine lv_dup hx hb dX5_init_151 rfl ?_
    refine r_ctorN (rest := [.ref q, .int (nI i), .ref qa]) F h hl (kX4_init l D K q) zw_84 ⟨by decide +kernel, zw_85, zw_83⟩ rfl hs4_init ⟨by show 1 + 1 ≤ fr; omega, by show 8 + (1 + 11) + 16 ≤ lo; omega⟩ ⟨by show c0 + 11 * i + 1 + 10 ≤ 163; omega, by show s0 + 102 * i + 16 + 86 ≤ 8502; omega⟩ (Nat.le_of_ble_eq_true rfl) dX5_init_152 (fun H locs ad h => ?_)
    refine r_astq F h (i := 5) (j := 0) (i2 := 13) rfl rfl rfl rfl (vp_in_nI (by omega) (by omega)) dX5_init_155 (fun H locs h => ?_)
    have h : WD D A s.heap H locs ([[(hh, .inr (5, fs))], w1, w2, w3, w4, [(qa, aq (va_up (fun j => if j < i then some (ap j 0) else none) (nI i).toNatClampNeg (some q)) 2 (K 3))], w6, w7, w8, w9, w10, w11] ++ [wF K i ap (fun _ => zo), wX4 K (ah q ad) zo]) := h
    have h := h.glue (wF_snoc K i ap (ah q ad) zo)
    have h : WD D A s.heap H locs [[(hh, .inr (5, fs))], w1, w2, w3, w4, [(qa, aq (va_up (fun j => if j < i then some (ap j 0) else none) (nI i).toNatClampNeg (some q)) 2 (K 3))], w6, w7, w8, w9, w10, w11, wF K (i + 1) (va_up ap i (ah q ad)) (fun _ => zo)] := h
    have h := h.arr (i := 5) (g := fun j => if j < i + 1 then some (va_up ap i (ah q ad) j 0) else none) rfl (fun j hj => by
      rw [nI_clamp (by omega)]
      by_cases qj : j = i
      · subst qj
        rw [va_up_self, if_pos (by omega), va_up_self]
        rfl
      · rw [va_up_ne _ _ qj, va_up_ne _ _ qj]
        by_cases q2 : j < i
        · rw [if_pos q2, if_pos (by omega)]
        · rw [if_neg q2, if_neg (by omega)])
    have h : WD D A s.heap H locs [[(hh, .inr (5, fs))], w1, w2, w3, w4, [(qa, aq (fun j => if j < i + 1 then some (va_up ap i (ah q ad) j 0) else none) 2 (K 3))], w6, w7, w8, w9, w10, w11, wF K (i + 1) (va_up ap i (ah q ad)) (fun _ => zo)] := h
    obtain ⟨y, ey⟩ : ∃ y : Int32, y = nI i + 1 := ⟨_, rfl⟩
    refine lv_iinc (v := y) (lv' := [(1, .int y), (0, .ref hh)]) hx hb dX5_init_156 hl (k := 1) rfl (by rw [ey]; rfl) (by decide) rfl (fun ls hl => ?_)
    refine lv_goto (tgt := 138) hx hb dX5_init_159 (by decide) ?_
    rw [ey, nI_1] at hl
    refine W.widen (k := c0 + 11 * (i + 1)) (n := s0 + 102 * (i + 1)) (by omega) (by omega) ?_
    exact ih (i + 1) (by omega) _ _ _ _ h (lv_sub hl [1, 0] rfl)
theorem ap_ok {sc : ob} {i : Nat} (hi : i < 99) (h : sc.1 1 = nI i) : f3_append (nI (T0 i)) sc = some (1, sI (sA sc 0 i (nI (T0 i))) 1 (nI (i + 1))) := by
  have hT := (bs0_ok i hi).2
  unfold f3_append
  rw [h, if_pos (show nI i < 200 from nI_lt (b := 200) (by omega) (by decide)), vin_nI (by omega), gd_p (show i < 200 by omega), nI_clamp (by omega), vpn_ch _ (by omega), lt_v, lt_v]
  have e : (sA sc 0 i (nI (T0 i))).1 1 = nI i := h
  rw [e, nI_1]
theorem bs0_sh : nI bs0.length >>> ((0 : Int32) &&& 31) = nI 99 := by rw [bs0_len]; decide
set_option maxRecDepth 100000 in
set_option maxHeartbeats 4000000 in
theorem x5_text {p : Program} {l : Launch} {e : Env} {s : State} {m : MethodId} {args : Array Value} {below : List Frame} {meth : Method} {c : Code} {Q : State → Prop} {D : va_G} {K : Nat → ClassId} {A : Nat → Prop} (F : FX p s m args meth c cX5_init RX5 2 none D K) {q v : Nat} {tx : String} (hZ : STR q v bs0 A s s.heap) (hR : vk_R RX5 60 tx q s) {hh : Nat} {a1 : Nat → Nat} {fs : List Value} {w2 w3 w4 w5 w6 w7 w8 w9 w10 w11 w12 : va_W} (hf : fs[0]? = some (.ref (a1 0)))
    (kk : ∀ (sc : ob) (H : Heap) (locs : List Loc) (ls : Array Slot), tx_3 sc T0 99 → WD D A s.heap H locs [[(hh, .inr (5, fs))], wX3 K a1 sc, w2, w3, w4, w5, w6, w7, w8, w9, w10, w11, w12] → lv_has ls 2 [(0, .ref hh)] → W p l e (rmN 6 150 163 8502) s m args below meth c H locs 163 8502 Q (F0 m 193 ls [])) :
    ∀ (n i : Nat), i + n = 99 → ∀ (sc : ob) (H : Heap) (locs : List Loc) (ls : Array Slot), sc.1 1 = nI i → (∀ j, j < i → sc.2 0 j = nI (T0 j)) → WD D A s.heap H locs [[(hh, .inr (5, fs))], wX3 K a1 sc, w2, w3, w4, w5, w6, w7, w8, w9, w10, w11, w12] → lv_has ls 2 [(0, .ref hh), (1, .int (nI i))] → W p l e (rmN 6 150 163 8502) s m args below meth c H locs 163 8502 Q (F0 m 164 ls []) := by
  have hx := F.1
  have hb := F.2.1
  intro n
  induction n with
  | zero =>
    intro i hi sc H locs ls t1 t2 h hl
    obtain rfl : i = 99 := by omega
    refine lv_iload_n hx hb dX5_init_164 rfl (lv_at hl 1 rfl) ?_
    refine va_ldcS hx hb F.2.2.2.1 hR dX5_init_165 ?_
    refine z_callV (As := []) (rest := [.int (nI 99)]) F hZ h hl (z_length l D K q v bs0 (by rw [bs0_len]; decide)) zw_87 ⟨zw_88, zw_89, zw_90, zw_10⟩ hsz_l ⟨Nat.le_of_ble_eq_true rfl, Nat.le_of_ble_eq_true rfl⟩ ⟨Nat.le_of_ble_eq_true rfl, Nat.le_of_ble_eq_true rfl⟩ (Nat.le_of_ble_eq_true rfl) dX5_init_167 (fun H locs h => ?_)
    rw [bs0_sh]
    refine lv_icmp_ge (tgt := 193) hx hb dX5_init_170 (by decide) (fun _ => ?_) (fun c1 => absurd (by decide) c1)
    exact kk sc H locs ls ⟨t1, t2⟩ h (lv_sub hl [0] rfl)
  | succ n ih =>
    intro i hi sc H locs ls t1 t2 h hl
    have hT := (bs0_ok i (by omega)).2
    refine lv_iload_n hx hb dX5_init_164 rfl (lv_at hl 1 rfl) ?_
    refine va_ldcS hx hb F.2.2.2.1 hR dX5_init_165 ?_
    refine z_callV (As := []) (rest := [.int (nI i)]) F hZ h hl (z_length l D K q v bs0 (by rw [bs0_len]; decide)) zw_87 ⟨zw_88, zw_89, zw_90, zw_10⟩ hsz_l ⟨Nat.le_of_ble_eq_true rfl, Nat.le_of_ble_eq_true rfl⟩ ⟨Nat.le_of_ble_eq_true rfl, Nat.le_of_ble_eq_true rfl⟩ (Nat.le_of_ble_eq_true rfl) dX5_init_167 (fun H locs h => ?_)
    rw [bs0_sh]
    refine lv_icmp_ge (tgt := 193) hx hb dX5_init_170 (by decide) (fun c1 => absurd c1 (nI_ge (by omega) (by decide))) (fun _ => ?_)
    refine lv_aload_n hx hb dX5_init_173 rfl (lv_at hl 0 rfl) ?_
    refine r_get F h (i := 0) (k := 0) (.ref (a1 0)) inX5 rfl (by decide) zw_91 rfl rfl hf dX5_init_174 ?_
    refine va_ldcS hx hb F.2.2.2.1 hR dX5_init_177 ?_
    refine lv_iload_n hx hb dX5_init_179 rfl (lv_at hl 1 rfl) ?_
    refine z_callV (As := [.int (nI i)]) (rest := [.ref (a1 0)]) F hZ h hl (z_charAt l D K q v bs0 i (by rw [bs0_len]; omega) (by rw [bs0_len]; decide) (nI (T0 i)) (bs0_ch i (by omega)) (nar_ch _ (by omega))) zw_92 ⟨zw_93, zw_94, zw_95, zw_10⟩ hsz_a ⟨Nat.le_of_ble_eq_true rfl, Nat.le_of_ble_eq_true rfl⟩ ⟨Nat.le_of_ble_eq_true rfl, Nat.le_of_ble_eq_true rfl⟩ (Nat.le_of_ble_eq_true rfl) dX5_init_180 (fun H locs h => ?_)
    refine r_callVi (As := [.int (nI (T0 i))]) (rest := []) (C0 := [wX3 K a1 sc]) (C1 := [wX3 K a1 (sI (sA sc 0 i (nI (T0 i))) 1 (nI (i + 1)))]) (Rr := [[(hh, .inr (5, fs))], w2, w3, w4, w5, w6, w7, w8, w9, w10, w11, w12]) (S' := [[(hh, .inr (5, fs))], wX3 K a1 (sI (sA sc 0 i (nI (T0 i))) 1 (nI (i + 1))), w2, w3, w4, w5, w6, w7, w8, w9, w10, w11, w12]) F h hl (c3_append l D K a1 (nI (T0 i)) sc _ (ap_ok (by omega) t1)) [1, 0, 2, 3, 4, 5, 6, 7, 8, 9, 10, 11, 12] rfl rfl rfl rfl rfl (i := 1) rfl rfl zw_96 ⟨zw_97, zw_98, zw_99, zw_100⟩ hsc3_append ⟨Nat.le_of_ble_eq_true rfl, Nat.le_of_ble_eq_true rfl⟩ ⟨Nat.le_of_ble_eq_true rfl, Nat.le_of_ble_eq_true rfl⟩ (Nat.le_of_ble_eq_true rfl) dX5_init_183 (fun H locs h => ?_)
    refine lv_pop hx hb dX5_init_186 rfl ?_
    obtain ⟨y, ey⟩ : ∃ y : Int32, y = nI i + 1 := ⟨_, rfl⟩
    refine lv_iinc (v := y) (lv' := [(1, .int y), (0, .ref hh)]) hx hb dX5_init_187 hl (k := 1) rfl (by rw [ey]; rfl) (by decide) rfl (fun ls hl => ?_)
    refine lv_goto (tgt := 164) hx hb dX5_init_190 (by decide) ?_
    rw [ey, nI_1] at hl
    refine ih (i + 1) (by omega) _ _ _ _ rfl (fun j hj => ?_) h (lv_sub hl [1, 0] rfl)
    show (if j = i then nI (T0 i) else sc.2 0 j) = _
    by_cases qj : j = i
    · rw [if_pos qj, qj]
    · rw [if_neg qj]; exact t2 j (by omega)
