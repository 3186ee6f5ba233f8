theorem zw_0 : Cond.fieldLink RJ0 38 "java/lang/String" "COMPACT_STRINGS" "Z" ∈ TBL := tk_2 15 (by decide +kernel) (by decide +kernel)
theorem zw_1 : Cond.fieldLink RJ0 15 "java/lang/String" "coder" "B" ∈ TBL := tk_6 14 (by decide +kernel) (by decide +kernel)
theorem zw_2 : Cond.code yJ3_checkIndex_8e157 cJ3_checkIndex_8e157 3 (some .int) ∈ TBL := tk_2 35 (by decide +kernel) (by decide +kernel)
theorem zw_3 : Cond.methodLink RJ0 1059 yJ3_checkIndex_8e157 ∈ TBL := tk_2 33 (by decide +kernel) (by decide +kernel)
theorem zw_4 : Cond.static yJ3_checkIndex_8e157 ∈ TBL := tk_2 34 (by decide +kernel) (by decide +kernel)
theorem zw_5 : Cond.initialized RJ3 ∈ TBL := tk_1 9 (by decide +kernel) (by decide +kernel)
theorem zw_6 : Cond.fieldLink RJ0 1053 "jdk/internal/util/Preconditions" "SIOOBE_FORMATTER" "Ljava/util/function/BiFunction;" ∈ TBL := tk_2 31 (by decide +kernel) (by decide +kernel)
theorem zw_7 : Cond.code yJ0_checkIndex_df160 cJ0_checkIndex_df160 2 none ∈ TBL := tk_2 30 (by decide +kernel) (by decide +kernel)
theorem zw_8 : Cond.methodLink RJ1 9 yJ0_checkIndex_df160 ∈ TBL := tk_2 28 (by decide +kernel) (by decide +kernel)
theorem zw_9 : Cond.static yJ0_checkIndex_df160 ∈ TBL := tk_2 29 (by decide +kernel) (by decide +kernel)
theorem zw_10 : Cond.initialized RJ0 ∈ TBL := tk_1 7 (by decide +kernel) (by decide +kernel)
theorem zw_11 : Cond.code yJ0_isLatin1_aae02 cJ0_isLatin1_aae02 1 (some .boolean) ∈ TBL := tk_2 24 (by decide +kernel) (by decide +kernel)
theorem zw_12 : Cond.methodLink RJ0 492 yJ0_isLatin1_aae02 ∈ TBL := tk_2 21 (by decide +kernel) (by decide +kernel)
theorem zw_13 : Cond.instanceMethod yJ0_isLatin1_aae02 ∈ TBL := tk_2 22 (by decide +kernel) (by decide +kernel)
theorem zw_14 : Cond.selects RJ0 yJ0_isLatin1_aae02 yJ0_isLatin1_aae02 ∈ TBL := tk_2 23 (by decide +kernel) (by decide +kernel)
theorem zw_15 : Cond.fieldLink RJ0 9 "java/lang/String" "value" "[B" ∈ TBL := tk_6 13 (by decide +kernel) (by decide +kernel)
theorem zw_16 : Cond.code yJ1_charAt_3b067 cJ1_charAt_3b067 2 (some .char) ∈ TBL := tk_2 27 (by decide +kernel) (by decide +kernel)
theorem zw_17 : Cond.methodLink RJ0 495 yJ1_charAt_3b067 ∈ TBL := tk_2 25 (by decide +kernel) (by decide +kernel)
theorem zw_18 : Cond.static yJ1_charAt_3b067 ∈ TBL := tk_2 26 (by decide +kernel) (by decide +kernel)
theorem zw_19 : Cond.initialized RJ1 ∈ TBL := tk_1 8 (by decide +kernel) (by decide +kernel)
theorem zw_20 : Cond.code yJ0_coder_7d493 cJ0_coder_7d493 1 (some .byte) ∈ TBL := tk_2 14 (by decide +kernel) (by decide +kernel)
theorem zw_21 : Cond.methodLink RJ0 335 yJ0_coder_7d493 ∈ TBL := tk_2 11 (by decide +kernel) (by decide +kernel)
theorem zw_22 : Cond.instanceMethod yJ0_coder_7d493 ∈ TBL := tk_2 12 (by decide +kernel) (by decide +kernel)
theorem zw_23 : Cond.selects RJ0 yJ0_coder_7d493 yJ0_coder_7d493 ∈ TBL := tk_2 13 (by decide +kernel) (by decide +kernel)
/-! the text constant: what is known of it, and the JDK's methods on it -/
def STR (q v : Nat) (bs : List Int32) (A : Nat → Prop) (U : State) (H : Heap) : Prop :=
  va_O "java/lang/String" q A U H ∧ va_OF "java/lang/String" "coder" "B" (.int 0) q A U H ∧ va_OF "java/lang/String" "value" "[B" (.ref v) q A U H ∧ va_T .byte v bs.length (fun j => .int (bs.getD j 0)) A U H ∧ va_Z "java/lang/String" "COMPACT_STRINGS" "Z" (.int 1) A U H ∧ va_Zq "jdk/internal/util/Preconditions" "SIOOBE_FORMATTER" "Ljava/util/function/BiFunction;" A U H
theorem STR.moved {q v : Nat} {bs : List Int32} {A : Nat → Prop} {u U : State} {H : Heap} (hvm : u.vm.Alike U.vm) (h : STR q v bs A u H) : STR q v bs A U H := ⟨va_O.moved hvm h.1, va_OF.moved hvm h.2.1, va_OF.moved hvm h.2.2.1, va_T.moved hvm h.2.2.2.1, va_Z.moved hvm h.2.2.2.2.1, va_Zq.moved hvm h.2.2.2.2.2⟩
theorem STR.kept {q v : Nat} {bs : List Int32} {A : Nat → Prop} {U : State} {H H1 : Heap} (h : STR q v bs A U H) (hq : ∀ a : Nat, a < H.size → ¬ A a → H1[a]? = H[a]?) : STR q v bs A U H1 := ⟨h.1.kept hq, h.2.1.kept hq, h.2.2.1.kept hq, h.2.2.2.1.kept hq, h.2.2.2.2.1.kept hq, h.2.2.2.2.2.kept hq⟩
theorem STR.narrow {q v : Nat} {bs : List Int32} {A B : Nat → Prop} {U : State} {H : Heap} (h : STR q v bs A U H) (hAB : ∀ q, B q → A q) : STR q v bs B U H := ⟨h.1.narrow hAB, h.2.1.narrow hAB, h.2.2.1.narrow hAB, h.2.2.2.1.narrow hAB, h.2.2.2.2.1.narrow hAB, h.2.2.2.2.2.narrow hAB⟩
def PzS (D : va_G) (K : Nat → ClassId) (av : List Value) (sz q v : Nat) (bs : List Int32) : Array Value → State → Prop := va_Pc av (fun U => U.heap.size = sz ∧ va_P D vwCl (WL []) U.heap ∧ va_K D vwCl (tys K) U ∧ va_D (fun _ => True) (WL []) ∧ NW U ∧ STR q v bs (va_A (WL []) sz) U U.heap)
def CTz (l : Launch) (y : MethodName) (b : ByteArray) (nL : Nat) (ret : Option FieldType) (fr lo : Nat) (D : va_G) (K : Nat → ClassId) (av : List Value) (q v : Nat) (bs : List Int32) (r : Int32) : Prop :=
  ∀ sz, Met l y (.code y b nL ret :: TBL) (rmS fr lo) (PzS D K av sz q v bs) (QiS D (va_A (WL []) sz) [] r) 0 0 (va_A (WL []) sz)
def CTzv (l : Launch) (y : MethodName) (b : ByteArray) (nL : Nat) (fr lo : Nat) (D : va_G) (K : Nat → ClassId) (av : List Value) (q v : Nat) (bs : List Int32) : Prop :=
  ∀ sz, Met l y (.code y b nL none :: TBL) (rmS fr lo) (PzS D K av sz q v bs) (QvS D (va_A (WL []) sz) []) 0 0 (va_A (WL []) sz)
theorem entZ {l : Launch} {y : MethodName} {b : ByteArray} {nL : Nat} {ret : Option FieldType} {fr lo : Nat} {D : va_G} {K : Nat → ClassId} {av : List Value} {sz q v : Nat} {bs : List Int32} {Q : (Nat → Prop) → Array Value → State → Outcome → State → Prop} (hy : plainName y.cls = true) (hn : (lg_sl av).length ≤ nL)
    (body : ∀ (p : Program) (e : Env) (s : State) (m : MethodId) (args : Array Value) (below : List Frame) (meth : Method) (c : Code) (A : Nat → Prop) (ls : Array Slot), FX p s m args meth c b y.cls nL ret D K → STR q v bs A s s.heap → WD D A s.heap s.heap [] [] → lv_has ls nL (lv_args 0 av) →
      W p l e (rmS fr lo) s m args below meth c s.heap [] 0 0 (MQ below (Q A) args s 0 0 A) (F0 m 0 ls [])) : Met l y (.code y b nL ret :: TBL) (rmS fr lo) (PzS D K av sz q v bs) (Q (va_A (WL []) sz)) 0 0 (va_A (WL []) sz) := by
  refine Met.ofW (cc := b) (maxL := nL) (ret := ret) hy rfl ?_
  intro p e s m args below meth c s₁ B hml hv
  obtain ⟨rfl, hsz, hP, hK, hD0, hN, hZ⟩ := hv
  have hts := atoms_spec (ws := .code y b nL ret :: TBL) B.pre
  have hown : s.vm.findClass y.cls = some m.cls := findClass_of_methodNamed B.named
  have hlocks := B.notSynchronized
  subst hsz
  have hD := hD0.self (sz := s.heap.size)
  have hA : ∀ q : Nat, s.heap.size ≤ q → va_A (WL []) s.heap.size q := fun q h => Or.inr h
  have hl := lv_entry av hn
  have F : FX p s m av.toArray meth c b y.cls nL ret D K := ⟨B.exec, B.bytes, hml, hown, fun w hw => hts w (List.mem_cons_of_mem _ hw), hK, hN, B.returns, hlocks⟩
  rw [lg_entry_eq]
  exact body p e s m av.toArray below meth c _ _ F hZ ⟨hP, hD, va_S.rf, hA⟩ hl
section ZROWS
variable {p : Program} {l : Launch} {e : Env} {R : Room} {s : State} {m : MethodId} {args : Array Value} {below : List Frame} {meth : Method} {c : Code} {H : Heap} {locs : List Loc} {cells slots : Nat} {Q : State → Prop}
variable {pc : Nat} {ls : Array Slot} {rest : List Value} {cc : ByteArray} {own : String} {nL : Nat} {ret : Option FieldType} {D : va_G} {K : Nat → ClassId} {A : Nat → Prop} {S : List va_W} {q v : Nat} {bs : List Int32}
theorem PzS_blind {av : List Value} {sz : Nat} : FrameBlind (PzS D K av sz q v bs) := by
  rintro a U g mk ⟨q0, q1, q2, q3, q4, q5, q6⟩
  exact ⟨q0, q1, q2, va_K.moved (u := U) (U := U.calling g mk a) (Vm.Alike.refl U.vm) q3, q4, NW.same rfl q5, STR.moved (u := U) (U := U.calling g mk a) (Vm.Alike.refl U.vm) q6⟩
theorem PzS_in {av : List Value} (F : FX p s m args meth c cc own nL ret D K) (hZ : STR q v bs A s s.heap) (h : WD D A s.heap H locs S) (U : State) (hU : U.heap = H) (hW : s.WarmedH U.vm) : PzS D K av H.size q v bs av.toArray U := by
  have hp : (List.range S.length).isPerm (List.range S.length) = true := List.isPerm_iff.mpr (List.Perm.refl _)
  obtain ⟨cP, cD, cF, back⟩ := split_call (C0 := []) (C1 := []) (Rr := S) (S' := S) h hp (pick_range S) (pick_range S) rfl
  obtain ⟨-, -, hS, -⟩ := h
  refine ⟨rfl, by rw [hU], by rw [hU]; exact cP, va_K.moved hW.alike F.2.2.2.2.2.1, cD.weaken (fun _ _ _ _ => trivial), NW.warm hW F.2.2.2.2.2.2.1, ?_⟩
  rw [hU]
  exact STR.moved hW.alike ((hZ.kept hS.2.1).narrow cF)
/-- a method on the text -/
theorem z_callV {As : List Value} {y : MethodName} {b : ByteArray} {nL' fr lo index : Nat} {rt : Option FieldType} {r : Int32} {lv : List (Nat × Value)} (F : FX p s m args meth c cc own nL ret D K) (hZ : STR q v bs A s s.heap) (h : WD D A s.heap H locs S) (hlv : lv_has ls nL lv) (hM : CTz l y b nL' rt fr lo D K (.ref q :: As) q v bs r)
    (hcode : Cond.code y b nL' rt ∈ TBL) (hw : Cond.methodLink own index y ∈ TBL ∧ Cond.instanceMethod y ∈ TBL ∧ Cond.selects "java/lang/String" y y ∈ TBL ∧ Cond.initialized "java/lang/String" ∈ TBL)
    (hd : y.cls = "java/lang/String" ∧ y.cls ≠ "java/lang/invoke/MethodHandle" ∧ y.cls ≠ "java/lang/invoke/VarHandle" ∧ (parseMethodDescriptor y.desc).map (fun d => d.parameters.length) = some As.length) (hR : fr + 1 ≤ R.frames ∧ 8 + (nL' + 11) + lo ≤ R.locals) (hcs : cells ≤ R.cells ∧ slots ≤ R.slots) (hrest : (rest.map fun v => v.category).sum ≤ 8) (hdg : decode cc pc = .ok (.invokevirtual index, 3))
    (kk : ∀ (H1 : Heap) (locs1 : List Loc), WD D A s.heap H1 locs1 S → W p l e R s m args below meth c H1 locs1 cells slots Q (F0 m (pc + 3) ls (.int r :: rest))) : W p l e R s m args below meth c H locs cells slots Q (F0 m pc ls (As.reverse ++ .ref q :: rest)) := by
  have hp : (List.range S.length).isPerm (List.range S.length) = true := List.isPerm_iff.mpr (List.Perm.refl _)
  obtain ⟨cP, cD, cF, back⟩ := split_call (C0 := []) (C1 := []) (Rr := S) (S' := S) h hp (pick_range S) (pick_range S) rfl
  have hts := F.2.2.2.2.1
  have hG : GoodIn TBL (wsV own index "java/lang/String" y (.code y b nL' rt :: TBL)) := by
    intro w hw9
    rcases List.mem_append.mp (show w ∈ ([.methodLink own index y, .instanceMethod y, .selects "java/lang/String" y y, .initialized "java/lang/String"] : List Cond) ++ _ from hw9) with h9 | h9
    · simp only [List.mem_cons, List.not_mem_nil, or_false] at h9
      rcases h9 with rfl | rfl | rfl | rfl
      · exact tbl_good _ hw.1
      · exact tbl_good _ hw.2.1
      · exact tbl_good _ hw.2.2.1
      · exact tbl_good _ hw.2.2.2
    · exact good_code hcode w h9
  have cw : CallW R s args own "java/lang/String" index y b nL' rt (.code y b nL' rt :: TBL) (rmS fr lo) 0 0 As.length := cwV As.length hts hG rfl rfl rfl hd hR
  have hrecv : ∃ cell : Cell, H[q]? = some cell ∧ cell.vm.isStatics = false ∧ s.vm.findClass "java/lang/String" = some cell.cls := by
    obtain ⟨cell, h1, h2, h3, -⟩ := hZ.1.kept h.2.2.1.2.1
    exact ⟨cell, h1, h2, h3⟩
  refine va_calli (va_runV (As := As) (rest := rest) ⟨F.1, F.2.1, F.2.2.1, F.2.2.2.1, hts⟩ (hM H.size) cw ⟨PzS_blind, hrecv, fun U hU hW => PzS_in F hZ h U hU hW⟩ rfl rfl hlv.1 rfl (lv_room hrest) hdg ⟨hcs.1, hcs.2⟩) h.2.2.1 (fun q _ h9 => cF q h9) cF (fun r' u t H1 locs1 ht hvm hw hB hz1 hk1 hS1 => ?_)
  have hw : r' = r := hw
  subst hw
  obtain ⟨b1, b2⟩ := hB
  rw [ht] at b1
  exact kk H1 locs1 (back H1 locs1 b1 b2 hk1 hS1)
theorem z_callS {As : List Value} {y : MethodName} {b : ByteArray} {nL' fr lo index : Nat} {rt : Option FieldType} {r : Int32} {lv : List (Nat × Value)} (F : FX p s m args meth c cc own nL ret D K) (hZ : STR q v bs A s s.heap) (h : WD D A s.heap H locs S) (hlv : lv_has ls nL lv) (hM : CTz l y b nL' rt fr lo D K As q v bs r)
    (hcode : Cond.code y b nL' rt ∈ TBL) (hw : Cond.methodLink own index y ∈ TBL ∧ Cond.static y ∈ TBL ∧ Cond.initialized y.cls ∈ TBL)
    (hd : y.cls ≠ "java/lang/invoke/MethodHandle" ∧ y.cls ≠ "java/lang/invoke/VarHandle" ∧ (parseMethodDescriptor y.desc).map (fun d => d.parameters.length) = some As.length) (hR : fr + 1 ≤ R.frames ∧ 8 + (nL' + 11) + lo ≤ R.locals) (hcs : cells ≤ R.cells ∧ slots ≤ R.slots) (hrest : (rest.map fun v => v.category).sum ≤ 8) (hdg : decode cc pc = .ok (.invokestatic index, 3))
    (kk : ∀ (H1 : Heap) (locs1 : List Loc), WD D A s.heap H1 locs1 S → W p l e R s m args below meth c H1 locs1 cells slots Q (F0 m (pc + 3) ls (.int r :: rest))) : W p l e R s m args below meth c H locs cells slots Q (F0 m pc ls (As.reverse ++ rest)) := by
  have hp : (List.range S.length).isPerm (List.range S.length) = true := List.isPerm_iff.mpr (List.Perm.refl _)
  obtain ⟨cP, cD, cF, back⟩ := split_call (C0 := []) (C1 := []) (Rr := S) (S' := S) h hp (pick_range S) (pick_range S) rfl
  have hts := F.2.2.2.2.1
  refine va_calli (va_runS (As := As) (rest := rest) ⟨F.1, F.2.1, F.2.2.1, F.2.2.2.1, hts⟩ (hM H.size) ⟨callB_of As.length hts (good_code hcode) rfl rfl rfl (hts _ hw.2.2) (hts _ hw.1) hd hR, hts _ hw.2.1⟩ ⟨PzS_blind, fun U hU hW => PzS_in F hZ h U hU hW⟩ rfl rfl hlv.1 rfl (lv_room hrest) hdg ⟨hcs.1, hcs.2⟩) h.2.2.1 (fun q _ h9 => cF q h9) cF (fun r' u t H1 locs1 ht hvm hw hB hz1 hk1 hS1 => ?_)
  have hw : r' = r := hw
  subst hw
  obtain ⟨b1, b2⟩ := hB
  rw [ht] at b1
  exact kk H1 locs1 (back H1 locs1 b1 b2 hk1 hS1)
theorem z_callSv {As : List Value} {y : MethodName} {b : ByteArray} {nL' fr lo index : Nat} {lv : List (Nat × Value)} (F : FX p s m args meth c cc own nL ret D K) (hZ : STR q v bs A s s.heap) (h : WD D A s.heap H locs S) (hlv : lv_has ls nL lv) (hM : CTzv l y b nL' fr lo D K As q v bs)
    (hcode : Cond.code y b nL' none ∈ TBL) (hw : Cond.methodLink own index y ∈ TBL ∧ Cond.static y ∈ TBL ∧ Cond.initialized y.cls ∈ TBL)
    (hd : y.cls ≠ "java/lang/invoke/MethodHandle" ∧ y.cls ≠ "java/lang/invoke/VarHandle" ∧ (parseMethodDescriptor y.desc).map (fun d => d.parameters.length) = some As.length) (hR : fr + 1 ≤ R.frames ∧ 8 + (nL' + 11) + lo ≤ R.locals) (hcs : cells ≤ R.cells ∧ slots ≤ R.slots) (hrest : (rest.map fun v => v.category).sum ≤ 8) (hdg : decode cc pc = .ok (.invokestatic index, 3))
    (kk : ∀ (H1 : Heap) (locs1 : List Loc), WD D A s.heap H1 locs1 S → W p l e R s m args below meth c H1 locs1 cells slots Q (F0 m (pc + 3) ls rest)) : W p l e R s m args below meth c H locs cells slots Q (F0 m pc ls (As.reverse ++ rest)) := by
  have hp : (List.range S.length).isPerm (List.range S.length) = true := List.isPerm_iff.mpr (List.Perm.refl _)
  obtain ⟨cP, cD, cF, back⟩ := split_call (C0 := []) (C1 := []) (Rr := S) (S' := S) h hp (pick_range S) (pick_range S) rfl
  have hts := F.2.2.2.2.1
  refine va_callv (va_runS (As := As) (rest := rest) ⟨F.1, F.2.1, F.2.2.1, F.2.2.2.1, hts⟩ (hM H.size) ⟨callB_of As.length hts (good_code hcode) rfl rfl rfl (hts _ hw.2.2) (hts _ hw.1) hd hR, hts _ hw.2.1⟩ ⟨PzS_blind, fun U hU hW => PzS_in F hZ h U hU hW⟩ rfl rfl hlv.1 rfl (lv_room hrest) hdg ⟨hcs.1, hcs.2⟩) h.2.2.1 (fun q _ h9 => cF q h9) cF (fun u t H1 locs1 ht hvm hw hB hz1 hk1 hS1 => ?_)
  obtain ⟨b1, b2⟩ := hB
  rw [ht] at b1
  exact kk H1 locs1 (back H1 locs1 b1 b2 hk1 hS1)
theorem z_ret {r : Int32} {ty : FieldType} (F : FX p s m args meth c cc own nL (some ty) D K) (h : WD D A s.heap H locs S) (hr : narrow ty (.int r) = .int r) (hdg : decode cc pc = .ok (.ireturn, 1)) : W p l e R s m args below meth c H locs cells slots (MQ below (QiS D A S r) args s cells slots A) (F0 m pc ls [.int r]) :=
  W.zret F.1 F.2.1 F.2.2.2.2.2.2.2.1 hr (fun t ht _ => ⟨⟨r, (), rfl, rfl, by rw [ht]; exact h.1, h.2.1⟩, h.2.2.1.F ht⟩) h.2.2.1.2.2 hdg F.2.2.2.2.2.2.2.2
end ZROWS
/-! the methods -/
theorem z_coder (l : Launch) (D : va_G) (K : Nat → ClassId) (q v : Nat) (bs : List Int32) : CTz l yJ0_coder_7d493 cJ0_coder_7d493 1 (some .byte) 0 0 D K [.ref q] q v bs 0 := by
  intro sz
  refine entZ (Q := fun A => QiS D A [] 0) (by decide) (Nat.le_of_ble_eq_true rfl) (fun p e s m args below meth c A ls F hZ h hl => ?_)
  have hx := F.1
  have hb := F.2.1
  have hts := F.2.2.2.2.1
  have hl : lv_has ls 1 [(0, .ref q)] := hl
  refine va_gets hx hb hZ.2.2.2.2.1 h.2.2.1 F.2.2.2.1 (hts _ zw_0) (fun _ h9 => h9) dJ0_coder_7d493_0 ?_
  refine lv_if_eq (tgt := 13) hx hb dJ0_coder_7d493_3 (by decide) (fun c1 => absurd c1 (by decide)) (fun _ => ?_)
  refine lv_aload_n hx hb dJ0_coder_7d493_6 rfl (lv_at hl 0 rfl) ?_
  refine vk_getf hx hb hZ.2.1 h.2.2.1 F.2.2.2.1 (hts _ zw_1) (fun _ h9 => h9) dJ0_coder_7d493_7 ?_
  refine lv_goto (tgt := 14) hx hb dJ0_coder_7d493_10 (by decide) ?_
  exact z_ret F h rfl dJ0_coder_7d493_14
theorem z_isLatin1 (l : Launch) (D : va_G) (K : Nat → ClassId) (q v : Nat) (bs : List Int32) : CTz l yJ0_isLatin1_aae02 cJ0_isLatin1_aae02 1 (some .boolean) 0 0 D K [.ref q] q v bs 1 := by
  intro sz
  refine entZ (Q := fun A => QiS D A [] 1) (by decide) (Nat.le_of_ble_eq_true rfl) (fun p e s m args below meth c A ls F hZ h hl => ?_)
  have hx := F.1
  have hb := F.2.1
  have hts := F.2.2.2.2.1
  have hl : lv_has ls 1 [(0, .ref q)] := hl
  refine va_gets hx hb hZ.2.2.2.2.1 h.2.2.1 F.2.2.2.1 (hts _ zw_0) (fun _ h9 => h9) dJ0_isLatin1_aae02_0 ?_
  refine lv_if_eq (tgt := 17) hx hb dJ0_isLatin1_aae02_3 (by decide) (fun c1 => absurd c1 (by decide)) (fun _ => ?_)
  refine lv_aload_n hx hb dJ0_isLatin1_aae02_6 rfl (lv_at hl 0 rfl) ?_
  refine vk_getf hx hb hZ.2.1 h.2.2.1 F.2.2.2.1 (hts _ zw_1) (fun _ h9 => h9) dJ0_isLatin1_aae02_7 ?_
  refine lv_if_ne (tgt := 17) hx hb dJ0_isLatin1_aae02_10 (by decide) (fun c1 => absurd rfl c1) (fun _ => ?_)
  refine lv_iconst (v := 1) hx hb dJ0_isLatin1_aae02_13 (by decide) ?_
  refine lv_goto (tgt := 18) hx hb dJ0_isLatin1_aae02_14 (by decide) ?_
  exact z_ret F h rfl dJ0_isLatin1_aae02_18
theorem z_checkIndex3 (l : Launch) (D : va_G) (K : Nat → ClassId) (q v : Nat) (bs : List Int32) (i n : Int32) (w : Value) (hw : w = .null ∨ ∃ t, w = .ref t) (h0 : ¬ i < 0) (h1 : i < n) : CTz l yJ3_checkIndex_8e157 cJ3_checkIndex_8e157 3 (some .int) 0 0 D K [.int i, .int n, w] q v bs i := by
  have key : ∀ av, av = ([.int i, .int n, w] : List Value) → (lg_sl av).length ≤ 3 → CTz l yJ3_checkIndex_8e157 cJ3_checkIndex_8e157 3 (some .int) 0 0 D K av q v bs i := by
    intro av hav hlen sz
    refine entZ (Q := fun A => QiS D A [] i) (by decide) hlen (fun p e s m args below meth c A ls F hZ h hl => ?_)
    have hx := F.1
    have hb := F.2.1
    have hl : lv_has ls 3 [(0, .int i), (1, .int n), (2, w)] := by rw [hav] at hl; exact hl
    refine lv_iload_n hx hb dJ3_checkIndex_8e157_0 rfl (lv_at hl 0 rfl) ?_
    refine lv_if_lt (tgt := 9) hx hb dJ3_checkIndex_8e157_1 (by decide) (fun c1 => absurd c1 h0) (fun _ => ?_)
    refine lv_iload_n hx hb dJ3_checkIndex_8e157_4 rfl (lv_at hl 0 rfl) ?_
    refine lv_iload_n hx hb dJ3_checkIndex_8e157_5 rfl (lv_at hl 1 rfl) ?_
    refine lv_icmp_lt (tgt := 16) hx hb dJ3_checkIndex_8e157_6 (by decide) (fun _ => ?_) (fun c1 => absurd h1 c1)
    refine lv_iload_n hx hb dJ3_checkIndex_8e157_16 rfl (lv_at hl 0 rfl) ?_
    exact z_ret F h rfl dJ3_checkIndex_8e157_17
  rcases hw with rfl | ⟨t, rfl⟩
  · exact key _ rfl (Nat.le_of_ble_eq_true rfl)
  · exact key _ rfl (Nat.le_of_ble_eq_true rfl)
theorem hsz_3 : yJ3_checkIndex_8e157.cls ≠ "java/lang/invoke/MethodHandle" ∧ yJ3_checkIndex_8e157.cls ≠ "java/lang/invoke/VarHandle" ∧ (parseMethodDescriptor yJ3_checkIndex_8e157.desc).map (fun d => d.parameters.length) = some 3 := by decide +kernel
theorem hsz_2 : yJ0_checkIndex_df160.cls ≠ "java/lang/invoke/MethodHandle" ∧ yJ0_checkIndex_df160.cls ≠ "java/lang/invoke/VarHandle" ∧ (parseMethodDescriptor yJ0_checkIndex_df160.desc).map (fun d => d.parameters.length) = some 2 := by decide +kernel
theorem hsz_1 : yJ1_charAt_3b067.cls ≠ "java/lang/invoke/MethodHandle" ∧ yJ1_charAt_3b067.cls ≠ "java/lang/invoke/VarHandle" ∧ (parseMethodDescriptor yJ1_charAt_3b067.desc).map (fun d => d.parameters.length) = some 2 := by decide +kernel
theorem hsz_c : yJ0_coder_7d493.cls = "java/lang/String" ∧ yJ0_coder_7d493.cls ≠ "java/lang/invoke/MethodHandle" ∧ yJ0_coder_7d493.cls ≠ "java/lang/invoke/VarHandle" ∧ (parseMethodDescriptor yJ0_coder_7d493.desc).map (fun d => d.parameters.length) = some 0 := by decide +kernel
theorem hsz_i : yJ0_isLatin1_aae02.cls = "java/lang/String" ∧ yJ0_isLatin1_aae02.cls ≠ "java/lang/invoke/MethodHandle" ∧ yJ0_isLatin1_aae02.cls ≠ "java/lang/invoke/VarHandle" ∧ (parseMethodDescriptor yJ0_isLatin1_aae02.desc).map (fun d => d.parameters.length) = some 0 := by decide +kernel
theorem hsz_l : yJ0_length_8abf5.cls = "java/lang/String" ∧ yJ0_length_8abf5.cls ≠ "java/lang/invoke/MethodHandle" ∧ yJ0_length_8abf5.cls ≠ "java/lang/invoke/VarHandle" ∧ (parseMethodDescriptor yJ0_length_8abf5.desc).map (fun d => d.parameters.length) = some 0 := by decide +kernel
theorem hsz_a : yJ0_charAt_5068e.cls = "java/lang/String" ∧ yJ0_charAt_5068e.cls ≠ "java/lang/invoke/MethodHandle" ∧ yJ0_charAt_5068e.cls ≠ "java/lang/invoke/VarHandle" ∧ (parseMethodDescriptor yJ0_charAt_5068e.desc).map (fun d => d.parameters.length) = some 1 := by decide +kernel
theorem z_checkIndex (l : Launch) (D : va_G) (K : Nat → ClassId) (q v : Nat) (bs : List Int32) (i n : Int32) (h0 : ¬ i < 0) (h1 : i < n) : CTzv l yJ0_checkIndex_df160 cJ0_checkIndex_df160 2 1 24 D K [.int i, .int n] q v bs := by
  intro sz
  refine entZ (Q := fun A => QvS D A []) (by decide) (Nat.le_of_ble_eq_true rfl) (fun p e s m args below meth c A ls F hZ h hl => ?_)
  have hx := F.1
  have hb := F.2.1
  have hts := F.2.2.2.2.1
  have hl : lv_has ls 2 [(0, .int i), (1, .int n)] := hl
  refine lv_iload_n hx hb dJ0_checkIndex_df160_0 rfl (lv_at hl 0 rfl) ?_
  refine lv_iload_n hx hb dJ0_checkIndex_df160_1 rfl (lv_at hl 1 rfl) ?_
  have go : ∀ (H : Heap) (locs : List Loc) (w : Value), (w = .null ∨ ∃ t, w = .ref t) → w.category = 1 → WD D A s.heap H locs [] → W p l e (rmS 1 24) s m args below meth c H locs 0 0 (MQ below (QvS D A []) args s 0 0 A) (F0 m 5 ls [w, .int n, .int i]) := by
    intro H locs w hw hcat h
    refine z_callS (As := [.int i, .int n, w]) (rest := []) F hZ h hl (z_checkIndex3 l D K q v bs i n w hw h0 h1) zw_2 ⟨zw_3, zw_4, zw_5⟩ hsz_3 ⟨Nat.le_of_ble_eq_true rfl, Nat.le_of_ble_eq_true rfl⟩ ⟨Nat.le_refl 0, Nat.le_refl 0⟩ (Nat.le_of_ble_eq_true rfl) dJ0_checkIndex_df160_5 (fun H locs h => ?_)
    refine lv_pop hx hb dJ0_checkIndex_df160_8 rfl ?_
    exact r_retv F h dJ0_checkIndex_df160_9
  rcases hZ.2.2.2.2.2 with hz | ⟨t, hz⟩
  · refine va_gets hx hb hz h.2.2.1 F.2.2.2.1 (hts _ zw_6) (fun _ h9 => h9) dJ0_checkIndex_df160_2 ?_
    exact go _ _ _ (Or.inl rfl) rfl h
  · refine va_gets hx hb hz h.2.2.1 F.2.2.2.1 (hts _ zw_6) (fun _ h9 => h9) dJ0_checkIndex_df160_2 ?_
    exact go _ _ _ (Or.inr ⟨t, rfl⟩) rfl h
theorem z_charAt1 (l : Launch) (D : va_G) (K : Nat → ClassId) (q v : Nat) (bs : List Int32) (k : Nat) (hk : k < bs.length) (hb2 : bs.length < 2 ^ 31) (r : Int32) (hr : (((bs.getD k 0) &&& 255).toUInt32 % 65536).toInt32 = r) (hn : narrow .char (.int r) = .int r) : CTz l yJ1_charAt_3b067 cJ1_charAt_3b067 2 (some .char) 2 47 D K [.ref v, .int (nI k)] q v bs r := by
  intro sz
  refine entZ (Q := fun A => QiS D A [] r) (by decide) (Nat.le_of_ble_eq_true rfl) (fun p e s m args below meth c A ls F hZ h hl => ?_)
  have hx := F.1
  have hb := F.2.1
  have hl : lv_has ls 2 [(0, .ref v), (1, .int (nI k))] := hl
  refine lv_iload_n hx hb dJ1_charAt_3b067_0 rfl (lv_at hl 1 rfl) ?_
  refine lv_aload_n hx hb dJ1_charAt_3b067_1 rfl (lv_at hl 0 rfl) ?_
  refine va_tlen (v := nI bs.length) hx hb hZ.2.2.2.1 h.2.2.1 rfl dJ1_charAt_3b067_2 ?_
  refine z_callSv (As := [.int (nI k), .int (nI bs.length)]) (rest := []) F hZ h hl (z_checkIndex l D K q v bs (nI k) (nI bs.length) (nI_pos (by omega)) (nI_lt hk hb2)) zw_7 ⟨zw_8, zw_9, zw_10⟩ hsz_2 ⟨Nat.le_of_ble_eq_true rfl, Nat.le_of_ble_eq_true rfl⟩ ⟨Nat.le_refl 0, Nat.le_refl 0⟩ (Nat.le_of_ble_eq_true rfl) dJ1_charAt_3b067_3 (fun H locs h => ?_)
  refine lv_aload_n hx hb dJ1_charAt_3b067_6 rfl (lv_at hl 0 rfl) ?_
  refine lv_iload_n hx hb dJ1_charAt_3b067_7 rfl (lv_at hl 1 rfl) ?_
  refine va_tb (v := .int (bs.getD k 0)) hx hb hZ.2.2.2.1 h.2.2.1 (vp_in_nI hk hb2) (by show Value.int (bs.getD (nI k).toNatClampNeg 0) = _; rw [nI_clamp (by omega)]) dJ1_charAt_3b067_8 ?_
  refine lv_sipush (v := 255) hx hb dJ1_charAt_3b067_9 (by decide) ?_
  refine lv_iand hx hb dJ1_charAt_3b067_12 ?_
  refine lv_i2c hx hb dJ1_charAt_3b067_13 rfl ?_
  rw [hr]
  exact z_ret F h hn dJ1_charAt_3b067_14
theorem z_charAt (l : Launch) (D : va_G) (K : Nat → ClassId) (q v : Nat) (bs : List Int32) (k : Nat) (hk : k < bs.length) (hb2 : bs.length < 2 ^ 31) (r : Int32) (hr : (((bs.getD k 0) &&& 255).toUInt32 % 65536).toInt32 = r) (hn : narrow .char (.int r) = .int r) : CTz l yJ0_charAt_5068e cJ0_charAt_5068e 2 (some .char) 3 70 D K [.ref q, .int (nI k)] q v bs r := by
  intro sz
  refine entZ (Q := fun A => QiS D A [] r) (by decide) (Nat.le_of_ble_eq_true rfl) (fun p e s m args below meth c A ls F hZ h hl => ?_)
  have hx := F.1
  have hb := F.2.1
  have hts := F.2.2.2.2.1
  have hl : lv_has ls 2 [(0, .ref q), (1, .int (nI k))] := hl
  refine lv_aload_n hx hb dJ0_charAt_5068e_0 rfl (lv_at hl 0 rfl) ?_
  refine z_callV (As := []) (rest := []) F hZ h hl (z_isLatin1 l D K q v bs) zw_11 ⟨zw_12, zw_13, zw_14, zw_10⟩ hsz_i ⟨Nat.le_of_ble_eq_true rfl, Nat.le_of_ble_eq_true rfl⟩ ⟨Nat.le_refl 0, Nat.le_refl 0⟩ (Nat.le_of_ble_eq_true rfl) dJ0_charAt_5068e_1 (fun H locs h => ?_)
  refine lv_if_eq (tgt := 16) hx hb dJ0_charAt_5068e_4 (by decide) (fun c1 => absurd c1 (by decide)) (fun _ => ?_)
  refine lv_aload_n hx hb dJ0_charAt_5068e_7 rfl (lv_at hl 0 rfl) ?_
  refine vk_getf hx hb hZ.2.2.1 h.2.2.1 F.2.2.2.1 (hts _ zw_15) (fun _ h9 => h9) dJ0_charAt_5068e_8 ?_
  refine lv_iload_n hx hb dJ0_charAt_5068e_11 rfl (lv_at hl 1 rfl) ?_
  refine z_callS (As := [.ref v, .int (nI k)]) (rest := []) F hZ h hl (z_charAt1 l D K q v bs k hk hb2 r hr hn) zw_16 ⟨zw_17, zw_18, zw_19⟩ hsz_1 ⟨Nat.le_of_ble_eq_true rfl, Nat.le_of_ble_eq_true rfl⟩ ⟨Nat.le_refl 0, Nat.le_refl 0⟩ (Nat.le_of_ble_eq_true rfl) dJ0_charAt_5068e_12 (fun H locs h => ?_)
  exact z_ret F h hn dJ0_charAt_5068e_15
theorem z_length (l : Launch) (D : va_G) (K : Nat → ClassId) (q v : Nat) (bs : List Int32) (hb2 : bs.length < 2 ^ 31) : CTz l yJ0_length_8abf5 cJ0_length_8abf5 1 (some .int) 1 24 D K [.ref q] q v bs (nI bs.length >>> ((0 : Int32) &&& 31)) := by
  intro sz
  refine entZ (Q := fun A => QiS D A [] (nI bs.length >>> ((0 : Int32) &&& 31))) (by decide) (Nat.le_of_ble_eq_true rfl) (fun p e s m args below meth c A ls F hZ h hl => ?_)
  have hx := F.1
  have hb := F.2.1
  have hts := F.2.2.2.2.1
  have hl : lv_has ls 1 [(0, .ref q)] := hl
  refine lv_aload_n hx hb dJ0_length_8abf5_0 rfl (lv_at hl 0 rfl) ?_
  refine vk_getf hx hb hZ.2.2.1 h.2.2.1 F.2.2.2.1 (hts _ zw_15) (fun _ h9 => h9) dJ0_length_8abf5_1 ?_
  refine va_tlen (v := nI bs.length) hx hb hZ.2.2.2.1 h.2.2.1 rfl dJ0_length_8abf5_4 ?_
  refine lv_aload_n hx hb dJ0_length_8abf5_5 rfl (lv_at hl 0 rfl) ?_
  refine z_callV (As := []) (rest := [.int (nI bs.length)]) F hZ h hl (z_coder l D K q v bs) zw_20 ⟨zw_21, zw_22, zw_23, zw_10⟩ hsz_c ⟨Nat.le_of_ble_eq_true rfl, Nat.le_of_ble_eq_true rfl⟩ ⟨Nat.le_refl 0, Nat.le_refl 0⟩ (Nat.le_of_ble_eq_true rfl) dJ0_length_8abf5_6 (fun H locs h => ?_)
  refine lv_ishr hx hb dJ0_length_8abf5_9 ?_
  exact r_reti F h dJ0_length_8abf5_10
