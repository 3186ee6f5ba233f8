theorem zw_370 : Cond.instantiable RX5 16 ∈ TBL := tk_1 16 (by decide +kernel) (by decide +kernel)
theorem zw_371 : Cond.instantiable RX6 38 ∈ TBL := tk_4 57 (by decide +kernel) (by decide +kernel)
theorem zw_372 : Cond.code yX5_init cX5_init 2 none ∈ TBL := tk_1 19 (by decide +kernel) (by decide +kernel)
theorem zw_373 : Cond.methodLink RL 9 yX5_init ∈ TBL := tk_1 17 (by decide +kernel) (by decide +kernel)
theorem zw_374 : Cond.instanceMethod yX5_init ∈ TBL := tk_1 18 (by decide +kernel) (by decide +kernel)
/-! the law's start: what the tables and the text constant say -/
theorem ta_1 {w : Cond} (i : Nat) (h : tables_1_1[i]? = some w) : w ∈ lw_tbl := tab_in (List.mem_append_left _ (List.mem_of_getElem? h))
theorem ta_2 {w : Cond} (i : Nat) (h : tables_1_2[i]? = some w) : w ∈ lw_tbl := tab_in (List.mem_append_right _ (List.mem_append_left _ (List.mem_of_getElem? h)))
theorem ta_3 {w : Cond} (i : Nat) (h : tables_1_3[i]? = some w) : w ∈ lw_tbl := tab_in (List.mem_append_right _ (List.mem_append_right _ (List.mem_append_left _ (List.mem_of_getElem? h))))
theorem arr_of {U : State} {a : Array Value} {ty : FieldType} (h : (Cond.arrayClass ty).before a U = true) : ∃ cA : ClassId, ArrOfT U cA ty ∧ U.vm.findClass ("[" ++ ty.toString) = some cA := by
  obtain ⟨cA, kA, comp, h1, h2, h3⟩ := Cond.arrayClass_spec h
  exact ⟨cA, fun n z => ⟨fun k h => (by cases h), kA, h2, comp, h3⟩, h1⟩
theorem K_start {s : State} {args : Array Value} (hts : ∀ w ∈ lw_tbl, w.before args s = true) : ∃ (D : va_G) (K : Nat → ClassId), va_K D vwCl (tys K) s := by
  have ht : ∀ w ∈ TBL, w.before args s = true := fun w hw => hts w (tbl_lw hw)
  obtain ⟨c0, i0, k0⟩ := u_known (C := RX0) (T := TX0) (N := 11) ht inX0 (ht _ zw_109)
  obtain ⟨c1, i1, k1⟩ := u_known (C := RX1) (T := TX1) (N := 3) ht inX1 (ht _ zw_123)
  obtain ⟨c2, i2, k2⟩ := u_known (C := RX2) (T := TX2) (N := 7) ht inX2 (ht _ zw_117)
  obtain ⟨c3, i3, k3⟩ := u_known (C := RX3) (T := TX3) (N := 4) ht inX3 (ht _ zw_103)
  obtain ⟨c4, i4, k4⟩ := u_known (C := RX4) (T := TX4) (N := 16) ht inX4 (ht _ zw_82)
  obtain ⟨c5, i5, k5⟩ := u_known (C := RX5) (T := TX5) (N := 16) ht inX5 (ht _ zw_370)
  obtain ⟨c6, i6, k6⟩ := u_known (C := RX6) (T := TX6) (N := 38) ht inX6 (ht _ zw_371)
  obtain ⟨a0, b0, e0⟩ := arr_of (hts (.arrayClass .int) (ta_1 44 (by decide +kernel)))
  obtain ⟨a1, b1, e1⟩ := arr_of (hts (.arrayClass .boolean) (ta_1 151 (by decide +kernel)))
  obtain ⟨a2, b2, e2⟩ := arr_of (hts (.arrayClass .char) (ta_1 43 (by decide +kernel)))
  obtain ⟨a4, b4, e4⟩ := arr_of (hts (.arrayClass .long) (ta_1 199 (by decide +kernel)))
  obtain ⟨comp, a3, k, h1, -, h3, h4, h5⟩ := Cond.arrayOver_spec (hts (.arrayOver (.object RX4)) (ta_1 152 (by decide +kernel)))
  have b3 : ArrOfT s a3 (.object RX4) := fun n z => ⟨fun k h => (by cases h), k, h3, comp, h4⟩
  refine ⟨(fun j => if j = 0 then c0 else if j = 1 then c1 else if j = 2 then c2 else if j = 3 then c3 else if j = 4 then c4 else if j = 5 then c5 else c6, fun j => if j = 0 then i0 else if j = 1 then i1 else if j = 2 then i2 else if j = 3 then i3 else if j = 4 then i4 else if j = 5 then i5 else i6), fun j => if j = 0 then a0 else if j = 1 then a1 else if j = 2 then a2 else if j = 3 then a3 else a4, fun j q hq => ?_, fun j q hq => ?_⟩
  · match j, hq with
    | 0, hq => have e := Option.some.inj (show some (RX0, TX0, 11) = some q from hq); subst e; exact k0
    | 1, hq => have e := Option.some.inj (show some (RX1, TX1, 3) = some q from hq); subst e; exact k1
    | 2, hq => have e := Option.some.inj (show some (RX2, TX2, 7) = some q from hq); subst e; exact k2
    | 3, hq => have e := Option.some.inj (show some (RX3, TX3, 4) = some q from hq); subst e; exact k3
    | 4, hq => have e := Option.some.inj (show some (RX4, TX4, 16) = some q from hq); subst e; exact k4
    | 5, hq => have e := Option.some.inj (show some (RX5, TX5, 16) = some q from hq); subst e; exact k5
    | 6, hq => have e := Option.some.inj (show some (RX6, TX6, 38) = some q from hq); subst e; exact k6
    | j + 7, hq => have z : j + 7 < 7 := (List.getElem?_eq_some_iff.mp hq).1; omega
  · match j, hq with
    | 0, hq => have e := Option.some.inj (show some (a0, FieldType.int) = some q from hq); subst e; exact ⟨b0, e0⟩
    | 1, hq => have e := Option.some.inj (show some (a1, FieldType.boolean) = some q from hq); subst e; exact ⟨b1, e1⟩
    | 2, hq => have e := Option.some.inj (show some (a2, FieldType.char) = some q from hq); subst e; exact ⟨b2, e2⟩
    | 3, hq => have e := Option.some.inj (show some (a3, FieldType.object RX4) = some q from hq); subst e; exact ⟨b3, k, comp, h3, h4, h1, h5⟩
    | 4, hq => have e := Option.some.inj (show some (a4, FieldType.long) = some q from hq); subst e; exact ⟨b4, e4⟩
    | j + 5, hq => have z : j + 5 < 5 := (List.getElem?_eq_some_iff.mp hq).1; omega
theorem NW_start {s : State} {args : Array Value} (hts : ∀ w ∈ lw_tbl, w.before args s = true) : NW s := by
  have g : ∀ w ∈ lw_tbl, w.onTables = true → va_Nw w s := fun w hw ho => va_Nw.of ho (hts w hw)
  unfold NW nests
  refine List.forall_mem_cons.mpr ⟨g _ (ta_1 25 (by decide +kernel)) rfl, ?_⟩
  refine List.forall_mem_cons.mpr ⟨g _ (ta_1 47 (by decide +kernel)) rfl, ?_⟩
  refine List.forall_mem_cons.mpr ⟨g _ (ta_1 155 (by decide +kernel)) rfl, ?_⟩
  refine List.forall_mem_cons.mpr ⟨g _ (ta_1 202 (by decide +kernel)) rfl, ?_⟩
  refine List.forall_mem_cons.mpr ⟨g _ (ta_1 231 (by decide +kernel)) rfl, ?_⟩
  refine List.forall_mem_cons.mpr ⟨g _ (ta_3 106 (by decide +kernel)) rfl, ?_⟩
  refine List.forall_mem_cons.mpr ⟨g _ (ta_3 107 (by decide +kernel)) rfl, ?_⟩
  refine List.forall_mem_cons.mpr ⟨g _ (ta_3 122 (by decide +kernel)) rfl, ?_⟩
  refine List.forall_mem_cons.mpr ⟨g _ (ta_3 90 (by decide +kernel)) rfl, ?_⟩
  refine List.forall_mem_cons.mpr ⟨g _ (ta_3 200 (by decide +kernel)) rfl, ?_⟩
  refine List.forall_mem_cons.mpr ⟨g _ (ta_3 201 (by decide +kernel)) rfl, ?_⟩
  refine List.forall_mem_cons.mpr ⟨g _ (ta_3 206 (by decide +kernel)) rfl, ?_⟩
  refine List.forall_mem_cons.mpr ⟨g _ (ta_3 172 (by decide +kernel)) rfl, ?_⟩
  refine List.forall_mem_cons.mpr ⟨g _ (ta_3 173 (by decide +kernel)) rfl, ?_⟩
  refine List.forall_mem_cons.mpr ⟨g _ (ta_3 174 (by decide +kernel)) rfl, ?_⟩
  refine List.forall_mem_cons.mpr ⟨g _ (ta_2 99 (by decide +kernel)) rfl, ?_⟩
  refine List.forall_mem_cons.mpr ⟨g _ (ta_3 24 (by decide +kernel)) rfl, ?_⟩
  refine List.forall_mem_cons.mpr ⟨g _ (ta_3 30 (by decide +kernel)) rfl, ?_⟩
  refine List.forall_mem_cons.mpr ⟨g _ (ta_3 32 (by decide +kernel)) rfl, ?_⟩
  exact fun _ h => absurd h List.not_mem_nil
def tm0 : Term := .string RX5 60
def tx0 : String := "n2;r0,a,0,ba,2;r0,b,1,,1;r1,a,1,,3;r1,b,0,b,0;r1,a,0,c,5;r0,c,0,cc,1;r0,c,1,,4;t1,;t0,cc.;c0,aa;m0;"
theorem el_in : ∀ j, j < 99 → (Cond.eq (.elem (.field tm0 "java/lang/String" "value" "[B") (.int (Int32.ofNat j))) (.int (bs0.getD j 0))) ∈ flatC (Jvm.Cond.and given_1 narrow_1) := by decide +kernel
theorem STR_start {s : State} {args : Array Value} (hts : ∀ w ∈ lw_tbl, w.before args s = true) (hgv : (Jvm.Cond.and given_1 narrow_1).before args s = true) : ∃ q v, STR q v bs0 (fun q => s.heap.size ≤ q) s s.heap ∧ vk_R RX5 60 tx0 q s := by
  have hs := flat_of_before _ hgv
  have hA : ∀ a : Nat, a < s.heap.size → ¬ (fun q => s.heap.size ≤ q) a := fun a ha => Nat.not_le.mpr ha
  obtain ⟨ak, av, ⟨h0, -⟩, h1⟩ := vk_Sof (N := 1) (tm := fun _ => tm0) (len := [99]) (byt := [bs0]) (A := fun q => s.heap.size ≤ q) (args := args) (s := s) (fun i hi => by rw [show i = 0 by omega]; decide) (fun i hi => hs _ (by decide +kernel)) (fun i hi => hs _ (by decide +kernel)) (fun i hi => hs _ (by decide +kernel)) (fun i hi => by rw [show i = 0 by omega]; exact hs _ (by decide +kernel)) (fun i hi j hj => by rw [show i = 0 by omega] at hj ⊢; exact hs _ (el_in j hj)) (fun i j hi hj hij => absurd (show i = j by omega) hij) hA
  obtain ⟨g1, g2, g3, g4⟩ := h0 0 (by decide)
  have hz1 : (Cond.laysStatic "java/lang/String" "COMPACT_STRINGS" "Z").before args s = true := hts _ (ta_2 16 (by decide +kernel))
  have hz2 : (Cond.initialized "java/lang/String").before args s = true := hts _ (ta_1 7 (by decide +kernel))
  have hz3 : (Cond.eq (.static "java/lang/String" "COMPACT_STRINGS" "Z") (.int 1)).before args s = true := hs _ (by decide +kernel)
  have hz4 : (Cond.laysStatic "jdk/internal/util/Preconditions" "SIOOBE_FORMATTER" "Ljava/util/function/BiFunction;").before args s = true := hts _ (ta_2 32 (by decide +kernel))
  have hz5 : (Cond.initialized "jdk/internal/util/Preconditions").before args s = true := hts _ (ta_1 9 (by decide +kernel))
  have hz6 : (Cond.isRef (.static "jdk/internal/util/Preconditions" "SIOOBE_FORMATTER" "Ljava/util/function/BiFunction;")).before args s = true := hs _ (by decide +kernel)
  have hz7 : (Cond.stringRef RX5 60 tx0).before args s = true := hts _ (ta_2 6 (by decide +kernel))
  refine ⟨ak 0, av 0, ⟨g1, g2, g3, ?_, va_Zof hz1 hz2 (va_eqt hz3) hA, va_Zqof hz4 hz5 hz6 hA⟩, vk_R.of hz7 (h1 0 (by decide))⟩
  rw [bs0_len]
  exact g4
theorem PxS_blind {D : va_G} {K : Nat → ClassId} {hh sz q v : Nat} {tx : String} : FrameBlind (PxS D K hh sz q v tx) := by
  rintro a U g mk ⟨q0, q1, q2, q3, q4, q5, q6, q7, q8⟩
  exact ⟨q0, q1, q2, va_K.moved (u := U) (U := U.calling g mk a) (Vm.Alike.refl U.vm) q3, q4, NW.same rfl q5, STR.moved (u := U) (U := U.calling g mk a) (Vm.Alike.refl U.vm) q6, vk_R.same (u := U) (U := U.calling g mk a) rfl q7, va_AO.moved (u := U) (U := U.calling g mk a) (Vm.Alike.refl U.vm) q8⟩
theorem hsl5_init : yX5_init.cls ≠ "java/lang/invoke/MethodHandle" ∧ yX5_init.cls ≠ "java/lang/invoke/VarHandle" ∧ (parseMethodDescriptor yX5_init.desc).map (fun d => d.parameters.length) = some 0 := by decide +kernel
theorem hsl6_init : yX6_init.cls ≠ "java/lang/invoke/MethodHandle" ∧ yX6_init.cls ≠ "java/lang/invoke/VarHandle" ∧ (parseMethodDescriptor yX6_init.desc).map (fun d => d.parameters.length) = some 0 := by decide +kernel
section LAWSTART
variable {p : Program} {l : Launch} {e : Env} {s : State} {mi : MethodId} {b : Nat} {below : List Frame} {meth : Method} {c : Code} {Q : State → Prop} {D : va_G} {K : Nat → ClassId} {A : Nat → Prop} {H : Heap} {locs : List Loc} {cells slots : Nat} {ls : Array Slot} {rest : List Value} {lv : List (Nat × Value)}
theorem law_x5 {q v hh : Nat} {tx : String} (F : FX p s mi #[Value.ref b] meth c code RL 4 ret D K) (hZ : STR q v bs0 A s s.heap) (hR : vk_R RX5 60 tx q s) (hO : va_AO RX4 s) (h : WD D A s.heap H locs [[(hh, raw5)]]) (hlv : lv_has ls 4 lv) (hcs : cells + 163 ≤ room_1.cells ∧ slots + 8502 ≤ room_1.slots) (hrest : (rest.map fun v => v.category).sum ≤ 8)
    (kk : ∀ (H1 : Heap) (locs1 : List Loc) (aa : Nat → Nat → Nat) (sc now : ob), aa 0 0 = hh → sc.1 1 = nI 0 → TW now g0 → WD D A s.heap H1 locs1 (SX K aa sc now) → W p l e room_1 s mi #[Value.ref b] below meth c H1 locs1 (cells + 163) (slots + 8502) Q (F0 mi 7 ls rest)) : W p l e room_1 s mi #[Value.ref b] below meth c H locs cells slots Q (F0 mi 4 ls (.ref hh :: rest)) := by
  have hts := F.2.2.2.2.1
  obtain ⟨gP, gD, gS, gA⟩ := h
  have hF : ∀ q, va_A (WL [[(hh, raw5)]]) H.size q → A q := by
    intro q hq
    rcases hq with ⟨k, e, hk⟩ | hq
    · exact (D_iff.mp gD).2 (q, e) (List.mem_of_getElem? hk)
    · exact gA q (Nat.le_trans gS.1 hq)
  have hPre : ∀ U : State, U.heap = H → s.WarmedH U.vm → PxS D K hh H.size q v tx ([.ref hh] : List Value).toArray U := fun U hU hW => ⟨rfl, by rw [hU], by rw [hU]; exact gP, va_K.moved hW.alike F.2.2.2.2.2.1, D_iff.mpr ⟨(D_iff.mp gD).1, fun _ _ => trivial⟩, NW.warm hW F.2.2.2.2.2.2.1, by rw [hU]; exact STR.moved hW.alike ((hZ.kept gS.2.1).narrow hF), vk_R.warm hW hR, va_AO.moved hW.alike hO⟩
  refine va_callv (va_runI (As := []) (rest := rest) ⟨F.1, F.2.1, F.2.2.1, F.2.2.2.1, hts⟩ (kX5_init l D K hh q v tx H.size) (cwI 0 hts (good_code zw_372) rfl rfl rfl (hts _ zw_140) (hts _ zw_373) (hts _ zw_374) rfl hsl5_init ⟨Nat.le_of_ble_eq_true rfl, Nat.le_of_ble_eq_true rfl⟩) ⟨PxS_blind, hPre⟩ rfl rfl hlv.1 rfl (lv_room hrest) dL_law_4 ⟨hcs.1, hcs.2⟩) gS (fun q _ h9 => hF q h9) hF (fun u t H1 locs1 ht hvm hw hB hz1 hk1 hS1 => ?_)
  obtain ⟨aa, sc, now⟩ := u
  obtain ⟨w1, w2, w3⟩ := hw
  obtain ⟨b1, b2⟩ := hB
  rw [ht] at b1
  exact kk H1 locs1 aa sc now w1 w2 w3 ⟨b1, D_iff.mpr ⟨(D_iff.mp b2).1, fun q hq => hF q.1 ((D_iff.mp b2).2 q hq)⟩, hS1, gA⟩
/-- a constructor of another class on a bare object at the end of the world -/
theorem r_ctorI {R : Room} {args : Array Value} {cc : ByteArray} {own : String} {nL pc : Nat} {ret : Option FieldType} {H0 : Heap} {S : List va_W} {y : MethodName} {bc : ByteArray} {nL' fr lo mc ms index a : Nat} {raw : va_E} {S1 : (Nat → Nat) → List va_W} (F : FX p s mi args meth c cc own nL ret D K) (h : WD D A H0 H locs (S ++ [[(a, raw)]])) (hlv : lv_has ls nL lv) (hM : CTn l y bc nL' fr lo mc ms D K a raw S1)
    (hcode : Cond.code y bc nL' none ∈ TBL) (hw : Cond.methodLink own index y ∈ TBL ∧ Cond.instanceMethod y ∈ TBL ∧ Cond.initialized y.cls ∈ TBL) (hy : y.name = "<init>")
    (hd : y.cls ≠ "java/lang/invoke/MethodHandle" ∧ y.cls ≠ "java/lang/invoke/VarHandle" ∧ (parseMethodDescriptor y.desc).map (fun d => d.parameters.length) = some 0) (hR : fr + 1 ≤ R.frames ∧ 8 + (nL' + 11) + lo ≤ R.locals) (hcs : cells + mc ≤ R.cells ∧ slots + ms ≤ R.slots) (hrest : (rest.map fun v => v.category).sum ≤ 8) (hdg : decode cc pc = .ok (.invokespecial index, 3))
    (kk : ∀ (H1 : Heap) (locs1 : List Loc) (ad : Nat → Nat), WD D A H0 H1 locs1 (S ++ S1 ad) → W p l e R s mi args below meth c H1 locs1 (cells + mc) (slots + ms) Q (F0 mi (pc + 3) ls rest)) : W p l e R s mi args below meth c H locs cells slots Q (F0 mi pc ls (.ref a :: rest)) := by
  have hts := F.2.2.2.2.1
  obtain ⟨gP, gD, gS, gA⟩ := h
  have eW : WL (S ++ [[(a, raw)]]) = WL S ++ [(a, raw)] := WL_snoc S _
  rw [eW] at gP gD
  have pm : (WL S ++ [(a, raw)]).Perm ([(a, raw)] ++ WL S) := List.perm_append_comm
  have gP := P_perm pm gP
  have gD := D_perm pm gD
  have cP : va_P D vwCl (WL [[(a, raw)]]) H := P_of_mem (fun _ hq => List.mem_append_left _ hq) gP
  have cD : va_D A (WL [[(a, raw)]]) := by
    rw [D_iff] at gD ⊢
    rw [List.map_append, List.nodup_append] at gD
    exact ⟨gD.1.1, fun q hq => gD.2 q (List.mem_append_left _ hq)⟩
  have hF : ∀ q, va_A (WL [[(a, raw)]]) H.size q → A q := by
    intro q hq
    rcases hq with ⟨k, e, hk⟩ | hq
    · exact (D_iff.mp gD).2 (q, e) (List.mem_append_left _ (List.mem_of_getElem? hk))
    · exact gA q (Nat.le_trans gS.1 hq)
  refine va_callv (va_runI (As := []) (rest := rest) ⟨F.1, F.2.1, F.2.2.1, F.2.2.2.1, hts⟩ (hM H.size) (cwI 0 hts (good_code hcode) rfl rfl rfl (hts _ hw.2.2) (hts _ hw.1) (hts _ hw.2.1) hy hd hR) ⟨PcS_blind, fun U hU hW => PcS_in F.2.2.2.2.2.1 F.2.2.2.2.2.2.1 cP cD U hU hW⟩ rfl rfl hlv.1 rfl (lv_room hrest) hdg ⟨hcs.1, hcs.2⟩) gS (fun q _ h9 => hF q h9) hF (fun ad t H1 locs1 ht hvm hw hB hz1 hk1 hS1 => ?_)
  obtain ⟨b1, b2⟩ := hB
  rw [ht] at b1
  obtain ⟨jP, jD⟩ := join2 gP gD hk1 hF b1 b2
  have pm2 : (WL (S1 ad) ++ WL S).Perm (WL (S ++ S1 ad)) := by
    have e2 : WL (S ++ S1 ad) = WL S ++ WL (S1 ad) := List.flatten_append
    rw [e2]
    exact List.perm_append_comm
  exact kk H1 locs1 ad ⟨P_perm pm2 jP, D_perm pm2 jD, hS1, gA⟩
end LAWSTART
