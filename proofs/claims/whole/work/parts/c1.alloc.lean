/-! making objects and rows -/
theorem WL_snoc (S : List va_W) (w : va_W) : WL (S ++ [w]) = WL S ++ w := by
  unfold WL
  rw [List.flatten_append]
  simp
def QnS (D : va_G) (A : Nat → Prop) (S1 : (Nat → Nat) → List va_W) : Array Value → State → Outcome → State → Prop := va_Qv (fun (_ : Nat → Nat) => True) (fun a t => va_P D vwCl (WL (S1 a)) t.heap ∧ va_D A (WL (S1 a))) A
abbrev rmN (fr lo mc ms : Nat) : Room := { frames := fr, cells := mc, slots := ms, locals := lo }
/-- a constructor: from the bare object to the object with its rows -/
def CTn (l : Launch) (y : MethodName) (b : ByteArray) (nL fr lo mc ms : Nat) (D : va_G) (K : Nat → ClassId) (h : Nat) (raw : va_E) (S1 : (Nat → Nat) → List va_W) : Prop :=
  ∀ sz, Met l y (.code y b nL none :: TBL) (rmN fr lo mc ms) (PcS D K [.ref h] [[(h, raw)]] sz) (QnS D (va_A (WL [[(h, raw)]]) sz) S1) mc ms (va_A (WL [[(h, raw)]]) sz)
def zo : ob := (fun _ => 0, fun _ _ => 0)
def ah (h : Nat) (a : Nat → Nat) (k : Nat) : Nat := if k = 0 then h else a k
theorem entN {l : Launch} {y : MethodName} {b : ByteArray} {nL fr lo mc ms : Nat} {D : va_G} {K : Nat → ClassId} {av : List Value} {S0 : List va_W} {sz : Nat} {Q : (Nat → Prop) → Array Value → State → Outcome → State → Prop} (hy : plainName y.cls = true) (hn : (lg_sl av).length ≤ nL)
    (body : ∀ (p : Program) (e : Env) (s : State) (m : MethodId) (args : Array Value) (below : List Frame) (meth : Method) (c : Code) (A : Nat → Prop) (ls : Array Slot), FX p s m args meth c b y.cls nL none D K → WD D A s.heap s.heap [] S0 → lv_has ls nL (lv_args 0 av) → (y.name = "<init>" → meth.name = "<init>") →
      W p l e (rmN fr lo mc ms) s m args below meth c s.heap [] 0 0 (MQ below (Q A) args s mc ms A) (F0 m 0 ls [])) : Met l y (.code y b nL none :: TBL) (rmN fr lo mc ms) (PcS D K av S0 sz) (Q (va_A (WL S0) sz)) mc ms (va_A (WL S0) sz) := by
  refine Met.ofW (cc := b) (maxL := nL) (ret := none) hy rfl ?_
  intro p e s m args below meth c s₁ B hml hv
  obtain ⟨rfl, hsz, hP, hK, hD0, hN⟩ := hv
  have hts := atoms_spec (ws := .code y b nL none :: TBL) B.pre
  have hown : s.vm.findClass y.cls = some m.cls := findClass_of_methodNamed B.named
  have hlocks := B.notSynchronized
  subst hsz
  have hD := hD0.self (sz := s.heap.size)
  have hA : ∀ q : Nat, s.heap.size ≤ q → va_A (WL S0) s.heap.size q := fun q h => Or.inr h
  have hl := lv_entry av hn
  have F : FX p s m av.toArray meth c b y.cls nL none D K := ⟨B.exec, B.bytes, hml, hown, fun w hw => hts w (List.mem_cons_of_mem _ hw), hK, hN, B.returns, hlocks⟩
  rw [lg_entry_eq]
  exact body p e s m av.toArray below meth c _ _ F ⟨hP, hD, va_S.rf, hA⟩ hl (fun hn => by rw [← hn]; exact (name_of_methodNamed B.named B.method).1)
section AROWS
variable {p : Program} {l : Launch} {e : Env} {R : Room} {s : State} {m : MethodId} {args : Array Value} {below : List Frame} {meth : Method} {c : Code} {H : Heap} {locs : List Loc} {cells slots : Nat} {Q : State → Prop}
variable {pc : Nat} {ls : Array Slot} {rest : List Value} {cc : ByteArray} {own : String} {nL : Nat} {ret : Option FieldType} {D : va_G} {K : Nat → ClassId} {A : Nat → Prop} {H0 : Heap} {S : List va_W}
theorem r_obj (F : FX p s m args meth c cc own nL ret D K) {idx a : Nat} {lv : List (Nat × Value)} (hlv : lv_has ls nL lv) (hw : Cond.methodLink own idx objectInit ∈ TBL ∧ Cond.instanceMethod objectInit ∈ TBL ∧ Cond.code objectInit ⟨#[0xb1]⟩ 1 none ∈ TBL) (hR : 1 ≤ R.frames ∧ (rest.map fun v => v.category).sum + 12 ≤ R.locals) (hdg : decode cc pc = .ok (.invokespecial idx, 3))
    (kk : W p l e R s m args below meth c H locs cells slots Q (F0 m (pc + 3) ls rest)) : W p l e R s m args below meth c H locs cells slots Q (F0 m pc ls (.ref a :: rest)) := by
  have hts := F.2.2.2.2.1
  exact W.objInit F.1 F.2.1 F.2.2.2.1 (hts _ hw.1) (hts _ hw.2.1) (hts _ hw.2.2) rfl (by rw [F.2.2.1]; exact hlv.1) rfl hdg hR.1 (by show 2 * 0 + _ + 12 ≤ _; have := hR.2; omega) (W.eq (g2 := F0 m (pc + 3) ls rest) rfl kk)
theorem r_new (F : FX p s m args meth c cc own nL ret D K) (h : WD D A H0 H locs S) {ci N index : Nat} {C : String} {T : u_T} {ty : Nat → FieldType} {fs : List Value} (hin : ∀ w ∈ u_ws C T N, w ∈ TBL) (hty : ∀ k, k < N → parseFieldDescriptor (T k).2.2.1 = some (ty k)) (hc : vwCl[ci]? = some (C, T, N)) (hfs : ∀ j, j < N → defaultValue (ty j) = vp_V fs j) (hw : Cond.classLink own index C ∈ TBL ∧ Cond.instantiable C N ∈ TBL ∧ Cond.initialized C ∈ TBL) (hcs : cells + 1 ≤ R.cells ∧ slots + N ≤ R.slots) (hdg : decode cc pc = .ok (.new index, 3))
    (kk : ∀ (q : Nat) (H1 : Heap), WD D A H0 H1 locs (S ++ [[(q, .inr (ci, fs))]]) → W p l e R s m args below meth c H1 locs (cells + 1) (slots + N) Q (F0 m (pc + 3) ls (.ref q :: rest))) : W p l e R s m args below meth c H locs cells slots Q (F0 m pc ls rest) := by
  have hts := F.2.2.2.2.1
  refine va_new (ci := ci) (fs := fs) F.1 F.2.1 hts hin ty hty F.2.2.2.1 (hts _ hw.1) (hts _ hw.2.1) (hts _ hw.2.2) F.2.2.2.2.2.1 h.1 h.2.1 h.2.2.1 h.2.2.2 hc hfs hcs.1 hcs.2 hdg (fun q H1 hP hD hS => kk q H1 ?_)
  refine ⟨?_, ?_, hS, h.2.2.2⟩
  · rw [WL_snoc]; exact hP
  · rw [WL_snoc]; exact hD
theorem r_newaI (F : FX p s m args meth c cc own nL ret D K) (h : WD D A H0 H locs S) {n : Int32} {N' : Nat} (hw : Cond.arrayClass .int ∈ TBL) (hn : ¬ n < 0) (hN : n.toNatClampNeg = N') (hbytes : N' * componentBytes .int ≤ 536870912) (hcs : cells + 1 ≤ R.cells ∧ slots + N' ≤ R.slots) (hdg : decode cc pc = .ok (.newarray .int, 2))
    (kk : ∀ (q : Nat) (H1 : Heap), WD D A H0 H1 locs (S ++ [[(q, .inl (K 0, N', .inl (fun _ => 0)))]]) → W p l e R s m args below meth c H1 locs (cells + 1) (slots + N') Q (F0 m (pc + 2) ls (.ref q :: rest))) : W p l e R s m args below meth c H locs cells slots Q (F0 m pc ls (.int n :: rest)) := by
  have hts := F.2.2.2.2.1
  have hK := F.2.2.2.2.2.1
  refine va_newa (atype := .int) (ty := .int) (a0 := (N', .inl (fun _ => 0))) F.1 F.2.1 (hts _ hw) rfl hK h.1 h.2.1 h.2.2.1 h.2.2.2 (fun cA => rfl) hn hN hbytes hcs.1 hcs.2 hdg (fun q cA H1 hK1 hP hD hS => kk q H1 ?_)
  have e : cA = K 0 := Option.some.inj ((va_nm_int (hK1.2 5 (cA, .int) rfl).2).symm.trans (va_nm_int (hK.2 0 (K 0, .int) rfl).2))
  subst e
  refine ⟨?_, ?_, hS, h.2.2.2⟩
  · rw [WL_snoc]; exact hP
  · rw [WL_snoc]; exact hD
theorem r_newaZ (F : FX p s m args meth c cc own nL ret D K) (h : WD D A H0 H locs S) {n : Int32} {N' : Nat} (hw : Cond.arrayClass .boolean ∈ TBL) (hn : ¬ n < 0) (hN : n.toNatClampNeg = N') (hbytes : N' * componentBytes .boolean ≤ 536870912) (hcs : cells + 1 ≤ R.cells ∧ slots + N' ≤ R.slots) (hdg : decode cc pc = .ok (.newarray .boolean, 2))
    (kk : ∀ (q : Nat) (H1 : Heap), WD D A H0 H1 locs (S ++ [[(q, .inl (K 1, N', .inl (fun _ => 0)))]]) → W p l e R s m args below meth c H1 locs (cells + 1) (slots + N') Q (F0 m (pc + 2) ls (.ref q :: rest))) : W p l e R s m args below meth c H locs cells slots Q (F0 m pc ls (.int n :: rest)) := by
  have hts := F.2.2.2.2.1
  have hK := F.2.2.2.2.2.1
  refine va_newa (atype := .boolean) (ty := .boolean) (a0 := (N', .inl (fun _ => 0))) F.1 F.2.1 (hts _ hw) rfl hK h.1 h.2.1 h.2.2.1 h.2.2.2 (fun cA => rfl) hn hN hbytes hcs.1 hcs.2 hdg (fun q cA H1 hK1 hP hD hS => kk q H1 ?_)
  have e : cA = K 1 := Option.some.inj ((va_nm_boolean (hK1.2 5 (cA, .boolean) rfl).2).symm.trans (va_nm_boolean (hK.2 1 (K 1, .boolean) rfl).2))
  subst e
  refine ⟨?_, ?_, hS, h.2.2.2⟩
  · rw [WL_snoc]; exact hP
  · rw [WL_snoc]; exact hD
theorem r_newaC (F : FX p s m args meth c cc own nL ret D K) (h : WD D A H0 H locs S) {n : Int32} {N' : Nat} (hw : Cond.arrayClass .char ∈ TBL) (hn : ¬ n < 0) (hN : n.toNatClampNeg = N') (hbytes : N' * componentBytes .char ≤ 536870912) (hcs : cells + 1 ≤ R.cells ∧ slots + N' ≤ R.slots) (hdg : decode cc pc = .ok (.newarray .char, 2))
    (kk : ∀ (q : Nat) (H1 : Heap), WD D A H0 H1 locs (S ++ [[(q, .inl (K 2, N', .inl (fun _ => 0)))]]) → W p l e R s m args below meth c H1 locs (cells + 1) (slots + N') Q (F0 m (pc + 2) ls (.ref q :: rest))) : W p l e R s m args below meth c H locs cells slots Q (F0 m pc ls (.int n :: rest)) := by
  have hts := F.2.2.2.2.1
  have hK := F.2.2.2.2.2.1
  refine va_newa (atype := .char) (ty := .char) (a0 := (N', .inl (fun _ => 0))) F.1 F.2.1 (hts _ hw) rfl hK h.1 h.2.1 h.2.2.1 h.2.2.2 (fun cA => rfl) hn hN hbytes hcs.1 hcs.2 hdg (fun q cA H1 hK1 hP hD hS => kk q H1 ?_)
  have e : cA = K 2 := Option.some.inj ((va_nm_char (hK1.2 5 (cA, .char) rfl).2).symm.trans (va_nm_char (hK.2 2 (K 2, .char) rfl).2))
  subst e
  refine ⟨?_, ?_, hS, h.2.2.2⟩
  · rw [WL_snoc]; exact hP
  · rw [WL_snoc]; exact hD
theorem r_newaL (F : FX p s m args meth c cc own nL ret D K) (h : WD D A H0 H locs S) {n : Int32} {N' : Nat} (hw : Cond.arrayClass .long ∈ TBL) (hn : ¬ n < 0) (hN : n.toNatClampNeg = N') (hbytes : N' * componentBytes .long ≤ 536870912) (hcs : cells + 1 ≤ R.cells ∧ slots + N' ≤ R.slots) (hdg : decode cc pc = .ok (.newarray .long, 2))
    (kk : ∀ (q : Nat) (H1 : Heap), WD D A H0 H1 locs (S ++ [[(q, .inl (K 4, N', .inr (.inl (fun _ => 0))))]]) → W p l e R s m args below meth c H1 locs (cells + 1) (slots + N') Q (F0 m (pc + 2) ls (.ref q :: rest))) : W p l e R s m args below meth c H locs cells slots Q (F0 m pc ls (.int n :: rest)) := by
  have hts := F.2.2.2.2.1
  have hK := F.2.2.2.2.2.1
  refine va_newa (atype := .long) (ty := .long) (a0 := (N', .inr (.inl (fun _ => 0)))) F.1 F.2.1 (hts _ hw) rfl hK h.1 h.2.1 h.2.2.1 h.2.2.2 (fun cA => rfl) hn hN hbytes hcs.1 hcs.2 hdg (fun q cA H1 hK1 hP hD hS => kk q H1 ?_)
  have e : cA = K 4 := Option.some.inj ((va_nm_long (hK1.2 5 (cA, .long) rfl).2).symm.trans (va_nm_long (hK.2 4 (K 4, .long) rfl).2))
  subst e
  refine ⟨?_, ?_, hS, h.2.2.2⟩
  · rw [WL_snoc]; exact hP
  · rw [WL_snoc]; exact hD
theorem WD.setG {i j q0 : Nat} {seg : va_W} {y : Nat × va_E} {H1 : Heap} {locs1 : List Loc} (h2 : ∀ y, (WL S).set q0 y = WL (S.set i (seg.set j y))) (hA : ∀ q, H0.size ≤ q → A q) (a1 : va_P D vwCl ((WL S).set q0 y) H1) (a2 : va_D A ((WL S).set q0 y)) (a3 : va_S A H0 H1 locs1) : WD D A H0 H1 locs1 (S.set i (seg.set j y)) := by
  rw [h2] at a1 a2
  exact ⟨a1, a2, a3, hA⟩
theorem r_putG (F : FX p s m args meth c cc own nL ret D K) (h : WD D A H0 H locs S) {i a ci N index : Nat} {seg : va_W} {C : String} {T : u_T} {fs : List Value} {k : Nat} {v : Value} {ty : Nat → FieldType} (hin : ∀ w ∈ u_ws C T N, w ∈ TBL) (hty : ∀ k, k < N → parseFieldDescriptor (T k).2.2.1 = some (ty k)) (hnm : ∀ a, a < N → ∀ b, b < N → a ≠ b → (T a).2.1 ≠ (T b).2.1) (hc : vwCl[ci]? = some (C, T, N)) (hk : k < N) (hl : Cond.fieldLink own index (T k).1 (T k).2.1 (T k).2.2.1 ∈ TBL) (hfin : (T k).2.2.2 = false) (hn : narrow (ty k) v = v) (hfit : fits (ty k) v = true) (hs : S[i]? = some seg) (hj : seg[0]? = some (a, .inr (ci, fs))) (hlen : k < fs.length) (hdg : decode cc pc = .ok (.putfield index, 3))
    (kk : ∀ (H1 : Heap) (locs1 : List Loc), WD D A H0 H1 locs1 (S.set i (seg.set 0 (a, .inr (ci, fs.set k v)))) → W p l e R s m args below meth c H1 locs1 cells slots Q (F0 m (pc + 3) ls rest)) : W p l e R s m args below meth c H locs cells slots Q (F0 m pc ls (v :: .ref a :: rest)) := by
  obtain ⟨q0, h1, h2⟩ := seg_at hs hj
  exact va_put F.1 F.2.1 F.2.2.2.2.1 hin ty hty hnm F.2.2.2.1 F.2.2.2.2.2.1 h.1 h.2.1 h.2.2.1 q0 h1 hc k hk (F.2.2.2.2.1 _ hl) (fun _ h9 => h9) hfin (hty k hk) hn hfit hlen hdg fun H1 locs1 a1 a2 a3 => kk H1 locs1 (WD.setG h2 h.2.2.2 a1 a2 a3)
theorem r_putFG (F : FX p s m args meth c cc own nL ret D K) (h : WD D A H0 H locs S) (hini : meth.name = "<init>") {i a ci N index : Nat} {seg : va_W} {C : String} {T : u_T} {fs : List Value} {k : Nat} {v : Value} {ty : Nat → FieldType} (hin : ∀ w ∈ u_ws C T N, w ∈ TBL) (hty : ∀ k, k < N → parseFieldDescriptor (T k).2.2.1 = some (ty k)) (hnm : ∀ a, a < N → ∀ b, b < N → a ≠ b → (T a).2.1 ≠ (T b).2.1) (hc : vwCl[ci]? = some (C, T, N)) (hk : k < N) (hl : Cond.fieldLink own index (T k).1 (T k).2.1 (T k).2.2.1 ∈ TBL) (hfin : (T k).2.2.2 = true) (hdecl : (T k).1 = own) (hn : narrow (ty k) v = v) (hfit : fits (ty k) v = true) (hs : S[i]? = some seg) (hj : seg[0]? = some (a, .inr (ci, fs))) (hlen : k < fs.length) (hdg : decode cc pc = .ok (.putfield index, 3))
    (kk : ∀ (H1 : Heap) (locs1 : List Loc), WD D A H0 H1 locs1 (S.set i (seg.set 0 (a, .inr (ci, fs.set k v)))) → W p l e R s m args below meth c H1 locs1 cells slots Q (F0 m (pc + 3) ls rest)) : W p l e R s m args below meth c H locs cells slots Q (F0 m pc ls (v :: .ref a :: rest)) := by
  obtain ⟨q0, h1, h2⟩ := seg_at hs hj
  exact va_putF F.1 F.2.1 F.2.2.2.2.1 hin ty hty hnm F.2.2.2.1 F.2.2.2.2.2.1 h.1 h.2.1 h.2.2.1 q0 h1 hc k hk (F.2.2.2.2.1 _ hl) (fun _ h9 => h9) hfin hini hdecl (hty k hk) hn hfit hlen hdg fun H1 locs1 a1 a2 a3 => kk H1 locs1 (WD.setG h2 h.2.2.2 a1 a2 a3)
theorem r_iastG (F : FX p s m args meth c cc own nL ret D K) (h : WD D A H0 H locs S) {i j n a : Nat} {seg : va_W} {f g : Nat → Int32} {ix x : Int32} (hs : S[i]? = some seg) (hj : seg[j]? = some (a, .inl (K 0, n, .inl f))) (hin : vp_in ix n) (hg : upd f ix.toNatClampNeg x = g) (hdg : decode cc pc = .ok (.iastore, 1))
    (kk : ∀ (H1 : Heap) (locs1 : List Loc), WD D A H0 H1 locs1 (S.set i (seg.set j (a, .inl (K 0, n, .inl g)))) → W p l e R s m args below meth c H1 locs1 cells slots Q (F0 m (pc + 1) ls rest)) : W p l e R s m args below meth c H locs cells slots Q (F0 m pc ls (.int x :: .int ix :: .ref a :: rest)) := by
  subst hg
  obtain ⟨q0, h1, h2⟩ := seg_at hs hj
  exact va_iast F.1 F.2.1 F.2.2.2.2.2.1 h.1 h.2.1 h.2.2.1 q0 0 h1 rfl hin hdg fun H1 locs1 a1 a2 a3 => kk H1 locs1 (WD.setG h2 h.2.2.2 a1 a2 a3)
theorem r_retn {S1 : (Nat → Nat) → List va_W} {mc ms : Nat} (a : Nat → Nat) (F : FX p s m args meth c cc own nL none D K) (h : WD D A s.heap H locs (S1 a)) (hc : cells = mc ∧ slots = ms) (hdg : decode cc pc = .ok (.return_, 1)) : W p l e R s m args below meth c H locs cells slots (MQ below (QnS D A S1) args s mc ms A) (F0 m pc ls []) := by
  obtain ⟨rfl, rfl⟩ := hc
  exact W.vret F.1 F.2.1 F.2.2.2.2.2.2.2.1 (fun t ht _ => ⟨⟨a, rfl, trivial, by rw [ht]; exact h.1, h.2.1⟩, h.2.2.1.F ht⟩) h.2.2.1.2.2 hdg F.2.2.2.2.2.2.2.2
/-- a constructor of a nest mate on a bare object at the end of the world -/
theorem r_ctorN {y : MethodName} {b : ByteArray} {nL' fr lo mc ms index a : Nat} {raw : va_E} {S1 : (Nat → Nat) → List va_W} {lv : List (Nat × Value)} (F : FX p s m args meth c cc own nL ret D K) (h : WD D A H0 H locs (S ++ [[(a, raw)]])) (hlv : lv_has ls nL lv) (hM : CTn l y b nL' fr lo mc ms D K a raw S1)
    (hcode : Cond.code y b nL' none ∈ TBL) (hw : (own, index, y) ∈ nests ∧ Cond.instanceMethod y ∈ TBL ∧ Cond.initialized y.cls ∈ TBL) (hy : y.name = "<init>")
    (hd : y.cls ≠ "java/lang/invoke/MethodHandle" ∧ y.cls ≠ "java/lang/invoke/VarHandle" ∧ (parseMethodDescriptor y.desc).map (fun d => d.parameters.length) = some 0) (hR : fr + 1 ≤ R.frames ∧ 8 + (nL' + 11) + lo ≤ R.locals) (hcs : cells + mc ≤ R.cells ∧ slots + ms ≤ R.slots) (hrest : (rest.map fun v => v.category).sum ≤ 8) (hdg : decode cc pc = .ok (.invokespecial index, 3))
    (kk : ∀ (H1 : Heap) (locs1 : List Loc) (ad : Nat → Nat), WD D A H0 H1 locs1 (S ++ S1 ad) → W p l e R s m args below meth c H1 locs1 (cells + mc) (slots + ms) Q (F0 m (pc + 3) ls rest)) : W p l e R s m args below meth c H locs cells slots Q (F0 m pc ls (.ref a :: rest)) := by
  have hts := F.2.2.2.2.1
  have hN : va_Nw (.methodLinkNest own index y RX5) s := F.2.2.2.2.2.2.1 _ hw.1
  obtain ⟨gP, gD, gS, gA⟩ := h
  have eW : WL (S ++ [[(a, raw)]]) = WL S ++ [(a, raw)] := WL_snoc S _
  rw [eW] at gP gD
  have pm : (WL S ++ [(a, raw)]).Perm ([(a, raw)] ++ WL S) := List.perm_append_comm
  have gP := P_perm pm gP
  have gD := D_perm pm gD
  have eC : WL [[(a, raw)]] = [(a, raw)] := rfl
  have cP : va_P D vwCl (WL [[(a, raw)]]) H := P_of_mem (fun _ hq => List.mem_append_left _ hq) gP
  have cD : va_D A (WL [[(a, raw)]]) := by
    rw [D_iff] at gD ⊢
    rw [List.map_append, List.nodup_append] at gD
    exact ⟨gD.1.1, fun q hq => gD.2 q (List.mem_append_left _ hq)⟩
  have hF : ∀ q, va_A (WL [[(a, raw)]]) H.size q → A q := by
    intro q hq
    rcases hq with ⟨k, e, hk⟩ | hq
    · exact (D_iff.mp gD).2 (q, e) (List.mem_append_left _ (List.mem_of_getElem? hk))
    · exact gA q (Nat.le_trans gS.1 hq)
  refine va_callv (va_runIN (As := []) (rest := rest) ⟨F.1, F.2.1, F.2.2.1, F.2.2.2.1, hts⟩ (hM H.size) ⟨va_cnB 0 hts (good_code hcode) rfl rfl rfl hN (hts _ hw.2.2) hd hR, hy, hts _ hw.2.1⟩ ⟨PcS_blind, fun U hU hW => PcS_in F.2.2.2.2.2.1 F.2.2.2.2.2.2.1 cP cD U hU hW⟩ rfl rfl hlv.1 rfl (lv_room hrest) hdg ⟨hcs.1, hcs.2⟩) gS (fun q _ h9 => hF q h9) hF (fun ad t H1 locs1 ht hvm hw hB hz1 hk1 hS1 => ?_)
  obtain ⟨b1, b2⟩ := hB
  rw [ht] at b1
  obtain ⟨jP, jD⟩ := join2 gP gD hk1 hF b1 b2
  have pm2 : (WL (S1 ad) ++ WL S).Perm (WL (S ++ S1 ad)) := by
    have e2 : WL (S ++ S1 ad) = WL S ++ WL (S1 ad) := List.flatten_append
    rw [e2]
    exact List.perm_append_comm
  exact kk H1 locs1 ad ⟨P_perm pm2 jP, D_perm pm2 jD, hS1, gA⟩
end AROWS
