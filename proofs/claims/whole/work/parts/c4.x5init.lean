theorem zw_101 : Cond.methodLink RX5 3 objectInit ∈ TBL := tk_1 20 (by decide +kernel) (by decide +kernel)
theorem zw_102 : Cond.classLink RX5 9 RX3 ∈ TBL := tk_1 23 (by decide +kernel) (by decide +kernel)
theorem zw_103 : Cond.instantiable RX3 4 ∈ TBL := tk_1 24 (by decide +kernel) (by decide +kernel)
theorem zw_104 : Cond.code yX3_init cX3_init 1 none ∈ TBL := tk_1 27 (by decide +kernel) (by decide +kernel)
theorem zw_105 : Cond.instanceMethod yX3_init ∈ TBL := tk_1 26 (by decide +kernel) (by decide +kernel)
theorem zw_106 : Cond.fieldLink RX5 19 "CallTowers" "now" "LCallTowers$Tower;" ∈ TBL := tk_2 131 (by decide +kernel) (by decide +kernel)
theorem zw_107 : Cond.fieldLink RX5 23 "CallTowers" "draft" "LCallTowers$Tower;" ∈ TBL := tk_2 132 (by decide +kernel) (by decide +kernel)
theorem zw_108 : Cond.classLink RX5 33 RX0 ∈ TBL := tk_1 153 (by decide +kernel) (by decide +kernel)
theorem zw_109 : Cond.instantiable RX0 11 ∈ TBL := tk_1 154 (by decide +kernel) (by decide +kernel)
theorem zw_110 : Cond.initialized RX0 ∈ TBL := tk_1 4 (by decide +kernel) (by decide +kernel)
theorem zw_111 : Cond.code yX0_init cX0_init 1 none ∈ TBL := tk_1 157 (by decide +kernel) (by decide +kernel)
theorem zw_112 : Cond.instanceMethod yX0_init ∈ TBL := tk_1 156 (by decide +kernel) (by decide +kernel)
theorem zw_113 : Cond.fieldLink RX5 36 "CallTowers" "net" "LCallTowers$Net;" ∈ TBL := tk_2 138 (by decide +kernel) (by decide +kernel)
theorem zw_114 : Cond.fieldLink RX5 40 "CallTowers" "paces" "LCallTowers$Net;" ∈ TBL := tk_2 140 (by decide +kernel) (by decide +kernel)
theorem zw_115 : Cond.fieldLink RX5 43 "CallTowers" "trial" "LCallTowers$Net;" ∈ TBL := tk_2 142 (by decide +kernel) (by decide +kernel)
theorem zw_116 : Cond.classLink RX5 46 RX2 ∈ TBL := tk_1 200 (by decide +kernel) (by decide +kernel)
theorem zw_117 : Cond.instantiable RX2 7 ∈ TBL := tk_1 201 (by decide +kernel) (by decide +kernel)
theorem zw_118 : Cond.initialized RX2 ∈ TBL := tk_1 5 (by decide +kernel) (by decide +kernel)
theorem zw_119 : Cond.code yX2_init cX2_init 1 none ∈ TBL := tk_1 204 (by decide +kernel) (by decide +kernel)
theorem zw_120 : Cond.instanceMethod yX2_init ∈ TBL := tk_1 203 (by decide +kernel) (by decide +kernel)
theorem zw_121 : Cond.fieldLink RX5 49 "CallTowers" "route" "LCallTowers$Route;" ∈ TBL := tk_2 143 (by decide +kernel) (by decide +kernel)
theorem zw_122 : Cond.classLink RX5 53 RX1 ∈ TBL := tk_1 229 (by decide +kernel) (by decide +kernel)
theorem zw_123 : Cond.instantiable RX1 3 ∈ TBL := tk_1 230 (by decide +kernel) (by decide +kernel)
theorem zw_124 : Cond.initialized RX1 ∈ TBL := tk_1 6 (by decide +kernel) (by decide +kernel)
theorem zw_125 : Cond.code yX1_init cX1_init 1 none ∈ TBL := tk_1 233 (by decide +kernel) (by decide +kernel)
theorem zw_126 : Cond.instanceMethod yX1_init ∈ TBL := tk_1 232 (by decide +kernel) (by decide +kernel)
theorem zw_127 : Cond.fieldLink RX5 56 "CallTowers" "reach" "LCallTowers$Reach;" ∈ TBL := tk_2 145 (by decide +kernel) (by decide +kernel)
theorem zw_128 : Cond.code yX3_readInto cX3_readInto 4 (some .int) ∈ TBL := tk_2 62 (by decide +kernel) (by decide +kernel)
theorem zw_129 : Cond.methodLink RX5 76 yX3_readInto ∈ TBL := tk_2 59 (by decide +kernel) (by decide +kernel)
theorem zw_130 : Cond.instanceMethod yX3_readInto ∈ TBL := tk_2 60 (by decide +kernel) (by decide +kernel)
theorem zw_131 : Cond.selects RX3 yX3_readInto yX3_readInto ∈ TBL := tk_2 61 (by decide +kernel) (by decide +kernel)
theorem zw_132 : Cond.code yX3_clear cX3_clear 1 none ∈ TBL := tk_2 129 (by decide +kernel) (by decide +kernel)
theorem zw_133 : Cond.methodLink RX5 80 yX3_clear ∈ TBL := tk_2 126 (by decide +kernel) (by decide +kernel)
theorem zw_134 : Cond.instanceMethod yX3_clear ∈ TBL := tk_2 127 (by decide +kernel) (by decide +kernel)
theorem zw_135 : Cond.selects RX3 yX3_clear yX3_clear ∈ TBL := tk_2 128 (by decide +kernel) (by decide +kernel)
/-! the constructor of the system under test, whole -/
noncomputable def g0 : nb := (ps T0 99 99 0 (gi 2)).2
theorem g0_all : (ps T0 99 99 0 (gi 2)).1 = 99 := by decide +kernel
theorem T0_txt : txt T0 99 := ⟨by decide, fun i hi => (bs0_ok i hi).2⟩
abbrev raw5 : va_E := .inr (5, [.null, .null, .null, .null, .int 0, .int 0, .null, .int 0, .null, .int 0, .null, .int 0, .null, .null, .int 0, .null])
def SX (K : Nat → ClassId) (aa : Nat → Nat → Nat) (sc now : ob) : List va_W := [wX5 K aa zo, wX3 K (aa 1) sc, wX4 K (aa 2) now, wX4 K (aa 3) zo, wF K 8 (fun i => aa (9 + i)) (fun _ => zo), wF K 2 (fun i => aa (17 + i)) (fun _ => zo), wX0 K (aa 4) zo, wX0 K (aa 5) zo, wX0 K (aa 6) zo, wX2 K (aa 7) zo, wX1 K (aa 8) zo]
def PxS (D : va_G) (K : Nat → ClassId) (hh sz q v : Nat) (tx : String) : Array Value → State → Prop := va_Pc [.ref hh] (fun U => U.heap.size = sz ∧ va_P D vwCl (WL [[(hh, raw5)]]) U.heap ∧ va_K D vwCl (tys K) U ∧ va_D (fun _ => True) (WL [[(hh, raw5)]]) ∧ NW U ∧ STR q v bs0 (va_A (WL [[(hh, raw5)]]) sz) U U.heap ∧ vk_R RX5 60 tx q U ∧ va_AO RX4 U)
def QxS (D : va_G) (K : Nat → ClassId) (hh : Nat) (A : Nat → Prop) : Array Value → State → Outcome → State → Prop := va_Qv (fun (u : (Nat → Nat → Nat) × ob × ob) => u.1 0 0 = hh ∧ u.2.1.1 1 = nI 0 ∧ TW u.2.2 g0) (fun u t => va_P D vwCl (WL (SX K u.1 u.2.1 u.2.2)) t.heap ∧ va_D A (WL (SX K u.1 u.2.1 u.2.2))) A
theorem wF_cg (K : Nat → ClassId) (n : Nat) {ap bp : Nat → Nat → Nat} (f : Nat → ob) (e : ∀ i, i < n → ap i = bp i) : wF K n ap f = wF K n bp f := by
  unfold wF
  rw [List.flatMap_def, List.flatMap_def]
  congr 1
  apply List.map_congr_left
  intro j hj
  rw [e j (List.mem_range.mp hj)]
set_option maxRecDepth 100000 in
set_option maxHeartbeats 8000000 in
theorem kX5_init (l : Launch) (D : va_G) (K : Nat → ClassId) (hh q v : Nat) (tx : String) (sz : Nat) : Met l yX5_init (.code yX5_init cX5_init 2 none :: TBL) (rmN 6 150 163 8502) (PxS D K hh sz q v tx) (QxS D K hh (va_A (WL [[(hh, raw5)]]) sz)) 163 8502 (va_A (WL [[(hh, raw5)]]) sz) := by
  refine Met.ofW (cc := cX5_init) (maxL := 2) (ret := none) (by decide) rfl ?_
  intro p e s m args below meth c s₁ B hml hv
  obtain ⟨rfl, hsz, hP, hK, hD0, hN, hZ, hR, hO⟩ := hv
  have hts := atoms_spec (ws := .code yX5_init cX5_init 2 none :: TBL) B.pre
  have hown : s.vm.findClass RX5 = some m.cls := findClass_of_methodNamed B.named
  have hlocks := B.notSynchronized
  have hini : meth.name = "<init>" := (name_of_methodNamed B.named B.method).1
  subst hsz
  have hD := hD0.self (sz := s.heap.size)
  have hA : ∀ q : Nat, s.heap.size ≤ q → va_A (WL [[(hh, raw5)]]) s.heap.size q := fun q h => Or.inr h
  have hl := lv_entry [.ref hh] (n := 2) (Nat.le_of_ble_eq_true rfl)
  generalize va_A (WL [[(hh, raw5)]]) s.heap.size = A at hD hA hZ ⊢
  have F : FX p s m ([.ref hh] : List Value).toArray meth c cX5_init RX5 2 none D K := ⟨B.exec, B.bytes, hml, hown, fun w hw => hts w (List.mem_cons_of_mem _ hw), hK, hN, B.returns, hlocks⟩
  have hx := F.1
  have hb := F.2.1
  rw [lg_entry_eq]
  generalize (lg_sl ([.ref hh] : List Value) ++ List.replicate (2 - (lg_sl ([.ref hh] : List Value)).length) Slot.unset).toArray = ls at hl ⊢
  have hl : lv_has ls 2 [(0, .ref hh)] := hl
  have h : WD D A s.heap s.heap [] [[(hh, .inr (5, [.null, .null, .null, .null, .int 0, .int 0, .null, .int 0, .null, .int 0, .null, .int 0, .null, .null, .int 0, .null]))]] := ⟨hP, hD, va_S.rf, hA⟩
  refine lv_aload_n hx hb dX5_init_0 rfl (lv_at hl 0 rfl) ?_
  refine r_obj F hl ⟨zw_101, zw_25, zw_26⟩ ⟨Nat.le_of_ble_eq_true rfl, Nat.le_of_ble_eq_true rfl⟩ dX5_init_1 ?_
  refine lv_aload_n hx hb dX5_init_4 rfl (lv_at hl 0 rfl) ?_
  refine r_new F h (ci := 3) (fs := [.null, .int 0, .int 0, .null]) inX3 tyX3_ok rfl (by decide +kernel) ⟨zw_102, zw_103, zw_100⟩ ⟨Nat.le_of_ble_eq_true rfl, Nat.le_of_ble_eq_true rfl⟩ dX5_init_5 (fun q1 H h => ?_)
  refine lv_dup hx hb dX5_init_8 rfl ?_
  refine r_ctorN (rest := [.ref q1, .ref hh]) F h hl (kX3_init l D K q1) zw_104 ⟨by decide +kernel, zw_105, zw_100⟩ rfl hs3_init ⟨Nat.le_of_ble_eq_true rfl, Nat.le_of_ble_eq_true rfl⟩ ⟨Nat.le_of_ble_eq_true rfl, Nat.le_of_ble_eq_true rfl⟩ (Nat.le_of_ble_eq_true rfl) dX5_init_9 (fun H locs ad h => ?_)
  have h : WD D A s.heap _ _ [[(hh, .inr (5, [.null, .null, .null, .null, .int 0, .int 0, .null, .int 0, .null, .int 0, .null, .int 0, .null, .null, .int 0, .null]))], wX3 K (ah q1 ad) zo] := h
  obtain ⟨a1, ha1⟩ : ∃ a, a = ah q1 ad := ⟨_, rfl⟩
  rw [← ha1] at h
  have ea1 : q1 = a1 0 := by rw [ha1]; rfl
  rw [ea1]
  refine r_putFG F h hini (i := 0) (k := 0) (v := .ref (a1 0)) inX5 tyX5_ok nmX5 rfl (by decide) zw_91 rfl rfl rfl rfl rfl rfl (Nat.le_of_ble_eq_true rfl) dX5_init_12 (fun H locs h => ?_)
  have h : WD D A s.heap _ _ [[(hh, .inr (5, [.ref (a1 0), .null, .null, .null, .int 0, .int 0, .null, .int 0, .null, .int 0, .null, .int 0, .null, .null, .int 0, .null]))], wX3 K a1 zo] := h
  refine lv_aload_n hx hb dX5_init_15 rfl (lv_at hl 0 rfl) ?_
  refine r_new F h (ci := 4) (fs := [.int 0, .int 0, .null, .null, .null, .null, .null, .int 0, .null, .null, .null, .null, .int 0, .int 0, .int 0, .null]) inX4 tyX4_ok rfl (by decide +kernel) ⟨zw_81, zw_82, zw_83⟩ ⟨Nat.le_of_ble_eq_true rfl, Nat.le_of_ble_eq_true rfl⟩ dX5_init_16 (fun q2 H h => ?_)
  refine lv_dup hx hb dX5_init_19 rfl ?_
  refine r_ctorN (rest := [.ref q2, .ref hh]) F h hl (kX4_init l D K q2) zw_84 ⟨by decide +kernel, zw_85, zw_83⟩ rfl hs4_init ⟨Nat.le_of_ble_eq_true rfl, Nat.le_of_ble_eq_true rfl⟩ ⟨Nat.le_of_ble_eq_true rfl, Nat.le_of_ble_eq_true rfl⟩ (Nat.le_of_ble_eq_true rfl) dX5_init_20 (fun H locs ad h => ?_)
  have h : WD D A s.heap _ _ [[(hh, .inr (5, [.ref (a1 0), .null, .null, .null, .int 0, .int 0, .null, .int 0, .null, .int 0, .null, .int 0, .null, .null, .int 0, .null]))], wX3 K a1 zo, wX4 K (ah q2 ad) zo] := h
  obtain ⟨a2, ha2⟩ : ∃ a, a = ah q2 ad := ⟨_, rfl⟩
  rw [← ha2] at h
  have ea2 : q2 = a2 0 := by rw [ha2]; rfl
  rw [ea2]
  refine r_putFG F h hini (i := 0) (k := 1) (v := .ref (a2 0)) inX5 tyX5_ok nmX5 rfl (by decide) zw_106 rfl rfl rfl rfl rfl rfl (Nat.le_of_ble_eq_true rfl) dX5_init_23 (fun H locs h => ?_)
  have h : WD D A s.heap _ _ [[(hh, .inr (5, [.ref (a1 0), .ref (a2 0), .null, .null, .int 0, .int 0, .null, .int 0, .null, .int 0, .null, .int 0, .null, .null, .int 0, .null]))], wX3 K a1 zo, wX4 K a2 zo] := h
  refine lv_aload_n hx hb dX5_init_26 rfl (lv_at hl 0 rfl) ?_
  refine r_new F h (ci := 4) (fs := [.int 0, .int 0, .null, .null, .null, .null, .null, .int 0, .null, .null, .null, .null, .int 0, .int 0, .int 0, .null]) inX4 tyX4_ok rfl (by decide +kernel) ⟨zw_81, zw_82, zw_83⟩ ⟨Nat.le_of_ble_eq_true rfl, Nat.le_of_ble_eq_true rfl⟩ dX5_init_27 (fun q3 H h => ?_)
  refine lv_dup hx hb dX5_init_30 rfl ?_
  refine r_ctorN (rest := [.ref q3, .ref hh]) F h hl (kX4_init l D K q3) zw_84 ⟨by decide +kernel, zw_85, zw_83⟩ rfl hs4_init ⟨Nat.le_of_ble_eq_true rfl, Nat.le_of_ble_eq_true rfl⟩ ⟨Nat.le_of_ble_eq_true rfl, Nat.le_of_ble_eq_true rfl⟩ (Nat.le_of_ble_eq_true rfl) dX5_init_31 (fun H locs ad h => ?_)
  have h : WD D A s.heap _ _ [[(hh, .inr (5, [.ref (a1 0), .ref (a2 0), .null, .null, .int 0, .int 0, .null, .int 0, .null, .int 0, .null, .int 0, .null, .null, .int 0, .null]))], wX3 K a1 zo, wX4 K a2 zo, wX4 K (ah q3 ad) zo] := h
  obtain ⟨a3, ha3⟩ : ∃ a, a = ah q3 ad := ⟨_, rfl⟩
  rw [← ha3] at h
  have ea3 : q3 = a3 0 := by rw [ha3]; rfl
  rw [ea3]
  refine r_putFG F h hini (i := 0) (k := 2) (v := .ref (a3 0)) inX5 tyX5_ok nmX5 rfl (by decide) zw_107 rfl rfl rfl rfl rfl rfl (Nat.le_of_ble_eq_true rfl) dX5_init_34 (fun H locs h => ?_)
  have h : WD D A s.heap _ _ [[(hh, .inr (5, [.ref (a1 0), .ref (a2 0), .ref (a3 0), .null, .int 0, .int 0, .null, .int 0, .null, .int 0, .null, .int 0, .null, .null, .int 0, .null]))], wX3 K a1 zo, wX4 K a2 zo, wX4 K a3 zo] := h
  refine lv_aload_n hx hb dX5_init_37 rfl (lv_at hl 0 rfl) ?_
  refine lv_bipush (v := 8) hx hb dX5_init_38 (by decide) ?_
  refine r_newq (N' := 8) F hO h zw_81 (by decide) (by decide +kernel) (Nat.le_of_ble_eq_true rfl) ⟨Nat.le_of_ble_eq_true rfl, Nat.le_of_ble_eq_true rfl⟩ dX5_init_40 (fun q4 H h => ?_)
  have h : WD D A s.heap _ _ [[(hh, .inr (5, [.ref (a1 0), .ref (a2 0), .ref (a3 0), .null, .int 0, .int 0, .null, .int 0, .null, .int 0, .null, .int 0, .null, .null, .int 0, .null]))], wX3 K a1 zo, wX4 K a2 zo, wX4 K a3 zo, [(q4, aq (fun _ => none) 8 (K 3))]] := h
  refine r_putFG F h hini (i := 0) (k := 3) (v := .ref q4) inX5 tyX5_ok nmX5 rfl (by decide) zw_80 rfl rfl rfl rfl rfl rfl (Nat.le_of_ble_eq_true rfl) dX5_init_43 (fun H locs h => ?_)
  have h : WD D A s.heap _ _ [[(hh, .inr (5, [.ref (a1 0), .ref (a2 0), .ref (a3 0), .ref q4, .int 0, .int 0, .null, .int 0, .null, .int 0, .null, .int 0, .null, .null, .int 0, .null]))], wX3 K a1 zo, wX4 K a2 zo, wX4 K a3 zo, [(q4, aq (fun _ => none) 8 (K 3))]] := h
  refine lv_aload_n hx hb dX5_init_46 rfl (lv_at hl 0 rfl) ?_
  refine lv_iconst (v := 2) hx hb dX5_init_47 (by decide) ?_
  refine r_newq (N' := 2) F hO h zw_81 (by decide) (by decide +kernel) (Nat.le_of_ble_eq_true rfl) ⟨Nat.le_of_ble_eq_true rfl, Nat.le_of_ble_eq_true rfl⟩ dX5_init_48 (fun q5 H h => ?_)
  have h : WD D A s.heap _ _ [[(hh, .inr (5, [.ref (a1 0), .ref (a2 0), .ref (a3 0), .ref q4, .int 0, .int 0, .null, .int 0, .null, .int 0, .null, .int 0, .null, .null, .int 0, .null]))], wX3 K a1 zo, wX4 K a2 zo, wX4 K a3 zo, [(q4, aq (fun _ => none) 8 (K 3))], [(q5, aq (fun _ => none) 2 (K 3))]] := h
  refine r_putFG F h hini (i := 0) (k := 6) (v := .ref q5) inX5 tyX5_ok nmX5 rfl (by decide) zw_86 rfl rfl rfl rfl rfl rfl (Nat.le_of_ble_eq_true rfl) dX5_init_51 (fun H locs h => ?_)
  have h : WD D A s.heap _ _ [[(hh, .inr (5, [.ref (a1 0), .ref (a2 0), .ref (a3 0), .ref q4, .int 0, .int 0, .ref q5, .int 0, .null, .int 0, .null, .int 0, .null, .null, .int 0, .null]))], wX3 K a1 zo, wX4 K a2 zo, wX4 K a3 zo, [(q4, aq (fun _ => none) 8 (K 3))], [(q5, aq (fun _ => none) 2 (K 3))]] := h
  refine lv_aload_n hx hb dX5_init_54 rfl (lv_at hl 0 rfl) ?_
  refine r_new F h (ci := 0) (fs := [.int 0, .int 0, .int 0, .int 0, .null, .null, .null, .null, .int 0, .null, .null]) inX0 tyX0_ok rfl (by decide +kernel) ⟨zw_108, zw_109, zw_110⟩ ⟨Nat.le_of_ble_eq_true rfl, Nat.le_of_ble_eq_true rfl⟩ dX5_init_55 (fun q6 H h => ?_)
  refine lv_dup hx hb dX5_init_58 rfl ?_
  refine r_ctorN (rest := [.ref q6, .ref hh]) F h hl (kX0_init l D K q6) zw_111 ⟨by decide +kernel, zw_112, zw_110⟩ rfl hs0_init ⟨Nat.le_of_ble_eq_true rfl, Nat.le_of_ble_eq_true rfl⟩ ⟨Nat.le_of_ble_eq_true rfl, Nat.le_of_ble_eq_true rfl⟩ (Nat.le_of_ble_eq_true rfl) dX5_init_59 (fun H locs ad h => ?_)
  have h : WD D A s.heap _ _ [[(hh, .inr (5, [.ref (a1 0), .ref (a2 0), .ref (a3 0), .ref q4, .int 0, .int 0, .ref q5, .int 0, .null, .int 0, .null, .int 0, .null, .null, .int 0, .null]))], wX3 K a1 zo, wX4 K a2 zo, wX4 K a3 zo, [(q4, aq (fun _ => none) 8 (K 3))], [(q5, aq (fun _ => none) 2 (K 3))], wX0 K (ah q6 ad) zo] := h
  obtain ⟨a6, ha6⟩ : ∃ a, a = ah q6 ad := ⟨_, rfl⟩
  rw [← ha6] at h
  have ea6 : q6 = a6 0 := by rw [ha6]; rfl
  rw [ea6]
  refine r_putFG F h hini (i := 0) (k := 8) (v := .ref (a6 0)) inX5 tyX5_ok nmX5 rfl (by decide) zw_113 rfl rfl rfl rfl rfl rfl (Nat.le_of_ble_eq_true rfl) dX5_init_62 (fun H locs h => ?_)
  have h : WD D A s.heap _ _ [[(hh, .inr (5, [.ref (a1 0), .ref (a2 0), .ref (a3 0), .ref q4, .int 0, .int 0, .ref q5, .int 0, .ref (a6 0), .int 0, .null, .int 0, .null, .null, .int 0, .null]))], wX3 K a1 zo, wX4 K a2 zo, wX4 K a3 zo, [(q4, aq (fun _ => none) 8 (K 3))], [(q5, aq (fun _ => none) 2 (K 3))], wX0 K a6 zo] := h
  refine lv_aload_n hx hb dX5_init_65 rfl (lv_at hl 0 rfl) ?_
  refine r_new F h (ci := 0) (fs := [.int 0, .int 0, .int 0, .int 0, .null, .null, .null, .null, .int 0, .null, .null]) inX0 tyX0_ok rfl (by decide +kernel) ⟨zw_108, zw_109, zw_110⟩ ⟨Nat.le_of_ble_eq_true rfl, Nat.le_of_ble_eq_true rfl⟩ dX5_init_66 (fun q7 H h => ?_)
  refine lv_dup hx hb dX5_init_69 rfl ?_
  refine r_ctorN (rest := [.ref q7, .ref hh]) F h hl (kX0_init l D K q7) zw_111 ⟨by decide +kernel, zw_112, zw_110⟩ rfl hs0_init ⟨Nat.le_of_ble_eq_true rfl, Nat.le_of_ble_eq_true rfl⟩ ⟨Nat.le_of_ble_eq_true rfl, Nat.le_of_ble_eq_true rfl⟩ (Nat.le_of_ble_eq_true rfl) dX5_init_70 (fun H locs ad h => ?_)
  have h : WD D A s.heap _ _ [[(hh, .inr (5, [.ref (a1 0), .ref (a2 0), .ref (a3 0), .ref q4, .int 0, .int 0, .ref q5, .int 0, .ref (a6 0), .int 0, .null, .int 0, .null, .null, .int 0, .null]))], wX3 K a1 zo, wX4 K a2 zo, wX4 K a3 zo, [(q4, aq (fun _ => none) 8 (K 3))], [(q5, aq (fun _ => none) 2 (K 3))], wX0 K a6 zo, wX0 K (ah q7 ad) zo] := h
  obtain ⟨a7, ha7⟩ : ∃ a, a = ah q7 ad := ⟨_, rfl⟩
  rw [← ha7] at h
  have ea7 : q7 = a7 0 := by rw [ha7]; rfl
  rw [ea7]
  refine r_putFG F h hini (i := 0) (k := 10) (v := .ref (a7 0)) inX5 tyX5_ok nmX5 rfl (by decide) zw_114 rfl rfl rfl rfl rfl rfl (Nat.le_of_ble_eq_true rfl) dX5_init_73 (fun H locs h => ?_)
  have h : WD D A s.heap _ _ [[(hh, .inr (5, [.ref (a1 0), .ref (a2 0), .ref (a3 0), .ref q4, .int 0, .int 0, .ref q5, .int 0, .ref (a6 0), .int 0, .ref (a7 0), .int 0, .null, .null, .int 0, .null]))], wX3 K a1 zo, wX4 K a2 zo, wX4 K a3 zo, [(q4, aq (fun _ => none) 8 (K 3))], [(q5, aq (fun _ => none) 2 (K 3))], wX0 K a6 zo, wX0 K a7 zo] := h
  refine lv_aload_n hx hb dX5_init_76 rfl (lv_at hl 0 rfl) ?_
  refine r_new F h (ci := 0) (fs := [.int 0, .int 0, .int 0, .int 0, .null, .null, .null, .null, .int 0, .null, .null]) inX0 tyX0_ok rfl (by decide +kernel) ⟨zw_108, zw_109, zw_110⟩ ⟨Nat.le_of_ble_eq_true rfl, Nat.le_of_ble_eq_true rfl⟩ dX5_init_77 (fun q8 H h => ?_)
  refine lv_dup hx hb dX5_init_80 rfl ?_
  refine r_ctorN (rest := [.ref q8, .ref hh]) F h hl (kX0_init l D K q8) zw_111 ⟨by decide +kernel, zw_112, zw_110⟩ rfl hs0_init ⟨Nat.le_of_ble_eq_true rfl, Nat.le_of_ble_eq_true rfl⟩ ⟨Nat.le_of_ble_eq_true rfl, Nat.le_of_ble_eq_true rfl⟩ (Nat.le_of_ble_eq_true rfl) dX5_init_81 (fun H locs ad h => ?_)
  have h : WD D A s.heap _ _ [[(hh, .inr (5, [.ref (a1 0), .ref (a2 0), .ref (a3 0), .ref q4, .int 0, .int 0, .ref q5, .int 0, .ref (a6 0), .int 0, .ref (a7 0), .int 0, .null, .null, .int 0, .null]))], wX3 K a1 zo, wX4 K a2 zo, wX4 K a3 zo, [(q4, aq (fun _ => none) 8 (K 3))], [(q5, aq (fun _ => none) 2 (K 3))], wX0 K a6 zo, wX0 K a7 zo, wX0 K (ah q8 ad) zo] := h
  obtain ⟨a8, ha8⟩ : ∃ a, a = ah q8 ad := ⟨_, rfl⟩
  rw [← ha8] at h
  have ea8 : q8 = a8 0 := by rw [ha8]; rfl
  rw [ea8]
  refine r_putFG F h hini (i := 0) (k := 12) (v := .ref (a8 0)) inX5 tyX5_ok nmX5 rfl (by decide) zw_115 rfl rfl rfl rfl rfl rfl (Nat.le_of_ble_eq_true rfl) dX5_init_84 (fun H locs h => ?_)
  have h : WD D A s.heap _ _ [[(hh, .inr (5, [.ref (a1 0), .ref (a2 0), .ref (a3 0), .ref q4, .int 0, .int 0, .ref q5, .int 0, .ref (a6 0), .int 0, .ref (a7 0), .int 0, .ref (a8 0), .null, .int 0, .null]))], wX3 K a1 zo, wX4 K a2 zo, wX4 K a3 zo, [(q4, aq (fun _ => none) 8 (K 3))], [(q5, aq (fun _ => none) 2 (K 3))], wX0 K a6 zo, wX0 K a7 zo, wX0 K a8 zo] := h
  refine lv_aload_n hx hb dX5_init_87 rfl (lv_at hl 0 rfl) ?_
  refine r_new F h (ci := 2) (fs := [.null, .null, .int 0, .int 0, .long 0, .int 0, .int 0]) inX2 tyX2_ok rfl (by decide +kernel) ⟨zw_116, zw_117, zw_118⟩ ⟨Nat.le_of_ble_eq_true rfl, Nat.le_of_ble_eq_true rfl⟩ dX5_init_88 (fun q9 H h => ?_)
  refine lv_dup hx hb dX5_init_91 rfl ?_
  refine r_ctorN (rest := [.ref q9, .ref hh]) F h hl (kX2_init l D K q9) zw_119 ⟨by decide +kernel, zw_120, zw_118⟩ rfl hs2_init ⟨Nat.le_of_ble_eq_true rfl, Nat.le_of_ble_eq_true rfl⟩ ⟨Nat.le_of_ble_eq_true rfl, Nat.le_of_ble_eq_true rfl⟩ (Nat.le_of_ble_eq_true rfl) dX5_init_92 (fun H locs ad h => ?_)
  have h : WD D A s.heap _ _ [[(hh, .inr (5, [.ref (a1 0), .ref (a2 0), .ref (a3 0), .ref q4, .int 0, .int 0, .ref q5, .int 0, .ref (a6 0), .int 0, .ref (a7 0), .int 0, .ref (a8 0), .null, .int 0, .null]))], wX3 K a1 zo, wX4 K a2 zo, wX4 K a3 zo, [(q4, aq (fun _ => none) 8 (K 3))], [(q5, aq (fun _ => none) 2 (K 3))], wX0 K a6 zo, wX0 K a7 zo, wX0 K a8 zo, wX2 K (ah q9 ad) zo] := h
  obtain ⟨a9, ha9⟩ : ∃ a, a = ah q9 ad := ⟨_, rfl⟩
  rw [← ha9] at h
  have ea9 : q9 = a9 0 := by rw [ha9]; rfl
  rw [ea9]
  refine r_putFG F h hini (i := 0) (k := 13) (v := .ref (a9 0)) inX5 tyX5_ok nmX5 rfl (by decide) zw_121 rfl rfl rfl rfl rfl rfl (Nat.le_of_ble_eq_true rfl) dX5_init_95 (fun H locs h => ?_)
  have h : WD D A s.heap _ _ [[(hh, .inr (5, [.ref (a1 0), .ref (a2 0), .ref (a3 0), .ref q4, .int 0, .int 0, .ref q5, .int 0, .ref (a6 0), .int 0, .ref (a7 0), .int 0, .ref (a8 0), .ref (a9 0), .int 0, .null]))], wX3 K a1 zo, wX4 K a2 zo, wX4 K a3 zo, [(q4, aq (fun _ => none) 8 (K 3))], [(q5, aq (fun _ => none) 2 (K 3))], wX0 K a6 zo, wX0 K a7 zo, wX0 K a8 zo, wX2 K a9 zo] := h
  refine lv_aload_n hx hb dX5_init_98 rfl (lv_at hl 0 rfl) ?_
  refine r_new F h (ci := 1) (fs := [.null, .int 0, .int 0]) inX1 tyX1_ok rfl (by decide +kernel) ⟨zw_122, zw_123, zw_124⟩ ⟨Nat.le_of_ble_eq_true rfl, Nat.le_of_ble_eq_true rfl⟩ dX5_init_99 (fun q10 H h => ?_)
  refine lv_dup hx hb dX5_init_102 rfl ?_
  refine r_ctorN (rest := [.ref q10, .ref hh]) F h hl (kX1_init l D K q10) zw_125 ⟨by decide +kernel, zw_126, zw_124⟩ rfl hs1_init ⟨Nat.le_of_ble_eq_true rfl, Nat.le_of_ble_eq_true rfl⟩ ⟨Nat.le_of_ble_eq_true rfl, Nat.le_of_ble_eq_true rfl⟩ (Nat.le_of_ble_eq_true rfl) dX5_init_103 (fun H locs ad h => ?_)
  have h : WD D A s.heap _ _ [[(hh, .inr (5, [.ref (a1 0), .ref (a2 0), .ref (a3 0), .ref q4, .int 0, .int 0, .ref q5, .int 0, .ref (a6 0), .int 0, .ref (a7 0), .int 0, .ref (a8 0), .ref (a9 0), .int 0, .null]))], wX3 K a1 zo, wX4 K a2 zo, wX4 K a3 zo, [(q4, aq (fun _ => none) 8 (K 3))], [(q5, aq (fun _ => none) 2 (K 3))], wX0 K a6 zo, wX0 K a7 zo, wX0 K a8 zo, wX2 K a9 zo, wX1 K (ah q10 ad) zo] := h
  obtain ⟨a10, ha10⟩ : ∃ a, a = ah q10 ad := ⟨_, rfl⟩
  rw [← ha10] at h
  have ea10 : q10 = a10 0 := by rw [ha10]; rfl
  rw [ea10]
  refine r_putFG F h hini (i := 0) (k := 15) (v := .ref (a10 0)) inX5 tyX5_ok nmX5 rfl (by decide) zw_127 rfl rfl rfl rfl rfl rfl (Nat.le_of_ble_eq_true rfl) dX5_init_106 (fun H locs h => ?_)
  have h : WD D A s.heap _ _ [[(hh, .inr (5, [.ref (a1 0), .ref (a2 0), .ref (a3 0), .ref q4, .int 0, .int 0, .ref q5, .int 0, .ref (a6 0), .int 0, .ref (a7 0), .int 0, .ref (a8 0), .ref (a9 0), .int 0, .ref (a10 0)]))], wX3 K a1 zo, wX4 K a2 zo, wX4 K a3 zo, [(q4, aq (fun _ => none) 8 (K 3))], [(q5, aq (fun _ => none) 2 (K 3))], wX0 K a6 zo, wX0 K a7 zo, wX0 K a8 zo, wX2 K a9 zo, wX1 K a10 zo] := h
  refine W.widen (k := 53 + 11 * 0) (n := 7482 + 102 * 0) (Nat.le_of_ble_eq_true rfl) (Nat.le_of_ble_eq_true rfl) ?_
  refine lv_iconst (v := 0) hx hb dX5_init_109 (by decide) ?_
  refine lv_istore_n (lv' := [(1, .int 0), (0, .ref hh)]) hx hb dX5_init_110 rfl hl (by decide) rfl (fun ls hl => ?_)
  obtain ⟨fs, hfs⟩ : ∃ f : List Value, f = [.ref (a1 0), .ref (a2 0), .ref (a3 0), .ref q4, .int 0, .int 0, .ref q5, .int 0, .ref (a6 0), .int 0, .ref (a7 0), .int 0, .ref (a8 0), .ref (a9 0), .int 0, .ref (a10 0)] := ⟨_, rfl⟩
  rw [← hfs] at h
  have h := h.arr (i := 4) (g := fun j => if j < 0 then some ((fun _ _ => 0 : Nat → Nat → Nat) j 0) else none) rfl (fun j _ => by rw [if_neg (Nat.not_lt_zero j)])
  have h := h.glue0
  refine x5_past F ⟨by decide, by decide⟩ (hh := hh) (qa := q4) (c0 := 53) (s0 := 7482) (fs := fs) ⟨by decide, by decide⟩ (by rw [hfs]; rfl) (fun ap H locs ls h hl => ?_) 8 0 rfl (fun _ _ => 0) _ _ ls h (lv_sub hl [1, 0] rfl)
  refine lv_iconst (v := 0) hx hb dX5_init_136 (by decide) ?_
  refine lv_istore_n (lv' := [(1, .int 0), (0, .ref hh)]) hx hb dX5_init_137 rfl hl (by decide) rfl (fun ls hl => ?_)
  have h := h.arr (i := 5) (g := fun j => if j < 0 then some ((fun _ _ => 0 : Nat → Nat → Nat) j 0) else none) rfl (fun j _ => by rw [if_neg (Nat.not_lt_zero j)])
  have h := h.glue0
  refine x5_saved F ⟨by decide, by decide⟩ (hh := hh) (qa := q5) (c0 := 53 + 88) (s0 := 7482 + 816) (fs := fs) ⟨by decide, by decide⟩ (by rw [hfs]; rfl) (fun as H locs ls h hl => ?_) 2 0 rfl (fun _ _ => 0) _ _ ls h (lv_sub hl [1, 0] rfl)
  refine lv_iconst (v := 0) hx hb dX5_init_162 (by decide) ?_
  refine lv_istore_n (lv' := [(1, .int 0), (0, .ref hh)]) hx hb dX5_init_163 rfl hl (by decide) rfl (fun ls hl => ?_)
  refine W.widen (k := 163) (n := 8502) (Nat.le_of_ble_eq_true rfl) (Nat.le_of_ble_eq_true rfl) ?_
  refine x5_text F hZ hR (hh := hh) (a1 := a1) (fs := fs) (by rw [hfs]; rfl) (fun sc H locs ls t1 h hl => ?_) 99 0 (by decide) zo _ _ ls rfl (fun j hj => absurd hj (Nat.not_lt_zero j)) h (lv_sub hl [1, 0] rfl)
  obtain ⟨sc', now', er, r1, r2, r3⟩ := c_read T0_txt (sc := sc) (d := zo) t1 (fun t ht => rfl)
  have r3 := r3 g0_all
  rw [if_pos g0_all] at er
  refine lv_aload_n hx hb dX5_init_193 rfl (lv_at hl 0 rfl) ?_
  refine r_get F h (i := 0) (k := 0) (.ref (a1 0)) inX5 rfl (by decide) zw_91 rfl rfl (by rw [hfs]; rfl) dX5_init_194 ?_
  refine lv_aload_n hx hb dX5_init_197 rfl (lv_at hl 0 rfl) ?_
  refine r_get F h (i := 0) (k := 1) (.ref (a2 0)) inX5 rfl (by decide) zw_106 rfl rfl (by rw [hfs]; rfl) dX5_init_198 ?_
  have h : WD D A s.heap H locs [[(hh, .inr (5, fs))], wX3 K a1 sc, wX4 K a2 zo, wX4 K a3 zo, [(q4, aq (fun j => if j < 8 then some (ap j 0) else none) 8 (K 3))], [(q5, aq (fun j => if j < 2 then some (as j 0) else none) 2 (K 3))], wX0 K a6 zo, wX0 K a7 zo, wX0 K a8 zo, wX2 K a9 zo, wX1 K a10 zo, wF K 8 ap (fun _ => zo), wF K 2 as (fun _ => zo)] := h
  refine r_callVi (As := [.ref (a2 0)]) (rest := []) (C0 := [wX3 K a1 sc, wX4 K a2 zo]) (C1 := [wX3 K a1 sc', wX4 K a2 now']) (Rr := [[(hh, .inr (5, fs))], wX4 K a3 zo, [(q4, aq (fun j => if j < 8 then some (ap j 0) else none) 8 (K 3))], [(q5, aq (fun j => if j < 2 then some (as j 0) else none) 2 (K 3))], wX0 K a6 zo, wX0 K a7 zo, wX0 K a8 zo, wX2 K a9 zo, wX1 K a10 zo, wF K 8 ap (fun _ => zo), wF K 2 as (fun _ => zo)]) (S' := [[(hh, .inr (5, fs))], wX3 K a1 sc', wX4 K a2 now', wX4 K a3 zo, [(q4, aq (fun j => if j < 8 then some (ap j 0) else none) 8 (K 3))], [(q5, aq (fun j => if j < 2 then some (as j 0) else none) 2 (K 3))], wX0 K a6 zo, wX0 K a7 zo, wX0 K a8 zo, wX2 K a9 zo, wX1 K a10 zo, wF K 8 ap (fun _ => zo), wF K 2 as (fun _ => zo)]) F h hl (c3_readInto l D K a1 a2 sc zo _ er) [1, 2, 0, 3, 4, 5, 6, 7, 8, 9, 10, 11, 12] rfl rfl rfl rfl rfl (i := 1) rfl rfl zw_128 ⟨zw_129, zw_130, zw_131, zw_100⟩ hsc3_readInto ⟨Nat.le_of_ble_eq_true rfl, Nat.le_of_ble_eq_true rfl⟩ ⟨Nat.le_of_ble_eq_true rfl, Nat.le_of_ble_eq_true rfl⟩ (Nat.le_of_ble_eq_true rfl) dX5_init_201 (fun H locs h => ?_)
  refine lv_pop hx hb dX5_init_204 rfl ?_
  refine lv_aload_n hx hb dX5_init_205 rfl (lv_at hl 0 rfl) ?_
  refine r_get F h (i := 0) (k := 0) (.ref (a1 0)) inX5 rfl (by decide) zw_91 rfl rfl (by rw [hfs]; rfl) dX5_init_206 ?_
  refine r_callVv (As := []) (rest := []) (C0 := [wX3 K a1 sc']) (C1 := [wX3 K a1 (sI sc' 1 0)]) (Rr := [[(hh, .inr (5, fs))], wX4 K a2 now', wX4 K a3 zo, [(q4, aq (fun j => if j < 8 then some (ap j 0) else none) 8 (K 3))], [(q5, aq (fun j => if j < 2 then some (as j 0) else none) 2 (K 3))], wX0 K a6 zo, wX0 K a7 zo, wX0 K a8 zo, wX2 K a9 zo, wX1 K a10 zo, wF K 8 ap (fun _ => zo), wF K 2 as (fun _ => zo)]) (S' := [[(hh, .inr (5, fs))], wX3 K a1 (sI sc' 1 0), wX4 K a2 now', wX4 K a3 zo, [(q4, aq (fun j => if j < 8 then some (ap j 0) else none) 8 (K 3))], [(q5, aq (fun j => if j < 2 then some (as j 0) else none) 2 (K 3))], wX0 K a6 zo, wX0 K a7 zo, wX0 K a8 zo, wX2 K a9 zo, wX1 K a10 zo, wF K 8 ap (fun _ => zo), wF K 2 as (fun _ => zo)]) F h hl (c3_clear l D K a1 sc' _ rfl) [1, 0, 2, 3, 4, 5, 6, 7, 8, 9, 10, 11, 12] rfl rfl rfl rfl rfl (i := 1) rfl rfl zw_132 ⟨zw_133, zw_134, zw_135, zw_100⟩ hsc3_clear ⟨Nat.le_of_ble_eq_true rfl, Nat.le_of_ble_eq_true rfl⟩ ⟨Nat.le_of_ble_eq_true rfl, Nat.le_of_ble_eq_true rfl⟩ (Nat.le_of_ble_eq_true rfl) dX5_init_209 (fun H locs h => ?_)
  obtain ⟨aa, h00, h04, h07, h1, h2, h3, h4, h5, h6, h7, h8, h9, h17⟩ : ∃ aa : Nat → Nat → Nat, aa 0 0 = hh ∧ aa 0 4 = q4 ∧ aa 0 7 = q5 ∧ aa 1 = a1 ∧ aa 2 = a2 ∧ aa 3 = a3 ∧ aa 4 = a6 ∧ aa 5 = a7 ∧ aa 6 = a8 ∧ aa 7 = a9 ∧ aa 8 = a10 ∧ (∀ i, i < 8 → aa (9 + i) = ap i) ∧ ∀ i, i < 2 → aa (17 + i) = as i := by
    refine ⟨fun k => if k = 0 then (fun j => if j = 0 then hh else if j = 4 then q4 else if j = 7 then q5 else 0) else if k = 1 then a1 else if k = 2 then a2 else if k = 3 then a3 else if k = 4 then a6 else if k = 5 then a7 else if k = 6 then a8 else if k = 7 then a9 else if k = 8 then a10 else if k < 17 then ap (k - 9) else as (k - 17), rfl, rfl, rfl, rfl, rfl, rfl, rfl, rfl, rfl, rfl, rfl, fun i hi => ?_, fun i hi => ?_⟩
    · show (if 9 + i = 0 then _ else if 9 + i = 1 then _ else if 9 + i = 2 then _ else if 9 + i = 3 then _ else if 9 + i = 4 then _ else if 9 + i = 5 then _ else if 9 + i = 6 then _ else if 9 + i = 7 then _ else if 9 + i = 8 then _ else if 9 + i < 17 then ap (9 + i - 9) else _) = _
      rw [if_neg (by omega), if_neg (by omega), if_neg (by omega), if_neg (by omega), if_neg (by omega), if_neg (by omega), if_neg (by omega), if_neg (by omega), if_neg (by omega), if_pos (by omega), show 9 + i - 9 = i by omega]
    · show (if 17 + i = 0 then _ else if 17 + i = 1 then _ else if 17 + i = 2 then _ else if 17 + i = 3 then _ else if 17 + i = 4 then _ else if 17 + i = 5 then _ else if 17 + i = 6 then _ else if 17 + i = 7 then _ else if 17 + i = 8 then _ else if 17 + i < 17 then ap (17 + i - 9) else as (17 + i - 17)) = _
      rw [if_neg (by omega), if_neg (by omega), if_neg (by omega), if_neg (by omega), if_neg (by omega), if_neg (by omega), if_neg (by omega), if_neg (by omega), if_neg (by omega), if_neg (by omega), show 17 + i - 17 = i by omega]
  have h := h.arr (i := 4) (g := fun i => some (aa (9 + i) 0)) rfl (fun j hj => by rw [if_pos hj, h9 j hj])
  have h := h.arr (i := 5) (g := fun i => some (aa (17 + i) 0)) rfl (fun j hj => by rw [if_pos hj, h17 j hj])
  have h := h.perm (pick_perm (is := [0, 4, 5, 1, 2, 3, 11, 12, 6, 7, 8, 9, 10]) rfl).symm
  have e8 : wF K 8 ap (fun _ => zo) = wF K 8 (fun i => aa (9 + i)) (fun _ => zo) := wF_cg K 8 _ (fun i hi => (h9 i hi).symm)
  have e2 : wF K 2 as (fun _ => zo) = wF K 2 (fun i => aa (17 + i)) (fun _ => zo) := wF_cg K 2 _ (fun i hi => (h17 i hi).symm)
  have h : WD D A s.heap H locs [[(hh, .inr (5, fs))], [(q4, aq (fun i => some (aa (9 + i) 0)) 8 (K 3))], [(q5, aq (fun i => some (aa (17 + i) 0)) 2 (K 3))], wX3 K a1 (sI sc' 1 0), wX4 K a2 now', wX4 K a3 zo, wF K 8 ap (fun _ => zo), wF K 2 as (fun _ => zo), wX0 K a6 zo, wX0 K a7 zo, wX0 K a8 zo, wX2 K a9 zo, wX1 K a10 zo] := h
  rw [e8, e2, hfs, ← h00, ← h04, ← h07, ← h1, ← h2, ← h3, ← h4, ← h5, ← h6, ← h7, ← h8] at h
  have h : WD D A s.heap H locs (SX K aa (sI sc' 1 0) now') := h
  exact W.vret F.1 F.2.1 F.2.2.2.2.2.2.2.1 (fun t ht _ => ⟨⟨(aa, sI sc' 1 0, now'), rfl, ⟨h00, rfl, r3⟩, by rw [ht]; exact h.1, h.2.1⟩, h.2.2.1.F ht⟩) h.2.2.1.2.2 dX5_init_212 F.2.2.2.2.2.2.2.2
