theorem zw_24 : Cond.methodLink RX0 3 objectInit ∈ TBL := tk_1 158 (by decide +kernel) (by decide +kernel)
theorem zw_25 : Cond.instanceMethod objectInit ∈ TBL := tk_1 21 (by decide +kernel) (by decide +kernel)
theorem zw_26 : Cond.code objectInit ⟨#[0xb1]⟩ 1 none ∈ TBL := tk_1 22 (by decide +kernel) (by decide +kernel)
theorem zw_27 : Cond.arrayClass FieldType.long ∈ TBL := tk_1 199 (by decide +kernel) (by decide +kernel)
theorem zw_28 : Cond.fieldLink RX0 9 "CallTowers$Net" "weights" "[J" ∈ TBL := tk_1 168 (by decide +kernel) (by decide +kernel)
theorem zw_29 : Cond.fieldLink RX0 15 "CallTowers$Net" "before" "[J" ∈ TBL := tk_1 170 (by decide +kernel) (by decide +kernel)
theorem zw_30 : Cond.arrayClass FieldType.boolean ∈ TBL := tk_1 151 (by decide +kernel) (by decide +kernel)
theorem zw_31 : Cond.fieldLink RX0 18 "CallTowers$Net" "accepting" "[Z" ∈ TBL := tk_1 171 (by decide +kernel) (by decide +kernel)
theorem zw_32 : Cond.arrayClass FieldType.int ∈ TBL := tk_1 44 (by decide +kernel) (by decide +kernel)
theorem zw_33 : Cond.fieldLink RX0 22 "CallTowers$Net" "costs" "[I" ∈ TBL := tk_1 172 (by decide +kernel) (by decide +kernel)
theorem zw_34 : Cond.fieldLink RX0 26 "CallTowers$Net" "read" "[J" ∈ TBL := tk_1 174 (by decide +kernel) (by decide +kernel)
theorem zw_35 : Cond.fieldLink RX0 29 "CallTowers$Net" "spare" "[J" ∈ TBL := tk_1 175 (by decide +kernel) (by decide +kernel)
theorem zw_36 : Cond.methodLink RX1 3 objectInit ∈ TBL := tk_1 234 (by decide +kernel) (by decide +kernel)
theorem zw_37 : Cond.fieldLink RX1 9 "CallTowers$Reach" "falls" "[I" ∈ TBL := tk_1 235 (by decide +kernel) (by decide +kernel)
theorem zw_38 : Cond.methodLink RX2 3 objectInit ∈ TBL := tk_1 205 (by decide +kernel) (by decide +kernel)
theorem zw_39 : Cond.fieldLink RX2 9 "CallTowers$Route" "letters" "[I" ∈ TBL := tk_1 206 (by decide +kernel) (by decide +kernel)
theorem zw_40 : Cond.fieldLink RX2 15 "CallTowers$Route" "tails" "[J" ∈ TBL := tk_1 207 (by decide +kernel) (by decide +kernel)
theorem zw_41 : Cond.methodLink RX3 3 objectInit ∈ TBL := tk_1 28 (by decide +kernel) (by decide +kernel)
theorem zw_42 : Cond.arrayClass FieldType.char ∈ TBL := tk_1 43 (by decide +kernel) (by decide +kernel)
theorem zw_43 : Cond.fieldLink RX3 9 "CallTowers$Script" "signs" "[C" ∈ TBL := tk_1 29 (by decide +kernel) (by decide +kernel)
theorem zw_44 : Cond.fieldLink RX3 15 "CallTowers$Script" "letters" "[I" ∈ TBL := tk_1 33 (by decide +kernel) (by decide +kernel)
theorem zw_45 : Cond.methodLink RX4 3 objectInit ∈ TBL := tk_1 50 (by decide +kernel) (by decide +kernel)
theorem zw_46 : Cond.fieldLink RX4 9 "CallTowers$Tower" "from" "[I" ∈ TBL := tk_1 60 (by decide +kernel) (by decide +kernel)
theorem zw_47 : Cond.fieldLink RX4 15 "CallTowers$Tower" "top" "[I" ∈ TBL := tk_1 65 (by decide +kernel) (by decide +kernel)
theorem zw_48 : Cond.fieldLink RX4 18 "CallTowers$Tower" "into" "[I" ∈ TBL := tk_1 70 (by decide +kernel) (by decide +kernel)
theorem zw_49 : Cond.fieldLink RX4 21 "CallTowers$Tower" "word" "[I" ∈ TBL := tk_1 75 (by decide +kernel) (by decide +kernel)
theorem zw_50 : Cond.fieldLink RX4 24 "CallTowers$Tower" "cost" "[I" ∈ TBL := tk_1 80 (by decide +kernel) (by decide +kernel)
theorem zw_51 : Cond.fieldLink RX4 27 "CallTowers$Tower" "targetState" "[I" ∈ TBL := tk_1 86 (by decide +kernel) (by decide +kernel)
theorem zw_52 : Cond.fieldLink RX4 30 "CallTowers$Tower" "targetLength" "[I" ∈ TBL := tk_1 89 (by decide +kernel) (by decide +kernel)
theorem zw_53 : Cond.fieldLink RX4 33 "CallTowers$Tower" "targetOpen" "[Z" ∈ TBL := tk_1 92 (by decide +kernel) (by decide +kernel)
theorem zw_54 : Cond.fieldLink RX4 37 "CallTowers$Tower" "targetWord" "[I" ∈ TBL := tk_1 95 (by decide +kernel) (by decide +kernel)
theorem zw_55 : Cond.fieldLink RX4 40 "CallTowers$Tower" "stack" "[I" ∈ TBL := tk_1 113 (by decide +kernel) (by decide +kernel)
theorem zw_56 : Cond.methodLink RX6 1 objectInit ∈ TBL := tk_4 61 (by decide +kernel) (by decide +kernel)
theorem zw_57 : Cond.fieldLink RX6 7 "CallTowersModel" "states" "I" ∈ TBL := tk_4 62 (by decide +kernel) (by decide +kernel)
theorem zw_58 : Cond.fieldLink RX6 13 "CallTowersModel" "many" "I" ∈ TBL := tk_4 63 (by decide +kernel) (by decide +kernel)
theorem zw_59 : Cond.fieldLink RX6 16 "CallTowersModel" "rule" "[I" ∈ TBL := tk_4 64 (by decide +kernel) (by decide +kernel)
theorem zw_60 : Cond.fieldLink RX6 20 "CallTowersModel" "targets" "I" ∈ TBL := tk_4 65 (by decide +kernel) (by decide +kernel)
theorem zw_61 : Cond.fieldLink RX6 23 "CallTowersModel" "target" "[I" ∈ TBL := tk_4 66 (by decide +kernel) (by decide +kernel)
theorem zw_62 : Cond.fieldLink RX6 26 "CallTowersModel" "high" "I" ∈ TBL := tk_4 68 (by decide +kernel) (by decide +kernel)
theorem zw_63 : Cond.fieldLink RX6 29 "CallTowersModel" "pile" "[I" ∈ TBL := tk_4 69 (by decide +kernel) (by decide +kernel)
theorem zw_64 : Cond.fieldLink RX6 32 "CallTowersModel" "undone" "[I" ∈ TBL := tk_4 72 (by decide +kernel) (by decide +kernel)
theorem zw_65 : Cond.fieldLink RX6 35 "CallTowersModel" "kept" "[I" ∈ TBL := tk_4 74 (by decide +kernel) (by decide +kernel)
theorem zw_66 : Cond.fieldLink RX6 38 "CallTowersModel" "weight" "[I" ∈ TBL := tk_4 75 (by decide +kernel) (by decide +kernel)
theorem zw_67 : Cond.fieldLink RX6 41 "CallTowersModel" "ahead" "[I" ∈ TBL := tk_4 76 (by decide +kernel) (by decide +kernel)
theorem zw_68 : Cond.fieldLink RX6 44 "CallTowersModel" "reach" "[I" ∈ TBL := tk_4 80 (by decide +kernel) (by decide +kernel)
theorem zw_69 : Cond.fieldLink RX6 47 "CallTowersModel" "reachThen" "[I" ∈ TBL := tk_4 81 (by decide +kernel) (by decide +kernel)
theorem zw_70 : Cond.fieldLink RX6 50 "CallTowersModel" "tower" "[I" ∈ TBL := tk_4 82 (by decide +kernel) (by decide +kernel)
theorem zw_71 : Cond.fieldLink RX6 53 "CallTowersModel" "togo" "[I" ∈ TBL := tk_4 83 (by decide +kernel) (by decide +kernel)
theorem zw_72 : Cond.fieldLink RX6 56 "CallTowersModel" "above" "[I" ∈ TBL := tk_4 85 (by decide +kernel) (by decide +kernel)
theorem zw_73 : Cond.fieldLink RX6 59 "CallTowersModel" "aboveThen" "[I" ∈ TBL := tk_4 86 (by decide +kernel) (by decide +kernel)
theorem zw_74 : Cond.fieldLink RX6 62 "CallTowersModel" "pops" "[I" ∈ TBL := tk_4 87 (by decide +kernel) (by decide +kernel)
theorem zw_75 : Cond.fieldLink RX6 65 "CallTowersModel" "head" "[I" ∈ TBL := tk_4 88 (by decide +kernel) (by decide +kernel)
theorem zw_76 : Cond.fieldLink RX6 68 "CallTowersModel" "bare" "[I" ∈ TBL := tk_4 89 (by decide +kernel) (by decide +kernel)
theorem zw_77 : Cond.fieldLink RX6 71 "CallTowersModel" "before" "[I" ∈ TBL := tk_4 90 (by decide +kernel) (by decide +kernel)
theorem zw_78 : Cond.fieldLink RX6 74 "CallTowersModel" "text" "[I" ∈ TBL := tk_4 91 (by decide +kernel) (by decide +kernel)
theorem zw_79 : Cond.fieldLink RX6 77 "CallTowersModel" "readWord" "[I" ∈ TBL := tk_4 96 (by decide +kernel) (by decide +kernel)
/-! the constructors without branches -/
def ini (V : List Int32) (k : Nat) (i : Nat) : Int32 := if i < k then V.getD i 0 else 0
theorem ini_0 (V : List Int32) {x ix : Int32} (hi : ix.toNatClampNeg = 0) (hx : V.getD 0 0 = x) : upd (fun _ => 0) ix.toNatClampNeg x = ini V 1 := by
  funext i
  rw [hi, upd_at]
  unfold ini
  by_cases q : i = 0
  · rw [if_pos q, if_pos (by omega), q, hx]
  · rw [if_neg q, if_neg (by omega)]
theorem ini_s (V : List Int32) {k : Nat} {x ix : Int32} (hi : ix.toNatClampNeg = k) (hx : V.getD k 0 = x) : upd (ini V k) ix.toNatClampNeg x = ini V (k + 1) := by
  funext i
  rw [hi, upd_at]
  unfold ini
  by_cases q : i = k
  · rw [if_pos q, if_pos (by omega), q, hx]
  · rw [if_neg q]
    by_cases q2 : i < k
    · rw [if_pos q2, if_pos (by omega)]
    · rw [if_neg q2, if_neg (by omega)]
set_option maxRecDepth 100000 in
set_option maxHeartbeats 4000000 in
theorem kX0_init (l : Launch) (D : va_G) (K : Nat → ClassId) (hh : Nat) : CTn l yX0_init cX0_init 1 1 16 6 1401 D K hh (.inr (0, [.int 0, .int 0, .int 0, .int 0, .null, .null, .null, .null, .int 0, .null, .null])) (fun a => [wX0 K (ah hh a) zo]) := by
  intro sz
  refine entN (Q := fun A => QnS D A (fun a => [wX0 K (ah hh a) zo])) (by decide) (Nat.le_of_ble_eq_true rfl) (fun p e s m args below meth c A ls F hw hl hin => ?_)
  have hx := F.1
  have hb := F.2.1
  have hini := hin rfl
  have hl : lv_has ls 1 [(0, .ref hh)] := hl
  have h : WD D A s.heap s.heap [] [[(hh, .inr (0, [.int 0, .int 0, .int 0, .int 0, .null, .null, .null, .null, .int 0, .null, .null]))]] := hw
  refine lv_aload_n hx hb dX0_init_0 rfl (lv_at hl 0 rfl) ?_
  refine r_obj F hl ⟨zw_24, zw_25, zw_26⟩ ⟨Nat.le_of_ble_eq_true rfl, Nat.le_of_ble_eq_true rfl⟩ dX0_init_1 ?_
  refine lv_aload_n hx hb dX0_init_4 rfl (lv_at hl 0 rfl) ?_
  refine lv_sipush (v := 676) hx hb dX0_init_5 (by decide) ?_
  refine r_newaL (N' := 676) F h zw_27 (by decide) (by decide +kernel) (Nat.le_of_ble_eq_true rfl) ⟨Nat.le_of_ble_eq_true rfl, Nat.le_of_ble_eq_true rfl⟩ dX0_init_8 (fun q1 H h => ?_)
  have h : WD D A s.heap _ _ [[(hh, .inr (0, [.int 0, .int 0, .int 0, .int 0, .null, .null, .null, .null, .int 0, .null, .null]))], [(q1, .inl (K 4, 676, .inr (.inl (fun _ => 0))))]] := h
  refine r_putFG F h hini (i := 0) (k := 4) (v := .ref q1) inX0 tyX0_ok nmX0 rfl (by decide) zw_28 rfl rfl rfl rfl rfl rfl (Nat.le_of_ble_eq_true rfl) dX0_init_10 (fun H locs h => ?_)
  have h : WD D A s.heap _ _ [[(hh, .inr (0, [.int 0, .int 0, .int 0, .int 0, .ref q1, .null, .null, .null, .int 0, .null, .null]))], [(q1, .inl (K 4, 676, .inr (.inl (fun _ => 0))))]] := h
  refine lv_aload_n hx hb dX0_init_13 rfl (lv_at hl 0 rfl) ?_
  refine lv_sipush (v := 676) hx hb dX0_init_14 (by decide) ?_
  refine r_newaL (N' := 676) F h zw_27 (by decide) (by decide +kernel) (Nat.le_of_ble_eq_true rfl) ⟨Nat.le_of_ble_eq_true rfl, Nat.le_of_ble_eq_true rfl⟩ dX0_init_17 (fun q2 H h => ?_)
  have h : WD D A s.heap _ _ [[(hh, .inr (0, [.int 0, .int 0, .int 0, .int 0, .ref q1, .null, .null, .null, .int 0, .null, .null]))], [(q1, .inl (K 4, 676, .inr (.inl (fun _ => 0))))], [(q2, .inl (K 4, 676, .inr (.inl (fun _ => 0))))]] := h
  refine r_putFG F h hini (i := 0) (k := 5) (v := .ref q2) inX0 tyX0_ok nmX0 rfl (by decide) zw_29 rfl rfl rfl rfl rfl rfl (Nat.le_of_ble_eq_true rfl) dX0_init_19 (fun H locs h => ?_)
  have h : WD D A s.heap _ _ [[(hh, .inr (0, [.int 0, .int 0, .int 0, .int 0, .ref q1, .ref q2, .null, .null, .int 0, .null, .null]))], [(q1, .inl (K 4, 676, .inr (.inl (fun _ => 0))))], [(q2, .inl (K 4, 676, .inr (.inl (fun _ => 0))))]] := h
  refine lv_aload_n hx hb dX0_init_22 rfl (lv_at hl 0 rfl) ?_
  refine lv_bipush (v := 13) hx hb dX0_init_23 (by decide) ?_
  refine r_newaZ (N' := 13) F h zw_30 (by decide) (by decide +kernel) (Nat.le_of_ble_eq_true rfl) ⟨Nat.le_of_ble_eq_true rfl, Nat.le_of_ble_eq_true rfl⟩ dX0_init_25 (fun q3 H h => ?_)
  have h : WD D A s.heap _ _ [[(hh, .inr (0, [.int 0, .int 0, .int 0, .int 0, .ref q1, .ref q2, .null, .null, .int 0, .null, .null]))], [(q1, .inl (K 4, 676, .inr (.inl (fun _ => 0))))], [(q2, .inl (K 4, 676, .inr (.inl (fun _ => 0))))], [(q3, .inl (K 1, 13, .inl (fun _ => 0)))]] := h
  refine r_putFG F h hini (i := 0) (k := 6) (v := .ref q3) inX0 tyX0_ok nmX0 rfl (by decide) zw_31 rfl rfl rfl rfl rfl rfl (Nat.le_of_ble_eq_true rfl) dX0_init_27 (fun H locs h => ?_)
  have h : WD D A s.heap _ _ [[(hh, .inr (0, [.int 0, .int 0, .int 0, .int 0, .ref q1, .ref q2, .ref q3, .null, .int 0, .null, .null]))], [(q1, .inl (K 4, 676, .inr (.inl (fun _ => 0))))], [(q2, .inl (K 4, 676, .inr (.inl (fun _ => 0))))], [(q3, .inl (K 1, 13, .inl (fun _ => 0)))]] := h
  refine lv_aload_n hx hb dX0_init_30 rfl (lv_at hl 0 rfl) ?_
  refine lv_bipush (v := 10) hx hb dX0_init_31 (by decide) ?_
  refine r_newaI (N' := 10) F h zw_32 (by decide) (by decide +kernel) (Nat.le_of_ble_eq_true rfl) ⟨Nat.le_of_ble_eq_true rfl, Nat.le_of_ble_eq_true rfl⟩ dX0_init_33 (fun q4 H h => ?_)
  have h : WD D A s.heap _ _ [[(hh, .inr (0, [.int 0, .int 0, .int 0, .int 0, .ref q1, .ref q2, .ref q3, .null, .int 0, .null, .null]))], [(q1, .inl (K 4, 676, .inr (.inl (fun _ => 0))))], [(q2, .inl (K 4, 676, .inr (.inl (fun _ => 0))))], [(q3, .inl (K 1, 13, .inl (fun _ => 0)))], [(q4, .inl (K 0, 10, .inl (fun _ => 0)))]] := h
  refine r_putFG F h hini (i := 0) (k := 7) (v := .ref q4) inX0 tyX0_ok nmX0 rfl (by decide) zw_33 rfl rfl rfl rfl rfl rfl (Nat.le_of_ble_eq_true rfl) dX0_init_35 (fun H locs h => ?_)
  have h : WD D A s.heap _ _ [[(hh, .inr (0, [.int 0, .int 0, .int 0, .int 0, .ref q1, .ref q2, .ref q3, .ref q4, .int 0, .null, .null]))], [(q1, .inl (K 4, 676, .inr (.inl (fun _ => 0))))], [(q2, .inl (K 4, 676, .inr (.inl (fun _ => 0))))], [(q3, .inl (K 1, 13, .inl (fun _ => 0)))], [(q4, .inl (K 0, 10, .inl (fun _ => 0)))]] := h
  refine lv_aload_n hx hb dX0_init_38 rfl (lv_at hl 0 rfl) ?_
  refine lv_bipush (v := 13) hx hb dX0_init_39 (by decide) ?_
  refine r_newaL (N' := 13) F h zw_27 (by decide) (by decide +kernel) (Nat.le_of_ble_eq_true rfl) ⟨Nat.le_of_ble_eq_true rfl, Nat.le_of_ble_eq_true rfl⟩ dX0_init_41 (fun q5 H h => ?_)
  have h : WD D A s.heap _ _ [[(hh, .inr (0, [.int 0, .int 0, .int 0, .int 0, .ref q1, .ref q2, .ref q3, .ref q4, .int 0, .null, .null]))], [(q1, .inl (K 4, 676, .inr (.inl (fun _ => 0))))], [(q2, .inl (K 4, 676, .inr (.inl (fun _ => 0))))], [(q3, .inl (K 1, 13, .inl (fun _ => 0)))], [(q4, .inl (K 0, 10, .inl (fun _ => 0)))], [(q5, .inl (K 4, 13, .inr (.inl (fun _ => 0))))]] := h
  refine r_putG F h (i := 0) (k := 9) (v := .ref q5) inX0 tyX0_ok nmX0 rfl (by decide) zw_34 rfl rfl rfl rfl rfl (Nat.le_of_ble_eq_true rfl) dX0_init_43 (fun H locs h => ?_)
  have h : WD D A s.heap _ _ [[(hh, .inr (0, [.int 0, .int 0, .int 0, .int 0, .ref q1, .ref q2, .ref q3, .ref q4, .int 0, .ref q5, .null]))], [(q1, .inl (K 4, 676, .inr (.inl (fun _ => 0))))], [(q2, .inl (K 4, 676, .inr (.inl (fun _ => 0))))], [(q3, .inl (K 1, 13, .inl (fun _ => 0)))], [(q4, .inl (K 0, 10, .inl (fun _ => 0)))], [(q5, .inl (K 4, 13, .inr (.inl (fun _ => 0))))]] := h
  refine lv_aload_n hx hb dX0_init_46 rfl (lv_at hl 0 rfl) ?_
  refine lv_bipush (v := 13) hx hb dX0_init_47 (by decide) ?_
  refine r_newaL (N' := 13) F h zw_27 (by decide) (by decide +kernel) (Nat.le_of_ble_eq_true rfl) ⟨Nat.le_of_ble_eq_true rfl, Nat.le_of_ble_eq_true rfl⟩ dX0_init_49 (fun q6 H h => ?_)
  have h : WD D A s.heap _ _ [[(hh, .inr (0, [.int 0, .int 0, .int 0, .int 0, .ref q1, .ref q2, .ref q3, .ref q4, .int 0, .ref q5, .null]))], [(q1, .inl (K 4, 676, .inr (.inl (fun _ => 0))))], [(q2, .inl (K 4, 676, .inr (.inl (fun _ => 0))))], [(q3, .inl (K 1, 13, .inl (fun _ => 0)))], [(q4, .inl (K 0, 10, .inl (fun _ => 0)))], [(q5, .inl (K 4, 13, .inr (.inl (fun _ => 0))))], [(q6, .inl (K 4, 13, .inr (.inl (fun _ => 0))))]] := h
  refine r_putG F h (i := 0) (k := 10) (v := .ref q6) inX0 tyX0_ok nmX0 rfl (by decide) zw_35 rfl rfl rfl rfl rfl (Nat.le_of_ble_eq_true rfl) dX0_init_51 (fun H locs h => ?_)
  have h : WD D A s.heap _ _ [[(hh, .inr (0, [.int 0, .int 0, .int 0, .int 0, .ref q1, .ref q2, .ref q3, .ref q4, .int 0, .ref q5, .ref q6]))], [(q1, .inl (K 4, 676, .inr (.inl (fun _ => 0))))], [(q2, .inl (K 4, 676, .inr (.inl (fun _ => 0))))], [(q3, .inl (K 1, 13, .inl (fun _ => 0)))], [(q4, .inl (K 0, 10, .inl (fun _ => 0)))], [(q5, .inl (K 4, 13, .inr (.inl (fun _ => 0))))], [(q6, .inl (K 4, 13, .inr (.inl (fun _ => 0))))]] := h
  have h : WD D A s.heap H locs [[(hh, .inr (0, [.int 0, .int 0, .int 0, .int 0, .ref q1, .ref q2, .ref q3, .ref q4, .int 0, .ref q5, .ref q6]))], [(q1, .inl (K 4, 676, .inr (.inl (rL (fun _ => 0)))))], [(q2, .inl (K 4, 676, .inr (.inl (rL (fun _ => 0)))))], [(q3, .inl (K 1, 13, .inl (fun _ => 0)))], [(q4, .inl (K 0, 10, .inl (fun _ => 0)))], [(q5, .inl (K 4, 13, .inr (.inl (rL (fun _ => 0)))))], [(q6, .inl (K 4, 13, .inr (.inl (rL (fun _ => 0)))))]] := by rw [rL_0]; exact h
  exact r_retn (S1 := fun a => [wX0 K (ah hh a) zo]) (fun k => if k = 5 then q1 else if k = 6 then q2 else if k = 7 then q3 else if k = 8 then q4 else if k = 10 then q5 else if k = 11 then q6 else 0) F h ⟨rfl, rfl⟩ dX0_init_54
set_option maxRecDepth 100000 in
set_option maxHeartbeats 4000000 in
theorem kX1_init (l : Launch) (D : va_G) (K : Nat → ClassId) (hh : Nat) : CTn l yX1_init cX1_init 1 1 16 1 12 D K hh (.inr (1, [.null, .int 0, .int 0])) (fun a => [wX1 K (ah hh a) zo]) := by
  intro sz
  refine entN (Q := fun A => QnS D A (fun a => [wX1 K (ah hh a) zo])) (by decide) (Nat.le_of_ble_eq_true rfl) (fun p e s m args below meth c A ls F hw hl hin => ?_)
  have hx := F.1
  have hb := F.2.1
  have hini := hin rfl
  have hl : lv_has ls 1 [(0, .ref hh)] := hl
  have h : WD D A s.heap s.heap [] [[(hh, .inr (1, [.null, .int 0, .int 0]))]] := hw
  refine lv_aload_n hx hb dX1_init_0 rfl (lv_at hl 0 rfl) ?_
  refine r_obj F hl ⟨zw_36, zw_25, zw_26⟩ ⟨Nat.le_of_ble_eq_true rfl, Nat.le_of_ble_eq_true rfl⟩ dX1_init_1 ?_
  refine lv_aload_n hx hb dX1_init_4 rfl (lv_at hl 0 rfl) ?_
  refine lv_bipush (v := 12) hx hb dX1_init_5 (by decide) ?_
  refine r_newaI (N' := 12) F h zw_32 (by decide) (by decide +kernel) (Nat.le_of_ble_eq_true rfl) ⟨Nat.le_of_ble_eq_true rfl, Nat.le_of_ble_eq_true rfl⟩ dX1_init_7 (fun q1 H h => ?_)
  have h : WD D A s.heap _ _ [[(hh, .inr (1, [.null, .int 0, .int 0]))], [(q1, .inl (K 0, 12, .inl (fun _ => 0)))]] := h
  refine r_putFG F h hini (i := 0) (k := 0) (v := .ref q1) inX1 tyX1_ok nmX1 rfl (by decide) zw_37 rfl rfl rfl rfl rfl rfl (Nat.le_of_ble_eq_true rfl) dX1_init_9 (fun H locs h => ?_)
  have h : WD D A s.heap _ _ [[(hh, .inr (1, [.ref q1, .int 0, .int 0]))], [(q1, .inl (K 0, 12, .inl (fun _ => 0)))]] := h
  exact r_retn (S1 := fun a => [wX1 K (ah hh a) zo]) (fun k => if k = 1 then q1 else 0) F h ⟨rfl, rfl⟩ dX1_init_12
set_option maxRecDepth 100000 in
set_option maxHeartbeats 4000000 in
theorem kX2_init (l : Launch) (D : va_G) (K : Nat → ClassId) (hh : Nat) : CTn l yX2_init cX2_init 1 1 16 2 2800 D K hh (.inr (2, [.null, .null, .int 0, .int 0, .long 0, .int 0, .int 0])) (fun a => [wX2 K (ah hh a) zo]) := by
  intro sz
  refine entN (Q := fun A => QnS D A (fun a => [wX2 K (ah hh a) zo])) (by decide) (Nat.le_of_ble_eq_true rfl) (fun p e s m args below meth c A ls F hw hl hin => ?_)
  have hx := F.1
  have hb := F.2.1
  have hini := hin rfl
  have hl : lv_has ls 1 [(0, .ref hh)] := hl
  have h : WD D A s.heap s.heap [] [[(hh, .inr (2, [.null, .null, .int 0, .int 0, .long 0, .int 0, .int 0]))]] := hw
  refine lv_aload_n hx hb dX2_init_0 rfl (lv_at hl 0 rfl) ?_
  refine r_obj F hl ⟨zw_38, zw_25, zw_26⟩ ⟨Nat.le_of_ble_eq_true rfl, Nat.le_of_ble_eq_true rfl⟩ dX2_init_1 ?_
  refine lv_aload_n hx hb dX2_init_4 rfl (lv_at hl 0 rfl) ?_
  refine lv_sipush (v := 200) hx hb dX2_init_5 (by decide) ?_
  refine r_newaI (N' := 200) F h zw_32 (by decide) (by decide +kernel) (Nat.le_of_ble_eq_true rfl) ⟨Nat.le_of_ble_eq_true rfl, Nat.le_of_ble_eq_true rfl⟩ dX2_init_8 (fun q1 H h => ?_)
  have h : WD D A s.heap _ _ [[(hh, .inr (2, [.null, .null, .int 0, .int 0, .long 0, .int 0, .int 0]))], [(q1, .inl (K 0, 200, .inl (fun _ => 0)))]] := h
  refine r_putFG F h hini (i := 0) (k := 0) (v := .ref q1) inX2 tyX2_ok nmX2 rfl (by decide) zw_39 rfl rfl rfl rfl rfl rfl (Nat.le_of_ble_eq_true rfl) dX2_init_10 (fun H locs h => ?_)
  have h : WD D A s.heap _ _ [[(hh, .inr (2, [.ref q1, .null, .int 0, .int 0, .long 0, .int 0, .int 0]))], [(q1, .inl (K 0, 200, .inl (fun _ => 0)))]] := h
  refine lv_aload_n hx hb dX2_init_13 rfl (lv_at hl 0 rfl) ?_
  refine lv_sipush (v := 2600) hx hb dX2_init_14 (by decide) ?_
  refine r_newaL (N' := 2600) F h zw_27 (by decide) (by decide +kernel) (Nat.le_of_ble_eq_true rfl) ⟨Nat.le_of_ble_eq_true rfl, Nat.le_of_ble_eq_true rfl⟩ dX2_init_17 (fun q2 H h => ?_)
  have h : WD D A s.heap _ _ [[(hh, .inr (2, [.ref q1, .null, .int 0, .int 0, .long 0, .int 0, .int 0]))], [(q1, .inl (K 0, 200, .inl (fun _ => 0)))], [(q2, .inl (K 4, 2600, .inr (.inl (fun _ => 0))))]] := h
  refine r_putFG F h hini (i := 0) (k := 1) (v := .ref q2) inX2 tyX2_ok nmX2 rfl (by decide) zw_40 rfl rfl rfl rfl rfl rfl (Nat.le_of_ble_eq_true rfl) dX2_init_19 (fun H locs h => ?_)
  have h : WD D A s.heap _ _ [[(hh, .inr (2, [.ref q1, .ref q2, .int 0, .int 0, .long 0, .int 0, .int 0]))], [(q1, .inl (K 0, 200, .inl (fun _ => 0)))], [(q2, .inl (K 4, 2600, .inr (.inl (fun _ => 0))))]] := h
  have h : WD D A s.heap H locs [[(hh, .inr (2, [.ref q1, .ref q2, .int 0, .int 0, .long (rL (fun _ => 0) 0), .int 0, .int 0]))], [(q1, .inl (K 0, 200, .inl (fun _ => 0)))], [(q2, .inl (K 4, 2600, .inr (.inl (rL (fun _ => 0)))))]] := by rw [rL_0]; exact h
  exact r_retn (S1 := fun a => [wX2 K (ah hh a) zo]) (fun k => if k = 1 then q1 else if k = 2 then q2 else 0) F h ⟨rfl, rfl⟩ dX2_init_22
set_option maxRecDepth 100000 in
set_option maxHeartbeats 4000000 in
theorem kX3_init (l : Launch) (D : va_G) (K : Nat → ClassId) (hh : Nat) : CTn l yX3_init cX3_init 1 1 16 2 206 D K hh (.inr (3, [.null, .int 0, .int 0, .null])) (fun a => [wX3 K (ah hh a) zo]) := by
  intro sz
  refine entN (Q := fun A => QnS D A (fun a => [wX3 K (ah hh a) zo])) (by decide) (Nat.le_of_ble_eq_true rfl) (fun p e s m args below meth c A ls F hw hl hin => ?_)
  have hx := F.1
  have hb := F.2.1
  have hini := hin rfl
  have hl : lv_has ls 1 [(0, .ref hh)] := hl
  have h : WD D A s.heap s.heap [] [[(hh, .inr (3, [.null, .int 0, .int 0, .null]))]] := hw
  refine lv_aload_n hx hb dX3_init_0 rfl (lv_at hl 0 rfl) ?_
  refine r_obj F hl ⟨zw_41, zw_25, zw_26⟩ ⟨Nat.le_of_ble_eq_true rfl, Nat.le_of_ble_eq_true rfl⟩ dX3_init_1 ?_
  refine lv_aload_n hx hb dX3_init_4 rfl (lv_at hl 0 rfl) ?_
  refine lv_sipush (v := 200) hx hb dX3_init_5 (by decide) ?_
  refine r_newaC (N' := 200) F h zw_42 (by decide) (by decide +kernel) (Nat.le_of_ble_eq_true rfl) ⟨Nat.le_of_ble_eq_true rfl, Nat.le_of_ble_eq_true rfl⟩ dX3_init_8 (fun q1 H h => ?_)
  have h : WD D A s.heap _ _ [[(hh, .inr (3, [.null, .int 0, .int 0, .null]))], [(q1, .inl (K 2, 200, .inl (fun _ => 0)))]] := h
  refine r_putFG F h hini (i := 0) (k := 0) (v := .ref q1) inX3 tyX3_ok nmX3 rfl (by decide) zw_43 rfl rfl rfl rfl rfl rfl (Nat.le_of_ble_eq_true rfl) dX3_init_10 (fun H locs h => ?_)
  have h : WD D A s.heap _ _ [[(hh, .inr (3, [.ref q1, .int 0, .int 0, .null]))], [(q1, .inl (K 2, 200, .inl (fun _ => 0)))]] := h
  refine lv_aload_n hx hb dX3_init_13 rfl (lv_at hl 0 rfl) ?_
  refine lv_bipush (v := 6) hx hb dX3_init_14 (by decide) ?_
  refine r_newaI (N' := 6) F h zw_32 (by decide) (by decide +kernel) (Nat.le_of_ble_eq_true rfl) ⟨Nat.le_of_ble_eq_true rfl, Nat.le_of_ble_eq_true rfl⟩ dX3_init_16 (fun q2 H h => ?_)
  have h : WD D A s.heap _ _ [[(hh, .inr (3, [.ref q1, .int 0, .int 0, .null]))], [(q1, .inl (K 2, 200, .inl (fun _ => 0)))], [(q2, .inl (K 0, 6, .inl (fun _ => 0)))]] := h
  refine r_putFG F h hini (i := 0) (k := 3) (v := .ref q2) inX3 tyX3_ok nmX3 rfl (by decide) zw_44 rfl rfl rfl rfl rfl rfl (Nat.le_of_ble_eq_true rfl) dX3_init_18 (fun H locs h => ?_)
  have h : WD D A s.heap _ _ [[(hh, .inr (3, [.ref q1, .int 0, .int 0, .ref q2]))], [(q1, .inl (K 2, 200, .inl (fun _ => 0)))], [(q2, .inl (K 0, 6, .inl (fun _ => 0)))]] := h
  exact r_retn (S1 := fun a => [wX3 K (ah hh a) zo]) (fun k => if k = 1 then q1 else if k = 4 then q2 else 0) F h ⟨rfl, rfl⟩ dX3_init_21
set_option maxRecDepth 100000 in
set_option maxHeartbeats 4000000 in
theorem kX4_init (l : Launch) (D : va_G) (K : Nat → ClassId) (hh : Nat) : CTn l yX4_init cX4_init 1 1 16 10 86 D K hh (.inr (4, [.int 0, .int 0, .null, .null, .null, .null, .null, .int 0, .null, .null, .null, .null, .int 0, .int 0, .int 0, .null])) (fun a => [wX4 K (ah hh a) zo]) := by
  intro sz
  refine entN (Q := fun A => QnS D A (fun a => [wX4 K (ah hh a) zo])) (by decide) (Nat.le_of_ble_eq_true rfl) (fun p e s m args below meth c A ls F hw hl hin => ?_)
  have hx := F.1
  have hb := F.2.1
  have hini := hin rfl
  have hl : lv_has ls 1 [(0, .ref hh)] := hl
  have h : WD D A s.heap s.heap [] [[(hh, .inr (4, [.int 0, .int 0, .null, .null, .null, .null, .null, .int 0, .null, .null, .null, .null, .int 0, .int 0, .int 0, .null]))]] := hw
  refine lv_aload_n hx hb dX4_init_0 rfl (lv_at hl 0 rfl) ?_
  refine r_obj F hl ⟨zw_45, zw_25, zw_26⟩ ⟨Nat.le_of_ble_eq_true rfl, Nat.le_of_ble_eq_true rfl⟩ dX4_init_1 ?_
  refine lv_aload_n hx hb dX4_init_4 rfl (lv_at hl 0 rfl) ?_
  refine lv_bipush (v := 10) hx hb dX4_init_5 (by decide) ?_
  refine r_newaI (N' := 10) F h zw_32 (by decide) (by decide +kernel) (Nat.le_of_ble_eq_true rfl) ⟨Nat.le_of_ble_eq_true rfl, Nat.le_of_ble_eq_true rfl⟩ dX4_init_7 (fun q1 H h => ?_)
  have h : WD D A s.heap _ _ [[(hh, .inr (4, [.int 0, .int 0, .null, .null, .null, .null, .null, .int 0, .null, .null, .null, .null, .int 0, .int 0, .int 0, .null]))], [(q1, .inl (K 0, 10, .inl (fun _ => 0)))]] := h
  refine r_putFG F h hini (i := 0) (k := 2) (v := .ref q1) inX4 tyX4_ok nmX4 rfl (by decide) zw_46 rfl rfl rfl rfl rfl rfl (Nat.le_of_ble_eq_true rfl) dX4_init_9 (fun H locs h => ?_)
  have h : WD D A s.heap _ _ [[(hh, .inr (4, [.int 0, .int 0, .ref q1, .null, .null, .null, .null, .int 0, .null, .null, .null, .null, .int 0, .int 0, .int 0, .null]))], [(q1, .inl (K 0, 10, .inl (fun _ => 0)))]] := h
  refine lv_aload_n hx hb dX4_init_12 rfl (lv_at hl 0 rfl) ?_
  refine lv_bipush (v := 10) hx hb dX4_init_13 (by decide) ?_
  refine r_newaI (N' := 10) F h zw_32 (by decide) (by decide +kernel) (Nat.le_of_ble_eq_true rfl) ⟨Nat.le_of_ble_eq_true rfl, Nat.le_of_ble_eq_true rfl⟩ dX4_init_15 (fun q2 H h => ?_)
  have h : WD D A s.heap _ _ [[(hh, .inr (4, [.int 0, .int 0, .ref q1, .null, .null, .null, .null, .int 0, .null, .null, .null, .null, .int 0, .int 0, .int 0, .null]))], [(q1, .inl (K 0, 10, .inl (fun _ => 0)))], [(q2, .inl (K 0, 10, .inl (fun _ => 0)))]] := h
  refine r_putFG F h hini (i := 0) (k := 3) (v := .ref q2) inX4 tyX4_ok nmX4 rfl (by decide) zw_47 rfl rfl rfl rfl rfl rfl (Nat.le_of_ble_eq_true rfl) dX4_init_17 (fun H locs h => ?_)
  have h : WD D A s.heap _ _ [[(hh, .inr (4, [.int 0, .int 0, .ref q1, .ref q2, .null, .null, .null, .int 0, .null, .null, .null, .null, .int 0, .int 0, .int 0, .null]))], [(q1, .inl (K 0, 10, .inl (fun _ => 0)))], [(q2, .inl (K 0, 10, .inl (fun _ => 0)))]] := h
  refine lv_aload_n hx hb dX4_init_20 rfl (lv_at hl 0 rfl) ?_
  refine lv_bipush (v := 10) hx hb dX4_init_21 (by decide) ?_
  refine r_newaI (N' := 10) F h zw_32 (by decide) (by decide +kernel) (Nat.le_of_ble_eq_true rfl) ⟨Nat.le_of_ble_eq_true rfl, Nat.le_of_ble_eq_true rfl⟩ dX4_init_23 (fun q3 H h => ?_)
  have h : WD D A s.heap _ _ [[(hh, .inr (4, [.int 0, .int 0, .ref q1, .ref q2, .null, .null, .null, .int 0, .null, .null, .null, .null, .int 0, .int 0, .int 0, .null]))], [(q1, .inl (K 0, 10, .inl (fun _ => 0)))], [(q2, .inl (K 0, 10, .inl (fun _ => 0)))], [(q3, .inl (K 0, 10, .inl (fun _ => 0)))]] := h
  refine r_putFG F h hini (i := 0) (k := 4) (v := .ref q3) inX4 tyX4_ok nmX4 rfl (by decide) zw_48 rfl rfl rfl rfl rfl rfl (Nat.le_of_ble_eq_true rfl) dX4_init_25 (fun H locs h => ?_)
  have h : WD D A s.heap _ _ [[(hh, .inr (4, [.int 0, .int 0, .ref q1, .ref q2, .ref q3, .null, .null, .int 0, .null, .null, .null, .null, .int 0, .int 0, .int 0, .null]))], [(q1, .inl (K 0, 10, .inl (fun _ => 0)))], [(q2, .inl (K 0, 10, .inl (fun _ => 0)))], [(q3, .inl (K 0, 10, .inl (fun _ => 0)))]] := h
  refine lv_aload_n hx hb dX4_init_28 rfl (lv_at hl 0 rfl) ?_
  refine lv_bipush (v := 10) hx hb dX4_init_29 (by decide) ?_
  refine r_newaI (N' := 10) F h zw_32 (by decide) (by decide +kernel) (Nat.le_of_ble_eq_true rfl) ⟨Nat.le_of_ble_eq_true rfl, Nat.le_of_ble_eq_true rfl⟩ dX4_init_31 (fun q4 H h => ?_)
  have h : WD D A s.heap _ _ [[(hh, .inr (4, [.int 0, .int 0, .ref q1, .ref q2, .ref q3, .null, .null, .int 0, .null, .null, .null, .null, .int 0, .int 0, .int 0, .null]))], [(q1, .inl (K 0, 10, .inl (fun _ => 0)))], [(q2, .inl (K 0, 10, .inl (fun _ => 0)))], [(q3, .inl (K 0, 10, .inl (fun _ => 0)))], [(q4, .inl (K 0, 10, .inl (fun _ => 0)))]] := h
  refine r_putFG F h hini (i := 0) (k := 5) (v := .ref q4) inX4 tyX4_ok nmX4 rfl (by decide) zw_49 rfl rfl rfl rfl rfl rfl (Nat.le_of_ble_eq_true rfl) dX4_init_33 (fun H locs h => ?_)
  have h : WD D A s.heap _ _ [[(hh, .inr (4, [.int 0, .int 0, .ref q1, .ref q2, .ref q3, .ref q4, .null, .int 0, .null, .null, .null, .null, .int 0, .int 0, .int 0, .null]))], [(q1, .inl (K 0, 10, .inl (fun _ => 0)))], [(q2, .inl (K 0, 10, .inl (fun _ => 0)))], [(q3, .inl (K 0, 10, .inl (fun _ => 0)))], [(q4, .inl (K 0, 10, .inl (fun _ => 0)))]] := h
  refine lv_aload_n hx hb dX4_init_36 rfl (lv_at hl 0 rfl) ?_
  refine lv_bipush (v := 10) hx hb dX4_init_37 (by decide) ?_
  refine r_newaI (N' := 10) F h zw_32 (by decide) (by decide +kernel) (Nat.le_of_ble_eq_true rfl) ⟨Nat.le_of_ble_eq_true rfl, Nat.le_of_ble_eq_true rfl⟩ dX4_init_39 (fun q5 H h => ?_)
  have h : WD D A s.heap _ _ [[(hh, .inr (4, [.int 0, .int 0, .ref q1, .ref q2, .ref q3, .ref q4, .null, .int 0, .null, .null, .null, .null, .int 0, .int 0, .int 0, .null]))], [(q1, .inl (K 0, 10, .inl (fun _ => 0)))], [(q2, .inl (K 0, 10, .inl (fun _ => 0)))], [(q3, .inl (K 0, 10, .inl (fun _ => 0)))], [(q4, .inl (K 0, 10, .inl (fun _ => 0)))], [(q5, .inl (K 0, 10, .inl (fun _ => 0)))]] := h
  refine r_putFG F h hini (i := 0) (k := 6) (v := .ref q5) inX4 tyX4_ok nmX4 rfl (by decide) zw_50 rfl rfl rfl rfl rfl rfl (Nat.le_of_ble_eq_true rfl) dX4_init_41 (fun H locs h => ?_)
  have h : WD D A s.heap _ _ [[(hh, .inr (4, [.int 0, .int 0, .ref q1, .ref q2, .ref q3, .ref q4, .ref q5, .int 0, .null, .null, .null, .null, .int 0, .int 0, .int 0, .null]))], [(q1, .inl (K 0, 10, .inl (fun _ => 0)))], [(q2, .inl (K 0, 10, .inl (fun _ => 0)))], [(q3, .inl (K 0, 10, .inl (fun _ => 0)))], [(q4, .inl (K 0, 10, .inl (fun _ => 0)))], [(q5, .inl (K 0, 10, .inl (fun _ => 0)))]] := h
  refine lv_aload_n hx hb dX4_init_44 rfl (lv_at hl 0 rfl) ?_
  refine lv_iconst (v := 4) hx hb dX4_init_45 (by decide) ?_
  refine r_newaI (N' := 4) F h zw_32 (by decide) (by decide +kernel) (Nat.le_of_ble_eq_true rfl) ⟨Nat.le_of_ble_eq_true rfl, Nat.le_of_ble_eq_true rfl⟩ dX4_init_46 (fun q6 H h => ?_)
  have h : WD D A s.heap _ _ [[(hh, .inr (4, [.int 0, .int 0, .ref q1, .ref q2, .ref q3, .ref q4, .ref q5, .int 0, .null, .null, .null, .null, .int 0, .int 0, .int 0, .null]))], [(q1, .inl (K 0, 10, .inl (fun _ => 0)))], [(q2, .inl (K 0, 10, .inl (fun _ => 0)))], [(q3, .inl (K 0, 10, .inl (fun _ => 0)))], [(q4, .inl (K 0, 10, .inl (fun _ => 0)))], [(q5, .inl (K 0, 10, .inl (fun _ => 0)))], [(q6, .inl (K 0, 4, .inl (fun _ => 0)))]] := h
  refine r_putFG F h hini (i := 0) (k := 8) (v := .ref q6) inX4 tyX4_ok nmX4 rfl (by decide) zw_51 rfl rfl rfl rfl rfl rfl (Nat.le_of_ble_eq_true rfl) dX4_init_48 (fun H locs h => ?_)
  have h : WD D A s.heap _ _ [[(hh, .inr (4, [.int 0, .int 0, .ref q1, .ref q2, .ref q3, .ref q4, .ref q5, .int 0, .ref q6, .null, .null, .null, .int 0, .int 0, .int 0, .null]))], [(q1, .inl (K 0, 10, .inl (fun _ => 0)))], [(q2, .inl (K 0, 10, .inl (fun _ => 0)))], [(q3, .inl (K 0, 10, .inl (fun _ => 0)))], [(q4, .inl (K 0, 10, .inl (fun _ => 0)))], [(q5, .inl (K 0, 10, .inl (fun _ => 0)))], [(q6, .inl (K 0, 4, .inl (fun _ => 0)))]] := h
  refine lv_aload_n hx hb dX4_init_51 rfl (lv_at hl 0 rfl) ?_
  refine lv_iconst (v := 4) hx hb dX4_init_52 (by decide) ?_
  refine r_newaI (N' := 4) F h zw_32 (by decide) (by decide +kernel) (Nat.le_of_ble_eq_true rfl) ⟨Nat.le_of_ble_eq_true rfl, Nat.le_of_ble_eq_true rfl⟩ dX4_init_53 (fun q7 H h => ?_)
  have h : WD D A s.heap _ _ [[(hh, .inr (4, [.int 0, .int 0, .ref q1, .ref q2, .ref q3, .ref q4, .ref q5, .int 0, .ref q6, .null, .null, .null, .int 0, .int 0, .int 0, .null]))], [(q1, .inl (K 0, 10, .inl (fun _ => 0)))], [(q2, .inl (K 0, 10, .inl (fun _ => 0)))], [(q3, .inl (K 0, 10, .inl (fun _ => 0)))], [(q4, .inl (K 0, 10, .inl (fun _ => 0)))], [(q5, .inl (K 0, 10, .inl (fun _ => 0)))], [(q6, .inl (K 0, 4, .inl (fun _ => 0)))], [(q7, .inl (K 0, 4, .inl (fun _ => 0)))]] := h
  refine r_putFG F h hini (i := 0) (k := 9) (v := .ref q7) inX4 tyX4_ok nmX4 rfl (by decide) zw_52 rfl rfl rfl rfl rfl rfl (Nat.le_of_ble_eq_true rfl) dX4_init_55 (fun H locs h => ?_)
  have h : WD D A s.heap _ _ [[(hh, .inr (4, [.int 0, .int 0, .ref q1, .ref q2, .ref q3, .ref q4, .ref q5, .int 0, .ref q6, .ref q7, .null, .null, .int 0, .int 0, .int 0, .null]))], [(q1, .inl (K 0, 10, .inl (fun _ => 0)))], [(q2, .inl (K 0, 10, .inl (fun _ => 0)))], [(q3, .inl (K 0, 10, .inl (fun _ => 0)))], [(q4, .inl (K 0, 10, .inl (fun _ => 0)))], [(q5, .inl (K 0, 10, .inl (fun _ => 0)))], [(q6, .inl (K 0, 4, .inl (fun _ => 0)))], [(q7, .inl (K 0, 4, .inl (fun _ => 0)))]] := h
  refine lv_aload_n hx hb dX4_init_58 rfl (lv_at hl 0 rfl) ?_
  refine lv_iconst (v := 4) hx hb dX4_init_59 (by decide) ?_
  refine r_newaZ (N' := 4) F h zw_30 (by decide) (by decide +kernel) (Nat.le_of_ble_eq_true rfl) ⟨Nat.le_of_ble_eq_true rfl, Nat.le_of_ble_eq_true rfl⟩ dX4_init_60 (fun q8 H h => ?_)
  have h : WD D A s.heap _ _ [[(hh, .inr (4, [.int 0, .int 0, .ref q1, .ref q2, .ref q3, .ref q4, .ref q5, .int 0, .ref q6, .ref q7, .null, .null, .int 0, .int 0, .int 0, .null]))], [(q1, .inl (K 0, 10, .inl (fun _ => 0)))], [(q2, .inl (K 0, 10, .inl (fun _ => 0)))], [(q3, .inl (K 0, 10, .inl (fun _ => 0)))], [(q4, .inl (K 0, 10, .inl (fun _ => 0)))], [(q5, .inl (K 0, 10, .inl (fun _ => 0)))], [(q6, .inl (K 0, 4, .inl (fun _ => 0)))], [(q7, .inl (K 0, 4, .inl (fun _ => 0)))], [(q8, .inl (K 1, 4, .inl (fun _ => 0)))]] := h
  refine r_putFG F h hini (i := 0) (k := 10) (v := .ref q8) inX4 tyX4_ok nmX4 rfl (by decide) zw_53 rfl rfl rfl rfl rfl rfl (Nat.le_of_ble_eq_true rfl) dX4_init_62 (fun H locs h => ?_)
  have h : WD D A s.heap _ _ [[(hh, .inr (4, [.int 0, .int 0, .ref q1, .ref q2, .ref q3, .ref q4, .ref q5, .int 0, .ref q6, .ref q7, .ref q8, .null, .int 0, .int 0, .int 0, .null]))], [(q1, .inl (K 0, 10, .inl (fun _ => 0)))], [(q2, .inl (K 0, 10, .inl (fun _ => 0)))], [(q3, .inl (K 0, 10, .inl (fun _ => 0)))], [(q4, .inl (K 0, 10, .inl (fun _ => 0)))], [(q5, .inl (K 0, 10, .inl (fun _ => 0)))], [(q6, .inl (K 0, 4, .inl (fun _ => 0)))], [(q7, .inl (K 0, 4, .inl (fun _ => 0)))], [(q8, .inl (K 1, 4, .inl (fun _ => 0)))]] := h
  refine lv_aload_n hx hb dX4_init_65 rfl (lv_at hl 0 rfl) ?_
  refine lv_bipush (v := 12) hx hb dX4_init_66 (by decide) ?_
  refine r_newaI (N' := 12) F h zw_32 (by decide) (by decide +kernel) (Nat.le_of_ble_eq_true rfl) ⟨Nat.le_of_ble_eq_true rfl, Nat.le_of_ble_eq_true rfl⟩ dX4_init_68 (fun q9 H h => ?_)
  have h : WD D A s.heap _ _ [[(hh, .inr (4, [.int 0, .int 0, .ref q1, .ref q2, .ref q3, .ref q4, .ref q5, .int 0, .ref q6, .ref q7, .ref q8, .null, .int 0, .int 0, .int 0, .null]))], [(q1, .inl (K 0, 10, .inl (fun _ => 0)))], [(q2, .inl (K 0, 10, .inl (fun _ => 0)))], [(q3, .inl (K 0, 10, .inl (fun _ => 0)))], [(q4, .inl (K 0, 10, .inl (fun _ => 0)))], [(q5, .inl (K 0, 10, .inl (fun _ => 0)))], [(q6, .inl (K 0, 4, .inl (fun _ => 0)))], [(q7, .inl (K 0, 4, .inl (fun _ => 0)))], [(q8, .inl (K 1, 4, .inl (fun _ => 0)))], [(q9, .inl (K 0, 12, .inl (fun _ => 0)))]] := h
  refine r_putFG F h hini (i := 0) (k := 11) (v := .ref q9) inX4 tyX4_ok nmX4 rfl (by decide) zw_54 rfl rfl rfl rfl rfl rfl (Nat.le_of_ble_eq_true rfl) dX4_init_70 (fun H locs h => ?_)
  have h : WD D A s.heap _ _ [[(hh, .inr (4, [.int 0, .int 0, .ref q1, .ref q2, .ref q3, .ref q4, .ref q5, .int 0, .ref q6, .ref q7, .ref q8, .ref q9, .int 0, .int 0, .int 0, .null]))], [(q1, .inl (K 0, 10, .inl (fun _ => 0)))], [(q2, .inl (K 0, 10, .inl (fun _ => 0)))], [(q3, .inl (K 0, 10, .inl (fun _ => 0)))], [(q4, .inl (K 0, 10, .inl (fun _ => 0)))], [(q5, .inl (K 0, 10, .inl (fun _ => 0)))], [(q6, .inl (K 0, 4, .inl (fun _ => 0)))], [(q7, .inl (K 0, 4, .inl (fun _ => 0)))], [(q8, .inl (K 1, 4, .inl (fun _ => 0)))], [(q9, .inl (K 0, 12, .inl (fun _ => 0)))]] := h
  refine lv_aload_n hx hb dX4_init_73 rfl (lv_at hl 0 rfl) ?_
  refine lv_bipush (v := 12) hx hb dX4_init_74 (by decide) ?_
  refine r_newaI (N' := 12) F h zw_32 (by decide) (by decide +kernel) (Nat.le_of_ble_eq_true rfl) ⟨Nat.le_of_ble_eq_true rfl, Nat.le_of_ble_eq_true rfl⟩ dX4_init_76 (fun q10 H h => ?_)
  have h : WD D A s.heap _ _ [[(hh, .inr (4, [.int 0, .int 0, .ref q1, .ref q2, .ref q3, .ref q4, .ref q5, .int 0, .ref q6, .ref q7, .ref q8, .ref q9, .int 0, .int 0, .int 0, .null]))], [(q1, .inl (K 0, 10, .inl (fun _ => 0)))], [(q2, .inl (K 0, 10, .inl (fun _ => 0)))], [(q3, .inl (K 0, 10, .inl (fun _ => 0)))], [(q4, .inl (K 0, 10, .inl (fun _ => 0)))], [(q5, .inl (K 0, 10, .inl (fun _ => 0)))], [(q6, .inl (K 0, 4, .inl (fun _ => 0)))], [(q7, .inl (K 0, 4, .inl (fun _ => 0)))], [(q8, .inl (K 1, 4, .inl (fun _ => 0)))], [(q9, .inl (K 0, 12, .inl (fun _ => 0)))], [(q10, .inl (K 0, 12, .inl (fun _ => 0)))]] := h
  refine r_putFG F h hini (i := 0) (k := 15) (v := .ref q10) inX4 tyX4_ok nmX4 rfl (by decide) zw_55 rfl rfl rfl rfl rfl rfl (Nat.le_of_ble_eq_true rfl) dX4_init_78 (fun H locs h => ?_)
  have h : WD D A s.heap _ _ [[(hh, .inr (4, [.int 0, .int 0, .ref q1, .ref q2, .ref q3, .ref q4, .ref q5, .int 0, .ref q6, .ref q7, .ref q8, .ref q9, .int 0, .int 0, .int 0, .ref q10]))], [(q1, .inl (K 0, 10, .inl (fun _ => 0)))], [(q2, .inl (K 0, 10, .inl (fun _ => 0)))], [(q3, .inl (K 0, 10, .inl (fun _ => 0)))], [(q4, .inl (K 0, 10, .inl (fun _ => 0)))], [(q5, .inl (K 0, 10, .inl (fun _ => 0)))], [(q6, .inl (K 0, 4, .inl (fun _ => 0)))], [(q7, .inl (K 0, 4, .inl (fun _ => 0)))], [(q8, .inl (K 1, 4, .inl (fun _ => 0)))], [(q9, .inl (K 0, 12, .inl (fun _ => 0)))], [(q10, .inl (K 0, 12, .inl (fun _ => 0)))]] := h
  exact r_retn (S1 := fun a => [wX4 K (ah hh a) zo]) (fun k => if k = 3 then q1 else if k = 4 then q2 else if k = 5 then q3 else if k = 6 then q4 else if k = 7 then q5 else if k = 9 then q6 else if k = 10 then q7 else if k = 11 then q8 else if k = 12 then q9 else if k = 16 then q10 else 0) F h ⟨rfl, rfl⟩ dX4_init_81
def VX6_0 : List Int32 := [0, 0, 0, 2, 1, 0, 2, 0, 1, 1, 0, (-4), (-4), 1, 1, 0, 1, 0, (-4), (-4), 3, 1, 1, 0, 1, 1, (-4), 0, 1, 0, 0, 1, 2, (-4), 5, 0, 2, 0, 2, 2, 2, 1, 0, 2, 1, 0, (-4), (-4), 4, 0, 0, 0, 0, 0, 0, 0, 0, 0, 0, 0, 0, 0, 0, 0, 0, 0, 0, 0, 0, 0]
def VX6_1 : List Int32 := [1, 0, 0, (-4), (-4), (-4), 0, 2, 1, 2, 2, (-4), 0, 0, 0, 0, 0, 0, 0, 0, 0, 0, 0, 0]
def m0 : ob := (fun k => if k = 0 then 2 else if k = 1 then 7 else if k = 3 then 2 else if k = 6 then 2 else 0, fun k => if k = 2 then ini VX6_0 70 else if k = 4 then ini VX6_1 24 else fun _ => 0)
set_option maxRecDepth 100000 in
set_option maxHeartbeats 4000000 in
theorem kX6_init (l : Launch) (D : va_G) (K : Nat → ClassId) (hh : Nat) : CTn l yX6_init cX6_init 1 1 16 19 8370 D K hh (.inr (6, [.int 0, .int 0, .null, .int 0, .null, .int 0, .int 0, .null, .int 0, .int 0, .null, .int 0, .null, .null, .null, .int 0, .int 0, .int 0, .null, .null, .null, .null, .int 0, .null, .null, .null, .null, .null, .null, .null, .int 0, .int 0, .int 0, .int 0, .null, .int 0, .int 0, .int 0])) (fun a => [wX6 K (ah hh a) m0]) := by
  intro sz
  refine entN (Q := fun A => QnS D A (fun a => [wX6 K (ah hh a) m0])) (by decide) (Nat.le_of_ble_eq_true rfl) (fun p e s m args below meth c A ls F hw hl hin => ?_)
  have hx := F.1
  have hb := F.2.1
  have hini := hin rfl
  have hl : lv_has ls 1 [(0, .ref hh)] := hl
  have h : WD D A s.heap s.heap [] [[(hh, .inr (6, [.int 0, .int 0, .null, .int 0, .null, .int 0, .int 0, .null, .int 0, .int 0, .null, .int 0, .null, .null, .null, .int 0, .int 0, .int 0, .null, .null, .null, .null, .int 0, .null, .null, .null, .null, .null, .null, .null, .int 0, .int 0, .int 0, .int 0, .null, .int 0, .int 0, .int 0]))]] := hw
  refine lv_aload_n hx hb dX6_init_0 rfl (lv_at hl 0 rfl) ?_
  refine r_obj F hl ⟨zw_56, zw_25, zw_26⟩ ⟨Nat.le_of_ble_eq_true rfl, Nat.le_of_ble_eq_true rfl⟩ dX6_init_1 ?_
  refine lv_aload_n hx hb dX6_init_4 rfl (lv_at hl 0 rfl) ?_
  refine lv_iconst (v := 2) hx hb dX6_init_5 (by decide) ?_
  refine r_putG F h (i := 0) (k := 0) (v := .int 2) inX6 tyX6_ok nmX6 rfl (by decide) zw_57 rfl rfl rfl rfl rfl (Nat.le_of_ble_eq_true rfl) dX6_init_6 (fun H locs h => ?_)
  have h : WD D A s.heap _ _ [[(hh, .inr (6, [.int 2, .int 0, .null, .int 0, .null, .int 0, .int 0, .null, .int 0, .int 0, .null, .int 0, .null, .null, .null, .int 0, .int 0, .int 0, .null, .null, .null, .null, .int 0, .null, .null, .null, .null, .null, .null, .null, .int 0, .int 0, .int 0, .int 0, .null, .int 0, .int 0, .int 0]))]] := h
  refine lv_aload_n hx hb dX6_init_9 rfl (lv_at hl 0 rfl) ?_
  refine lv_bipush (v := 7) hx hb dX6_init_10 (by decide) ?_
  refine r_putG F h (i := 0) (k := 1) (v := .int 7) inX6 tyX6_ok nmX6 rfl (by decide) zw_58 rfl rfl rfl rfl rfl (Nat.le_of_ble_eq_true rfl) dX6_init_12 (fun H locs h => ?_)
  have h : WD D A s.heap _ _ [[(hh, .inr (6, [.int 2, .int 7, .null, .int 0, .null, .int 0, .int 0, .null, .int 0, .int 0, .null, .int 0, .null, .null, .null, .int 0, .int 0, .int 0, .null, .null, .null, .null, .int 0, .null, .null, .null, .null, .null, .null, .null, .int 0, .int 0, .int 0, .int 0, .null, .int 0, .int 0, .int 0]))]] := h
  refine lv_aload_n hx hb dX6_init_15 rfl (lv_at hl 0 rfl) ?_
  refine lv_bipush (v := 70) hx hb dX6_init_16 (by decide) ?_
  refine r_newaI (N' := 70) F h zw_32 (by decide) (by decide +kernel) (Nat.le_of_ble_eq_true rfl) ⟨Nat.le_of_ble_eq_true rfl, Nat.le_of_ble_eq_true rfl⟩ dX6_init_18 (fun q1 H h => ?_)
  have h : WD D A s.heap _ _ [[(hh, .inr (6, [.int 2, .int 7, .null, .int 0, .null, .int 0, .int 0, .null, .int 0, .int 0, .null, .int 0, .null, .null, .null, .int 0, .int 0, .int 0, .null, .null, .null, .null, .int 0, .null, .null, .null, .null, .null, .null, .null, .int 0, .int 0, .int 0, .int 0, .null, .int 0, .int 0, .int 0]))], [(q1, .inl (K 0, 70, .inl (fun _ => 0)))]] := h
  refine lv_dup hx hb dX6_init_20 rfl ?_
  refine lv_iconst (v := 0) hx hb dX6_init_21 (by decide) ?_
  refine lv_iconst (v := 0) hx hb dX6_init_22 (by decide) ?_
  refine r_iastG F h (i := 1) (j := 0) rfl rfl (vin_ok (by decide +kernel)) (ini_0 VX6_0 (by decide +kernel) (by decide +kernel)) dX6_init_23 (fun H locs h => ?_)
  have h : WD D A s.heap _ _ [[(hh, .inr (6, [.int 2, .int 7, .null, .int 0, .null, .int 0, .int 0, .null, .int 0, .int 0, .null, .int 0, .null, .null, .null, .int 0, .int 0, .int 0, .null, .null, .null, .null, .int 0, .null, .null, .null, .null, .null, .null, .null, .int 0, .int 0, .int 0, .int 0, .null, .int 0, .int 0, .int 0]))], [(q1, .inl (K 0, 70, .inl (ini VX6_0 1)))]] := h
  refine lv_dup hx hb dX6_init_24 rfl ?_
  refine lv_iconst (v := 1) hx hb dX6_init_25 (by decide) ?_
  refine lv_iconst (v := 0) hx hb dX6_init_26 (by decide) ?_
  refine r_iastG F h (i := 1) (j := 0) rfl rfl (vin_ok (by decide +kernel)) (ini_s VX6_0 (by decide +kernel) (by decide +kernel)) dX6_init_27 (fun H locs h => ?_)
  have h : WD D A s.heap _ _ [[(hh, .inr (6, [.int 2, .int 7, .null, .int 0, .null, .int 0, .int 0, .null, .int 0, .int 0, .null, .int 0, .null, .null, .null, .int 0, .int 0, .int 0, .null, .null, .null, .null, .int 0, .null, .null, .null, .null, .null, .null, .null, .int 0, .int 0, .int 0, .int 0, .null, .int 0, .int 0, .int 0]))], [(q1, .inl (K 0, 70, .inl (ini VX6_0 2)))]] := h
  refine lv_dup hx hb dX6_init_28 rfl ?_
  refine lv_iconst (v := 2) hx hb dX6_init_29 (by decide) ?_
  refine lv_iconst (v := 0) hx hb dX6_init_30 (by decide) ?_
  refine r_iastG F h (i := 1) (j := 0) rfl rfl (vin_ok (by decide +kernel)) (ini_s VX6_0 (by decide +kernel) (by decide +kernel)) dX6_init_31 (fun H locs h => ?_)
  have h : WD D A s.heap _ _ [[(hh, .inr (6, [.int 2, .int 7, .null, .int 0, .null, .int 0, .int 0, .null, .int 0, .int 0, .null, .int 0, .null, .null, .null, .int 0, .int 0, .int 0, .null, .null, .null, .null, .int 0, .null, .null, .null, .null, .null, .null, .null, .int 0, .int 0, .int 0, .int 0, .null, .int 0, .int 0, .int 0]))], [(q1, .inl (K 0, 70, .inl (ini VX6_0 3)))]] := h
  refine lv_dup hx hb dX6_init_32 rfl ?_
  refine lv_iconst (v := 3) hx hb dX6_init_33 (by decide) ?_
  refine lv_iconst (v := 2) hx hb dX6_init_34 (by decide) ?_
  refine r_iastG F h (i := 1) (j := 0) rfl rfl (vin_ok (by decide +kernel)) (ini_s VX6_0 (by decide +kernel) (by decide +kernel)) dX6_init_35 (fun H locs h => ?_)
  have h : WD D A s.heap _ _ [[(hh, .inr (6, [.int 2, .int 7, .null, .int 0, .null, .int 0, .int 0, .null, .int 0, .int 0, .null, .int 0, .null, .null, .null, .int 0, .int 0, .int 0, .null, .null, .null, .null, .int 0, .null, .null, .null, .null, .null, .null, .null, .int 0, .int 0, .int 0, .int 0, .null, .int 0, .int 0, .int 0]))], [(q1, .inl (K 0, 70, .inl (ini VX6_0 4)))]] := h
  refine lv_dup hx hb dX6_init_36 rfl ?_
  refine lv_iconst (v := 4) hx hb dX6_init_37 (by decide) ?_
  refine lv_iconst (v := 1) hx hb dX6_init_38 (by decide) ?_
  refine r_iastG F h (i := 1) (j := 0) rfl rfl (vin_ok (by decide +kernel)) (ini_s VX6_0 (by decide +kernel) (by decide +kernel)) dX6_init_39 (fun H locs h => ?_)
  have h : WD D A s.heap _ _ [[(hh, .inr (6, [.int 2, .int 7, .null, .int 0, .null, .int 0, .int 0, .null, .int 0, .int 0, .null, .int 0, .null, .null, .null, .int 0, .int 0, .int 0, .null, .null, .null, .null, .int 0, .null, .null, .null, .null, .null, .null, .null, .int 0, .int 0, .int 0, .int 0, .null, .int 0, .int 0, .int 0]))], [(q1, .inl (K 0, 70, .inl (ini VX6_0 5)))]] := h
  refine lv_dup hx hb dX6_init_40 rfl ?_
  refine lv_iconst (v := 5) hx hb dX6_init_41 (by decide) ?_
  refine lv_iconst (v := 0) hx hb dX6_init_42 (by decide) ?_
  refine r_iastG F h (i := 1) (j := 0) rfl rfl (vin_ok (by decide +kernel)) (ini_s VX6_0 (by decide +kernel) (by decide +kernel)) dX6_init_43 (fun H locs h => ?_)
  have h : WD D A s.heap _ _ [[(hh, .inr (6, [.int 2, .int 7, .null, .int 0, .null, .int 0, .int 0, .null, .int 0, .int 0, .null, .int 0, .null, .null, .null, .int 0, .int 0, .int 0, .null, .null, .null, .null, .int 0, .null, .null, .null, .null, .null, .null, .null, .int 0, .int 0, .int 0, .int 0, .null, .int 0, .int 0, .int 0]))], [(q1, .inl (K 0, 70, .inl (ini VX6_0 6)))]] := h
  refine lv_dup hx hb dX6_init_44 rfl ?_
  refine lv_bipush (v := 6) hx hb dX6_init_45 (by decide) ?_
  refine lv_iconst (v := 2) hx hb dX6_init_47 (by decide) ?_
  refine r_iastG F h (i := 1) (j := 0) rfl rfl (vin_ok (by decide +kernel)) (ini_s VX6_0 (by decide +kernel) (by decide +kernel)) dX6_init_48 (fun H locs h => ?_)
  have h : WD D A s.heap _ _ [[(hh, .inr (6, [.int 2, .int 7, .null, .int 0, .null, .int 0, .int 0, .null, .int 0, .int 0, .null, .int 0, .null, .null, .null, .int 0, .int 0, .int 0, .null, .null, .null, .null, .int 0, .null, .null, .null, .null, .null, .null, .null, .int 0, .int 0, .int 0, .int 0, .null, .int 0, .int 0, .int 0]))], [(q1, .inl (K 0, 70, .inl (ini VX6_0 7)))]] := h
  refine lv_dup hx hb dX6_init_49 rfl ?_
  refine lv_bipush (v := 7) hx hb dX6_init_50 (by decide) ?_
  refine lv_iconst (v := 0) hx hb dX6_init_52 (by decide) ?_
  refine r_iastG F h (i := 1) (j := 0) rfl rfl (vin_ok (by decide +kernel)) (ini_s VX6_0 (by decide +kernel) (by decide +kernel)) dX6_init_53 (fun H locs h => ?_)
  have h : WD D A s.heap _ _ [[(hh, .inr (6, [.int 2, .int 7, .null, .int 0, .null, .int 0, .int 0, .null, .int 0, .int 0, .null, .int 0, .null, .null, .null, .int 0, .int 0, .int 0, .null, .null, .null, .null, .int 0, .null, .null, .null, .null, .null, .null, .null, .int 0, .int 0, .int 0, .int 0, .null, .int 0, .int 0, .int 0]))], [(q1, .inl (K 0, 70, .inl (ini VX6_0 8)))]] := h
  refine lv_dup hx hb dX6_init_54 rfl ?_
  refine lv_bipush (v := 8) hx hb dX6_init_55 (by decide) ?_
  refine lv_iconst (v := 1) hx hb dX6_init_57 (by decide) ?_
  refine r_iastG F h (i := 1) (j := 0) rfl rfl (vin_ok (by decide +kernel)) (ini_s VX6_0 (by decide +kernel) (by decide +kernel)) dX6_init_58 (fun H locs h => ?_)
  have h : WD D A s.heap _ _ [[(hh, .inr (6, [.int 2, .int 7, .null, .int 0, .null, .int 0, .int 0, .null, .int 0, .int 0, .null, .int 0, .null, .null, .null, .int 0, .int 0, .int 0, .null, .null, .null, .null, .int 0, .null, .null, .null, .null, .null, .null, .null, .int 0, .int 0, .int 0, .int 0, .null, .int 0, .int 0, .int 0]))], [(q1, .inl (K 0, 70, .inl (ini VX6_0 9)))]] := h
  refine lv_dup hx hb dX6_init_59 rfl ?_
  refine lv_bipush (v := 9) hx hb dX6_init_60 (by decide) ?_
  refine lv_iconst (v := 1) hx hb dX6_init_62 (by decide) ?_
  refine r_iastG F h (i := 1) (j := 0) rfl rfl (vin_ok (by decide +kernel)) (ini_s VX6_0 (by decide +kernel) (by decide +kernel)) dX6_init_63 (fun H locs h => ?_)
  have h : WD D A s.heap _ _ [[(hh, .inr (6, [.int 2, .int 7, .null, .int 0, .null, .int 0, .int 0, .null, .int 0, .int 0, .null, .int 0, .null, .null, .null, .int 0, .int 0, .int 0, .null, .null, .null, .null, .int 0, .null, .null, .null, .null, .null, .null, .null, .int 0, .int 0, .int 0, .int 0, .null, .int 0, .int 0, .int 0]))], [(q1, .inl (K 0, 70, .inl (ini VX6_0 10)))]] := h
  refine lv_dup hx hb dX6_init_64 rfl ?_
  refine lv_bipush (v := 10) hx hb dX6_init_65 (by decide) ?_
  refine lv_iconst (v := 0) hx hb dX6_init_67 (by decide) ?_
  refine r_iastG F h (i := 1) (j := 0) rfl rfl (vin_ok (by decide +kernel)) (ini_s VX6_0 (by decide +kernel) (by decide +kernel)) dX6_init_68 (fun H locs h => ?_)
  have h : WD D A s.heap _ _ [[(hh, .inr (6, [.int 2, .int 7, .null, .int 0, .null, .int 0, .int 0, .null, .int 0, .int 0, .null, .int 0, .null, .null, .null, .int 0, .int 0, .int 0, .null, .null, .null, .null, .int 0, .null, .null, .null, .null, .null, .null, .null, .int 0, .int 0, .int 0, .int 0, .null, .int 0, .int 0, .int 0]))], [(q1, .inl (K 0, 70, .inl (ini VX6_0 11)))]] := h
  refine lv_dup hx hb dX6_init_69 rfl ?_
  refine lv_bipush (v := 11) hx hb dX6_init_70 (by decide) ?_
  refine lv_bipush (v := (-4)) hx hb dX6_init_72 (by decide) ?_
  refine r_iastG F h (i := 1) (j := 0) rfl rfl (vin_ok (by decide +kernel)) (ini_s VX6_0 (by decide +kernel) (by decide +kernel)) dX6_init_74 (fun H locs h => ?_)
  have h : WD D A s.heap _ _ [[(hh, .inr (6, [.int 2, .int 7, .null, .int 0, .null, .int 0, .int 0, .null, .int 0, .int 0, .null, .int 0, .null, .null, .null, .int 0, .int 0, .int 0, .null, .null, .null, .null, .int 0, .null, .null, .null, .null, .null, .null, .null, .int 0, .int 0, .int 0, .int 0, .null, .int 0, .int 0, .int 0]))], [(q1, .inl (K 0, 70, .inl (ini VX6_0 12)))]] := h
  refine lv_dup hx hb dX6_init_75 rfl ?_
  refine lv_bipush (v := 12) hx hb dX6_init_76 (by decide) ?_
  refine lv_bipush (v := (-4)) hx hb dX6_init_78 (by decide) ?_
  refine r_iastG F h (i := 1) (j := 0) rfl rfl (vin_ok (by decide +kernel)) (ini_s VX6_0 (by decide +kernel) (by decide +kernel)) dX6_init_80 (fun H locs h => ?_)
  have h : WD D A s.heap _ _ [[(hh, .inr (6, [.int 2, .int 7, .null, .int 0, .null, .int 0, .int 0, .null, .int 0, .int 0, .null, .int 0, .null, .null, .null, .int 0, .int 0, .int 0, .null, .null, .null, .null, .int 0, .null, .null, .null, .null, .null, .null, .null, .int 0, .int 0, .int 0, .int 0, .null, .int 0, .int 0, .int 0]))], [(q1, .inl (K 0, 70, .inl (ini VX6_0 13)))]] := h
  refine lv_dup hx hb dX6_init_81 rfl ?_
  refine lv_bipush (v := 13) hx hb dX6_init_82 (by decide) ?_
  refine lv_iconst (v := 1) hx hb dX6_init_84 (by decide) ?_
  refine r_iastG F h (i := 1) (j := 0) rfl rfl (vin_ok (by decide +kernel)) (ini_s VX6_0 (by decide +kernel) (by decide +kernel)) dX6_init_85 (fun H locs h => ?_)
  have h : WD D A s.heap _ _ [[(hh, .inr (6, [.int 2, .int 7, .null, .int 0, .null, .int 0, .int 0, .null, .int 0, .int 0, .null, .int 0, .null, .null, .null, .int 0, .int 0, .int 0, .null, .null, .null, .null, .int 0, .null, .null, .null, .null, .null, .null, .null, .int 0, .int 0, .int 0, .int 0, .null, .int 0, .int 0, .int 0]))], [(q1, .inl (K 0, 70, .inl (ini VX6_0 14)))]] := h
  refine lv_dup hx hb dX6_init_86 rfl ?_
  refine lv_bipush (v := 14) hx hb dX6_init_87 (by decide) ?_
  refine lv_iconst (v := 1) hx hb dX6_init_89 (by decide) ?_
  refine r_iastG F h (i := 1) (j := 0) rfl rfl (vin_ok (by decide +kernel)) (ini_s VX6_0 (by decide +kernel) (by decide +kernel)) dX6_init_90 (fun H locs h => ?_)
  have h : WD D A s.heap _ _ [[(hh, .inr (6, [.int 2, .int 7, .null, .int 0, .null, .int 0, .int 0, .null, .int 0, .int 0, .null, .int 0, .null, .null, .null, .int 0, .int 0, .int 0, .null, .null, .null, .null, .int 0, .null, .null, .null, .null, .null, .null, .null, .int 0, .int 0, .int 0, .int 0, .null, .int 0, .int 0, .int 0]))], [(q1, .inl (K 0, 70, .inl (ini VX6_0 15)))]] := h
  refine lv_dup hx hb dX6_init_91 rfl ?_
  refine lv_bipush (v := 15) hx hb dX6_init_92 (by decide) ?_
  refine lv_iconst (v := 0) hx hb dX6_init_94 (by decide) ?_
  refine r_iastG F h (i := 1) (j := 0) rfl rfl (vin_ok (by decide +kernel)) (ini_s VX6_0 (by decide +kernel) (by decide +kernel)) dX6_init_95 (fun H locs h => ?_)
  have h : WD D A s.heap _ _ [[(hh, .inr (6, [.int 2, .int 7, .null, .int 0, .null, .int 0, .int 0, .null, .int 0, .int 0, .null, .int 0, .null, .null, .null, .int 0, .int 0, .int 0, .null, .null, .null, .null, .int 0, .null, .null, .null, .null, .null, .null, .null, .int 0, .int 0, .int 0, .int 0, .null, .int 0, .int 0, .int 0]))], [(q1, .inl (K 0, 70, .inl (ini VX6_0 16)))]] := h
  refine lv_dup hx hb dX6_init_96 rfl ?_
  refine lv_bipush (v := 16) hx hb dX6_init_97 (by decide) ?_
  refine lv_iconst (v := 1) hx hb dX6_init_99 (by decide) ?_
  refine r_iastG F h (i := 1) (j := 0) rfl rfl (vin_ok (by decide +kernel)) (ini_s VX6_0 (by decide +kernel) (by decide +kernel)) dX6_init_100 (fun H locs h => ?_)
  have h : WD D A s.heap _ _ [[(hh, .inr (6, [.int 2, .int 7, .null, .int 0, .null, .int 0, .int 0, .null, .int 0, .int 0, .null, .int 0, .null, .null, .null, .int 0, .int 0, .int 0, .null, .null, .null, .null, .int 0, .null, .null, .null, .null, .null, .null, .null, .int 0, .int 0, .int 0, .int 0, .null, .int 0, .int 0, .int 0]))], [(q1, .inl (K 0, 70, .inl (ini VX6_0 17)))]] := h
  refine lv_dup hx hb dX6_init_101 rfl ?_
  refine lv_bipush (v := 17) hx hb dX6_init_102 (by decide) ?_
  refine lv_iconst (v := 0) hx hb dX6_init_104 (by decide) ?_
  refine r_iastG F h (i := 1) (j := 0) rfl rfl (vin_ok (by decide +kernel)) (ini_s VX6_0 (by decide +kernel) (by decide +kernel)) dX6_init_105 (fun H locs h => ?_)
  have h : WD D A s.heap _ _ [[(hh, .inr (6, [.int 2, .int 7, .null, .int 0, .null, .int 0, .int 0, .null, .int 0, .int 0, .null, .int 0, .null, .null, .null, .int 0, .int 0, .int 0, .null, .null, .null, .null, .int 0, .null, .null, .null, .null, .null, .null, .null, .int 0, .int 0, .int 0, .int 0, .null, .int 0, .int 0, .int 0]))], [(q1, .inl (K 0, 70, .inl (ini VX6_0 18)))]] := h
  refine lv_dup hx hb dX6_init_106 rfl ?_
  refine lv_bipush (v := 18) hx hb dX6_init_107 (by decide) ?_
  refine lv_bipush (v := (-4)) hx hb dX6_init_109 (by decide) ?_
  refine r_iastG F h (i := 1) (j := 0) rfl rfl (vin_ok (by decide +kernel)) (ini_s VX6_0 (by decide +kernel) (by decide +kernel)) dX6_init_111 (fun H locs h => ?_)
  have h : WD D A s.heap _ _ [[(hh, .inr (6, [.int 2, .int 7, .null, .int 0, .null, .int 0, .int 0, .null, .int 0, .int 0, .null, .int 0, .null, .null, .null, .int 0, .int 0, .int 0, .null, .null, .null, .null, .int 0, .null, .null, .null, .null, .null, .null, .null, .int 0, .int 0, .int 0, .int 0, .null, .int 0, .int 0, .int 0]))], [(q1, .inl (K 0, 70, .inl (ini VX6_0 19)))]] := h
  refine lv_dup hx hb dX6_init_112 rfl ?_
  refine lv_bipush (v := 19) hx hb dX6_init_113 (by decide) ?_
  refine lv_bipush (v := (-4)) hx hb dX6_init_115 (by decide) ?_
  refine r_iastG F h (i := 1) (j := 0) rfl rfl (vin_ok (by decide +kernel)) (ini_s VX6_0 (by decide +kernel) (by decide +kernel)) dX6_init_117 (fun H locs h => ?_)
  have h : WD D A s.heap _ _ [[(hh, .inr (6, [.int 2, .int 7, .null, .int 0, .null, .int 0, .int 0, .null, .int 0, .int 0, .null, .int 0, .null, .null, .null, .int 0, .int 0, .int 0, .null, .null, .null, .null, .int 0, .null, .null, .null, .null, .null, .null, .null, .int 0, .int 0, .int 0, .int 0, .null, .int 0, .int 0, .int 0]))], [(q1, .inl (K 0, 70, .inl (ini VX6_0 20)))]] := h
  refine lv_dup hx hb dX6_init_118 rfl ?_
  refine lv_bipush (v := 20) hx hb dX6_init_119 (by decide) ?_
  refine lv_iconst (v := 3) hx hb dX6_init_121 (by decide) ?_
  refine r_iastG F h (i := 1) (j := 0) rfl rfl (vin_ok (by decide +kernel)) (ini_s VX6_0 (by decide +kernel) (by decide +kernel)) dX6_init_122 (fun H locs h => ?_)
  have h : WD D A s.heap _ _ [[(hh, .inr (6, [.int 2, .int 7, .null, .int 0, .null, .int 0, .int 0, .null, .int 0, .int 0, .null, .int 0, .null, .null, .null, .int 0, .int 0, .int 0, .null, .null, .null, .null, .int 0, .null, .null, .null, .null, .null, .null, .null, .int 0, .int 0, .int 0, .int 0, .null, .int 0, .int 0, .int 0]))], [(q1, .inl (K 0, 70, .inl (ini VX6_0 21)))]] := h
  refine lv_dup hx hb dX6_init_123 rfl ?_
  refine lv_bipush (v := 21) hx hb dX6_init_124 (by decide) ?_
  refine lv_iconst (v := 1) hx hb dX6_init_126 (by decide) ?_
  refine r_iastG F h (i := 1) (j := 0) rfl rfl (vin_ok (by decide +kernel)) (ini_s VX6_0 (by decide +kernel) (by decide +kernel)) dX6_init_127 (fun H locs h => ?_)
  have h : WD D A s.heap _ _ [[(hh, .inr (6, [.int 2, .int 7, .null, .int 0, .null, .int 0, .int 0, .null, .int 0, .int 0, .null, .int 0, .null, .null, .null, .int 0, .int 0, .int 0, .null, .null, .null, .null, .int 0, .null, .null, .null, .null, .null, .null, .null, .int 0, .int 0, .int 0, .int 0, .null, .int 0, .int 0, .int 0]))], [(q1, .inl (K 0, 70, .inl (ini VX6_0 22)))]] := h
  refine lv_dup hx hb dX6_init_128 rfl ?_
  refine lv_bipush (v := 22) hx hb dX6_init_129 (by decide) ?_
  refine lv_iconst (v := 1) hx hb dX6_init_131 (by decide) ?_
  refine r_iastG F h (i := 1) (j := 0) rfl rfl (vin_ok (by decide +kernel)) (ini_s VX6_0 (by decide +kernel) (by decide +kernel)) dX6_init_132 (fun H locs h => ?_)
  have h : WD D A s.heap _ _ [[(hh, .inr (6, [.int 2, .int 7, .null, .int 0, .null, .int 0, .int 0, .null, .int 0, .int 0, .null, .int 0, .null, .null, .null, .int 0, .int 0, .int 0, .null, .null, .null, .null, .int 0, .null, .null, .null, .null, .null, .null, .null, .int 0, .int 0, .int 0, .int 0, .null, .int 0, .int 0, .int 0]))], [(q1, .inl (K 0, 70, .inl (ini VX6_0 23)))]] := h
  refine lv_dup hx hb dX6_init_133 rfl ?_
  refine lv_bipush (v := 23) hx hb dX6_init_134 (by decide) ?_
  refine lv_iconst (v := 0) hx hb dX6_init_136 (by decide) ?_
  refine r_iastG F h (i := 1) (j := 0) rfl rfl (vin_ok (by decide +kernel)) (ini_s VX6_0 (by decide +kernel) (by decide +kernel)) dX6_init_137 (fun H locs h => ?_)
  have h : WD D A s.heap _ _ [[(hh, .inr (6, [.int 2, .int 7, .null, .int 0, .null, .int 0, .int 0, .null, .int 0, .int 0, .null, .int 0, .null, .null, .null, .int 0, .int 0, .int 0, .null, .null, .null, .null, .int 0, .null, .null, .null, .null, .null, .null, .null, .int 0, .int 0, .int 0, .int 0, .null, .int 0, .int 0, .int 0]))], [(q1, .inl (K 0, 70, .inl (ini VX6_0 24)))]] := h
  refine lv_dup hx hb dX6_init_138 rfl ?_
  refine lv_bipush (v := 24) hx hb dX6_init_139 (by decide) ?_
  refine lv_iconst (v := 1) hx hb dX6_init_141 (by decide) ?_
  refine r_iastG F h (i := 1) (j := 0) rfl rfl (vin_ok (by decide +kernel)) (ini_s VX6_0 (by decide +kernel) (by decide +kernel)) dX6_init_142 (fun H locs h => ?_)
  have h : WD D A s.heap _ _ [[(hh, .inr (6, [.int 2, .int 7, .null, .int 0, .null, .int 0, .int 0, .null, .int 0, .int 0, .null, .int 0, .null, .null, .null, .int 0, .int 0, .int 0, .null, .null, .null, .null, .int 0, .null, .null, .null, .null, .null, .null, .null, .int 0, .int 0, .int 0, .int 0, .null, .int 0, .int 0, .int 0]))], [(q1, .inl (K 0, 70, .inl (ini VX6_0 25)))]] := h
  refine lv_dup hx hb dX6_init_143 rfl ?_
  refine lv_bipush (v := 25) hx hb dX6_init_144 (by decide) ?_
  refine lv_iconst (v := 1) hx hb dX6_init_146 (by decide) ?_
  refine r_iastG F h (i := 1) (j := 0) rfl rfl (vin_ok (by decide +kernel)) (ini_s VX6_0 (by decide +kernel) (by decide +kernel)) dX6_init_147 (fun H locs h => ?_)
  have h : WD D A s.heap _ _ [[(hh, .inr (6, [.int 2, .int 7, .null, .int 0, .null, .int 0, .int 0, .null, .int 0, .int 0, .null, .int 0, .null, .null, .null, .int 0, .int 0, .int 0, .null, .null, .null, .null, .int 0, .null, .null, .null, .null, .null, .null, .null, .int 0, .int 0, .int 0, .int 0, .null, .int 0, .int 0, .int 0]))], [(q1, .inl (K 0, 70, .inl (ini VX6_0 26)))]] := h
  refine lv_dup hx hb dX6_init_148 rfl ?_
  refine lv_bipush (v := 26) hx hb dX6_init_149 (by decide) ?_
  refine lv_bipush (v := (-4)) hx hb dX6_init_151 (by decide) ?_
  refine r_iastG F h (i := 1) (j := 0) rfl rfl (vin_ok (by decide +kernel)) (ini_s VX6_0 (by decide +kernel) (by decide +kernel)) dX6_init_153 (fun H locs h => ?_)
  have h : WD D A s.heap _ _ [[(hh, .inr (6, [.int 2, .int 7, .null, .int 0, .null, .int 0, .int 0, .null, .int 0, .int 0, .null, .int 0, .null, .null, .null, .int 0, .int 0, .int 0, .null, .null, .null, .null, .int 0, .null, .null, .null, .null, .null, .null, .null, .int 0, .int 0, .int 0, .int 0, .null, .int 0, .int 0, .int 0]))], [(q1, .inl (K 0, 70, .inl (ini VX6_0 27)))]] := h
  refine lv_dup hx hb dX6_init_154 rfl ?_
  refine lv_bipush (v := 27) hx hb dX6_init_155 (by decide) ?_
  refine lv_iconst (v := 0) hx hb dX6_init_157 (by decide) ?_
  refine r_iastG F h (i := 1) (j := 0) rfl rfl (vin_ok (by decide +kernel)) (ini_s VX6_0 (by decide +kernel) (by decide +kernel)) dX6_init_158 (fun H locs h => ?_)
  have h : WD D A s.heap _ _ [[(hh, .inr (6, [.int 2, .int 7, .null, .int 0, .null, .int 0, .int 0, .null, .int 0, .int 0, .null, .int 0, .null, .null, .null, .int 0, .int 0, .int 0, .null, .null, .null, .null, .int 0, .null, .null, .null, .null, .null, .null, .null, .int 0, .int 0, .int 0, .int 0, .null, .int 0, .int 0, .int 0]))], [(q1, .inl (K 0, 70, .inl (ini VX6_0 28)))]] := h
  refine lv_dup hx hb dX6_init_159 rfl ?_
  refine lv_bipush (v := 28) hx hb dX6_init_160 (by decide) ?_
  refine lv_iconst (v := 1) hx hb dX6_init_162 (by decide) ?_
  refine r_iastG F h (i := 1) (j := 0) rfl rfl (vin_ok (by decide +kernel)) (ini_s VX6_0 (by decide +kernel) (by decide +kernel)) dX6_init_163 (fun H locs h => ?_)
  have h : WD D A s.heap _ _ [[(hh, .inr (6, [.int 2, .int 7, .null, .int 0, .null, .int 0, .int 0, .null, .int 0, .int 0, .null, .int 0, .null, .null, .null, .int 0, .int 0, .int 0, .null, .null, .null, .null, .int 0, .null, .null, .null, .null, .null, .null, .null, .int 0, .int 0, .int 0, .int 0, .null, .int 0, .int 0, .int 0]))], [(q1, .inl (K 0, 70, .inl (ini VX6_0 29)))]] := h
  refine lv_dup hx hb dX6_init_164 rfl ?_
  refine lv_bipush (v := 29) hx hb dX6_init_165 (by decide) ?_
  refine lv_iconst (v := 0) hx hb dX6_init_167 (by decide) ?_
  refine r_iastG F h (i := 1) (j := 0) rfl rfl (vin_ok (by decide +kernel)) (ini_s VX6_0 (by decide +kernel) (by decide +kernel)) dX6_init_168 (fun H locs h => ?_)
  have h : WD D A s.heap _ _ [[(hh, .inr (6, [.int 2, .int 7, .null, .int 0, .null, .int 0, .int 0, .null, .int 0, .int 0, .null, .int 0, .null, .null, .null, .int 0, .int 0, .int 0, .null, .null, .null, .null, .int 0, .null, .null, .null, .null, .null, .null, .null, .int 0, .int 0, .int 0, .int 0, .null, .int 0, .int 0, .int 0]))], [(q1, .inl (K 0, 70, .inl (ini VX6_0 30)))]] := h
  refine lv_dup hx hb dX6_init_169 rfl ?_
  refine lv_bipush (v := 30) hx hb dX6_init_170 (by decide) ?_
  refine lv_iconst (v := 0) hx hb dX6_init_172 (by decide) ?_
  refine r_iastG F h (i := 1) (j := 0) rfl rfl (vin_ok (by decide +kernel)) (ini_s VX6_0 (by decide +kernel) (by decide +kernel)) dX6_init_173 (fun H locs h => ?_)
  have h : WD D A s.heap _ _ [[(hh, .inr (6, [.int 2, .int 7, .null, .int 0, .null, .int 0, .int 0, .null, .int 0, .int 0, .null, .int 0, .null, .null, .null, .int 0, .int 0, .int 0, .null, .null, .null, .null, .int 0, .null, .null, .null, .null, .null, .null, .null, .int 0, .int 0, .int 0, .int 0, .null, .int 0, .int 0, .int 0]))], [(q1, .inl (K 0, 70, .inl (ini VX6_0 31)))]] := h
  refine lv_dup hx hb dX6_init_174 rfl ?_
  refine lv_bipush (v := 31) hx hb dX6_init_175 (by decide) ?_
  refine lv_iconst (v := 1) hx hb dX6_init_177 (by decide) ?_
  refine r_iastG F h (i := 1) (j := 0) rfl rfl (vin_ok (by decide +kernel)) (ini_s VX6_0 (by decide +kernel) (by decide +kernel)) dX6_init_178 (fun H locs h => ?_)
  have h : WD D A s.heap _ _ [[(hh, .inr (6, [.int 2, .int 7, .null, .int 0, .null, .int 0, .int 0, .null, .int 0, .int 0, .null, .int 0, .null, .null, .null, .int 0, .int 0, .int 0, .null, .null, .null, .null, .int 0, .null, .null, .null, .null, .null, .null, .null, .int 0, .int 0, .int 0, .int 0, .null, .int 0, .int 0, .int 0]))], [(q1, .inl (K 0, 70, .inl (ini VX6_0 32)))]] := h
  refine lv_dup hx hb dX6_init_179 rfl ?_
  refine lv_bipush (v := 32) hx hb dX6_init_180 (by decide) ?_
  refine lv_iconst (v := 2) hx hb dX6_init_182 (by decide) ?_
  refine r_iastG F h (i := 1) (j := 0) rfl rfl (vin_ok (by decide +kernel)) (ini_s VX6_0 (by decide +kernel) (by decide +kernel)) dX6_init_183 (fun H locs h => ?_)
  have h : WD D A s.heap _ _ [[(hh, .inr (6, [.int 2, .int 7, .null, .int 0, .null, .int 0, .int 0, .null, .int 0, .int 0, .null, .int 0, .null, .null, .null, .int 0, .int 0, .int 0, .null, .null, .null, .null, .int 0, .null, .null, .null, .null, .null, .null, .null, .int 0, .int 0, .int 0, .int 0, .null, .int 0, .int 0, .int 0]))], [(q1, .inl (K 0, 70, .inl (ini VX6_0 33)))]] := h
  refine lv_dup hx hb dX6_init_184 rfl ?_
  refine lv_bipush (v := 33) hx hb dX6_init_185 (by decide) ?_
  refine lv_bipush (v := (-4)) hx hb dX6_init_187 (by decide) ?_
  refine r_iastG F h (i := 1) (j := 0) rfl rfl (vin_ok (by decide +kernel)) (ini_s VX6_0 (by decide +kernel) (by decide +kernel)) dX6_init_189 (fun H locs h => ?_)
  have h : WD D A s.heap _ _ [[(hh, .inr (6, [.int 2, .int 7, .null, .int 0, .null, .int 0, .int 0, .null, .int 0, .int 0, .null, .int 0, .null, .null, .null, .int 0, .int 0, .int 0, .null, .null, .null, .null, .int 0, .null, .null, .null, .null, .null, .null, .null, .int 0, .int 0, .int 0, .int 0, .null, .int 0, .int 0, .int 0]))], [(q1, .inl (K 0, 70, .inl (ini VX6_0 34)))]] := h
  refine lv_dup hx hb dX6_init_190 rfl ?_
  refine lv_bipush (v := 34) hx hb dX6_init_191 (by decide) ?_
  refine lv_iconst (v := 5) hx hb dX6_init_193 (by decide) ?_
  refine r_iastG F h (i := 1) (j := 0) rfl rfl (vin_ok (by decide +kernel)) (ini_s VX6_0 (by decide +kernel) (by decide +kernel)) dX6_init_194 (fun H locs h => ?_)
  have h : WD D A s.heap _ _ [[(hh, .inr (6, [.int 2, .int 7, .null, .int 0, .null, .int 0, .int 0, .null, .int 0, .int 0, .null, .int 0, .null, .null, .null, .int 0, .int 0, .int 0, .null, .null, .null, .null, .int 0, .null, .null, .null, .null, .null, .null, .null, .int 0, .int 0, .int 0, .int 0, .null, .int 0, .int 0, .int 0]))], [(q1, .inl (K 0, 70, .inl (ini VX6_0 35)))]] := h
  refine lv_dup hx hb dX6_init_195 rfl ?_
  refine lv_bipush (v := 35) hx hb dX6_init_196 (by decide) ?_
  refine lv_iconst (v := 0) hx hb dX6_init_198 (by decide) ?_
  refine r_iastG F h (i := 1) (j := 0) rfl rfl (vin_ok (by decide +kernel)) (ini_s VX6_0 (by decide +kernel) (by decide +kernel)) dX6_init_199 (fun H locs h => ?_)
  have h : WD D A s.heap _ _ [[(hh, .inr (6, [.int 2, .int 7, .null, .int 0, .null, .int 0, .int 0, .null, .int 0, .int 0, .null, .int 0, .null, .null, .null, .int 0, .int 0, .int 0, .null, .null, .null, .null, .int 0, .null, .null, .null, .null, .null, .null, .null, .int 0, .int 0, .int 0, .int 0, .null, .int 0, .int 0, .int 0]))], [(q1, .inl (K 0, 70, .inl (ini VX6_0 36)))]] := h
  refine lv_dup hx hb dX6_init_200 rfl ?_
  refine lv_bipush (v := 36) hx hb dX6_init_201 (by decide) ?_
  refine lv_iconst (v := 2) hx hb dX6_init_203 (by decide) ?_
  refine r_iastG F h (i := 1) (j := 0) rfl rfl (vin_ok (by decide +kernel)) (ini_s VX6_0 (by decide +kernel) (by decide +kernel)) dX6_init_204 (fun H locs h => ?_)
  have h : WD D A s.heap _ _ [[(hh, .inr (6, [.int 2, .int 7, .null, .int 0, .null, .int 0, .int 0, .null, .int 0, .int 0, .null, .int 0, .null, .null, .null, .int 0, .int 0, .int 0, .null, .null, .null, .null, .int 0, .null, .null, .null, .null, .null, .null, .null, .int 0, .int 0, .int 0, .int 0, .null, .int 0, .int 0, .int 0]))], [(q1, .inl (K 0, 70, .inl (ini VX6_0 37)))]] := h
  refine lv_dup hx hb dX6_init_205 rfl ?_
  refine lv_bipush (v := 37) hx hb dX6_init_206 (by decide) ?_
  refine lv_iconst (v := 0) hx hb dX6_init_208 (by decide) ?_
  refine r_iastG F h (i := 1) (j := 0) rfl rfl (vin_ok (by decide +kernel)) (ini_s VX6_0 (by decide +kernel) (by decide +kernel)) dX6_init_209 (fun H locs h => ?_)
  have h : WD D A s.heap _ _ [[(hh, .inr (6, [.int 2, .int 7, .null, .int 0, .null, .int 0, .int 0, .null, .int 0, .int 0, .null, .int 0, .null, .null, .null, .int 0, .int 0, .int 0, .null, .null, .null, .null, .int 0, .null, .null, .null, .null, .null, .null, .null, .int 0, .int 0, .int 0, .int 0, .null, .int 0, .int 0, .int 0]))], [(q1, .inl (K 0, 70, .inl (ini VX6_0 38)))]] := h
  refine lv_dup hx hb dX6_init_210 rfl ?_
  refine lv_bipush (v := 38) hx hb dX6_init_211 (by decide) ?_
  refine lv_iconst (v := 2) hx hb dX6_init_213 (by decide) ?_
  refine r_iastG F h (i := 1) (j := 0) rfl rfl (vin_ok (by decide +kernel)) (ini_s VX6_0 (by decide +kernel) (by decide +kernel)) dX6_init_214 (fun H locs h => ?_)
  have h : WD D A s.heap _ _ [[(hh, .inr (6, [.int 2, .int 7, .null, .int 0, .null, .int 0, .int 0, .null, .int 0, .int 0, .null, .int 0, .null, .null, .null, .int 0, .int 0, .int 0, .null, .null, .null, .null, .int 0, .null, .null, .null, .null, .null, .null, .null, .int 0, .int 0, .int 0, .int 0, .null, .int 0, .int 0, .int 0]))], [(q1, .inl (K 0, 70, .inl (ini VX6_0 39)))]] := h
  refine lv_dup hx hb dX6_init_215 rfl ?_
  refine lv_bipush (v := 39) hx hb dX6_init_216 (by decide) ?_
  refine lv_iconst (v := 2) hx hb dX6_init_218 (by decide) ?_
  refine r_iastG F h (i := 1) (j := 0) rfl rfl (vin_ok (by decide +kernel)) (ini_s VX6_0 (by decide +kernel) (by decide +kernel)) dX6_init_219 (fun H locs h => ?_)
  have h : WD D A s.heap _ _ [[(hh, .inr (6, [.int 2, .int 7, .null, .int 0, .null, .int 0, .int 0, .null, .int 0, .int 0, .null, .int 0, .null, .null, .null, .int 0, .int 0, .int 0, .null, .null, .null, .null, .int 0, .null, .null, .null, .null, .null, .null, .null, .int 0, .int 0, .int 0, .int 0, .null, .int 0, .int 0, .int 0]))], [(q1, .inl (K 0, 70, .inl (ini VX6_0 40)))]] := h
  refine lv_dup hx hb dX6_init_220 rfl ?_
  refine lv_bipush (v := 40) hx hb dX6_init_221 (by decide) ?_
  refine lv_iconst (v := 2) hx hb dX6_init_223 (by decide) ?_
  refine r_iastG F h (i := 1) (j := 0) rfl rfl (vin_ok (by decide +kernel)) (ini_s VX6_0 (by decide +kernel) (by decide +kernel)) dX6_init_224 (fun H locs h => ?_)
  have h : WD D A s.heap _ _ [[(hh, .inr (6, [.int 2, .int 7, .null, .int 0, .null, .int 0, .int 0, .null, .int 0, .int 0, .null, .int 0, .null, .null, .null, .int 0, .int 0, .int 0, .null, .null, .null, .null, .int 0, .null, .null, .null, .null, .null, .null, .null, .int 0, .int 0, .int 0, .int 0, .null, .int 0, .int 0, .int 0]))], [(q1, .inl (K 0, 70, .inl (ini VX6_0 41)))]] := h
  refine lv_dup hx hb dX6_init_225 rfl ?_
  refine lv_bipush (v := 41) hx hb dX6_init_226 (by decide) ?_
  refine lv_iconst (v := 1) hx hb dX6_init_228 (by decide) ?_
  refine r_iastG F h (i := 1) (j := 0) rfl rfl (vin_ok (by decide +kernel)) (ini_s VX6_0 (by decide +kernel) (by decide +kernel)) dX6_init_229 (fun H locs h => ?_)
  have h : WD D A s.heap _ _ [[(hh, .inr (6, [.int 2, .int 7, .null, .int 0, .null, .int 0, .int 0, .null, .int 0, .int 0, .null, .int 0, .null, .null, .null, .int 0, .int 0, .int 0, .null, .null, .null, .null, .int 0, .null, .null, .null, .null, .null, .null, .null, .int 0, .int 0, .int 0, .int 0, .null, .int 0, .int 0, .int 0]))], [(q1, .inl (K 0, 70, .inl (ini VX6_0 42)))]] := h
  refine lv_dup hx hb dX6_init_230 rfl ?_
  refine lv_bipush (v := 42) hx hb dX6_init_231 (by decide) ?_
  refine lv_iconst (v := 0) hx hb dX6_init_233 (by decide) ?_
  refine r_iastG F h (i := 1) (j := 0) rfl rfl (vin_ok (by decide +kernel)) (ini_s VX6_0 (by decide +kernel) (by decide +kernel)) dX6_init_234 (fun H locs h => ?_)
  have h : WD D A s.heap _ _ [[(hh, .inr (6, [.int 2, .int 7, .null, .int 0, .null, .int 0, .int 0, .null, .int 0, .int 0, .null, .int 0, .null, .null, .null, .int 0, .int 0, .int 0, .null, .null, .null, .null, .int 0, .null, .null, .null, .null, .null, .null, .null, .int 0, .int 0, .int 0, .int 0, .null, .int 0, .int 0, .int 0]))], [(q1, .inl (K 0, 70, .inl (ini VX6_0 43)))]] := h
  refine lv_dup hx hb dX6_init_235 rfl ?_
  refine lv_bipush (v := 43) hx hb dX6_init_236 (by decide) ?_
  refine lv_iconst (v := 2) hx hb dX6_init_238 (by decide) ?_
  refine r_iastG F h (i := 1) (j := 0) rfl rfl (vin_ok (by decide +kernel)) (ini_s VX6_0 (by decide +kernel) (by decide +kernel)) dX6_init_239 (fun H locs h => ?_)
  have h : WD D A s.heap _ _ [[(hh, .inr (6, [.int 2, .int 7, .null, .int 0, .null, .int 0, .int 0, .null, .int 0, .int 0, .null, .int 0, .null, .null, .null, .int 0, .int 0, .int 0, .null, .null, .null, .null, .int 0, .null, .null, .null, .null, .null, .null, .null, .int 0, .int 0, .int 0, .int 0, .null, .int 0, .int 0, .int 0]))], [(q1, .inl (K 0, 70, .inl (ini VX6_0 44)))]] := h
  refine lv_dup hx hb dX6_init_240 rfl ?_
  refine lv_bipush (v := 44) hx hb dX6_init_241 (by decide) ?_
  refine lv_iconst (v := 1) hx hb dX6_init_243 (by decide) ?_
  refine r_iastG F h (i := 1) (j := 0) rfl rfl (vin_ok (by decide +kernel)) (ini_s VX6_0 (by decide +kernel) (by decide +kernel)) dX6_init_244 (fun H locs h => ?_)
  have h : WD D A s.heap _ _ [[(hh, .inr (6, [.int 2, .int 7, .null, .int 0, .null, .int 0, .int 0, .null, .int 0, .int 0, .null, .int 0, .null, .null, .null, .int 0, .int 0, .int 0, .null, .null, .null, .null, .int 0, .null, .null, .null, .null, .null, .null, .null, .int 0, .int 0, .int 0, .int 0, .null, .int 0, .int 0, .int 0]))], [(q1, .inl (K 0, 70, .inl (ini VX6_0 45)))]] := h
  refine lv_dup hx hb dX6_init_245 rfl ?_
  refine lv_bipush (v := 45) hx hb dX6_init_246 (by decide) ?_
  refine lv_iconst (v := 0) hx hb dX6_init_248 (by decide) ?_
  refine r_iastG F h (i := 1) (j := 0) rfl rfl (vin_ok (by decide +kernel)) (ini_s VX6_0 (by decide +kernel) (by decide +kernel)) dX6_init_249 (fun H locs h => ?_)
  have h : WD D A s.heap _ _ [[(hh, .inr (6, [.int 2, .int 7, .null, .int 0, .null, .int 0, .int 0, .null, .int 0, .int 0, .null, .int 0, .null, .null, .null, .int 0, .int 0, .int 0, .null, .null, .null, .null, .int 0, .null, .null, .null, .null, .null, .null, .null, .int 0, .int 0, .int 0, .int 0, .null, .int 0, .int 0, .int 0]))], [(q1, .inl (K 0, 70, .inl (ini VX6_0 46)))]] := h
  refine lv_dup hx hb dX6_init_250 rfl ?_
  refine lv_bipush (v := 46) hx hb dX6_init_251 (by decide) ?_
  refine lv_bipush (v := (-4)) hx hb dX6_init_253 (by decide) ?_
  refine r_iastG F h (i := 1) (j := 0) rfl rfl (vin_ok (by decide +kernel)) (ini_s VX6_0 (by decide +kernel) (by decide +kernel)) dX6_init_255 (fun H locs h => ?_)
  have h : WD D A s.heap _ _ [[(hh, .inr (6, [.int 2, .int 7, .null, .int 0, .null, .int 0, .int 0, .null, .int 0, .int 0, .null, .int 0, .null, .null, .null, .int 0, .int 0, .int 0, .null, .null, .null, .null, .int 0, .null, .null, .null, .null, .null, .null, .null, .int 0, .int 0, .int 0, .int 0, .null, .int 0, .int 0, .int 0]))], [(q1, .inl (K 0, 70, .inl (ini VX6_0 47)))]] := h
  refine lv_dup hx hb dX6_init_256 rfl ?_
  refine lv_bipush (v := 47) hx hb dX6_init_257 (by decide) ?_
  refine lv_bipush (v := (-4)) hx hb dX6_init_259 (by decide) ?_
  refine r_iastG F h (i := 1) (j := 0) rfl rfl (vin_ok (by decide +kernel)) (ini_s VX6_0 (by decide +kernel) (by decide +kernel)) dX6_init_261 (fun H locs h => ?_)
  have h : WD D A s.heap _ _ [[(hh, .inr (6, [.int 2, .int 7, .null, .int 0, .null, .int 0, .int 0, .null, .int 0, .int 0, .null, .int 0, .null, .null, .null, .int 0, .int 0, .int 0, .null, .null, .null, .null, .int 0, .null, .null, .null, .null, .null, .null, .null, .int 0, .int 0, .int 0, .int 0, .null, .int 0, .int 0, .int 0]))], [(q1, .inl (K 0, 70, .inl (ini VX6_0 48)))]] := h
  refine lv_dup hx hb dX6_init_262 rfl ?_
  refine lv_bipush (v := 48) hx hb dX6_init_263 (by decide) ?_
  refine lv_iconst (v := 4) hx hb dX6_init_265 (by decide) ?_
  refine r_iastG F h (i := 1) (j := 0) rfl rfl (vin_ok (by decide +kernel)) (ini_s VX6_0 (by decide +kernel) (by decide +kernel)) dX6_init_266 (fun H locs h => ?_)
  have h : WD D A s.heap _ _ [[(hh, .inr (6, [.int 2, .int 7, .null, .int 0, .null, .int 0, .int 0, .null, .int 0, .int 0, .null, .int 0, .null, .null, .null, .int 0, .int 0, .int 0, .null, .null, .null, .null, .int 0, .null, .null, .null, .null, .null, .null, .null, .int 0, .int 0, .int 0, .int 0, .null, .int 0, .int 0, .int 0]))], [(q1, .inl (K 0, 70, .inl (ini VX6_0 49)))]] := h
  refine lv_dup hx hb dX6_init_267 rfl ?_
  refine lv_bipush (v := 49) hx hb dX6_init_268 (by decide) ?_
  refine lv_iconst (v := 0) hx hb dX6_init_270 (by decide) ?_
  refine r_iastG F h (i := 1) (j := 0) rfl rfl (vin_ok (by decide +kernel)) (ini_s VX6_0 (by decide +kernel) (by decide +kernel)) dX6_init_271 (fun H locs h => ?_)
  have h : WD D A s.heap _ _ [[(hh, .inr (6, [.int 2, .int 7, .null, .int 0, .null, .int 0, .int 0, .null, .int 0, .int 0, .null, .int 0, .null, .null, .null, .int 0, .int 0, .int 0, .null, .null, .null, .null, .int 0, .null, .null, .null, .null, .null, .null, .null, .int 0, .int 0, .int 0, .int 0, .null, .int 0, .int 0, .int 0]))], [(q1, .inl (K 0, 70, .inl (ini VX6_0 50)))]] := h
  refine lv_dup hx hb dX6_init_272 rfl ?_
  refine lv_bipush (v := 50) hx hb dX6_init_273 (by decide) ?_
  refine lv_iconst (v := 0) hx hb dX6_init_275 (by decide) ?_
  refine r_iastG F h (i := 1) (j := 0) rfl rfl (vin_ok (by decide +kernel)) (ini_s VX6_0 (by decide +kernel) (by decide +kernel)) dX6_init_276 (fun H locs h => ?_)
  have h : WD D A s.heap _ _ [[(hh, .inr (6, [.int 2, .int 7, .null, .int 0, .null, .int 0, .int 0, .null, .int 0, .int 0, .null, .int 0, .null, .null, .null, .int 0, .int 0, .int 0, .null, .null, .null, .null, .int 0, .null, .null, .null, .null, .null, .null, .null, .int 0, .int 0, .int 0, .int 0, .null, .int 0, .int 0, .int 0]))], [(q1, .inl (K 0, 70, .inl (ini VX6_0 51)))]] := h
  refine lv_dup hx hb dX6_init_277 rfl ?_
  refine lv_bipush (v := 51) hx hb dX6_init_278 (by decide) ?_
  refine lv_iconst (v := 0) hx hb dX6_init_280 (by decide) ?_
  refine r_iastG F h (i := 1) (j := 0) rfl rfl (vin_ok (by decide +kernel)) (ini_s VX6_0 (by decide +kernel) (by decide +kernel)) dX6_init_281 (fun H locs h => ?_)
  have h : WD D A s.heap _ _ [[(hh, .inr (6, [.int 2, .int 7, .null, .int 0, .null, .int 0, .int 0, .null, .int 0, .int 0, .null, .int 0, .null, .null, .null, .int 0, .int 0, .int 0, .null, .null, .null, .null, .int 0, .null, .null, .null, .null, .null, .null, .null, .int 0, .int 0, .int 0, .int 0, .null, .int 0, .int 0, .int 0]))], [(q1, .inl (K 0, 70, .inl (ini VX6_0 52)))]] := h
  refine lv_dup hx hb dX6_init_282 rfl ?_
  refine lv_bipush (v := 52) hx hb dX6_init_283 (by decide) ?_
  refine lv_iconst (v := 0) hx hb dX6_init_285 (by decide) ?_
  refine r_iastG F h (i := 1) (j := 0) rfl rfl (vin_ok (by decide +kernel)) (ini_s VX6_0 (by decide +kernel) (by decide +kernel)) dX6_init_286 (fun H locs h => ?_)
  have h : WD D A s.heap _ _ [[(hh, .inr (6, [.int 2, .int 7, .null, .int 0, .null, .int 0, .int 0, .null, .int 0, .int 0, .null, .int 0, .null, .null, .null, .int 0, .int 0, .int 0, .null, .null, .null, .null, .int 0, .null, .null, .null, .null, .null, .null, .null, .int 0, .int 0, .int 0, .int 0, .null, .int 0, .int 0, .int 0]))], [(q1, .inl (K 0, 70, .inl (ini VX6_0 53)))]] := h
  refine lv_dup hx hb dX6_init_287 rfl ?_
  refine lv_bipush (v := 53) hx hb dX6_init_288 (by decide) ?_
  refine lv_iconst (v := 0) hx hb dX6_init_290 (by decide) ?_
  refine r_iastG F h (i := 1) (j := 0) rfl rfl (vin_ok (by decide +kernel)) (ini_s VX6_0 (by decide +kernel) (by decide +kernel)) dX6_init_291 (fun H locs h => ?_)
  have h : WD D A s.heap _ _ [[(hh, .inr (6, [.int 2, .int 7, .null, .int 0, .null, .int 0, .int 0, .null, .int 0, .int 0, .null, .int 0, .null, .null, .null, .int 0, .int 0, .int 0, .null, .null, .null, .null, .int 0, .null, .null, .null, .null, .null, .null, .null, .int 0, .int 0, .int 0, .int 0, .null, .int 0, .int 0, .int 0]))], [(q1, .inl (K 0, 70, .inl (ini VX6_0 54)))]] := h
  refine lv_dup hx hb dX6_init_292 rfl ?_
  refine lv_bipush (v := 54) hx hb dX6_init_293 (by decide) ?_
  refine lv_iconst (v := 0) hx hb dX6_init_295 (by decide) ?_
  refine r_iastG F h (i := 1) (j := 0) rfl rfl (vin_ok (by decide +kernel)) (ini_s VX6_0 (by decide +kernel) (by decide +kernel)) dX6_init_296 (fun H locs h => ?_)
  have h : WD D A s.heap _ _ [[(hh, .inr (6, [.int 2, .int 7, .null, .int 0, .null, .int 0, .int 0, .null, .int 0, .int 0, .null, .int 0, .null, .null, .null, .int 0, .int 0, .int 0, .null, .null, .null, .null, .int 0, .null, .null, .null, .null, .null, .null, .null, .int 0, .int 0, .int 0, .int 0, .null, .int 0, .int 0, .int 0]))], [(q1, .inl (K 0, 70, .inl (ini VX6_0 55)))]] := h
  refine lv_dup hx hb dX6_init_297 rfl ?_
  refine lv_bipush (v := 55) hx hb dX6_init_298 (by decide) ?_
  refine lv_iconst (v := 0) hx hb dX6_init_300 (by decide) ?_
  refine r_iastG F h (i := 1) (j := 0) rfl rfl (vin_ok (by decide +kernel)) (ini_s VX6_0 (by decide +kernel) (by decide +kernel)) dX6_init_301 (fun H locs h => ?_)
  have h : WD D A s.heap _ _ [[(hh, .inr (6, [.int 2, .int 7, .null, .int 0, .null, .int 0, .int 0, .null, .int 0, .int 0, .null, .int 0, .null, .null, .null, .int 0, .int 0, .int 0, .null, .null, .null, .null, .int 0, .null, .null, .null, .null, .null, .null, .null, .int 0, .int 0, .int 0, .int 0, .null, .int 0, .int 0, .int 0]))], [(q1, .inl (K 0, 70, .inl (ini VX6_0 56)))]] := h
  refine lv_dup hx hb dX6_init_302 rfl ?_
  refine lv_bipush (v := 56) hx hb dX6_init_303 (by decide) ?_
  refine lv_iconst (v := 0) hx hb dX6_init_305 (by decide) ?_
  refine r_iastG F h (i := 1) (j := 0) rfl rfl (vin_ok (by decide +kernel)) (ini_s VX6_0 (by decide +kernel) (by decide +kernel)) dX6_init_306 (fun H locs h => ?_)
  have h : WD D A s.heap _ _ [[(hh, .inr (6, [.int 2, .int 7, .null, .int 0, .null, .int 0, .int 0, .null, .int 0, .int 0, .null, .int 0, .null, .null, .null, .int 0, .int 0, .int 0, .null, .null, .null, .null, .int 0, .null, .null, .null, .null, .null, .null, .null, .int 0, .int 0, .int 0, .int 0, .null, .int 0, .int 0, .int 0]))], [(q1, .inl (K 0, 70, .inl (ini VX6_0 57)))]] := h
  refine lv_dup hx hb dX6_init_307 rfl ?_
  refine lv_bipush (v := 57) hx hb dX6_init_308 (by decide) ?_
  refine lv_iconst (v := 0) hx hb dX6_init_310 (by decide) ?_
  refine r_iastG F h (i := 1) (j := 0) rfl rfl (vin_ok (by decide +kernel)) (ini_s VX6_0 (by decide +kernel) (by decide +kernel)) dX6_init_311 (fun H locs h => ?_)
  have h : WD D A s.heap _ _ [[(hh, .inr (6, [.int 2, .int 7, .null, .int 0, .null, .int 0, .int 0, .null, .int 0, .int 0, .null, .int 0, .null, .null, .null, .int 0, .int 0, .int 0, .null, .null, .null, .null, .int 0, .null, .null, .null, .null, .null, .null, .null, .int 0, .int 0, .int 0, .int 0, .null, .int 0, .int 0, .int 0]))], [(q1, .inl (K 0, 70, .inl (ini VX6_0 58)))]] := h
  refine lv_dup hx hb dX6_init_312 rfl ?_
  refine lv_bipush (v := 58) hx hb dX6_init_313 (by decide) ?_
  refine lv_iconst (v := 0) hx hb dX6_init_315 (by decide) ?_
  refine r_iastG F h (i := 1) (j := 0) rfl rfl (vin_ok (by decide +kernel)) (ini_s VX6_0 (by decide +kernel) (by decide +kernel)) dX6_init_316 (fun H locs h => ?_)
  have h : WD D A s.heap _ _ [[(hh, .inr (6, [.int 2, .int 7, .null, .int 0, .null, .int 0, .int 0, .null, .int 0, .int 0, .null, .int 0, .null, .null, .null, .int 0, .int 0, .int 0, .null, .null, .null, .null, .int 0, .null, .null, .null, .null, .null, .null, .null, .int 0, .int 0, .int 0, .int 0, .null, .int 0, .int 0, .int 0]))], [(q1, .inl (K 0, 70, .inl (ini VX6_0 59)))]] := h
  refine lv_dup hx hb dX6_init_317 rfl ?_
  refine lv_bipush (v := 59) hx hb dX6_init_318 (by decide) ?_
  refine lv_iconst (v := 0) hx hb dX6_init_320 (by decide) ?_
  refine r_iastG F h (i := 1) (j := 0) rfl rfl (vin_ok (by decide +kernel)) (ini_s VX6_0 (by decide +kernel) (by decide +kernel)) dX6_init_321 (fun H locs h => ?_)
  have h : WD D A s.heap _ _ [[(hh, .inr (6, [.int 2, .int 7, .null, .int 0, .null, .int 0, .int 0, .null, .int 0, .int 0, .null, .int 0, .null, .null, .null, .int 0, .int 0, .int 0, .null, .null, .null, .null, .int 0, .null, .null, .null, .null, .null, .null, .null, .int 0, .int 0, .int 0, .int 0, .null, .int 0, .int 0, .int 0]))], [(q1, .inl (K 0, 70, .inl (ini VX6_0 60)))]] := h
  refine lv_dup hx hb dX6_init_322 rfl ?_
  refine lv_bipush (v := 60) hx hb dX6_init_323 (by decide) ?_
  refine lv_iconst (v := 0) hx hb dX6_init_325 (by decide) ?_
  refine r_iastG F h (i := 1) (j := 0) rfl rfl (vin_ok (by decide +kernel)) (ini_s VX6_0 (by decide +kernel) (by decide +kernel)) dX6_init_326 (fun H locs h => ?_)
  have h : WD D A s.heap _ _ [[(hh, .inr (6, [.int 2, .int 7, .null, .int 0, .null, .int 0, .int 0, .null, .int 0, .int 0, .null, .int 0, .null, .null, .null, .int 0, .int 0, .int 0, .null, .null, .null, .null, .int 0, .null, .null, .null, .null, .null, .null, .null, .int 0, .int 0, .int 0, .int 0, .null, .int 0, .int 0, .int 0]))], [(q1, .inl (K 0, 70, .inl (ini VX6_0 61)))]] := h
  refine lv_dup hx hb dX6_init_327 rfl ?_
  refine lv_bipush (v := 61) hx hb dX6_init_328 (by decide) ?_
  refine lv_iconst (v := 0) hx hb dX6_init_330 (by decide) ?_
  refine r_iastG F h (i := 1) (j := 0) rfl rfl (vin_ok (by decide +kernel)) (ini_s VX6_0 (by decide +kernel) (by decide +kernel)) dX6_init_331 (fun H locs h => ?_)
  have h : WD D A s.heap _ _ [[(hh, .inr (6, [.int 2, .int 7, .null, .int 0, .null, .int 0, .int 0, .null, .int 0, .int 0, .null, .int 0, .null, .null, .null, .int 0, .int 0, .int 0, .null, .null, .null, .null, .int 0, .null, .null, .null, .null, .null, .null, .null, .int 0, .int 0, .int 0, .int 0, .null, .int 0, .int 0, .int 0]))], [(q1, .inl (K 0, 70, .inl (ini VX6_0 62)))]] := h
  refine lv_dup hx hb dX6_init_332 rfl ?_
  refine lv_bipush (v := 62) hx hb dX6_init_333 (by decide) ?_
  refine lv_iconst (v := 0) hx hb dX6_init_335 (by decide) ?_
  refine r_iastG F h (i := 1) (j := 0) rfl rfl (vin_ok (by decide +kernel)) (ini_s VX6_0 (by decide +kernel) (by decide +kernel)) dX6_init_336 (fun H locs h => ?_)
  have h : WD D A s.heap _ _ [[(hh, .inr (6, [.int 2, .int 7, .null, .int 0, .null, .int 0, .int 0, .null, .int 0, .int 0, .null, .int 0, .null, .null, .null, .int 0, .int 0, .int 0, .null, .null, .null, .null, .int 0, .null, .null, .null, .null, .null, .null, .null, .int 0, .int 0, .int 0, .int 0, .null, .int 0, .int 0, .int 0]))], [(q1, .inl (K 0, 70, .inl (ini VX6_0 63)))]] := h
  refine lv_dup hx hb dX6_init_337 rfl ?_
  refine lv_bipush (v := 63) hx hb dX6_init_338 (by decide) ?_
  refine lv_iconst (v := 0) hx hb dX6_init_340 (by decide) ?_
  refine r_iastG F h (i := 1) (j := 0) rfl rfl (vin_ok (by decide +kernel)) (ini_s VX6_0 (by decide +kernel) (by decide +kernel)) dX6_init_341 (fun H locs h => ?_)
  have h : WD D A s.heap _ _ [[(hh, .inr (6, [.int 2, .int 7, .null, .int 0, .null, .int 0, .int 0, .null, .int 0, .int 0, .null, .int 0, .null, .null, .null, .int 0, .int 0, .int 0, .null, .null, .null, .null, .int 0, .null, .null, .null, .null, .null, .null, .null, .int 0, .int 0, .int 0, .int 0, .null, .int 0, .int 0, .int 0]))], [(q1, .inl (K 0, 70, .inl (ini VX6_0 64)))]] := h
  refine lv_dup hx hb dX6_init_342 rfl ?_
  refine lv_bipush (v := 64) hx hb dX6_init_343 (by decide) ?_
  refine lv_iconst (v := 0) hx hb dX6_init_345 (by decide) ?_
  refine r_iastG F h (i := 1) (j := 0) rfl rfl (vin_ok (by decide +kernel)) (ini_s VX6_0 (by decide +kernel) (by decide +kernel)) dX6_init_346 (fun H locs h => ?_)
  have h : WD D A s.heap _ _ [[(hh, .inr (6, [.int 2, .int 7, .null, .int 0, .null, .int 0, .int 0, .null, .int 0, .int 0, .null, .int 0, .null, .null, .null, .int 0, .int 0, .int 0, .null, .null, .null, .null, .int 0, .null, .null, .null, .null, .null, .null, .null, .int 0, .int 0, .int 0, .int 0, .null, .int 0, .int 0, .int 0]))], [(q1, .inl (K 0, 70, .inl (ini VX6_0 65)))]] := h
  refine lv_dup hx hb dX6_init_347 rfl ?_
  refine lv_bipush (v := 65) hx hb dX6_init_348 (by decide) ?_
  refine lv_iconst (v := 0) hx hb dX6_init_350 (by decide) ?_
  refine r_iastG F h (i := 1) (j := 0) rfl rfl (vin_ok (by decide +kernel)) (ini_s VX6_0 (by decide +kernel) (by decide +kernel)) dX6_init_351 (fun H locs h => ?_)
  have h : WD D A s.heap _ _ [[(hh, .inr (6, [.int 2, .int 7, .null, .int 0, .null, .int 0, .int 0, .null, .int 0, .int 0, .null, .int 0, .null, .null, .null, .int 0, .int 0, .int 0, .null, .null, .null, .null, .int 0, .null, .null, .null, .null, .null, .null, .null, .int 0, .int 0, .int 0, .int 0, .null, .int 0, .int 0, .int 0]))], [(q1, .inl (K 0, 70, .inl (ini VX6_0 66)))]] := h
  refine lv_dup hx hb dX6_init_352 rfl ?_
  refine lv_bipush (v := 66) hx hb dX6_init_353 (by decide) ?_
  refine lv_iconst (v := 0) hx hb dX6_init_355 (by decide) ?_
  refine r_iastG F h (i := 1) (j := 0) rfl rfl (vin_ok (by decide +kernel)) (ini_s VX6_0 (by decide +kernel) (by decide +kernel)) dX6_init_356 (fun H locs h => ?_)
  have h : WD D A s.heap _ _ [[(hh, .inr (6, [.int 2, .int 7, .null, .int 0, .null, .int 0, .int 0, .null, .int 0, .int 0, .null, .int 0, .null, .null, .null, .int 0, .int 0, .int 0, .null, .null, .null, .null, .int 0, .null, .null, .null, .null, .null, .null, .null, .int 0, .int 0, .int 0, .int 0, .null, .int 0, .int 0, .int 0]))], [(q1, .inl (K 0, 70, .inl (ini VX6_0 67)))]] := h
  refine lv_dup hx hb dX6_init_357 rfl ?_
  refine lv_bipush (v := 67) hx hb dX6_init_358 (by decide) ?_
  refine lv_iconst (v := 0) hx hb dX6_init_360 (by decide) ?_
  refine r_iastG F h (i := 1) (j := 0) rfl rfl (vin_ok (by decide +kernel)) (ini_s VX6_0 (by decide +kernel) (by decide +kernel)) dX6_init_361 (fun H locs h => ?_)
  have h : WD D A s.heap _ _ [[(hh, .inr (6, [.int 2, .int 7, .null, .int 0, .null, .int 0, .int 0, .null, .int 0, .int 0, .null, .int 0, .null, .null, .null, .int 0, .int 0, .int 0, .null, .null, .null, .null, .int 0, .null, .null, .null, .null, .null, .null, .null, .int 0, .int 0, .int 0, .int 0, .null, .int 0, .int 0, .int 0]))], [(q1, .inl (K 0, 70, .inl (ini VX6_0 68)))]] := h
  refine lv_dup hx hb dX6_init_362 rfl ?_
  refine lv_bipush (v := 68) hx hb dX6_init_363 (by decide) ?_
  refine lv_iconst (v := 0) hx hb dX6_init_365 (by decide) ?_
  refine r_iastG F h (i := 1) (j := 0) rfl rfl (vin_ok (by decide +kernel)) (ini_s VX6_0 (by decide +kernel) (by decide +kernel)) dX6_init_366 (fun H locs h => ?_)
  have h : WD D A s.heap _ _ [[(hh, .inr (6, [.int 2, .int 7, .null, .int 0, .null, .int 0, .int 0, .null, .int 0, .int 0, .null, .int 0, .null, .null, .null, .int 0, .int 0, .int 0, .null, .null, .null, .null, .int 0, .null, .null, .null, .null, .null, .null, .null, .int 0, .int 0, .int 0, .int 0, .null, .int 0, .int 0, .int 0]))], [(q1, .inl (K 0, 70, .inl (ini VX6_0 69)))]] := h
  refine lv_dup hx hb dX6_init_367 rfl ?_
  refine lv_bipush (v := 69) hx hb dX6_init_368 (by decide) ?_
  refine lv_iconst (v := 0) hx hb dX6_init_370 (by decide) ?_
  refine r_iastG F h (i := 1) (j := 0) rfl rfl (vin_ok (by decide +kernel)) (ini_s VX6_0 (by decide +kernel) (by decide +kernel)) dX6_init_371 (fun H locs h => ?_)
  have h : WD D A s.heap _ _ [[(hh, .inr (6, [.int 2, .int 7, .null, .int 0, .null, .int 0, .int 0, .null, .int 0, .int 0, .null, .int 0, .null, .null, .null, .int 0, .int 0, .int 0, .null, .null, .null, .null, .int 0, .null, .null, .null, .null, .null, .null, .null, .int 0, .int 0, .int 0, .int 0, .null, .int 0, .int 0, .int 0]))], [(q1, .inl (K 0, 70, .inl (ini VX6_0 70)))]] := h
  refine r_putFG F h hini (i := 0) (k := 2) (v := .ref q1) inX6 tyX6_ok nmX6 rfl (by decide) zw_59 rfl rfl rfl rfl rfl rfl (Nat.le_of_ble_eq_true rfl) dX6_init_372 (fun H locs h => ?_)
  have h : WD D A s.heap _ _ [[(hh, .inr (6, [.int 2, .int 7, .ref q1, .int 0, .null, .int 0, .int 0, .null, .int 0, .int 0, .null, .int 0, .null, .null, .null, .int 0, .int 0, .int 0, .null, .null, .null, .null, .int 0, .null, .null, .null, .null, .null, .null, .null, .int 0, .int 0, .int 0, .int 0, .null, .int 0, .int 0, .int 0]))], [(q1, .inl (K 0, 70, .inl (ini VX6_0 70)))]] := h
  refine lv_aload_n hx hb dX6_init_375 rfl (lv_at hl 0 rfl) ?_
  refine lv_iconst (v := 2) hx hb dX6_init_376 (by decide) ?_
  refine r_putG F h (i := 0) (k := 3) (v := .int 2) inX6 tyX6_ok nmX6 rfl (by decide) zw_60 rfl rfl rfl rfl rfl (Nat.le_of_ble_eq_true rfl) dX6_init_377 (fun H locs h => ?_)
  have h : WD D A s.heap _ _ [[(hh, .inr (6, [.int 2, .int 7, .ref q1, .int 2, .null, .int 0, .int 0, .null, .int 0, .int 0, .null, .int 0, .null, .null, .null, .int 0, .int 0, .int 0, .null, .null, .null, .null, .int 0, .null, .null, .null, .null, .null, .null, .null, .int 0, .int 0, .int 0, .int 0, .null, .int 0, .int 0, .int 0]))], [(q1, .inl (K 0, 70, .inl (ini VX6_0 70)))]] := h
  refine lv_aload_n hx hb dX6_init_380 rfl (lv_at hl 0 rfl) ?_
  refine lv_bipush (v := 24) hx hb dX6_init_381 (by decide) ?_
  refine r_newaI (N' := 24) F h zw_32 (by decide) (by decide +kernel) (Nat.le_of_ble_eq_true rfl) ⟨Nat.le_of_ble_eq_true rfl, Nat.le_of_ble_eq_true rfl⟩ dX6_init_383 (fun q2 H h => ?_)
  have h : WD D A s.heap _ _ [[(hh, .inr (6, [.int 2, .int 7, .ref q1, .int 2, .null, .int 0, .int 0, .null, .int 0, .int 0, .null, .int 0, .null, .null, .null, .int 0, .int 0, .int 0, .null, .null, .null, .null, .int 0, .null, .null, .null, .null, .null, .null, .null, .int 0, .int 0, .int 0, .int 0, .null, .int 0, .int 0, .int 0]))], [(q1, .inl (K 0, 70, .inl (ini VX6_0 70)))], [(q2, .inl (K 0, 24, .inl (fun _ => 0)))]] := h
  refine lv_dup hx hb dX6_init_385 rfl ?_
  refine lv_iconst (v := 0) hx hb dX6_init_386 (by decide) ?_
  refine lv_iconst (v := 1) hx hb dX6_init_387 (by decide) ?_
  refine r_iastG F h (i := 2) (j := 0) rfl rfl (vin_ok (by decide +kernel)) (ini_0 VX6_1 (by decide +kernel) (by decide +kernel)) dX6_init_388 (fun H locs h => ?_)
  have h : WD D A s.heap _ _ [[(hh, .inr (6, [.int 2, .int 7, .ref q1, .int 2, .null, .int 0, .int 0, .null, .int 0, .int 0, .null, .int 0, .null, .null, .null, .int 0, .int 0, .int 0, .null, .null, .null, .null, .int 0, .null, .null, .null, .null, .null, .null, .null, .int 0, .int 0, .int 0, .int 0, .null, .int 0, .int 0, .int 0]))], [(q1, .inl (K 0, 70, .inl (ini VX6_0 70)))], [(q2, .inl (K 0, 24, .inl (ini VX6_1 1)))]] := h
  refine lv_dup hx hb dX6_init_389 rfl ?_
  refine lv_iconst (v := 1) hx hb dX6_init_390 (by decide) ?_
  refine lv_iconst (v := 0) hx hb dX6_init_391 (by decide) ?_
  refine r_iastG F h (i := 2) (j := 0) rfl rfl (vin_ok (by decide +kernel)) (ini_s VX6_1 (by decide +kernel) (by decide +kernel)) dX6_init_392 (fun H locs h => ?_)
  have h : WD D A s.heap _ _ [[(hh, .inr (6, [.int 2, .int 7, .ref q1, .int 2, .null, .int 0, .int 0, .null, .int 0, .int 0, .null, .int 0, .null, .null, .null, .int 0, .int 0, .int 0, .null, .null, .null, .null, .int 0, .null, .null, .null, .null, .null, .null, .null, .int 0, .int 0, .int 0, .int 0, .null, .int 0, .int 0, .int 0]))], [(q1, .inl (K 0, 70, .inl (ini VX6_0 70)))], [(q2, .inl (K 0, 24, .inl (ini VX6_1 2)))]] := h
  refine lv_dup hx hb dX6_init_393 rfl ?_
  refine lv_iconst (v := 2) hx hb dX6_init_394 (by decide) ?_
  refine lv_iconst (v := 0) hx hb dX6_init_395 (by decide) ?_
  refine r_iastG F h (i := 2) (j := 0) rfl rfl (vin_ok (by decide +kernel)) (ini_s VX6_1 (by decide +kernel) (by decide +kernel)) dX6_init_396 (fun H locs h => ?_)
  have h : WD D A s.heap _ _ [[(hh, .inr (6, [.int 2, .int 7, .ref q1, .int 2, .null, .int 0, .int 0, .null, .int 0, .int 0, .null, .int 0, .null, .null, .null, .int 0, .int 0, .int 0, .null, .null, .null, .null, .int 0, .null, .null, .null, .null, .null, .null, .null, .int 0, .int 0, .int 0, .int 0, .null, .int 0, .int 0, .int 0]))], [(q1, .inl (K 0, 70, .inl (ini VX6_0 70)))], [(q2, .inl (K 0, 24, .inl (ini VX6_1 3)))]] := h
  refine lv_dup hx hb dX6_init_397 rfl ?_
  refine lv_iconst (v := 3) hx hb dX6_init_398 (by decide) ?_
  refine lv_bipush (v := (-4)) hx hb dX6_init_399 (by decide) ?_
  refine r_iastG F h (i := 2) (j := 0) rfl rfl (vin_ok (by decide +kernel)) (ini_s VX6_1 (by decide +kernel) (by decide +kernel)) dX6_init_401 (fun H locs h => ?_)
  have h : WD D A s.heap _ _ [[(hh, .inr (6, [.int 2, .int 7, .ref q1, .int 2, .null, .int 0, .int 0, .null, .int 0, .int 0, .null, .int 0, .null, .null, .null, .int 0, .int 0, .int 0, .null, .null, .null, .null, .int 0, .null, .null, .null, .null, .null, .null, .null, .int 0, .int 0, .int 0, .int 0, .null, .int 0, .int 0, .int 0]))], [(q1, .inl (K 0, 70, .inl (ini VX6_0 70)))], [(q2, .inl (K 0, 24, .inl (ini VX6_1 4)))]] := h
  refine lv_dup hx hb dX6_init_402 rfl ?_
  refine lv_iconst (v := 4) hx hb dX6_init_403 (by decide) ?_
  refine lv_bipush (v := (-4)) hx hb dX6_init_404 (by decide) ?_
  refine r_iastG F h (i := 2) (j := 0) rfl rfl (vin_ok (by decide +kernel)) (ini_s VX6_1 (by decide +kernel) (by decide +kernel)) dX6_init_406 (fun H locs h => ?_)
  have h : WD D A s.heap _ _ [[(hh, .inr (6, [.int 2, .int 7, .ref q1, .int 2, .null, .int 0, .int 0, .null, .int 0, .int 0, .null, .int 0, .null, .null, .null, .int 0, .int 0, .int 0, .null, .null, .null, .null, .int 0, .null, .null, .null, .null, .null, .null, .null, .int 0, .int 0, .int 0, .int 0, .null, .int 0, .int 0, .int 0]))], [(q1, .inl (K 0, 70, .inl (ini VX6_0 70)))], [(q2, .inl (K 0, 24, .inl (ini VX6_1 5)))]] := h
  refine lv_dup hx hb dX6_init_407 rfl ?_
  refine lv_iconst (v := 5) hx hb dX6_init_408 (by decide) ?_
  refine lv_bipush (v := (-4)) hx hb dX6_init_409 (by decide) ?_
  refine r_iastG F h (i := 2) (j := 0) rfl rfl (vin_ok (by decide +kernel)) (ini_s VX6_1 (by decide +kernel) (by decide +kernel)) dX6_init_411 (fun H locs h => ?_)
  have h : WD D A s.heap _ _ [[(hh, .inr (6, [.int 2, .int 7, .ref q1, .int 2, .null, .int 0, .int 0, .null, .int 0, .int 0, .null, .int 0, .null, .null, .null, .int 0, .int 0, .int 0, .null, .null, .null, .null, .int 0, .null, .null, .null, .null, .null, .null, .null, .int 0, .int 0, .int 0, .int 0, .null, .int 0, .int 0, .int 0]))], [(q1, .inl (K 0, 70, .inl (ini VX6_0 70)))], [(q2, .inl (K 0, 24, .inl (ini VX6_1 6)))]] := h
  refine lv_dup hx hb dX6_init_412 rfl ?_
  refine lv_bipush (v := 6) hx hb dX6_init_413 (by decide) ?_
  refine lv_iconst (v := 0) hx hb dX6_init_415 (by decide) ?_
  refine r_iastG F h (i := 2) (j := 0) rfl rfl (vin_ok (by decide +kernel)) (ini_s VX6_1 (by decide +kernel) (by decide +kernel)) dX6_init_416 (fun H locs h => ?_)
  have h : WD D A s.heap _ _ [[(hh, .inr (6, [.int 2, .int 7, .ref q1, .int 2, .null, .int 0, .int 0, .null, .int 0, .int 0, .null, .int 0, .null, .null, .null, .int 0, .int 0, .int 0, .null, .null, .null, .null, .int 0, .null, .null, .null, .null, .null, .null, .null, .int 0, .int 0, .int 0, .int 0, .null, .int 0, .int 0, .int 0]))], [(q1, .inl (K 0, 70, .inl (ini VX6_0 70)))], [(q2, .inl (K 0, 24, .inl (ini VX6_1 7)))]] := h
  refine lv_dup hx hb dX6_init_417 rfl ?_
  refine lv_bipush (v := 7) hx hb dX6_init_418 (by decide) ?_
  refine lv_iconst (v := 2) hx hb dX6_init_420 (by decide) ?_
  refine r_iastG F h (i := 2) (j := 0) rfl rfl (vin_ok (by decide +kernel)) (ini_s VX6_1 (by decide +kernel) (by decide +kernel)) dX6_init_421 (fun H locs h => ?_)
  have h : WD D A s.heap _ _ [[(hh, .inr (6, [.int 2, .int 7, .ref q1, .int 2, .null, .int 0, .int 0, .null, .int 0, .int 0, .null, .int 0, .null, .null, .null, .int 0, .int 0, .int 0, .null, .null, .null, .null, .int 0, .null, .null, .null, .null, .null, .null, .null, .int 0, .int 0, .int 0, .int 0, .null, .int 0, .int 0, .int 0]))], [(q1, .inl (K 0, 70, .inl (ini VX6_0 70)))], [(q2, .inl (K 0, 24, .inl (ini VX6_1 8)))]] := h
  refine lv_dup hx hb dX6_init_422 rfl ?_
  refine lv_bipush (v := 8) hx hb dX6_init_423 (by decide) ?_
  refine lv_iconst (v := 1) hx hb dX6_init_425 (by decide) ?_
  refine r_iastG F h (i := 2) (j := 0) rfl rfl (vin_ok (by decide +kernel)) (ini_s VX6_1 (by decide +kernel) (by decide +kernel)) dX6_init_426 (fun H locs h => ?_)
  have h : WD D A s.heap _ _ [[(hh, .inr (6, [.int 2, .int 7, .ref q1, .int 2, .null, .int 0, .int 0, .null, .int 0, .int 0, .null, .int 0, .null, .null, .null, .int 0, .int 0, .int 0, .null, .null, .null, .null, .int 0, .null, .null, .null, .null, .null, .null, .null, .int 0, .int 0, .int 0, .int 0, .null, .int 0, .int 0, .int 0]))], [(q1, .inl (K 0, 70, .inl (ini VX6_0 70)))], [(q2, .inl (K 0, 24, .inl (ini VX6_1 9)))]] := h
  refine lv_dup hx hb dX6_init_427 rfl ?_
  refine lv_bipush (v := 9) hx hb dX6_init_428 (by decide) ?_
  refine lv_iconst (v := 2) hx hb dX6_init_430 (by decide) ?_
  refine r_iastG F h (i := 2) (j := 0) rfl rfl (vin_ok (by decide +kernel)) (ini_s VX6_1 (by decide +kernel) (by decide +kernel)) dX6_init_431 (fun H locs h => ?_)
  have h : WD D A s.heap _ _ [[(hh, .inr (6, [.int 2, .int 7, .ref q1, .int 2, .null, .int 0, .int 0, .null, .int 0, .int 0, .null, .int 0, .null, .null, .null, .int 0, .int 0, .int 0, .null, .null, .null, .null, .int 0, .null, .null, .null, .null, .null, .null, .null, .int 0, .int 0, .int 0, .int 0, .null, .int 0, .int 0, .int 0]))], [(q1, .inl (K 0, 70, .inl (ini VX6_0 70)))], [(q2, .inl (K 0, 24, .inl (ini VX6_1 10)))]] := h
  refine lv_dup hx hb dX6_init_432 rfl ?_
  refine lv_bipush (v := 10) hx hb dX6_init_433 (by decide) ?_
  refine lv_iconst (v := 2) hx hb dX6_init_435 (by decide) ?_
  refine r_iastG F h (i := 2) (j := 0) rfl rfl (vin_ok (by decide +kernel)) (ini_s VX6_1 (by decide +kernel) (by decide +kernel)) dX6_init_436 (fun H locs h => ?_)
  have h : WD D A s.heap _ _ [[(hh, .inr (6, [.int 2, .int 7, .ref q1, .int 2, .null, .int 0, .int 0, .null, .int 0, .int 0, .null, .int 0, .null, .null, .null, .int 0, .int 0, .int 0, .null, .null, .null, .null, .int 0, .null, .null, .null, .null, .null, .null, .null, .int 0, .int 0, .int 0, .int 0, .null, .int 0, .int 0, .int 0]))], [(q1, .inl (K 0, 70, .inl (ini VX6_0 70)))], [(q2, .inl (K 0, 24, .inl (ini VX6_1 11)))]] := h
  refine lv_dup hx hb dX6_init_437 rfl ?_
  refine lv_bipush (v := 11) hx hb dX6_init_438 (by decide) ?_
  refine lv_bipush (v := (-4)) hx hb dX6_init_440 (by decide) ?_
  refine r_iastG F h (i := 2) (j := 0) rfl rfl (vin_ok (by decide +kernel)) (ini_s VX6_1 (by decide +kernel) (by decide +kernel)) dX6_init_442 (fun H locs h => ?_)
  have h : WD D A s.heap _ _ [[(hh, .inr (6, [.int 2, .int 7, .ref q1, .int 2, .null, .int 0, .int 0, .null, .int 0, .int 0, .null, .int 0, .null, .null, .null, .int 0, .int 0, .int 0, .null, .null, .null, .null, .int 0, .null, .null, .null, .null, .null, .null, .null, .int 0, .int 0, .int 0, .int 0, .null, .int 0, .int 0, .int 0]))], [(q1, .inl (K 0, 70, .inl (ini VX6_0 70)))], [(q2, .inl (K 0, 24, .inl (ini VX6_1 12)))]] := h
  refine lv_dup hx hb dX6_init_443 rfl ?_
  refine lv_bipush (v := 12) hx hb dX6_init_444 (by decide) ?_
  refine lv_iconst (v := 0) hx hb dX6_init_446 (by decide) ?_
  refine r_iastG F h (i := 2) (j := 0) rfl rfl (vin_ok (by decide +kernel)) (ini_s VX6_1 (by decide +kernel) (by decide +kernel)) dX6_init_447 (fun H locs h => ?_)
  have h : WD D A s.heap _ _ [[(hh, .inr (6, [.int 2, .int 7, .ref q1, .int 2, .null, .int 0, .int 0, .null, .int 0, .int 0, .null, .int 0, .null, .null, .null, .int 0, .int 0, .int 0, .null, .null, .null, .null, .int 0, .null, .null, .null, .null, .null, .null, .null, .int 0, .int 0, .int 0, .int 0, .null, .int 0, .int 0, .int 0]))], [(q1, .inl (K 0, 70, .inl (ini VX6_0 70)))], [(q2, .inl (K 0, 24, .inl (ini VX6_1 13)))]] := h
  refine lv_dup hx hb dX6_init_448 rfl ?_
  refine lv_bipush (v := 13) hx hb dX6_init_449 (by decide) ?_
  refine lv_iconst (v := 0) hx hb dX6_init_451 (by decide) ?_
  refine r_iastG F h (i := 2) (j := 0) rfl rfl (vin_ok (by decide +kernel)) (ini_s VX6_1 (by decide +kernel) (by decide +kernel)) dX6_init_452 (fun H locs h => ?_)
  have h : WD D A s.heap _ _ [[(hh, .inr (6, [.int 2, .int 7, .ref q1, .int 2, .null, .int 0, .int 0, .null, .int 0, .int 0, .null, .int 0, .null, .null, .null, .int 0, .int 0, .int 0, .null, .null, .null, .null, .int 0, .null, .null, .null, .null, .null, .null, .null, .int 0, .int 0, .int 0, .int 0, .null, .int 0, .int 0, .int 0]))], [(q1, .inl (K 0, 70, .inl (ini VX6_0 70)))], [(q2, .inl (K 0, 24, .inl (ini VX6_1 14)))]] := h
  refine lv_dup hx hb dX6_init_453 rfl ?_
  refine lv_bipush (v := 14) hx hb dX6_init_454 (by decide) ?_
  refine lv_iconst (v := 0) hx hb dX6_init_456 (by decide) ?_
  refine r_iastG F h (i := 2) (j := 0) rfl rfl (vin_ok (by decide +kernel)) (ini_s VX6_1 (by decide +kernel) (by decide +kernel)) dX6_init_457 (fun H locs h => ?_)
  have h : WD D A s.heap _ _ [[(hh, .inr (6, [.int 2, .int 7, .ref q1, .int 2, .null, .int 0, .int 0, .null, .int 0, .int 0, .null, .int 0, .null, .null, .null, .int 0, .int 0, .int 0, .null, .null, .null, .null, .int 0, .null, .null, .null, .null, .null, .null, .null, .int 0, .int 0, .int 0, .int 0, .null, .int 0, .int 0, .int 0]))], [(q1, .inl (K 0, 70, .inl (ini VX6_0 70)))], [(q2, .inl (K 0, 24, .inl (ini VX6_1 15)))]] := h
  refine lv_dup hx hb dX6_init_458 rfl ?_
  refine lv_bipush (v := 15) hx hb dX6_init_459 (by decide) ?_
  refine lv_iconst (v := 0) hx hb dX6_init_461 (by decide) ?_
  refine r_iastG F h (i := 2) (j := 0) rfl rfl (vin_ok (by decide +kernel)) (ini_s VX6_1 (by decide +kernel) (by decide +kernel)) dX6_init_462 (fun H locs h => ?_)
  have h : WD D A s.heap _ _ [[(hh, .inr (6, [.int 2, .int 7, .ref q1, .int 2, .null, .int 0, .int 0, .null, .int 0, .int 0, .null, .int 0, .null, .null, .null, .int 0, .int 0, .int 0, .null, .null, .null, .null, .int 0, .null, .null, .null, .null, .null, .null, .null, .int 0, .int 0, .int 0, .int 0, .null, .int 0, .int 0, .int 0]))], [(q1, .inl (K 0, 70, .inl (ini VX6_0 70)))], [(q2, .inl (K 0, 24, .inl (ini VX6_1 16)))]] := h
  refine lv_dup hx hb dX6_init_463 rfl ?_
  refine lv_bipush (v := 16) hx hb dX6_init_464 (by decide) ?_
  refine lv_iconst (v := 0) hx hb dX6_init_466 (by decide) ?_
  refine r_iastG F h (i := 2) (j := 0) rfl rfl (vin_ok (by decide +kernel)) (ini_s VX6_1 (by decide +kernel) (by decide +kernel)) dX6_init_467 (fun H locs h => ?_)
  have h : WD D A s.heap _ _ [[(hh, .inr (6, [.int 2, .int 7, .ref q1, .int 2, .null, .int 0, .int 0, .null, .int 0, .int 0, .null, .int 0, .null, .null, .null, .int 0, .int 0, .int 0, .null, .null, .null, .null, .int 0, .null, .null, .null, .null, .null, .null, .null, .int 0, .int 0, .int 0, .int 0, .null, .int 0, .int 0, .int 0]))], [(q1, .inl (K 0, 70, .inl (ini VX6_0 70)))], [(q2, .inl (K 0, 24, .inl (ini VX6_1 17)))]] := h
  refine lv_dup hx hb dX6_init_468 rfl ?_
  refine lv_bipush (v := 17) hx hb dX6_init_469 (by decide) ?_
  refine lv_iconst (v := 0) hx hb dX6_init_471 (by decide) ?_
  refine r_iastG F h (i := 2) (j := 0) rfl rfl (vin_ok (by decide +kernel)) (ini_s VX6_1 (by decide +kernel) (by decide +kernel)) dX6_init_472 (fun H locs h => ?_)
  have h : WD D A s.heap _ _ [[(hh, .inr (6, [.int 2, .int 7, .ref q1, .int 2, .null, .int 0, .int 0, .null, .int 0, .int 0, .null, .int 0, .null, .null, .null, .int 0, .int 0, .int 0, .null, .null, .null, .null, .int 0, .null, .null, .null, .null, .null, .null, .null, .int 0, .int 0, .int 0, .int 0, .null, .int 0, .int 0, .int 0]))], [(q1, .inl (K 0, 70, .inl (ini VX6_0 70)))], [(q2, .inl (K 0, 24, .inl (ini VX6_1 18)))]] := h
  refine lv_dup hx hb dX6_init_473 rfl ?_
  refine lv_bipush (v := 18) hx hb dX6_init_474 (by decide) ?_
  refine lv_iconst (v := 0) hx hb dX6_init_476 (by decide) ?_
  refine r_iastG F h (i := 2) (j := 0) rfl rfl (vin_ok (by decide +kernel)) (ini_s VX6_1 (by decide +kernel) (by decide +kernel)) dX6_init_477 (fun H locs h => ?_)
  have h : WD D A s.heap _ _ [[(hh, .inr (6, [.int 2, .int 7, .ref q1, .int 2, .null, .int 0, .int 0, .null, .int 0, .int 0, .null, .int 0, .null, .null, .null, .int 0, .int 0, .int 0, .null, .null, .null, .null, .int 0, .null, .null, .null, .null, .null, .null, .null, .int 0, .int 0, .int 0, .int 0, .null, .int 0, .int 0, .int 0]))], [(q1, .inl (K 0, 70, .inl (ini VX6_0 70)))], [(q2, .inl (K 0, 24, .inl (ini VX6_1 19)))]] := h
  refine lv_dup hx hb dX6_init_478 rfl ?_
  refine lv_bipush (v := 19) hx hb dX6_init_479 (by decide) ?_
  refine lv_iconst (v := 0) hx hb dX6_init_481 (by decide) ?_
  refine r_iastG F h (i := 2) (j := 0) rfl rfl (vin_ok (by decide +kernel)) (ini_s VX6_1 (by decide +kernel) (by decide +kernel)) dX6_init_482 (fun H locs h => ?_)
  have h : WD D A s.heap _ _ [[(hh, .inr (6, [.int 2, .int 7, .ref q1, .int 2, .null, .int 0, .int 0, .null, .int 0, .int 0, .null, .int 0, .null, .null, .null, .int 0, .int 0, .int 0, .null, .null, .null, .null, .int 0, .null, .null, .null, .null, .null, .null, .null, .int 0, .int 0, .int 0, .int 0, .null, .int 0, .int 0, .int 0]))], [(q1, .inl (K 0, 70, .inl (ini VX6_0 70)))], [(q2, .inl (K 0, 24, .inl (ini VX6_1 20)))]] := h
  refine lv_dup hx hb dX6_init_483 rfl ?_
  refine lv_bipush (v := 20) hx hb dX6_init_484 (by decide) ?_
  refine lv_iconst (v := 0) hx hb dX6_init_486 (by decide) ?_
  refine r_iastG F h (i := 2) (j := 0) rfl rfl (vin_ok (by decide +kernel)) (ini_s VX6_1 (by decide +kernel) (by decide +kernel)) dX6_init_487 (fun H locs h => ?_)
  have h : WD D A s.heap _ _ [[(hh, .inr (6, [.int 2, .int 7, .ref q1, .int 2, .null, .int 0, .int 0, .null, .int 0, .int 0, .null, .int 0, .null, .null, .null, .int 0, .int 0, .int 0, .null, .null, .null, .null, .int 0, .null, .null, .null, .null, .null, .null, .null, .int 0, .int 0, .int 0, .int 0, .null, .int 0, .int 0, .int 0]))], [(q1, .inl (K 0, 70, .inl (ini VX6_0 70)))], [(q2, .inl (K 0, 24, .inl (ini VX6_1 21)))]] := h
  refine lv_dup hx hb dX6_init_488 rfl ?_
  refine lv_bipush (v := 21) hx hb dX6_init_489 (by decide) ?_
  refine lv_iconst (v := 0) hx hb dX6_init_491 (by decide) ?_
  refine r_iastG F h (i := 2) (j := 0) rfl rfl (vin_ok (by decide +kernel)) (ini_s VX6_1 (by decide +kernel) (by decide +kernel)) dX6_init_492 (fun H locs h => ?_)
  have h : WD D A s.heap _ _ [[(hh, .inr (6, [.int 2, .int 7, .ref q1, .int 2, .null, .int 0, .int 0, .null, .int 0, .int 0, .null, .int 0, .null, .null, .null, .int 0, .int 0, .int 0, .null, .null, .null, .null, .int 0, .null, .null, .null, .null, .null, .null, .null, .int 0, .int 0, .int 0, .int 0, .null, .int 0, .int 0, .int 0]))], [(q1, .inl (K 0, 70, .inl (ini VX6_0 70)))], [(q2, .inl (K 0, 24, .inl (ini VX6_1 22)))]] := h
  refine lv_dup hx hb dX6_init_493 rfl ?_
  refine lv_bipush (v := 22) hx hb dX6_init_494 (by decide) ?_
  refine lv_iconst (v := 0) hx hb dX6_init_496 (by decide) ?_
  refine r_iastG F h (i := 2) (j := 0) rfl rfl (vin_ok (by decide +kernel)) (ini_s VX6_1 (by decide +kernel) (by decide +kernel)) dX6_init_497 (fun H locs h => ?_)
  have h : WD D A s.heap _ _ [[(hh, .inr (6, [.int 2, .int 7, .ref q1, .int 2, .null, .int 0, .int 0, .null, .int 0, .int 0, .null, .int 0, .null, .null, .null, .int 0, .int 0, .int 0, .null, .null, .null, .null, .int 0, .null, .null, .null, .null, .null, .null, .null, .int 0, .int 0, .int 0, .int 0, .null, .int 0, .int 0, .int 0]))], [(q1, .inl (K 0, 70, .inl (ini VX6_0 70)))], [(q2, .inl (K 0, 24, .inl (ini VX6_1 23)))]] := h
  refine lv_dup hx hb dX6_init_498 rfl ?_
  refine lv_bipush (v := 23) hx hb dX6_init_499 (by decide) ?_
  refine lv_iconst (v := 0) hx hb dX6_init_501 (by decide) ?_
  refine r_iastG F h (i := 2) (j := 0) rfl rfl (vin_ok (by decide +kernel)) (ini_s VX6_1 (by decide +kernel) (by decide +kernel)) dX6_init_502 (fun H locs h => ?_)
  have h : WD D A s.heap _ _ [[(hh, .inr (6, [.int 2, .int 7, .ref q1, .int 2, .null, .int 0, .int 0, .null, .int 0, .int 0, .null, .int 0, .null, .null, .null, .int 0, .int 0, .int 0, .null, .null, .null, .null, .int 0, .null, .null, .null, .null, .null, .null, .null, .int 0, .int 0, .int 0, .int 0, .null, .int 0, .int 0, .int 0]))], [(q1, .inl (K 0, 70, .inl (ini VX6_0 70)))], [(q2, .inl (K 0, 24, .inl (ini VX6_1 24)))]] := h
  refine r_putFG F h hini (i := 0) (k := 4) (v := .ref q2) inX6 tyX6_ok nmX6 rfl (by decide) zw_61 rfl rfl rfl rfl rfl rfl (Nat.le_of_ble_eq_true rfl) dX6_init_503 (fun H locs h => ?_)
  have h : WD D A s.heap _ _ [[(hh, .inr (6, [.int 2, .int 7, .ref q1, .int 2, .ref q2, .int 0, .int 0, .null, .int 0, .int 0, .null, .int 0, .null, .null, .null, .int 0, .int 0, .int 0, .null, .null, .null, .null, .int 0, .null, .null, .null, .null, .null, .null, .null, .int 0, .int 0, .int 0, .int 0, .null, .int 0, .int 0, .int 0]))], [(q1, .inl (K 0, 70, .inl (ini VX6_0 70)))], [(q2, .inl (K 0, 24, .inl (ini VX6_1 24)))]] := h
  refine lv_aload_n hx hb dX6_init_506 rfl (lv_at hl 0 rfl) ?_
  refine lv_iconst (v := 2) hx hb dX6_init_507 (by decide) ?_
  refine r_putG F h (i := 0) (k := 6) (v := .int 2) inX6 tyX6_ok nmX6 rfl (by decide) zw_62 rfl rfl rfl rfl rfl (Nat.le_of_ble_eq_true rfl) dX6_init_508 (fun H locs h => ?_)
  have h : WD D A s.heap _ _ [[(hh, .inr (6, [.int 2, .int 7, .ref q1, .int 2, .ref q2, .int 0, .int 2, .null, .int 0, .int 0, .null, .int 0, .null, .null, .null, .int 0, .int 0, .int 0, .null, .null, .null, .null, .int 0, .null, .null, .null, .null, .null, .null, .null, .int 0, .int 0, .int 0, .int 0, .null, .int 0, .int 0, .int 0]))], [(q1, .inl (K 0, 70, .inl (ini VX6_0 70)))], [(q2, .inl (K 0, 24, .inl (ini VX6_1 24)))]] := h
  refine lv_aload_n hx hb dX6_init_511 rfl (lv_at hl 0 rfl) ?_
  refine lv_bipush (v := 12) hx hb dX6_init_512 (by decide) ?_
  refine r_newaI (N' := 12) F h zw_32 (by decide) (by decide +kernel) (Nat.le_of_ble_eq_true rfl) ⟨Nat.le_of_ble_eq_true rfl, Nat.le_of_ble_eq_true rfl⟩ dX6_init_514 (fun q3 H h => ?_)
  have h : WD D A s.heap _ _ [[(hh, .inr (6, [.int 2, .int 7, .ref q1, .int 2, .ref q2, .int 0, .int 2, .null, .int 0, .int 0, .null, .int 0, .null, .null, .null, .int 0, .int 0, .int 0, .null, .null, .null, .null, .int 0, .null, .null, .null, .null, .null, .null, .null, .int 0, .int 0, .int 0, .int 0, .null, .int 0, .int 0, .int 0]))], [(q1, .inl (K 0, 70, .inl (ini VX6_0 70)))], [(q2, .inl (K 0, 24, .inl (ini VX6_1 24)))], [(q3, .inl (K 0, 12, .inl (fun _ => 0)))]] := h
  refine r_putFG F h hini (i := 0) (k := 7) (v := .ref q3) inX6 tyX6_ok nmX6 rfl (by decide) zw_63 rfl rfl rfl rfl rfl rfl (Nat.le_of_ble_eq_true rfl) dX6_init_516 (fun H locs h => ?_)
  have h : WD D A s.heap _ _ [[(hh, .inr (6, [.int 2, .int 7, .ref q1, .int 2, .ref q2, .int 0, .int 2, .ref q3, .int 0, .int 0, .null, .int 0, .null, .null, .null, .int 0, .int 0, .int 0, .null, .null, .null, .null, .int 0, .null, .null, .null, .null, .null, .null, .null, .int 0, .int 0, .int 0, .int 0, .null, .int 0, .int 0, .int 0]))], [(q1, .inl (K 0, 70, .inl (ini VX6_0 70)))], [(q2, .inl (K 0, 24, .inl (ini VX6_1 24)))], [(q3, .inl (K 0, 12, .inl (fun _ => 0)))]] := h
  refine lv_aload_n hx hb dX6_init_519 rfl (lv_at hl 0 rfl) ?_
  refine lv_sipush (v := 720) hx hb dX6_init_520 (by decide) ?_
  refine r_newaI (N' := 720) F h zw_32 (by decide) (by decide +kernel) (Nat.le_of_ble_eq_true rfl) ⟨Nat.le_of_ble_eq_true rfl, Nat.le_of_ble_eq_true rfl⟩ dX6_init_523 (fun q4 H h => ?_)
  have h : WD D A s.heap _ _ [[(hh, .inr (6, [.int 2, .int 7, .ref q1, .int 2, .ref q2, .int 0, .int 2, .ref q3, .int 0, .int 0, .null, .int 0, .null, .null, .null, .int 0, .int 0, .int 0, .null, .null, .null, .null, .int 0, .null, .null, .null, .null, .null, .null, .null, .int 0, .int 0, .int 0, .int 0, .null, .int 0, .int 0, .int 0]))], [(q1, .inl (K 0, 70, .inl (ini VX6_0 70)))], [(q2, .inl (K 0, 24, .inl (ini VX6_1 24)))], [(q3, .inl (K 0, 12, .inl (fun _ => 0)))], [(q4, .inl (K 0, 720, .inl (fun _ => 0)))]] := h
  refine r_putFG F h hini (i := 0) (k := 10) (v := .ref q4) inX6 tyX6_ok nmX6 rfl (by decide) zw_64 rfl rfl rfl rfl rfl rfl (Nat.le_of_ble_eq_true rfl) dX6_init_525 (fun H locs h => ?_)
  have h : WD D A s.heap _ _ [[(hh, .inr (6, [.int 2, .int 7, .ref q1, .int 2, .ref q2, .int 0, .int 2, .ref q3, .int 0, .int 0, .ref q4, .int 0, .null, .null, .null, .int 0, .int 0, .int 0, .null, .null, .null, .null, .int 0, .null, .null, .null, .null, .null, .null, .null, .int 0, .int 0, .int 0, .int 0, .null, .int 0, .int 0, .int 0]))], [(q1, .inl (K 0, 70, .inl (ini VX6_0 70)))], [(q2, .inl (K 0, 24, .inl (ini VX6_1 24)))], [(q3, .inl (K 0, 12, .inl (fun _ => 0)))], [(q4, .inl (K 0, 720, .inl (fun _ => 0)))]] := h
  refine lv_aload_n hx hb dX6_init_528 rfl (lv_at hl 0 rfl) ?_
  refine lv_sipush (v := 180) hx hb dX6_init_529 (by decide) ?_
  refine r_newaI (N' := 180) F h zw_32 (by decide) (by decide +kernel) (Nat.le_of_ble_eq_true rfl) ⟨Nat.le_of_ble_eq_true rfl, Nat.le_of_ble_eq_true rfl⟩ dX6_init_532 (fun q5 H h => ?_)
  have h : WD D A s.heap _ _ [[(hh, .inr (6, [.int 2, .int 7, .ref q1, .int 2, .ref q2, .int 0, .int 2, .ref q3, .int 0, .int 0, .ref q4, .int 0, .null, .null, .null, .int 0, .int 0, .int 0, .null, .null, .null, .null, .int 0, .null, .null, .null, .null, .null, .null, .null, .int 0, .int 0, .int 0, .int 0, .null, .int 0, .int 0, .int 0]))], [(q1, .inl (K 0, 70, .inl (ini VX6_0 70)))], [(q2, .inl (K 0, 24, .inl (ini VX6_1 24)))], [(q3, .inl (K 0, 12, .inl (fun _ => 0)))], [(q4, .inl (K 0, 720, .inl (fun _ => 0)))], [(q5, .inl (K 0, 180, .inl (fun _ => 0)))]] := h
  refine r_putFG F h hini (i := 0) (k := 12) (v := .ref q5) inX6 tyX6_ok nmX6 rfl (by decide) zw_65 rfl rfl rfl rfl rfl rfl (Nat.le_of_ble_eq_true rfl) dX6_init_534 (fun H locs h => ?_)
  have h : WD D A s.heap _ _ [[(hh, .inr (6, [.int 2, .int 7, .ref q1, .int 2, .ref q2, .int 0, .int 2, .ref q3, .int 0, .int 0, .ref q4, .int 0, .ref q5, .null, .null, .int 0, .int 0, .int 0, .null, .null, .null, .null, .int 0, .null, .null, .null, .null, .null, .null, .null, .int 0, .int 0, .int 0, .int 0, .null, .int 0, .int 0, .int 0]))], [(q1, .inl (K 0, 70, .inl (ini VX6_0 70)))], [(q2, .inl (K 0, 24, .inl (ini VX6_1 24)))], [(q3, .inl (K 0, 12, .inl (fun _ => 0)))], [(q4, .inl (K 0, 720, .inl (fun _ => 0)))], [(q5, .inl (K 0, 180, .inl (fun _ => 0)))]] := h
  refine lv_aload_n hx hb dX6_init_537 rfl (lv_at hl 0 rfl) ?_
  refine lv_sipush (v := 676) hx hb dX6_init_538 (by decide) ?_
  refine r_newaI (N' := 676) F h zw_32 (by decide) (by decide +kernel) (Nat.le_of_ble_eq_true rfl) ⟨Nat.le_of_ble_eq_true rfl, Nat.le_of_ble_eq_true rfl⟩ dX6_init_541 (fun q6 H h => ?_)
  have h : WD D A s.heap _ _ [[(hh, .inr (6, [.int 2, .int 7, .ref q1, .int 2, .ref q2, .int 0, .int 2, .ref q3, .int 0, .int 0, .ref q4, .int 0, .ref q5, .null, .null, .int 0, .int 0, .int 0, .null, .null, .null, .null, .int 0, .null, .null, .null, .null, .null, .null, .null, .int 0, .int 0, .int 0, .int 0, .null, .int 0, .int 0, .int 0]))], [(q1, .inl (K 0, 70, .inl (ini VX6_0 70)))], [(q2, .inl (K 0, 24, .inl (ini VX6_1 24)))], [(q3, .inl (K 0, 12, .inl (fun _ => 0)))], [(q4, .inl (K 0, 720, .inl (fun _ => 0)))], [(q5, .inl (K 0, 180, .inl (fun _ => 0)))], [(q6, .inl (K 0, 676, .inl (fun _ => 0)))]] := h
  refine r_putFG F h hini (i := 0) (k := 13) (v := .ref q6) inX6 tyX6_ok nmX6 rfl (by decide) zw_66 rfl rfl rfl rfl rfl rfl (Nat.le_of_ble_eq_true rfl) dX6_init_543 (fun H locs h => ?_)
  have h : WD D A s.heap _ _ [[(hh, .inr (6, [.int 2, .int 7, .ref q1, .int 2, .ref q2, .int 0, .int 2, .ref q3, .int 0, .int 0, .ref q4, .int 0, .ref q5, .ref q6, .null, .int 0, .int 0, .int 0, .null, .null, .null, .null, .int 0, .null, .null, .null, .null, .null, .null, .null, .int 0, .int 0, .int 0, .int 0, .null, .int 0, .int 0, .int 0]))], [(q1, .inl (K 0, 70, .inl (ini VX6_0 70)))], [(q2, .inl (K 0, 24, .inl (ini VX6_1 24)))], [(q3, .inl (K 0, 12, .inl (fun _ => 0)))], [(q4, .inl (K 0, 720, .inl (fun _ => 0)))], [(q5, .inl (K 0, 180, .inl (fun _ => 0)))], [(q6, .inl (K 0, 676, .inl (fun _ => 0)))]] := h
  refine lv_aload_n hx hb dX6_init_546 rfl (lv_at hl 0 rfl) ?_
  refine lv_sipush (v := 676) hx hb dX6_init_547 (by decide) ?_
  refine r_newaI (N' := 676) F h zw_32 (by decide) (by decide +kernel) (Nat.le_of_ble_eq_true rfl) ⟨Nat.le_of_ble_eq_true rfl, Nat.le_of_ble_eq_true rfl⟩ dX6_init_550 (fun q7 H h => ?_)
  have h : WD D A s.heap _ _ [[(hh, .inr (6, [.int 2, .int 7, .ref q1, .int 2, .ref q2, .int 0, .int 2, .ref q3, .int 0, .int 0, .ref q4, .int 0, .ref q5, .ref q6, .null, .int 0, .int 0, .int 0, .null, .null, .null, .null, .int 0, .null, .null, .null, .null, .null, .null, .null, .int 0, .int 0, .int 0, .int 0, .null, .int 0, .int 0, .int 0]))], [(q1, .inl (K 0, 70, .inl (ini VX6_0 70)))], [(q2, .inl (K 0, 24, .inl (ini VX6_1 24)))], [(q3, .inl (K 0, 12, .inl (fun _ => 0)))], [(q4, .inl (K 0, 720, .inl (fun _ => 0)))], [(q5, .inl (K 0, 180, .inl (fun _ => 0)))], [(q6, .inl (K 0, 676, .inl (fun _ => 0)))], [(q7, .inl (K 0, 676, .inl (fun _ => 0)))]] := h
  refine r_putFG F h hini (i := 0) (k := 14) (v := .ref q7) inX6 tyX6_ok nmX6 rfl (by decide) zw_67 rfl rfl rfl rfl rfl rfl (Nat.le_of_ble_eq_true rfl) dX6_init_552 (fun H locs h => ?_)
  have h : WD D A s.heap _ _ [[(hh, .inr (6, [.int 2, .int 7, .ref q1, .int 2, .ref q2, .int 0, .int 2, .ref q3, .int 0, .int 0, .ref q4, .int 0, .ref q5, .ref q6, .ref q7, .int 0, .int 0, .int 0, .null, .null, .null, .null, .int 0, .null, .null, .null, .null, .null, .null, .null, .int 0, .int 0, .int 0, .int 0, .null, .int 0, .int 0, .int 0]))], [(q1, .inl (K 0, 70, .inl (ini VX6_0 70)))], [(q2, .inl (K 0, 24, .inl (ini VX6_1 24)))], [(q3, .inl (K 0, 12, .inl (fun _ => 0)))], [(q4, .inl (K 0, 720, .inl (fun _ => 0)))], [(q5, .inl (K 0, 180, .inl (fun _ => 0)))], [(q6, .inl (K 0, 676, .inl (fun _ => 0)))], [(q7, .inl (K 0, 676, .inl (fun _ => 0)))]] := h
  refine lv_aload_n hx hb dX6_init_555 rfl (lv_at hl 0 rfl) ?_
  refine lv_bipush (v := 13) hx hb dX6_init_556 (by decide) ?_
  refine r_newaI (N' := 13) F h zw_32 (by decide) (by decide +kernel) (Nat.le_of_ble_eq_true rfl) ⟨Nat.le_of_ble_eq_true rfl, Nat.le_of_ble_eq_true rfl⟩ dX6_init_558 (fun q8 H h => ?_)
  have h : WD D A s.heap _ _ [[(hh, .inr (6, [.int 2, .int 7, .ref q1, .int 2, .ref q2, .int 0, .int 2, .ref q3, .int 0, .int 0, .ref q4, .int 0, .ref q5, .ref q6, .ref q7, .int 0, .int 0, .int 0, .null, .null, .null, .null, .int 0, .null, .null, .null, .null, .null, .null, .null, .int 0, .int 0, .int 0, .int 0, .null, .int 0, .int 0, .int 0]))], [(q1, .inl (K 0, 70, .inl (ini VX6_0 70)))], [(q2, .inl (K 0, 24, .inl (ini VX6_1 24)))], [(q3, .inl (K 0, 12, .inl (fun _ => 0)))], [(q4, .inl (K 0, 720, .inl (fun _ => 0)))], [(q5, .inl (K 0, 180, .inl (fun _ => 0)))], [(q6, .inl (K 0, 676, .inl (fun _ => 0)))], [(q7, .inl (K 0, 676, .inl (fun _ => 0)))], [(q8, .inl (K 0, 13, .inl (fun _ => 0)))]] := h
  refine r_putFG F h hini (i := 0) (k := 18) (v := .ref q8) inX6 tyX6_ok nmX6 rfl (by decide) zw_68 rfl rfl rfl rfl rfl rfl (Nat.le_of_ble_eq_true rfl) dX6_init_560 (fun H locs h => ?_)
  have h : WD D A s.heap _ _ [[(hh, .inr (6, [.int 2, .int 7, .ref q1, .int 2, .ref q2, .int 0, .int 2, .ref q3, .int 0, .int 0, .ref q4, .int 0, .ref q5, .ref q6, .ref q7, .int 0, .int 0, .int 0, .ref q8, .null, .null, .null, .int 0, .null, .null, .null, .null, .null, .null, .null, .int 0, .int 0, .int 0, .int 0, .null, .int 0, .int 0, .int 0]))], [(q1, .inl (K 0, 70, .inl (ini VX6_0 70)))], [(q2, .inl (K 0, 24, .inl (ini VX6_1 24)))], [(q3, .inl (K 0, 12, .inl (fun _ => 0)))], [(q4, .inl (K 0, 720, .inl (fun _ => 0)))], [(q5, .inl (K 0, 180, .inl (fun _ => 0)))], [(q6, .inl (K 0, 676, .inl (fun _ => 0)))], [(q7, .inl (K 0, 676, .inl (fun _ => 0)))], [(q8, .inl (K 0, 13, .inl (fun _ => 0)))]] := h
  refine lv_aload_n hx hb dX6_init_563 rfl (lv_at hl 0 rfl) ?_
  refine lv_bipush (v := 13) hx hb dX6_init_564 (by decide) ?_
  refine r_newaI (N' := 13) F h zw_32 (by decide) (by decide +kernel) (Nat.le_of_ble_eq_true rfl) ⟨Nat.le_of_ble_eq_true rfl, Nat.le_of_ble_eq_true rfl⟩ dX6_init_566 (fun q9 H h => ?_)
  have h : WD D A s.heap _ _ [[(hh, .inr (6, [.int 2, .int 7, .ref q1, .int 2, .ref q2, .int 0, .int 2, .ref q3, .int 0, .int 0, .ref q4, .int 0, .ref q5, .ref q6, .ref q7, .int 0, .int 0, .int 0, .ref q8, .null, .null, .null, .int 0, .null, .null, .null, .null, .null, .null, .null, .int 0, .int 0, .int 0, .int 0, .null, .int 0, .int 0, .int 0]))], [(q1, .inl (K 0, 70, .inl (ini VX6_0 70)))], [(q2, .inl (K 0, 24, .inl (ini VX6_1 24)))], [(q3, .inl (K 0, 12, .inl (fun _ => 0)))], [(q4, .inl (K 0, 720, .inl (fun _ => 0)))], [(q5, .inl (K 0, 180, .inl (fun _ => 0)))], [(q6, .inl (K 0, 676, .inl (fun _ => 0)))], [(q7, .inl (K 0, 676, .inl (fun _ => 0)))], [(q8, .inl (K 0, 13, .inl (fun _ => 0)))], [(q9, .inl (K 0, 13, .inl (fun _ => 0)))]] := h
  refine r_putFG F h hini (i := 0) (k := 19) (v := .ref q9) inX6 tyX6_ok nmX6 rfl (by decide) zw_69 rfl rfl rfl rfl rfl rfl (Nat.le_of_ble_eq_true rfl) dX6_init_568 (fun H locs h => ?_)
  have h : WD D A s.heap _ _ [[(hh, .inr (6, [.int 2, .int 7, .ref q1, .int 2, .ref q2, .int 0, .int 2, .ref q3, .int 0, .int 0, .ref q4, .int 0, .ref q5, .ref q6, .ref q7, .int 0, .int 0, .int 0, .ref q8, .ref q9, .null, .null, .int 0, .null, .null, .null, .null, .null, .null, .null, .int 0, .int 0, .int 0, .int 0, .null, .int 0, .int 0, .int 0]))], [(q1, .inl (K 0, 70, .inl (ini VX6_0 70)))], [(q2, .inl (K 0, 24, .inl (ini VX6_1 24)))], [(q3, .inl (K 0, 12, .inl (fun _ => 0)))], [(q4, .inl (K 0, 720, .inl (fun _ => 0)))], [(q5, .inl (K 0, 180, .inl (fun _ => 0)))], [(q6, .inl (K 0, 676, .inl (fun _ => 0)))], [(q7, .inl (K 0, 676, .inl (fun _ => 0)))], [(q8, .inl (K 0, 13, .inl (fun _ => 0)))], [(q9, .inl (K 0, 13, .inl (fun _ => 0)))]] := h
  refine lv_aload_n hx hb dX6_init_571 rfl (lv_at hl 0 rfl) ?_
  refine lv_sipush (v := 400) hx hb dX6_init_572 (by decide) ?_
  refine r_newaI (N' := 400) F h zw_32 (by decide) (by decide +kernel) (Nat.le_of_ble_eq_true rfl) ⟨Nat.le_of_ble_eq_true rfl, Nat.le_of_ble_eq_true rfl⟩ dX6_init_575 (fun q10 H h => ?_)
  have h : WD D A s.heap _ _ [[(hh, .inr (6, [.int 2, .int 7, .ref q1, .int 2, .ref q2, .int 0, .int 2, .ref q3, .int 0, .int 0, .ref q4, .int 0, .ref q5, .ref q6, .ref q7, .int 0, .int 0, .int 0, .ref q8, .ref q9, .null, .null, .int 0, .null, .null, .null, .null, .null, .null, .null, .int 0, .int 0, .int 0, .int 0, .null, .int 0, .int 0, .int 0]))], [(q1, .inl (K 0, 70, .inl (ini VX6_0 70)))], [(q2, .inl (K 0, 24, .inl (ini VX6_1 24)))], [(q3, .inl (K 0, 12, .inl (fun _ => 0)))], [(q4, .inl (K 0, 720, .inl (fun _ => 0)))], [(q5, .inl (K 0, 180, .inl (fun _ => 0)))], [(q6, .inl (K 0, 676, .inl (fun _ => 0)))], [(q7, .inl (K 0, 676, .inl (fun _ => 0)))], [(q8, .inl (K 0, 13, .inl (fun _ => 0)))], [(q9, .inl (K 0, 13, .inl (fun _ => 0)))], [(q10, .inl (K 0, 400, .inl (fun _ => 0)))]] := h
  refine r_putFG F h hini (i := 0) (k := 20) (v := .ref q10) inX6 tyX6_ok nmX6 rfl (by decide) zw_70 rfl rfl rfl rfl rfl rfl (Nat.le_of_ble_eq_true rfl) dX6_init_577 (fun H locs h => ?_)
  have h : WD D A s.heap _ _ [[(hh, .inr (6, [.int 2, .int 7, .ref q1, .int 2, .ref q2, .int 0, .int 2, .ref q3, .int 0, .int 0, .ref q4, .int 0, .ref q5, .ref q6, .ref q7, .int 0, .int 0, .int 0, .ref q8, .ref q9, .ref q10, .null, .int 0, .null, .null, .null, .null, .null, .null, .null, .int 0, .int 0, .int 0, .int 0, .null, .int 0, .int 0, .int 0]))], [(q1, .inl (K 0, 70, .inl (ini VX6_0 70)))], [(q2, .inl (K 0, 24, .inl (ini VX6_1 24)))], [(q3, .inl (K 0, 12, .inl (fun _ => 0)))], [(q4, .inl (K 0, 720, .inl (fun _ => 0)))], [(q5, .inl (K 0, 180, .inl (fun _ => 0)))], [(q6, .inl (K 0, 676, .inl (fun _ => 0)))], [(q7, .inl (K 0, 676, .inl (fun _ => 0)))], [(q8, .inl (K 0, 13, .inl (fun _ => 0)))], [(q9, .inl (K 0, 13, .inl (fun _ => 0)))], [(q10, .inl (K 0, 400, .inl (fun _ => 0)))]] := h
  refine lv_aload_n hx hb dX6_init_580 rfl (lv_at hl 0 rfl) ?_
  refine lv_sipush (v := 5213) hx hb dX6_init_581 (by decide) ?_
  refine r_newaI (N' := 5213) F h zw_32 (by decide) (by decide +kernel) (Nat.le_of_ble_eq_true rfl) ⟨Nat.le_of_ble_eq_true rfl, Nat.le_of_ble_eq_true rfl⟩ dX6_init_584 (fun q11 H h => ?_)
  have h : WD D A s.heap _ _ [[(hh, .inr (6, [.int 2, .int 7, .ref q1, .int 2, .ref q2, .int 0, .int 2, .ref q3, .int 0, .int 0, .ref q4, .int 0, .ref q5, .ref q6, .ref q7, .int 0, .int 0, .int 0, .ref q8, .ref q9, .ref q10, .null, .int 0, .null, .null, .null, .null, .null, .null, .null, .int 0, .int 0, .int 0, .int 0, .null, .int 0, .int 0, .int 0]))], [(q1, .inl (K 0, 70, .inl (ini VX6_0 70)))], [(q2, .inl (K 0, 24, .inl (ini VX6_1 24)))], [(q3, .inl (K 0, 12, .inl (fun _ => 0)))], [(q4, .inl (K 0, 720, .inl (fun _ => 0)))], [(q5, .inl (K 0, 180, .inl (fun _ => 0)))], [(q6, .inl (K 0, 676, .inl (fun _ => 0)))], [(q7, .inl (K 0, 676, .inl (fun _ => 0)))], [(q8, .inl (K 0, 13, .inl (fun _ => 0)))], [(q9, .inl (K 0, 13, .inl (fun _ => 0)))], [(q10, .inl (K 0, 400, .inl (fun _ => 0)))], [(q11, .inl (K 0, 5213, .inl (fun _ => 0)))]] := h
  refine r_putFG F h hini (i := 0) (k := 21) (v := .ref q11) inX6 tyX6_ok nmX6 rfl (by decide) zw_71 rfl rfl rfl rfl rfl rfl (Nat.le_of_ble_eq_true rfl) dX6_init_586 (fun H locs h => ?_)
  have h : WD D A s.heap _ _ [[(hh, .inr (6, [.int 2, .int 7, .ref q1, .int 2, .ref q2, .int 0, .int 2, .ref q3, .int 0, .int 0, .ref q4, .int 0, .ref q5, .ref q6, .ref q7, .int 0, .int 0, .int 0, .ref q8, .ref q9, .ref q10, .ref q11, .int 0, .null, .null, .null, .null, .null, .null, .null, .int 0, .int 0, .int 0, .int 0, .null, .int 0, .int 0, .int 0]))], [(q1, .inl (K 0, 70, .inl (ini VX6_0 70)))], [(q2, .inl (K 0, 24, .inl (ini VX6_1 24)))], [(q3, .inl (K 0, 12, .inl (fun _ => 0)))], [(q4, .inl (K 0, 720, .inl (fun _ => 0)))], [(q5, .inl (K 0, 180, .inl (fun _ => 0)))], [(q6, .inl (K 0, 676, .inl (fun _ => 0)))], [(q7, .inl (K 0, 676, .inl (fun _ => 0)))], [(q8, .inl (K 0, 13, .inl (fun _ => 0)))], [(q9, .inl (K 0, 13, .inl (fun _ => 0)))], [(q10, .inl (K 0, 400, .inl (fun _ => 0)))], [(q11, .inl (K 0, 5213, .inl (fun _ => 0)))]] := h
  refine lv_aload_n hx hb dX6_init_589 rfl (lv_at hl 0 rfl) ?_
  refine lv_bipush (v := 13) hx hb dX6_init_590 (by decide) ?_
  refine r_newaI (N' := 13) F h zw_32 (by decide) (by decide +kernel) (Nat.le_of_ble_eq_true rfl) ⟨Nat.le_of_ble_eq_true rfl, Nat.le_of_ble_eq_true rfl⟩ dX6_init_592 (fun q12 H h => ?_)
  have h : WD D A s.heap _ _ [[(hh, .inr (6, [.int 2, .int 7, .ref q1, .int 2, .ref q2, .int 0, .int 2, .ref q3, .int 0, .int 0, .ref q4, .int 0, .ref q5, .ref q6, .ref q7, .int 0, .int 0, .int 0, .ref q8, .ref q9, .ref q10, .ref q11, .int 0, .null, .null, .null, .null, .null, .null, .null, .int 0, .int 0, .int 0, .int 0, .null, .int 0, .int 0, .int 0]))], [(q1, .inl (K 0, 70, .inl (ini VX6_0 70)))], [(q2, .inl (K 0, 24, .inl (ini VX6_1 24)))], [(q3, .inl (K 0, 12, .inl (fun _ => 0)))], [(q4, .inl (K 0, 720, .inl (fun _ => 0)))], [(q5, .inl (K 0, 180, .inl (fun _ => 0)))], [(q6, .inl (K 0, 676, .inl (fun _ => 0)))], [(q7, .inl (K 0, 676, .inl (fun _ => 0)))], [(q8, .inl (K 0, 13, .inl (fun _ => 0)))], [(q9, .inl (K 0, 13, .inl (fun _ => 0)))], [(q10, .inl (K 0, 400, .inl (fun _ => 0)))], [(q11, .inl (K 0, 5213, .inl (fun _ => 0)))], [(q12, .inl (K 0, 13, .inl (fun _ => 0)))]] := h
  refine r_putFG F h hini (i := 0) (k := 23) (v := .ref q12) inX6 tyX6_ok nmX6 rfl (by decide) zw_72 rfl rfl rfl rfl rfl rfl (Nat.le_of_ble_eq_true rfl) dX6_init_594 (fun H locs h => ?_)
  have h : WD D A s.heap _ _ [[(hh, .inr (6, [.int 2, .int 7, .ref q1, .int 2, .ref q2, .int 0, .int 2, .ref q3, .int 0, .int 0, .ref q4, .int 0, .ref q5, .ref q6, .ref q7, .int 0, .int 0, .int 0, .ref q8, .ref q9, .ref q10, .ref q11, .int 0, .ref q12, .null, .null, .null, .null, .null, .null, .int 0, .int 0, .int 0, .int 0, .null, .int 0, .int 0, .int 0]))], [(q1, .inl (K 0, 70, .inl (ini VX6_0 70)))], [(q2, .inl (K 0, 24, .inl (ini VX6_1 24)))], [(q3, .inl (K 0, 12, .inl (fun _ => 0)))], [(q4, .inl (K 0, 720, .inl (fun _ => 0)))], [(q5, .inl (K 0, 180, .inl (fun _ => 0)))], [(q6, .inl (K 0, 676, .inl (fun _ => 0)))], [(q7, .inl (K 0, 676, .inl (fun _ => 0)))], [(q8, .inl (K 0, 13, .inl (fun _ => 0)))], [(q9, .inl (K 0, 13, .inl (fun _ => 0)))], [(q10, .inl (K 0, 400, .inl (fun _ => 0)))], [(q11, .inl (K 0, 5213, .inl (fun _ => 0)))], [(q12, .inl (K 0, 13, .inl (fun _ => 0)))]] := h
  refine lv_aload_n hx hb dX6_init_597 rfl (lv_at hl 0 rfl) ?_
  refine lv_bipush (v := 13) hx hb dX6_init_598 (by decide) ?_
  refine r_newaI (N' := 13) F h zw_32 (by decide) (by decide +kernel) (Nat.le_of_ble_eq_true rfl) ⟨Nat.le_of_ble_eq_true rfl, Nat.le_of_ble_eq_true rfl⟩ dX6_init_600 (fun q13 H h => ?_)
  have h : WD D A s.heap _ _ [[(hh, .inr (6, [.int 2, .int 7, .ref q1, .int 2, .ref q2, .int 0, .int 2, .ref q3, .int 0, .int 0, .ref q4, .int 0, .ref q5, .ref q6, .ref q7, .int 0, .int 0, .int 0, .ref q8, .ref q9, .ref q10, .ref q11, .int 0, .ref q12, .null, .null, .null, .null, .null, .null, .int 0, .int 0, .int 0, .int 0, .null, .int 0, .int 0, .int 0]))], [(q1, .inl (K 0, 70, .inl (ini VX6_0 70)))], [(q2, .inl (K 0, 24, .inl (ini VX6_1 24)))], [(q3, .inl (K 0, 12, .inl (fun _ => 0)))], [(q4, .inl (K 0, 720, .inl (fun _ => 0)))], [(q5, .inl (K 0, 180, .inl (fun _ => 0)))], [(q6, .inl (K 0, 676, .inl (fun _ => 0)))], [(q7, .inl (K 0, 676, .inl (fun _ => 0)))], [(q8, .inl (K 0, 13, .inl (fun _ => 0)))], [(q9, .inl (K 0, 13, .inl (fun _ => 0)))], [(q10, .inl (K 0, 400, .inl (fun _ => 0)))], [(q11, .inl (K 0, 5213, .inl (fun _ => 0)))], [(q12, .inl (K 0, 13, .inl (fun _ => 0)))], [(q13, .inl (K 0, 13, .inl (fun _ => 0)))]] := h
  refine r_putFG F h hini (i := 0) (k := 24) (v := .ref q13) inX6 tyX6_ok nmX6 rfl (by decide) zw_73 rfl rfl rfl rfl rfl rfl (Nat.le_of_ble_eq_true rfl) dX6_init_602 (fun H locs h => ?_)
  have h : WD D A s.heap _ _ [[(hh, .inr (6, [.int 2, .int 7, .ref q1, .int 2, .ref q2, .int 0, .int 2, .ref q3, .int 0, .int 0, .ref q4, .int 0, .ref q5, .ref q6, .ref q7, .int 0, .int 0, .int 0, .ref q8, .ref q9, .ref q10, .ref q11, .int 0, .ref q12, .ref q13, .null, .null, .null, .null, .null, .int 0, .int 0, .int 0, .int 0, .null, .int 0, .int 0, .int 0]))], [(q1, .inl (K 0, 70, .inl (ini VX6_0 70)))], [(q2, .inl (K 0, 24, .inl (ini VX6_1 24)))], [(q3, .inl (K 0, 12, .inl (fun _ => 0)))], [(q4, .inl (K 0, 720, .inl (fun _ => 0)))], [(q5, .inl (K 0, 180, .inl (fun _ => 0)))], [(q6, .inl (K 0, 676, .inl (fun _ => 0)))], [(q7, .inl (K 0, 676, .inl (fun _ => 0)))], [(q8, .inl (K 0, 13, .inl (fun _ => 0)))], [(q9, .inl (K 0, 13, .inl (fun _ => 0)))], [(q10, .inl (K 0, 400, .inl (fun _ => 0)))], [(q11, .inl (K 0, 5213, .inl (fun _ => 0)))], [(q12, .inl (K 0, 13, .inl (fun _ => 0)))], [(q13, .inl (K 0, 13, .inl (fun _ => 0)))]] := h
  refine lv_aload_n hx hb dX6_init_605 rfl (lv_at hl 0 rfl) ?_
  refine lv_bipush (v := 36) hx hb dX6_init_606 (by decide) ?_
  refine r_newaI (N' := 36) F h zw_32 (by decide) (by decide +kernel) (Nat.le_of_ble_eq_true rfl) ⟨Nat.le_of_ble_eq_true rfl, Nat.le_of_ble_eq_true rfl⟩ dX6_init_608 (fun q14 H h => ?_)
  have h : WD D A s.heap _ _ [[(hh, .inr (6, [.int 2, .int 7, .ref q1, .int 2, .ref q2, .int 0, .int 2, .ref q3, .int 0, .int 0, .ref q4, .int 0, .ref q5, .ref q6, .ref q7, .int 0, .int 0, .int 0, .ref q8, .ref q9, .ref q10, .ref q11, .int 0, .ref q12, .ref q13, .null, .null, .null, .null, .null, .int 0, .int 0, .int 0, .int 0, .null, .int 0, .int 0, .int 0]))], [(q1, .inl (K 0, 70, .inl (ini VX6_0 70)))], [(q2, .inl (K 0, 24, .inl (ini VX6_1 24)))], [(q3, .inl (K 0, 12, .inl (fun _ => 0)))], [(q4, .inl (K 0, 720, .inl (fun _ => 0)))], [(q5, .inl (K 0, 180, .inl (fun _ => 0)))], [(q6, .inl (K 0, 676, .inl (fun _ => 0)))], [(q7, .inl (K 0, 676, .inl (fun _ => 0)))], [(q8, .inl (K 0, 13, .inl (fun _ => 0)))], [(q9, .inl (K 0, 13, .inl (fun _ => 0)))], [(q10, .inl (K 0, 400, .inl (fun _ => 0)))], [(q11, .inl (K 0, 5213, .inl (fun _ => 0)))], [(q12, .inl (K 0, 13, .inl (fun _ => 0)))], [(q13, .inl (K 0, 13, .inl (fun _ => 0)))], [(q14, .inl (K 0, 36, .inl (fun _ => 0)))]] := h
  refine r_putFG F h hini (i := 0) (k := 25) (v := .ref q14) inX6 tyX6_ok nmX6 rfl (by decide) zw_74 rfl rfl rfl rfl rfl rfl (Nat.le_of_ble_eq_true rfl) dX6_init_610 (fun H locs h => ?_)
  have h : WD D A s.heap _ _ [[(hh, .inr (6, [.int 2, .int 7, .ref q1, .int 2, .ref q2, .int 0, .int 2, .ref q3, .int 0, .int 0, .ref q4, .int 0, .ref q5, .ref q6, .ref q7, .int 0, .int 0, .int 0, .ref q8, .ref q9, .ref q10, .ref q11, .int 0, .ref q12, .ref q13, .ref q14, .null, .null, .null, .null, .int 0, .int 0, .int 0, .int 0, .null, .int 0, .int 0, .int 0]))], [(q1, .inl (K 0, 70, .inl (ini VX6_0 70)))], [(q2, .inl (K 0, 24, .inl (ini VX6_1 24)))], [(q3, .inl (K 0, 12, .inl (fun _ => 0)))], [(q4, .inl (K 0, 720, .inl (fun _ => 0)))], [(q5, .inl (K 0, 180, .inl (fun _ => 0)))], [(q6, .inl (K 0, 676, .inl (fun _ => 0)))], [(q7, .inl (K 0, 676, .inl (fun _ => 0)))], [(q8, .inl (K 0, 13, .inl (fun _ => 0)))], [(q9, .inl (K 0, 13, .inl (fun _ => 0)))], [(q10, .inl (K 0, 400, .inl (fun _ => 0)))], [(q11, .inl (K 0, 5213, .inl (fun _ => 0)))], [(q12, .inl (K 0, 13, .inl (fun _ => 0)))], [(q13, .inl (K 0, 13, .inl (fun _ => 0)))], [(q14, .inl (K 0, 36, .inl (fun _ => 0)))]] := h
  refine lv_aload_n hx hb dX6_init_613 rfl (lv_at hl 0 rfl) ?_
  refine lv_bipush (v := 12) hx hb dX6_init_614 (by decide) ?_
  refine r_newaI (N' := 12) F h zw_32 (by decide) (by decide +kernel) (Nat.le_of_ble_eq_true rfl) ⟨Nat.le_of_ble_eq_true rfl, Nat.le_of_ble_eq_true rfl⟩ dX6_init_616 (fun q15 H h => ?_)
  have h : WD D A s.heap _ _ [[(hh, .inr (6, [.int 2, .int 7, .ref q1, .int 2, .ref q2, .int 0, .int 2, .ref q3, .int 0, .int 0, .ref q4, .int 0, .ref q5, .ref q6, .ref q7, .int 0, .int 0, .int 0, .ref q8, .ref q9, .ref q10, .ref q11, .int 0, .ref q12, .ref q13, .ref q14, .null, .null, .null, .null, .int 0, .int 0, .int 0, .int 0, .null, .int 0, .int 0, .int 0]))], [(q1, .inl (K 0, 70, .inl (ini VX6_0 70)))], [(q2, .inl (K 0, 24, .inl (ini VX6_1 24)))], [(q3, .inl (K 0, 12, .inl (fun _ => 0)))], [(q4, .inl (K 0, 720, .inl (fun _ => 0)))], [(q5, .inl (K 0, 180, .inl (fun _ => 0)))], [(q6, .inl (K 0, 676, .inl (fun _ => 0)))], [(q7, .inl (K 0, 676, .inl (fun _ => 0)))], [(q8, .inl (K 0, 13, .inl (fun _ => 0)))], [(q9, .inl (K 0, 13, .inl (fun _ => 0)))], [(q10, .inl (K 0, 400, .inl (fun _ => 0)))], [(q11, .inl (K 0, 5213, .inl (fun _ => 0)))], [(q12, .inl (K 0, 13, .inl (fun _ => 0)))], [(q13, .inl (K 0, 13, .inl (fun _ => 0)))], [(q14, .inl (K 0, 36, .inl (fun _ => 0)))], [(q15, .inl (K 0, 12, .inl (fun _ => 0)))]] := h
  refine r_putFG F h hini (i := 0) (k := 26) (v := .ref q15) inX6 tyX6_ok nmX6 rfl (by decide) zw_75 rfl rfl rfl rfl rfl rfl (Nat.le_of_ble_eq_true rfl) dX6_init_618 (fun H locs h => ?_)
  have h : WD D A s.heap _ _ [[(hh, .inr (6, [.int 2, .int 7, .ref q1, .int 2, .ref q2, .int 0, .int 2, .ref q3, .int 0, .int 0, .ref q4, .int 0, .ref q5, .ref q6, .ref q7, .int 0, .int 0, .int 0, .ref q8, .ref q9, .ref q10, .ref q11, .int 0, .ref q12, .ref q13, .ref q14, .ref q15, .null, .null, .null, .int 0, .int 0, .int 0, .int 0, .null, .int 0, .int 0, .int 0]))], [(q1, .inl (K 0, 70, .inl (ini VX6_0 70)))], [(q2, .inl (K 0, 24, .inl (ini VX6_1 24)))], [(q3, .inl (K 0, 12, .inl (fun _ => 0)))], [(q4, .inl (K 0, 720, .inl (fun _ => 0)))], [(q5, .inl (K 0, 180, .inl (fun _ => 0)))], [(q6, .inl (K 0, 676, .inl (fun _ => 0)))], [(q7, .inl (K 0, 676, .inl (fun _ => 0)))], [(q8, .inl (K 0, 13, .inl (fun _ => 0)))], [(q9, .inl (K 0, 13, .inl (fun _ => 0)))], [(q10, .inl (K 0, 400, .inl (fun _ => 0)))], [(q11, .inl (K 0, 5213, .inl (fun _ => 0)))], [(q12, .inl (K 0, 13, .inl (fun _ => 0)))], [(q13, .inl (K 0, 13, .inl (fun _ => 0)))], [(q14, .inl (K 0, 36, .inl (fun _ => 0)))], [(q15, .inl (K 0, 12, .inl (fun _ => 0)))]] := h
  refine lv_aload_n hx hb dX6_init_621 rfl (lv_at hl 0 rfl) ?_
  refine lv_iconst (v := 3) hx hb dX6_init_622 (by decide) ?_
  refine r_newaI (N' := 3) F h zw_32 (by decide) (by decide +kernel) (Nat.le_of_ble_eq_true rfl) ⟨Nat.le_of_ble_eq_true rfl, Nat.le_of_ble_eq_true rfl⟩ dX6_init_623 (fun q16 H h => ?_)
  have h : WD D A s.heap _ _ [[(hh, .inr (6, [.int 2, .int 7, .ref q1, .int 2, .ref q2, .int 0, .int 2, .ref q3, .int 0, .int 0, .ref q4, .int 0, .ref q5, .ref q6, .ref q7, .int 0, .int 0, .int 0, .ref q8, .ref q9, .ref q10, .ref q11, .int 0, .ref q12, .ref q13, .ref q14, .ref q15, .null, .null, .null, .int 0, .int 0, .int 0, .int 0, .null, .int 0, .int 0, .int 0]))], [(q1, .inl (K 0, 70, .inl (ini VX6_0 70)))], [(q2, .inl (K 0, 24, .inl (ini VX6_1 24)))], [(q3, .inl (K 0, 12, .inl (fun _ => 0)))], [(q4, .inl (K 0, 720, .inl (fun _ => 0)))], [(q5, .inl (K 0, 180, .inl (fun _ => 0)))], [(q6, .inl (K 0, 676, .inl (fun _ => 0)))], [(q7, .inl (K 0, 676, .inl (fun _ => 0)))], [(q8, .inl (K 0, 13, .inl (fun _ => 0)))], [(q9, .inl (K 0, 13, .inl (fun _ => 0)))], [(q10, .inl (K 0, 400, .inl (fun _ => 0)))], [(q11, .inl (K 0, 5213, .inl (fun _ => 0)))], [(q12, .inl (K 0, 13, .inl (fun _ => 0)))], [(q13, .inl (K 0, 13, .inl (fun _ => 0)))], [(q14, .inl (K 0, 36, .inl (fun _ => 0)))], [(q15, .inl (K 0, 12, .inl (fun _ => 0)))], [(q16, .inl (K 0, 3, .inl (fun _ => 0)))]] := h
  refine r_putFG F h hini (i := 0) (k := 27) (v := .ref q16) inX6 tyX6_ok nmX6 rfl (by decide) zw_76 rfl rfl rfl rfl rfl rfl (Nat.le_of_ble_eq_true rfl) dX6_init_625 (fun H locs h => ?_)
  have h : WD D A s.heap _ _ [[(hh, .inr (6, [.int 2, .int 7, .ref q1, .int 2, .ref q2, .int 0, .int 2, .ref q3, .int 0, .int 0, .ref q4, .int 0, .ref q5, .ref q6, .ref q7, .int 0, .int 0, .int 0, .ref q8, .ref q9, .ref q10, .ref q11, .int 0, .ref q12, .ref q13, .ref q14, .ref q15, .ref q16, .null, .null, .int 0, .int 0, .int 0, .int 0, .null, .int 0, .int 0, .int 0]))], [(q1, .inl (K 0, 70, .inl (ini VX6_0 70)))], [(q2, .inl (K 0, 24, .inl (ini VX6_1 24)))], [(q3, .inl (K 0, 12, .inl (fun _ => 0)))], [(q4, .inl (K 0, 720, .inl (fun _ => 0)))], [(q5, .inl (K 0, 180, .inl (fun _ => 0)))], [(q6, .inl (K 0, 676, .inl (fun _ => 0)))], [(q7, .inl (K 0, 676, .inl (fun _ => 0)))], [(q8, .inl (K 0, 13, .inl (fun _ => 0)))], [(q9, .inl (K 0, 13, .inl (fun _ => 0)))], [(q10, .inl (K 0, 400, .inl (fun _ => 0)))], [(q11, .inl (K 0, 5213, .inl (fun _ => 0)))], [(q12, .inl (K 0, 13, .inl (fun _ => 0)))], [(q13, .inl (K 0, 13, .inl (fun _ => 0)))], [(q14, .inl (K 0, 36, .inl (fun _ => 0)))], [(q15, .inl (K 0, 12, .inl (fun _ => 0)))], [(q16, .inl (K 0, 3, .inl (fun _ => 0)))]] := h
  refine lv_aload_n hx hb dX6_init_628 rfl (lv_at hl 0 rfl) ?_
  refine lv_bipush (v := 90) hx hb dX6_init_629 (by decide) ?_
  refine r_newaI (N' := 90) F h zw_32 (by decide) (by decide +kernel) (Nat.le_of_ble_eq_true rfl) ⟨Nat.le_of_ble_eq_true rfl, Nat.le_of_ble_eq_true rfl⟩ dX6_init_631 (fun q17 H h => ?_)
  have h : WD D A s.heap _ _ [[(hh, .inr (6, [.int 2, .int 7, .ref q1, .int 2, .ref q2, .int 0, .int 2, .ref q3, .int 0, .int 0, .ref q4, .int 0, .ref q5, .ref q6, .ref q7, .int 0, .int 0, .int 0, .ref q8, .ref q9, .ref q10, .ref q11, .int 0, .ref q12, .ref q13, .ref q14, .ref q15, .ref q16, .null, .null, .int 0, .int 0, .int 0, .int 0, .null, .int 0, .int 0, .int 0]))], [(q1, .inl (K 0, 70, .inl (ini VX6_0 70)))], [(q2, .inl (K 0, 24, .inl (ini VX6_1 24)))], [(q3, .inl (K 0, 12, .inl (fun _ => 0)))], [(q4, .inl (K 0, 720, .inl (fun _ => 0)))], [(q5, .inl (K 0, 180, .inl (fun _ => 0)))], [(q6, .inl (K 0, 676, .inl (fun _ => 0)))], [(q7, .inl (K 0, 676, .inl (fun _ => 0)))], [(q8, .inl (K 0, 13, .inl (fun _ => 0)))], [(q9, .inl (K 0, 13, .inl (fun _ => 0)))], [(q10, .inl (K 0, 400, .inl (fun _ => 0)))], [(q11, .inl (K 0, 5213, .inl (fun _ => 0)))], [(q12, .inl (K 0, 13, .inl (fun _ => 0)))], [(q13, .inl (K 0, 13, .inl (fun _ => 0)))], [(q14, .inl (K 0, 36, .inl (fun _ => 0)))], [(q15, .inl (K 0, 12, .inl (fun _ => 0)))], [(q16, .inl (K 0, 3, .inl (fun _ => 0)))], [(q17, .inl (K 0, 90, .inl (fun _ => 0)))]] := h
  refine r_putFG F h hini (i := 0) (k := 28) (v := .ref q17) inX6 tyX6_ok nmX6 rfl (by decide) zw_77 rfl rfl rfl rfl rfl rfl (Nat.le_of_ble_eq_true rfl) dX6_init_633 (fun H locs h => ?_)
  have h : WD D A s.heap _ _ [[(hh, .inr (6, [.int 2, .int 7, .ref q1, .int 2, .ref q2, .int 0, .int 2, .ref q3, .int 0, .int 0, .ref q4, .int 0, .ref q5, .ref q6, .ref q7, .int 0, .int 0, .int 0, .ref q8, .ref q9, .ref q10, .ref q11, .int 0, .ref q12, .ref q13, .ref q14, .ref q15, .ref q16, .ref q17, .null, .int 0, .int 0, .int 0, .int 0, .null, .int 0, .int 0, .int 0]))], [(q1, .inl (K 0, 70, .inl (ini VX6_0 70)))], [(q2, .inl (K 0, 24, .inl (ini VX6_1 24)))], [(q3, .inl (K 0, 12, .inl (fun _ => 0)))], [(q4, .inl (K 0, 720, .inl (fun _ => 0)))], [(q5, .inl (K 0, 180, .inl (fun _ => 0)))], [(q6, .inl (K 0, 676, .inl (fun _ => 0)))], [(q7, .inl (K 0, 676, .inl (fun _ => 0)))], [(q8, .inl (K 0, 13, .inl (fun _ => 0)))], [(q9, .inl (K 0, 13, .inl (fun _ => 0)))], [(q10, .inl (K 0, 400, .inl (fun _ => 0)))], [(q11, .inl (K 0, 5213, .inl (fun _ => 0)))], [(q12, .inl (K 0, 13, .inl (fun _ => 0)))], [(q13, .inl (K 0, 13, .inl (fun _ => 0)))], [(q14, .inl (K 0, 36, .inl (fun _ => 0)))], [(q15, .inl (K 0, 12, .inl (fun _ => 0)))], [(q16, .inl (K 0, 3, .inl (fun _ => 0)))], [(q17, .inl (K 0, 90, .inl (fun _ => 0)))]] := h
  refine lv_aload_n hx hb dX6_init_636 rfl (lv_at hl 0 rfl) ?_
  refine lv_sipush (v := 200) hx hb dX6_init_637 (by decide) ?_
  refine r_newaI (N' := 200) F h zw_32 (by decide) (by decide +kernel) (Nat.le_of_ble_eq_true rfl) ⟨Nat.le_of_ble_eq_true rfl, Nat.le_of_ble_eq_true rfl⟩ dX6_init_640 (fun q18 H h => ?_)
  have h : WD D A s.heap _ _ [[(hh, .inr (6, [.int 2, .int 7, .ref q1, .int 2, .ref q2, .int 0, .int 2, .ref q3, .int 0, .int 0, .ref q4, .int 0, .ref q5, .ref q6, .ref q7, .int 0, .int 0, .int 0, .ref q8, .ref q9, .ref q10, .ref q11, .int 0, .ref q12, .ref q13, .ref q14, .ref q15, .ref q16, .ref q17, .null, .int 0, .int 0, .int 0, .int 0, .null, .int 0, .int 0, .int 0]))], [(q1, .inl (K 0, 70, .inl (ini VX6_0 70)))], [(q2, .inl (K 0, 24, .inl (ini VX6_1 24)))], [(q3, .inl (K 0, 12, .inl (fun _ => 0)))], [(q4, .inl (K 0, 720, .inl (fun _ => 0)))], [(q5, .inl (K 0, 180, .inl (fun _ => 0)))], [(q6, .inl (K 0, 676, .inl (fun _ => 0)))], [(q7, .inl (K 0, 676, .inl (fun _ => 0)))], [(q8, .inl (K 0, 13, .inl (fun _ => 0)))], [(q9, .inl (K 0, 13, .inl (fun _ => 0)))], [(q10, .inl (K 0, 400, .inl (fun _ => 0)))], [(q11, .inl (K 0, 5213, .inl (fun _ => 0)))], [(q12, .inl (K 0, 13, .inl (fun _ => 0)))], [(q13, .inl (K 0, 13, .inl (fun _ => 0)))], [(q14, .inl (K 0, 36, .inl (fun _ => 0)))], [(q15, .inl (K 0, 12, .inl (fun _ => 0)))], [(q16, .inl (K 0, 3, .inl (fun _ => 0)))], [(q17, .inl (K 0, 90, .inl (fun _ => 0)))], [(q18, .inl (K 0, 200, .inl (fun _ => 0)))]] := h
  refine r_putFG F h hini (i := 0) (k := 29) (v := .ref q18) inX6 tyX6_ok nmX6 rfl (by decide) zw_78 rfl rfl rfl rfl rfl rfl (Nat.le_of_ble_eq_true rfl) dX6_init_642 (fun H locs h => ?_)
  have h : WD D A s.heap _ _ [[(hh, .inr (6, [.int 2, .int 7, .ref q1, .int 2, .ref q2, .int 0, .int 2, .ref q3, .int 0, .int 0, .ref q4, .int 0, .ref q5, .ref q6, .ref q7, .int 0, .int 0, .int 0, .ref q8, .ref q9, .ref q10, .ref q11, .int 0, .ref q12, .ref q13, .ref q14, .ref q15, .ref q16, .ref q17, .ref q18, .int 0, .int 0, .int 0, .int 0, .null, .int 0, .int 0, .int 0]))], [(q1, .inl (K 0, 70, .inl (ini VX6_0 70)))], [(q2, .inl (K 0, 24, .inl (ini VX6_1 24)))], [(q3, .inl (K 0, 12, .inl (fun _ => 0)))], [(q4, .inl (K 0, 720, .inl (fun _ => 0)))], [(q5, .inl (K 0, 180, .inl (fun _ => 0)))], [(q6, .inl (K 0, 676, .inl (fun _ => 0)))], [(q7, .inl (K 0, 676, .inl (fun _ => 0)))], [(q8, .inl (K 0, 13, .inl (fun _ => 0)))], [(q9, .inl (K 0, 13, .inl (fun _ => 0)))], [(q10, .inl (K 0, 400, .inl (fun _ => 0)))], [(q11, .inl (K 0, 5213, .inl (fun _ => 0)))], [(q12, .inl (K 0, 13, .inl (fun _ => 0)))], [(q13, .inl (K 0, 13, .inl (fun _ => 0)))], [(q14, .inl (K 0, 36, .inl (fun _ => 0)))], [(q15, .inl (K 0, 12, .inl (fun _ => 0)))], [(q16, .inl (K 0, 3, .inl (fun _ => 0)))], [(q17, .inl (K 0, 90, .inl (fun _ => 0)))], [(q18, .inl (K 0, 200, .inl (fun _ => 0)))]] := h
  refine lv_aload_n hx hb dX6_init_645 rfl (lv_at hl 0 rfl) ?_
  refine lv_bipush (v := 6) hx hb dX6_init_646 (by decide) ?_
  refine r_newaI (N' := 6) F h zw_32 (by decide) (by decide +kernel) (Nat.le_of_ble_eq_true rfl) ⟨Nat.le_of_ble_eq_true rfl, Nat.le_of_ble_eq_true rfl⟩ dX6_init_648 (fun q19 H h => ?_)
  have h : WD D A s.heap _ _ [[(hh, .inr (6, [.int 2, .int 7, .ref q1, .int 2, .ref q2, .int 0, .int 2, .ref q3, .int 0, .int 0, .ref q4, .int 0, .ref q5, .ref q6, .ref q7, .int 0, .int 0, .int 0, .ref q8, .ref q9, .ref q10, .ref q11, .int 0, .ref q12, .ref q13, .ref q14, .ref q15, .ref q16, .ref q17, .ref q18, .int 0, .int 0, .int 0, .int 0, .null, .int 0, .int 0, .int 0]))], [(q1, .inl (K 0, 70, .inl (ini VX6_0 70)))], [(q2, .inl (K 0, 24, .inl (ini VX6_1 24)))], [(q3, .inl (K 0, 12, .inl (fun _ => 0)))], [(q4, .inl (K 0, 720, .inl (fun _ => 0)))], [(q5, .inl (K 0, 180, .inl (fun _ => 0)))], [(q6, .inl (K 0, 676, .inl (fun _ => 0)))], [(q7, .inl (K 0, 676, .inl (fun _ => 0)))], [(q8, .inl (K 0, 13, .inl (fun _ => 0)))], [(q9, .inl (K 0, 13, .inl (fun _ => 0)))], [(q10, .inl (K 0, 400, .inl (fun _ => 0)))], [(q11, .inl (K 0, 5213, .inl (fun _ => 0)))], [(q12, .inl (K 0, 13, .inl (fun _ => 0)))], [(q13, .inl (K 0, 13, .inl (fun _ => 0)))], [(q14, .inl (K 0, 36, .inl (fun _ => 0)))], [(q15, .inl (K 0, 12, .inl (fun _ => 0)))], [(q16, .inl (K 0, 3, .inl (fun _ => 0)))], [(q17, .inl (K 0, 90, .inl (fun _ => 0)))], [(q18, .inl (K 0, 200, .inl (fun _ => 0)))], [(q19, .inl (K 0, 6, .inl (fun _ => 0)))]] := h
  refine r_putFG F h hini (i := 0) (k := 34) (v := .ref q19) inX6 tyX6_ok nmX6 rfl (by decide) zw_79 rfl rfl rfl rfl rfl rfl (Nat.le_of_ble_eq_true rfl) dX6_init_650 (fun H locs h => ?_)
  have h : WD D A s.heap _ _ [[(hh, .inr (6, [.int 2, .int 7, .ref q1, .int 2, .ref q2, .int 0, .int 2, .ref q3, .int 0, .int 0, .ref q4, .int 0, .ref q5, .ref q6, .ref q7, .int 0, .int 0, .int 0, .ref q8, .ref q9, .ref q10, .ref q11, .int 0, .ref q12, .ref q13, .ref q14, .ref q15, .ref q16, .ref q17, .ref q18, .int 0, .int 0, .int 0, .int 0, .ref q19, .int 0, .int 0, .int 0]))], [(q1, .inl (K 0, 70, .inl (ini VX6_0 70)))], [(q2, .inl (K 0, 24, .inl (ini VX6_1 24)))], [(q3, .inl (K 0, 12, .inl (fun _ => 0)))], [(q4, .inl (K 0, 720, .inl (fun _ => 0)))], [(q5, .inl (K 0, 180, .inl (fun _ => 0)))], [(q6, .inl (K 0, 676, .inl (fun _ => 0)))], [(q7, .inl (K 0, 676, .inl (fun _ => 0)))], [(q8, .inl (K 0, 13, .inl (fun _ => 0)))], [(q9, .inl (K 0, 13, .inl (fun _ => 0)))], [(q10, .inl (K 0, 400, .inl (fun _ => 0)))], [(q11, .inl (K 0, 5213, .inl (fun _ => 0)))], [(q12, .inl (K 0, 13, .inl (fun _ => 0)))], [(q13, .inl (K 0, 13, .inl (fun _ => 0)))], [(q14, .inl (K 0, 36, .inl (fun _ => 0)))], [(q15, .inl (K 0, 12, .inl (fun _ => 0)))], [(q16, .inl (K 0, 3, .inl (fun _ => 0)))], [(q17, .inl (K 0, 90, .inl (fun _ => 0)))], [(q18, .inl (K 0, 200, .inl (fun _ => 0)))], [(q19, .inl (K 0, 6, .inl (fun _ => 0)))]] := h
  exact r_retn (S1 := fun a => [wX6 K (ah hh a) m0]) (fun k => if k = 3 then q1 else if k = 5 then q2 else if k = 8 then q3 else if k = 11 then q4 else if k = 13 then q5 else if k = 14 then q6 else if k = 15 then q7 else if k = 19 then q8 else if k = 20 then q9 else if k = 21 then q10 else if k = 22 then q11 else if k = 24 then q12 else if k = 25 then q13 else if k = 26 then q14 else if k = 27 then q15 else if k = 28 then q16 else if k = 29 then q17 else if k = 30 then q18 else if k = 35 then q19 else 0) F h ⟨rfl, rfl⟩ dX6_init_653
