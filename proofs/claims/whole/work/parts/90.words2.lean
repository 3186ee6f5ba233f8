/-! what the later parts of the machine need -/
section LDCW
variable {p : Program} {l : Launch} {e : Env} {R : Room} {s : State} {m : MethodId} {args : Array Value} {below : List Frame} {meth : Method} {c : Code} {H : Heap} {locs : List Loc} {cells slots : Nat} {Q : State → Prop}
variable {pc : Nat} {ls : Array Slot} {rest : List Value} {cc : ByteArray} {own : String} {nL : Nat} {ret : Option FieldType} {D : va_G} {K : Nat → ClassId}
theorem r_ldcw (F : FX p s m args meth c cc own nL ret D K) {index : Nat} (v : Int32) (hl : Cond.constant own index v ∈ TBL) (hdg : decode cc pc = .ok (.ldc_w index, 3)) (kk : W p l e R s m args below meth c H locs cells slots Q (F0 m (pc + 3) ls (.int v :: rest))) : W p l e R s m args below meth c H locs cells slots Q (F0 m pc ls rest) :=
  lv_ldcw F.1 F.2.1 F.2.2.2.1 (F.2.2.2.2.1 _ hl) hdg kk
end LDCW
theorem w664 : Cond.constant RJ6 265 (1431655765) ∈ TBL := tk_3 234 (by decide +kernel) (by decide +kernel)
theorem w665 : Cond.constant RJ6 266 (858993459) ∈ TBL := tk_3 235 (by decide +kernel) (by decide +kernel)
theorem w666 : Cond.constant RJ6 267 (252645135) ∈ TBL := tk_3 236 (by decide +kernel) (by decide +kernel)
theorem w667 : Cond.methodLink RX5 231 yJ6_bitCount_0f7a4 ∈ TBL := tk_3 231 (by decide +kernel) (by decide +kernel)
theorem w668 : Cond.static yJ6_bitCount_0f7a4 ∈ TBL := tk_3 232 (by decide +kernel) (by decide +kernel)
theorem w669 : Cond.initialized RJ6 ∈ TBL := tk_1 14 (by decide +kernel) (by decide +kernel)
theorem w670 : Cond.code yJ6_bitCount_0f7a4 cJ6_bitCount_0f7a4 1 (some .int) ∈ TBL := tk_3 233 (by decide +kernel) (by decide +kernel)
theorem w671 : Cond.methodLink RX5 239 yX4_rulesFor ∈ TBL := tk_3 237 (by decide +kernel) (by decide +kernel)
theorem hscj6_bitCount_0f7a4 : yJ6_bitCount_0f7a4.cls ≠ "java/lang/invoke/MethodHandle" ∧ yJ6_bitCount_0f7a4.cls ≠ "java/lang/invoke/VarHandle" ∧ (parseMethodDescriptor yJ6_bitCount_0f7a4.desc).map (fun d => d.parameters.length) = some 1 := by decide +kernel
