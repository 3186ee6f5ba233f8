theorem zw_136 : Cond.code yX5_write cX5_write 2 (some .int) ∈ TBL := tk_2 183 (by decide +kernel) (by decide +kernel)
theorem zw_137 : Cond.methodLink RL 13 yX5_write ∈ TBL := tk_2 180 (by decide +kernel) (by decide +kernel)
theorem zw_138 : Cond.instanceMethod yX5_write ∈ TBL := tk_2 181 (by decide +kernel) (by decide +kernel)
theorem zw_139 : Cond.selects RX5 yX5_write yX5_write ∈ TBL := tk_2 182 (by decide +kernel) (by decide +kernel)
theorem zw_140 : Cond.initialized RX5 ∈ TBL := tk_1 1 (by decide +kernel) (by decide +kernel)
theorem zw_141 : Cond.code yX6_write cX6_write 2 (some .int) ∈ TBL := tk_5 196 (by decide +kernel) (by decide +kernel)
theorem zw_142 : Cond.methodLink RL 17 yX6_write ∈ TBL := tk_5 193 (by decide +kernel) (by decide +kernel)
theorem zw_143 : Cond.instanceMethod yX6_write ∈ TBL := tk_5 194 (by decide +kernel) (by decide +kernel)
theorem zw_144 : Cond.selects RX6 yX6_write yX6_write ∈ TBL := tk_5 195 (by decide +kernel) (by decide +kernel)
theorem zw_145 : Cond.initialized RX6 ∈ TBL := tk_1 11 (by decide +kernel) (by decide +kernel)
theorem zw_146 : Cond.code yX5_wipe cX5_wipe 2 (some .int) ∈ TBL := tk_2 187 (by decide +kernel) (by decide +kernel)
theorem zw_147 : Cond.methodLink RL 18 yX5_wipe ∈ TBL := tk_2 184 (by decide +kernel) (by decide +kernel)
theorem zw_148 : Cond.instanceMethod yX5_wipe ∈ TBL := tk_2 185 (by decide +kernel) (by decide +kernel)
theorem zw_149 : Cond.selects RX5 yX5_wipe yX5_wipe ∈ TBL := tk_2 186 (by decide +kernel) (by decide +kernel)
theorem zw_150 : Cond.code yX6_wipe cX6_wipe 2 (some .int) ∈ TBL := tk_5 200 (by decide +kernel) (by decide +kernel)
theorem zw_151 : Cond.methodLink RL 22 yX6_wipe ∈ TBL := tk_5 197 (by decide +kernel) (by decide +kernel)
theorem zw_152 : Cond.instanceMethod yX6_wipe ∈ TBL := tk_5 198 (by decide +kernel) (by decide +kernel)
theorem zw_153 : Cond.selects RX6 yX6_wipe yX6_wipe ∈ TBL := tk_5 199 (by decide +kernel) (by decide +kernel)
theorem zw_154 : Cond.code yX5_fault cX5_fault 1 (some .int) ∈ TBL := tk_2 191 (by decide +kernel) (by decide +kernel)
theorem zw_155 : Cond.methodLink RL 23 yX5_fault ∈ TBL := tk_2 188 (by decide +kernel) (by decide +kernel)
theorem zw_156 : Cond.instanceMethod yX5_fault ∈ TBL := tk_2 189 (by decide +kernel) (by decide +kernel)
theorem zw_157 : Cond.selects RX5 yX5_fault yX5_fault ∈ TBL := tk_2 190 (by decide +kernel) (by decide +kernel)
theorem zw_158 : Cond.code yX6_fault cX6_fault 1 (some .int) ∈ TBL := tk_5 204 (by decide +kernel) (by decide +kernel)
theorem zw_159 : Cond.methodLink RL 26 yX6_fault ∈ TBL := tk_5 201 (by decide +kernel) (by decide +kernel)
theorem zw_160 : Cond.instanceMethod yX6_fault ∈ TBL := tk_5 202 (by decide +kernel) (by decide +kernel)
theorem zw_161 : Cond.selects RX6 yX6_fault yX6_fault ∈ TBL := tk_5 203 (by decide +kernel) (by decide +kernel)
theorem zw_162 : Cond.code yX5_lay cX5_lay 1 (some .int) ∈ TBL := tk_2 195 (by decide +kernel) (by decide +kernel)
theorem zw_163 : Cond.methodLink RL 27 yX5_lay ∈ TBL := tk_2 192 (by decide +kernel) (by decide +kernel)
theorem zw_164 : Cond.instanceMethod yX5_lay ∈ TBL := tk_2 193 (by decide +kernel) (by decide +kernel)
theorem zw_165 : Cond.selects RX5 yX5_lay yX5_lay ∈ TBL := tk_2 194 (by decide +kernel) (by decide +kernel)
theorem zw_166 : Cond.code yX6_lay cX6_lay 1 (some .int) ∈ TBL := tk_6 8 (by decide +kernel) (by decide +kernel)
theorem zw_167 : Cond.methodLink RL 30 yX6_lay ∈ TBL := tk_6 5 (by decide +kernel) (by decide +kernel)
theorem zw_168 : Cond.instanceMethod yX6_lay ∈ TBL := tk_6 6 (by decide +kernel) (by decide +kernel)
theorem zw_169 : Cond.selects RX6 yX6_lay yX6_lay ∈ TBL := tk_6 7 (by decide +kernel) (by decide +kernel)
theorem zw_170 : Cond.code yX5_rule cX5_rule 3 (some .int) ∈ TBL := tk_2 210 (by decide +kernel) (by decide +kernel)
theorem zw_171 : Cond.methodLink RL 31 yX5_rule ∈ TBL := tk_2 207 (by decide +kernel) (by decide +kernel)
theorem zw_172 : Cond.instanceMethod yX5_rule ∈ TBL := tk_2 208 (by decide +kernel) (by decide +kernel)
theorem zw_173 : Cond.selects RX5 yX5_rule yX5_rule ∈ TBL := tk_2 209 (by decide +kernel) (by decide +kernel)
theorem zw_174 : Cond.code yX6_rule cX6_rule 3 (some .int) ∈ TBL := tk_4 200 (by decide +kernel) (by decide +kernel)
theorem zw_175 : Cond.methodLink RL 35 yX6_rule ∈ TBL := tk_4 197 (by decide +kernel) (by decide +kernel)
theorem zw_176 : Cond.instanceMethod yX6_rule ∈ TBL := tk_4 198 (by decide +kernel) (by decide +kernel)
theorem zw_177 : Cond.selects RX6 yX6_rule yX6_rule ∈ TBL := tk_4 199 (by decide +kernel) (by decide +kernel)
theorem zw_178 : Cond.code yX5_target cX5_target 3 (some .int) ∈ TBL := tk_2 227 (by decide +kernel) (by decide +kernel)
theorem zw_179 : Cond.methodLink RL 36 yX5_target ∈ TBL := tk_2 224 (by decide +kernel) (by decide +kernel)
theorem zw_180 : Cond.instanceMethod yX5_target ∈ TBL := tk_2 225 (by decide +kernel) (by decide +kernel)
theorem zw_181 : Cond.selects RX5 yX5_target yX5_target ∈ TBL := tk_2 226 (by decide +kernel) (by decide +kernel)
theorem zw_182 : Cond.code yX6_target cX6_target 3 (some .int) ∈ TBL := tk_4 211 (by decide +kernel) (by decide +kernel)
theorem zw_183 : Cond.methodLink RL 39 yX6_target ∈ TBL := tk_4 208 (by decide +kernel) (by decide +kernel)
theorem zw_184 : Cond.instanceMethod yX6_target ∈ TBL := tk_4 209 (by decide +kernel) (by decide +kernel)
theorem zw_185 : Cond.selects RX6 yX6_target yX6_target ∈ TBL := tk_4 210 (by decide +kernel) (by decide +kernel)
theorem zw_186 : Cond.code yX5_stack cX5_stack 2 (some .int) ∈ TBL := tk_2 231 (by decide +kernel) (by decide +kernel)
theorem zw_187 : Cond.methodLink RL 40 yX5_stack ∈ TBL := tk_2 228 (by decide +kernel) (by decide +kernel)
theorem zw_188 : Cond.instanceMethod yX5_stack ∈ TBL := tk_2 229 (by decide +kernel) (by decide +kernel)
theorem zw_189 : Cond.selects RX5 yX5_stack yX5_stack ∈ TBL := tk_2 230 (by decide +kernel) (by decide +kernel)
theorem zw_190 : Cond.code yX6_stack cX6_stack 2 (some .int) ∈ TBL := tk_4 215 (by decide +kernel) (by decide +kernel)
theorem zw_191 : Cond.methodLink RL 43 yX6_stack ∈ TBL := tk_4 212 (by decide +kernel) (by decide +kernel)
theorem zw_192 : Cond.instanceMethod yX6_stack ∈ TBL := tk_4 213 (by decide +kernel) (by decide +kernel)
theorem zw_193 : Cond.selects RX6 yX6_stack yX6_stack ∈ TBL := tk_4 214 (by decide +kernel) (by decide +kernel)
theorem zw_194 : Cond.code yX5_push cX5_push 2 (some .int) ∈ TBL := tk_2 235 (by decide +kernel) (by decide +kernel)
theorem zw_195 : Cond.methodLink RL 44 yX5_push ∈ TBL := tk_2 232 (by decide +kernel) (by decide +kernel)
theorem zw_196 : Cond.instanceMethod yX5_push ∈ TBL := tk_2 233 (by decide +kernel) (by decide +kernel)
theorem zw_197 : Cond.selects RX5 yX5_push yX5_push ∈ TBL := tk_2 234 (by decide +kernel) (by decide +kernel)
theorem zw_198 : Cond.code yX6_push cX6_push 2 (some .int) ∈ TBL := tk_4 219 (by decide +kernel) (by decide +kernel)
theorem zw_199 : Cond.methodLink RL 47 yX6_push ∈ TBL := tk_4 216 (by decide +kernel) (by decide +kernel)
theorem zw_200 : Cond.instanceMethod yX6_push ∈ TBL := tk_4 217 (by decide +kernel) (by decide +kernel)
theorem zw_201 : Cond.selects RX6 yX6_push yX6_push ∈ TBL := tk_4 218 (by decide +kernel) (by decide +kernel)
section LAW2
variable {p : Program} {l : Launch} {e : Env} {s : State} {mi : MethodId} {b : Nat} {below : List Frame} {meth : Method} {c : Code} {Q : State → Prop} {D : va_G} {K : Nat → ClassId} {L : Nat} {xs : Nat → Int32} {aa : Nat → Nat → Nat} {am : Nat → Nat} {cells slots : Nat}
set_option maxRecDepth 100000 in
set_option maxHeartbeats 4000000 in
theorem lc_write (F : FX p s mi #[Value.ref b] meth c code RL 4 ret D K) (hX : va_X b L xs s s.heap) (hbl : b < s.heap.size) (hL : L ≤ 3072) {i : Nat} (hi : i + 6 ≤ L) (hcs : cells ≤ room_1.cells ∧ slots ≤ room_1.slots) (NX : NXT p l e s mi b below meth c Q D K aa am i cells slots)
    {x sc now draft : ob} {past saved : Nat → ob} {net paces trial route reach m : ob} {g : nb} {H : Heap} {locs : List Loc} {ls : Array Slot} (HG : RG rok x sc now draft past saved net paces route m g) (h : WD D (fun q => s.heap.size ≤ q) s.heap H locs (SL K aa am x sc now draft past saved net paces trial route reach m)) (hl : lv_has ls 4 [(0, .ref b), (1, .ref (aa 0 0)), (2, .ref (am 0)), (3, .int (nI i))]) :
    W p l e room_1 s mi #[Value.ref b] below meth c H locs cells slots Q (F0 mi 164 ls []) := by
  have hx := F.1
  have hb := F.2.1
  have hbA : ¬ (fun q => s.heap.size ≤ q) b := Nat.not_le.mpr hbl
  obtain ⟨ans, sc', m', e5, e6, H'⟩ := eq_write HG (xs (nI i + 1).toNatClampNeg)
  have h : WD D (fun q => s.heap.size ≤ q) s.heap H locs [wX5 K aa x, wX3 K (aa 1) sc, wX4 K (aa 2) now, wX4 K (aa 3) draft, wF K 8 (fun i => aa (9 + i)) past, wF K 2 (fun i => aa (17 + i)) saved, wX0 K (aa 4) net, wX0 K (aa 5) paces, wX0 K (aa 6) trial, wX2 K (aa 7) route, wX1 K (aa 8) reach, wX6 K am m] := h
  refine lv_aload_n hx hb dL_law_164 rfl (lv_at hl 1 rfl) ?_
  refine lv_aload_n hx hb dL_law_165 rfl (lv_at hl 0 rfl) ?_
  refine lv_iload_n hx hb dL_law_166 rfl (lv_at hl 3 rfl) ?_
  refine lv_iconst (v := 1) hx hb dL_law_167 (by decide) ?_
  refine lv_iadd hx hb dL_law_168 ?_
  refine va_sld hx hb hX hbl hbA h.2.2.1 (vpi 1 hi hL (by decide)) dL_law_169 ?_
  refine r_callVi (As := [.int (xs (nI i + 1).toNatClampNeg)]) (rest := []) (C0 := [wX5 K aa x, wX3 K (aa 1) sc]) (C1 := [wX5 K aa x, wX3 K (aa 1) sc']) (Rr := [wX4 K (aa 2) now, wX4 K (aa 3) draft, wF K 8 (fun i => aa (9 + i)) past, wF K 2 (fun i => aa (17 + i)) saved, wX0 K (aa 4) net, wX0 K (aa 5) paces, wX0 K (aa 6) trial, wX2 K (aa 7) route, wX1 K (aa 8) reach, wX6 K am m]) (S' := [wX5 K aa x, wX3 K (aa 1) sc', wX4 K (aa 2) now, wX4 K (aa 3) draft, wF K 8 (fun i => aa (9 + i)) past, wF K 2 (fun i => aa (17 + i)) saved, wX0 K (aa 4) net, wX0 K (aa 5) paces, wX0 K (aa 6) trial, wX2 K (aa 7) route, wX1 K (aa 8) reach, wX6 K am m]) F h hl (c5_write l D K aa (xs (nI i + 1).toNatClampNeg) x sc (ans, sc') e5) [0, 1, 2, 3, 4, 5, 6, 7, 8, 9, 10, 11] pk_0_1p (pk_0_1 _ _ _ _ _ _ _ _ _ _ _ _) (pk_0_1 _ _ _ _ _ _ _ _ _ _ _ _) rfl rfl (i := 0) rfl rfl zw_136 ⟨zw_137, zw_138, zw_139, zw_140⟩ hsl5_write ⟨Nat.le_of_ble_eq_true rfl, Nat.le_of_ble_eq_true rfl⟩ hcs (Nat.le_of_ble_eq_true rfl) dL_law_170 (fun H locs h => ?_)
  refine lv_aload_n hx hb dL_law_173 rfl (lv_at hl 2 rfl) ?_
  refine lv_aload_n hx hb dL_law_174 rfl (lv_at hl 0 rfl) ?_
  refine lv_iload_n hx hb dL_law_175 rfl (lv_at hl 3 rfl) ?_
  refine lv_iconst (v := 1) hx hb dL_law_176 (by decide) ?_
  refine lv_iadd hx hb dL_law_177 ?_
  refine va_sld hx hb hX hbl hbA h.2.2.1 (vpi 1 hi hL (by decide)) dL_law_178 ?_
  refine r_callVi (As := [.int (xs (nI i + 1).toNatClampNeg)]) (rest := [.int ans]) (C0 := [wX6 K am m]) (C1 := [wX6 K am m']) (Rr := [wX5 K aa x, wX3 K (aa 1) sc', wX4 K (aa 2) now, wX4 K (aa 3) draft, wF K 8 (fun i => aa (9 + i)) past, wF K 2 (fun i => aa (17 + i)) saved, wX0 K (aa 4) net, wX0 K (aa 5) paces, wX0 K (aa 6) trial, wX2 K (aa 7) route, wX1 K (aa 8) reach]) (S' := [wX5 K aa x, wX3 K (aa 1) sc', wX4 K (aa 2) now, wX4 K (aa 3) draft, wF K 8 (fun i => aa (9 + i)) past, wF K 2 (fun i => aa (17 + i)) saved, wX0 K (aa 4) net, wX0 K (aa 5) paces, wX0 K (aa 6) trial, wX2 K (aa 7) route, wX1 K (aa 8) reach, wX6 K am m']) F h hl (c6_write l D K am (xs (nI i + 1).toNatClampNeg) m (ans, m') e6) [11, 0, 1, 2, 3, 4, 5, 6, 7, 8, 9, 10] pk_11p (pk_11 _ _ _ _ _ _ _ _ _ _ _ _) (pk_11 _ _ _ _ _ _ _ _ _ _ _ _) rfl rfl (i := 11) rfl rfl zw_141 ⟨zw_142, zw_143, zw_144, zw_145⟩ hsl6_write ⟨Nat.le_of_ble_eq_true rfl, Nat.le_of_ble_eq_true rfl⟩ hcs (Nat.le_of_ble_eq_true rfl) dL_law_179 (fun H locs h => ?_)
  refine lv_icmp_eq (tgt := 851) hx hb dL_law_182 (by decide) (fun _ => ?_) (fun c1 => absurd rfl c1)
  exact NX _ _ _ _ _ _ _ _ _ _ _ _ _ _ _ ls H' h hl
set_option maxRecDepth 100000 in
set_option maxHeartbeats 4000000 in
theorem lc_wipe (F : FX p s mi #[Value.ref b] meth c code RL 4 ret D K) (hX : va_X b L xs s s.heap) (hbl : b < s.heap.size) (hL : L ≤ 3072) {i : Nat} (hi : i + 6 ≤ L) (hcs : cells ≤ room_1.cells ∧ slots ≤ room_1.slots) (NX : NXT p l e s mi b below meth c Q D K aa am i cells slots)
    {x sc now draft : ob} {past saved : Nat → ob} {net paces trial route reach m : ob} {g : nb} {H : Heap} {locs : List Loc} {ls : Array Slot} (HG : RG rok x sc now draft past saved net paces route m g) (h : WD D (fun q => s.heap.size ≤ q) s.heap H locs (SL K aa am x sc now draft past saved net paces trial route reach m)) (hl : lv_has ls 4 [(0, .ref b), (1, .ref (aa 0 0)), (2, .ref (am 0)), (3, .int (nI i))]) :
    W p l e room_1 s mi #[Value.ref b] below meth c H locs cells slots Q (F0 mi 187 ls []) := by
  have hx := F.1
  have hb := F.2.1
  have hbA : ¬ (fun q => s.heap.size ≤ q) b := Nat.not_le.mpr hbl
  obtain ⟨ans, sc', m', e5, e6, H'⟩ := eq_wipe HG
  have h : WD D (fun q => s.heap.size ≤ q) s.heap H locs [wX5 K aa x, wX3 K (aa 1) sc, wX4 K (aa 2) now, wX4 K (aa 3) draft, wF K 8 (fun i => aa (9 + i)) past, wF K 2 (fun i => aa (17 + i)) saved, wX0 K (aa 4) net, wX0 K (aa 5) paces, wX0 K (aa 6) trial, wX2 K (aa 7) route, wX1 K (aa 8) reach, wX6 K am m] := h
  refine lv_aload_n hx hb dL_law_187 rfl (lv_at hl 1 rfl) ?_
  refine r_callVi (As := []) (rest := []) (C0 := [wX5 K aa x, wX3 K (aa 1) sc]) (C1 := [wX5 K aa x, wX3 K (aa 1) sc']) (Rr := [wX4 K (aa 2) now, wX4 K (aa 3) draft, wF K 8 (fun i => aa (9 + i)) past, wF K 2 (fun i => aa (17 + i)) saved, wX0 K (aa 4) net, wX0 K (aa 5) paces, wX0 K (aa 6) trial, wX2 K (aa 7) route, wX1 K (aa 8) reach, wX6 K am m]) (S' := [wX5 K aa x, wX3 K (aa 1) sc', wX4 K (aa 2) now, wX4 K (aa 3) draft, wF K 8 (fun i => aa (9 + i)) past, wF K 2 (fun i => aa (17 + i)) saved, wX0 K (aa 4) net, wX0 K (aa 5) paces, wX0 K (aa 6) trial, wX2 K (aa 7) route, wX1 K (aa 8) reach, wX6 K am m]) F h hl (c5_wipe l D K aa x sc (ans, sc') e5) [0, 1, 2, 3, 4, 5, 6, 7, 8, 9, 10, 11] pk_0_1p (pk_0_1 _ _ _ _ _ _ _ _ _ _ _ _) (pk_0_1 _ _ _ _ _ _ _ _ _ _ _ _) rfl rfl (i := 0) rfl rfl zw_146 ⟨zw_147, zw_148, zw_149, zw_140⟩ hsl5_wipe ⟨Nat.le_of_ble_eq_true rfl, Nat.le_of_ble_eq_true rfl⟩ hcs (Nat.le_of_ble_eq_true rfl) dL_law_188 (fun H locs h => ?_)
  refine lv_aload_n hx hb dL_law_191 rfl (lv_at hl 2 rfl) ?_
  refine r_callVi (As := []) (rest := [.int ans]) (C0 := [wX6 K am m]) (C1 := [wX6 K am m']) (Rr := [wX5 K aa x, wX3 K (aa 1) sc', wX4 K (aa 2) now, wX4 K (aa 3) draft, wF K 8 (fun i => aa (9 + i)) past, wF K 2 (fun i => aa (17 + i)) saved, wX0 K (aa 4) net, wX0 K (aa 5) paces, wX0 K (aa 6) trial, wX2 K (aa 7) route, wX1 K (aa 8) reach]) (S' := [wX5 K aa x, wX3 K (aa 1) sc', wX4 K (aa 2) now, wX4 K (aa 3) draft, wF K 8 (fun i => aa (9 + i)) past, wF K 2 (fun i => aa (17 + i)) saved, wX0 K (aa 4) net, wX0 K (aa 5) paces, wX0 K (aa 6) trial, wX2 K (aa 7) route, wX1 K (aa 8) reach, wX6 K am m']) F h hl (c6_wipe l D K am m (ans, m') e6) [11, 0, 1, 2, 3, 4, 5, 6, 7, 8, 9, 10] pk_11p (pk_11 _ _ _ _ _ _ _ _ _ _ _ _) (pk_11 _ _ _ _ _ _ _ _ _ _ _ _) rfl rfl (i := 11) rfl rfl zw_150 ⟨zw_151, zw_152, zw_153, zw_145⟩ hsl6_wipe ⟨Nat.le_of_ble_eq_true rfl, Nat.le_of_ble_eq_true rfl⟩ hcs (Nat.le_of_ble_eq_true rfl) dL_law_192 (fun H locs h => ?_)
  refine lv_icmp_eq (tgt := 851) hx hb dL_law_195 (by decide) (fun _ => ?_) (fun c1 => absurd rfl c1)
  exact NX _ _ _ _ _ _ _ _ _ _ _ _ _ _ _ ls H' h hl
set_option maxRecDepth 100000 in
set_option maxHeartbeats 4000000 in
theorem lc_fault (F : FX p s mi #[Value.ref b] meth c code RL 4 ret D K) (hX : va_X b L xs s s.heap) (hbl : b < s.heap.size) (hL : L ≤ 3072) {i : Nat} (hi : i + 6 ≤ L) (hcs : cells ≤ room_1.cells ∧ slots ≤ room_1.slots) (NX : NXT p l e s mi b below meth c Q D K aa am i cells slots)
    {x sc now draft : ob} {past saved : Nat → ob} {net paces trial route reach m : ob} {g : nb} {H : Heap} {locs : List Loc} {ls : Array Slot} (HG : RG rok x sc now draft past saved net paces route m g) (h : WD D (fun q => s.heap.size ≤ q) s.heap H locs (SL K aa am x sc now draft past saved net paces trial route reach m)) (hl : lv_has ls 4 [(0, .ref b), (1, .ref (aa 0 0)), (2, .ref (am 0)), (3, .int (nI i))]) :
    W p l e room_1 s mi #[Value.ref b] below meth c H locs cells slots Q (F0 mi 200 ls []) := by
  have hx := F.1
  have hb := F.2.1
  have hbA : ¬ (fun q => s.heap.size ≤ q) b := Nat.not_le.mpr hbl
  obtain ⟨ans, sc', draft', m', e5, e6, H'⟩ := rq_fault HG
  have h : WD D (fun q => s.heap.size ≤ q) s.heap H locs [wX5 K aa x, wX3 K (aa 1) sc, wX4 K (aa 2) now, wX4 K (aa 3) draft, wF K 8 (fun i => aa (9 + i)) past, wF K 2 (fun i => aa (17 + i)) saved, wX0 K (aa 4) net, wX0 K (aa 5) paces, wX0 K (aa 6) trial, wX2 K (aa 7) route, wX1 K (aa 8) reach, wX6 K am m] := h
  refine lv_aload_n hx hb dL_law_200 rfl (lv_at hl 1 rfl) ?_
  refine r_callVi (As := []) (rest := []) (C0 := [wX5 K aa x, wX3 K (aa 1) sc, wX4 K (aa 3) draft]) (C1 := [wX5 K aa x, wX3 K (aa 1) sc', wX4 K (aa 3) draft']) (Rr := [wX4 K (aa 2) now, wF K 8 (fun i => aa (9 + i)) past, wF K 2 (fun i => aa (17 + i)) saved, wX0 K (aa 4) net, wX0 K (aa 5) paces, wX0 K (aa 6) trial, wX2 K (aa 7) route, wX1 K (aa 8) reach, wX6 K am m]) (S' := [wX5 K aa x, wX3 K (aa 1) sc', wX4 K (aa 2) now, wX4 K (aa 3) draft', wF K 8 (fun i => aa (9 + i)) past, wF K 2 (fun i => aa (17 + i)) saved, wX0 K (aa 4) net, wX0 K (aa 5) paces, wX0 K (aa 6) trial, wX2 K (aa 7) route, wX1 K (aa 8) reach, wX6 K am m]) F h hl (c5_fault l D K aa x sc draft (ans, sc', draft') e5) [0, 1, 3, 2, 4, 5, 6, 7, 8, 9, 10, 11] pk_0_1_3p (pk_0_1_3 _ _ _ _ _ _ _ _ _ _ _ _) (pk_0_1_3 _ _ _ _ _ _ _ _ _ _ _ _) rfl rfl (i := 0) rfl rfl zw_154 ⟨zw_155, zw_156, zw_157, zw_140⟩ hsl5_fault ⟨Nat.le_of_ble_eq_true rfl, Nat.le_of_ble_eq_true rfl⟩ hcs (Nat.le_of_ble_eq_true rfl) dL_law_201 (fun H locs h => ?_)
  refine lv_aload_n hx hb dL_law_204 rfl (lv_at hl 2 rfl) ?_
  refine r_callVi (As := []) (rest := [.int ans]) (C0 := [wX6 K am m]) (C1 := [wX6 K am m']) (Rr := [wX5 K aa x, wX3 K (aa 1) sc', wX4 K (aa 2) now, wX4 K (aa 3) draft', wF K 8 (fun i => aa (9 + i)) past, wF K 2 (fun i => aa (17 + i)) saved, wX0 K (aa 4) net, wX0 K (aa 5) paces, wX0 K (aa 6) trial, wX2 K (aa 7) route, wX1 K (aa 8) reach]) (S' := [wX5 K aa x, wX3 K (aa 1) sc', wX4 K (aa 2) now, wX4 K (aa 3) draft', wF K 8 (fun i => aa (9 + i)) past, wF K 2 (fun i => aa (17 + i)) saved, wX0 K (aa 4) net, wX0 K (aa 5) paces, wX0 K (aa 6) trial, wX2 K (aa 7) route, wX1 K (aa 8) reach, wX6 K am m']) F h hl (c6_fault l D K am m (ans, m') e6) [11, 0, 1, 2, 3, 4, 5, 6, 7, 8, 9, 10] pk_11p (pk_11 _ _ _ _ _ _ _ _ _ _ _ _) (pk_11 _ _ _ _ _ _ _ _ _ _ _ _) rfl rfl (i := 11) rfl rfl zw_158 ⟨zw_159, zw_160, zw_161, zw_145⟩ hsl6_fault ⟨Nat.le_of_ble_eq_true rfl, Nat.le_of_ble_eq_true rfl⟩ hcs (Nat.le_of_ble_eq_true rfl) dL_law_205 (fun H locs h => ?_)
  refine lv_icmp_eq (tgt := 851) hx hb dL_law_208 (by decide) (fun _ => ?_) (fun c1 => absurd rfl c1)
  exact NX _ _ _ _ _ _ _ _ _ _ _ _ _ _ _ ls H' h hl
set_option maxRecDepth 100000 in
set_option maxHeartbeats 4000000 in
theorem lc_lay (F : FX p s mi #[Value.ref b] meth c code RL 4 ret D K) (hX : va_X b L xs s s.heap) (hbl : b < s.heap.size) (hL : L ≤ 3072) {i : Nat} (hi : i + 6 ≤ L) (hcs : cells ≤ room_1.cells ∧ slots ≤ room_1.slots) (NX : NXT p l e s mi b below meth c Q D K aa am i cells slots)
    {x sc now draft : ob} {past saved : Nat → ob} {net paces trial route reach m : ob} {g : nb} {H : Heap} {locs : List Loc} {ls : Array Slot} (HG : RG rok x sc now draft past saved net paces route m g) (h : WD D (fun q => s.heap.size ≤ q) s.heap H locs (SL K aa am x sc now draft past saved net paces trial route reach m)) (hl : lv_has ls 4 [(0, .ref b), (1, .ref (aa 0 0)), (2, .ref (am 0)), (3, .int (nI i))]) :
    W p l e room_1 s mi #[Value.ref b] below meth c H locs cells slots Q (F0 mi 213 ls []) := by
  have hx := F.1
  have hb := F.2.1
  have hbA : ¬ (fun q => s.heap.size ≤ q) b := Nat.not_le.mpr hbl
  obtain ⟨ans, x', sc', now', draft', m', g', e5, e6, H'⟩ := rq_lay HG
  have h : WD D (fun q => s.heap.size ≤ q) s.heap H locs [wX5 K aa x, wX3 K (aa 1) sc, wX4 K (aa 2) now, wX4 K (aa 3) draft, wF K 8 (fun i => aa (9 + i)) past, wF K 2 (fun i => aa (17 + i)) saved, wX0 K (aa 4) net, wX0 K (aa 5) paces, wX0 K (aa 6) trial, wX2 K (aa 7) route, wX1 K (aa 8) reach, wX6 K am m] := h
  refine lv_aload_n hx hb dL_law_213 rfl (lv_at hl 1 rfl) ?_
  refine r_callVi (As := []) (rest := []) (C0 := [wX5 K aa x, wX3 K (aa 1) sc, wX4 K (aa 2) now, wX4 K (aa 3) draft]) (C1 := [wX5 K aa x', wX3 K (aa 1) sc', wX4 K (aa 2) now', wX4 K (aa 3) draft']) (Rr := [wF K 8 (fun i => aa (9 + i)) past, wF K 2 (fun i => aa (17 + i)) saved, wX0 K (aa 4) net, wX0 K (aa 5) paces, wX0 K (aa 6) trial, wX2 K (aa 7) route, wX1 K (aa 8) reach, wX6 K am m]) (S' := [wX5 K aa x', wX3 K (aa 1) sc', wX4 K (aa 2) now', wX4 K (aa 3) draft', wF K 8 (fun i => aa (9 + i)) past, wF K 2 (fun i => aa (17 + i)) saved, wX0 K (aa 4) net, wX0 K (aa 5) paces, wX0 K (aa 6) trial, wX2 K (aa 7) route, wX1 K (aa 8) reach, wX6 K am m]) F h hl (c5_lay l D K aa x sc now draft (ans, x', sc', now', draft') e5) [0, 1, 2, 3, 4, 5, 6, 7, 8, 9, 10, 11] pk_0_1_2_3p (pk_0_1_2_3 _ _ _ _ _ _ _ _ _ _ _ _) (pk_0_1_2_3 _ _ _ _ _ _ _ _ _ _ _ _) rfl rfl (i := 0) rfl rfl zw_162 ⟨zw_163, zw_164, zw_165, zw_140⟩ hsl5_lay ⟨Nat.le_of_ble_eq_true rfl, Nat.le_of_ble_eq_true rfl⟩ hcs (Nat.le_of_ble_eq_true rfl) dL_law_214 (fun H locs h => ?_)
  refine lv_aload_n hx hb dL_law_217 rfl (lv_at hl 2 rfl) ?_
  refine r_callVi (As := []) (rest := [.int ans]) (C0 := [wX6 K am m]) (C1 := [wX6 K am m']) (Rr := [wX5 K aa x', wX3 K (aa 1) sc', wX4 K (aa 2) now', wX4 K (aa 3) draft', wF K 8 (fun i => aa (9 + i)) past, wF K 2 (fun i => aa (17 + i)) saved, wX0 K (aa 4) net, wX0 K (aa 5) paces, wX0 K (aa 6) trial, wX2 K (aa 7) route, wX1 K (aa 8) reach]) (S' := [wX5 K aa x', wX3 K (aa 1) sc', wX4 K (aa 2) now', wX4 K (aa 3) draft', wF K 8 (fun i => aa (9 + i)) past, wF K 2 (fun i => aa (17 + i)) saved, wX0 K (aa 4) net, wX0 K (aa 5) paces, wX0 K (aa 6) trial, wX2 K (aa 7) route, wX1 K (aa 8) reach, wX6 K am m']) F h hl (c6_lay l D K am m (ans, m') e6) [11, 0, 1, 2, 3, 4, 5, 6, 7, 8, 9, 10] pk_11p (pk_11 _ _ _ _ _ _ _ _ _ _ _ _) (pk_11 _ _ _ _ _ _ _ _ _ _ _ _) rfl rfl (i := 11) rfl rfl zw_166 ⟨zw_167, zw_168, zw_169, zw_145⟩ hsl6_lay ⟨Nat.le_of_ble_eq_true rfl, Nat.le_of_ble_eq_true rfl⟩ hcs (Nat.le_of_ble_eq_true rfl) dL_law_218 (fun H locs h => ?_)
  refine lv_icmp_eq (tgt := 851) hx hb dL_law_221 (by decide) (fun _ => ?_) (fun c1 => absurd rfl c1)
  exact NX _ _ _ _ _ _ _ _ _ _ _ _ _ _ _ ls H' h hl
set_option maxRecDepth 100000 in
set_option maxHeartbeats 4000000 in
theorem lc_rule (F : FX p s mi #[Value.ref b] meth c code RL 4 ret D K) (hX : va_X b L xs s s.heap) (hbl : b < s.heap.size) (hL : L ≤ 3072) {i : Nat} (hi : i + 6 ≤ L) (hcs : cells ≤ room_1.cells ∧ slots ≤ room_1.slots) (NX : NXT p l e s mi b below meth c Q D K aa am i cells slots)
    {x sc now draft : ob} {past saved : Nat → ob} {net paces trial route reach m : ob} {g : nb} {H : Heap} {locs : List Loc} {ls : Array Slot} (HG : RG rok x sc now draft past saved net paces route m g) (h : WD D (fun q => s.heap.size ≤ q) s.heap H locs (SL K aa am x sc now draft past saved net paces trial route reach m)) (hl : lv_has ls 4 [(0, .ref b), (1, .ref (aa 0 0)), (2, .ref (am 0)), (3, .int (nI i))]) :
    W p l e room_1 s mi #[Value.ref b] below meth c H locs cells slots Q (F0 mi 226 ls []) := by
  have hx := F.1
  have hb := F.2.1
  have hbA : ¬ (fun q => s.heap.size ≤ q) b := Nat.not_le.mpr hbl
  obtain ⟨ans, e5, e6⟩ := eq_rule HG (xs (nI i + 1).toNatClampNeg) (xs (nI i + 2).toNatClampNeg)
  have H' := HG
  have h : WD D (fun q => s.heap.size ≤ q) s.heap H locs [wX5 K aa x, wX3 K (aa 1) sc, wX4 K (aa 2) now, wX4 K (aa 3) draft, wF K 8 (fun i => aa (9 + i)) past, wF K 2 (fun i => aa (17 + i)) saved, wX0 K (aa 4) net, wX0 K (aa 5) paces, wX0 K (aa 6) trial, wX2 K (aa 7) route, wX1 K (aa 8) reach, wX6 K am m] := h
  refine lv_aload_n hx hb dL_law_226 rfl (lv_at hl 1 rfl) ?_
  refine lv_aload_n hx hb dL_law_227 rfl (lv_at hl 0 rfl) ?_
  refine lv_iload_n hx hb dL_law_228 rfl (lv_at hl 3 rfl) ?_
  refine lv_iconst (v := 1) hx hb dL_law_229 (by decide) ?_
  refine lv_iadd hx hb dL_law_230 ?_
  refine va_sld hx hb hX hbl hbA h.2.2.1 (vpi 1 hi hL (by decide)) dL_law_231 ?_
  refine lv_aload_n hx hb dL_law_232 rfl (lv_at hl 0 rfl) ?_
  refine lv_iload_n hx hb dL_law_233 rfl (lv_at hl 3 rfl) ?_
  refine lv_iconst (v := 2) hx hb dL_law_234 (by decide) ?_
  refine lv_iadd hx hb dL_law_235 ?_
  refine va_sld hx hb hX hbl hbA h.2.2.1 (vpi 2 hi hL (by decide)) dL_law_236 ?_
  refine r_callVi (As := [.int (xs (nI i + 1).toNatClampNeg), .int (xs (nI i + 2).toNatClampNeg)]) (rest := []) (C0 := [wX5 K aa x, wX4 K (aa 2) now]) (C1 := [wX5 K aa x, wX4 K (aa 2) now]) (Rr := [wX3 K (aa 1) sc, wX4 K (aa 3) draft, wF K 8 (fun i => aa (9 + i)) past, wF K 2 (fun i => aa (17 + i)) saved, wX0 K (aa 4) net, wX0 K (aa 5) paces, wX0 K (aa 6) trial, wX2 K (aa 7) route, wX1 K (aa 8) reach, wX6 K am m]) (S' := [wX5 K aa x, wX3 K (aa 1) sc, wX4 K (aa 2) now, wX4 K (aa 3) draft, wF K 8 (fun i => aa (9 + i)) past, wF K 2 (fun i => aa (17 + i)) saved, wX0 K (aa 4) net, wX0 K (aa 5) paces, wX0 K (aa 6) trial, wX2 K (aa 7) route, wX1 K (aa 8) reach, wX6 K am m]) F h hl (c5_rule l D K aa (xs (nI i + 1).toNatClampNeg) (xs (nI i + 2).toNatClampNeg) x now ans e5) [0, 2, 1, 3, 4, 5, 6, 7, 8, 9, 10, 11] pk_0_2p (pk_0_2 _ _ _ _ _ _ _ _ _ _ _ _) (pk_0_2 _ _ _ _ _ _ _ _ _ _ _ _) rfl rfl (i := 0) rfl rfl zw_170 ⟨zw_171, zw_172, zw_173, zw_140⟩ hsl5_rule ⟨Nat.le_of_ble_eq_true rfl, Nat.le_of_ble_eq_true rfl⟩ hcs (Nat.le_of_ble_eq_true rfl) dL_law_237 (fun H locs h => ?_)
  refine lv_aload_n hx hb dL_law_240 rfl (lv_at hl 2 rfl) ?_
  refine lv_aload_n hx hb dL_law_241 rfl (lv_at hl 0 rfl) ?_
  refine lv_iload_n hx hb dL_law_242 rfl (lv_at hl 3 rfl) ?_
  refine lv_iconst (v := 1) hx hb dL_law_243 (by decide) ?_
  refine lv_iadd hx hb dL_law_244 ?_
  refine va_sld hx hb hX hbl hbA h.2.2.1 (vpi 1 hi hL (by decide)) dL_law_245 ?_
  refine lv_aload_n hx hb dL_law_246 rfl (lv_at hl 0 rfl) ?_
  refine lv_iload_n hx hb dL_law_247 rfl (lv_at hl 3 rfl) ?_
  refine lv_iconst (v := 2) hx hb dL_law_248 (by decide) ?_
  refine lv_iadd hx hb dL_law_249 ?_
  refine va_sld hx hb hX hbl hbA h.2.2.1 (vpi 2 hi hL (by decide)) dL_law_250 ?_
  refine r_callVi (As := [.int (xs (nI i + 1).toNatClampNeg), .int (xs (nI i + 2).toNatClampNeg)]) (rest := [.int ans]) (C0 := [wX6 K am m]) (C1 := [wX6 K am m]) (Rr := [wX5 K aa x, wX3 K (aa 1) sc, wX4 K (aa 2) now, wX4 K (aa 3) draft, wF K 8 (fun i => aa (9 + i)) past, wF K 2 (fun i => aa (17 + i)) saved, wX0 K (aa 4) net, wX0 K (aa 5) paces, wX0 K (aa 6) trial, wX2 K (aa 7) route, wX1 K (aa 8) reach]) (S' := [wX5 K aa x, wX3 K (aa 1) sc, wX4 K (aa 2) now, wX4 K (aa 3) draft, wF K 8 (fun i => aa (9 + i)) past, wF K 2 (fun i => aa (17 + i)) saved, wX0 K (aa 4) net, wX0 K (aa 5) paces, wX0 K (aa 6) trial, wX2 K (aa 7) route, wX1 K (aa 8) reach, wX6 K am m]) F h hl (c6_rule l D K am (xs (nI i + 1).toNatClampNeg) (xs (nI i + 2).toNatClampNeg) m ans e6) [11, 0, 1, 2, 3, 4, 5, 6, 7, 8, 9, 10] pk_11p (pk_11 _ _ _ _ _ _ _ _ _ _ _ _) (pk_11 _ _ _ _ _ _ _ _ _ _ _ _) rfl rfl (i := 11) rfl rfl zw_174 ⟨zw_175, zw_176, zw_177, zw_145⟩ hsl6_rule ⟨Nat.le_of_ble_eq_true rfl, Nat.le_of_ble_eq_true rfl⟩ hcs (Nat.le_of_ble_eq_true rfl) dL_law_251 (fun H locs h => ?_)
  refine lv_icmp_eq (tgt := 851) hx hb dL_law_254 (by decide) (fun _ => ?_) (fun c1 => absurd rfl c1)
  exact NX _ _ _ _ _ _ _ _ _ _ _ _ _ _ _ ls H' h hl
set_option maxRecDepth 100000 in
set_option maxHeartbeats 4000000 in
theorem lc_target (F : FX p s mi #[Value.ref b] meth c code RL 4 ret D K) (hX : va_X b L xs s s.heap) (hbl : b < s.heap.size) (hL : L ≤ 3072) {i : Nat} (hi : i + 6 ≤ L) (hcs : cells ≤ room_1.cells ∧ slots ≤ room_1.slots) (NX : NXT p l e s mi b below meth c Q D K aa am i cells slots)
    {x sc now draft : ob} {past saved : Nat → ob} {net paces trial route reach m : ob} {g : nb} {H : Heap} {locs : List Loc} {ls : Array Slot} (HG : RG rok x sc now draft past saved net paces route m g) (h : WD D (fun q => s.heap.size ≤ q) s.heap H locs (SL K aa am x sc now draft past saved net paces trial route reach m)) (hl : lv_has ls 4 [(0, .ref b), (1, .ref (aa 0 0)), (2, .ref (am 0)), (3, .int (nI i))]) :
    W p l e room_1 s mi #[Value.ref b] below meth c H locs cells slots Q (F0 mi 259 ls []) := by
  have hx := F.1
  have hb := F.2.1
  have hbA : ¬ (fun q => s.heap.size ≤ q) b := Nat.not_le.mpr hbl
  obtain ⟨ans, e5, e6⟩ := eq_target HG (xs (nI i + 1).toNatClampNeg) (xs (nI i + 2).toNatClampNeg)
  have H' := HG
  have h : WD D (fun q => s.heap.size ≤ q) s.heap H locs [wX5 K aa x, wX3 K (aa 1) sc, wX4 K (aa 2) now, wX4 K (aa 3) draft, wF K 8 (fun i => aa (9 + i)) past, wF K 2 (fun i => aa (17 + i)) saved, wX0 K (aa 4) net, wX0 K (aa 5) paces, wX0 K (aa 6) trial, wX2 K (aa 7) route, wX1 K (aa 8) reach, wX6 K am m] := h
  refine lv_aload_n hx hb dL_law_259 rfl (lv_at hl 1 rfl) ?_
  refine lv_aload_n hx hb dL_law_260 rfl (lv_at hl 0 rfl) ?_
  refine lv_iload_n hx hb dL_law_261 rfl (lv_at hl 3 rfl) ?_
  refine lv_iconst (v := 1) hx hb dL_law_262 (by decide) ?_
  refine lv_iadd hx hb dL_law_263 ?_
  refine va_sld hx hb hX hbl hbA h.2.2.1 (vpi 1 hi hL (by decide)) dL_law_264 ?_
  refine lv_aload_n hx hb dL_law_265 rfl (lv_at hl 0 rfl) ?_
  refine lv_iload_n hx hb dL_law_266 rfl (lv_at hl 3 rfl) ?_
  refine lv_iconst (v := 2) hx hb dL_law_267 (by decide) ?_
  refine lv_iadd hx hb dL_law_268 ?_
  refine va_sld hx hb hX hbl hbA h.2.2.1 (vpi 2 hi hL (by decide)) dL_law_269 ?_
  refine r_callVi (As := [.int (xs (nI i + 1).toNatClampNeg), .int (xs (nI i + 2).toNatClampNeg)]) (rest := []) (C0 := [wX5 K aa x, wX4 K (aa 2) now]) (C1 := [wX5 K aa x, wX4 K (aa 2) now]) (Rr := [wX3 K (aa 1) sc, wX4 K (aa 3) draft, wF K 8 (fun i => aa (9 + i)) past, wF K 2 (fun i => aa (17 + i)) saved, wX0 K (aa 4) net, wX0 K (aa 5) paces, wX0 K (aa 6) trial, wX2 K (aa 7) route, wX1 K (aa 8) reach, wX6 K am m]) (S' := [wX5 K aa x, wX3 K (aa 1) sc, wX4 K (aa 2) now, wX4 K (aa 3) draft, wF K 8 (fun i => aa (9 + i)) past, wF K 2 (fun i => aa (17 + i)) saved, wX0 K (aa 4) net, wX0 K (aa 5) paces, wX0 K (aa 6) trial, wX2 K (aa 7) route, wX1 K (aa 8) reach, wX6 K am m]) F h hl (c5_target l D K aa (xs (nI i + 1).toNatClampNeg) (xs (nI i + 2).toNatClampNeg) x now ans e5) [0, 2, 1, 3, 4, 5, 6, 7, 8, 9, 10, 11] pk_0_2p (pk_0_2 _ _ _ _ _ _ _ _ _ _ _ _) (pk_0_2 _ _ _ _ _ _ _ _ _ _ _ _) rfl rfl (i := 0) rfl rfl zw_178 ⟨zw_179, zw_180, zw_181, zw_140⟩ hsl5_target ⟨Nat.le_of_ble_eq_true rfl, Nat.le_of_ble_eq_true rfl⟩ hcs (Nat.le_of_ble_eq_true rfl) dL_law_270 (fun H locs h => ?_)
  refine lv_aload_n hx hb dL_law_273 rfl (lv_at hl 2 rfl) ?_
  refine lv_aload_n hx hb dL_law_274 rfl (lv_at hl 0 rfl) ?_
  refine lv_iload_n hx hb dL_law_275 rfl (lv_at hl 3 rfl) ?_
  refine lv_iconst (v := 1) hx hb dL_law_276 (by decide) ?_
  refine lv_iadd hx hb dL_law_277 ?_
  refine va_sld hx hb hX hbl hbA h.2.2.1 (vpi 1 hi hL (by decide)) dL_law_278 ?_
  refine lv_aload_n hx hb dL_law_279 rfl (lv_at hl 0 rfl) ?_
  refine lv_iload_n hx hb dL_law_280 rfl (lv_at hl 3 rfl) ?_
  refine lv_iconst (v := 2) hx hb dL_law_281 (by decide) ?_
  refine lv_iadd hx hb dL_law_282 ?_
  refine va_sld hx hb hX hbl hbA h.2.2.1 (vpi 2 hi hL (by decide)) dL_law_283 ?_
  refine r_callVi (As := [.int (xs (nI i + 1).toNatClampNeg), .int (xs (nI i + 2).toNatClampNeg)]) (rest := [.int ans]) (C0 := [wX6 K am m]) (C1 := [wX6 K am m]) (Rr := [wX5 K aa x, wX3 K (aa 1) sc, wX4 K (aa 2) now, wX4 K (aa 3) draft, wF K 8 (fun i => aa (9 + i)) past, wF K 2 (fun i => aa (17 + i)) saved, wX0 K (aa 4) net, wX0 K (aa 5) paces, wX0 K (aa 6) trial, wX2 K (aa 7) route, wX1 K (aa 8) reach]) (S' := [wX5 K aa x, wX3 K (aa 1) sc, wX4 K (aa 2) now, wX4 K (aa 3) draft, wF K 8 (fun i => aa (9 + i)) past, wF K 2 (fun i => aa (17 + i)) saved, wX0 K (aa 4) net, wX0 K (aa 5) paces, wX0 K (aa 6) trial, wX2 K (aa 7) route, wX1 K (aa 8) reach, wX6 K am m]) F h hl (c6_target l D K am (xs (nI i + 1).toNatClampNeg) (xs (nI i + 2).toNatClampNeg) m ans e6) [11, 0, 1, 2, 3, 4, 5, 6, 7, 8, 9, 10] pk_11p (pk_11 _ _ _ _ _ _ _ _ _ _ _ _) (pk_11 _ _ _ _ _ _ _ _ _ _ _ _) rfl rfl (i := 11) rfl rfl zw_182 ⟨zw_183, zw_184, zw_185, zw_145⟩ hsl6_target ⟨Nat.le_of_ble_eq_true rfl, Nat.le_of_ble_eq_true rfl⟩ hcs (Nat.le_of_ble_eq_true rfl) dL_law_284 (fun H locs h => ?_)
  refine lv_icmp_eq (tgt := 851) hx hb dL_law_287 (by decide) (fun _ => ?_) (fun c1 => absurd rfl c1)
  exact NX _ _ _ _ _ _ _ _ _ _ _ _ _ _ _ ls H' h hl
set_option maxRecDepth 100000 in
set_option maxHeartbeats 4000000 in
theorem lc_stack (F : FX p s mi #[Value.ref b] meth c code RL 4 ret D K) (hX : va_X b L xs s s.heap) (hbl : b < s.heap.size) (hL : L ≤ 3072) {i : Nat} (hi : i + 6 ≤ L) (hcs : cells ≤ room_1.cells ∧ slots ≤ room_1.slots) (NX : NXT p l e s mi b below meth c Q D K aa am i cells slots)
    {x sc now draft : ob} {past saved : Nat → ob} {net paces trial route reach m : ob} {g : nb} {H : Heap} {locs : List Loc} {ls : Array Slot} (HG : RG rok x sc now draft past saved net paces route m g) (h : WD D (fun q => s.heap.size ≤ q) s.heap H locs (SL K aa am x sc now draft past saved net paces trial route reach m)) (hl : lv_has ls 4 [(0, .ref b), (1, .ref (aa 0 0)), (2, .ref (am 0)), (3, .int (nI i))]) :
    W p l e room_1 s mi #[Value.ref b] below meth c H locs cells slots Q (F0 mi 292 ls []) := by
  have hx := F.1
  have hb := F.2.1
  have hbA : ¬ (fun q => s.heap.size ≤ q) b := Nat.not_le.mpr hbl
  obtain ⟨ans, e5, e6⟩ := eq_stack HG (xs (nI i + 1).toNatClampNeg)
  have H' := HG
  have h : WD D (fun q => s.heap.size ≤ q) s.heap H locs [wX5 K aa x, wX3 K (aa 1) sc, wX4 K (aa 2) now, wX4 K (aa 3) draft, wF K 8 (fun i => aa (9 + i)) past, wF K 2 (fun i => aa (17 + i)) saved, wX0 K (aa 4) net, wX0 K (aa 5) paces, wX0 K (aa 6) trial, wX2 K (aa 7) route, wX1 K (aa 8) reach, wX6 K am m] := h
  refine lv_aload_n hx hb dL_law_292 rfl (lv_at hl 1 rfl) ?_
  refine lv_aload_n hx hb dL_law_293 rfl (lv_at hl 0 rfl) ?_
  refine lv_iload_n hx hb dL_law_294 rfl (lv_at hl 3 rfl) ?_
  refine lv_iconst (v := 1) hx hb dL_law_295 (by decide) ?_
  refine lv_iadd hx hb dL_law_296 ?_
  refine va_sld hx hb hX hbl hbA h.2.2.1 (vpi 1 hi hL (by decide)) dL_law_297 ?_
  refine r_callVi (As := [.int (xs (nI i + 1).toNatClampNeg)]) (rest := []) (C0 := [wX5 K aa x, wX4 K (aa 2) now]) (C1 := [wX5 K aa x, wX4 K (aa 2) now]) (Rr := [wX3 K (aa 1) sc, wX4 K (aa 3) draft, wF K 8 (fun i => aa (9 + i)) past, wF K 2 (fun i => aa (17 + i)) saved, wX0 K (aa 4) net, wX0 K (aa 5) paces, wX0 K (aa 6) trial, wX2 K (aa 7) route, wX1 K (aa 8) reach, wX6 K am m]) (S' := [wX5 K aa x, wX3 K (aa 1) sc, wX4 K (aa 2) now, wX4 K (aa 3) draft, wF K 8 (fun i => aa (9 + i)) past, wF K 2 (fun i => aa (17 + i)) saved, wX0 K (aa 4) net, wX0 K (aa 5) paces, wX0 K (aa 6) trial, wX2 K (aa 7) route, wX1 K (aa 8) reach, wX6 K am m]) F h hl (c5_stack l D K aa (xs (nI i + 1).toNatClampNeg) x now ans e5) [0, 2, 1, 3, 4, 5, 6, 7, 8, 9, 10, 11] pk_0_2p (pk_0_2 _ _ _ _ _ _ _ _ _ _ _ _) (pk_0_2 _ _ _ _ _ _ _ _ _ _ _ _) rfl rfl (i := 0) rfl rfl zw_186 ⟨zw_187, zw_188, zw_189, zw_140⟩ hsl5_stack ⟨Nat.le_of_ble_eq_true rfl, Nat.le_of_ble_eq_true rfl⟩ hcs (Nat.le_of_ble_eq_true rfl) dL_law_298 (fun H locs h => ?_)
  refine lv_aload_n hx hb dL_law_301 rfl (lv_at hl 2 rfl) ?_
  refine lv_aload_n hx hb dL_law_302 rfl (lv_at hl 0 rfl) ?_
  refine lv_iload_n hx hb dL_law_303 rfl (lv_at hl 3 rfl) ?_
  refine lv_iconst (v := 1) hx hb dL_law_304 (by decide) ?_
  refine lv_iadd hx hb dL_law_305 ?_
  refine va_sld hx hb hX hbl hbA h.2.2.1 (vpi 1 hi hL (by decide)) dL_law_306 ?_
  refine r_callVi (As := [.int (xs (nI i + 1).toNatClampNeg)]) (rest := [.int ans]) (C0 := [wX6 K am m]) (C1 := [wX6 K am m]) (Rr := [wX5 K aa x, wX3 K (aa 1) sc, wX4 K (aa 2) now, wX4 K (aa 3) draft, wF K 8 (fun i => aa (9 + i)) past, wF K 2 (fun i => aa (17 + i)) saved, wX0 K (aa 4) net, wX0 K (aa 5) paces, wX0 K (aa 6) trial, wX2 K (aa 7) route, wX1 K (aa 8) reach]) (S' := [wX5 K aa x, wX3 K (aa 1) sc, wX4 K (aa 2) now, wX4 K (aa 3) draft, wF K 8 (fun i => aa (9 + i)) past, wF K 2 (fun i => aa (17 + i)) saved, wX0 K (aa 4) net, wX0 K (aa 5) paces, wX0 K (aa 6) trial, wX2 K (aa 7) route, wX1 K (aa 8) reach, wX6 K am m]) F h hl (c6_stack l D K am (xs (nI i + 1).toNatClampNeg) m ans e6) [11, 0, 1, 2, 3, 4, 5, 6, 7, 8, 9, 10] pk_11p (pk_11 _ _ _ _ _ _ _ _ _ _ _ _) (pk_11 _ _ _ _ _ _ _ _ _ _ _ _) rfl rfl (i := 11) rfl rfl zw_190 ⟨zw_191, zw_192, zw_193, zw_145⟩ hsl6_stack ⟨Nat.le_of_ble_eq_true rfl, Nat.le_of_ble_eq_true rfl⟩ hcs (Nat.le_of_ble_eq_true rfl) dL_law_307 (fun H locs h => ?_)
  refine lv_icmp_eq (tgt := 851) hx hb dL_law_310 (by decide) (fun _ => ?_) (fun c1 => absurd rfl c1)
  exact NX _ _ _ _ _ _ _ _ _ _ _ _ _ _ _ ls H' h hl
set_option maxRecDepth 100000 in
set_option maxHeartbeats 4000000 in
theorem lc_push (F : FX p s mi #[Value.ref b] meth c code RL 4 ret D K) (hX : va_X b L xs s s.heap) (hbl : b < s.heap.size) (hL : L ≤ 3072) {i : Nat} (hi : i + 6 ≤ L) (hcs : cells ≤ room_1.cells ∧ slots ≤ room_1.slots) (NX : NXT p l e s mi b below meth c Q D K aa am i cells slots)
    {x sc now draft : ob} {past saved : Nat → ob} {net paces trial route reach m : ob} {g : nb} {H : Heap} {locs : List Loc} {ls : Array Slot} (HG : RG rok x sc now draft past saved net paces route m g) (h : WD D (fun q => s.heap.size ≤ q) s.heap H locs (SL K aa am x sc now draft past saved net paces trial route reach m)) (hl : lv_has ls 4 [(0, .ref b), (1, .ref (aa 0 0)), (2, .ref (am 0)), (3, .int (nI i))]) :
    W p l e room_1 s mi #[Value.ref b] below meth c H locs cells slots Q (F0 mi 315 ls []) := by
  have hx := F.1
  have hb := F.2.1
  have hbA : ¬ (fun q => s.heap.size ≤ q) b := Nat.not_le.mpr hbl
  obtain ⟨ans, x', now', past', m', g', e5, e6, H'⟩ := eq_push HG (xs (nI i + 1).toNatClampNeg)
  have h : WD D (fun q => s.heap.size ≤ q) s.heap H locs [wX5 K aa x, wX3 K (aa 1) sc, wX4 K (aa 2) now, wX4 K (aa 3) draft, wF K 8 (fun i => aa (9 + i)) past, wF K 2 (fun i => aa (17 + i)) saved, wX0 K (aa 4) net, wX0 K (aa 5) paces, wX0 K (aa 6) trial, wX2 K (aa 7) route, wX1 K (aa 8) reach, wX6 K am m] := h
  refine lv_aload_n hx hb dL_law_315 rfl (lv_at hl 1 rfl) ?_
  refine lv_aload_n hx hb dL_law_316 rfl (lv_at hl 0 rfl) ?_
  refine lv_iload_n hx hb dL_law_317 rfl (lv_at hl 3 rfl) ?_
  refine lv_iconst (v := 1) hx hb dL_law_318 (by decide) ?_
  refine lv_iadd hx hb dL_law_319 ?_
  refine va_sld hx hb hX hbl hbA h.2.2.1 (vpi 1 hi hL (by decide)) dL_law_320 ?_
  refine r_callVi (As := [.int (xs (nI i + 1).toNatClampNeg)]) (rest := []) (C0 := [wX5 K aa x, wX4 K (aa 2) now, wF K 8 (fun i => aa (9 + i)) past]) (C1 := [wX5 K aa x', wX4 K (aa 2) now', wF K 8 (fun i => aa (9 + i)) past']) (Rr := [wX3 K (aa 1) sc, wX4 K (aa 3) draft, wF K 2 (fun i => aa (17 + i)) saved, wX0 K (aa 4) net, wX0 K (aa 5) paces, wX0 K (aa 6) trial, wX2 K (aa 7) route, wX1 K (aa 8) reach, wX6 K am m]) (S' := [wX5 K aa x', wX3 K (aa 1) sc, wX4 K (aa 2) now', wX4 K (aa 3) draft, wF K 8 (fun i => aa (9 + i)) past', wF K 2 (fun i => aa (17 + i)) saved, wX0 K (aa 4) net, wX0 K (aa 5) paces, wX0 K (aa 6) trial, wX2 K (aa 7) route, wX1 K (aa 8) reach, wX6 K am m]) F h hl (c5_push l D K aa (xs (nI i + 1).toNatClampNeg) x now past (ans, x', now', past') e5) [0, 2, 4, 1, 3, 5, 6, 7, 8, 9, 10, 11] pk_0_2_4p (pk_0_2_4 _ _ _ _ _ _ _ _ _ _ _ _) (pk_0_2_4 _ _ _ _ _ _ _ _ _ _ _ _) rfl rfl (i := 0) rfl rfl zw_194 ⟨zw_195, zw_196, zw_197, zw_140⟩ hsl5_push ⟨Nat.le_of_ble_eq_true rfl, Nat.le_of_ble_eq_true rfl⟩ hcs (Nat.le_of_ble_eq_true rfl) dL_law_321 (fun H locs h => ?_)
  refine lv_aload_n hx hb dL_law_324 rfl (lv_at hl 2 rfl) ?_
  refine lv_aload_n hx hb dL_law_325 rfl (lv_at hl 0 rfl) ?_
  refine lv_iload_n hx hb dL_law_326 rfl (lv_at hl 3 rfl) ?_
  refine lv_iconst (v := 1) hx hb dL_law_327 (by decide) ?_
  refine lv_iadd hx hb dL_law_328 ?_
  refine va_sld hx hb hX hbl hbA h.2.2.1 (vpi 1 hi hL (by decide)) dL_law_329 ?_
  refine r_callVi (As := [.int (xs (nI i + 1).toNatClampNeg)]) (rest := [.int ans]) (C0 := [wX6 K am m]) (C1 := [wX6 K am m']) (Rr := [wX5 K aa x', wX3 K (aa 1) sc, wX4 K (aa 2) now', wX4 K (aa 3) draft, wF K 8 (fun i => aa (9 + i)) past', wF K 2 (fun i => aa (17 + i)) saved, wX0 K (aa 4) net, wX0 K (aa 5) paces, wX0 K (aa 6) trial, wX2 K (aa 7) route, wX1 K (aa 8) reach]) (S' := [wX5 K aa x', wX3 K (aa 1) sc, wX4 K (aa 2) now', wX4 K (aa 3) draft, wF K 8 (fun i => aa (9 + i)) past', wF K 2 (fun i => aa (17 + i)) saved, wX0 K (aa 4) net, wX0 K (aa 5) paces, wX0 K (aa 6) trial, wX2 K (aa 7) route, wX1 K (aa 8) reach, wX6 K am m']) F h hl (c6_push l D K am (xs (nI i + 1).toNatClampNeg) m (ans, m') e6) [11, 0, 1, 2, 3, 4, 5, 6, 7, 8, 9, 10] pk_11p (pk_11 _ _ _ _ _ _ _ _ _ _ _ _) (pk_11 _ _ _ _ _ _ _ _ _ _ _ _) rfl rfl (i := 11) rfl rfl zw_198 ⟨zw_199, zw_200, zw_201, zw_145⟩ hsl6_push ⟨Nat.le_of_ble_eq_true rfl, Nat.le_of_ble_eq_true rfl⟩ hcs (Nat.le_of_ble_eq_true rfl) dL_law_330 (fun H locs h => ?_)
  refine lv_icmp_eq (tgt := 851) hx hb dL_law_333 (by decide) (fun _ => ?_) (fun c1 => absurd rfl c1)
  exact NX _ _ _ _ _ _ _ _ _ _ _ _ _ _ _ ls H' h hl
end LAW2
