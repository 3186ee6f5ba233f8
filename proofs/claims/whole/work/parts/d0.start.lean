theorem zw_375 : Cond.classLink RL 7 RX5 ∈ TBL := tk_1 15 (by decide +kernel) (by decide +kernel)
theorem zw_376 : Cond.classLink RL 10 RX6 ∈ TBL := tk_4 56 (by decide +kernel) (by decide +kernel)
theorem zw_377 : Cond.code yX6_init cX6_init 1 none ∈ TBL := tk_4 60 rfl (by decide +kernel)
theorem zw_378 : Cond.methodLink RL 12 yX6_init ∈ TBL := tk_4 58 (by decide +kernel) (by decide +kernel)
theorem zw_379 : Cond.instanceMethod yX6_init ∈ TBL := tk_4 59 (by decide +kernel) (by decide +kernel)
/-- from the entry to the loop, and from the loop to the end -/
theorem start_walk {p : Program} {e : Env} {s : State} {m : MethodId} {below : List Frame} {meth : Method} {c : Code} {Q : State → Prop} (l : Launch) {b L : Nat} {xs : Nat → Int32} (hL : L ≤ 3072) (hx : p.tables.exec = Jvm.exec) (hb : c.code = code) (hr : meth.sig.returnType = ret) (hml : c.maxLocals = 4) (hown : s.vm.findClass RL = some m.cls) (hts : ∀ w ∈ lw_tbl, w.before #[Value.ref b] s = true) (hX : va_X b L xs s s.heap) (hbl : b < s.heap.size) (hlocks : meth.locks = false) (hgv : (Jvm.Cond.and given_1 narrow_1).before #[Value.ref b] s = true)
    (END : ∀ (H : Heap) (locs : List Loc) (ls : Array Slot), va_S (fun q => s.heap.size ≤ q) s.heap H locs → W p l e room_1 s m #[Value.ref b] below meth c H locs 600000 7302250 Q (F0 m 857 ls [])) : W p l e room_1 s m #[Value.ref b] below meth c s.heap [] 0 0 Q (entryFrame m ([Value.ref b] : List Value).toArray 4) := by
  obtain ⟨D, K, hK⟩ := K_start hts
  have hN := NW_start hts
  obtain ⟨q, v, hZ, hR⟩ := STR_start hts hgv
  have hO : va_AO RX4 s := va_AO.of (hts (.arrayOver (.object RX4)) (ta_1 152 (by decide +kernel)))
  have F : FX p s m #[Value.ref b] meth c code RL 4 ret D K := ⟨hx, hb, hml, hown, fun w hw => hts w (tbl_lw hw), hK, hN, hr, hlocks⟩
  have h : WD D (fun q => s.heap.size ≤ q) s.heap s.heap [] [] := ⟨fun k q h => by simp [WL] at h, ⟨fun i j p q h => by simp [WL] at h, fun k q h => by simp [WL] at h⟩, va_S.rf, fun _ h => h⟩
  have hl := lv_entry ([.ref b]) (n := 4) (Nat.le_of_ble_eq_true rfl)
  rw [lg_entry_eq]
  generalize (lg_sl ([.ref b]) ++ List.replicate (4 - (lg_sl ([.ref b])).length) Slot.unset).toArray = ls at hl ⊢
  have hl : lv_has ls 4 [(0, .ref b)] := hl
  refine r_new F h (ci := 5) (fs := [.null, .null, .null, .null, .int 0, .int 0, .null, .int 0, .null, .int 0, .null, .int 0, .null, .null, .int 0, .null]) inX5 tyX5_ok rfl (by decide +kernel) ⟨zw_375, zw_370, zw_140⟩ ⟨Nat.le_of_ble_eq_true rfl, Nat.le_of_ble_eq_true rfl⟩ dL_law_0 (fun q5 H h => ?_)
  have h : WD D (fun q => s.heap.size ≤ q) s.heap H [] [[(q5, raw5)]] := h
  refine lv_dup hx hb dL_law_3 rfl ?_
  refine law_x5 (rest := [.ref q5]) F hZ hR hO h hl ⟨Nat.le_of_ble_eq_true rfl, Nat.le_of_ble_eq_true rfl⟩ (Nat.le_of_ble_eq_true rfl) (fun H locs aa sc now e0 e1 e2 h => ?_)
  rw [← e0]
  refine lv_astore_n (lv' := [(1, .ref (aa 0 0)), (0, .ref b)]) hx hb dL_law_7 rfl hl (by decide) rfl (fun ls hl => ?_)
  refine r_new F h (ci := 6) (fs := [.int 0, .int 0, .null, .int 0, .null, .int 0, .int 0, .null, .int 0, .int 0, .null, .int 0, .null, .null, .null, .int 0, .int 0, .int 0, .null, .null, .null, .null, .int 0, .null, .null, .null, .null, .null, .null, .null, .int 0, .int 0, .int 0, .int 0, .null, .int 0, .int 0, .int 0]) inX6 tyX6_ok rfl (by decide +kernel) ⟨zw_376, zw_371, zw_145⟩ ⟨Nat.le_of_ble_eq_true rfl, Nat.le_of_ble_eq_true rfl⟩ dL_law_8 (fun q6 H h => ?_)
  refine lv_dup hx hb dL_law_11 rfl ?_
  refine r_ctorI (rest := [.ref q6]) F h hl (kX6_init l D K q6) zw_377 ⟨zw_378, zw_379, zw_145⟩ rfl hsl6_init ⟨Nat.le_of_ble_eq_true rfl, Nat.le_of_ble_eq_true rfl⟩ ⟨Nat.le_of_ble_eq_true rfl, Nat.le_of_ble_eq_true rfl⟩ (Nat.le_of_ble_eq_true rfl) dL_law_12 (fun H locs ad h => ?_)
  obtain ⟨am, ha⟩ : ∃ a, a = ah q6 ad := ⟨_, rfl⟩
  have e6 : q6 = am 0 := by rw [ha]; rfl
  have h : WD D (fun q => s.heap.size ≤ q) s.heap H locs (SX K aa sc now ++ [wX6 K (ah q6 ad) m0]) := h
  rw [← ha] at h
  rw [e6]
  refine lv_astore_n (lv' := [(2, .ref (am 0)), (1, .ref (aa 0 0)), (0, .ref b)]) hx hb dL_law_15 rfl hl (by decide) rfl (fun ls hl => ?_)
  refine lv_iconst (v := 0) hx hb dL_law_16 (by decide) ?_
  refine lv_istore_n (lv' := [(3, .int 0), (2, .ref (am 0)), (1, .ref (aa 0 0)), (0, .ref b)]) hx hb dL_law_17 rfl hl (by decide) rfl (fun ls hl => ?_)
  refine W.widen (k := 600000) (n := 7302250) (Nat.le_of_ble_eq_true rfl) (Nat.le_of_ble_eq_true rfl) ?_
  have h : WD D (fun q => s.heap.size ≤ q) s.heap H locs (SL K aa am zo sc now zo (fun _ => zo) (fun _ => zo) zo zo zo zo zo m0) := h
  exact law_loop F hX hbl hL ⟨Nat.le_of_ble_eq_true rfl, Nat.le_of_ble_eq_true rfl⟩ END L 0 (by omega) (Nat.zero_le L) _ _ _ _ _ _ _ _ _ _ _ _ _ _ _ ls (RG_0 e1 e2) h (lv_sub hl [3, 2, 1, 0] rfl)
