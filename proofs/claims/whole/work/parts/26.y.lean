/-! a family of towers, one of them taken out -/
theorem vin_lt {i : Int32} {n : Nat} (h : vin i n = true) : i.toNatClampNeg < n := Nat.not_le.mp fun q => vin_ok h (Or.inr q)
def wFx (K : Nat → ClassId) (n : Nat) (ap : Nat → Nat → Nat) (f : Nat → ob) (i : Nat) : va_W := ((List.range n).erase i).flatMap (fun i => wX4 K (ap i) (f i))
theorem fam_split (K : Nat → ClassId) (n : Nat) (ap : Nat → Nat → Nat) (f : Nat → ob) {i : Nat} (h : i < n) : (wF K n ap f).Perm (wX4 K (ap i) (f i) ++ wFx K n ap f i) := by
  have h1 : (List.range n).Perm (i :: (List.range n).erase i) := List.perm_cons_erase (List.mem_range.mpr h)
  exact (h1.map (fun i => wX4 K (ap i) (f i))).flatten
theorem fam_merge (K : Nat → ClassId) (n : Nat) (ap : Nat → Nat → Nat) (f : Nat → ob) {i : Nat} (h : i < n) (v : ob) : (wX4 K (ap i) v ++ wFx K n ap f i).Perm (wF K n ap (va_up f i v)) := by
  have h1 := (fam_split K n ap (va_up f i v) h).symm
  have e : wFx K n ap (va_up f i v) i = wFx K n ap f i := by
    unfold wFx
    rw [List.flatMap_def, List.flatMap_def]
    congr 1
    apply List.map_congr_left
    intro j hj
    have hj2 : j ≠ i := by
      intro e
      subst e
      exact (List.nodup_range.mem_erase_iff.mp hj).1 rfl
    rw [va_up_ne _ _ hj2]
  rw [e, va_up_self] at h1
  exact h1
theorem seg_split {pre post : List va_W} {w w1 w2 : va_W} (hp : w.Perm (w1 ++ w2)) : (WL (pre ++ w :: post)).Perm (WL (pre ++ w1 :: w2 :: post)) := by
  unfold WL
  rw [List.flatten_append, List.flatten_append, List.flatten_cons, List.flatten_cons, List.flatten_cons, ← List.append_assoc w1 w2]
  exact (hp.append_right _).append_left _
theorem seg_merge {pre post : List va_W} {w w1 w2 : va_W} (hp : (w1 ++ w2).Perm w) : (WL (pre ++ w1 :: w2 :: post)).Perm (WL (pre ++ w :: post)) := (seg_split hp.symm).symm
section AALD
variable {p : Program} {l : Launch} {e : Env} {R : Room} {s : State} {m : MethodId} {args : Array Value} {below : List Frame} {meth : Method} {c : Code} {H : Heap} {locs : List Loc} {cells slots : Nat} {Q : State → Prop}
variable {pc : Nat} {ls : Array Slot} {rest : List Value} {cc : ByteArray} {own : String} {nL : Nat} {ret : Option FieldType} {D : va_G} {K : Nat → ClassId} {A : Nat → Prop} {H0 : Heap} {S : List va_W}
theorem r_aald (F : FX p s m args meth c cc own nL ret D K) (h : WD D A H0 H locs S) {i j n a : Nat} {seg : va_W} {f : Nat → Nat} {ix : Int32} (hs : S[i]? = some seg) (hj : seg[j]? = some (a, .inl (K 3, n, .inr (.inr (.inr (.inr (fun i => some (f i)))))))) (hin : vp_in ix n) (hdg : decode cc pc = .ok (.aaload, 1))
    (kk : W p l e R s m args below meth c H locs cells slots Q (F0 m (pc + 1) ls (.ref (f ix.toNatClampNeg) :: rest))) : W p l e R s m args below meth c H locs cells slots Q (F0 m pc ls (.int ix :: .ref a :: rest)) := by
  obtain ⟨q0, h1, -⟩ := seg_at hs hj
  exact va_aldq F.1 F.2.1 F.2.2.2.2.2.1 h.1 q0 3 h1 rfl hin hdg kk
end AALD
