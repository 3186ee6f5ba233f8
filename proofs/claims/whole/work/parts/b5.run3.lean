/-! the reference's run -/
def ka (m m' : ob) : Prop := m'.1 = m.1 ∧ ∀ k, k ≠ 23 → k ≠ 24 → m'.2 k = m.2 k
theorem ka.rf (m : ob) : ka m m := ⟨rfl, fun _ _ _ => rfl⟩
theorem ka.tr {a b c : ob} (h : ka a b) (k : ka b c) : ka a c := ⟨k.1.trans h.1, fun j h1 h2 => (k.2 j h1 h2).trans (h.2 j h1 h2)⟩
theorem ka.kr {m m' : ob} (h : ka m m') : kr m m' := ⟨fun k _ => by rw [h.1], fun k _ _ k3 k4 => h.2 k k3 k4⟩
theorem ka.RM {g : nb} {m m' : ob} {l : List Nat} (h : ka m m') (r : RM g m l) : RM g m' l := r.cg (fun _ _ => by rw [h.2 20 (by decide) (by decide)]) (fun _ _ => by rw [h.2 21 (by decide) (by decide)])
theorem lw_get {g : nb} {m : ob} (hm : MW m g) {r j : Nat} (hr : r < g.1 1) (hj : j < (lw (g.2 5 r)).length) : m.2 2 (7 * r + 4 + j) = nI (lw (g.2 5 r))[j] := by
  obtain ⟨a1, a2, a3, a4, a5, a6⟩ := hm.2.1 r hr
  exact a5 j _ (List.getElem?_eq_getElem hj)
theorem p6_behind {g : nb} (hW : WF g) {m : ob} (hm : MW m g) (hw : WM g m) {r : Nat} {l : List Nat} (hr : r < g.1 1) (hl : ∀ y, y ∈ l → y < 4) (hn : l.length < 172) (h22 : m.1 22 = nI (l.length + 1)) (hrm : RM g m l) : ∃ m', f6_behind (nI r) m = some (cd (tv g (lw (g.2 5 r) ++ l) (g.2 4 r)), m') ∧ ka m m' := by
  obtain ⟨b1, b2, b3, b4, b5, b6⟩ := hm.2.1 r hr
  obtain ⟨c1, c2, c3, c4⟩ := hW.2.1.1 r hr
  have h10 := hW.2.1.2.1
  have hS := hW.1.2.1
  have l2 := lw_len (w := g.2 5 r)
  have es : nI (l.length + 1) - 1 = nI l.length := nI_sub (a := l.length + 1) (b := 1) (by omega)
  have e7 : (7 : Int32) * nI r = nI (7 * r) := by rw [show (7 : Int32) = nI 7 from rfl, nI_mul]
  have e73 : nI (7 * r) + 3 = nI (7 * r + 3) := nI_add _ 3
  have e72 : nI (7 * r) + 2 = nI (7 * r + 2) := nI_add _ 2
  have e74 : nI (7 * r) + 4 = nI (7 * r + 4) := nI_add _ 4
  obtain ⟨a, ea, a1, a2, a3⟩ := p6_standsOn (by omega) hrm.row
  have ka0 : ka m a := ⟨a1, fun k k1 _ => a2 k k1⟩
  obtain ⟨z, ez, z1, z2⟩ := wh_fr (st := f6_behind_L24 (nI r)) (fun i (b : ob) => (dn (lw (g.2 5 r)).length i, b)) (lw (g.2 5 r)).length (fun i z => ka m z ∧ AB g z ((lw (g.2 5 r)).drop ((lw (g.2 5 r)).length - i) ++ l)) (b0 := a) ⟨ka0, by rw [Nat.sub_zero, List.drop_length]; exact a3⟩
    (by
      intro z _
      unfold f6_behind_L24
      dsimp only
      rw [dn_end, if_pos (by decide)])
    (by
      rintro i z hi ⟨z1, z2⟩
      have hlt : (lw (g.2 5 r)).length - 1 - i < (lw (g.2 5 r)).length := by omega
      have hx : (lw (g.2 5 r))[(lw (g.2 5 r)).length - 1 - i] < 4 := lw_lt c4 (List.getElem_mem hlt)
      obtain ⟨u, eu, u1, u2, u3⟩ := p6_goesBy hW (z1.kr.WM hw) hx (l := (lw (g.2 5 r)).drop ((lw (g.2 5 r)).length - i) ++ l) (fun y hy => by
        rcases List.mem_append.mp hy with q | q
        · exact lw_lt c4 (List.mem_of_mem_drop q)
        · exact hl y q) (by rw [List.length_append, List.length_drop]; omega) z2
      refine ⟨u, ?_, z1.tr ⟨u1, u2⟩, ?_⟩
      · unfold f6_behind_L24
        dsimp only
        rw [dn_s hi, dn_lt hi, if_neg (nn0 (by omega)), e7, e74, nI_add, vin_nI (show 7 * r + 4 + ((lw (g.2 5 r)).length - 1 - i) < 2 ^ 31 by omega), gd_p (show 7 * r + 4 + ((lw (g.2 5 r)).length - 1 - i) < 70 by omega), nI_clamp (show 7 * r + 4 + ((lw (g.2 5 r)).length - 1 - i) < 2 ^ 31 by omega), z1.2 2 (by decide) (by decide), lw_get hm hr hlt, eu]
        simp only [Option.bind_some, lt_v]
      · have ed : (lw (g.2 5 r)).drop ((lw (g.2 5 r)).length - (i + 1)) = (lw (g.2 5 r))[(lw (g.2 5 r)).length - 1 - i] :: (lw (g.2 5 r)).drop ((lw (g.2 5 r)).length - i) := by
          rw [show (lw (g.2 5 r)).length - (i + 1) = (lw (g.2 5 r)).length - 1 - i by omega, List.drop_eq_getElem_cons hlt, show (lw (g.2 5 r)).length - 1 - i + 1 = (lw (g.2 5 r)).length - i by omega]
        rw [ed]
        exact u3)
  rw [Nat.sub_self, List.drop_zero] at z2
  refine ⟨z, ?_, z1⟩
  unfold f6_behind
  rw [h22, es, ea]
  simp only [Option.bind_some, lt_v]
  rw [e7, e73, e72, vin_nI (show 7 * r + 3 < 2 ^ 31 by omega), gd_p (show 7 * r + 3 < 70 by omega), nI_clamp (show 7 * r + 3 < 2 ^ 31 by omega), a2 2 (by decide), b4, dn_0, ez]
  simp only [Option.bind_some]
  rw [vin_nI (show 7 * r + 2 < 2 ^ 31 by omega), gd_p (show 7 * r + 2 < 70 by omega), nI_clamp (show 7 * r + 2 < 2 ^ 31 by omega), z1.2 2 (by decide) (by decide), b3, vin_nI (by omega), gd_p (show g.2 4 r < 13 by omega), nI_clamp (by omega), z2 _ (by omega)]
theorem cd_is {v n : Nat} (hv : v ≤ 1000000000) (hn : n < 1000000000) : cd v = nI n ↔ v = n := by
  by_cases q : 1000000000 ≤ v
  · rw [cd_ge q]
    exact ⟨fun h => absurd h (neg_ne_nI (by omega) (by decide) (by decide)), fun h => by omega⟩
  · rw [cd_lt (by omega)]
    exact nI_eq (by omega) (by omega)
theorem p6_ruleOn {g : nb} (hW : WF g) {m : ob} (hm : MW m g) (hw : WM g m) {y p : Nat} {l : List Nat} (hI : RI g (y :: l) p) (h0 : 0 < tv g (y :: l) p) (hf : tv g (y :: l) p < 1000000000) (h22 : m.1 22 = nI (l.length + 1)) (hrm : RM g m (y :: l)) : ∃ m', f6_ruleOn (nI p) (nI (tv g (y :: l) p)) m = some (nI (nxr g (y :: l) p), m') ∧ ka m m' := by
  obtain ⟨n1, n2, n3⟩ := nxr_ok hW hI h0 hf
  have hlen := RI_len hW hI hf
  rw [List.length_cons] at hlen
  have h10 := hW.2.1.2.1
  have hS := hW.1.2.1
  have hpS := hI.2.1
  have hy := hI.1 y (List.mem_cons_self ..)
  have hl : ∀ x, x ∈ l → x < 4 := fun x hx => hI.1 x (List.mem_cons_of_mem _ hx)
  have es : nI (l.length + 1) - 1 = nI l.length := nI_sub (a := l.length + 1) (b := 1) (by omega)
  have e4 : nI (tv g (y :: l) p) - 1 = nI (tv g (y :: l) p - 1) := nI_sub (b := 1) h0
  have lp : ∀ k r z, r + k = nxr g (y :: l) p → ka m z → ∃ z', wh (f6_ruleOn_L2 (nI p) (nI (tv g (y :: l) p))) (nI r, z) = some (1, (nI (nxr g (y :: l) p), z')) ∧ ka m z' := by
    intro k
    induction k with
    | zero =>
      intro r z hr hz
      obtain rfl : r = nxr g (y :: l) p := by omega
      obtain ⟨o1, o2, o3⟩ := n2
      rw [List.head?_cons, Option.some.injEq] at o2
      rw [List.tail_cons] at o3
      have mz := hz.kr.MW hm
      have z22 : z.1 22 = nI (l.length + 1) := by rw [hz.1]; exact h22
      have rz := hz.RM hrm
      obtain ⟨z', e', k'⟩ := p6_behind hW mz (hz.kr.WM hw) n1 hl (by omega) z22 rz.2.2
      refine ⟨z', wh_off ?_, hz.tr k'⟩
      unfold f6_ruleOn_L2
      dsimp only
      rw [mz.2.2.1, if_neg (nI_ge n1 (by omega)), z22, es, vin_nI (by omega), gd_p (show l.length < 400 by omega), nI_clamp (by omega), rz.1, p6_fits hW n1 (by omega) (by omega) z mz, if_pos ⟨o1, o2.symm⟩]
      simp only [Option.bind_some]
      rw [if_neg z1, e']
      simp only [Option.bind_some]
      rw [e4, if_pos ((cd_is (tv_le g _ _) (by omega)).mpr (by omega))]
    | succ k ih =>
      intro r z hr hz
      have hrR : r < g.1 1 := by omega
      have no := n3 r (by omega)
      have mz := hz.kr.MW hm
      have z22 : z.1 22 = nI (l.length + 1) := by rw [hz.1]; exact h22
      have rz := hz.RM hrm
      have st : ∃ z', f6_ruleOn_L2 (nI p) (nI (tv g (y :: l) p)) (nI r, z) = some (0, (nI (r + 1), z')) ∧ ka m z' := by
        by_cases q : g.2 2 r = p ∧ g.2 3 r = y
        · obtain ⟨z', e', k'⟩ := p6_behind hW mz (hz.kr.WM hw) hrR hl (by omega) z22 rz.2.2
          refine ⟨z', ?_, hz.tr k'⟩
          unfold f6_ruleOn_L2
          dsimp only
          rw [mz.2.2.1, if_neg (nI_ge hrR (by omega)), z22, es, vin_nI (by omega), gd_p (show l.length < 400 by omega), nI_clamp (by omega), rz.1, p6_fits hW hrR (by omega) (by omega) z mz, if_pos q]
          simp only [Option.bind_some]
          rw [if_neg z1, e']
          simp only [Option.bind_some]
          rw [e4, if_neg (fun e => no ⟨q.1, by rw [q.2]; rfl, by
            have := (cd_is (tv_le g _ _) (by omega)).mp e
            rw [List.tail_cons]
            omega⟩)]
          simp only [lt_v, nI_1]
        · refine ⟨z, ?_, hz⟩
          unfold f6_ruleOn_L2
          dsimp only
          rw [mz.2.2.1, if_neg (nI_ge hrR (by omega)), z22, es, vin_nI (by omega), gd_p (show l.length < 400 by omega), nI_clamp (by omega), rz.1, p6_fits hW hrR (by omega) (by omega) z mz, if_neg q]
          simp only [Option.bind_some]
          rw [if_pos z0]
          simp only [lt_v, nI_1]
      obtain ⟨z', e', k'⟩ := st
      obtain ⟨z2, e2, k2⟩ := ih (r + 1) z' (by omega) k'
      exact ⟨z2, by rw [wh_on e']; exact e2, k2⟩
  obtain ⟨z, ez, kz⟩ := lp (nxr g (y :: l) p) 0 m (by omega) (ka.rf m)
  refine ⟨z, ?_, kz⟩
  have ez : wh (f6_ruleOn_L2 (nI p) (nI (tv g (y :: l) p))) (0, m) = _ := ez
  unfold f6_ruleOn
  rw [ez]
  simp only [Option.bind_some]
  rw [if_pos trivial]
theorem p6_towerSteps {g : nb} (hW : WF g) {m : ob} (hm : MW m g) (hw : WM g m) {r : Nat} {l : List Nat} (hr : r < g.1 1) (hl : ∀ y, y ∈ l → y < 4) (hn : l.length < 172) (h22 : m.1 22 = nI (l.length + 1)) (hrm : RM g m l) : ∃ m', f6_towerSteps (nI r) m = some m' ∧ kr m m' ∧ m'.1 22 = nI (lw (g.2 5 r) ++ l).length ∧ RM g m' (lw (g.2 5 r) ++ l) := by
  obtain ⟨b1, b2, b3, b4, b5, b6⟩ := hm.2.1 r hr
  obtain ⟨c1, c2, c3, c4⟩ := hW.2.1.1 r hr
  have h10 := hW.2.1.2.1
  have l2 := lw_len (w := g.2 5 r)
  have es : nI (l.length + 1) - 1 = nI l.length := nI_sub (a := l.length + 1) (b := 1) (by omega)
  have e7 : (7 : Int32) * nI r = nI (7 * r) := by rw [show (7 : Int32) = nI 7 from rfl, nI_mul]
  have e73 : nI (7 * r) + 3 = nI (7 * r + 3) := nI_add _ 3
  have e74 : nI (7 * r) + 4 = nI (7 * r + 4) := nI_add _ 4
  have k0 : kr m (sI m 22 (nI l.length)) := ⟨fun k hk => by simp only [sI_1, sI_2, sA_1, sA_2, sR_1, sR_2, upd_at, sL_1, sL_2, rL_uL, updL_at, if_neg hk], fun _ _ _ _ _ => rfl⟩
  obtain ⟨z, ez, z1, z2, z3⟩ := wh_fr (st := f6_towerSteps_L24 (nI r)) (fun i (b : ob) => (dn (lw (g.2 5 r)).length i, b)) (lw (g.2 5 r)).length (fun i z => kr m z ∧ z.1 22 = nI ((lw (g.2 5 r)).drop ((lw (g.2 5 r)).length - i) ++ l).length ∧ RM g z ((lw (g.2 5 r)).drop ((lw (g.2 5 r)).length - i) ++ l)) (b0 := sI m 22 (nI l.length)) ⟨k0, by rw [Nat.sub_zero, List.drop_length]; rfl, by rw [Nat.sub_zero, List.drop_length]; exact hrm.cg (fun _ _ => rfl) (fun _ _ => rfl)⟩
    (by
      intro z _
      unfold f6_towerSteps_L24
      dsimp only
      rw [dn_end, if_pos (by decide)])
    (by
      rintro i z hi ⟨z1, z2, z3⟩
      have hlt : (lw (g.2 5 r)).length - 1 - i < (lw (g.2 5 r)).length := by omega
      have hx : (lw (g.2 5 r))[(lw (g.2 5 r)).length - 1 - i] < 4 := lw_lt c4 (List.getElem_mem hlt)
      obtain ⟨u, eu, u1, u2, u3⟩ := p6_puts hW (z1.WM hw) hx (l := (lw (g.2 5 r)).drop ((lw (g.2 5 r)).length - i) ++ l) (fun y hy => by
        rcases List.mem_append.mp hy with q | q
        · exact lw_lt c4 (List.mem_of_mem_drop q)
        · exact hl y q) (by rw [List.length_append, List.length_drop]; omega) z2 z3
      have ed : (lw (g.2 5 r)).drop ((lw (g.2 5 r)).length - (i + 1)) = (lw (g.2 5 r))[(lw (g.2 5 r)).length - 1 - i] :: (lw (g.2 5 r)).drop ((lw (g.2 5 r)).length - i) := by
        rw [show (lw (g.2 5 r)).length - (i + 1) = (lw (g.2 5 r)).length - 1 - i by omega, List.drop_eq_getElem_cons hlt, show (lw (g.2 5 r)).length - 1 - i + 1 = (lw (g.2 5 r)).length - i by omega]
      refine ⟨u, ?_, z1.tr u1, ?_, ?_⟩
      · unfold f6_towerSteps_L24
        dsimp only
        rw [dn_s hi, dn_lt hi, if_neg (nn0 (by omega)), e7, e74, nI_add, vin_nI (show 7 * r + 4 + ((lw (g.2 5 r)).length - 1 - i) < 2 ^ 31 by omega), gd_p (show 7 * r + 4 + ((lw (g.2 5 r)).length - 1 - i) < 70 by omega), nI_clamp (show 7 * r + 4 + ((lw (g.2 5 r)).length - 1 - i) < 2 ^ 31 by omega), z1.2 2 (by decide) (by decide) (by decide) (by decide), lw_get hm hr hlt, eu]
        simp only [Option.bind_some, lt_v]
      · rw [ed]; exact u2
      · rw [ed]; exact u3)
  rw [Nat.sub_self, List.drop_zero] at z2 z3
  refine ⟨z, ?_, z1, z2, z3⟩
  unfold f6_towerSteps
  rw [h22, es, lt_v, e7, e73, vin_nI (show 7 * r + 3 < 2 ^ 31 by omega), gd_p (show 7 * r + 3 < 70 by omega), nI_clamp (show 7 * r + 3 < 2 ^ 31 by omega), lt_v]
  have e3 : (sI m 22 (nI l.length)).2 2 (7 * r + 3) = nI (lw (g.2 5 r)).length := b4
  rw [e3, dn_0, ez]
  rfl
theorem p6_towerBegins {g : nb} (hW : WF g) {m : ob} (hm : MW m g) : ∃ m', f6_towerBegins m = some m' ∧ MW m' g ∧ WM g m' ∧ (∀ k, k ≠ 15 → k ≠ 16 → k ≠ 17 → k ≠ 22 → m'.1 k = m.1 k) ∧ (∀ k, k < 13 ∨ 24 < k → m'.2 k = m.2 k) ∧ m'.1 22 = nI (sk g (g.1 14)).length ∧ RM g m' (sk g (g.1 14)) := by
  have h3 := hW.1.2.1
  have h10 := hW.2.1.2.1
  obtain ⟨c1, h12, c3⟩ := hW.2.2.1
  obtain ⟨a, ea, ka1, ga⟩ := growsS hW 1 (by decide) 10 (-4) (noneI h10 (by decide) (by decide)) m hm
  have ma : MW a g := hm.keep ka1
  have wa : WM g a := ga.2.2.2.1
  have k0 : kr a (sI a 22 0) := ⟨fun k hk => by simp only [sI_1, sI_2, sA_1, sA_2, sR_1, sR_2, upd_at, sL_1, sL_2, rL_uL, updL_at, if_neg hk], fun _ _ _ _ _ => rfl⟩
  obtain ⟨b, eb, b1, b2, b3⟩ := wh_fr (st := f6_towerBegins_L14) (fun i (b : ob) => (nI i, b)) 13 (fun i z => kr a z ∧ z.1 22 = nI 0 ∧ ∀ t, t < i → z.2 21 t = cd (tv g [] t)) (b0 := sI a 22 0) ⟨k0, rfl, fun _ hj => absurd hj (Nat.not_lt_zero _)⟩
    (by
      intro z _
      unfold f6_towerBegins_L14
      dsimp only
      rw [if_pos (by decide)])
    (by
      rintro i z hi ⟨b1, b2, b3⟩
      have mz := b1.MW ma
      have ev : (if nI (acc g (g.1 7) i) = 0 then (some (-1 : Int32)) else (some 0)) = some (cd (tv g [] i)) := by
        unfold tv
        rcases acc_01 g i (g.1 7) with h | h
        · rw [h, if_pos (by decide), if_neg (by decide), cd_ge (Nat.le_refl _)]; rfl
        · rw [h, if_neg (by decide), if_pos rfl, cd_lt (by omega)]; rfl
      refine ⟨sA z 21 i (cd (tv g [] i)), ?_, b1.tr ⟨fun _ _ => rfl, fun k _ k2 _ _ => by simp only [sI_1, sI_2, sA_1, sA_2, sR_1, sR_2, upd_at, sL_1, sL_2, rL_uL, updL_at, if_neg k2]⟩, b2, fun t ht => ?_⟩
      · unfold f6_towerBegins_L14
        dsimp only
        rw [if_neg (show ¬ (13 : Int32) ≤ nI i from nI_ge (b := 13) hi (by decide)), p6_isEnd g hW.1 i hi z mz.1]
        simp only [Option.bind_some]
        rw [ev]
        simp only [Option.bind_some]
        rw [vin_nI (by omega), gd_p (show i < 5213 by omega), nI_clamp (by omega)]
        simp only [lt_v, nI_1]
      · show (if t = i then _ else z.2 21 t) = _
        by_cases q : t = i
        · rw [if_pos q, q]
        · rw [if_neg q]; exact b3 t (by omega))
  have rb : RM g b (sk g 0) := fun t ht => by rw [Nat.mul_zero, Nat.zero_add]; exact b3 t ht
  obtain ⟨d, ed, d1, d2, d3⟩ := wh_fr (st := f6_towerBegins_L47) (fun i (b : ob) => (nI i, b)) (g.1 14) (fun i z => kr a z ∧ z.1 22 = nI i ∧ RM g z (sk g i)) (b0 := b) ⟨b1, b2, rb⟩
    (by
      rintro z ⟨d1, d2, d3⟩
      have mz := d1.MW ma
      unfold f6_towerBegins_L47
      dsimp only
      rw [mz.2.2.2.2.1, if_pos (nI_le (Nat.le_refl _) (by omega))])
    (by
      rintro i z hi ⟨d1, d2, d3⟩
      have mz := d1.MW ma
      obtain ⟨u, eu, u1, u2, u3⟩ := p6_puts hW (d1.WM wa) (c3 i hi) (l := sk g i) (sk_mem c3 i (by omega)) (by rw [sk_len]; omega) (by rw [sk_len]; exact d2) d3
      rw [sk_len] at u2
      refine ⟨u, ?_, d1.tr u1, u2, u3⟩
      unfold f6_towerBegins_L47
      dsimp only
      rw [mz.2.2.2.2.1, if_neg (nI_ge hi (by omega)), vin_nI (by omega), gd_p (show i < 12 by omega), nI_clamp (by omega), mz.2.2.2.2.2.2.1 i hi, eu]
      simp only [Option.bind_some, lt_v, nI_1])
  refine ⟨d, ?_, d1.MW ma, d1.WM wa, fun k k1 k2 k3 k4 => ?_, fun k hk => ?_, by rw [sk_len]; exact d2, d3⟩
  · have ea : f6_grows 1 (-4) m = some a := ea
    have eb : wh f6_towerBegins_L14 (0, sI a 22 0) = _ := eb
    have ed : wh f6_towerBegins_L47 (0, b) = _ := ed
    unfold f6_towerBegins
    rw [ea]
    simp only [Option.bind_some, lt_v]
    rw [eb]
    simp only [Option.bind_some]
    rw [ed]
    rfl
  · rw [d1.1 k k4, ka1.1 k k1 k2 k3]
  · rw [d1.2 k (by omega) (by omega) (by omega) (by omega), ka1.2 k (by omega) (by omega) (by omega) (by omega)]
