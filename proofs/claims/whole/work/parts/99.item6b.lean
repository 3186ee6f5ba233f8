/-! the items: the reference, targets and configurations -/
theorem MW.gtg_ {m m' : ob} {g : nb} (h : MW m g) {p n o : Nat} {w : Nat → Nat} (h3 : m'.1 3 = nI (g.1 7 + 1)) (h1 : ∀ k, k < 9 → k ≠ 3 → m'.1 k = m.1 k) (h2 : ∀ k, k < 8 → k ≠ 4 → m'.2 k = m.2 k) (e : ∀ j, j < 6 * g.1 7 → m'.2 4 j = m.2 4 j) (e0 : m'.2 4 (6 * g.1 7) = nI p) (e1 : m'.2 4 (6 * g.1 7 + 1) = nI n) (e2 : m'.2 4 (6 * g.1 7 + 2) = nI o) (e3 : ∀ j, j < 3 → m'.2 4 (6 * g.1 7 + 3 + j) = if j < n then nI (w j) else -(nI 4)) (hg : ∀ t, t < g.1 7 → g.2 9 t ≤ 3) (hn : n ≤ 3) : MW m' (gtg g p n o w) := by
  obtain ⟨⟨t1, t2, t3⟩, t4, t5, t6, t7, t8, t9, t10, t11⟩ := h
  refine ⟨⟨?_, h3, fun i hi => ?_⟩, ?_, ?_, ?_, ?_, ?_, ?_, ?_, fun i hi => ?_⟩
  · rw [h1 0 (by omega) (by decide)]; exact t1
  · have hi : i < g.1 7 + 1 := hi
    show m'.2 4 (6 * i) = nI (if i = g.1 7 then p else g.2 8 i) ∧ m'.2 4 (6 * i + 1) = nI (if i = g.1 7 then n else g.2 9 i) ∧ m'.2 4 (6 * i + 2) = nI (if i = g.1 7 then o else g.2 10 i) ∧ ∀ j, j < (if i = g.1 7 then n else g.2 9 i) → m'.2 4 (6 * i + 3 + j) = nI (if 3 * g.1 7 ≤ 3 * i + j then w (3 * i + j - 3 * g.1 7) else g.2 11 (3 * i + j))
    by_cases q : i = g.1 7
    · simp only [if_pos q]
      rw [q]
      refine ⟨e0, e1, e2, fun j hj => ?_⟩
      rw [e3 j (by omega), if_pos hj, if_pos (by omega), show 3 * g.1 7 + j - 3 * g.1 7 = j by omega]
    · simp only [if_neg q]
      obtain ⟨a1, a2, a3, a4⟩ := t3 i (by omega)
      have := hg i (by omega)
      rw [e _ (by omega), e _ (by omega), e _ (by omega)]
      refine ⟨a1, a2, a3, fun j hj => ?_⟩
      rw [e _ (by omega), if_neg (by omega)]
      exact a4 j hj
  · unfold MR
    rw [h2 2 (by omega) (by decide)]
    exact t4
  · rw [h1 1 (by omega) (by decide)]; exact t5
  · rw [h1 5 (by omega) (by decide)]; exact t6
  · rw [h1 6 (by omega) (by decide)]; exact t7
  · rw [h1 8 (by omega) (by decide)]; exact t8
  · rw [h2 7 (by omega) (by decide)]; exact t9
  · rw [h2 2 (by omega) (by decide)]; exact t10
  · have hi : i < g.1 7 + 1 := hi
    show ∀ j, j < 3 → (if i = g.1 7 then n else g.2 9 i) ≤ j → m'.2 4 (6 * i + 3 + j) = -(nI 4)
    by_cases q : i = g.1 7
    · simp only [if_pos q]
      intro j hj hl
      rw [q, e3 j hj, if_neg (by omega)]
    · simp only [if_neg q]
      intro j hj hl
      rw [e _ (by omega)]
      exact t11 i (by omega) j hj hl
theorem p6_putTarget {g : nb} (hW : WF g) {t : ob} (ht : MW t g) (h7 : g.1 7 < 4) (p n o : Nat) (hn : n ≤ 3) (ho : o = 0 ∨ o = 1) (w : Nat → Nat) (h33 : t.1 33 = nI n) (h34 : ∀ j, j < n → t.2 34 j = nI (w j)) : ∃ m', (lt (6 * (t.1 3)) fun y12 => gd (vin y12 24) <| lt (sA t 4 y12.toNatClampNeg (nI p)) fun t14 => gd (vin (y12 + 1) 24) <| lt (sA t14 4 (y12 + 1).toNatClampNeg (t14.1 33)) fun t16 => ((if nI o = 0 then (some (0 : Int32)) else (some 1))).bind fun v17 => gd (vin (y12 + 2) 24) <| lt (sA t16 4 (y12 + 2).toNatClampNeg v17) fun t19 => (wh (f6_readsTarget_L116 y12) (0, t19)).bind fun q20 => lt (sI q20.2.2 3 ((q20.2.2.1 3) + 1)) fun t21 => some ((1 : Int32), t21)) = some (1, m') ∧ MW m' (gtg g p n o w) ∧ (∀ k, k ≠ 3 → m'.1 k = t.1 k) ∧ ∀ k, k ≠ 4 → m'.2 k = t.2 k := by
  have t3 : t.1 3 = nI (g.1 7) := ht.1.2.1
  have e6 : (6 : Int32) * t.1 3 = nI (6 * g.1 7) := by rw [t3, show (6 : Int32) = nI 6 from rfl, nI_mul]
  have eo : (if nI o = 0 then (some (0 : Int32)) else (some 1)) = some (nI o) := by rcases ho with e | e <;> subst e <;> rfl
  have ho2 : o ≤ 1 := by omega
  generalize hu : sA (sA (sA t 4 (6 * g.1 7) (nI p)) 4 (6 * g.1 7 + 1) (nI n)) 4 (6 * g.1 7 + 2) (nI o) = u
  have u1 : u.1 = t.1 := by rw [← hu]; rfl
  have uR : ∀ j, u.2 4 j = if j = 6 * g.1 7 + 2 then nI o else if j = 6 * g.1 7 + 1 then nI n else if j = 6 * g.1 7 then nI p else t.2 4 j := fun j => by rw [← hu]; rfl
  have u2 : ∀ k, k ≠ 4 → u.2 k = t.2 k := fun k hk => by rw [← hu]; simp only [sI_1, sI_2, sA_1, sA_2, sR_1, sR_2, upd_at, sL_1, sL_2, rL_uL, updL_at, if_neg hk]
  obtain ⟨b, eb, b1, b2, b3, b4⟩ := wh_fr (st := f6_readsTarget_L116 (nI (6 * g.1 7))) (fun i (b : ob) => (nI i, b)) 3 (fun i z => z.1 = t.1 ∧ (∀ k, k ≠ 4 → z.2 k = t.2 k) ∧ (∀ j, j < 6 * g.1 7 + 3 → z.2 4 j = u.2 4 j) ∧ ∀ j, j < i → z.2 4 (6 * g.1 7 + 3 + j) = if j < n then nI (w j) else -(nI 4)) (b0 := u) ⟨u1, u2, fun _ _ => rfl, fun _ hj => absurd hj (Nat.not_lt_zero _)⟩
    (by
      intro z _
      unfold f6_readsTarget_L116
      dsimp only
      rw [if_pos (by decide)])
    (by
      rintro i z hi ⟨b1, b2, b3, b4⟩
      refine ⟨sA z 4 (6 * g.1 7 + 3 + i) (if i < n then nI (w i) else -(nI 4)), ?_, b1, fun k hk => ?_, fun j hj => ?_, fun j hj => ?_⟩
      · unfold f6_readsTarget_L116
        dsimp only
        have z33 : z.1 33 = nI n := by rw [b1, h33]
        have e3 : nI (6 * g.1 7) + 3 = nI (6 * g.1 7 + 3) := nI_add _ 3
        rw [if_neg (show ¬ (3 : Int32) ≤ nI i from nI_ge (b := 3) hi (by decide)), z33, e3, nI_add, vin_nI (show 6 * g.1 7 + 3 + i < 2 ^ 31 by omega), nI_clamp (show 6 * g.1 7 + 3 + i < 2 ^ 31 by omega)]
        simp only [gd_p (show 6 * g.1 7 + 3 + i < 24 by omega)]
        by_cases q : i < n
        · rw [if_neg (nI_ge q (by omega)), vin_nI (by omega), gd_p (show i < 6 by omega), nI_clamp (by omega), b2 34 (by decide), h34 i q, if_pos q]
          simp only [Option.bind_some, lt_v, nI_1]
        · rw [if_pos (nI_le (by omega) (by omega)), if_neg q]
          simp only [Option.bind_some, lt_v, nI_1]
          rfl
      · show (if k = 4 then _ else z.2 k) = _
        rw [if_neg hk]; exact b2 k hk
      · show (if j = 6 * g.1 7 + 3 + i then _ else z.2 4 j) = _
        rw [if_neg (by omega)]; exact b3 j hj
      · show (if 6 * g.1 7 + 3 + j = 6 * g.1 7 + 3 + i then _ else z.2 4 (6 * g.1 7 + 3 + j)) = _
        by_cases q : j = i
        · rw [if_pos (by omega), q]
        · rw [if_neg (by omega)]; exact b4 j (by omega))
  have eb : wh (f6_readsTarget_L116 (nI (6 * g.1 7))) (0, u) = some (1, (nI 3, b)) := eb
  refine ⟨sI b 3 (nI (g.1 7 + 1)), ?_, ht.gtg_ rfl (fun k _ hk => ?_) (fun k _ hk => b2 k hk) (fun j hj => ?_) ?_ ?_ ?_ b4 (fun t ht => (hW.1.2.2.2 t ht).2.1) hn, fun k hk => ?_, b2⟩
  · have e1 : nI (6 * g.1 7) + 1 = nI (6 * g.1 7 + 1) := nI_1 _
    have e2 : nI (6 * g.1 7) + 2 = nI (6 * g.1 7 + 2) := nI_add _ 2
    simp only [lt_v, sA_1, h33, e6, e1, e2]
    rw [vin_nI (show 6 * g.1 7 < 2 ^ 31 by omega), gd_p (show 6 * g.1 7 < 24 by omega), vin_nI (show 6 * g.1 7 + 1 < 2 ^ 31 by omega), gd_p (show 6 * g.1 7 + 1 < 24 by omega), eo]
    simp only [Option.bind_some]
    rw [vin_nI (show 6 * g.1 7 + 2 < 2 ^ 31 by omega), gd_p (show 6 * g.1 7 + 2 < 24 by omega), nI_clamp (show 6 * g.1 7 < 2 ^ 31 by omega), nI_clamp (show 6 * g.1 7 + 1 < 2 ^ 31 by omega), nI_clamp (show 6 * g.1 7 + 2 < 2 ^ 31 by omega), hu, eb]
    simp only [Option.bind_some]
    rw [b1, t3, nI_1]
  · show (if k = 3 then _ else b.1 k) = _
    rw [if_neg hk, b1]
  · show b.2 4 j = _
    rw [b3 j (by omega), uR, if_neg (by omega), if_neg (by omega), if_neg (by omega)]
  · show b.2 4 _ = _
    rw [b3 _ (by omega), uR, if_neg (by omega), if_neg (by omega), if_pos rfl]
  · show b.2 4 _ = _
    rw [b3 _ (by omega), uR, if_neg (by omega), if_pos rfl]
  · show b.2 4 _ = _
    rw [b3 _ (by omega), uR, if_pos rfl]
  · show (if k = 3 then _ else b.1 k) = _
    rw [if_neg hk, b1]
theorem p6_target {T : Nat → Nat} {L b n : Nat} {v : Int32} {g : nb} (hT : txt T L) {m : ob} (h : tx_6 m T L) (hb : b ≤ L) (hW : WF g) (h35 : m.1 35 = nI (g.1 0)) (h37 : m.1 37 = nI (g.1 7)) (hw : wat T L (b + 2) n) :
    (tcf T L b g n ∧ ∃ m', sf_6 m m' ∧ m'.1 33 = nI n ∧ (∀ j, j < n → m'.2 34 j = nI (T (b + 2 + j) - 97)) ∧ ∀ x0, f6_readsTarget x0 (at_6 m b v) = (if x0 = 0 then (some (1, at_6 (sI m' 37 (nI (g.1 7 + 1))) (b + 2 + n + tdt T L (b + 2 + n)) (nI (T b - 48)))) else (lt (6 * ((at_6 (sI m' 37 (nI (g.1 7 + 1))) (b + 2 + n + tdt T L (b + 2 + n)) (nI (T b - 48))).1 3)) fun y12 => gd (vin y12 24) <| lt (sA (at_6 (sI m' 37 (nI (g.1 7 + 1))) (b + 2 + n + tdt T L (b + 2 + n)) (nI (T b - 48))) 4 y12.toNatClampNeg (nI (T b - 48))) fun t14 => gd (vin (y12 + 1) 24) <| lt (sA t14 4 (y12 + 1).toNatClampNeg (t14.1 33)) fun t16 => ((if nI (tdt T L (b + 2 + n)) = 0 then (some 0) else (some 1))).bind fun v17 => gd (vin (y12 + 2) 24) <| lt (sA t16 4 (y12 + 2).toNatClampNeg v17) fun t19 => (wh (f6_readsTarget_L116 y12) (0, t19)).bind fun q20 => lt (sI q20.2.2 3 ((q20.2.2.1 3) + 1)) fun t21 => some (1, t21)))) ∨ (¬ tcf T L b g n ∧ ∃ m' a' v', (∀ x0, f6_readsTarget x0 (at_6 m b v) = some (0, at_6 m' a' v')) ∧ sf_6 m m') := by
  have hl := hT.1
  have h3 := hW.1.2.1
  have h1 := hW.1.1
  have h4 := hW.1.2.2.1
  by_cases c0 : g.1 7 < 4
  case neg =>
    refine Or.inr ⟨fun H => c0 H.1, m, b, v, fun x0 => ?_, sf_6.rf m⟩
    unfold f6_readsTarget
    rw [at_6i m b v (show 37 ≠ 31 by decide) (by decide), h37, if_pos (show nI (g.1 7) = 4 by rw [show g.1 7 = 4 by omega]; rfl)]
  have n4 : ¬ nI (g.1 7) = 4 := fun e => by have := (nI_eq (a := g.1 7) (b := 4) (by omega) (by decide)).mp e; omega
  by_cases c1 : tD T L b 0 (g.1 0)
  case neg =>
    refine Or.inr ⟨fun H => c1 H.2.1, m, b, v, fun x0 => ?_, sf_6.rf m⟩
    unfold f6_readsTarget
    rw [at_6i m b v (show 37 ≠ 31 by decide) (by decide), h37, if_neg n4, at_6i m b v (show 35 ≠ 31 by decide) (by decide), h35, show f6_figure 0 (nI (g.1 0)) (at_6 m b v) = _ from p6_fig_n (lo := 0) hT h hb (by omega) (by omega) (by omega) c1]
    simp only [Option.bind_some]
    rw [if_pos trivial]
  have f1 : f6_figure 0 (nI (g.1 0)) (at_6 m b v) = _ := p6_fig_y (lo := 0) hT h (by omega) (by omega) (by omega) c1
  by_cases c2 : tS T L (b + 1) 44
  case neg =>
    refine Or.inr ⟨fun H => c2 H.2.2.1, m, b + 1, nI (T b - 48), fun x0 => ?_, sf_6.rf m⟩
    unfold f6_readsTarget
    rw [at_6i m b v (show 37 ≠ 31 by decide) (by decide), h37, if_neg n4, at_6i m b v (show 35 ≠ 31 by decide) (by decide), h35, f1]
    simp only [Option.bind_some]
    rw [if_neg (show ¬ (1 : Int32) = 0 by decide), show f6_sign 44 (at_6 m (b + 1) (nI (T b - 48))) = _ from p6_sign_n (c := 44) hT h (by omega) (by omega) c2]
    simp only [Option.bind_some]
    rw [if_pos trivial]
  have f2 : f6_sign 44 (at_6 m (b + 1) (nI (T b - 48))) = _ := p6_sign_y (c := 44) hT h c2
  obtain ⟨m1, s1, s33, s34, s5⟩ := p6_word (most := 3) (v := nI (T b - 48)) hT h (show b + 2 ≤ L by omega) hw (by omega)
  have hn := wat_le hw (show b + 2 ≤ L by omega)
  have s5 : f6_word 3 (at_6 m (b + 1 + 1) (nI (T b - 48))) = _ := s5
  by_cases c7 : n ≤ 3
  case neg =>
    refine Or.inr ⟨fun H => c7 H.2.2.2, m1, b + 2 + n, nI (T b - 48), fun x0 => ?_, s1⟩
    unfold f6_readsTarget
    rw [at_6i m b v (show 37 ≠ 31 by decide) (by decide), h37, if_neg n4, at_6i m b v (show 35 ≠ 31 by decide) (by decide), h35, f1]
    simp only [Option.bind_some]
    rw [if_neg (show ¬ (1 : Int32) = 0 by decide), f2]
    simp only [Option.bind_some]
    rw [if_neg (show ¬ (1 : Int32) = 0 by decide), s5]
    simp only [Option.bind_some]
    rw [if_neg c7, if_pos z0]
  rw [if_pos c7] at s5
  generalize hD : tdt T L (b + 2 + n) = D
  have hDy : tS T L (b + 2 + n) 46 → D = 1 := fun q => hD.symm.trans (if_pos q)
  have hDn : ¬ tS T L (b + 2 + n) 46 → D = 0 := fun q => hD.symm.trans (if_neg q)
  have dot : f6_sign 46 (at_6 m1 (b + 2 + n) (nI (T b - 48))) = some (nI D, at_6 m1 (b + 2 + n + D) (nI (T b - 48))) := by
    by_cases q : tS T L (b + 2 + n) 46
    · rw [show f6_sign 46 (at_6 m1 (b + 2 + n) (nI (T b - 48))) = _ from p6_sign_y (c := 46) hT (s1.tx h) q, hDy q]; rfl
    · rw [show f6_sign 46 (at_6 m1 (b + 2 + n) (nI (T b - 48))) = _ from p6_sign_n (c := 46) hT (s1.tx h) (by omega) (by omega) q, hDn q]; rfl
  refine Or.inl ⟨⟨c0, c1, c2, c7⟩, m1, s1, s33, fun j hj => s34 j hj (by omega), fun x0 => ?_⟩
  unfold f6_readsTarget
  rw [at_6i m b v (show 37 ≠ 31 by decide) (by decide), h37, if_neg n4, at_6i m b v (show 35 ≠ 31 by decide) (by decide), h35, f1]
  simp only [Option.bind_some]
  rw [if_neg (show ¬ (1 : Int32) = 0 by decide), f2]
  simp only [Option.bind_some]
  rw [if_neg (show ¬ (1 : Int32) = 0 by decide), s5]
  simp only [Option.bind_some]
  rw [if_neg z1]
  simp only [lt_v, at_62]
  rw [dot]
  simp only [Option.bind_some]
  rw [at_6i m1 _ _ (show 37 ≠ 31 by decide) (by decide), s1.1 37 (by decide), h37, nI_1, at_6_k _ _ _ (show 31 ≠ 37 by decide) (by decide)]
