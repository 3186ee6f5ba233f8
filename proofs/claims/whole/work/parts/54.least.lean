theorem p6_isEnd (g : nb) (h : WT g) (n : Nat) (hn : n < 13) (o : ob) (hT : MT o g) : f6_isEnd (nI n) o = some (nI (acc g (g.1 7) n)) := by
  obtain ⟨g0, g1, g2, g3⟩ := h
  obtain ⟨hT1, hT2, hT3⟩ := hT
  obtain ⟨v, e, hv⟩ := wh_fr (st := f6_isEnd_L26 (nI n) o) (fun i (b : Int32) => (b, nI i)) (g.1 7) (fun i v => v = nI (acc g i n)) (b0 := nI (acc g 0 n)) rfl
    (by
      intro v _
      unfold f6_isEnd_L26
      dsimp only
      rw [hT2, if_pos (nI_le (Nat.le_refl _) (by omega))])
    (by
      rintro i v hi rfl
      obtain ⟨m0, m1, -, -⟩ := hT3 i hi
      obtain ⟨b1, b2, -, -⟩ := g3 i hi
      refine ⟨_, ?_, rfl⟩
      have e6 : (6 : Int32) * nI i = nI (6 * i) := by rw [show (6 : Int32) = nI 6 from rfl, nI_mul]
      have e61 : nI (6 * i) + 1 = nI (6 * i + 1) := nI_1 _
      have ac : acc g (i + 1) n = if g.2 9 i = 0 ∧ n = g.2 8 i then 1 else acc g i n := rfl
      unfold f6_isEnd_L26
      dsimp only
      rw [hT2, if_neg (nI_ge hi (by omega)), e6, e61, vin_nI (by omega), gd_p (show 6 * i + 1 < 24 by omega), vin_nI (by omega), gd_p (show 6 * i < 24 by omega), nI_clamp (by omega), nI_clamp (by omega), m0, m1, ac]
      rcases acc_01 g n i with q | q
      · rw [q, if_pos (show nI 0 = (0 : Int32) from rfl)]
        by_cases q1 : g.2 9 i = 0
        · rw [q1, if_pos (show nI 0 = (0 : Int32) from rfl)]
          by_cases q2 : n = g.2 8 i
          · rw [if_pos (show nI (g.2 8 i) = nI n by rw [q2]), if_pos ⟨rfl, q2⟩]
            simp only [Option.bind_some, lt_v, nI_1]
            rfl
          · rw [if_neg (show ¬ nI (g.2 8 i) = nI n from fun h => q2 ((nI_eq (by omega) (by omega)).mp h).symm), if_neg (fun h => q2 h.2)]
            simp only [Option.bind_some, lt_v, nI_1]
            rfl
        · rw [if_neg (show ¬ nI (g.2 9 i) = (0 : Int32) from fun h => q1 ((nI_eq (by omega) (by decide)).mp (show nI (g.2 9 i) = nI 0 from h))), if_neg (fun h => q1 h.1)]
          simp only [Option.bind_some, lt_v, nI_1]
          rfl
      · rw [q, if_neg (show ¬ nI 1 = (0 : Int32) by decide)]
        simp only [Option.bind_some, lt_v, nI_1]
        split <;> rfl)
  unfold f6_isEnd
  have e0 : (if nI n = o.1 0 then some (1 : Int32) else (if nI n = o.1 0 + 1 then some 1 else some 0)) = some (nI (acc g 0 n)) := by
    rw [hT1, nI_1]
    unfold acc
    by_cases q : n = g.1 0
    · rw [if_pos (by rw [q]), if_pos (Or.inl q)]; rfl
    · rw [if_neg (fun h => q ((nI_eq (by omega) (by omega)).mp h))]
      by_cases q2 : n = g.1 0 + 1
      · rw [if_pos (by rw [q2]), if_pos (Or.inr q2)]; rfl
      · rw [if_neg (fun h => q2 ((nI_eq (by omega) (by omega)).mp h)), if_neg (by omega)]; rfl
  rw [e0]
  simp only [Option.bind_some]
  have e : wh (f6_isEnd_L26 (nI n) o) (nI (acc g 0 n), 0) = some (1, (v, nI (g.1 7))) := e
  rw [e, hv]
  simp only [Option.bind_some]
  rcases acc_01 g n (g.1 7) with q | q <;> rw [q] <;> rfl
theorem p6_leastRead (mx : Bool) (b : Nat) (hb : b < 2 ^ 31) (hm : (mx = true) ↔ b = 2) (w : Nat → Nat) (g : nb) (hc : WC g) (o : ob) (h7 : ∀ i, i < g.1 14 → o.2 7 i = nI (g.2 15 i)) (h14 : ∀ k, k < 676 → o.2 14 k = cd (w k)) (h18 : ∀ k, k < 13 → o.2 18 k = cd (st0 (g.1 13) k))
    (hB : ∀ i, i < g.1 14 → ∀ fr to, fr < 13 → to < 13 → rs mx w g i fr < 1000000000 → w (52 * fr + 13 * g.2 15 (g.1 14 - 1 - i) + to) < 1000000000 → jn mx (rs mx w g i fr) (w (52 * fr + 13 * g.2 15 (g.1 14 - 1 - i) + to)) < 1000000000) :
    ∃ o', wh (f6_least_L15 (nI b)) (dn (g.1 14) 0, o) = some (1, (dn (g.1 14) (g.1 14), o')) ∧ o'.1 = o.1 ∧ (∀ k, k ≠ 18 → k ≠ 19 → o'.2 k = o.2 k) ∧ ∀ k, k < 13 → o'.2 18 k = cd (rs mx w g (g.1 14) k) := by
  obtain ⟨o', e, h1, h2, h3⟩ := wh_fr (st := f6_least_L15 (nI b)) (fun i (b : ob) => (dn (g.1 14) i, b)) (g.1 14) (fun i z => z.1 = o.1 ∧ (∀ k, k ≠ 18 → k ≠ 19 → z.2 k = o.2 k) ∧ ∀ k, k < 13 → z.2 18 k = cd (rs mx w g i k)) (b0 := o) ⟨rfl, fun _ _ _ => rfl, h18⟩
    (by
      intro z _
      unfold f6_least_L15
      dsimp only
      rw [dn_end, if_pos (by decide)])
    (by
      rintro i z hi ⟨k1, k2, r1⟩
      have hx := hc.2.2 (g.1 14 - 1 - i) (by omega)
      have hh := hc.2.1
      obtain ⟨z', e, k3, k4, r2⟩ := p6_reads mx b hb hm (g.2 15 (g.1 14 - 1 - i)) hx w _ z r1 (by rw [k2 14 (by decide) (by decide)]; exact h14) (hB i hi)
      refine ⟨z', ?_, k3.trans k1, fun k q1 q2 => (k4 k q1 q2).trans (k2 k q1 q2), r2⟩
      unfold f6_least_L15
      dsimp only
      rw [dn_s hi, dn_lt hi, if_neg (show ¬ nI (g.1 14 - 1 - i) < (0 : Int32) from nI_nlt (a := g.1 14 - 1 - i) (b := 0) (by omega) (by omega)), vin_nI (by omega), gd_p (show g.1 14 - 1 - i < 12 by omega), nI_clamp (by omega), k2 7 (by decide) (by decide), h7 _ (by omega), e]
      simp only [Option.bind_some, lt_v])
  exact ⟨o', e, h1, h2, h3⟩
theorem p6_least (mx : Bool) (b : Nat) (hb : b < 2 ^ 31) (hm : (mx = true) ↔ b = 2) (w : Nat → Nat) (g : nb) (h : WT g) (hc : WC g) (o : ob) (hT : MT o g) (h5 : o.1 5 = nI (g.1 13)) (h6 : o.1 6 = nI (g.1 14)) (h7 : ∀ i, i < g.1 14 → o.2 7 i = nI (g.2 15 i)) (h14 : ∀ k, k < 676 → o.2 14 k = cd (w k))
    (hB : ∀ i, i < g.1 14 → ∀ fr to, fr < 13 → to < 13 → rs mx w g i fr < 1000000000 → w (52 * fr + 13 * g.2 15 (g.1 14 - 1 - i) + to) < 1000000000 → jn mx (rs mx w g i fr) (w (52 * fr + 13 * g.2 15 (g.1 14 - 1 - i) + to)) < 1000000000) :
    ∃ o', f6_least (nI b) o = some (pI (prc mx w g), o') ∧ o'.1 = o.1 ∧ ∀ k, k ≠ 18 → k ≠ 19 → o'.2 k = o.2 k := by
  have hc1 := hc.1
  have g1 := h.2.1
  obtain ⟨a, ea, a1, a2, a3⟩ := p6_stands (g.1 13) (by omega) o
  obtain ⟨r, er, r1, r2, r3⟩ := p6_leastRead mx b hb hm w g hc a (by rw [a2 7 (by decide)]; exact h7) (by rw [a2 14 (by decide)]; exact h14) a3 hB
  have kr1 : r.1 = o.1 := r1.trans a1
  have kr2 : ∀ k, k ≠ 18 → k ≠ 19 → r.2 k = o.2 k := fun k q1 q2 => (r2 k q1 q2).trans (a2 k q1)
  have hT' : MT r g := ⟨by rw [kr1]; exact hT.1, by rw [kr1]; exact hT.2.1, by rw [kr2 4 (by decide) (by decide)]; exact hT.2.2⟩
  obtain ⟨v, e, hv⟩ := wh_fr (st := f6_least_L40 r) (fun i (b : Int32) => (b, nI i)) 13 (fun i v => v = cd (mn (fun n => if acc g (g.1 7) n = 1 then rs mx w g (g.1 14) n else 1000000000) i)) (b0 := cd 1000000000) rfl
    (by
      intro v _
      unfold f6_least_L40
      dsimp only
      rw [if_pos (by decide)])
    (by
      rintro i v hi rfl
      have e18 := r3 i hi
      have ei := p6_isEnd g h i hi r hT'
      refine ⟨_, ?_, rfl⟩
      rw [mn_succ]
      unfold f6_least_L40
      dsimp only
      rw [if_neg (show ¬ (13 : Int32) ≤ nI i from nI_ge (a := i) (b := 13) hi (by decide)), ei]
      simp only [Option.bind_some]
      have lm := mn_le_FR (fun n => if acc g (g.1 7) n = 1 then rs mx w g (g.1 14) n else 1000000000) i
      generalize mn (fun n => if acc g (g.1 7) n = 1 then rs mx w g (g.1 14) n else 1000000000) i = m at lm ⊢
      rcases acc_01 g i (g.1 7) with q | q
      · rw [q, if_pos (show nI 0 = (0 : Int32) from rfl), if_neg (show ¬ (0 = 1) by decide), Nat.min_eq_left lm]
        simp only [Option.bind_some, lt_v, nI_1]
      · rw [q, if_neg (show ¬ nI 1 = (0 : Int32) by decide), if_pos rfl, vin_nI (by omega), gd_p (show i < 13 by omega), nI_clamp (by omega), e18]
        by_cases q2 : rs mx w g (g.1 14) i < 1000000000
        · rw [if_neg (cd_nn q2), cd_lt q2, p6_lesser m _ q2]
          simp only [Option.bind_some, lt_v, nI_1]
          rw [gd_p (show i < 13 by omega)]
          rfl
        · rw [if_pos (cd_ng (by omega)), Nat.min_eq_left (by omega)]
          simp only [Option.bind_some, lt_v, nI_1])
  refine ⟨r, ?_, kr1, kr2⟩
  unfold f6_least
  rw [h5, ea]
  simp only [Option.bind_some, lt_v]
  rw [a1, h6, dn_0, er]
  simp only [Option.bind_some]
  have e : wh (f6_least_L40 r) (-1, 0) = some (1, (v, nI 13)) := by rw [cd_FR] at e; exact e
  rw [e, hv]
  simp only [Option.bind_some]
  show (if (0 : Int32) ≤ cd (prc mx w g) then some (cd (prc mx w g), r) else some (-4, r)) = some (pI (prc mx w g), r)
  unfold pI
  by_cases q : 1000000000 ≤ prc mx w g
  · rw [if_pos q, cd_ge q, if_neg (by decide)]; rfl
  · rw [if_neg q, cd_lt (by omega), if_pos (show (0 : Int32) ≤ nI (prc mx w g) from nI_le (a := 0) (Nat.zero_le _) (by omega))]
