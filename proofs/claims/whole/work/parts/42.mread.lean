theorem cd_neg {a : Nat} (h : 1000000000 ≤ a) : cd a < nI 0 := by rw [cd_ge h]; decide
theorem cd_nneg {a : Nat} (h : a < 1000000000) : ¬ cd a < nI 0 := by rw [cd_lt h]; exact nI_nlt (by omega) (by omega)
theorem p6_reads_a (mx : Bool) (b : Nat) (hb : b < 2 ^ 31) (hm : (mx = true) ↔ b = 2) (x to : Nat) (hx : x < 4) (hto : to < 13) (w rd : Nat → Nat) (o : ob) (h18 : ∀ k, k < 13 → o.2 18 k = cd (rd k)) (h14 : ∀ k, k < 676 → o.2 14 k = cd (w k)) (h19 : o.2 19 to = cd 1000000000)
    (hB : ∀ fr, fr < 13 → rd fr < 1000000000 → w (52 * fr + 13 * x + to) < 1000000000 → jn mx (rd fr) (w (52 * fr + 13 * x + to)) < 1000000000) :
    ∃ t, wh (f6_reads_L18 (nI b) (nI x) (nI to)) (0, o) = some (1, t) ∧ t.2.1 = o.1 ∧ (∀ k, k ≠ 19 → t.2.2 k = o.2 k) ∧ (∀ k, k ≠ to → t.2.2 19 k = o.2 19 k) ∧ t.2.2 19 to = cd (rdm mx w rd x to) := by
  obtain ⟨k, t, e, q, q1, q2, q3, q4⟩ := wh_meas (st := f6_reads_L18 (nI b) (nI x) (nI to)) (fun m z => ∃ i, m = 13 - i ∧ i ≤ 13 ∧ z.1 = nI i ∧ z.2.1 = o.1 ∧ (∀ k, k ≠ 19 → z.2.2 k = o.2 k) ∧ (∀ k, k ≠ to → z.2.2 19 k = o.2 19 k) ∧ z.2.2 19 to = cd (mn (fun fr => jn mx (rd fr) (w (52 * fr + 13 * x + to))) i)) (fun k z => k = 0 ∧ z.2.1 = o.1 ∧ (∀ k, k ≠ 19 → z.2.2 k = o.2 k) ∧ (∀ k, k ≠ to → z.2.2 19 k = o.2 19 k) ∧ z.2.2 19 to = cd (rdm mx w rd x to))
    (by
      rintro m ⟨z1, z2⟩ ⟨i, rfl, hi, rfl, h1, h2, h3, h4⟩
      dsimp only at h1 h2 h3 h4
      unfold f6_reads_L18
      dsimp only
      by_cases hb13 : i = 13
      · subst hb13
        exact Or.inl ⟨0, (nI 13, z2), rfl, rfl, h1, h2, h3, h4⟩
      · have e18 : z2.2 18 i = cd (rd i) := by rw [h2 18 (by decide)]; exact h18 i (by omega)
        have e14 : z2.2 14 (52 * i + 13 * x + to) = cd (w (52 * i + 13 * x + to)) := by rw [h2 14 (by decide)]; exact h14 _ (by omega)
        by_cases hr : 1000000000 ≤ rd i
        · refine Or.inr ⟨13 - (i + 1), (nI (i + 1), z2), by omega, ?_, i + 1, rfl, by omega, rfl, h1, h2, h3, ?_⟩
          · simp (disch := omega) only [nI_lit, nI_add, nI_mul, nI_clamp, vin_nI, nI_leI, nI_ltI, nI_eq, nI_sub, gd_t, gd_p, lt_v, if_true, if_false, if_pos, if_neg, Option.bind_some, p6_place, e18, e14, cd_neg hr]
          · rw [h4]
            simp only [mn_succ, jn_a hr, Nat.min_eq_left (mn_le_FR _ _)]
        · have hr : rd i < 1000000000 := by omega
          by_cases hw : 1000000000 ≤ w (52 * i + 13 * x + to)
          · refine Or.inr ⟨13 - (i + 1), (nI (i + 1), z2), by omega, ?_, i + 1, rfl, by omega, rfl, h1, h2, h3, ?_⟩
            · have a1 := cd_nneg hr
              have a2 := cd_neg hw
              simp (disch := omega) only [nI_lit, nI_add, nI_mul, nI_clamp, vin_nI, nI_leI, nI_ltI, nI_eq, nI_sub, gd_t, gd_p, lt_v, if_true, if_false, if_pos, if_neg, Option.bind_some, p6_place, e18, e14, a1, a2]
            · rw [h4]
              simp only [mn_succ, jn_b hw, Nat.min_eq_left (mn_le_FR _ _)]
          · have hw : w (52 * i + 13 * x + to) < 1000000000 := by omega
            have hj := hB i (by omega) hr hw
            have a1 := cd_nneg hr
            have a2 := cd_nneg hw
            refine Or.inr ⟨13 - (i + 1), (nI (i + 1), sA z2 19 to (cd (mn (fun fr => jn mx (rd fr) (w (52 * fr + 13 * x + to))) (i + 1)))), by omega, ?_, i + 1, rfl, by omega, rfl, h1, ?_, ?_, ?_⟩
            · have m1 := p6_made mx b hb hm _ _ hr hw
              have l1 := p6_lesser (mn (fun fr => jn mx (rd fr) (w (52 * fr + 13 * x + to))) i) _ hj
              rw [← cd_lt hr, ← cd_lt hw] at m1
              simp (disch := omega) only [nI_lit, nI_add, nI_mul, nI_clamp, vin_nI, nI_leI, nI_ltI, nI_eq, nI_sub, gd_t, gd_p, lt_v, if_true, if_false, if_pos, if_neg, Option.bind_some, p6_place, e18, e14, a1, a2, m1, h4, l1, mn_succ]
            · intro k hk
              simp only [sI_1, sI_2, sA_1, sA_2, sR_1, sR_2, upd_at, sL_1, sL_2, rL_uL, updL_at, if_neg hk]
              exact h2 k hk
            · intro k hk
              simp only [sI_1, sI_2, sA_1, sA_2, sR_1, sR_2, upd_at, sL_1, sL_2, rL_uL, updL_at, if_true, if_neg hk]
              exact h3 k hk
            · simp only [sI_1, sI_2, sA_1, sA_2, sR_1, sR_2, upd_at, sL_1, sL_2, rL_uL, updL_at, if_true])
    13 (nI 0, o) ⟨0, rfl, by omega, rfl, rfl, fun _ _ => rfl, fun _ _ => rfl, h19⟩
  subst q
  exact ⟨t, e, q1, q2, q3, q4⟩
theorem p6_reads (mx : Bool) (b : Nat) (hb : b < 2 ^ 31) (hm : (mx = true) ↔ b = 2) (x : Nat) (hx : x < 4) (w rd : Nat → Nat) (o : ob) (h18 : ∀ k, k < 13 → o.2 18 k = cd (rd k)) (h14 : ∀ k, k < 676 → o.2 14 k = cd (w k))
    (hB : ∀ fr to, fr < 13 → to < 13 → rd fr < 1000000000 → w (52 * fr + 13 * x + to) < 1000000000 → jn mx (rd fr) (w (52 * fr + 13 * x + to)) < 1000000000) :
    ∃ o', f6_reads (nI b) (nI x) o = some o' ∧ o'.1 = o.1 ∧ (∀ k, k ≠ 18 → k ≠ 19 → o'.2 k = o.2 k) ∧ ∀ k, k < 13 → o'.2 18 k = cd (rdm mx w rd x k) := by
  obtain ⟨k, t, e, q, q1, q2, q3⟩ := wh_meas (st := f6_reads_L2 (nI b) (nI x)) (fun m z => ∃ i, m = 13 - i ∧ i ≤ 13 ∧ z.1 = nI i ∧ z.2.1 = o.1 ∧ (∀ k, k ≠ 19 → z.2.2 k = o.2 k) ∧ ∀ k, k < i → z.2.2 19 k = cd (rdm mx w rd x k)) (fun k z => k = 0 ∧ z.2.1 = o.1 ∧ (∀ k, k ≠ 19 → z.2.2 k = o.2 k) ∧ ∀ k, k < 13 → z.2.2 19 k = cd (rdm mx w rd x k))
    (by
      rintro m ⟨z1, z2⟩ ⟨i, rfl, hi, rfl, h1, h2, h3⟩
      dsimp only at h1 h2 h3
      unfold f6_reads_L2
      dsimp only
      by_cases hb13 : i = 13
      · subst hb13
        exact Or.inl ⟨0, (nI 13, z2), rfl, rfl, h1, h2, h3⟩
      · obtain ⟨t, et, t1, t2, t3, t4⟩ := p6_reads_a mx b hb hm x i hx (by omega) w rd (sA z2 19 i (-(nI 1))) (fun k hk => by
            simp only [sI_1, sI_2, sA_1, sA_2, sR_1, sR_2, upd_at, sL_1, sL_2, rL_uL, updL_at]; rw [if_neg (by decide), h2 18 (by decide)]; exact h18 k hk) (fun k hk => by
            simp only [sI_1, sI_2, sA_1, sA_2, sR_1, sR_2, upd_at, sL_1, sL_2, rL_uL, updL_at]; rw [if_neg (by decide), h2 14 (by decide)]; exact h14 k hk) (by simp only [sI_1, sI_2, sA_1, sA_2, sR_1, sR_2, upd_at, sL_1, sL_2, rL_uL, updL_at, if_true]; rfl) (fun fr h => hB fr i h (by omega))
        refine Or.inr ⟨13 - (i + 1), (nI (i + 1), t.2), by omega, ?_, i + 1, rfl, by omega, rfl, t1.trans h1, fun k hk => ?_, fun k hk => ?_⟩
        · simp (disch := omega) only [nI_lit, nI_add, nI_mul, nI_clamp, vin_nI, nI_leI, nI_ltI, nI_eq, nI_sub, gd_t, gd_p, lt_v, if_true, if_false, if_pos, if_neg, Option.bind_some] at et ⊢
          rw [et]
          rfl
        · rw [t2 k hk]
          simp only [sI_1, sI_2, sA_1, sA_2, sR_1, sR_2, upd_at, sL_1, sL_2, rL_uL, updL_at, if_neg hk]
          exact h2 k hk
        · by_cases q : k = i
          · subst q; exact t4
          · rw [t3 k q]
            simp only [sI_1, sI_2, sA_1, sA_2, sR_1, sR_2, upd_at, sL_1, sL_2, rL_uL, updL_at, if_true, if_neg q]
            exact h3 k (by omega))
    13 (nI 0, o) ⟨0, rfl, by omega, rfl, rfl, fun _ _ => rfl, fun _ h => absurd h (by omega)⟩
  obtain ⟨k', t', e', p, p1, p2, p3⟩ := wh_meas (st := f6_reads_L96) (fun m z => ∃ i, m = 13 - i ∧ i ≤ 13 ∧ z.1 = nI i ∧ z.2.1 = o.1 ∧ (∀ k, k ≠ 18 → z.2.2 k = t.2.2 k) ∧ ∀ k, k < i → z.2.2 18 k = cd (rdm mx w rd x k)) (fun k z => k = 0 ∧ z.2.1 = o.1 ∧ (∀ k, k ≠ 18 → z.2.2 k = t.2.2 k) ∧ ∀ k, k < 13 → z.2.2 18 k = cd (rdm mx w rd x k))
    (by
      rintro m ⟨z1, z2⟩ ⟨i, rfl, hi, rfl, h1, h2, h3⟩
      dsimp only at h1 h2 h3
      unfold f6_reads_L96
      dsimp only
      by_cases hb13 : i = 13
      · subst hb13
        exact Or.inl ⟨0, (nI 13, z2), rfl, rfl, h1, h2, h3⟩
      · refine Or.inr ⟨13 - (i + 1), (nI (i + 1), sA z2 18 i (cd (rdm mx w rd x i))), by omega, ?_, i + 1, rfl, by omega, rfl, h1, fun k hk => ?_, fun k hk => ?_⟩
        · have e19 : z2.2 19 i = cd (rdm mx w rd x i) := by rw [h2 19 (by decide)]; exact q3 i (by omega)
          simp (disch := omega) only [nI_lit, nI_add, nI_mul, nI_clamp, vin_nI, nI_leI, nI_ltI, nI_eq, nI_sub, gd_t, gd_p, lt_v, if_true, if_false, if_pos, if_neg, Option.bind_some, e19]
        · simp only [sI_1, sI_2, sA_1, sA_2, sR_1, sR_2, upd_at, sL_1, sL_2, rL_uL, updL_at, if_neg hk]
          exact h2 k hk
        · simp only [sI_1, sI_2, sA_1, sA_2, sR_1, sR_2, upd_at, sL_1, sL_2, rL_uL, updL_at, if_true]
          by_cases q : k = i
          · subst q; simp
          · rw [if_neg q]; exact h3 k (by omega))
    13 (nI 0, t.2) ⟨0, rfl, by omega, rfl, q1, fun _ _ => rfl, fun _ h => absurd h (by omega)⟩
  subst q
  subst p
  refine ⟨t'.2, ?_, p1, fun k h1 h2 => (p2 k h1).trans (q2 k h2), p3⟩
  unfold f6_reads
  simp only [nI_lit] at e e' ⊢
  rw [e]
  simp only [Option.bind_some]
  rw [e']
  rfl
