theorem p0_far (o : ob) : ∃ z, wh f0_layTargets_L19 (0, o) = some (1, z) ∧ z.2.1 = o.1 ∧ (∀ k, k ≠ 4 → z.2.2 k = o.2 k) ∧ ∀ k, k < 676 → rL (z.2.2 4) k = eL 1000000000 := by
  obtain ⟨k, z, e, q, q1, q2, q3⟩ := wh_meas (st := f0_layTargets_L19) (fun m z => ∃ i, m = 676 - i ∧ i ≤ 676 ∧ z.1 = nI i ∧ z.2.1 = o.1 ∧ (∀ k, k ≠ 4 → z.2.2 k = o.2 k) ∧ ∀ k, k < i → rL (z.2.2 4) k = eL 1000000000) (fun k z => k = 0 ∧ z.2.1 = o.1 ∧ (∀ k, k ≠ 4 → z.2.2 k = o.2 k) ∧ ∀ k, k < 676 → rL (z.2.2 4) k = eL 1000000000)
    (by
      rintro m ⟨z1, z2⟩ ⟨i, rfl, hi, rfl, h1, h2, h3⟩
      dsimp only at h1 h2 h3
      by_cases hb : i = 676
      · subst hb
        exact Or.inl ⟨0, (nI 676, z2), rfl, rfl, h1, h2, h3⟩
      · have hm1 : 676 - (i + 1) < 676 - i := by omega
        have hi1 : i + 1 ≤ 676 := by omega
        refine Or.inr ⟨676 - (i + 1), (nI (i + 1), sL z2 4 i (eL 1000000000)), hm1, ?_, i + 1, rfl, hi1, rfl, h1, fun k hk => ?_, fun k hk => ?_⟩
        · unfold f0_layTargets_L19
          simp (disch := omega) only [nI_lit, nI_add, nI_mul, nI_clamp, vin_nI, nI_leI, nI_ltI, nI_eq, nI_sub, gd_t, gd_p, lt_v, if_true, if_false, if_pos, if_neg, eL_F, eL_Z, eL_leI, eL_ltI, Option.bind_some]
        · simp only [sI_1, sI_2, sA_1, sA_2, sR_1, sR_2, upd_at, sL_1, sL_2, rL_uL, updL_at, if_neg hk]
          exact h2 k hk
        · simp only [sI_1, sI_2, sA_1, sA_2, sR_1, sR_2, upd_at, sL_1, sL_2, rL_uL, updL_at, if_true]
          by_cases q : k = i
          · subst q; rw [if_pos rfl]
          · rw [if_neg q]; exact h3 k (by omega))
    676 (nI 0, o) ⟨0, rfl, by omega, rfl, rfl, fun _ _ => rfl, fun _ h => absurd h (by omega)⟩
  subst q
  exact ⟨z, e, q1, q2, q3⟩
theorem p0_acc0 (g : nb) (hS : g.1 0 ≤ 3) (o : ob) : ∃ z, wh (f0_layTargets_L48 (nI (g.1 0)) (nI (g.1 0 + 1))) (0, o) = some (1, z) ∧ z.2.1 = o.1 ∧ (∀ k, k ≠ 6 → z.2.2 k = o.2 k) ∧ ∀ k, k < 13 → z.2.2 6 k = nI (acc g 0 k) := by
  obtain ⟨k, z, e, q, q1, q2, q3⟩ := wh_meas (st := f0_layTargets_L48 (nI (g.1 0)) (nI (g.1 0 + 1))) (fun m z => ∃ i, m = 13 - i ∧ i ≤ 13 ∧ z.1 = nI i ∧ z.2.1 = o.1 ∧ (∀ k, k ≠ 6 → z.2.2 k = o.2 k) ∧ ∀ k, k < i → z.2.2 6 k = nI (acc g 0 k)) (fun k z => k = 0 ∧ z.2.1 = o.1 ∧ (∀ k, k ≠ 6 → z.2.2 k = o.2 k) ∧ ∀ k, k < 13 → z.2.2 6 k = nI (acc g 0 k))
    (by
      rintro m ⟨z1, z2⟩ ⟨i, rfl, hi, rfl, h1, h2, h3⟩
      dsimp only at h1 h2 h3
      by_cases hb : i = 13
      · subst hb
        exact Or.inl ⟨0, (nI 13, z2), rfl, rfl, h1, h2, h3⟩
      · have hm1 : 13 - (i + 1) < 13 - i := by omega
        have hi1 : i + 1 ≤ 13 := by omega
        refine Or.inr ⟨13 - (i + 1), (nI (i + 1), sA z2 6 i (nI (acc g 0 i))), hm1, ?_, i + 1, rfl, hi1, rfl, h1, fun k hk => ?_, fun k hk => ?_⟩
        · unfold f0_layTargets_L48 acc
          by_cases q1 : i = g.1 0
          · simp (disch := omega) only [nI_lit, nI_add, nI_mul, nI_clamp, vin_nI, nI_leI, nI_ltI, nI_eq, nI_sub, gd_t, gd_p, lt_v, if_true, if_false, if_pos, if_neg, Option.bind_some, q1, bz_1, true_or, or_true]
          · by_cases q2 : i = g.1 0 + 1
            · simp (disch := omega) only [nI_lit, nI_add, nI_mul, nI_clamp, vin_nI, nI_leI, nI_ltI, nI_eq, nI_sub, gd_t, gd_p, lt_v, if_true, if_false, if_pos, if_neg, Option.bind_some, q2, bz_1, true_or, or_true]
            · simp (disch := omega) only [nI_lit, nI_add, nI_mul, nI_clamp, vin_nI, nI_leI, nI_ltI, nI_eq, nI_sub, gd_t, gd_p, lt_v, if_true, if_false, if_pos, if_neg, Option.bind_some, bz_0]
        · simp only [sI_1, sI_2, sA_1, sA_2, sR_1, sR_2, upd_at, sL_1, sL_2, rL_uL, updL_at, if_neg hk]
          exact h2 k hk
        · simp only [sI_1, sI_2, sA_1, sA_2, sR_1, sR_2, upd_at, sL_1, sL_2, rL_uL, updL_at, if_true]
          by_cases q : k = i
          · subst q; rw [if_pos rfl]
          · rw [if_neg q]; exact h3 k (by omega))
    13 (nI 0, o) ⟨0, rfl, by omega, rfl, rfl, fun _ _ => rfl, fun _ h => absurd h (by omega)⟩
  subst q
  exact ⟨z, e, q1, q2, q3⟩
theorem acc_01 (g : nb) (k : Nat) : ∀ t, acc g t k = 0 ∨ acc g t k = 1
  | 0 => by unfold acc; split <;> simp
  | t + 1 => by
    unfold acc; split
    · exact Or.inr rfl
    · exact acc_01 g k t
theorem p0_targets (g : nb) (h : WT g) (tw o : ob) (hT : TT tw g) (h0 : o.1 0 = nI (tg g 0).1) (h4 : ∀ k, k < 676 → rL (o.2 4) k = eL ((tg g 0).2 k)) (h6 : ∀ k, k < 13 → o.2 6 k = nI (acc g 0 k)) :
    ∃ z, wh (f0_layTargets_L94 tw (nI (g.1 0)) (nI (g.1 0 + 1))) (0, o) = some (1, z) ∧ (∀ k, k ≠ 0 → z.2.1 k = o.1 k) ∧ z.2.1 0 = nI (tg g (g.1 7)).1 ∧ (∀ k, k ≠ 4 → k ≠ 6 → z.2.2 k = o.2 k) ∧ (∀ k, k < 676 → rL (z.2.2 4) k = eL ((tg g (g.1 7)).2 k)) ∧ ∀ k, k < 13 → z.2.2 6 k = nI (acc g (g.1 7) k) := by
  have h' := h
  have hT' := hT
  obtain ⟨g0, g1, g2, g3⟩ := h'
  obtain ⟨-, hT2, hT3⟩ := hT'
  obtain ⟨k, z, e, q, q1, q2, q3, q4, q5⟩ := wh_meas (st := f0_layTargets_L94 tw (nI (g.1 0)) (nI (g.1 0 + 1))) (fun m z => ∃ i, m = 4 - i ∧ i ≤ g.1 7 ∧ z.1 = nI i ∧ (∀ k, k ≠ 0 → z.2.1 k = o.1 k) ∧ z.2.1 0 = nI (tg g i).1 ∧ (∀ k, k ≠ 4 → k ≠ 6 → z.2.2 k = o.2 k) ∧ (∀ k, k < 676 → rL (z.2.2 4) k = eL ((tg g i).2 k)) ∧ ∀ k, k < 13 → z.2.2 6 k = nI (acc g i k))
    (fun k z => k = 0 ∧ (∀ k, k ≠ 0 → z.2.1 k = o.1 k) ∧ z.2.1 0 = nI (tg g (g.1 7)).1 ∧ (∀ k, k ≠ 4 → k ≠ 6 → z.2.2 k = o.2 k) ∧ (∀ k, k < 676 → rL (z.2.2 4) k = eL ((tg g (g.1 7)).2 k)) ∧ ∀ k, k < 13 → z.2.2 6 k = nI (acc g (g.1 7) k))
    (by
      rintro m ⟨z1, z2⟩ ⟨i, rfl, hi, rfl, a1, a2, a3, a4, a5⟩
      dsimp only at a1 a2 a3 a4 a5
      by_cases hb : i = g.1 7
      · subst hb
        refine Or.inl ⟨0, (nI (g.1 7), z2), ?_, rfl, a1, a2, a3, a4, a5⟩
        unfold f0_layTargets_L94
        dsimp only
        rw [hT2, if_pos (nI_le (Nat.le_refl _) (by omega))]
      · have hm1 : 4 - (i + 1) < 4 - i := by omega
        have hi1 : i + 1 ≤ g.1 7 := by omega
        have hi7 : i < g.1 7 := by omega
        obtain ⟨b1, b2, b3, b4⟩ := g3 i hi7
        obtain ⟨t8, t9, t10, t11⟩ := hT3 i hi7
        obtain ⟨c1, c2, c3, c4⟩ := tg_ok h i (by omega)
        -- behind the treatment of a target without letters
        obtain ⟨ob, eb, ob1, ob2, ob3, ob4⟩ : ∃ ob : ob, (if nI (g.2 9 i) = 0 then (gd (vin (nI (g.2 8 i)) 13) <| lt (sA z2 6 (nI (g.2 8 i)).toNatClampNeg 1) fun t30 => gd (vin (nI i) 4) <| (if tw.2 10 (nI i).toNatClampNeg = 0 then (some t30) else ((f0_layAnyLetter (nI (g.2 8 i)) (nI (g.1 0 + 1)) t30).bind fun q33 => some q33))) else (some z2)) = some ob ∧ ob.1 = z2.1 ∧ (∀ k, k ≠ 4 → k ≠ 6 → ob.2 k = z2.2 k) ∧ (∀ k, k < 676 → rL (ob.2 4) k = eL ((if g.2 9 i = 0 ∧ g.2 10 i = 1 then an (tg g i).2 (g.2 8 i) (g.1 0 + 1) 4 else (tg g i).2) k)) ∧ ∀ k, k < 13 → ob.2 6 k = nI (acc g (i + 1) k) := by
          by_cases h9 : g.2 9 i = 0
          · have r6 : ∀ k, k < 13 → (sA z2 6 (g.2 8 i) (nI 1)).2 6 k = nI (acc g (i + 1) k) := by
              intro k hk
              simp only [sI_1, sI_2, sA_1, sA_2, sR_1, sR_2, upd_at, sL_1, sL_2, rL_uL, updL_at, if_true, acc, h9, true_and]
              by_cases q : k = g.2 8 i
              · rw [if_pos q, if_pos q]
              · rw [if_neg q, if_neg q]; exact a5 k hk
            rcases b3 with hz | hz
            · refine ⟨sA z2 6 (g.2 8 i) (nI 1), ?_, rfl, fun k k1 k2 => by simp only [sI_1, sI_2, sA_1, sA_2, sR_1, sR_2, upd_at, sL_1, sL_2, rL_uL, updL_at, if_neg k2], fun k hk => ?_, r6⟩
              · rw [hz] at t10
                simp (disch := omega) only [nI_lit, nI_add, nI_mul, nI_clamp, vin_nI, nI_leI, nI_ltI, nI_eq, nI_sub, gd_t, gd_p, lt_v, if_true, if_false, if_pos, if_neg, Option.bind_some, h9, t10]
              · rw [if_neg (by omega)]
                simp only [sI_1, sI_2, sA_1, sA_2, sR_1, sR_2, upd_at, sL_1, sL_2, rL_uL, updL_at]
                rw [if_neg (by decide)]
                exact a4 k hk
            · obtain ⟨oc, ec, d1, d2, d3⟩ := p0_any (g.2 8 i) (g.1 0 + 1) (by omega) (by omega) (sA z2 6 (g.2 8 i) (nI 1)) (tg g i).2 (fun k hk => by simp only [sI_1, sI_2, sA_1, sA_2, sR_1, sR_2, upd_at, sL_1, sL_2, rL_uL, updL_at]; rw [if_neg (by decide)]; exact a4 k hk)
              refine ⟨oc, ?_, d1, fun k k1 k2 => by rw [d2 k k1]; simp only [sI_1, sI_2, sA_1, sA_2, sR_1, sR_2, upd_at, sL_1, sL_2, rL_uL, updL_at, if_neg k2], fun k hk => ?_, fun k hk => by rw [d2 6 (by decide)]; exact r6 k hk⟩
              · rw [hz] at t10
                simp (disch := omega) only [nI_lit, nI_add, nI_mul, nI_clamp, vin_nI, nI_leI, nI_ltI, nI_eq, nI_sub, gd_t, gd_p, lt_v, if_true, if_false, if_pos, if_neg, Option.bind_some, h9, t10, ec]
              · rw [if_pos ⟨h9, hz⟩]
                exact d3 k hk
          · refine ⟨z2, ?_, rfl, fun _ _ _ => rfl, fun k hk => ?_, fun k hk => ?_⟩
            · simp (disch := omega) only [nI_lit, nI_add, nI_mul, nI_clamp, vin_nI, nI_leI, nI_ltI, nI_eq, nI_sub, gd_t, gd_p, lt_v, if_true, if_false, if_pos, if_neg, Option.bind_some]
            · rw [if_neg (fun hh => h9 hh.1)]
              exact a4 k hk
            · simp only [acc]
              rw [if_neg (fun hh => h9 hh.1)]
              exact a5 k hk
        have hw2 : W2 (if g.2 9 i = 0 ∧ g.2 10 i = 1 then an (tg g i).2 (g.2 8 i) (g.1 0 + 1) 4 else (tg g i).2) := by
          split
          · exact an_W2 c3 _ _ _
          · exact c3
        have hnt : NT (tg g i).1 (if g.2 9 i = 0 ∧ g.2 10 i = 1 then an (tg g i).2 (g.2 8 i) (g.1 0 + 1) 4 else (tg g i).2) := by
          split
          · exact an_NT c4 (by omega) (by omega) (by omega) 4 (by omega)
          · exact c4
        obtain ⟨y, ey, y1, y2, y3, y4⟩ := p0_letters g h i hi7 tw ob hT (tg g i).1 _ hw2 hnt c1 (by omega) (by rw [ob1]; exact a2) ob3
        refine Or.inr ⟨4 - (i + 1), (nI (i + 1), y.2.2), hm1, ?_, i + 1, rfl, hi1, rfl, fun k hk => ?_, y2, fun k k1 k2 => ?_, y4, fun k hk => ?_⟩
        · unfold f0_layTargets_L94
          have lst : (if tw.2 10 (nI i).toNatClampNeg = 0 then some (nI (g.1 0)) else some (nI (g.1 0 + 1))) = some (nI (lastOf g i)) := by
            unfold lastOf
            rw [nI_clamp (by omega), t10]
            rcases b3 with hz | hz <;> rw [hz]
            · rfl
            · rfl
          dsimp only
          rw [hT2, if_neg (nI_ge hi7 (by omega)), vin_nI (by omega), gd_p (by omega), lst]
          simp only [Option.bind_some, gd_p (show i < 4 by omega), lt_v]
          rw [vin_nI (a := i) (n := 4) (by omega)] at eb
          simp only [gd_p (show i < 4 by omega), lt_v] at eb
          rw [nI_clamp (show i < 2 ^ 31 by omega)] at eb ⊢
          rw [t8, t9, eb]
          simp only [Option.bind_some]
          rw [ey]
          simp only [Option.bind_some, nI_1]
        · rw [y1 k hk, ob1]; exact a1 k hk
        · rw [y3 k k1, ob2 k k1 k2]; exact a3 k k1 k2
        · rw [y3 6 (by decide)]; exact ob4 k hk)
    4 (nI 0, o) ⟨0, rfl, Nat.zero_le _, rfl, fun _ _ => rfl, h0, fun _ _ _ => rfl, h4, h6⟩
  subst q
  exact ⟨z, e, q1, q2, q3, q4, q5⟩
theorem p0_layTargets (g : nb) (h : WT g) (tw o : ob) (hT : TT tw g) : ∃ o', f0_layTargets o tw = some o' ∧ (∀ k, k ≠ 0 → o'.1 k = o.1 k) ∧ o'.1 0 = nI (tg g (g.1 7)).1 ∧ (∀ k, k ≠ 4 → k ≠ 6 → o'.2 k = o.2 k) ∧ (∀ k, k < 676 → rL (o'.2 4) k = eL ((tg g (g.1 7)).2 k)) ∧ ∀ k, k < 13 → o'.2 6 k = nI (acc g (g.1 7) k) := by
  have h' := h
  obtain ⟨g0, g1, g2, g3⟩ := h'
  obtain ⟨y, ey, y1, y2, y3⟩ := p0_far (sI o 0 (nI (g.1 0 + 2)))
  obtain ⟨u, eu, u1, u2, u3⟩ := p0_acc0 g g1 y.2
  obtain ⟨v, ev, v1, v2, v3⟩ := p0_any (g.1 0 + 1) (g.1 0 + 1) (by omega) (by omega) u.2 (fun _ => 1000000000) (fun k hk => by rw [u2 4 (by decide)]; exact y3 k hk)
  obtain ⟨z, ez, z1, z2, z3, z4, z5⟩ := p0_targets g h tw v hT (by rw [v1, u1, y1]; simp only [sI_1, sI_2, sA_1, sA_2, sR_1, sR_2, upd_at, sL_1, sL_2, rL_uL, updL_at, if_true]; rfl) v3 (fun k hk => by rw [v2 6 (by decide)]; exact u3 k hk)
  refine ⟨z.2, ?_, fun k hk => ?_, z2, fun k k1 k2 => ?_, z4, z5⟩
  · unfold f0_layTargets
    have e0 := hT.1
    simp only [e0, lt_v, nI_1]
    rw [ey]
    simp only [Option.bind_some]
    rw [eu]
    simp only [Option.bind_some]
    rw [ev]
    simp only [Option.bind_some]
    rw [ez]
    rfl
  · rw [z1 k hk, v1, u1, y1]; simp only [sI_1, sI_2, sA_1, sA_2, sR_1, sR_2, upd_at, sL_1, sL_2, rL_uL, updL_at, if_neg hk]
  · rw [z3 k k1 k2, v2 k k1, u2 k k2, y2 k k1]; rfl
