theorem dr_at {mx : Bool} {c : Nat} {rd : Nat → Nat} {base : Nat} {w : Nat → Nat} {i : Nat} (hi : i < 13) : dr mx c rd base w (base + i) = min (w (base + i)) (jn mx c (rd i)) := by
  unfold dr; rw [if_pos ⟨by omega, by omega⟩, Nat.add_sub_cancel_left]
theorem dr_next {mx : Bool} {c : Nat} {rd : Nat → Nat} {base : Nat} {w : Nat → Nat} {i : Nat} (z : Int32) (hn : ¬ dr mx c rd base w (base + i) < w (base + i)) (h6 : z = nI 1 ↔ ∃ k, k < base + i ∧ dr mx c rd base w k < w k) : z = nI 1 ↔ ∃ k, k < base + (i + 1) ∧ dr mx c rd base w k < w k := by
  rw [h6]
  constructor
  · rintro ⟨k, hk, hd⟩; exact ⟨k, by omega, hd⟩
  · rintro ⟨k, hk, hd⟩
    by_cases q : k = base + i
    · subst q; exact absurd hd hn
    · exact ⟨k, by omega, hd⟩
theorem p6_draw (mx : Bool) (b : Nat) (hb : b < 2 ^ 31) (hm : (mx = true) ↔ b = 2) (c r base : Nat) (hr : r < 10) (hc : c < 1000000000) (hbase : base + 13 ≤ 676) (w rd : Nat → Nat) (o : ob) (fr x : Nat) (hbx : base = 52 * fr + 13 * x) (m0 : o.2 2 (7 * r) = nI fr) (m1 : o.2 2 (7 * r + 1) = nI x)
    (h18 : ∀ k, k < 13 → o.2 18 k = cd (rd k)) (h13 : ∀ k, k < 676 → o.2 13 k = cd (w k)) (hw : ∀ k, k < 676 → w k ≤ 1000000000) (hB : ∀ k, k < 13 → rd k < 1000000000 → jn mx c (rd k) < 1000000000) :
    ∃ t, wh (f6_roundBy_L65 (nI b) (nI c) (nI (7 * r))) (0, 0, o) = some (1, t) ∧ t.2.2.1 = o.1 ∧ (∀ k, k ≠ 13 → t.2.2.2 k = o.2 k) ∧ (∀ k, k < 676 → t.2.2.2 13 k = cd (dr mx c rd base w k)) ∧ (t.1 = nI 0 ∨ t.1 = nI 1) ∧ (t.1 = nI 1 ↔ ∃ k, k < 676 ∧ dr mx c rd base w k < w k) := by
  have keyf : ∀ (i : Nat) (z0 : Int32) (z2 : ob), i < 13 → z2.1 = o.1 → (∀ k, k ≠ 13 → z2.2 k = o.2 k) → (∀ k, k < 676 → z2.2 13 k = cd (if k < base + i then dr mx c rd base w k else w k)) → (z0 = nI 0 ∨ z0 = nI 1) → (z0 = nI 1 ↔ ∃ k, k < base + i ∧ dr mx c rd base w k < w k) →
      ∃ z0' z2', f6_roundBy_L65 (nI b) (nI c) (nI (7 * r)) (z0, nI i, z2) = some (0, (z0', nI (i + 1), z2')) ∧ z2'.1 = o.1 ∧ (∀ k, k ≠ 13 → z2'.2 k = o.2 k) ∧ (∀ k, k < 676 → z2'.2 13 k = cd (if k < base + (i + 1) then dr mx c rd base w k else w k)) ∧ (z0' = nI 0 ∨ z0' = nI 1) ∧ (z0' = nI 1 ↔ ∃ k, k < base + (i + 1) ∧ dr mx c rd base w k < w k) := by
    intro i z0 z2 hi h1 h2 h3 h5 h6
    have e18 : z2.2 18 i = cd (rd i) := by rw [h2 18 (by decide)]; exact h18 i hi
    have e2 : z2.2 2 = o.2 2 := h2 2 (by decide)
    have e13 := h3 (base + i) (by omega)
    rw [if_neg (by omega)] at e13
    have w13 := hw (base + i) (by omega)
    have rows : ∀ v : Int32, v = cd (dr mx c rd base w (base + i)) → ∀ k, k < 676 → (sA z2 13 (base + i) v).2 13 k = cd (if k < base + (i + 1) then dr mx c rd base w k else w k) := by
      intro v hv k hk
      simp only [sI_1, sI_2, sA_1, sA_2, sR_1, sR_2, upd_at, sL_1, sL_2, rL_uL, updL_at, if_true]
      by_cases q : k = base + i
      · subst q; rw [if_pos rfl, if_pos (by omega), hv]
      · rw [if_neg q, h3 k hk]
        refine congrArg cd ?_
        by_cases q2 : k < base + i
        · rw [if_pos q2, if_pos (by omega)]
        · rw [if_neg q2, if_neg (by omega)]
    by_cases hri : 1000000000 ≤ rd i
    · have hs : dr mx c rd base w (base + i) = w (base + i) := by rw [dr_at hi, jn_b hri, Nat.min_eq_left w13]
      refine ⟨z0, z2, ?_, h1, h2, ?_, h5, dr_next z0 (by omega) h6⟩
      · have a1 := cd_neg hri
        unfold f6_roundBy_L65
        clear h6 rows
        simp (disch := omega) only [nI_lit, nI_add, nI_mul, nI_clamp, vin_nI, nI_leI, nI_ltI, nI_eq, nI_sub, gd_t, gd_p, lt_v, if_true, if_false, if_pos, if_neg, Option.bind_some, e18, a1]
      · intro k hk
        rw [h3 k hk]
        refine congrArg cd ?_
        by_cases q : k = base + i
        · subst q; rw [if_neg (by omega), if_pos (by omega), hs]
        · by_cases q2 : k < base + i
          · rw [if_pos q2, if_pos (by omega)]
          · rw [if_neg q2, if_neg (by omega)]
    · have hri : rd i < 1000000000 := by omega
      have hj := hB i hi hri
      have mk1 := p6_made mx b hb hm c (rd i) hc hri
      have ls1 := p6_lesser (w (base + i)) (jn mx c (rd i)) hj
      have ed := dr_at (mx := mx) (c := c) (rd := rd) (base := base) (w := w) hi
      rw [← ed] at ls1
      have a1 := cd_nneg hri
      rw [cd_lt hri] at e18 a1
      have e13b : z2.2 13 (52 * fr + 13 * x + i) = cd (w (base + i)) := by rw [← hbx]; exact e13
      refine ⟨if dr mx c rd base w (base + i) < w (base + i) then nI 1 else z0, sA z2 13 (base + i) (cd (dr mx c rd base w (base + i))), ?_, h1, ?_, rows _ rfl, ?_, ?_⟩
      · unfold f6_roundBy_L65
        have hbi : 52 * fr + 13 * x + i = base + i := by rw [hbx]
        rcases h5 with h | h
        · subst h
          by_cases hw2 : 1000000000 ≤ w (base + i)
          · have a2 := cd_neg hw2
            have hlt : dr mx c rd base w (base + i) < w (base + i) := by rw [ed, Nat.min_eq_right (by omega)]; omega
            rw [if_pos hlt]
            clear h6 rows ed hlt
            simp (disch := omega) only [nI_lit, nI_add, nI_mul, nI_clamp, vin_nI, nI_leI, nI_ltI, nI_eq, nI_sub, gd_t, gd_p, lt_v, if_true, if_false, if_pos, if_neg, Option.bind_some, e18, a1, e2, m0, m1, p6_place, hbi, e13, a2, mk1, ls1]
          · have a2 := cd_nneg (a := w (base + i)) (by omega)
            rw [cd_lt (by omega)] at e13 a2 ls1
            by_cases hle : w (base + i) ≤ jn mx c (rd i)
            · have hn : ¬ dr mx c rd base w (base + i) < w (base + i) := by rw [ed, Nat.min_eq_left hle]; omega
              rw [if_neg hn]
              clear h6 rows ed hn
              simp (disch := omega) only [nI_lit, nI_add, nI_mul, nI_clamp, vin_nI, nI_leI, nI_ltI, nI_eq, nI_sub, gd_t, gd_p, lt_v, if_true, if_false, if_pos, if_neg, Option.bind_some, e18, a1, e2, m0, m1, p6_place, hbi, e13, a2, mk1, ls1]
            · have hlt : dr mx c rd base w (base + i) < w (base + i) := by rw [ed, Nat.min_eq_right (by omega)]; omega
              rw [if_pos hlt]
              clear h6 rows ed hlt
              simp (disch := omega) only [nI_lit, nI_add, nI_mul, nI_clamp, vin_nI, nI_leI, nI_ltI, nI_eq, nI_sub, gd_t, gd_p, lt_v, if_true, if_false, if_pos, if_neg, Option.bind_some, e18, a1, e2, m0, m1, p6_place, hbi, e13, a2, mk1, ls1]
        · subst h
          rw [ite_self]
          clear h6 rows ed
          simp (disch := omega) only [nI_lit, nI_add, nI_mul, nI_clamp, vin_nI, nI_leI, nI_ltI, nI_eq, nI_sub, gd_t, gd_p, lt_v, if_true, if_false, if_pos, if_neg, Option.bind_some, e18, a1, e2, m0, m1, p6_place, hbi, e13, mk1, ls1]
      · intro k hk
        simp only [sI_1, sI_2, sA_1, sA_2, sR_1, sR_2, upd_at, sL_1, sL_2, rL_uL, updL_at, if_neg hk]
        exact h2 k hk
      · by_cases q : dr mx c rd base w (base + i) < w (base + i)
        · rw [if_pos q]; exact Or.inr rfl
        · rw [if_neg q]; exact h5
      · by_cases q : dr mx c rd base w (base + i) < w (base + i)
        · rw [if_pos q]; exact ⟨fun _ => ⟨base + i, by omega, q⟩, fun _ => rfl⟩
        · rw [if_neg q]; exact dr_next z0 q h6
  obtain ⟨k, t, e, q, q1, q2, q3, q4, q5⟩ := wh_meas (st := f6_roundBy_L65 (nI b) (nI c) (nI (7 * r))) (fun m z => ∃ i, m = 13 - i ∧ i ≤ 13 ∧ z.2.1 = nI i ∧ z.2.2.1 = o.1 ∧ (∀ k, k ≠ 13 → z.2.2.2 k = o.2 k) ∧ (∀ k, k < 676 → z.2.2.2 13 k = cd (if k < base + i then dr mx c rd base w k else w k)) ∧ (z.1 = nI 0 ∨ z.1 = nI 1) ∧ (z.1 = nI 1 ↔ ∃ k, k < base + i ∧ dr mx c rd base w k < w k))
    (fun k z => k = 0 ∧ z.2.2.1 = o.1 ∧ (∀ k, k ≠ 13 → z.2.2.2 k = o.2 k) ∧ (∀ k, k < 676 → z.2.2.2 13 k = cd (if k < base + 13 then dr mx c rd base w k else w k)) ∧ (z.1 = nI 0 ∨ z.1 = nI 1) ∧ (z.1 = nI 1 ↔ ∃ k, k < base + 13 ∧ dr mx c rd base w k < w k))
    (by
      rintro m ⟨z0, z1, z2⟩ ⟨i, rfl, hi, rfl, h1, h2, h3, h5, h6⟩
      by_cases hb13 : i = 13
      · subst hb13
        exact Or.inl ⟨0, (z0, nI 13, z2), rfl, rfl, h1, h2, h3, h5, h6⟩
      · have hm1 : 13 - (i + 1) < 13 - i := by omega
        have hi1 : i + 1 ≤ 13 := by omega
        obtain ⟨z0', z2', e, g1, g2, g3, g4, g5⟩ := keyf i z0 z2 (by omega) h1 h2 h3 h5 h6
        exact Or.inr ⟨13 - (i + 1), _, hm1, e, i + 1, rfl, hi1, rfl, g1, g2, g3, g4, g5⟩)
    13 (nI 0, nI 0, o) ⟨0, rfl, by omega, rfl, rfl, fun _ _ => rfl, fun k hk => by
        show o.2 13 k = _
        rw [h13 k hk]
        refine congrArg cd ?_
        by_cases q : k < base
        · rw [if_pos (by omega)]; unfold dr; rw [if_neg (by omega)]
        · rw [if_neg (by omega)], Or.inl rfl, fun h => absurd (show nI 0 = nI 1 from h) (by decide), fun ⟨k, hk, hd⟩ => absurd hd (by unfold dr; rw [if_neg (by omega)]; omega)⟩
  subst q
  have far : ∀ k, ¬ k < base + 13 → dr mx c rd base w k = w k := by
    intro k hn
    unfold dr
    rw [if_neg (by omega)]
  refine ⟨t, e, q1, q2, ?_, q4, ?_⟩
  · intro k hk
    rw [q3 k hk]
    refine congrArg cd ?_
    by_cases q : k < base + 13
    · rw [if_pos q]
    · rw [if_neg q, far k q]
  · rw [q5]
    constructor
    · rintro ⟨k, hk, hd⟩; exact ⟨k, by omega, hd⟩
    · rintro ⟨k, hk, hd⟩
      by_cases q : k < base + 13
      · exact ⟨k, q, hd⟩
      · rw [far k q] at hd; omega
theorem p6_roundBy (mx : Bool) (b : Nat) (hb : b < 2 ^ 31) (hm : (mx = true) ↔ b = 2) (B : Nat) (wb w : Nat → Nat) (hB : OKB mx B wb) (g : nb) (S R r c : Nat) (hS : S ≤ 3) (hR : R ≤ 10) (hr : r < R) (hg : WR g S R) (hc : c ≤ 9) (o : ob) (hM : MR o g R) (h14 : ∀ k, k < 676 → o.2 14 k = cd (wb k)) (h13 : ∀ k, k < 676 → o.2 13 k = cd (w k)) (hw : ∀ k, k < 676 → w k ≤ 1000000000) :
    ∃ f o', f6_roundBy (nI r) (nI b) (nI c) o = some (f, o') ∧ o'.1 = o.1 ∧ (∀ k, k ≠ 13 → k ≠ 18 → k ≠ 19 → o'.2 k = o.2 k) ∧ (∀ k, k < 676 → o'.2 13 k = cd (dr mx c (rdw mx wb (g.2 4 r) (g.2 5 r)) (bse g r) w k)) ∧ (f = nI 0 ∨ f = nI 1) ∧ (f = nI 1 ↔ ∃ k, k < 676 ∧ dr mx c (rdw mx wb (g.2 4 r) (g.2 5 r)) (bse g r) w k < w k) := by
  obtain ⟨g2, g3, g4, g5⟩ := hg r hr
  obtain ⟨m0, m1, m2, m3, m4, m6⟩ := hM r hr
  obtain ⟨oa, ea, a1, a2, a3⟩ := p6_stands (g.2 4 r) (by omega) o
  have hMa : MR oa g R := by
    intro r' hr'
    rw [a2 2 (by decide)]
    exact hM r' hr'
  obtain ⟨t, et, t1, t2, t3, t4⟩ := p6_round_w mx b hb hm B wb hB g R r hR hr g5 (by omega) oa hMa (by rw [a2 14 (by decide)]; exact h14) a3
  have t22 : t.2.2 2 = o.2 2 := by rw [t2 2 (by decide) (by decide), a2 2 (by decide)]
  obtain ⟨u, eu, u1, u2, u3, u4, u5⟩ := p6_draw mx b hb hm c r (bse g r) (by omega) (by omega) (by unfold bse; omega) w (rdw mx wb (g.2 4 r) (g.2 5 r)) t.2 (g.2 2 r) (g.2 3 r) rfl (by rw [t22]; exact m0) (by rw [t22]; exact m1) t3 (by rw [t2 13 (by decide) (by decide), a2 13 (by decide)]; exact h13) hw (fun k hk h => by
    by_cases hmx : mx = true
    · exact (jn_bd (by omega) h (Nat.le_refl _) (Nat.le_refl _) (Or.inl hmx)).1
    · have hmf : mx = false := by simpa using hmx
      have h2 := t4 k hk h hmf
      rcases hB.2 with h3 | h3
      · exact absurd h3 hmx
      · exact (jn_bd (by omega) h hc h2 (Or.inr (by omega))).1)
  refine ⟨u.1, u.2.2, ?_, ?_, ?_, u3, u4, u5⟩
  · unfold f6_roundBy
    simp (disch := omega) only [nI_lit, nI_add, nI_mul, nI_clamp, vin_nI, nI_leI, nI_ltI, nI_eq, nI_sub, gd_t, gd_p, lt_v, if_true, if_false, if_pos, if_neg, Option.bind_some, m2, ea] at et eu ⊢
    rw [et]
    simp only [Option.bind_some]
    rw [eu]
    rcases u4 with h | h <;> simp only [Option.bind_some, h, bz_0, bz_1, gd_t]
  · rw [u1, t1, a1]
  · intro k k1 k2 k3
    rw [u2 k k1, t2 k k2 k3, a2 k k2]
