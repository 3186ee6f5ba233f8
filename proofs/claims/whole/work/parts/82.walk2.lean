/-! walks: the call -/
def WKI (g : nb) (m0 : ob) (n i : Nat) (s : Int32 × Int32 × ob) (t : Int32 × ob) : Prop := i ≤ n ∧ s.1 = nI i ∧ s.2.1 = nI i ∧ t.1 = nI i ∧ ∃ g', WF g' ∧ TW s.2.2 g' ∧ MW t.2 g' ∧ ST g' g ∧ (∀ k, k ≠ 5 → k ≠ 6 → t.2.1 k = m0.1 k) ∧ ∀ k, k ≠ 7 → t.2.2 k = m0.2 k
theorem k46_walk (g : nb) (m0 : ob) (z n : Nat) (hz : z < 10000) (hn : n ≤ 60) : ∀ mm s t, (∃ i, mm = n - i ∧ WKI g m0 n i s t) → (∃ k j s' t', f5_walk_L50 (nI z) (nI n) s = some (k + 1, s') ∧ f6_walk_L44 (nI z) (nI n) t = some (j + 1, t') ∧ ∃ i, WKI g m0 n i s' t') ∨ (∃ m' s' t', m' < mm ∧ f5_walk_L50 (nI z) (nI n) s = some (0, s') ∧ f6_walk_L44 (nI z) (nI n) t = some (0, t') ∧ ∃ i, m' = n - i ∧ WKI g m0 n i s' t') := by
  rintro mm ⟨a, b, d⟩ ⟨c, m1⟩ ⟨i, rfl, hi, ha, hb, hc, g', hW, hd, hm, hs, hf1, hf2⟩
  dsimp only at ha hb hc hd hm hf1 hf2
  subst ha hb hc
  have h10 := hW.2.1.2.1
  have h3 := hW.1.2.1
  obtain ⟨c1, h12, c3⟩ := hW.2.2.1
  by_cases q : i = n
  · refine Or.inl ⟨1, 0, (nI i, nI i, d), (nI i, m1), ?_, ?_, i, hi, rfl, rfl, rfl, g', hW, hd, hm, hs, hf1, hf2⟩
    · unfold f5_walk_L50
      dsimp only
      rw [if_pos (nI_le (by omega) (by omega))]
    · unfold f6_walk_L44
      dsimp only
      rw [if_pos (nI_le (by omega) (by omega))]
  · have hlt : i < n := by omega
    have hD := drx_lt z i
    have dr := p5_drawn (z := z) (k := i) hz (by omega)
    have s5 : f5_walk_L50 (nI z) (nI n) (nI i, nI i, d) = (f4_choose (nI (drx z i / 4)) d).bind fun q15 => (if q15 = (-1) then (some (2, (nI i, nI i, d))) else ((f4_heightAfter q15 d).bind fun q17 => (if q17 ≤ 12 then ((f4_apply q15 d).bind fun q19 => lt (nI i + 1) fun y20 => lt (nI i + 1) fun y21 => some (0, (y20, y21, q19))) else (some (1, (nI i, nI i, d)))))) := by
      unfold f5_walk_L50
      dsimp only
      rw [if_neg (nI_ge hlt (by omega)), dr]
      simp only [Option.bind_some]
    have s6 : f6_walk_L44 (nI z) (nI n) (nI i, m1) = (f6_walks (nI z) (nI i) m1).bind fun q14 => (if q14.1 = 0 then (some (1, (nI i, q14.2))) else (lt (nI i + 1) fun y16 => some (0, (y16, q14.2)))) := by
      unfold f6_walk_L44
      dsimp only
      rw [if_neg (nI_ge hlt (by omega))]
    rcases k46_pick hW d m1 hd hm (drx z i / 4) (by omega) with ⟨b1, b2⟩ | ⟨r, f, hr, ha, hf0, hf, b1, b2, b3⟩
    · rw [b1] at s5
      simp only [Option.bind_some] at s5
      rw [if_pos trivial] at s5
      have w6 : f6_walks (nI z) (nI i) m1 = some (0, m1) := by
        unfold f6_walks
        rw [b2]
        simp only [Option.bind_some]
        rw [if_pos trivial]
      rw [w6] at s6
      simp only [Option.bind_some] at s6
      rw [if_pos trivial] at s6
      exact Or.inl ⟨1, 0, _, _, s5, s6, i, hi, rfl, rfl, rfl, g', hW, hd, hm, hs, hf1, hf2⟩
    · obtain ⟨a1, a2, a3, a4⟩ := hW.2.1.1 r hr
      obtain ⟨m1', m2', m3', m4', m5', m6'⟩ := hm.2.1 r hr
      have l2 := lw_len (w := g'.2 5 r)
      have hpos : 0 < g'.1 14 := by
        unfold apl at ha
        exact (decide_eq_true_iff.mp ha).1
      have es : nI (g'.1 14) - 1 = nI (g'.1 14 - 1) := nI_sub (a := g'.1 14) (b := 1) (by omega)
      have hh : f4_heightAfter (nI r) d = some (nI (g'.1 14 - 1 + (lw (g'.2 5 r)).length)) := by
        unfold f4_heightAfter
        rw [vin_nI (by omega), gd_p (show r < 10 by omega), nI_clamp (by omega), hd.2.2.2.2.2.1 5 r hr (by omega) (by omega), p5_lettersIn _ a4]
        simp only [Option.bind_some]
        rw [hd.2.2.2.2.1, es, nI_add]
      rw [b1] at s5
      simp only [Option.bind_some] at s5
      rw [if_neg (show ¬ nI r = -1 from nI_ne_neg (b := 1) (by omega) (by decide) (by decide)), hh] at s5
      simp only [Option.bind_some] at s5
      have e7 : (7 : Int32) * nI r = nI (7 * r) := by rw [show (7 : Int32) = nI 7 from rfl, nI_mul]
      have e73 : nI (7 * r) + 3 = nI (7 * r + 3) := nI_add _ 3
      have nf : ¬ nI f = 0 := nIz (by omega) (by omega)
      have w6 : f6_walks (nI z) (nI i) m1 = if nI (g'.1 14 - 1 + (lw (g'.2 5 r)).length) ≤ 12 then ((f6_steps (nI r) m1).bind fun q7 => some (1, q7)) else (some (0, m1)) := by
        unfold f6_walks
        rw [b2]
        simp only [Option.bind_some]
        rw [if_neg nf, show nzl (nI f).toInt64 = true from by rw [lI_of (by omega)]; exact lI_nz hf0 (by omega), gd_t, p6_drawn hz (by omega) hf, b3]
        simp only [Option.bind_some]
        rw [e7, e73, vin_nI (by omega), gd_p (show 7 * r + 3 < 70 by omega), nI_clamp (by omega), hm.2.2.2.2.1, es, m4', nI_add]
      rw [w6] at s6
      by_cases qf : g'.1 14 - 1 + (lw (g'.2 5 r)).length ≤ 12
      · have le12 : nI (g'.1 14 - 1 + (lw (g'.2 5 r)).length) ≤ 12 := nI_le (b := 12) qf (by decide)
        obtain ⟨d', ed, td⟩ := p4_apply hW hr hpos qf d hd
        obtain ⟨m', e6, tm, mi, mr⟩ := p6_steps hW hr hpos qf m1 hm
        rw [if_pos le12, ed] at s5
        simp only [Option.bind_some, lt_v] at s5
        rw [if_pos le12, e6] at s6
        simp only [Option.bind_some, lt_v] at s6
        rw [if_neg (show ¬ (1 : Int32) = 0 by decide)] at s6
        rw [nI_1] at s5 s6
        refine Or.inr ⟨n - (i + 1), _, _, by omega, s5, s6, i + 1, rfl, by omega, rfl, rfl, rfl, after g' r, nst_WF hW hr hpos qf, td, tm, hs, fun k k1 k2 => ?_, fun k k1 => ?_⟩
        · exact (mi k k1 k2).trans (hf1 k k1 k2)
        · exact (mr k k1).trans (hf2 k k1)
      · have nle : ¬ nI (g'.1 14 - 1 + (lw (g'.2 5 r)).length) ≤ 12 := nI_ge (a := 12) (b := g'.1 14 - 1 + (lw (g'.2 5 r)).length) (by omega) (by omega)
        rw [if_neg nle] at s5 s6
        simp only [Option.bind_some] at s6
        rw [if_pos trivial] at s6
        exact Or.inl ⟨0, 0, _, _, s5, s6, i, hi, rfl, rfl, rfl, g', hW, hd, hm, hs, hf1, hf2⟩
section WALK
variable {ROK : ob → nb → Prop} {x sc now draft net paces route m : ob} {past saved : Nat → ob} {g : nb}
theorem RG.mod (H : RG ROK x sc now draft past saved net paces route m g) {m' draft' : ob} (hm' : MW m' g) (hF' : FL draft') (e9 : m'.1 9 = m.1 9) (e11 : m'.1 11 = m.1 11) (e30 : m'.1 30 = m.1 30) (r10 : m'.2 10 = m.2 10) (r12 : m'.2 12 = m.2 12) (r29 : m'.2 29 = m.2 29) : RG ROK x sc now draft' past saved net paces route m' g := by
  obtain ⟨hW, ht, hm, hX, hP, hK, hF, hN, hV, hR⟩ := H
  refine ⟨hW, ht, hm', ?_, ?_, ?_, hF', hN, hV, hR⟩
  · unfold RX; rw [e30, r29]; exact hX
  · unfold RP; rw [e9, r10]; exact hP
  · unfold RK; rw [e11, r12]; exact hK
theorem in6 (a b c : Int32) : f6_in a b c = if a < b then some 0 else if c < a then some 0 else some 1 := rfl
theorem rq_walk (H : RG ROK x sc now draft past saved net paces route m g) (x0 x1 x2 : Int32) : ∃ ans draft' m', f5_walk x0 x1 x2 x now draft = some (ans, draft') ∧ f6_walk x0 x1 x2 m = some (ans, m') ∧ RG ROK x sc now draft' past saved net paces route m' g := by
  have H2 := H
  obtain ⟨hW, ht, hm, -⟩ := H2
  have bad : f5_walk x0 x1 x2 x now draft = some (-1, draft) → f6_walk x0 x1 x2 m = some (-1, m) → ∃ ans draft' m', f5_walk x0 x1 x2 x now draft = some (ans, draft') ∧ f6_walk x0 x1 x2 m = some (ans, m') ∧ RG ROK x sc now draft' past saved net paces route m' g := fun a b => ⟨-1, draft, m, a, b, H⟩
  by_cases h1 : x0 < 0
  · refine bad ?_ ?_
    · unfold f5_walk
      rw [if_pos h1]
    · unfold f6_walk
      rw [in6, if_pos h1]
      simp only [Option.bind_some]
      rw [if_pos trivial]
  by_cases h2 : 9999 < x0
  · refine bad ?_ ?_
    · unfold f5_walk
      rw [if_neg h1, if_pos h2]
    · unfold f6_walk
      rw [in6, if_neg h1, if_pos h2]
      simp only [Option.bind_some]
      rw [if_pos trivial]
  have i1 : f6_in x0 0 9999 = some 1 := by rw [in6, if_neg h1, if_neg h2]
  by_cases h3 : x1 < 1
  · refine bad ?_ ?_
    · unfold f5_walk
      rw [if_neg h1, if_neg h2, if_pos h3]
    · unfold f6_walk
      rw [i1]
      simp only [Option.bind_some]
      rw [if_neg (by decide), in6, if_pos h3]
      simp only [Option.bind_some]
      rw [if_pos trivial]
  by_cases h4 : 60 < x1
  · refine bad ?_ ?_
    · unfold f5_walk
      rw [if_neg h1, if_neg h2, if_neg h3, if_pos h4]
    · unfold f6_walk
      rw [i1]
      simp only [Option.bind_some]
      rw [if_neg (by decide), in6, if_neg h3, if_pos h4]
      simp only [Option.bind_some]
      rw [if_pos trivial]
  have i2 : f6_in x1 1 60 = some 1 := by rw [in6, if_neg h3, if_neg h4]
  by_cases h5 : x2 < 0
  · refine bad ?_ ?_
    · unfold f5_walk
      rw [if_neg h1, if_neg h2, if_neg h3, if_neg h4, if_pos h5]
    · unfold f6_walk
      rw [i1]
      simp only [Option.bind_some]
      rw [if_neg (by decide), i2]
      simp only [Option.bind_some]
      rw [if_neg (by decide), in6, if_pos h5]
      simp only [Option.bind_some]
      rw [if_pos trivial]
  by_cases h7 : 2 < x2
  · have h6 : ¬ x2 ≤ 2 := Int32.not_le.mpr h7
    refine bad ?_ ?_
    · unfold f5_walk
      rw [if_neg h1, if_neg h2, if_neg h3, if_neg h4, if_neg h5, if_neg h6]
    · unfold f6_walk
      rw [i1]
      simp only [Option.bind_some]
      rw [if_neg (by decide), i2]
      simp only [Option.bind_some]
      rw [if_neg (by decide), in6, if_neg h5, if_pos (Int32.not_le.mp h6)]
      simp only [Option.bind_some]
      rw [if_pos trivial]
  have h6 : x2 ≤ 2 := Int32.not_lt.mp h7
  have i3 : f6_in x2 0 2 = some 1 := by rw [in6, if_neg h5, if_neg (Int32.not_lt.mpr h6)]
  obtain ⟨z, hz, ez⟩ : ∃ z, z < 10000 ∧ x0 = nI z := by
    rcases xI x0 with h | ⟨a, ha, e⟩
    · exact absurd h h1
    · refine ⟨a, ?_, e⟩
      apply Classical.byContradiction
      intro h
      exact h2 (by rw [e]; exact nI_lt (a := 9999) (b := a) (by omega) ha)
  obtain ⟨n, hn, en⟩ : ∃ n, n ≤ 60 ∧ x1 = nI n := by
    rcases xI x1 with h | ⟨a, ha, e⟩
    · exact absurd (Int32.lt_trans h (by decide)) h3
    · refine ⟨a, ?_, e⟩
      apply Classical.byContradiction
      intro h
      exact h4 (by rw [e]; exact nI_lt (a := 60) (b := a) (by omega) ha)
  obtain ⟨d0, ed0, hd0⟩ := copyTW draft now ht hW
  obtain ⟨m0, em0, n1, n2, n3, n4⟩ := writes_before 0 (by omega) m hm
  have hm0 : MW m0 g := hm.cg (fun k _ => by rw [n1]) (fun k hk => n2 k (by omega))
  obtain ⟨k, j, s', t', e1, e2, i, hi, hs1, hs2, ht1, g', hW', hd', hm', hs', hf1, hf2⟩ := wh_two (fun mm s t => ∃ i, mm = n - i ∧ WKI g m0 n i s t) (fun s t => ∃ i, WKI g m0 n i s t) (k46_walk g m0 z n hz hn) n (nI 0, nI 0, d0) (nI 0, m0) ⟨0, by omega, Nat.zero_le _, rfl, rfl, rfl, g, hW, hd0, hm0, ST.rf g, fun _ _ _ => rfl, fun _ _ => rfl⟩
  rw [← ez, ← en] at e1 e2
  obtain ⟨m2, em2, mw2, f1, f2⟩ := reads_before 0 (by omega) t'.2 hm' hW hs' (by rw [hf2 28 (by decide)]; exact n4)
  have s14 : s'.2.2.1 14 = t'.2.1 6 := hd'.2.2.2.2.1.trans hm'.2.2.2.2.1.symm
  have s13 : s'.2.2.1 13 = t'.2.1 5 := hd'.2.2.2.1.trans hm'.2.2.2.1.symm
  refine ⟨if x2 = 0 then nI i else if x2 = 1 then t'.2.1 6 else t'.2.1 5, s'.2.2, m2, ?_, ?_, H.mod mw2 hd'.2.2.2.2.2.2.2 ?_ ?_ ?_ ?_ ?_ ?_⟩
  · have e1 : wh (f5_walk_L50 x0 x1) (0, 0, d0) = _ := e1
    unfold f5_walk
    rw [if_neg h1, if_neg h2, if_neg h3, if_neg h4, if_neg h5, if_pos h6, ed0]
    simp only [Option.bind_some]
    rw [e1]
    simp only [Option.bind_some]
    rw [hs1, s14, s13, ite_self]
    by_cases q0 : x2 = 0
    · rw [if_pos q0, if_pos q0]
    · by_cases q1 : x2 = 1
      · rw [if_neg q0, if_neg q0, if_pos q1, if_pos q1]
      · rw [if_neg q0, if_neg q0, if_neg q1, if_neg q1]
  · have e2 : wh (f6_walk_L44 x0 x1) (0, m0) = _ := e2
    have em0 : f6_writes_before 0 m = some m0 := em0
    have em2 : f6_readsBack_before 0 t'.2 = some m2 := em2
    unfold f6_walk
    rw [i1]
    simp only [Option.bind_some]
    rw [if_neg (by decide), i2]
    simp only [Option.bind_some]
    rw [if_neg (by decide), i3]
    simp only [Option.bind_some]
    rw [if_neg (by decide), em0]
    simp only [Option.bind_some]
    rw [e2]
    simp only [Option.bind_some]
    rw [em2, ht1]
    by_cases q0 : x2 = 0
    · rw [if_pos q0, if_pos q0]; rfl
    · by_cases q1 : x2 = 1
      · rw [if_neg q0, if_neg q0, if_pos q1, if_pos q1]; rfl
      · rw [if_neg q0, if_neg q0, if_neg q1, if_neg q1]; rfl
  · rw [f1 9 (by decide) (by decide) (by decide) (by decide), hf1 9 (by decide) (by decide), n1]
  · rw [f1 11 (by decide) (by decide) (by decide) (by decide), hf1 11 (by decide) (by decide), n1]
  · rw [f1 30 (by decide) (by decide) (by decide) (by decide), hf1 30 (by decide) (by decide), n1]
  · rw [f2 10 (by decide) (by decide), hf2 10 (by decide), n2 10 (by decide)]
  · rw [f2 12 (by decide) (by decide), hf2 12 (by decide), n2 12 (by decide)]
  · rw [f2 29 (by decide) (by decide), hf2 29 (by decide), n2 29 (by decide)]
end WALK
