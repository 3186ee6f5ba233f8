/-! one item: the reference, doing it -/
theorem MW.gi_ {m m' : ob} (h : MW m (gi 2)) {s : Nat} (h0 : m'.1 0 = nI s) (h1 : ∀ k, 1 ≤ k → k < 9 → m'.1 k = m.1 k) : MW m' (gi s) := by
  obtain ⟨⟨t1, t2, t3⟩, t4, t5, t6, t7, t8, t9, t10, t11⟩ := h
  refine ⟨⟨h0, ?_, fun i hi => absurd hi (Nat.not_lt_zero _)⟩, fun r hr => absurd hr (Nat.not_lt_zero _), ?_, ?_, ?_, ?_, fun i hi => absurd hi (Nat.not_lt_zero _), fun r hr => absurd hr (Nat.not_lt_zero _), fun i hi => absurd hi (Nat.not_lt_zero _)⟩
  · rw [h1 3 (by decide) (by decide)]; exact t2
  · rw [h1 1 (by decide) (by decide)]; exact t5
  · rw [h1 5 (by decide) (by decide)]; exact t6
  · rw [h1 6 (by decide) (by decide)]; exact t7
  · rw [h1 8 (by decide) (by decide)]; exact t8
theorem MW.gm_ {m m' : ob} {g : nb} (h : MW m g) {v : Nat} (h8 : m'.1 8 = nI v) (h1 : ∀ k, k < 8 → m'.1 k = m.1 k) (h2 : m'.2 = m.2) : MW m' (gm g v) := by
  obtain ⟨⟨t1, t2, t3⟩, t4, t5, t6, t7, t8, t9, t10, t11⟩ := h
  refine ⟨⟨?_, ?_, ?_⟩, ?_, ?_, ?_, ?_, h8, ?_, ?_, ?_⟩
  · rw [h1 0 (by decide)]; exact t1
  · rw [h1 3 (by decide)]; exact t2
  · rw [h2]; exact t3
  · unfold MR; rw [h2]; exact t4
  · rw [h1 1 (by decide)]; exact t5
  · rw [h1 5 (by decide)]; exact t6
  · rw [h1 6 (by decide)]; exact t7
  · rw [h2]; exact t9
  · rw [h2]; exact t10
  · rw [h2]; exact t11
theorem p6_item1 {T : Nat → Nat} {L a a' : Nat} {v : Int32} {g g' : nb} (hT : txt T L) {m : ob} (h : tx_6 m T L) (ha : a < L) (hW : WF g) (hc : cnt6 m g) (hm : MW m g) (h0 : a = 0 → g = gi 2) (hx : nx T L a g = some (a', g')) :
    ∃ m' v', f6_readsItem (if a = 0 then 1 else 0) 1 (at_6 m a v) = some (1, at_6 m' a' v') ∧ fr1 m m' ∧ cnt6 m' g' ∧ MW m' g' := by
  have hl := hT.1
  have ht := hT.2 a ha
  have h3 := hW.1.2.1
  obtain ⟨c35, c36, c37⟩ := hc
  have n99 : (nI (T a) = 99 ↔ T a = 99) := kind_eq (by omega) 99 (by decide)
  have n109 : (nI (T a) = 109 ↔ T a = 109) := kind_eq (by omega) 109 (by decide)
  have n110 : (nI (T a) = 110 ↔ T a = 110) := kind_eq (by omega) 110 (by decide)
  have n114 : (nI (T a) = 114 ↔ T a = 114) := kind_eq (by omega) 114 (by decide)
  have n116 : (nI (T a) = 116 ↔ T a = 116) := kind_eq (by omega) 116 (by decide)
  generalize hF : f6_readsItem (if a = 0 then 1 else 0) 1 (at_6 m a v) = F
  unfold f6_readsItem at hF
  rw [at_61, vin_nI (by omega), gd_p (show a < 200 by omega), nI_clamp (by omega), at_6r, h.2 a ha, at_6s] at hF
  simp only [lt_v] at hF
  unfold nx at hx
  by_cases k3 : T a = 110
  · rw [if_pos (n110.mpr k3)] at hF
    rw [if_neg (show ¬ T a = 99 by omega), if_neg (show ¬ T a = 109 by omega), if_pos k3] at hx
    by_cases c : a = 0 ∧ tD T L (a + 1) 1 4 ∧ tS T L (a + 2) 59
    case neg => rw [if_neg c] at hx; cases hx
    rw [if_pos c] at hx
    cases hx
    obtain ⟨ca, c1, c2⟩ := c
    have hg := h0 ca
    have e : f6_readsStates (if a = 0 then 1 else 0) 1 (at_6 m (a + 1) v) = some (1, sI (at_6 (sI m 35 (nI (T (a + 1) - 48))) (a + 2) (nI (T (a + 1) - 48))) 0 (nI (T (a + 1) - 48))) := by
      unfold f6_readsStates
      rw [if_pos ca, if_neg (by decide), show f6_figure 1 4 (at_6 m (a + 1) v) = _ from p6_fig_y (lo := 1) (hi := 4) hT h (by omega) (by omega) (by omega) c1]
      simp only [Option.bind_some]
      rw [if_neg (by decide)]
      simp only [lt_v]
      rw [if_neg (by decide), at_62, at_6_k _ _ _ (show 31 ≠ 35 by decide) (by decide)]
      rfl
    generalize hX : sI (at_6 (sI m 35 (nI (T (a + 1) - 48))) (a + 2) (nI (T (a + 1) - 48))) 0 (nI (T (a + 1) - 48)) = X at e
    have Xi : ∀ k, 1 ≤ k → k < 31 → X.1 k = m.1 k := fun k k1 k2 => by
      rw [← hX]
      show (if k = 0 then _ else (at_6 _ _ _).1 k) = _
      rw [if_neg (by omega), at_6i _ _ _ (by omega) (by omega)]
      show (if k = 35 then _ else m.1 k) = _
      rw [if_neg (by omega)]
    have X2 : X.2 = m.2 := by rw [← hX]; rfl
    have fX : fr1 m X := ⟨fun k k1 k2 => Xi k (by omega) k2, fun k _ _ _ _ => by rw [X2]⟩
    rw [e] at hF
    have hF := hF.symm.trans (p6_tail hT (fX.tx h) (show a + 2 ≤ L by omega) (by rw [← hX]; rfl))
    rw [if_pos c2] at hF
    rw [hg] at hm
    have mX : MW X (gi (T (a + 1) - 48)) := hm.gi_ (by rw [← hX]; rfl) (fun k k1 k2 => Xi k k1 (by omega))
    refine ⟨X, _, hF, fX, ⟨by rw [← hX]; rfl, ?_, ?_⟩, mX⟩
    · have : X.1 36 = m.1 36 := by rw [← hX]; rfl
      rw [this, c36, hg]; rfl
    · have : X.1 37 = m.1 37 := by rw [← hX]; rfl
      rw [this, c37, hg]; rfl
  rw [if_neg (fun e => k3 (n110.mp e))] at hF
  by_cases k4 : T a = 114
  · rw [if_pos (n114.mpr k4)] at hF
    rw [if_neg (show ¬ T a = 99 by omega), if_neg (show ¬ T a = 109 by omega), if_neg k3, if_pos k4] at hx
    have w := run_ok T L (a + 1 + 6)
    generalize hr : run_ T L (a + 1 + 6) = n at w hx
    by_cases c : rcf T L (a + 1) g n ∧ tS T L (a + 1 + 8 + n) 59
    case neg => rw [if_neg c] at hx; cases hx
    rw [if_pos c] at hx
    cases hx
    obtain ⟨c1, c2⟩ := c
    rcases p6_rule (v := v) hT h (show a + 1 ≤ L by omega) hW c35 c36 w 1 with ⟨-, m', s, e⟩ | ⟨c, -⟩
    case inr => exact absurd c1 c
    rw [if_neg (by decide)] at e
    have fX : fr0 m (at_6 (sI m' 36 (nI (g.1 1 + 1))) (a + 1 + 8 + n) (nI (T (a + 1 + 7 + n) - 48))) := s.fr.tr ((kset (by decide)).tr (fr0.at_ _ _ _))
    generalize hX : at_6 (sI m' 36 (nI (g.1 1 + 1))) (a + 1 + 8 + n) (nI (T (a + 1 + 7 + n) - 48)) = X at e fX
    have X35 : X.1 35 = m'.1 35 := by rw [← hX]; rfl
    have X36 : X.1 36 = nI (g.1 1 + 1) := by rw [← hX]; rfl
    have X37 : X.1 37 = m'.1 37 := by rw [← hX]; rfl
    have X31 : X.1 31 = nI (a + 1 + 8 + n) := by rw [← hX]; rfl
    obtain ⟨Y, eY, mY, y1, y2⟩ := p6_enters (fX.MW hm) c1.1 (T (a + 1) - 48) (T (a + 1 + 2) - 97) (T (a + 1 + 4) - 48) (wcd T (a + 1 + 6) n) (T (a + 1 + 7 + n) - 48) (wcd_lt w c1.2.2.2.2.2.2.2.1)
    rw [eY] at e
    have fY : fr1 m Y := fX.to1.tr ⟨fun k k1 k2 => y1 k (by omega), fun k k1 _ _ _ => y2 k k1⟩
    rw [e] at hF
    have hF := hF.symm.trans (p6_tail hT (fY.tx h) (show a + 1 + 8 + n ≤ L by have := c2.1; omega) ((y1 31 (by decide)).trans X31))
    rw [if_pos c2] at hF
    refine ⟨Y, _, hF.trans (by rw [show a + 1 + 8 + n + 1 = a + 1 + 9 + n by omega]), fY, ⟨?_, ?_, ?_⟩, mY⟩
    · rw [y1 35 (by decide), X35, s.1 35 (by decide)]; exact c35
    · rw [y1 36 (by decide), X36]; rfl
    · rw [y1 37 (by decide), X37, s.1 37 (by decide)]; exact c37
  rw [if_neg (fun e => k4 (n114.mp e))] at hF
  by_cases k5 : T a = 116
  · rw [if_pos (n116.mpr k5)] at hF
    rw [if_neg (show ¬ T a = 99 by omega), if_neg (show ¬ T a = 109 by omega), if_neg k3, if_neg k4, if_pos k5] at hx
    have w := run_ok T L (a + 1 + 2)
    generalize hr : run_ T L (a + 1 + 2) = n at w hx
    by_cases c : tcf T L (a + 1) g n ∧ tS T L (a + 1 + 2 + n + tdt T L (a + 1 + 2 + n)) 59
    case neg => rw [if_neg c] at hx; cases hx
    rw [if_pos c] at hx
    cases hx
    obtain ⟨c1, c2⟩ := c
    rcases p6_target (v := v) hT h (show a + 1 ≤ L by omega) hW c35 c37 w with ⟨-, m', s, s33, s34, e⟩ | ⟨c, -⟩
    case inr => exact absurd c1 c
    have e := e 1
    rw [if_neg (by decide)] at e
    have fX : fr0 m (at_6 (sI m' 37 (nI (g.1 7 + 1))) (a + 1 + 2 + n + tdt T L (a + 1 + 2 + n)) (nI (T (a + 1) - 48))) := s.fr.tr ((kset (by decide)).tr (fr0.at_ _ _ _))
    have hD : tdt T L (a + 1 + 2 + n) = 0 ∨ tdt T L (a + 1 + 2 + n) = 1 := by
      by_cases q : tS T L (a + 1 + 2 + n) 46
      · exact Or.inr (if_pos q)
      · exact Or.inl (if_neg q)
    generalize hX : at_6 (sI m' 37 (nI (g.1 7 + 1))) (a + 1 + 2 + n + tdt T L (a + 1 + 2 + n)) (nI (T (a + 1) - 48)) = X at e fX
    have X35 : X.1 35 = m'.1 35 := by rw [← hX]; rfl
    have X36 : X.1 36 = m'.1 36 := by rw [← hX]; rfl
    have X37 : X.1 37 = nI (g.1 7 + 1) := by rw [← hX]; rfl
    have X31 : X.1 31 = nI (a + 1 + 2 + n + tdt T L (a + 1 + 2 + n)) := by rw [← hX]; rfl
    have X33 : X.1 33 = nI n := by rw [← hX]; exact s33
    have XR : X.2 = m'.2 := by rw [← hX]; rfl
    obtain ⟨Y, eY, mY, y1, y2⟩ := p6_putTarget hW (fX.MW hm) c1.1 (T (a + 1) - 48) n (tdt T L (a + 1 + 2 + n)) c1.2.2.2 hD (fun j => T (a + 1 + 2 + j) - 97) X33 (fun j hj => by rw [XR]; exact s34 j hj)
    rw [eY] at e
    have fY : fr1 m Y := fX.to1.tr ⟨fun k k1 k2 => y1 k (by omega), fun k _ k1 _ _ => y2 k k1⟩
    rw [e] at hF
    have hF := hF.symm.trans (p6_tail hT (fY.tx h) (show a + 1 + 2 + n + tdt T L (a + 1 + 2 + n) ≤ L by have := c2.1; omega) ((y1 31 (by decide)).trans X31))
    rw [if_pos c2] at hF
    refine ⟨Y, _, hF.trans (by rw [show a + 1 + 2 + n + tdt T L (a + 1 + 2 + n) + 1 = a + 1 + 3 + n + tdt T L (a + 1 + 2 + n) by omega]), fY, ⟨?_, ?_, ?_⟩, mY⟩
    · rw [y1 35 (by decide), X35, s.1 35 (by decide)]; exact c35
    · rw [y1 36 (by decide), X36, s.1 36 (by decide)]; exact c36
    · rw [y1 37 (by decide), X37]; rfl
  rw [if_neg (fun e => k5 (n116.mp e))] at hF
  by_cases k1 : T a = 99
  · rw [if_pos (n99.mpr k1)] at hF
    rw [if_pos k1] at hx
    have w := run_ok T L (a + 1 + 2)
    generalize hr : run_ T L (a + 1 + 2) = n at w hx
    by_cases c : ccf T L (a + 1) g n ∧ tS T L (a + 1 + 2 + n) 59
    case neg => rw [if_neg c] at hx; cases hx
    rw [if_pos c] at hx
    cases hx
    obtain ⟨c1, c2⟩ := c
    rcases p6_conf (v := v) hT h (show a + 1 ≤ L by omega) hW c35 w with ⟨-, m', s, s33, s34, e⟩ | ⟨c, -⟩
    case inr => exact absurd c1 c
    have e := e 1
    rw [if_neg (by decide)] at e
    have fX : fr0 m (at_6 m' (a + 1 + 2 + n) (nI (T (a + 1) - 48))) := s.fr.tr (fr0.at_ _ _ _)
    generalize hX : at_6 m' (a + 1 + 2 + n) (nI (T (a + 1) - 48)) = X at e fX
    have X35 : X.1 35 = m'.1 35 := by rw [← hX]; rfl
    have X36 : X.1 36 = m'.1 36 := by rw [← hX]; rfl
    have X37 : X.1 37 = m'.1 37 := by rw [← hX]; rfl
    have X31 : X.1 31 = nI (a + 1 + 2 + n) := by rw [← hX]; rfl
    have X33 : X.1 33 = nI n := by rw [← hX]; exact s33
    have XR : X.2 = m'.2 := by rw [← hX]; rfl
    obtain ⟨Y, eY, mY, y1, y2⟩ := p6_putConf (fX.MW hm) (T (a + 1) - 48) n c1.2.2 (fun j => T (a + 1 + 2 + j) - 97) X33 (fun j hj => by rw [XR]; exact s34 j hj)
    rw [eY] at e
    have fY : fr1 m Y := fX.to1.tr ⟨fun k k1 k2 => y1 k (by omega) (by omega), fun k _ _ k1 _ => y2 k k1⟩
    rw [e] at hF
    have hF := hF.symm.trans (p6_tail hT (fY.tx h) (show a + 1 + 2 + n ≤ L by have := c2.1; omega) ((y1 31 (by decide) (by decide)).trans X31))
    rw [if_pos c2] at hF
    refine ⟨Y, _, hF.trans (by rw [show a + 1 + 2 + n + 1 = a + 1 + 3 + n by omega]), fY, ⟨?_, ?_, ?_⟩, mY⟩
    · rw [y1 35 (by decide) (by decide), X35, s.1 35 (by decide)]; exact c35
    · rw [y1 36 (by decide) (by decide), X36, s.1 36 (by decide)]; exact c36
    · rw [y1 37 (by decide) (by decide), X37, s.1 37 (by decide)]; exact c37
  rw [if_neg (fun e => k1 (n99.mp e))] at hF
  rw [if_neg k1] at hx
  by_cases k2 : T a = 109
  · rw [if_pos (n109.mpr k2)] at hF
    rw [if_pos k2] at hx
    by_cases c : tD T L (a + 1) 0 3 ∧ tS T L (a + 2) 59
    case neg => rw [if_neg c] at hx; cases hx
    rw [if_pos c] at hx
    cases hx
    obtain ⟨c1, c2⟩ := c
    rw [show f6_figure 0 3 (at_6 m (a + 1) v) = _ from p6_fig_y (lo := 0) (hi := 3) hT h (by omega) (by omega) (by omega) c1] at hF
    generalize hX : sI (at_6 m (a + 2) (nI (T (a + 1) - 48))) 8 (nI (T (a + 1) - 48)) = X
    have Xi : ∀ k, k ≠ 8 → k < 31 → X.1 k = m.1 k := fun k k1 k2 => by
      rw [← hX]
      show (if k = 8 then _ else (at_6 _ _ _).1 k) = _
      rw [if_neg k1, at_6i _ _ _ (by omega) (by omega)]
    have X2 : X.2 = m.2 := by rw [← hX]; rfl
    have fX : fr1 m X := ⟨fun k k1 k2 => Xi k (by omega) k2, fun k _ _ _ _ => by rw [X2]⟩
    have hF : (if (1 : Int32) = 0 then (some ((0 : Int32), sI (at_6 m (a + 2) (nI (T (a + 1) - 48))) 8 (nI (T (a + 1) - 48)))) else ((f6_sign 59 (sI (at_6 m (a + 2) (nI (T (a + 1) - 48))) 8 (nI (T (a + 1) - 48)))).bind fun q6 => (if q6.1 = 0 then (some (0, q6.2)) else (some (1, q6.2))))) = F := hF
    rw [hX] at hF
    have hF := hF.symm.trans (p6_tail hT (fX.tx h) (show a + 2 ≤ L by omega) (by rw [← hX]; rfl))
    rw [if_pos c2] at hF
    refine ⟨X, _, hF, fX, ⟨?_, ?_, ?_⟩, hm.gm_ (by rw [← hX]; rfl) (fun k hk => Xi k (by omega) (by omega)) X2⟩
    · have : X.1 35 = m.1 35 := by rw [← hX]; rfl
      rw [this]; exact c35
    · have : X.1 36 = m.1 36 := by rw [← hX]; rfl
      rw [this]; exact c36
    · have : X.1 37 = m.1 37 := by rw [← hX]; rfl
      rw [this]; exact c37
  rw [if_neg k2, if_neg k3, if_neg k4, if_neg k5] at hx
  cases hx
