/-! one item: the reference, only looking -/
theorem p6_item0 {T : Nat → Nat} {L a : Nat} {v : Int32} {g : nb} (hT : txt T L) {m : ob} (h : tx_6 m T L) (ha : a < L) (hW : WF g) (hc : cnt6 m g) (h0 : a = 0 → g = gi 2) :
    (∃ a' g', nx T L a g = some (a', g') ∧ ∃ m' v', f6_readsItem (if a = 0 then 1 else 0) 0 (at_6 m a v) = some (1, at_6 m' a' v') ∧ fr0 m m' ∧ cnt6 m' g') ∨ (nx T L a g = none ∧ ∃ m', f6_readsItem (if a = 0 then 1 else 0) 0 (at_6 m a v) = some (0, m') ∧ fr0 m m') := by
  have hl := hT.1
  have ht := hT.2 a ha
  have h3 := hW.1.2.1
  obtain ⟨c35, c36, c37⟩ := hc
  have n99 : (nI (T a) = 99 ↔ T a = 99) := kind_eq (by omega) 99 (by decide)
  have n109 : (nI (T a) = 109 ↔ T a = 109) := kind_eq (by omega) 109 (by decide)
  have n110 : (nI (T a) = 110 ↔ T a = 110) := kind_eq (by omega) 110 (by decide)
  have n114 : (nI (T a) = 114 ↔ T a = 114) := kind_eq (by omega) 114 (by decide)
  have n116 : (nI (T a) = 116 ↔ T a = 116) := kind_eq (by omega) 116 (by decide)
  generalize hF : f6_readsItem (if a = 0 then 1 else 0) 0 (at_6 m a v) = F
  unfold f6_readsItem at hF
  rw [at_61, vin_nI (by omega), gd_p (show a < 200 by omega), nI_clamp (by omega), at_6r, h.2 a ha, at_6s] at hF
  simp only [lt_v] at hF
  unfold nx
  have bad : ∀ {m'}, F = some (0, m') → fr0 m m' → (none : Option (Nat × nb)) = none ∧ ∃ m', F = some (0, m') ∧ fr0 m m' := fun e f => ⟨rfl, _, e, f⟩
  by_cases k3 : T a = 110
  · rw [if_pos (n110.mpr k3)] at hF
    rw [if_neg (show ¬ T a = 99 by omega), if_neg (show ¬ T a = 109 by omega), if_pos k3]
    by_cases ca : a = 0
    case neg =>
      have e : f6_readsStates (if a = 0 then 1 else 0) 0 (at_6 m (a + 1) v) = some (0, at_6 m (a + 1) v) := by
        unfold f6_readsStates
        rw [if_neg ca, if_pos rfl]
      rw [e] at hF
      rw [if_neg (fun H => ca H.1)]
      exact Or.inr (bad (hF.symm.trans rfl) (fr0.at_ _ _ _))
    have hg := h0 ca
    by_cases c1 : tD T L (a + 1) 1 4
    case neg =>
      have e : f6_readsStates (if a = 0 then 1 else 0) 0 (at_6 m (a + 1) v) = some (0, at_6 m (a + 1) v) := by
        unfold f6_readsStates
        rw [if_pos ca, if_neg (by decide), show f6_figure 1 4 (at_6 m (a + 1) v) = _ from p6_fig_n (lo := 1) (hi := 4) hT h (by omega) (by omega) (by omega) (by omega) c1]
        simp only [Option.bind_some]
        rw [if_pos trivial]
      rw [e] at hF
      rw [if_neg (fun H => c1 H.2.1)]
      exact Or.inr (bad (hF.symm.trans rfl) (fr0.at_ _ _ _))
    have e : f6_readsStates (if a = 0 then 1 else 0) 0 (at_6 m (a + 1) v) = some (1, at_6 (sI m 35 (nI (T (a + 1) - 48))) (a + 2) (nI (T (a + 1) - 48))) := by
      unfold f6_readsStates
      rw [if_pos ca, if_neg (by decide), show f6_figure 1 4 (at_6 m (a + 1) v) = _ from p6_fig_y (lo := 1) (hi := 4) hT h (by omega) (by omega) (by omega) c1]
      simp only [Option.bind_some]
      rw [if_neg (by decide)]
      simp only [lt_v, if_true]
      rw [sI_self, at_62, at_6_k _ _ _ (show 31 ≠ 35 by decide) (by decide)]
    have fX : fr0 m (at_6 (sI m 35 (nI (T (a + 1) - 48))) (a + 2) (nI (T (a + 1) - 48))) := (kset (by decide)).tr (fr0.at_ _ _ _)
    rw [e] at hF
    have hF := hF.symm.trans (p6_tail hT (fX.tx h) (show a + 2 ≤ L by omega) rfl)
    by_cases c2 : tS T L (a + 2) 59
    · rw [if_pos c2] at hF
      refine Or.inl ⟨_, _, if_pos ⟨ca, c1, c2⟩, _, _, hF, fX, rfl, ?_, ?_⟩
      · rw [at_6i _ _ _ (by decide) (by decide)]
        show m.1 36 = _
        rw [c36, hg]; rfl
      · rw [at_6i _ _ _ (by decide) (by decide)]
        show m.1 37 = _
        rw [c37, hg]; rfl
    · rw [if_neg c2] at hF
      rw [if_neg (fun H => c2 H.2.2)]
      exact Or.inr (bad hF fX)
  rw [if_neg (fun e => k3 (n110.mp e))] at hF
  by_cases k4 : T a = 114
  · rw [if_pos (n114.mpr k4)] at hF
    rw [if_neg (show ¬ T a = 99 by omega), if_neg (show ¬ T a = 109 by omega), if_neg k3, if_pos k4]
    have w := run_ok T L (a + 1 + 6)
    generalize hr : run_ T L (a + 1 + 6) = n at w
    rcases p6_rule (v := v) hT h (show a + 1 ≤ L by omega) hW c35 c36 w 0 with ⟨c1, m', s, e⟩ | ⟨c, m', a', v', e, s⟩
    · rw [if_pos rfl] at e
      have fX : fr0 m (at_6 (sI m' 36 (nI (g.1 1 + 1))) (a + 1 + 8 + n) (nI (T (a + 1 + 7 + n) - 48))) := s.fr.tr ((kset (by decide)).tr (fr0.at_ _ _ _))
      have hx : a + 1 + 8 + n ≤ L := by have := c1.2.2.2.2.2.2.2.2.2.1; omega
      rw [e] at hF
      have hF := hF.symm.trans (p6_tail hT (fX.tx h) hx rfl)
      by_cases c2 : tS T L (a + 1 + 8 + n) 59
      · rw [if_pos c2] at hF
        refine Or.inl ⟨_, _, if_pos ⟨c1, c2⟩, _, _, hF.trans (by rw [show a + 1 + 8 + n + 1 = a + 1 + 9 + n by omega]), fX, ?_, ?_, ?_⟩
        · rw [at_6i _ _ _ (by decide) (by decide)]
          show m'.1 35 = _
          rw [s.1 35 (by decide)]; exact c35
        · rw [at_6i _ _ _ (by decide) (by decide)]; rfl
        · rw [at_6i _ _ _ (by decide) (by decide)]
          show m'.1 37 = _
          rw [s.1 37 (by decide)]; exact c37
      · rw [if_neg c2] at hF
        rw [if_neg (fun H => c2 H.2)]
        exact Or.inr (bad hF fX)
    · rw [e] at hF
      rw [if_neg (fun H => c H.1)]
      exact Or.inr (bad (hF.symm.trans rfl) (s.fr.tr (fr0.at_ _ _ _)))
  rw [if_neg (fun e => k4 (n114.mp e))] at hF
  by_cases k5 : T a = 116
  · rw [if_pos (n116.mpr k5)] at hF
    rw [if_neg (show ¬ T a = 99 by omega), if_neg (show ¬ T a = 109 by omega), if_neg k3, if_neg k4, if_pos k5]
    have w := run_ok T L (a + 1 + 2)
    generalize hr : run_ T L (a + 1 + 2) = n at w
    rcases p6_target (v := v) hT h (show a + 1 ≤ L by omega) hW c35 c37 w with ⟨c1, m', s, -, -, e⟩ | ⟨c, m', a', v', e, s⟩
    · have e := e 0
      rw [if_pos rfl] at e
      have fX : fr0 m (at_6 (sI m' 37 (nI (g.1 7 + 1))) (a + 1 + 2 + n + tdt T L (a + 1 + 2 + n)) (nI (T (a + 1) - 48))) := s.fr.tr ((kset (by decide)).tr (fr0.at_ _ _ _))
      have hx : a + 1 + 2 + n + tdt T L (a + 1 + 2 + n) ≤ L := by
        have h1 := c1.2.2.1.1
        have h2 := wat_le w (show a + 1 + 2 ≤ L by omega)
        by_cases q : tS T L (a + 1 + 2 + n) 46
        · rw [show tdt T L (a + 1 + 2 + n) = 1 from if_pos q]; omega
        · rw [show tdt T L (a + 1 + 2 + n) = 0 from if_neg q]; omega
      rw [e] at hF
      have hF := hF.symm.trans (p6_tail hT (fX.tx h) hx rfl)
      by_cases c2 : tS T L (a + 1 + 2 + n + tdt T L (a + 1 + 2 + n)) 59
      · rw [if_pos c2] at hF
        refine Or.inl ⟨_, _, if_pos ⟨c1, c2⟩, _, _, hF.trans (by rw [show a + 1 + 2 + n + tdt T L (a + 1 + 2 + n) + 1 = a + 1 + 3 + n + tdt T L (a + 1 + 2 + n) by omega]), fX, ?_, ?_, ?_⟩
        · rw [at_6i _ _ _ (by decide) (by decide)]
          show m'.1 35 = _
          rw [s.1 35 (by decide)]; exact c35
        · rw [at_6i _ _ _ (by decide) (by decide)]
          show m'.1 36 = _
          rw [s.1 36 (by decide)]; exact c36
        · rw [at_6i _ _ _ (by decide) (by decide)]; rfl
      · rw [if_neg c2] at hF
        rw [if_neg (fun H => c2 H.2)]
        exact Or.inr (bad hF fX)
    · rw [e 0] at hF
      rw [if_neg (fun H => c H.1)]
      exact Or.inr (bad (hF.symm.trans rfl) (s.fr.tr (fr0.at_ _ _ _)))
  rw [if_neg (fun e => k5 (n116.mp e))] at hF
  by_cases k1 : T a = 99
  · rw [if_pos (n99.mpr k1)] at hF
    rw [if_pos k1]
    have w := run_ok T L (a + 1 + 2)
    generalize hr : run_ T L (a + 1 + 2) = n at w
    rcases p6_conf (v := v) hT h (show a + 1 ≤ L by omega) hW c35 w with ⟨c1, m', s, -, -, e⟩ | ⟨c, m', a', v', e, s⟩
    · have e := e 0
      rw [if_pos rfl] at e
      have fX : fr0 m (at_6 m' (a + 1 + 2 + n) (nI (T (a + 1) - 48))) := s.fr.tr (fr0.at_ _ _ _)
      have hx : a + 1 + 2 + n ≤ L := wat_le w (by have := c1.2.1.1; omega)
      rw [e] at hF
      have hF := hF.symm.trans (p6_tail hT (fX.tx h) hx rfl)
      by_cases c2 : tS T L (a + 1 + 2 + n) 59
      · rw [if_pos c2] at hF
        refine Or.inl ⟨_, _, if_pos ⟨c1, c2⟩, _, _, hF.trans (by rw [show a + 1 + 2 + n + 1 = a + 1 + 3 + n by omega]), fX, ?_, ?_, ?_⟩
        · rw [at_6i _ _ _ (by decide) (by decide), s.1 35 (by decide)]; exact c35
        · rw [at_6i _ _ _ (by decide) (by decide), s.1 36 (by decide)]; exact c36
        · rw [at_6i _ _ _ (by decide) (by decide), s.1 37 (by decide)]; exact c37
      · rw [if_neg c2] at hF
        rw [if_neg (fun H => c2 H.2)]
        exact Or.inr (bad hF fX)
    · rw [e 0] at hF
      rw [if_neg (fun H => c H.1)]
      exact Or.inr (bad (hF.symm.trans rfl) (s.fr.tr (fr0.at_ _ _ _)))
  rw [if_neg (fun e => k1 (n99.mp e))] at hF
  rw [if_neg k1]
  by_cases k2 : T a = 109
  · rw [if_pos (n109.mpr k2)] at hF
    rw [if_pos k2]
    by_cases c1 : tD T L (a + 1) 0 3
    case neg =>
      rw [show f6_figure 0 3 (at_6 m (a + 1) v) = _ from p6_fig_n (lo := 0) (hi := 3) hT h (by omega) (by omega) (by omega) (by omega) c1] at hF
      rw [if_neg (fun H => c1 H.1)]
      exact Or.inr (bad (hF.symm.trans rfl) (fr0.at_ _ _ _))
    rw [show f6_figure 0 3 (at_6 m (a + 1) v) = _ from p6_fig_y (lo := 0) (hi := 3) hT h (by omega) (by omega) (by omega) c1] at hF
    have fX : fr0 m (at_6 m (a + 2) (nI (T (a + 1) - 48))) := fr0.at_ _ _ _
    have e8 : sI (at_6 m (a + 2) (nI (T (a + 1) - 48))) 8 ((at_6 m (a + 2) (nI (T (a + 1) - 48))).1 8) = at_6 m (a + 2) (nI (T (a + 1) - 48)) := sI_self _ _
    have hF : (if (1 : Int32) = 0 then (some ((0 : Int32), sI (at_6 m (a + 2) (nI (T (a + 1) - 48))) 8 ((at_6 m (a + 2) (nI (T (a + 1) - 48))).1 8))) else ((f6_sign 59 (sI (at_6 m (a + 2) (nI (T (a + 1) - 48))) 8 ((at_6 m (a + 2) (nI (T (a + 1) - 48))).1 8))).bind fun q6 => (if q6.1 = 0 then (some (0, q6.2)) else (some (1, q6.2))))) = F := hF
    rw [e8] at hF
    have hF := hF.symm.trans (p6_tail hT (fX.tx h) (show a + 2 ≤ L by omega) rfl)
    by_cases c2 : tS T L (a + 2) 59
    · rw [if_pos c2] at hF
      refine Or.inl ⟨_, _, if_pos ⟨c1, c2⟩, _, _, hF, fX, ?_, ?_, ?_⟩
      · rw [at_6i _ _ _ (by decide) (by decide)]; exact c35
      · rw [at_6i _ _ _ (by decide) (by decide)]; exact c36
      · rw [at_6i _ _ _ (by decide) (by decide)]; exact c37
    · rw [if_neg c2] at hF
      rw [if_neg (fun H => c2 H.2)]
      exact Or.inr (bad hF fX)
  rw [if_neg (fun e => k2 (n109.mp e))] at hF
  rw [if_neg k2, if_neg k3, if_neg k4, if_neg k5]
  exact Or.inr (bad (hF.symm.trans rfl) (fr0.at_ _ _ _))
