/-! one item: the class -/
def nx (T : Nat → Nat) (L a : Nat) (g : nb) : Option (Nat × nb) :=
  if T a = 99 then (if ccf T L (a + 1) g (run_ T L (a + 1 + 2)) ∧ tS T L (a + 1 + 2 + run_ T L (a + 1 + 2)) 59 then some (a + 1 + 3 + run_ T L (a + 1 + 2), gcf T (a + 1) g (run_ T L (a + 1 + 2))) else none)
  else if T a = 109 then (if tD T L (a + 1) 0 3 ∧ tS T L (a + 2) 59 then some (a + 3, gm g (T (a + 1) - 48)) else none)
  else if T a = 110 then (if a = 0 ∧ tD T L (a + 1) 1 4 ∧ tS T L (a + 2) 59 then some (a + 3, gi (T (a + 1) - 48)) else none)
  else if T a = 114 then (if rcf T L (a + 1) g (run_ T L (a + 1 + 6)) ∧ tS T L (a + 1 + 8 + run_ T L (a + 1 + 6)) 59 then some (a + 1 + 9 + run_ T L (a + 1 + 6), gr T (a + 1) g (run_ T L (a + 1 + 6))) else none)
  else if T a = 116 then (if tcf T L (a + 1) g (run_ T L (a + 1 + 2)) ∧ tS T L (a + 1 + 2 + run_ T L (a + 1 + 2) + tdt T L (a + 1 + 2 + run_ T L (a + 1 + 2))) 59 then some (a + 1 + 3 + run_ T L (a + 1 + 2) + tdt T L (a + 1 + 2 + run_ T L (a + 1 + 2)), gT T L (a + 1) g (run_ T L (a + 1 + 2))) else none)
  else none
theorem gi_WF {s : Nat} (h1 : 1 ≤ s) (h3 : s ≤ 3) : WF (gi s) := by
  refine ⟨⟨h1, h3, Nat.zero_le _, fun t ht => absurd ht (Nat.not_lt_zero _)⟩, ⟨fun r hr => absurd hr (Nat.not_lt_zero _), Nat.zero_le _, fun r hr => absurd hr (Nat.not_lt_zero _)⟩, ⟨?_, Nat.zero_le _, fun i hi => absurd hi (Nat.not_lt_zero _)⟩, Nat.zero_le _⟩
  show 0 < s
  omega
theorem TW.gi_ {d d' : ob} (h : TW d (gi 2)) {s : Nat} (h0 : d'.1 0 = nI s) (h1 : ∀ k, k ≠ 0 → d'.1 k = d.1 k) (h2 : d'.2 = d.2) : TW d' (gi s) := by
  obtain ⟨⟨t1, t2, t3⟩, t4, t5, t6, t7, t8, t9, t10⟩ := h
  refine ⟨⟨h0, ?_, fun i hi => absurd hi (Nat.not_lt_zero _)⟩, ?_, ?_, ?_, ?_, fun k r hr => absurd hr (Nat.not_lt_zero _), fun i hi => absurd hi (Nat.not_lt_zero _), ?_⟩
  · rw [h1 7 (by decide)]; exact t2
  · rw [h1 1 (by decide)]; exact t4
  · rw [h1 12 (by decide)]; exact t5
  · rw [h1 13 (by decide)]; exact t6
  · rw [h1 14 (by decide)]; exact t7
  · rw [h2]; exact t10
theorem TW.gm_ {d : ob} {g : nb} (h : TW d g) (v : Nat) : TW (sI d 12 (nI v)) (gm g v) := by
  obtain ⟨⟨t1, t2, t3⟩, t4, t5, t6, t7, t8, t9, t10⟩ := h
  exact ⟨⟨t1, t2, t3⟩, t4, rfl, t6, t7, t8, t9, t10⟩
theorem gtg_WF {g : nb} (hW : WF g) {p n o : Nat} {w : Nat → Nat} (h7 : g.1 7 < 4) (hp : p < g.1 0) (hn : n ≤ 3) (ho : o = 0 ∨ o = 1) (hw : ∀ j, j < n → w j < 4) : WF (gtg g p n o w) := by
  obtain ⟨⟨a1, a2, a3, a4⟩, b, c, e⟩ := hW
  refine ⟨⟨a1, a2, ?_, fun t ht => ?_⟩, ?_, ?_, e⟩
  · show g.1 7 + 1 ≤ 4
    omega
  · have ht : t < g.1 7 + 1 := ht
    show (if t = g.1 7 then p else g.2 8 t) < g.1 0 ∧ (if t = g.1 7 then n else g.2 9 t) ≤ 3 ∧ ((if t = g.1 7 then o else g.2 10 t) = 0 ∨ (if t = g.1 7 then o else g.2 10 t) = 1) ∧ ∀ j, j < (if t = g.1 7 then n else g.2 9 t) → (if 3 * g.1 7 ≤ 3 * t + j then w (3 * t + j - 3 * g.1 7) else g.2 11 (3 * t + j)) < 4
    by_cases q : t = g.1 7
    · simp only [if_pos q]
      refine ⟨hp, hn, ho, fun j hj => ?_⟩
      rw [if_pos (by omega), show 3 * t + j - 3 * g.1 7 = j by omega]
      exact hw j hj
    · simp only [if_neg q]
      obtain ⟨b1, b2, b3, b4⟩ := a4 t (by omega)
      refine ⟨b1, b2, b3, fun j hj => ?_⟩
      rw [if_neg (by omega)]
      exact b4 j hj
  · exact b
  · exact c
theorem gr_WF {T : Nat → Nat} {L b n : Nat} {g : nb} (hW : WF g) (hw : wat T L (b + 6) n) (h : rcf T L b g n) : WF (gr T b g n) := by
  obtain ⟨c0, c1, c2, c3, c4, c5, c6, c7, c8, c9⟩ := h
  exact ad_WF hW (by omega) (by omega) (by omega) (wcd_lt hw c7) (by omega) c0
theorem gT_WF {T : Nat → Nat} {L b n : Nat} {g : nb} (hW : WF g) (hw : wat T L (b + 2) n) (h : tcf T L b g n) : WF (gT T L b g n) := by
  obtain ⟨c0, c1, c2, c7⟩ := h
  refine gtg_WF hW c0 (by omega) c7 ?_ (fun j hj => ?_)
  · by_cases q : tS T L (b + 2 + n) 46
    · exact Or.inr (if_pos q)
    · exact Or.inl (if_neg q)
  · have := hw.1 j hj
    omega
theorem gcf_WF {T : Nat → Nat} {L b n : Nat} {g : nb} (hW : WF g) (hw : wat T L (b + 2) n) (h : ccf T L b g n) : WF (gcf T b g n) := by
  obtain ⟨c1, c2, c7⟩ := h
  refine cf_WF hW (by omega) (by omega) (fun i hi => ?_)
  have := hw.1 (n - 1 - i) (by omega)
  omega
/-- what an item leaves -/
theorem nx_ok {T : Nat → Nat} {L a a' : Nat} {g g' : nb} (hW : WF g) (h : nx T L a g = some (a', g')) : a < a' ∧ a' ≤ L ∧ WF g' ∧ 0 < a' := by
  unfold nx at h
  by_cases k1 : T a = 99
  · rw [if_pos k1] at h
    by_cases c : ccf T L (a + 1) g (run_ T L (a + 1 + 2)) ∧ tS T L (a + 1 + 2 + run_ T L (a + 1 + 2)) 59
    · rw [if_pos c] at h
      cases h
      have := c.2.1
      exact ⟨by omega, by omega, gcf_WF hW (run_ok T L _) c.1, by omega⟩
    · rw [if_neg c] at h; cases h
  rw [if_neg k1] at h
  by_cases k2 : T a = 109
  · rw [if_pos k2] at h
    by_cases c : tD T L (a + 1) 0 3 ∧ tS T L (a + 2) 59
    · rw [if_pos c] at h
      cases h
      have := c.2.1
      exact ⟨by omega, by omega, ⟨hW.1, hW.2.1, hW.2.2.1, by show T (a + 1) - 48 ≤ 2; omega⟩, by omega⟩
    · rw [if_neg c] at h; cases h
  rw [if_neg k2] at h
  by_cases k3 : T a = 110
  · rw [if_pos k3] at h
    by_cases c : a = 0 ∧ tD T L (a + 1) 1 4 ∧ tS T L (a + 2) 59
    · rw [if_pos c] at h
      cases h
      have := c.2.2.1
      exact ⟨by omega, by omega, gi_WF (by omega) (by omega), by omega⟩
    · rw [if_neg c] at h; cases h
  rw [if_neg k3] at h
  by_cases k4 : T a = 114
  · rw [if_pos k4] at h
    by_cases c : rcf T L (a + 1) g (run_ T L (a + 1 + 6)) ∧ tS T L (a + 1 + 8 + run_ T L (a + 1 + 6)) 59
    · rw [if_pos c] at h
      cases h
      have := c.2.1
      exact ⟨by omega, by omega, gr_WF hW (run_ok T L _) c.1, by omega⟩
    · rw [if_neg c] at h; cases h
  rw [if_neg k4] at h
  by_cases k5 : T a = 116
  · rw [if_pos k5] at h
    by_cases c : tcf T L (a + 1) g (run_ T L (a + 1 + 2)) ∧ tS T L (a + 1 + 2 + run_ T L (a + 1 + 2) + tdt T L (a + 1 + 2 + run_ T L (a + 1 + 2))) 59
    · rw [if_pos c] at h
      cases h
      have := c.2.1
      exact ⟨by omega, by omega, gT_WF hW (run_ok T L _) c.1, by omega⟩
    · rw [if_neg c] at h; cases h
  rw [if_neg k5] at h
  cases h
theorem kind_eq {t : Nat} (ht : t < 200) (k : Nat) (hk : k < 200) : (nI t = nI k ↔ t = k) := nI_eq (by omega) (by omega)
theorem p3_item {T : Nat → Nat} {L a : Nat} {g : nb} (hT : txt T L) {sc : ob} (h : tx_3 sc T L) (ha : a < L) (hW : WF g) {d : ob} (hd : TW d g) (h0 : a = 0 → g = gi 2) :
    (∃ a' g' sc' d', nx T L a g = some (a', g') ∧ f3_readItem (if a = 0 then 1 else 0) (at_3 sc a) d = some (1, at_3 sc' a', d') ∧ sf_3 sc sc' ∧ TW d' g') ∨ (nx T L a g = none ∧ ∃ sc' a', f3_readItem (if a = 0 then 1 else 0) (at_3 sc a) d = some (0, at_3 sc' a', d) ∧ sf_3 sc sc') := by
  have hl := hT.1
  have ht := hT.2 a ha
  have h3 := hW.1.2.1
  have n99 : (nI (T a) = 99 ↔ T a = 99) := kind_eq (by omega) 99 (by decide)
  have n109 : (nI (T a) = 109 ↔ T a = 109) := kind_eq (by omega) 109 (by decide)
  have n110 : (nI (T a) = 110 ↔ T a = 110) := kind_eq (by omega) 110 (by decide)
  have n114 : (nI (T a) = 114 ↔ T a = 114) := kind_eq (by omega) 114 (by decide)
  have n116 : (nI (T a) = 116 ↔ T a = 116) := kind_eq (by omega) 116 (by decide)
  have b0 : bz 0 = true := rfl
  have b1 : bz 1 = true := rfl
  generalize hF : f3_readItem (if a = 0 then 1 else 0) (at_3 sc a) d = F
  unfold f3_readItem at hF
  rw [at_32, vin_nI (by omega), gd_p (show a < 200 by omega), nI_clamp (by omega), at_3r, h.2 a ha, at_3s] at hF
  simp only [lt_v] at hF
  unfold nx
  by_cases k1 : T a = 99
  · rw [if_pos (n99.mpr k1)] at hF
    rw [if_pos k1]
    rcases p3_conf hT h (show a + 1 ≤ L by omega) hW hd (run_ok T L (a + 1 + 2)) with ⟨c1, c2, sc', d', e, s, t⟩ | ⟨c, sc', a', e, s⟩
    · rw [e] at hF
      simp only [Option.bind_some] at hF
      rw [b1, gd_t] at hF
      exact Or.inl ⟨_, _, sc', d', if_pos ⟨c1, c2⟩, hF.symm, s, t⟩
    · rw [e] at hF
      simp only [Option.bind_some] at hF
      rw [b0, gd_t] at hF
      exact Or.inr ⟨if_neg c, sc', a', hF.symm, s⟩
  rw [if_neg (fun e => k1 (n99.mp e))] at hF
  rw [if_neg k1]
  by_cases k2 : T a = 109
  · rw [if_pos (n109.mpr k2)] at hF
    rw [if_pos k2]
    unfold f3_readMode at hF
    by_cases c1 : tD T L (a + 1) 0 3
    case neg =>
      rw [show f3_readDigit 3 (at_3 sc (a + 1)) = _ from p3_digit_n (hi := 3) hT h (by omega) (by omega) c1] at hF
      simp only [Option.bind_some] at hF
      (first | rw [if_pos (by decide)] at hF | rw [if_pos trivial] at hF)
      simp only [Option.bind_some] at hF
      rw [b0, gd_t] at hF
      exact Or.inr ⟨if_neg (fun H => c1 H.1), sc, _, hF.symm, sf_3.rf sc⟩
    rw [show f3_readDigit 3 (at_3 sc (a + 1)) = _ from p3_digit_y (hi := 3) hT h (by omega) c1] at hF
    simp only [Option.bind_some] at hF
    rw [if_neg (nn0 (by omega))] at hF
    by_cases c2 : tS T L (a + 2) 59
    case neg =>
      rw [show f3_readSign 59 (at_3 sc (a + 1 + 1)) = _ from p3_sign_n (c := 59) hT h (by omega) (by omega) c2] at hF
      simp only [Option.bind_some] at hF
      (first | rw [if_pos (by decide)] at hF | rw [if_pos trivial] at hF)
      simp only [Option.bind_some] at hF
      rw [b0, gd_t] at hF
      exact Or.inr ⟨if_neg (fun H => c2 H.2), sc, _, hF.symm, sf_3.rf sc⟩
    rw [show f3_readSign 59 (at_3 sc (a + 1 + 1)) = _ from p3_sign_y (c := 59) hT h c2] at hF
    simp only [Option.bind_some] at hF
    (first | rw [if_neg (by decide)] at hF | rw [if_neg not_false] at hF)
    simp only [Option.bind_some, lt_v] at hF
    rw [b1, gd_t] at hF
    exact Or.inl ⟨_, _, sc, _, if_pos ⟨c1, c2⟩, hF.symm, sf_3.rf sc, hd.gm_ _⟩
  rw [if_neg (fun e => k2 (n109.mp e))] at hF
  rw [if_neg k2]
  by_cases k3 : T a = 110
  · rw [if_pos (n110.mpr k3)] at hF
    rw [if_pos k3]
    by_cases ca : a = 0
    case neg =>
      rw [if_neg ca] at hF
      (first | rw [if_pos (by decide)] at hF | rw [if_pos trivial] at hF)
      exact Or.inr ⟨if_neg (fun H => ca H.1), sc, _, hF.symm, sf_3.rf sc⟩
    rw [if_pos ca] at hF
    (first | rw [if_neg (by decide)] at hF | rw [if_neg not_false] at hF)
    have hg := h0 ca
    unfold f3_readStates at hF
    by_cases c1 : tD T L (a + 1) 0 4
    case neg =>
      rw [show f3_readDigit 4 (at_3 sc (a + 1)) = _ from p3_digit_n (hi := 4) hT h (by omega) (by omega) c1] at hF
      simp only [Option.bind_some] at hF
      (first | rw [if_pos (by decide)] at hF | rw [if_pos trivial] at hF)
      simp only [Option.bind_some] at hF
      (first | rw [if_pos (by decide)] at hF | rw [if_pos trivial] at hF)
      exact Or.inr ⟨if_neg (fun H => c1 ⟨H.2.1.1, by omega, H.2.1.2.2⟩), sc, _, hF.symm, sf_3.rf sc⟩
    rw [show f3_readDigit 4 (at_3 sc (a + 1)) = _ from p3_digit_y (hi := 4) hT h (by omega) c1] at hF
    simp only [Option.bind_some] at hF
    by_cases c3 : T (a + 1) = 48
    case pos =>
      rw [if_pos (show nI (T (a + 1) - 48) < 1 by rw [c3]; decide)] at hF
      simp only [Option.bind_some] at hF
      (first | rw [if_pos (by decide)] at hF | rw [if_pos trivial] at hF)
      exact Or.inr ⟨if_neg (fun H => by have := H.2.1.2.1; omega), sc, _, hF.symm, sf_3.rf sc⟩
    rw [if_neg (show ¬ nI (T (a + 1) - 48) < 1 from nI_nlt (b := 1) (by omega) (by omega))] at hF
    by_cases c2 : tS T L (a + 2) 59
    case neg =>
      rw [show f3_readSign 59 (at_3 sc (a + 1 + 1)) = _ from p3_sign_n (c := 59) hT h (by omega) (by omega) c2] at hF
      simp only [Option.bind_some] at hF
      (first | rw [if_pos (by decide)] at hF | rw [if_pos trivial] at hF)
      simp only [Option.bind_some] at hF
      (first | rw [if_pos (by decide)] at hF | rw [if_pos trivial] at hF)
      exact Or.inr ⟨if_neg (fun H => c2 H.2.2), sc, _, hF.symm, sf_3.rf sc⟩
    rw [show f3_readSign 59 (at_3 sc (a + 1 + 1)) = _ from p3_sign_y (c := 59) hT h c2] at hF
    simp only [Option.bind_some] at hF
    (first | rw [if_neg (by decide)] at hF | rw [if_neg not_false] at hF)
    simp only [Option.bind_some, lt_v] at hF
    (first | rw [if_neg (by decide)] at hF | rw [if_neg not_false] at hF)
    rw [hg] at hd
    exact Or.inl ⟨_, _, sc, _, if_pos ⟨ca, ⟨c1.1, by omega, c1.2.2⟩, c2⟩, hF.symm, sf_3.rf sc, hd.gi_ rfl (fun k hk => by simp only [sI_1, sI_2, sA_1, sA_2, sR_1, sR_2, upd_at, sL_1, sL_2, rL_uL, updL_at, if_neg hk]) rfl⟩
  rw [if_neg (fun e => k3 (n110.mp e))] at hF
  rw [if_neg k3]
  by_cases k4 : T a = 114
  · rw [if_pos (n114.mpr k4)] at hF
    rw [if_pos k4]
    rcases p3_rule hT h (show a + 1 ≤ L by omega) hW hd (run_ok T L (a + 1 + 6)) with ⟨c1, c2, sc', d', e, s, t⟩ | ⟨c, sc', a', e, s⟩
    · rw [e] at hF
      simp only [Option.bind_some] at hF
      rw [b1, gd_t] at hF
      exact Or.inl ⟨_, _, sc', d', if_pos ⟨c1, c2⟩, hF.symm, s, t⟩
    · rw [e] at hF
      simp only [Option.bind_some] at hF
      rw [b0, gd_t] at hF
      exact Or.inr ⟨if_neg c, sc', a', hF.symm, s⟩
  rw [if_neg (fun e => k4 (n114.mp e))] at hF
  rw [if_neg k4]
  by_cases k5 : T a = 116
  · rw [if_pos (n116.mpr k5)] at hF
    rw [if_pos k5]
    rcases p3_target hT h (show a + 1 ≤ L by omega) hW hd (run_ok T L (a + 1 + 2)) with ⟨c1, c2, sc', d', e, s, t⟩ | ⟨c, sc', a', e, s⟩
    · rw [e] at hF
      simp only [Option.bind_some] at hF
      rw [b1, gd_t] at hF
      exact Or.inl ⟨_, _, sc', d', if_pos ⟨c1, c2⟩, hF.symm, s, t⟩
    · rw [e] at hF
      simp only [Option.bind_some] at hF
      rw [b0, gd_t] at hF
      exact Or.inr ⟨if_neg c, sc', a', hF.symm, s⟩
  rw [if_neg (fun e => k5 (n116.mp e))] at hF
  rw [if_neg k5]
  exact Or.inr ⟨rfl, sc, _, hF.symm, sf_3.rf sc⟩
