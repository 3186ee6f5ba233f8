/-! the other items: the class -/
abbrev tcf (T : Nat → Nat) (L b : Nat) (g : nb) (n : Nat) : Prop := g.1 7 < 4 ∧ tD T L b 0 (g.1 0) ∧ tS T L (b + 1) 44 ∧ n ≤ 3
abbrev tdt (T : Nat → Nat) (L a : Nat) : Nat := if tS T L a 46 then 1 else 0
def gT (T : Nat → Nat) (L b : Nat) (g : nb) (n : Nat) : nb := gtg g (T b - 48) n (tdt T L (b + 2 + n)) (fun j => T (b + 2 + j) - 97)
theorem TW.gtg_ {d d' : ob} {g : nb} (h : TW d g) {p n o : Nat} {w : Nat → Nat} (h7 : d'.1 7 = nI (g.1 7 + 1)) (h1 : ∀ k, k ≠ 7 → d'.1 k = d.1 k) (h2 : ∀ k, k ≠ 8 → k ≠ 9 → k ≠ 10 → k ≠ 11 → d'.2 k = d.2 k) (e8 : ∀ i, d'.2 8 i = if i = g.1 7 then nI p else d.2 8 i) (e9 : ∀ i, d'.2 9 i = if i = g.1 7 then nI n else d.2 9 i) (e10 : ∀ i, d'.2 10 i = if i = g.1 7 then nI o else d.2 10 i) (e11 : ∀ i, i < 3 * g.1 7 → d'.2 11 i = d.2 11 i) (e11n : ∀ j, j < n → d'.2 11 (3 * g.1 7 + j) = nI (w j)) (hn : ∀ t, t < g.1 7 → g.2 9 t ≤ 3) (ho : bz (nI o) = true) : TW d' (gtg g p n o w) := by
  obtain ⟨⟨t1, t2, t3⟩, t4, t5, t6, t7, t8, t9, t10⟩ := h
  refine ⟨⟨?_, h7, fun i hi => ?_⟩, ?_, ?_, ?_, ?_, ?_, ?_, ?_⟩
  · rw [h1 0 (by decide)]; exact t1
  · have hi : i < g.1 7 + 1 := hi
    show d'.2 8 i = nI (if i = g.1 7 then p else g.2 8 i) ∧ d'.2 9 i = nI (if i = g.1 7 then n else g.2 9 i) ∧ d'.2 10 i = nI (if i = g.1 7 then o else g.2 10 i) ∧ ∀ j, j < (if i = g.1 7 then n else g.2 9 i) → d'.2 11 (3 * i + j) = nI (if 3 * g.1 7 ≤ 3 * i + j then w (3 * i + j - 3 * g.1 7) else g.2 11 (3 * i + j))
    rw [e8, e9, e10]
    by_cases q : i = g.1 7
    · simp only [if_pos q]
      refine ⟨trivial, trivial, trivial, fun j hj => ?_⟩
      rw [q, e11n j hj, if_pos (by omega), show 3 * g.1 7 + j - 3 * g.1 7 = j by omega]
    · simp only [if_neg q]
      obtain ⟨a1, a2, a3, a4⟩ := t3 i (by omega)
      refine ⟨a1, a2, a3, fun j hj => ?_⟩
      have := hn i (by omega)
      rw [e11 _ (by omega), if_neg (by omega)]
      exact a4 j hj
  · rw [h1 1 (by decide)]; exact t4
  · rw [h1 12 (by decide)]; exact t5
  · rw [h1 13 (by decide)]; exact t6
  · rw [h1 14 (by decide)]; exact t7
  · intro k r hr q1 q2
    rw [h2 k (by omega) (by omega) (by omega) (by omega)]
    have e : (gtg g p n o w).2 k = g.2 k := by
      show (if k = 8 then _ else if k = 9 then _ else if k = 10 then _ else if k = 11 then _ else g.2 k) = _
      rw [if_neg (by omega), if_neg (by omega), if_neg (by omega), if_neg (by omega)]
    rw [e]
    exact t8 k r hr q1 q2
  · rw [h2 15 (by decide) (by decide) (by decide) (by decide)]; exact t9
  · intro t ht
    rw [e10]
    split
    · exact ho
    · exact t10 t ht
theorem p4_addTarget {g : nb} (hW : WF g) {d : ob} (hd : TW d g) (h7 : g.1 7 < 4) (p n o : Nat) (hn : n ≤ 3) (ho : o = 0 ∨ o = 1) (w : Nat → Nat) (sc : ob) (hw : ∀ j, j < n → sc.2 3 j = nI (w j)) : ∃ d', f4_addTarget (nI p) (nI n) (nI o) d sc = some (1, d') ∧ TW d' (gtg g p n o w) := by
  have d7 := hd.1.2.1
  have hbo : bz (nI o) = true := by rcases ho with e | e <;> subst e <;> rfl
  have hv : vin (nI (g.1 7)) 4 = true := by rw [vin_nI (by omega)]; exact decide_eq_true h7
  have hcl : (nI (g.1 7)).toNatClampNeg = g.1 7 := nI_clamp (by omega)
  have e3 : nI (g.1 7) * 3 = nI (3 * g.1 7) := by rw [show (3 : Int32) = nI 3 from rfl, nI_mul, Nat.mul_comm]
  obtain ⟨b, eb, b1, b2, b3, b4⟩ := wh_fr (st := f4_addTarget_L49 (nI n) sc) (fun i (b : ob) => (nI i, b)) n (fun i z => z.1 = d.1 ∧ (∀ k, k ≠ 11 → z.2 k = (sA (sA (sA d 8 (g.1 7) (nI p)) 9 (g.1 7) (nI n)) 10 (g.1 7) (nI o)).2 k) ∧ (∀ i, i < 3 * g.1 7 → z.2 11 i = d.2 11 i) ∧ ∀ j, j < i → z.2 11 (3 * g.1 7 + j) = nI (w j)) (b0 := sA (sA (sA d 8 (g.1 7) (nI p)) 9 (g.1 7) (nI n)) 10 (g.1 7) (nI o)) ⟨rfl, fun _ _ => rfl, fun _ _ => rfl, fun _ hj => absurd hj (Nat.not_lt_zero _)⟩
    (by
      intro z _
      unfold f4_addTarget_L49
      dsimp only
      rw [if_pos (nI_le (by omega) (by omega))])
    (by
      rintro i z hi ⟨b1, b2, b3, b4⟩
      refine ⟨sA z 11 (3 * g.1 7 + i) (nI (w i)), ?_, b1, fun k hk => ?_, fun j hj => ?_, fun j hj => ?_⟩
      · unfold f4_addTarget_L49
        dsimp only
        rw [if_neg (nI_ge hi (by omega)), b1, d7, e3, nI_add, vin_nI (show i < 2 ^ 31 by omega), gd_p (show i < 6 by omega), vin_nI (by omega), gd_p (show 3 * g.1 7 + i < 12 by omega), nI_clamp (show 3 * g.1 7 + i < 2 ^ 31 by omega), nI_clamp (show i < 2 ^ 31 by omega), hw i hi]
        simp only [lt_v, nI_1]
      · show (if k = 11 then _ else z.2 k) = _
        rw [if_neg hk]; exact b2 k hk
      · show (if j = 3 * g.1 7 + i then _ else z.2 11 j) = _
        rw [if_neg (by omega)]; exact b3 j hj
      · show (if 3 * g.1 7 + j = 3 * g.1 7 + i then _ else z.2 11 (3 * g.1 7 + j)) = _
        by_cases q : j = i
        · rw [if_pos (by omega), q]
        · rw [if_neg (by omega)]; exact b4 j (by omega))
  have eb : wh (f4_addTarget_L49 (nI n) sc) (0, sA (sA (sA d 8 (g.1 7) (nI p)) 9 (g.1 7) (nI n)) 10 (g.1 7) (nI o)) = some (1, (nI n, b)) := eb
  refine ⟨sI b 7 (nI (g.1 7 + 1)), ?_, hd.gtg_ rfl (fun k hk => ?_) (fun k k1 k2 k3 k4 => ?_) (fun i => ?_) (fun i => ?_) (fun i => ?_) b3 b4 (fun t ht => (hW.1.2.2.2 t ht).2.1) hbo⟩
  · unfold f4_addTarget
    rw [d7, if_neg (show ¬ (4 : Int32) ≤ nI (g.1 7) from nI_ge (b := 4) h7 (by decide)), if_pos (show nI n ≤ 3 from nI_le (b := 3) hn (by decide))]
    simp only [lt_v, sA_1, d7, hv, gd_t, hcl, hbo]
    rw [eb]
    simp only [Option.bind_some]
    rw [b1, d7, nI_1]
  · show (if k = 7 then _ else b.1 k) = _
    rw [if_neg hk, b1]
  · show b.2 k = _
    rw [b2 k k4]
    show (if k = 10 then _ else if k = 9 then _ else if k = 8 then _ else d.2 k) = _
    rw [if_neg k3, if_neg k2, if_neg k1]
  · show b.2 8 i = _
    rw [b2 8 (by decide)]; rfl
  · show b.2 9 i = _
    rw [b2 9 (by decide)]; rfl
  · show b.2 10 i = _
    rw [b2 10 (by decide)]; rfl
theorem p3_target {T : Nat → Nat} {L b n : Nat} {g : nb} (hT : txt T L) {sc : ob} (h : tx_3 sc T L) (hb : b ≤ L) (hW : WF g) {d : ob} (hd : TW d g) (hw : wat T L (b + 2) n) :
    (tcf T L b g n ∧ tS T L (b + 2 + n + tdt T L (b + 2 + n)) 59 ∧ ∃ sc' d', f3_readTarget (at_3 sc b) d = some (1, at_3 sc' (b + 3 + n + tdt T L (b + 2 + n)), d') ∧ sf_3 sc sc' ∧ TW d' (gT T L b g n)) ∨ (¬ (tcf T L b g n ∧ tS T L (b + 2 + n + tdt T L (b + 2 + n)) 59) ∧ ∃ sc' a', f3_readTarget (at_3 sc b) d = some (0, at_3 sc' a', d) ∧ sf_3 sc sc') := by
  have hl := hT.1
  have h3 := hW.1.2.1
  have h1 := hW.1.1
  have hs : d.1 0 = nI (g.1 0) := hd.1.1
  generalize hF : f3_readTarget (at_3 sc b) d = F
  unfold f3_readTarget at hF
  rw [hs] at hF
  generalize hD : tdt T L (b + 2 + n) = D
  have rej : ∀ sc' a', F = some (0, at_3 sc' a', d) → sf_3 sc sc' → ¬ (tcf T L b g n ∧ tS T L (b + 2 + n + D) 59) → (tcf T L b g n ∧ tS T L (b + 2 + n + D) 59 ∧ ∃ sc' d', F = some (1, at_3 sc' (b + 3 + n + D), d') ∧ sf_3 sc sc' ∧ TW d' (gT T L b g n)) ∨ (¬ (tcf T L b g n ∧ tS T L (b + 2 + n + D) 59) ∧ ∃ sc' a', F = some (0, at_3 sc' a', d) ∧ sf_3 sc sc') := fun sc' a' e s q => Or.inr ⟨q, sc', a', e, s⟩
  by_cases c1 : tD T L b 0 (g.1 0)
  case neg =>
    rw [p3_digit_n hT h hb (by omega) c1] at hF
    simp only [Option.bind_some] at hF
    (first | rw [if_pos (by decide)] at hF | rw [if_pos trivial] at hF)
    exact rej sc b hF.symm (sf_3.rf sc) (fun H => c1 H.1.2.1)
  rw [p3_digit_y hT h (by omega) c1] at hF
  simp only [Option.bind_some] at hF
  rw [if_neg (nn0 (by omega))] at hF
  by_cases c2 : tS T L (b + 1) 44
  case neg =>
    rw [show (44 : Int32) = nI 44 from rfl, p3_sign_n hT h (by omega) (by omega) c2] at hF
    simp only [Option.bind_some] at hF
    (first | rw [if_pos (by decide)] at hF | rw [if_pos trivial] at hF)
    exact rej sc (b + 1) hF.symm (sf_3.rf sc) (fun H => c2 H.1.2.2.1)
  rw [show (44 : Int32) = nI 44 from rfl, p3_sign_y hT h c2] at hF
  simp only [Option.bind_some] at hF
  (first | rw [if_neg (by decide)] at hF | rw [if_neg not_false] at hF)
  obtain ⟨sc', s1, s2, s3⟩ := p3_word (most := 3) hT h (show b + 2 ≤ L by omega) hw (by omega)
  rw [show b + 1 + 1 = b + 2 by omega, show (3 : Int32) = nI 3 from rfl, s3] at hF
  simp only [Option.bind_some] at hF
  have hn := wat_le hw (show b + 2 ≤ L by omega)
  by_cases c7 : n ≤ 3
  case neg =>
    have lt := hw.1 3 (by omega)
    rw [if_neg c7, show (46 : Int32) = nI 46 from rfl, p3_sign_n hT (s1.tx h) (by omega) (by omega) (fun q => by have := q.2; have := lt.2; omega)] at hF
    simp only [Option.bind_some] at hF
    rw [show (59 : Int32) = nI 59 from rfl, p3_sign_n hT (s1.tx h) (by omega) (by omega) (fun q => by have := q.2; have := lt.2; omega)] at hF
    simp only [Option.bind_some] at hF
    (first | rw [if_pos (by decide)] at hF | rw [if_pos trivial] at hF)
    exact rej sc' (b + 2 + 3) hF.symm s1 (fun H => c7 H.1.2.2.2)
  rw [if_pos c7] at hF
  have hDy : tS T L (b + 2 + n) 46 → D = 1 := fun q => hD.symm.trans (if_pos q)
  have hDn : ¬ tS T L (b + 2 + n) 46 → D = 0 := fun q => hD.symm.trans (if_neg q)
  have dot : f3_readSign 46 (at_3 sc' (b + 2 + n)) = some (nI D, at_3 sc' (b + 2 + n + D)) := by
    rw [show (46 : Int32) = nI 46 from rfl]
    by_cases q : tS T L (b + 2 + n) 46
    · rw [p3_sign_y hT (s1.tx h) q, hDy q]; rfl
    · rw [p3_sign_n hT (s1.tx h) (by omega) (by omega) q, hDn q]; rfl
  have hD1 : D = 0 ∨ (D = 1 ∧ b + 2 + n < L) := by
    by_cases q : tS T L (b + 2 + n) 46
    · exact Or.inr ⟨hD.symm.trans (if_pos q), q.1⟩
    · exact Or.inl (hD.symm.trans (if_neg q))
  rw [dot] at hF
  simp only [Option.bind_some] at hF
  by_cases c10 : tS T L (b + 2 + n + D) 59
  case neg =>
    rw [show (59 : Int32) = nI 59 from rfl, p3_sign_n hT (s1.tx h) (by omega) (by omega) c10] at hF
    simp only [Option.bind_some] at hF
    (first | rw [if_pos (by decide)] at hF | rw [if_pos trivial] at hF)
    exact rej sc' (b + 2 + n + D) hF.symm s1 (fun H => c10 H.2)
  rw [show (59 : Int32) = nI 59 from rfl, p3_sign_y hT (s1.tx h) c10] at hF
  simp only [Option.bind_some] at hF
  (first | rw [if_neg (by decide)] at hF | rw [if_neg not_false] at hF)
  by_cases c0 : g.1 7 < 4
  case neg =>
    have er : ∀ x0 x2 x3 o, f4_addTarget x0 x2 x3 d o = some (0, d) := by
      intro x0 x2 x3 o
      unfold f4_addTarget
      rw [hd.1.2.1, if_pos (show (4 : Int32) ≤ nI (g.1 7) from nI_le (a := 4) (by omega) (by have := hW.1.2.2.1; omega))]
    rw [er] at hF
    simp only [Option.bind_some] at hF
    (first | rw [if_pos (by decide)] at hF | rw [if_pos trivial] at hF)
    exact rej sc' _ hF.symm s1 (fun H => c0 H.1.1)
  obtain ⟨d', ed, td⟩ := p4_addTarget hW hd c0 (T b - 48) n D c7 (by omega) (fun j => T (b + 2 + j) - 97) (at_3 sc' (b + 2 + n + D + 1)) (fun j hj => s2 j hj (by omega))
  rw [ed] at hF
  simp only [Option.bind_some] at hF
  (first | rw [if_neg (by decide)] at hF | rw [if_neg not_false] at hF)
  refine Or.inl ⟨⟨c0, c1, c2, c7⟩, c10, sc', d', hF.symm.trans (by rw [show b + 2 + n + D + 1 = b + 3 + n + D by omega]), s1, ?_⟩
  unfold gT
  rw [hD]
  exact td
/-- a configuration -/
abbrev ccf (T : Nat → Nat) (L b : Nat) (g : nb) (n : Nat) : Prop := tD T L b 0 (g.1 0) ∧ tS T L (b + 1) 44 ∧ n ≤ 6
def gcf (T : Nat → Nat) (b : Nat) (g : nb) (n : Nat) : nb := cf g (T b - 48) n (fun i => T (b + 2 + (n - 1 - i)) - 97)
theorem p3_conf {T : Nat → Nat} {L b n : Nat} {g : nb} (hT : txt T L) {sc : ob} (h : tx_3 sc T L) (hb : b ≤ L) (hW : WF g) {d : ob} (hd : TW d g) (hw : wat T L (b + 2) n) :
    (ccf T L b g n ∧ tS T L (b + 2 + n) 59 ∧ ∃ sc' d', f3_readConfiguration (at_3 sc b) d = some (1, at_3 sc' (b + 3 + n), d') ∧ sf_3 sc sc' ∧ TW d' (gcf T b g n)) ∨ (¬ (ccf T L b g n ∧ tS T L (b + 2 + n) 59) ∧ ∃ sc' a', f3_readConfiguration (at_3 sc b) d = some (0, at_3 sc' a', d) ∧ sf_3 sc sc') := by
  have hl := hT.1
  have h3 := hW.1.2.1
  have h1 := hW.1.1
  have hs : d.1 0 = nI (g.1 0) := hd.1.1
  generalize hF : f3_readConfiguration (at_3 sc b) d = F
  unfold f3_readConfiguration at hF
  rw [hs] at hF
  have rej : ∀ sc' a', F = some (0, at_3 sc' a', d) → sf_3 sc sc' → ¬ (ccf T L b g n ∧ tS T L (b + 2 + n) 59) → (ccf T L b g n ∧ tS T L (b + 2 + n) 59 ∧ ∃ sc' d', F = some (1, at_3 sc' (b + 3 + n), d') ∧ sf_3 sc sc' ∧ TW d' (gcf T b g n)) ∨ (¬ (ccf T L b g n ∧ tS T L (b + 2 + n) 59) ∧ ∃ sc' a', F = some (0, at_3 sc' a', d) ∧ sf_3 sc sc') := fun sc' a' e s q => Or.inr ⟨q, sc', a', e, s⟩
  by_cases c1 : tD T L b 0 (g.1 0)
  case neg =>
    rw [p3_digit_n hT h hb (by omega) c1] at hF
    simp only [Option.bind_some] at hF
    (first | rw [if_pos (by decide)] at hF | rw [if_pos trivial] at hF)
    exact rej sc b hF.symm (sf_3.rf sc) (fun H => c1 H.1.1)
  rw [p3_digit_y hT h (by omega) c1] at hF
  simp only [Option.bind_some] at hF
  rw [if_neg (nn0 (by omega))] at hF
  by_cases c2 : tS T L (b + 1) 44
  case neg =>
    rw [show (44 : Int32) = nI 44 from rfl, p3_sign_n hT h (by omega) (by omega) c2] at hF
    simp only [Option.bind_some] at hF
    (first | rw [if_pos (by decide)] at hF | rw [if_pos trivial] at hF)
    exact rej sc (b + 1) hF.symm (sf_3.rf sc) (fun H => c2 H.1.2.1)
  rw [show (44 : Int32) = nI 44 from rfl, p3_sign_y hT h c2] at hF
  simp only [Option.bind_some] at hF
  (first | rw [if_neg (by decide)] at hF | rw [if_neg not_false] at hF)
  obtain ⟨sc', s1, s2, s3⟩ := p3_word (most := 6) hT h (show b + 2 ≤ L by omega) hw (by omega)
  rw [show b + 1 + 1 = b + 2 by omega, show (6 : Int32) = nI 6 from rfl, s3] at hF
  simp only [Option.bind_some] at hF
  have hn := wat_le hw (show b + 2 ≤ L by omega)
  by_cases c7 : n ≤ 6
  case neg =>
    have lt := hw.1 6 (by omega)
    rw [if_neg c7, show (59 : Int32) = nI 59 from rfl, p3_sign_n hT (s1.tx h) (by omega) (by omega) (fun q => by have := q.2; have := lt.2; omega)] at hF
    simp only [Option.bind_some] at hF
    (first | rw [if_pos (by decide)] at hF | rw [if_pos trivial] at hF)
    exact rej sc' (b + 2 + 6) hF.symm s1 (fun H => c7 H.1.2.2)
  rw [if_pos c7] at hF
  by_cases c10 : tS T L (b + 2 + n) 59
  case neg =>
    rw [show (59 : Int32) = nI 59 from rfl, p3_sign_n hT (s1.tx h) (by omega) (by omega) c10] at hF
    simp only [Option.bind_some] at hF
    (first | rw [if_pos (by decide)] at hF | rw [if_pos trivial] at hF)
    exact rej sc' (b + 2 + n) hF.symm s1 (fun H => c10 H.2)
  rw [show (59 : Int32) = nI 59 from rfl, p3_sign_y hT (s1.tx h) c10] at hF
  simp only [Option.bind_some] at hF
  (first | rw [if_neg (by decide)] at hF | rw [if_neg not_false] at hF)
  obtain ⟨z, ez, e1, e2, e3, e4⟩ := wh_fr (st := f3_readConfiguration_L57 (at_3 sc' (b + 2 + n + 1))) (fun i (b : ob) => (dn n i, b)) n (fun i z => (∀ k, k ≠ 14 → z.1 k = (sI d 13 (nI (T b - 48))).1 k) ∧ z.1 14 = nI i ∧ (∀ k, k ≠ 15 → z.2 k = d.2 k) ∧ ∀ j, j < i → z.2 15 j = nI (T (b + 2 + (n - 1 - j)) - 97)) (b0 := sI (sI d 13 (nI (T b - 48))) 14 0) ⟨fun k hk => by simp only [sI_1, sI_2, sA_1, sA_2, sR_1, sR_2, upd_at, sL_1, sL_2, rL_uL, updL_at, if_neg hk], rfl, fun _ _ => rfl, fun _ hj => absurd hj (Nat.not_lt_zero _)⟩
    (by
      intro z _
      unfold f3_readConfiguration_L57
      dsimp only
      rw [dn_end, if_pos (by decide)])
    (by
      rintro i z hi ⟨e1, e2, e3, e4⟩
      refine ⟨sI (sA z 15 i (nI (T (b + 2 + (n - 1 - i)) - 97))) 14 (nI (i + 1)), ?_, fun k hk => ?_, rfl, fun k hk => ?_, fun j hj => ?_⟩
      · unfold f3_readConfiguration_L57
        dsimp only
        rw [dn_s hi, dn_lt hi, if_neg (nn0 (by omega)), vin_nI (by omega), gd_p (show n - 1 - i < 6 by omega), nI_clamp (by omega), at_3r, s2 (n - 1 - i) (by omega) (by omega)]
        unfold f4_putLetter
        rw [e2, if_neg (show ¬ (12 : Int32) ≤ nI i from nI_ge (b := 12) (by omega) (by decide)), vin_nI (by omega), gd_p (show i < 12 by omega), nI_clamp (by omega)]
        simp only [Option.bind_some, lt_v]
        have e : (sA z 15 i (nI (T (b + 2 + (n - 1 - i)) - 97))).1 14 = nI i := e2
        rw [e, nI_1]
      · simp only [sI_1, sI_2, sA_1, sA_2, sR_1, sR_2, upd_at, sL_1, sL_2, rL_uL, updL_at, if_neg hk]
        exact e1 k hk
      · simp only [sI_1, sI_2, sA_1, sA_2, sR_1, sR_2, upd_at, sL_1, sL_2, rL_uL, updL_at, if_neg hk]
        exact e3 k hk
      · show (if j = i then _ else z.2 15 j) = _
        by_cases q : j = i
        · rw [if_pos q, q]
        · rw [if_neg q]; exact e4 j (by omega))
  simp only [lt_v] at hF
  rw [show nI n - 1 = dn n 0 from rfl, ez] at hF
  simp only [Option.bind_some] at hF
  refine Or.inl ⟨⟨c1, c2, c7⟩, c10, sc', z, hF.symm.trans (by rw [show b + 2 + n + 1 = b + 3 + n by omega]), s1, hd.cf (fun k k1 k2 => ?_) e3 ?_ e2 e4⟩
  · rw [e1 k k2]
    simp only [sI_1, sI_2, sA_1, sA_2, sR_1, sR_2, upd_at, sL_1, sL_2, rL_uL, updL_at, if_neg k1]
  · rw [e1 13 (by decide)]; rfl
