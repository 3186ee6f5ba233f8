/-! the items of a text: the class -/
def gi (s : Nat) : nb := (fun k => if k = 0 then s else 0, fun _ _ => 0)
def gm (g : nb) (v : Nat) : nb := (fun k => if k = 12 then v else g.1 k, g.2)
def gtg (g : nb) (p n o : Nat) (w : Nat → Nat) : nb := (fun k => if k = 7 then g.1 7 + 1 else g.1 k, fun k => if k = 8 then (fun i => if i = g.1 7 then p else g.2 8 i) else if k = 9 then (fun i => if i = g.1 7 then n else g.2 9 i) else if k = 10 then (fun i => if i = g.1 7 then o else g.2 10 i) else if k = 11 then (fun i => if 3 * g.1 7 ≤ i then w (i - 3 * g.1 7) else g.2 11 i) else g.2 k)
/-- the code of a word of n letters at a -/
def wcd (T : Nat → Nat) (a n : Nat) : Nat := if n = 0 then 0 else if n = 1 then 1 + (T a - 97) else 5 + 4 * (T a - 97) + (T (a + 1) - 97)
theorem wcd_lt {T : Nat → Nat} {L a n : Nat} (h : wat T L a n) (hn : n ≤ 2) : wcd T a n < 21 := by
  unfold wcd
  by_cases q0 : n = 0
  · rw [if_pos q0]; omega
  · have h0 := h.1 0 (by omega)
    rw [Nat.add_zero] at h0
    by_cases q1 : n = 1
    · rw [if_neg q0, if_pos q1]; omega
    · have h1 := h.1 1 (by omega)
      rw [if_neg q0, if_neg q1]; omega
theorem p3_wordFrom {T : Nat → Nat} {a k x : Nat} (hk : k ≤ 2) (sc : ob) (h : ∀ j, j < k → sc.2 3 j = nI (T (a + j) - 97)) : f3_wordFrom (nI k) (at_3 sc x) = some (nI (wcd T a k)) := by
  have c0 : (0 : Int32).toNatClampNeg = 0 := rfl
  have c1 : (1 : Int32).toNatClampNeg = 1 := rfl
  have v0 : vin 0 6 = true := by decide
  have v1 : vin 1 6 = true := by decide
  unfold f3_wordFrom wcd
  by_cases q0 : k = 0
  · rw [if_pos (show nI k = 0 by rw [q0]; rfl), if_pos q0]; rfl
  · have h0 := h 0 (by omega)
    rw [Nat.add_zero] at h0
    by_cases q1 : k = 1
    · rw [if_neg (nIz (by omega) q0), if_pos (show nI k = 1 by rw [q1]; rfl), if_neg q0, if_pos q1, v0, gd_t, c0, at_3r, h0, show (1 : Int32) = nI 1 from rfl, nI_add]
    · have h1 := h 1 (by omega)
      rw [if_neg (nIz (by omega) q0), if_neg (show ¬ nI k = 1 by rw [show k = 2 by omega]; decide), if_neg q0, if_neg q1, v0, v1, gd_t, gd_t, c0, c1, at_3r, h0, h1]
      unfold f5_wordOf
      simp only [Option.bind_some]
      rw [show (5 : Int32) = nI 5 from rfl, show (4 : Int32) = nI 4 from rfl, nI_mul, nI_add, nI_add]
abbrev rcf (T : Nat → Nat) (L b : Nat) (g : nb) (n : Nat) : Prop := g.1 1 < 10 ∧ tD T L b 0 (g.1 0) ∧ tS T L (b + 1) 44 ∧ tL T L (b + 2) ∧ tS T L (b + 3) 44 ∧ tD T L (b + 4) 0 (g.1 0) ∧ tS T L (b + 5) 44 ∧ n ≤ 2 ∧ tS T L (b + 6 + n) 44 ∧ tD T L (b + 7 + n) 0 10
def gr (T : Nat → Nat) (b : Nat) (g : nb) (n : Nat) : nb := ru g (g.1 1 + 1) (adf g (T b - 48) (T (b + 2) - 97) (T (b + 4) - 48) (wcd T (b + 6) n) (T (b + 7 + n) - 48))
theorem p3_rule {T : Nat → Nat} {L b n : Nat} {g : nb} (hT : txt T L) {sc : ob} (h : tx_3 sc T L) (hb : b ≤ L) (hW : WF g) {d : ob} (hd : TW d g) (hw : wat T L (b + 6) n) :
    (rcf T L b g n ∧ tS T L (b + 8 + n) 59 ∧ ∃ sc' d', f3_readRule (at_3 sc b) d = some (1, at_3 sc' (b + 9 + n), d') ∧ sf_3 sc sc' ∧ TW d' (gr T b g n)) ∨ (¬ (rcf T L b g n ∧ tS T L (b + 8 + n) 59) ∧ ∃ sc' a', f3_readRule (at_3 sc b) d = some (0, at_3 sc' a', d) ∧ sf_3 sc sc') := by
  have hl := hT.1
  have h3 := hW.1.2.1
  have h1 := hW.1.1
  have h10 := hW.2.1.2.1
  have hs : d.1 0 = nI (g.1 0) := hd.1.1
  generalize hF : f3_readRule (at_3 sc b) d = F
  unfold f3_readRule at hF
  rw [hs] at hF
  have rej : ∀ sc' a', F = some (0, at_3 sc' a', d) → sf_3 sc sc' → ¬ (rcf T L b g n ∧ tS T L (b + 8 + n) 59) → (rcf T L b g n ∧ tS T L (b + 8 + n) 59 ∧ ∃ sc' d', F = some (1, at_3 sc' (b + 9 + n), d') ∧ sf_3 sc sc' ∧ TW d' (gr T b g n)) ∨ (¬ (rcf T L b g n ∧ tS T L (b + 8 + n) 59) ∧ ∃ sc' a', F = some (0, at_3 sc' a', d) ∧ sf_3 sc sc') := fun sc' a' e s q => Or.inr ⟨q, sc', a', e, s⟩
  by_cases c1 : tD T L b 0 (g.1 0)
  case neg =>
    rw [p3_digit_n hT h hb (by omega) c1] at hF
    simp only [Option.bind_some] at hF
    (first | rw [if_pos (by decide)] at hF | rw [if_pos trivial] at hF)
    exact rej sc b hF.symm (sf_3.rf sc) (fun H => c1 H.1.2.1)
  rw [p3_digit_y hT h (by omega) c1] at hF
  simp only [Option.bind_some] at hF
  rw [if_neg (nn0 (by omega))] at hF
  by_cases c2 : tS T L (b + 1) 44
  case neg =>
    rw [show (44 : Int32) = nI 44 from rfl, p3_sign_n hT h (by omega) (by omega) c2] at hF
    simp only [Option.bind_some] at hF
    (first | rw [if_pos (by decide)] at hF | rw [if_pos trivial] at hF)
    exact rej sc (b + 1) hF.symm (sf_3.rf sc) (fun H => c2 H.1.2.2.1)
  rw [show (44 : Int32) = nI 44 from rfl, p3_sign_y hT h c2] at hF
  simp only [Option.bind_some] at hF
  (first | rw [if_neg (by decide)] at hF | rw [if_neg not_false] at hF)
  by_cases c3 : tL T L (b + 2)
  case neg =>
    rw [show b + 1 + 1 = b + 2 by omega, p3_letter_n hT h (by omega) c3] at hF
    simp only [Option.bind_some] at hF
    (first | rw [if_pos (by decide)] at hF | rw [if_pos trivial] at hF)
    exact rej sc (b + 2) hF.symm (sf_3.rf sc) (fun H => c3 H.1.2.2.2.1)
  have b3 := hT.2 _ c3.1
  rw [show b + 1 + 1 = b + 2 by omega, p3_letter_y hT h c3] at hF
  simp only [Option.bind_some] at hF
  rw [if_neg (nn0 (by omega))] at hF
  by_cases c4 : tS T L (b + 3) 44
  case neg =>
    rw [show b + 2 + 1 = b + 3 by omega, p3_sign_n hT h (by omega) (by omega) c4] at hF
    simp only [Option.bind_some] at hF
    (first | rw [if_pos (by decide)] at hF | rw [if_pos trivial] at hF)
    exact rej sc (b + 3) hF.symm (sf_3.rf sc) (fun H => c4 H.1.2.2.2.2.1)
  rw [show b + 2 + 1 = b + 3 by omega, p3_sign_y hT h c4] at hF
  simp only [Option.bind_some] at hF
  (first | rw [if_neg (by decide)] at hF | rw [if_neg not_false] at hF)
  by_cases c5 : tD T L (b + 4) 0 (g.1 0)
  case neg =>
    rw [show b + 3 + 1 = b + 4 by omega, p3_digit_n hT h (by omega) (by omega) c5] at hF
    simp only [Option.bind_some] at hF
    (first | rw [if_pos (by decide)] at hF | rw [if_pos trivial] at hF)
    exact rej sc (b + 4) hF.symm (sf_3.rf sc) (fun H => c5 H.1.2.2.2.2.2.1)
  rw [show b + 3 + 1 = b + 4 by omega, p3_digit_y hT h (by omega) c5] at hF
  simp only [Option.bind_some] at hF
  rw [if_neg (nn0 (by omega))] at hF
  by_cases c6 : tS T L (b + 5) 44
  case neg =>
    rw [show b + 4 + 1 = b + 5 by omega, p3_sign_n hT h (by omega) (by omega) c6] at hF
    simp only [Option.bind_some] at hF
    (first | rw [if_pos (by decide)] at hF | rw [if_pos trivial] at hF)
    exact rej sc (b + 5) hF.symm (sf_3.rf sc) (fun H => c6 H.1.2.2.2.2.2.2.1)
  rw [show b + 4 + 1 = b + 5 by omega, p3_sign_y hT h c6] at hF
  simp only [Option.bind_some] at hF
  (first | rw [if_neg (by decide)] at hF | rw [if_neg not_false] at hF)
  obtain ⟨sc', s1, s2, s3⟩ := p3_word (most := 2) hT h (show b + 6 ≤ L by omega) hw (by omega)
  rw [show b + 5 + 1 = b + 6 by omega, show (2 : Int32) = nI 2 from rfl, s3] at hF
  simp only [Option.bind_some] at hF
  rw [p3_wordFrom (T := T) (a := b + 6) (by split <;> omega) sc' (fun j hj => s2 j (by split at hj <;> omega) (by split at hj <;> omega))] at hF
  simp only [Option.bind_some] at hF
  have hn := wat_le hw (show b + 6 ≤ L by omega)
  by_cases c7 : n ≤ 2
  case neg =>
    have lt := hw.1 2 (by omega)
    rw [if_neg c7, p3_sign_n hT (s1.tx h) (by omega) (by omega) (fun q => by have := q.2; have := lt.2; omega)] at hF
    simp only [Option.bind_some] at hF
    (first | rw [if_pos (by decide)] at hF | rw [if_pos trivial] at hF)
    exact rej sc' (b + 6 + 2) hF.symm s1 (fun H => c7 H.1.2.2.2.2.2.2.2.1)
  rw [if_pos c7] at hF
  by_cases c8 : tS T L (b + 6 + n) 44
  case neg =>
    rw [p3_sign_n hT (s1.tx h) (by omega) (by omega) c8] at hF
    simp only [Option.bind_some] at hF
    (first | rw [if_pos (by decide)] at hF | rw [if_pos trivial] at hF)
    exact rej sc' (b + 6 + n) hF.symm s1 (fun H => c8 H.1.2.2.2.2.2.2.2.2.1)
  rw [p3_sign_y hT (s1.tx h) c8] at hF
  simp only [Option.bind_some] at hF
  (first | rw [if_neg (by decide)] at hF | rw [if_neg not_false] at hF)
  by_cases c9 : tD T L (b + 7 + n) 0 10
  case neg =>
    rw [show b + 6 + n + 1 = b + 7 + n by omega, show (10 : Int32) = nI 10 from rfl, p3_digit_n hT (s1.tx h) (by omega) (by omega) c9] at hF
    simp only [Option.bind_some] at hF
    (first | rw [if_pos (by decide)] at hF | rw [if_pos trivial] at hF)
    exact rej sc' (b + 7 + n) hF.symm s1 (fun H => c9 H.1.2.2.2.2.2.2.2.2.2)
  rw [show b + 6 + n + 1 = b + 7 + n by omega, show (10 : Int32) = nI 10 from rfl, p3_digit_y hT (s1.tx h) (by omega) c9] at hF
  simp only [Option.bind_some] at hF
  rw [if_neg (nn0 (by omega))] at hF
  by_cases c10 : tS T L (b + 8 + n) 59
  case neg =>
    rw [show b + 7 + n + 1 = b + 8 + n by omega, show (59 : Int32) = nI 59 from rfl, p3_sign_n hT (s1.tx h) (by omega) (by omega) c10] at hF
    simp only [Option.bind_some] at hF
    (first | rw [if_pos (by decide)] at hF | rw [if_pos trivial] at hF)
    exact rej sc' (b + 8 + n) hF.symm s1 (fun H => c10 H.2)
  rw [show b + 7 + n + 1 = b + 8 + n by omega, show (59 : Int32) = nI 59 from rfl, p3_sign_y hT (s1.tx h) c10] at hF
  simp only [Option.bind_some] at hF
  (first | rw [if_neg (by decide)] at hF | rw [if_neg not_false] at hF)
  by_cases c0 : g.1 1 < 10
  case neg =>
    have er : ∀ x0 x1 x2 x3 x4, f4_addRule x0 x1 x2 x3 x4 d = some (0, d) := by
      intro x0 x1 x2 x3 x4
      unfold f4_addRule
      rw [hd.2.1, if_neg (show ¬ nI (g.1 1) < 10 from nI_nlt (b := 10) (by omega) (by omega))]
    rw [er] at hF
    simp only [Option.bind_some] at hF
    (first | rw [if_pos (by decide)] at hF | rw [if_pos trivial] at hF)
    exact rej sc' _ hF.symm s1 (fun H => c0 H.1.1)
  obtain ⟨d', ed, td⟩ := p4_addRule hd c0 (T b - 48) (T (b + 2) - 97) (T (b + 4) - 48) (wcd T (b + 6) n) (T (b + 7 + n) - 48)
  rw [ed] at hF
  simp only [Option.bind_some] at hF
  (first | rw [if_neg (by decide)] at hF | rw [if_neg not_false] at hF)
  exact Or.inl ⟨⟨c0, c1, c2, c3, c4, c5, c6, c7, c8, c9⟩, c10, sc', d', hF.symm.trans (by rw [show b + 8 + n + 1 = b + 9 + n by omega]), s1, td⟩
