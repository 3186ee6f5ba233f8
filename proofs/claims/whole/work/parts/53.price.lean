/-! the configuration is read -/
def rs (mx : Bool) (w : Nat → Nat) (g : nb) : Nat → (Nat → Nat)
  | 0 => st0 (g.1 13)
  | i + 1 => rdm mx w (rs mx w g i) (g.2 15 (g.1 14 - 1 - i))
def prc (mx : Bool) (w : Nat → Nat) (g : nb) : Nat := mn (fun n => if acc g (g.1 7) n = 1 then rs mx w g (g.1 14) n else 1000000000) 13
def pI (v : Nat) : Int32 := if 1000000000 ≤ v then -(nI 4) else nI v
/-- the configuration is well made -/
def WC (g : nb) : Prop := g.1 13 < g.1 0 ∧ g.1 14 ≤ 12 ∧ ∀ i, i < g.1 14 → g.2 15 i < 4
def dn (H i : Nat) : Int32 := nI (H - i) - nI 1
theorem dn_lt {H i : Nat} (h : i < H) : dn H i = nI (H - 1 - i) := by
  unfold dn
  rw [nI_sub (by omega)]
  congr 1
  omega
theorem dn_end (H : Nat) : dn H H = -(nI 1) := by
  unfold dn
  rw [Nat.sub_self]
  rfl
theorem dn_s {H i : Nat} (h : i < H) : dn H i + (-1) = dn H (i + 1) := by
  have : (-1 : Int32) = -(nI 1) := rfl
  rw [dn_lt h, this, ← Int32.sub_eq_add_neg]
  unfold dn
  congr 2
  omega
theorem dn_0 (H : Nat) : nI H - 1 = dn H 0 := rfl
theorem p0_priceRead (mx : Bool) (N : Nat) (hN : N ≤ 13) (w : Nat → Nat) (g : nb) (hc : WC g) (hS : g.1 0 ≤ N) (tw o : ob) (ht15 : ∀ i, i < g.1 14 → tw.2 15 i = nI (g.2 15 i)) (h0 : o.1 0 = nI N) (h8 : o.1 8 = mxI mx) (hr : RD N o (st0 (g.1 13))) (hw : WB N (o.2 5) w) (hJ : ∀ i, i < g.1 14 → ∀ fr to, fr < 13 → to < 13 → rs mx w g i fr < 1000000000 → w (52 * fr + 13 * g.2 15 (g.1 14 - 1 - i) + to) < 1000000000 → jn mx (rs mx w g i fr) (w (52 * fr + 13 * g.2 15 (g.1 14 - 1 - i) + to)) < 1000000000) :
    ∃ o', wh (f0_priceOf_L15 tw) (dn (g.1 14) 0, o) = some (1, (dn (g.1 14) (g.1 14), o')) ∧ keep0 o o' ∧ RD N o' (rs mx w g (g.1 14)) := by
  obtain ⟨o', e, h1, h2⟩ := wh_fr (st := f0_priceOf_L15 tw) (fun i (b : ob) => (dn (g.1 14) i, b)) (g.1 14) (fun i z => keep0 o z ∧ RD N z (rs mx w g i)) (b0 := o) ⟨keep0.rf o, hr⟩
    (by
      intro z _
      unfold f0_priceOf_L15
      dsimp only
      rw [dn_end, if_pos (by decide)])
    (by
      rintro i z hi ⟨k1, r1⟩
      have hx := hc.2.2 (g.1 14 - 1 - i) (by omega)
      have hh := hc.2.1
      obtain ⟨z', e, k2, r2⟩ := p0_readOn mx N (g.2 15 (g.1 14 - 1 - i)) hN hx w _ z (by rw [k1.1 0 (by decide), h0]) (by rw [k1.1 8 (by decide), h8]) r1 (by rw [k1.2 5 (by decide) (by decide)]; exact hw) (hJ i hi)
      refine ⟨z', ?_, k1.tr k2, r2⟩
      unfold f0_priceOf_L15
      dsimp only
      rw [dn_s hi, dn_lt hi, if_neg (show ¬ nI (g.1 14 - 1 - i) < (0 : Int32) from nI_nlt (a := g.1 14 - 1 - i) (b := 0) (by omega) (by omega)), vin_nI (by omega), gd_p (show g.1 14 - 1 - i < 12 by omega), nI_clamp (by omega), ht15 _ (by omega), e]
      simp only [Option.bind_some, lt_v])
  exact ⟨o', e, h1, h2⟩
theorem p0_priceMin (N : Nat) (hN : N ≤ 13) (a rd : Nat → Nat) (ha : ∀ k, a k = 0 ∨ a k = 1) (o : ob) (h0 : o.1 0 = nI N) (h6 : ∀ k, k < 13 → o.2 6 k = nI (a k)) (hr : RD N o rd) :
    wh (f0_priceOf_L42 o) (1000000000000, 0) = some (1, (eL (mn (fun n => if a n = 1 then rd n else 1000000000) 13), nI N)) := by
  obtain ⟨v, e, hv⟩ := wh_fr (st := f0_priceOf_L42 o) (fun i (b : Int64) => (b, nI i)) N (fun i v => v = eL (mn (fun n => if a n = 1 then rd n else 1000000000) i)) (b0 := eL 1000000000) rfl
    (by
      intro v _
      unfold f0_priceOf_L42
      dsimp only
      rw [h0, if_pos (nI_le (Nat.le_refl _) (by omega))])
    (by
      rintro i v hi rfl
      have e6 := h6 i (by omega)
      have e9 := hr.1 i (by omega)
      have l9 := hr.2.1 i (by omega)
      have lm := mn_le_FR (fun n => if a n = 1 then rd n else 1000000000) i
      refine ⟨_, ?_, rfl⟩
      rw [mn_succ]
      generalize mn (fun n => if a n = 1 then rd n else 1000000000) i = m at lm ⊢
      unfold f0_priceOf_L42
      dsimp only
      rw [h0, if_neg (nI_ge hi (by omega)), vin_nI (by omega), gd_p (show i < 13 by omega), nI_clamp (by omega), e6, e9]
      rcases ha i with h | h
      · rw [h, if_pos (show nI 0 = (0 : Int32) from rfl), if_neg (show ¬ (0 = 1) by decide), Nat.min_eq_left lm]
        simp only [Option.bind_some, lt_v, nI_1]
      · rw [h, if_neg (show ¬ nI 1 = (0 : Int32) by decide), if_pos rfl]
        by_cases q : rd i < m
        · rw [if_pos ((eL_ltI l9 lm).mpr q), Nat.min_eq_right (by omega)]
          simp only [Option.bind_some, lt_v, nI_1]
          rw [gd_p (show i < 13 by omega)]
          rfl
        · rw [if_neg (fun h => q ((eL_ltI l9 lm).mp h)), Nat.min_eq_left (by omega)]
          simp only [Option.bind_some, lt_v, nI_1]
          rw [gd_p (show i < 13 by omega)]
          rfl)
  have e : wh (f0_priceOf_L42 o) (1000000000000, 0) = some (1, (v, nI N)) := by rw [eL_F]; exact e
  rw [e, hv]
  have := mn_more (g := fun n => if a n = 1 then rd n else 1000000000) (n := N) (13 - N) (fun i h1 h2 => by
    split
    · rw [hr.2.2 i h1 (by omega)]; exact Nat.le_refl _
    · exact Nat.le_refl _)
  rw [show N + (13 - N) = 13 by omega] at this
  rw [this]
theorem p0_priceOf (mx : Bool) (w : Nat → Nat) (g : nb) (h : WT g) (hc : WC g) (tw o : ob) (ht13 : tw.1 13 = nI (g.1 13)) (ht14 : tw.1 14 = nI (g.1 14)) (ht15 : ∀ i, i < g.1 14 → tw.2 15 i = nI (g.2 15 i))
    (h0 : o.1 0 = nI (ndn g)) (h8 : o.1 8 = mxI mx) (hw : WB (ndn g) (o.2 5) w) (h6 : ∀ k, k < 13 → o.2 6 k = nI (acc g (g.1 7) k)) (hJ : ∀ i, i < g.1 14 → ∀ fr to, fr < 13 → to < 13 → rs mx w g i fr < 1000000000 → w (52 * fr + 13 * g.2 15 (g.1 14 - 1 - i) + to) < 1000000000 → jn mx (rs mx w g i fr) (w (52 * fr + 13 * g.2 15 (g.1 14 - 1 - i) + to)) < 1000000000) :
    ∃ o', f0_priceOf o tw = some (pI (prc mx w g), o') ∧ keep0 o o' := by
  have hN := ndn_le h
  have hN2 := ndn_ge h
  have hc1 := hc.1
  obtain ⟨a, ea, a1, a2, a3⟩ := p0_startAt (ndn g) (g.1 13) hN (by omega) o
  obtain ⟨b, eb, b1, b2⟩ := p0_priceRead mx (ndn g) hN w g hc (by omega) tw a ht15 (by rw [a1, h0]) (by rw [a1, h8]) a3 (by rw [a2 5 (by decide)]; exact hw) hJ
  have kb : keep0 o b := ⟨fun k hk => by rw [b1.1 k hk, a1], fun k h1 h2 => by rw [b1.2 k h1 h2, a2 k h1]⟩
  have em := p0_priceMin (ndn g) hN (acc g (g.1 7)) _ (fun k => acc_01 g k _) b (by rw [kb.1 0 (by decide), h0]) (by rw [kb.2 6 (by decide) (by decide)]; exact h6) b2
  refine ⟨b, ?_, kb⟩
  have l := mn_le_FR (fun n => if acc g (g.1 7) n = 1 then rs mx w g (g.1 14) n else 1000000000) 13
  unfold f0_priceOf
  rw [ht13, ea]
  simp only [Option.bind_some, lt_v]
  rw [ht14, dn_0, eb]
  simp only [Option.bind_some]
  rw [em]
  simp only [Option.bind_some]
  show (if (1000000000000 : Int64) ≤ eL (prc mx w g) then some ((-4 : Int32), b) else some ((eL (prc mx w g)).toInt32, b)) = some (pI (prc mx w g), b)
  unfold pI
  have l : prc mx w g ≤ 1000000000 := l
  rw [eL_F]
  by_cases q : 1000000000 ≤ prc mx w g
  · rw [if_pos q, if_pos ((eL_leI (Nat.le_refl _) l).mpr q)]; rfl
  · rw [if_neg q, if_neg (fun h => q ((eL_leI (Nat.le_refl _) l).mp h)), eL_i (by omega)]
