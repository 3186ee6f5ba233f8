section HEADS2
variable {g : nb}
def massM (a : Nat) : Nat := ctr (fun k => a.testBit k) 12
theorem p1_explore (hW : WF g) (now : ob) (ht : TW now g) (o : ob) : ∃ o' hm a, f1_explore o now = some o' ∧ o'.1 1 = nI hm ∧ o'.1 2 = nI a ∧ hm < 2 ^ 12 ∧ a < 8 ∧ (∀ s, a.testBit s = true ↔ BT g (g.1 14) s) ∧ ∀ p x, HM hm p x ↔ HD g p x := by
  obtain ⟨u, f, eu, -, u2, u3, u4⟩ := p1_settleFalls hW now ht o
  obtain ⟨d, hm0, a, ed, d1, d2, d3, d4, d5, d6, d7⟩ := p1_descend hW now ht f u3 u4 u u2
  have r0 : ∀ h, h < 12 → d.2 0 h = nI (f h) := fun h hh => by rw [d1]; exact u2 h hh
  obtain ⟨k, y, ey, hk, y1, hm, y2, y3, y4, y5, y6⟩ := wh_meas (st := f1_explore_L14 now) (fun n z => ∃ c hm, n = 100 - c ∧ z.2.1 = nI c ∧ z.2.2.2 = d.2 ∧ (∀ k, k ≠ 1 → z.2.2.1 k = d.1 k) ∧ z.2.2.1 1 = nI hm ∧ hm < 2 ^ 12 ∧ subM hm0 hm ∧ (∀ p x, HM hm p x → HD g p x) ∧ ((z.1 = nI 1 ∧ c ≤ massM hm) ∨ (z.1 = nI 0 ∧ c ≤ 13 ∧ ∀ r, r < g.1 1 → HM hm (g.2 2 r) (g.2 3 r) → HR g (HM hm) (g.2 4 r) (g.2 5 r)))) (fun k z => k = 0 ∧ (∀ k, k ≠ 1 → z.2.2.1 k = d.1 k) ∧ ∃ hm, z.2.2.1 1 = nI hm ∧ hm < 2 ^ 12 ∧ subM hm0 hm ∧ (∀ p x, HM hm p x → HD g p x) ∧ ∀ r, r < g.1 1 → HM hm (g.2 2 r) (g.2 3 r) → HR g (HM hm) (g.2 4 r) (g.2 5 r))
    (by
      rintro n ⟨v, w, z⟩ ⟨c, hm, rfl, hw, a0, a1, a2, a3, a4, a5, a6⟩
      dsimp only at hw a0 a1 a2 a6
      subst hw
      unfold f1_explore_L14
      dsimp only
      rcases a6 with ⟨hv, hc⟩ | ⟨hv, hc, hcl⟩
      · have hmm : massM hm ≤ 12 := ctr_le _ _
        obtain ⟨o', hm', e, b1, b2, b3, b4, b5, b6, b7⟩ := p1_spreadL hW now ht f u3 u4 z (fun h hh => by rw [a0]; exact r0 h hh) hm a3 a2 a5
        have sp : f1_spread z now = some (if nI hm' = nI hm then 0 else 1, o') := by
          unfold f1_spread
          simp only [lt_v]
          rw [e]
          simp only [Option.bind_some]
          rw [b3, a2]
          split <;> rfl
        refine Or.inr ⟨100 - (c + 1), (if nI hm' = nI hm then 0 else 1, nI (c + 1), o'), by omega, ?_, c + 1, hm', rfl, rfl, b1.trans a0, fun k hk => (b2 k hk).trans (a1 k hk), b3, b4, fun k h => b5 k (a4 k h), b6, ?_⟩
        · rw [if_neg (show ¬ (1000 : Int32) ≤ nI c from nI_ge (a := c) (b := 1000) (by omega) (by decide)), hv, if_neg z1, sp]
          simp only [Option.bind_some, lt_v, nI_1]
        · by_cases q : hm' = hm
          · subst q
            exact Or.inr ⟨if_pos rfl, by omega, b7⟩
          · refine Or.inl ⟨if_neg (fun h => q ((nI_eq (by omega) (by omega)).mp h)), ?_⟩
            have : ∃ k, k < 12 ∧ hm.testBit k = false ∧ hm'.testBit k = true := by
              refine Classical.byContradiction fun hn => q (Nat.eq_of_testBit_eq fun k => ?_)
              by_cases qk : k < 12
              · cases ea : hm.testBit k with
                | true => exact b5 k ea
                | false =>
                  cases eb : hm'.testBit k with
                  | false => rfl
                  | true => exact absurd ⟨k, qk, ea, eb⟩ hn
              · have p12 : 2 ^ 12 ≤ 2 ^ k := Nat.pow_le_pow_right (by omega) (by omega)
                rw [Nat.testBit_lt_two_pow (Nat.lt_of_lt_of_le a3 p12), Nat.testBit_lt_two_pow (Nat.lt_of_lt_of_le b4 p12)]
            obtain ⟨k, k1, k2, k3⟩ := this
            have : massM hm + 1 ≤ massM hm' := ctr_strict (fun k _ h => b5 k h) k1 k2 k3
            omega
      · refine Or.inl ⟨0, (v, nI c, z), ?_, rfl, a1, hm, a2, a3, a4, a5, hcl⟩
        rw [if_neg (show ¬ (1000 : Int32) ≤ nI c from nI_ge (a := c) (b := 1000) (by omega) (by decide)), hv, if_pos z0])
    100 (nI 1, nI 0, d) ⟨0, hm0, rfl, rfl, rfl, fun _ _ => rfl, d2, d4, fun _ h => h, fun p x h => (HD_clo g).1 p x ((d7 p x).mp h), Or.inl ⟨rfl, Nat.zero_le _⟩⟩
  subst hk
  refine ⟨y.2.2, hm, a, ?_, y2, ?_, y3, d5, d6, fun p x => ⟨y5 p x, fun h => h _ ⟨fun p x hi => ?_, y6⟩⟩⟩
  · unfold f1_explore
    rw [eu]
    simp only [Option.bind_some]
    rw [ed]
    simp only [Option.bind_some]
    have ey : wh (f1_explore_L14 now) (1, 0, d) = some (0 + 1, y) := ey
    rw [ey]
    simp only [Option.bind_some]
  · rw [y1 2 (by decide)]; exact d3
  · have := (d7 p x).mpr hi
    exact ⟨this.1, this.2.1, y4 _ this.2.2⟩
/-! the reference -/
def HQ (b : Nat → Nat) (p x : Nat) : Prop := p < 3 ∧ x < 4 ∧ b (4 * p + x) = 1
def b01 (b : Nat → Nat) (n : Nat) : Prop := ∀ k, k < n → b k = 0 ∨ b k = 1
theorem shl_0 : ∀ q, q < 3 → nI 0 <<< (nI q &&& 31) = nI 0 := by decide
theorem p6_setPile (hS : g.1 0 ≤ 3) (b : Nat → Nat) (hb : b01 b 36) (x p : Nat) (hx : x < 4) (hp : p < 3) (a : Nat) (ha : a < 8) (m : ob) (h0 : m.1 0 = nI (g.1 0)) (h25 : ∀ k, k < 36 → m.2 25 k = nI (b k)) :
    ∃ a', wh (f6_headsOfPile_L90 (nI x) (nI p) m) (nI a, 0) = some (1, (nI a', nI (g.1 0))) ∧ a' < 8 ∧ ∀ s, a'.testBit s = true ↔ (a.testBit s = true ∨ (s < g.1 0 ∧ b (12 * p + 3 * x + s) = 1)) := by
  obtain ⟨v, e, a', hv, h8, hbit⟩ := wh_fr (st := f6_headsOfPile_L90 (nI x) (nI p) m) (fun i (b : Int32) => (b, nI i)) (g.1 0) (fun i v => ∃ a', v = nI a' ∧ a' < 8 ∧ ∀ s, a'.testBit s = true ↔ (a.testBit s = true ∨ (s < i ∧ b (12 * p + 3 * x + s) = 1))) (b0 := nI a) ⟨a, rfl, ha, fun s => ⟨fun h => Or.inl h, fun h => h.elim id (fun h => absurd h.1 (by omega))⟩⟩
    (by
      intro v _
      unfold f6_headsOfPile_L90
      dsimp only
      rw [h0, if_pos (nI_le (Nat.le_refl _) (by omega))])
    (by
      rintro i v hi ⟨a', rfl, h8, hbit⟩
      have hbi := hb (12 * p + 3 * x + i) (by omega)
      have sh : nI (b (12 * p + 3 * x + i)) <<< (nI i &&& 31) = nI (if b (12 * p + 3 * x + i) = 1 then 2 ^ i else 0) := by
        rcases hbi with q | q
        · rw [q, if_neg (by decide)]; exact shl_0 i (by omega)
        · rw [q, if_pos rfl]; exact shl_12 i (by omega)
      refine ⟨nI (a' ||| (if b (12 * p + 3 * x + i) = 1 then 2 ^ i else 0)), ?_, _, rfl, or_lt (n := 3) h8 (by
        split
        · exact Nat.pow_lt_pow_right (by omega) (by omega)
        · decide), fun s => ?_⟩
      · unfold f6_headsOfPile_L90
        dsimp only
        rw [h0, if_neg (nI_ge hi (by omega)), p6_popsBy b m h25 hp hx (by omega)]
        simp only [Option.bind_some, lt_v]
        rw [sh, nI_or, nI_1]
      · rw [Nat.testBit_or, Bool.or_eq_true, hbit]
        by_cases q : b (12 * p + 3 * x + i) = 1
        · rw [if_pos q, tb_pow, decide_eq_true_eq]
          constructor
          · rintro ((h | ⟨h1, h2⟩) | h)
            · exact Or.inl h
            · exact Or.inr ⟨by omega, h2⟩
            · subst h; exact Or.inr ⟨by omega, q⟩
          · rintro (h | ⟨h1, h2⟩)
            · exact Or.inl (Or.inl h)
            · by_cases qs : i = s
              · exact Or.inr qs
              · exact Or.inl (Or.inr ⟨by omega, h2⟩)
        · rw [if_neg q, Nat.zero_testBit]
          constructor
          · rintro ((h | ⟨h1, h2⟩) | h)
            · exact Or.inl h
            · exact Or.inr ⟨by omega, h2⟩
            · cases h
          · rintro (h | ⟨h1, h2⟩)
            · exact Or.inl (Or.inl h)
            · by_cases qs : i = s
              · subst qs; exact absurd h2 q
              · exact Or.inl (Or.inr ⟨by omega, h2⟩))
  subst hv
  exact ⟨a', e, h8, hbit⟩
theorem p6_pileLetter (hW : WF g) (m0 : ob) (hm0 : MW m0 g) (b : Nat → Nat) (hb : b01 b 36) (hP : ∀ p x s, PS b p x s ↔ Pop g p x s) (x : Nat) (hx : x < 4) (a : Nat) (ha : ∀ s, a.testBit s = true → s < g.1 0) (m : ob) (k0 : keepH m0 m) (h25 : ∀ k, k < 36 → m.2 25 k = nI (b k)) (h27 : ∀ p, p < 3 → m.2 27 p = nI (if a.testBit p = true then 1 else 0)) (hb0 : Nat → Nat) (h26 : ∀ k, k < 12 → m.2 26 k = nI (hb0 k)) (h01 : b01 hb0 12) :
    ∃ a' m' hb', wh (f6_headsOfPile_L55 (nI x)) (0, 0, m) = some (1, (nI a', nI (g.1 0), m')) ∧ a' < 8 ∧ keepH m0 m' ∧ m'.2 25 = m.2 25 ∧ m'.2 27 = m.2 27 ∧ (∀ k, k < 12 → m'.2 26 k = nI (hb' k)) ∧ b01 hb' 12 ∧ (∀ s, a'.testBit s = true ↔ ∃ p, a.testBit p = true ∧ Pop g p x s) ∧ ∀ p y, HQ hb' p y ↔ (HQ hb0 p y ∨ (a.testBit p = true ∧ y = x)) := by
  have h3 := hW.1.2.1
  obtain ⟨y, e, a', y1, y2, y3, y4, y5, hb', y6, y7, y8, y9⟩ := wh_fr (st := f6_headsOfPile_L55 (nI x)) (fun i (b : Int32 × ob) => (b.1, nI i, b.2)) (g.1 0) (fun i y => ∃ a', y.1 = nI a' ∧ a' < 8 ∧ keepH m0 y.2 ∧ y.2.2 25 = m.2 25 ∧ y.2.2 27 = m.2 27 ∧ ∃ hb', (∀ k, k < 12 → y.2.2 26 k = nI (hb' k)) ∧ b01 hb' 12 ∧ (∀ s, a'.testBit s = true ↔ ∃ p, p < i ∧ a.testBit p = true ∧ Pop g p x s) ∧ ∀ p y, HQ hb' p y ↔ (HQ hb0 p y ∨ (p < i ∧ a.testBit p = true ∧ y = x))) (b0 := (nI 0, m))
    ⟨0, rfl, by decide, k0, rfl, rfl, hb0, h26, h01, fun s => ⟨fun h => absurd h (by rw [Nat.zero_testBit]; decide), fun ⟨p, h, _⟩ => absurd h (by omega)⟩, fun p y => ⟨fun h => Or.inl h, fun h => h.elim id (fun h => absurd h.1 (by omega))⟩⟩
    (by
      rintro ⟨v, z⟩ ⟨a', -, -, k, -⟩
      have k : keepH m0 z := k
      unfold f6_headsOfPile_L55
      dsimp only
      rw [k.1, hm0.1.1, if_pos (nI_le (Nat.le_refl _) (by omega))])
    (by
      rintro i ⟨v, z⟩ hi ⟨a', hv, h8, k, z25, z27, hb', z26, z01, zb, zh⟩
      dsimp only at hv k z25 z27 z26
      subst hv
      have e0 : z.1 0 = nI (g.1 0) := by rw [k.1]; exact hm0.1.1
      have sp : f6_headsOfPile_L55 (nI x) (nI a', nI i, z) = ((if nI (if a.testBit i = true then 1 else 0) = 1 then ((wh (f6_headsOfPile_L90 (nI x) (nI i) (sA z 26 (4 * i + x) 1)) (nI a', 0)).bind fun q21 => some (q21.2.1, sA z 26 (4 * i + x) 1)) else some (nI a', z)).bind fun v16 => some (0, (v16.1, nI (i + 1), v16.2))) := by
        unfold f6_headsOfPile_L55
        dsimp only
        have e4 : (4 : Int32) * nI i + nI x = nI (4 * i + x) := by rw [show (4 : Int32) = nI 4 from rfl, nI_mul, nI_add]
        rw [e0, if_neg (nI_ge hi (by omega)), vin_nI (by omega), gd_p (show i < 3 by omega), nI_clamp (by omega), z27, h27 i (by omega), e4, vin_nI (by omega), gd_p (show 4 * i + x < 12 by omega), nI_clamp (by omega)]
        simp only [lt_v, nI_1]
      by_cases q : a.testBit i = true
      · rw [if_pos q, if_pos (show nI 1 = (1 : Int32) from rfl)] at sp
        obtain ⟨a2, e2, c1, c2⟩ := p6_setPile (g := g) h3 b hb x i hx (by omega) a' h8 (sA z 26 (4 * i + x) 1) e0 (fun k hk => by
          show z.2 25 k = _
          rw [z25]; exact h25 k hk)
        rw [e2] at sp
        simp only [Option.bind_some] at sp
        refine ⟨(nI a2, sA z 26 (4 * i + x) 1), sp, a2, rfl, c1, k.tr ⟨rfl, fun k _ q2 _ => by simp only [sI_1, sI_2, sA_1, sA_2, sR_1, sR_2, upd_at, sL_1, sL_2, rL_uL, updL_at, if_neg q2]⟩, z25, z27, fun k => if k = 4 * i + x then 1 else hb' k, fun k hk => ?_, fun k hk => ?_, fun s => ?_, fun p y => ?_⟩
        · show (if k = 4 * i + x then 1 else z.2 26 k) = nI (if k = 4 * i + x then 1 else hb' k)
          by_cases qk : k = 4 * i + x
          · rw [if_pos qk, if_pos qk]; rfl
          · rw [if_neg qk, if_neg qk]; exact z26 k hk
        · show (if k = 4 * i + x then 1 else hb' k) = 0 ∨ (if k = 4 * i + x then 1 else hb' k) = 1
          by_cases qk : k = 4 * i + x
          · exact Or.inr (if_pos qk)
          · rw [if_neg qk]; exact z01 k hk
        · rw [c2, zb]
          constructor
          · rintro (⟨p, p1, p2, p3⟩ | ⟨s1, s2⟩)
            · exact ⟨p, by omega, p2, p3⟩
            · exact ⟨i, by omega, q, (hP i x s).mp ⟨by omega, hx, by omega, s2⟩⟩
          · rintro ⟨p, p1, p2, p3⟩
            by_cases qp : p = i
            · subst qp
              have := (hP p x s).mpr p3
              exact Or.inr ⟨(Pop_lt hW p3).2.2, this.2.2.2⟩
            · exact Or.inl ⟨p, by omega, p2, p3⟩
        · constructor
          · rintro ⟨h1, h2, h4⟩
            have h4 : (if 4 * p + y = 4 * i + x then 1 else hb' (4 * p + y)) = 1 := h4
            by_cases qk : 4 * p + y = 4 * i + x
            · have g1 : p = i := by omega
              have g2 : y = x := by omega
              exact Or.inr ⟨by omega, by rw [g1]; exact q, g2⟩
            · rw [if_neg qk] at h4
              rcases (zh p y).mp ⟨h1, h2, h4⟩ with h | ⟨h5, h6⟩
              · exact Or.inl h
              · exact Or.inr ⟨by omega, h6⟩
          · intro h
            have old : HQ hb' p y ∨ (p = i ∧ y = x) := by
              rcases h with h | ⟨h5, h6, h7⟩
              · exact Or.inl ((zh p y).mpr (Or.inl h))
              · by_cases qp : p = i
                · exact Or.inr ⟨qp, h7⟩
                · exact Or.inl ((zh p y).mpr (Or.inr ⟨by omega, h6, h7⟩))
            rcases old with ⟨h1, h2, h4⟩ | ⟨h1, h2⟩
            · refine ⟨h1, h2, ?_⟩
              show (if 4 * p + y = 4 * i + x then 1 else hb' (4 * p + y)) = 1
              split
              · rfl
              · exact h4
            · subst h1; subst h2
              exact ⟨by omega, hx, if_pos rfl⟩
      · rw [if_neg q, if_neg (show ¬ nI 0 = (1 : Int32) by decide)] at sp
        simp only [Option.bind_some] at sp
        refine ⟨(nI a', z), sp, a', rfl, h8, k, z25, z27, hb', z26, z01, fun s => ?_, fun p y => ?_⟩
        · rw [zb]
          constructor
          · rintro ⟨p, p1, p2, p3⟩; exact ⟨p, by omega, p2, p3⟩
          · rintro ⟨p, p1, p2, p3⟩
            by_cases qp : p = i
            · subst qp; exact absurd p2 q
            · exact ⟨p, by omega, p2, p3⟩
        · rw [zh]
          constructor
          · rintro (h | ⟨h5, h6⟩)
            · exact Or.inl h
            · exact Or.inr ⟨by omega, h6⟩
          · rintro (h | ⟨h5, h6, h7⟩)
            · exact Or.inl h
            · by_cases qp : p = i
              · subst qp; exact absurd h6 q
              · exact Or.inr ⟨by omega, h6, h7⟩)
  refine ⟨a', y.2, hb', ?_, y2, y3, y4, y5, y6, y7, fun s => ?_, fun p z => ?_⟩
  · rw [y1] at e; exact e
  · rw [y8]
    exact ⟨fun ⟨p, _, p2, p3⟩ => ⟨p, p2, p3⟩, fun ⟨p, p2, p3⟩ => ⟨p, ha p p2, p2, p3⟩⟩
  · rw [y9]
    exact ⟨fun h => h.imp id (fun h => h.2), fun h => h.imp id (fun h => ⟨ha p h.1, h⟩)⟩
end HEADS2
