theorem lw_lt {w x : Nat} (hw : w < 21) (hx : x ∈ lw w) : x < 4 := by
  unfold lw at hx
  split at hx
  · simp at hx
  · split at hx
    · simp at hx; omega
    · simp at hx; omega
theorem lw_len {w : Nat} : (lw w).length ≤ 2 := by
  unfold lw; split
  · simp
  · split <;> simp
theorem p5_lettersIn (w : Nat) (hw : w < 21) : f5_lettersIn (nI w) = some (nI (lw w).length) := by
  unfold f5_lettersIn lw
  by_cases h0 : w = 0
  · subst h0; rfl
  · by_cases h4 : w ≤ 4
    · simp (disch := omega) only [nI_lit, nI_add, nI_mul, nI_clamp, vin_nI, nI_leI, nI_ltI, nI_eq, nI_sub, gd_t, gd_p, lt_v, if_true, if_false, if_pos, if_neg, h0, h4]
      rfl
    · simp (disch := omega) only [nI_lit, nI_add, nI_mul, nI_clamp, vin_nI, nI_leI, nI_ltI, nI_eq, nI_sub, gd_t, gd_p, lt_v, if_true, if_false, if_pos, if_neg, h0, h4]
      rfl
theorem idiv_nI {a b : Nat} (ha : a < 2 ^ 31) (hb : b < 2 ^ 31) : nI a / nI b = nI (a / b) := by
  apply Int32.toInt_inj.mp
  rw [Int32.toInt_div, nI_toInt ha, nI_toInt hb, nI_toInt (Nat.lt_of_le_of_lt (Nat.div_le_self a b) ha), Int.tdiv_eq_ediv_of_nonneg (by omega)]
  rw [show (a : Int) / (b : Int) = ((a / b : Nat) : Int) from (Int.natCast_ediv a b).symm]
  have := Nat.div_le_self a b
  generalize a / b = q at this ⊢
  exact Int.bmod_eq_of_le (by omega) (by omega)
theorem irem_nI {a b : Nat} (ha : a < 2 ^ 31) (hb : b < 2 ^ 31) : nI a - nI a / nI b * nI b = nI (a % b) := by
  rw [idiv_nI ha hb, nI_mul, nI_sub (Nat.div_mul_le_self a b)]
  congr 1
  have := Nat.div_add_mod a b
  have h2 : a / b * b = b * (a / b) := Nat.mul_comm _ _
  omega
theorem p5_firstLetter (w x : Nat) (l : List Nat) (hw : w < 21) (h : lw w = x :: l) : f5_firstLetter (nI w) = some (nI x) := by
  unfold lw at h
  unfold f5_firstLetter
  by_cases h0 : w = 0
  · rw [if_pos h0] at h; cases h
  · by_cases h4 : w ≤ 4
    · rw [if_neg h0, if_pos h4] at h
      cases h
      simp (disch := omega) only [nI_lit, nI_add, nI_mul, nI_clamp, vin_nI, nI_leI, nI_ltI, nI_eq, nI_sub, gd_t, gd_p, lt_v, if_true, if_false, if_pos, if_neg, h0, h4]
    · rw [if_neg h0, if_neg h4] at h
      cases h
      simp (disch := omega) only [nI_lit, nI_add, nI_mul, nI_clamp, vin_nI, nI_leI, nI_ltI, nI_eq, nI_sub, gd_t, gd_p, lt_v, if_true, if_false, if_pos, if_neg, h0, h4, idiv_nI]
      congr 2
theorem p5_secondLetter (w x y : Nat) (hw : w < 21) (h : lw w = [x, y]) : f5_secondLetter (nI w) = some (nI y) := by
  unfold lw at h
  unfold f5_secondLetter
  by_cases h0 : w = 0
  · rw [if_pos h0] at h; cases h
  · by_cases h4 : w ≤ 4
    · rw [if_neg h0, if_pos h4] at h
      cases h
    · rw [if_neg h0, if_neg h4] at h
      simp only [List.cons.injEq, and_true] at h
      simp (disch := omega) only [nI_lit, nI_add, nI_mul, nI_clamp, vin_nI, nI_leI, nI_ltI, nI_eq, nI_sub, gd_t, gd_p, lt_v, if_true, if_false, if_pos, if_neg, h0, h4, irem_nI]
      rw [← h.2]
      congr 2
abbrev nb : Type := (Nat → Nat) × (Nat → Nat → Nat)
def bse (g : nb) (r : Nat) : Nat := 52 * g.2 2 r + 13 * g.2 3 r
def rdw (mx : Bool) (wb : Nat → Nat) (p w : Nat) : Nat → Nat := rdl mx wb (lw w) (st0 p)
def rnd (mx : Bool) (g : nb) (co wb : Nat → Nat) : Nat → Nat → Nat
  | 0 => wb
  | r + 1 => dr mx (co r) (rdw mx wb (g.2 4 r) (g.2 5 r)) (bse g r) (rnd mx g co wb r)
/-- the rules are well made, for N states -/
def WR (g : nb) (S R : Nat) : Prop := ∀ r, r < R → g.2 2 r < S ∧ g.2 3 r < 4 ∧ g.2 4 r < S ∧ g.2 5 r < 21
theorem rnd_le {mx : Bool} {g : nb} {co wb : Nat → Nat} : ∀ (r k : Nat), rnd mx g co wb r k ≤ wb k
  | 0, _ => Nat.le_refl _
  | r + 1, k => Nat.le_trans (dr_le k) (rnd_le r k)
theorem p0_readWord (mx : Bool) (N : Nat) (hN : N ≤ 13) (wb : Nat → Nat) (wd : Nat) (hwd : wd < 21) (rd : Nat → Nat) (o : ob) (h0 : o.1 0 = nI N) (h8 : o.1 8 = mxI mx) (hr : RD N o rd) (hw : WB N (o.2 5) wb) (B : Nat) (hB : OKB mx B wb) (hA : ∀ k, k < 13 → rd k < 1000000000 → mx = false → rd k ≤ 0) :
    ∃ o1 o2, ((if nI (lw wd).length ≤ 0 then some o else ((f5_firstLetter (nI wd)).bind fun q26 => (f0_readOn q26 o).bind fun q27 => some q27)) = some o1 ∧ (if nI (lw wd).length = 2 then ((f5_secondLetter (nI wd)).bind fun q23 => (f0_readOn q23 o1).bind fun q24 => some q24) else some o1) = some o2) ∧ keep0 o o2 ∧ RD N o2 (rdl mx wb (lw wd) rd) ∧ ∀ k, k < 13 → rdl mx wb (lw wd) rd k < 1000000000 → mx = false → rdl mx wb (lw wd) rd k ≤ 2 * B := by
  cases hl : lw wd with
  | nil =>
    refine ⟨o, o, ⟨?_, ?_⟩, keep0.rf o, hr, fun k hk h1 h2 => Nat.le_trans (hA k hk h1 h2) (Nat.zero_le _)⟩
    · rw [if_pos (by decide)]
    · rw [if_neg (by decide)]
  | cons x l =>
    have hx : x < 4 := lw_lt hwd (by rw [hl]; exact List.mem_cons_self)
    obtain ⟨o1, e1, k1, r1⟩ := p0_readOn mx N x hN hx wb rd o h0 h8 hr hw (jn_ok hB hA (Nat.zero_le _) hx)
    have b1 : ∀ k, k < 13 → rdm mx wb rd x k < 1000000000 → mx = false → rdm mx wb rd x k ≤ 0 + B := fun k hk h1 h2 => rdm_bd hx hk hA hB.1 h1 h2
    have f1 := p5_firstLetter wd x l hwd hl
    cases l with
    | nil =>
      refine ⟨o1, o1, ⟨?_, ?_⟩, k1, r1, fun k hk h1 h2 => Nat.le_trans (b1 k hk h1 h2) (by omega)⟩
      · rw [if_neg (show ¬ nI [x].length ≤ 0 from (by decide : ¬ nI 1 ≤ 0)), f1]; simp only [Option.bind_some, e1]
      · rw [if_neg (show ¬ nI [x].length = 2 from (by decide : ¬ nI 1 = 2))]
    | cons y l2 =>
      have hl2 : l2 = [] := by
        have : (x :: y :: l2).length ≤ 2 := by rw [← hl]; exact lw_len
        simp only [List.length_cons] at this
        exact List.length_eq_zero_iff.mp (by omega)
      subst hl2
      have hy : y < 4 := lw_lt hwd (by rw [hl]; simp)
      obtain ⟨o2, e2, k2, r2⟩ := p0_readOn mx N y hN hy wb _ o1 (by rw [k1.1 0 (by decide), h0]) (by rw [k1.1 8 (by decide), h8]) r1 (by rw [k1.2 5 (by decide) (by decide)]; exact hw) (jn_ok hB b1 (by omega) hy)
      refine ⟨o1, o2, ⟨?_, ?_⟩, k1.tr k2, r2, fun k hk h1 h2 => Nat.le_trans (rdm_bd hy hk b1 hB.1 h1 h2) (by omega)⟩
      · rw [if_neg (show ¬ nI [x, y].length ≤ 0 from (by decide : ¬ nI 2 ≤ 0)), f1]; simp only [Option.bind_some, e1]
      · rw [if_pos (show nI [x, y].length = 2 from rfl), p5_secondLetter wd x y hwd hl]; simp only [Option.bind_some, e2]
theorem p0_playRound (mx : Bool) (N S R : Nat) (hN : N ≤ 13) (hSN : S ≤ N) (hS : S ≤ 3) (hR : R ≤ 10) (g : nb) (hg : WR g S R) (co wb : Nat → Nat) (hco : ∀ r, r < R → co r ≤ 1000000000) (hc9 : ∀ r, r < R → co r < 1000000000 → co r ≤ 9) (B : Nat) (hB : OKB mx B wb) (o t : ob) (h0 : o.1 0 = nI N) (h8 : o.1 8 = mxI mx)
    (ht1 : t.1 1 = nI R) (ht : ∀ k r, r < R → 2 ≤ k → k ≤ 5 → t.2 k r = nI (g.2 k r)) (h7 : ∀ r, r < R → o.2 7 r = cd (co r)) (hwb : WB N (o.2 5) wb) (h4 : ∀ k, k < 676 → rL (o.2 4) k = eL (wb k)) :
    ∃ f o', f0_playRound o t = some (f, o') ∧ (∀ k, k ≠ 11 → o'.1 k = o.1 k) ∧ (∀ k, k ≠ 4 → k ≠ 9 → k ≠ 10 → o'.2 k = o.2 k) ∧ (∀ k, k < 676 → rL (o'.2 4) k = eL (rnd mx g co wb R k)) ∧ (f = nI 0 ∨ f = nI 1) ∧ (f = nI 1 ↔ ∃ k, k < 676 ∧ rnd mx g co wb R k < wb k) := by
  obtain ⟨k, z, e, q, q1, q2, q3, q4, q5⟩ := wh_meas (st := f0_playRound_L4 t) (fun m z => ∃ i, m = 10 - i ∧ i ≤ R ∧ z.2.1 = nI i ∧ (∀ k, k ≠ 11 → z.2.2.1 k = o.1 k) ∧ (∀ k, k ≠ 4 → k ≠ 9 → k ≠ 10 → z.2.2.2 k = o.2 k) ∧ (∀ k, k < 676 → rL (z.2.2.2 4) k = eL (rnd mx g co wb i k)) ∧ (z.1 = nI 0 ∨ z.1 = nI 1) ∧ (z.1 = nI 1 ↔ ∃ k, k < 676 ∧ rnd mx g co wb i k < wb k))
    (fun k z => k = 0 ∧ (∀ k, k ≠ 11 → z.2.2.1 k = o.1 k) ∧ (∀ k, k ≠ 4 → k ≠ 9 → k ≠ 10 → z.2.2.2 k = o.2 k) ∧ (∀ k, k < 676 → rL (z.2.2.2 4) k = eL (rnd mx g co wb R k)) ∧ (z.1 = nI 0 ∨ z.1 = nI 1) ∧ (z.1 = nI 1 ↔ ∃ k, k < 676 ∧ rnd mx g co wb R k < wb k))
    (by
      rintro m ⟨z0, z1, z2⟩ ⟨i, rfl, hi, rfl, h1, h2, h3, h5, h6⟩
      dsimp only at h1 h2 h3 h5 h6
      unfold f0_playRound_L4
      dsimp only
      rw [ht1]
      by_cases hb : i = R
      · subst hb
        refine Or.inl ⟨0, (z0, nI i, z2), ?_, rfl, h1, h2, h3, h5, h6⟩
        rw [if_pos (nI_le (Nat.le_refl _) (by omega))]
      · have hi1 : i + 1 ≤ R := by omega
        have hm1 : 10 - (i + 1) < 10 - i := by omega
        have hiR : i < R := by omega
        obtain ⟨g2, g3, g4, g5⟩ := hg i hiR
        have e7 : z2.2 7 i = cd (co i) := by rw [h2 7 (by decide) (by decide) (by decide)]; exact h7 i hiR
        have c7 := hco i hiR
        have hbse : bse g i + 13 ≤ 676 := by unfold bse; omega
        by_cases hc : co i = 1000000000
        · have same : ∀ k, k < 676 → rnd mx g co wb (i + 1) k = rnd mx g co wb i k := by
            intro k hk
            show dr mx (co i) _ _ _ k = _
            unfold dr
            split
            · rw [jn_a (by omega), Nat.min_eq_left (Nat.le_trans (rnd_le i k) (hwb.2.1 k hk))]
            · rfl
          refine Or.inr ⟨10 - (i + 1), (z0, nI (i + 1), z2), hm1, ?_, i + 1, rfl, hi1, rfl, h1, h2, fun k hk => by rw [h3 k hk, same k hk], h5, ?_⟩
          · have a0 : cd (co i) = -(nI 1) := cd_ge (by omega)
            rw [hc] at e7
            have e7' : z2.2 7 i = -(nI 1) := e7
            clear h6
            simp (disch := omega) only [nI_lit, nI_add, nI_mul, nI_clamp, vin_nI, nI_leI, nI_ltI, nI_eq, nI_sub, gd_t, gd_p, lt_v, if_true, if_false, if_pos, if_neg, Option.bind_some, e7']
          · rw [h6]
            constructor
            · rintro ⟨k, hk, hd⟩; exact ⟨k, hk, by rw [same k hk]; exact hd⟩
            · rintro ⟨k, hk, hd⟩; exact ⟨k, hk, by rw [← same k hk]; exact hd⟩
        · have hc : co i < 1000000000 := by omega
          rw [cd_lt hc] at e7
          obtain ⟨oa, ea, a1, a2, a3⟩ := p0_startAt N (g.2 4 i) hN (by omega) z2
          have oa0 : oa.1 0 = nI N := by rw [a1, h1 0 (by decide), h0]
          have oa8 : oa.1 8 = mxI mx := by rw [a1, h1 8 (by decide), h8]
          have oa5 : oa.2 5 = o.2 5 := by rw [a2 5 (by decide), h2 5 (by decide) (by decide) (by decide)]
          obtain ⟨ob1, oc, ⟨eb, ec⟩, kc, rc, bc⟩ := p0_readWord mx N hN wb (g.2 5 i) g5 (st0 (g.2 4 i)) oa oa0 oa8 a3 (by rw [oa5]; exact hwb) B hB st0_bd
          have oc4 : oc.2 4 = z2.2 4 := by rw [kc.2 4 (by decide) (by decide), a2 4 (by decide)]
          have oc7 : oc.2 7 = z2.2 7 := by rw [kc.2 7 (by decide) (by decide), a2 7 (by decide)]
          obtain ⟨f, od, ed, d1, d2, d3, d4, d5⟩ := p0_drawEdges mx N (co i) (bse g i) hN hbse hc (rnd mx g co wb i) _ oc (by rw [kc.1 0 (by decide), oa0]) (by rw [kc.1 8 (by decide), oa8]) rc (by rw [oc4]; exact h3) (fun k hk => Nat.le_trans (rnd_le i k) (hwb.2.1 k hk)) (fun k hk h1 => by
            by_cases hmx : mx = true
            · exact (jn_bd hc h1 (Nat.le_refl _) (Nat.le_refl _) (Or.inl hmx)).1
            · have hmf : mx = false := by simpa using hmx
              refine (jn_bd hc h1 (hc9 i hiR hc) (bc k hk h1 hmf) (Or.inr ?_)).1
              rcases hB.2 with h | h
              · exact absurd h hmx
              · omega)
          have hor : ∃ z', z0 ||| f = z' ∧ (z' = nI 0 ∨ z' = nI 1) ∧ (z' = nI 1 ↔ z0 = nI 1 ∨ f = nI 1) := by
            refine ⟨_, rfl, ?_, ?_⟩ <;> rcases h5 with h | h <;> rcases d4 with h' | h' <;> rw [h, h'] <;> decide
          obtain ⟨z', hz', hz1, hz2⟩ := hor
          refine Or.inr ⟨10 - (i + 1), (z', nI (i + 1), od), hm1, ?_, i + 1, rfl, hi1, rfl, ?_, ?_, d3, hz1, ?_⟩
          · have t4 := ht 4 i hiR (by decide) (by decide)
            have t5 := ht 5 i hiR (by decide) (by decide)
            have t2 := ht 2 i hiR (by decide) (by decide)
            have t3 := ht 3 i hiR (by decide) (by decide)
            have n7 : ¬ nI (co i) = -(nI 1) := nI_ne_neg (by omega) (by decide) (by decide)
            have o7 : oc.2 7 i = nI (co i) := by rw [oc7, e7]
            have bb : 52 * g.2 2 i + 13 * g.2 3 i + 0 = bse g i := rfl
            clear h6 d5 hz2 hz1 h5
            simp (disch := omega) only [nI_lit, nI_add, nI_mul, nI_clamp, vin_nI, nI_leI, nI_ltI, nI_eq, nI_sub, gd_t, gd_p, lt_v, if_true, if_false, if_pos, if_neg, Option.bind_some, e7, n7, t4, t5, t2, t3, ea, p5_lettersIn, p5_edgeAt, o7, bb, ed] at eb ec ⊢
            rw [eb]
            simp only [Option.bind_some]
            rw [ec]
            simp (disch := omega) only [nI_lit, nI_add, nI_mul, nI_clamp, vin_nI, nI_leI, nI_ltI, nI_eq, nI_sub, gd_t, gd_p, lt_v, if_true, if_false, if_pos, if_neg, Option.bind_some, o7, bb, ed, hz']
          · intro k hk
            rw [d1, kc.1 k hk, a1, h1 k hk]
          · intro k k1 k2 k3
            rw [d2 k k1, kc.2 k k2 k3, a2 k k2, h2 k k1 k2 k3]
          · rw [hz2, h6, d5]
            constructor
            · rintro (⟨k, hk, hd⟩ | ⟨k, hk, hd⟩)
              · exact ⟨k, hk, Nat.lt_of_le_of_lt (dr_le k) hd⟩
              · exact ⟨k, hk, Nat.lt_of_lt_of_le hd (rnd_le i k)⟩
            · rintro ⟨k, hk, hd⟩
              by_cases q : rnd mx g co wb i k < wb k
              · exact Or.inl ⟨k, hk, q⟩
              · refine Or.inr ⟨k, hk, ?_⟩
                have := rnd_le (mx := mx) (g := g) (co := co) (wb := wb) i k
                exact Nat.lt_of_lt_of_le hd (by omega))
    10 (nI 0, nI 0, o) ⟨0, rfl, by omega, rfl, fun _ _ => rfl, fun _ _ _ _ => rfl, h4, Or.inl rfl, fun h => absurd (show nI 0 = nI 1 from h) (by decide), fun ⟨k, hk, hd⟩ => absurd hd (Nat.lt_irrefl _)⟩
  subst q
  refine ⟨z.1, z.2.2, ?_, q1, q2, q3, q4, q5⟩
  unfold f0_playRound
  simp only [nI_lit] at e ⊢
  rw [e]
  rcases q4 with h | h <;> simp only [Option.bind_some, h, bz_0, bz_1, gd_t]
