/-- the class: the automaton -/
theorem p0_costs (b R : Nat) (x2 x3 : Int32) (hb : b < 2 ^ 31) (hR : R ≤ 10) (t : ob) (ht1 : t.1 1 = nI R) (co : Nat → Nat)
    (hco : ∀ r, r < R → ∃ c, (if nI r = x2 then x3 else t.2 6 r) = cd c ∧ (c = 1000000000 ∨ c ≤ 9) ∧ co r = if c = 1000000000 then 1000000000 else if b = 1 then 1 else c) (o : ob) :
    ∃ o', wh (f0_build_L17 (nI b) x2 x3 t) (0, o) = some (1, (nI R, o')) ∧ o'.1 = o.1 ∧ (∀ k, k ≠ 7 → o'.2 k = o.2 k) ∧ ∀ r, r < R → o'.2 7 r = cd (co r) := by
  obtain ⟨o', e, h1, h2, h3⟩ := wh_fr (st := f0_build_L17 (nI b) x2 x3 t) (fun i (b : ob) => (nI i, b)) R (fun i z => z.1 = o.1 ∧ (∀ k, k ≠ 7 → z.2 k = o.2 k) ∧ ∀ r, r < i → z.2 7 r = cd (co r)) (b0 := o)
    ⟨rfl, fun _ _ => rfl, fun _ h => absurd h (by omega)⟩
    (by
      intro z _
      unfold f0_build_L17
      dsimp only
      rw [ht1, if_pos (nI_le (Nat.le_refl _) (by omega))])
    (by
      rintro i z hi ⟨h1, h2, h3⟩
      obtain ⟨c, e1, e2, e3⟩ := hco i hi
      refine ⟨sA z 7 i (cd (co i)), ?_, h1, fun k hk => by simp only [sI_1, sI_2, sA_1, sA_2, sR_1, sR_2, upd_at, sL_1, sL_2, rL_uL, updL_at, if_neg hk]; exact h2 k hk, fun r hr => ?_⟩
      · unfold f0_build_L17
        dsimp only
        rw [ht1, if_neg (nI_ge hi (by omega)), vin_nI (by omega), gd_p (show i < 10 by omega), nI_clamp (by omega)]
        have c1 : (if nI i = x2 then some x3 else some (t.2 6 i)) = some (cd c) := by
          rw [← e1]; split <;> rfl
        rw [c1]
        have c2 : (if nI b = 1 then (if cd c = -1 then some (cd c) else some (1 : Int32)) else some (cd c)) = some (cd (co i)) := by
          rw [e3]
          by_cases q : b = 1
          · rw [if_pos (show nI b = 1 by rw [q]; rfl), if_pos q]
            rcases e2 with h | h
            · rw [h, if_pos rfl, cd_FR, if_pos (by decide)]
            · rw [if_neg (show ¬ c = 1000000000 by omega), cd_lt (show 1 < 1000000000 by omega), cd_lt (show c < 1000000000 by omega), if_neg (show ¬ nI c = -1 from nI_ne_neg (b := 1) (by omega) (by omega) (by omega))]
              rfl
          · rw [if_neg (show ¬ nI b = (1 : Int32) from fun h => q ((nI_eq hb (by decide)).mp (show nI b = nI 1 from h))), if_neg q]
            by_cases h : c = 1000000000
            · rw [if_pos h, h]
            · rw [if_neg h]
        simp only [Option.bind_some]
        rw [c2]
        simp only [Option.bind_some, lt_v, nI_1]
        rw [gd_p (show i < 10 by omega)]
      · simp only [sI_1, sI_2, sA_1, sA_2, sR_1, sR_2, upd_at, sL_1, sL_2, rL_uL, updL_at, if_true]
        by_cases q : r = i
        · rw [if_pos q, q]
        · rw [if_neg q]; exact h3 r (by omega))
  exact ⟨o', e, h1, h2, h3⟩
theorem p0_build (g : nb) (h : WT g) (hr : WFr g) (b K : Nat) (x2 x3 : Int32) (hb : b < 2 ^ 31) (tw : ob) (hT : TT tw g) (ht1 : tw.1 1 = nI (g.1 1)) (ht : ∀ k r, r < g.1 1 → 2 ≤ k → k ≤ 6 → tw.2 k r = nI (g.2 k r)) (co : Nat → Nat)
    (hco : ∀ r, r < g.1 1 → ∃ c, (if nI r = x2 then x3 else nI (g.2 6 r)) = cd c ∧ (c = 1000000000 ∨ c ≤ 9) ∧ co r = if c = 1000000000 then 1000000000 else if b = 1 then 1 else c)
    (B : Nat) (hB : ∀ k, OKB (mxO b) B (ws (mxO b) g co (wt0 g) (g.1 1) k)) (hK : LAST (mxO b) g co (wt0 g) (g.1 1) K) (hK1 : K < 1000) (o : ob) :
    ∃ o', f0_build (nI b) x2 x3 o tw = some o' ∧ o'.1 0 = nI (ndn g) ∧ o'.1 1 = nI (cnt (wt0 g) 676) ∧ o'.1 2 = nI (cnt (ws (mxO b) g co (wt0 g) (g.1 1) K) 676) ∧ o'.1 3 = nI K ∧ o'.1 8 = mxI (mxO b) ∧ (∀ k, k < 676 → rL (o'.2 4) k = eL (ws (mxO b) g co (wt0 g) (g.1 1) K k)) ∧ (∀ k, k < 676 → rL (o'.2 5) k = eL (ws (mxO b) g co (wt0 g) (g.1 1) K k)) ∧ ∀ k, k < 13 → o'.2 6 k = nI (acc g (g.1 7) k) := by
  have w2 := wt0_W2 h
  have v1 : (if nI b = 2 then some (1 : Int32) else some 0) = some (mxI (mxO b)) := by
    unfold mxO mxI
    by_cases q : b = 2
    · subst q; rfl
    · rw [if_neg (show ¬ nI b = (2 : Int32) from fun h => q ((nI_eq hb (by decide)).mp (show nI b = nI 2 from h)))]
      simp only [q, decide_false]
      rfl
  have bzv : bz (mxI (mxO b)) = true := by
    cases mxO b <;> rfl
  obtain ⟨oc, ec, c1, c2, c3⟩ := p0_costs b (g.1 1) x2 x3 hb hr.2.1 tw ht1 co (fun r hr => by rw [ht 6 r hr (by omega) (by omega)]; exact hco r hr) (sI o 8 (mxI (mxO b)))
  obtain ⟨ol, el, l1, l2, l3, l4, l5⟩ := p0_layTargets g h tw oc hT
  have n1 := p0_countEdges ol (wt0 g) l4 (fun k _ => w2.le k)
  have hcF : ∀ r, r < g.1 1 → co r ≤ 1000000000 := by
    intro r hr
    obtain ⟨c, -, h2, h3⟩ := hco r hr
    rw [h3]
    split
    · exact Nat.le_refl _
    · split <;> omega
  have hc9 : ∀ r, r < g.1 1 → co r < 1000000000 → co r ≤ 9 := by
    intro r hr hlt
    obtain ⟨c, -, h2, h3⟩ := hco r hr
    rw [h3] at hlt ⊢
    by_cases q : c = 1000000000
    · rw [if_pos q] at hlt; omega
    · rw [if_neg q]; split <;> omega
  obtain ⟨z, ez, z1, z2, z3, z4, z5⟩ := p0_rounds (mxO b) (ndn g) (g.1 0) (g.1 1) K (ndn_le h) (by have := ndn_ge h; omega) h.2.1 hr.2.1 g hr.1 co (wt0 g) hcF hc9 B hB hK hK1
    (sI (sR (sI ol 1 (nI (cnt (wt0 g) 676))) 5 (uL (va_cpy (rL (ol.2 4)) (rL (ol.2 5)) 0 0 676))) 3 (nI 0)) tw
    (by show ol.1 0 = _; exact l2) rfl (by show ol.1 8 = _; rw [l1 8 (by decide), c1]; rfl)
    hT.1 ht1 (fun k r h1 h2 h3 => ht k r h1 h2 (by omega)) (fun r hr => by show ol.2 7 r = _; rw [l3 7 (by decide) (by decide)]; exact c3 r hr) (fun k _ => w2.le k) (wt0_NT h)
    (fun k hk => by
      show rL (uL (va_cpy (rL (ol.2 4)) (rL (ol.2 5)) 0 0 676)) k = _
      rw [rL_uL]
      unfold va_cpy
      rw [if_pos ⟨by omega, by omega⟩, show 0 + (k - 0) = k by omega]
      exact l4 k hk)
    (fun k hk => by show rL (ol.2 4) k = _; exact l4 k hk)
  have n2 := p0_countEdges z.2 _ z4 (fun k _ => Nat.le_trans (ws_le K k) (w2.le k))
  refine ⟨sI z.2 2 (nI (cnt (ws (mxO b) g co (wt0 g) (g.1 1) K) 676)), ?_, ?_, ?_, ?_, ?_, ?_, z4, z5, fun k hk => ?_⟩
  · unfold f0_build
    rw [v1]
    simp only [Option.bind_some, lt_v]
    rw [bzv, gd_t, ec]
    simp only [Option.bind_some]
    rw [el]
    simp only [Option.bind_some]
    rw [n1]
    simp only [Option.bind_some]
    rw [show cpk 0 0 676 676 676 = true by decide, gd_t]
    have ez' : wh (f0_build_L115 tw) (0, sI (sR (sI ol 1 (nI (cnt (wt0 g) 676))) 5 (uL (va_cpy (rL ((sI ol 1 (nI (cnt (wt0 g) 676))).2 4)) (rL ((sI ol 1 (nI (cnt (wt0 g) 676))).2 5)) (0 : Int32).toNatClampNeg (0 : Int32).toNatClampNeg (676 : Int32).toNatClampNeg))) 3 0) = some (1, z) := ez
    rw [ez']
    simp only [Option.bind_some]
    rw [n2]
    rfl
  · show z.2.1 0 = _
    rw [z1 0 (by decide) (by decide)]; exact l2
  · show z.2.1 1 = _
    rw [z1 1 (by decide) (by decide)]; rfl
  · rfl
  · show z.2.1 3 = _
    exact z2
  · show z.2.1 8 = _
    rw [z1 8 (by decide) (by decide)]
    show ol.1 8 = _
    rw [l1 8 (by decide), c1]; rfl
  · show z.2.2 6 k = _
    rw [z3 6 (by decide) (by decide) (by decide) (by decide)]
    exact l5 k hk
