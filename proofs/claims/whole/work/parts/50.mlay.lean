theorem cd_0 : cd 0 = nI 0 := cd_lt (by omega)
theorem cd_FR : cd 1000000000 = -(nI 1) := cd_ge (Nat.le_refl _)
/-- the reference's targets -/
def MT (m : ob) (g : nb) : Prop := m.1 0 = nI (g.1 0) ∧ m.1 3 = nI (g.1 7) ∧ ∀ i, i < g.1 7 → m.2 4 (6 * i) = nI (g.2 8 i) ∧ m.2 4 (6 * i + 1) = nI (g.2 9 i) ∧ m.2 4 (6 * i + 2) = nI (g.2 10 i) ∧ ∀ j, j < g.2 9 i → m.2 4 (6 * i + 3 + j) = nI (g.2 11 (3 * i + j))
theorem p6_L52a (t S len op a i c x : Nat) (z2 : ob) (hlen : len ≤ 3) (hi : i + 1 < len) (ht : t < 4) (hS : S ≤ 3) (ha : a < 13) (hc : c < 13) (hx : x < 4) (h15 : z2.1 15 = nI c) (h4 : z2.2 4 (6 * t + 3 + i) = nI x) :
    f6_targetEdges_L52 (nI (6 * t)) (nI (S + 1)) (nI len) (nI op) (nI a, nI i, z2) = some (0, (nI c, nI (i + 1), sI (sA z2 13 (52 * a + 13 * x + c) (nI 0)) 15 (nI (c + 1)))) := by
  unfold f6_targetEdges_L52
  have c1 : ¬ nI len ≤ nI i := nI_ge (by omega) (by omega)
  have c2 : ¬ (nI len - 1) ≤ nI i := by
    rw [show (1 : Int32) = nI 1 from rfl, nI_sub (by omega)]
    exact nI_ge (by omega) (by omega)
  have e3 : nI (6 * t) + 3 + nI i = nI (6 * t + 3 + i) := by
    rw [show (3 : Int32) = nI 3 from rfl, nI_add, nI_add]
  dsimp only
  rw [if_neg c1, if_neg c2, e3, h15]
  simp only [Option.bind_some]
  rw [vin_nI (by omega), gd_p (by omega), nI_clamp (by omega), h4, p6_place]
  simp only [Option.bind_some]
  rw [vin_nI (by omega), gd_p (by omega), nI_clamp (by omega), if_neg c2]
  simp only [Option.bind_some, lt_v, sA_1, h15, nI_1]
  rfl
theorem p6_L52b (t S len op a i c d x : Nat) (z2 : ob) (hlen : len ≤ 3) (hi : i + 1 = len) (ht : t < 4) (hS : S ≤ 3) (ha : a < 13) (hc : c < 14) (hx : x < 4) (hop : (op = 0 ∧ d = S) ∨ (op = 1 ∧ d = S + 1)) (h0 : z2.1 0 = nI S) (h15 : z2.1 15 = nI c) (h4 : z2.2 4 (6 * t + 3 + i) = nI x) :
    f6_targetEdges_L52 (nI (6 * t)) (nI (S + 1)) (nI len) (nI op) (nI a, nI i, z2) = some (0, (nI d, nI (i + 1), sI (sA z2 13 (52 * a + 13 * x + d) (nI 0)) 15 (nI c))) := by
  unfold f6_targetEdges_L52
  have c1 : ¬ nI len ≤ nI i := nI_ge (by omega) (by omega)
  have c2 : (nI len - 1) ≤ nI i := by
    rw [show (1 : Int32) = nI 1 from rfl, nI_sub (by omega)]
    exact nI_le (by omega) (by omega)
  have e3 : nI (6 * t) + 3 + nI i = nI (6 * t + 3 + i) := by
    rw [show (3 : Int32) = nI 3 from rfl, nI_add, nI_add]
  have e4 : (if nI op = 0 then some (z2.1 0) else some (nI (S + 1))) = some (nI d) := by
    rcases hop with ⟨z9, zl⟩ | ⟨z9, zl⟩ <;> rw [zl, z9]
    · rw [if_pos (show nI 0 = (0 : Int32) from rfl), h0]
    · rw [if_neg (by decide)]
  dsimp only
  rw [if_neg c1, if_pos c2, e3, e4]
  simp only [Option.bind_some]
  rw [vin_nI (by omega), gd_p (by omega), nI_clamp (by omega), h4, p6_place]
  simp only [Option.bind_some]
  rw [vin_nI (by omega), gd_p (by omega), nI_clamp (by omega), if_pos c2]
  simp only [Option.bind_some, lt_v, sA_1, h15, nI_1]
  rw [show nI c + 0 = nI c from nI_add c 0]
  rfl
theorem p6_letters (g : nb) (h : WT g) (t : Nat) (ht : t < g.1 7) (o : ob) (hT : MT o g) (nn : Nat) (w : Nat → Nat) (hw : W2 w) (hNT : NT nn w) (hn1 : g.1 0 + 2 ≤ nn) (hn2 : nn + 2 ≤ 13) (h0 : o.1 15 = nI nn) (h4 : ∀ k, k < 676 → o.2 13 k = cd (w k)) :
    ∃ z, wh (f6_targetEdges_L52 (nI (6 * t)) (nI (g.1 0 + 1)) (nI (g.2 9 t)) (nI (g.2 10 t))) (nI (g.2 8 t), 0, o) = some (1, z) ∧ (g.2 9 t = 0 → z.1 = nI (g.2 8 t)) ∧ (∀ k, k ≠ 15 → z.2.2.1 k = o.1 k) ∧ z.2.2.1 15 = nI (la g t (lastOf g t) nn w (g.2 9 t)).2.1 ∧ (∀ k, k ≠ 13 → z.2.2.2 k = o.2 k) ∧ ∀ k, k < 676 → z.2.2.2 13 k = cd ((la g t (lastOf g t) nn w (g.2 9 t)).2.2 k) := by
  obtain ⟨g0, g1, g2, g3⟩ := h
  obtain ⟨b1, b2, b3, b4⟩ := g3 t ht
  obtain ⟨hT1, -, hT3⟩ := hT
  obtain ⟨-, -, -, t11⟩ := hT3 t ht
  have hl : lastOf g t < nn := by unfold lastOf; split <;> omega
  have ok := la_ok (g := g) (t := t) (last := lastOf g t) hw hNT (by omega) hl b2 b4 (by omega)
  obtain ⟨k, z, e, q, q0, q1, q2, q3, q4⟩ := wh_meas (st := f6_targetEdges_L52 (nI (6 * t)) (nI (g.1 0 + 1)) (nI (g.2 9 t)) (nI (g.2 10 t))) (fun m z => ∃ i, m = 3 - i ∧ i ≤ g.2 9 t ∧ z.1 = nI (la g t (lastOf g t) nn w i).1 ∧ z.2.1 = nI i ∧ (∀ k, k ≠ 15 → z.2.2.1 k = o.1 k) ∧ z.2.2.1 15 = nI (la g t (lastOf g t) nn w i).2.1 ∧ (∀ k, k ≠ 13 → z.2.2.2 k = o.2 k) ∧ ∀ k, k < 676 → z.2.2.2 13 k = cd ((la g t (lastOf g t) nn w i).2.2 k))
    (fun k z => k = 0 ∧ (g.2 9 t = 0 → z.1 = nI (g.2 8 t)) ∧ (∀ k, k ≠ 15 → z.2.2.1 k = o.1 k) ∧ z.2.2.1 15 = nI (la g t (lastOf g t) nn w (g.2 9 t)).2.1 ∧ (∀ k, k ≠ 13 → z.2.2.2 k = o.2 k) ∧ ∀ k, k < 676 → z.2.2.2 13 k = cd ((la g t (lastOf g t) nn w (g.2 9 t)).2.2 k))
    (by
      rintro m ⟨z0, z1, z2⟩ ⟨i, rfl, hi, rfl, rfl, h1, h2, h3, h5⟩
      dsimp only at h1 h2 h3 h5
      obtain ⟨c1, c2, c3, c4, c5, c6⟩ := ok i hi
      by_cases hb : i = g.2 9 t
      · subst hb
        refine Or.inl ⟨0, (nI (la g t (lastOf g t) nn w (g.2 9 t)).1, nI (g.2 9 t), z2), ?_, rfl, ?_, h1, h2, h3, h5⟩
        · unfold f6_targetEdges_L52
          dsimp only
          rw [if_pos (nI_le (Nat.le_refl _) (by omega))]
        · intro hz
          have e9 : (la g t (lastOf g t) nn w 0).1 = g.2 8 t := by simp only [la]
          show nI (la g t (lastOf g t) nn w (g.2 9 t)).1 = _
          rw [← e9, hz]
      · have hm1 : 3 - (i + 1) < 3 - i := by omega
        have hi1 : i + 1 ≤ g.2 9 t := by omega
        have l4 := b4 i (by omega)
        have e11 : z2.2 4 (6 * t + 3 + i) = nI (g.2 11 (3 * t + i)) := by rw [h3 4 (by decide)]; exact t11 i (by omega)
        have e0 : z2.1 0 = nI (g.1 0) := by rw [h1 0 (by decide)]; exact hT1
        by_cases q : i + 1 < g.2 9 t
        · have el : la g t (lastOf g t) nn w (i + 1) = ((la g t (lastOf g t) nn w i).2.1, (la g t (lastOf g t) nn w i).2.1 + 1, setz (la g t (lastOf g t) nn w i).2.2 (52 * (la g t (lastOf g t) nn w i).1 + 13 * g.2 11 (3 * t + i) + (la g t (lastOf g t) nn w i).2.1)) := by
            simp only [la, q, if_true]
          refine Or.inr ⟨3 - (i + 1), (nI (la g t (lastOf g t) nn w i).2.1, nI (i + 1), sI (sA z2 13 (52 * (la g t (lastOf g t) nn w i).1 + 13 * g.2 11 (3 * t + i) + (la g t (lastOf g t) nn w i).2.1) (nI 0)) 15 (nI ((la g t (lastOf g t) nn w i).2.1 + 1))), hm1, ?_, i + 1, rfl, hi1, by rw [el], rfl, ?_, ?_, ?_, ?_⟩
          · exact p6_L52a t _ _ _ _ i _ _ z2 b2 q (by omega) (by omega) (by omega) (by omega) l4 h2 e11
          · intro k hk
            simp only [sI_1, sI_2, sA_1, sA_2, sR_1, sR_2, upd_at, sL_1, sL_2, rL_uL, updL_at, if_neg hk]
            exact h1 k hk
          · rw [el]; simp only [sI_1, sI_2, sA_1, sA_2, sR_1, sR_2, upd_at, sL_1, sL_2, rL_uL, updL_at, if_true]
          · intro k hk
            simp only [sI_1, sI_2, sA_1, sA_2, sR_1, sR_2, upd_at, sL_1, sL_2, rL_uL, updL_at, if_neg hk]
            exact h3 k hk
          · intro k hk
            rw [el]
            simp only [sI_1, sI_2, sA_1, sA_2, sR_1, sR_2, upd_at, sL_1, sL_2, rL_uL, updL_at, if_true, setz]
            by_cases r : k = 52 * (la g t (lastOf g t) nn w i).1 + 13 * g.2 11 (3 * t + i) + (la g t (lastOf g t) nn w i).2.1
            · rw [if_pos r, if_pos r]; exact cd_0.symm
            · rw [if_neg r, if_neg r]; exact h5 k hk
        · have el : la g t (lastOf g t) nn w (i + 1) = (lastOf g t, (la g t (lastOf g t) nn w i).2.1, setz (la g t (lastOf g t) nn w i).2.2 (52 * (la g t (lastOf g t) nn w i).1 + 13 * g.2 11 (3 * t + i) + lastOf g t)) := by
            simp only [la, q, if_false]
          refine Or.inr ⟨3 - (i + 1), (nI (lastOf g t), nI (i + 1), sI (sA z2 13 (52 * (la g t (lastOf g t) nn w i).1 + 13 * g.2 11 (3 * t + i) + lastOf g t) (nI 0)) 15 (nI (la g t (lastOf g t) nn w i).2.1)), hm1, ?_, i + 1, rfl, hi1, by rw [el], rfl, ?_, ?_, ?_, ?_⟩
          · refine p6_L52b t _ _ _ _ i _ _ _ z2 b2 (by omega) (by omega) (by omega) (by omega) (by omega) l4 ?_ e0 h2 e11
            unfold lastOf
            rcases b3 with hz | hz
            · exact Or.inl ⟨hz, by rw [if_pos hz]⟩
            · exact Or.inr ⟨hz, by rw [if_neg (by omega)]⟩
          · intro k hk
            simp only [sI_1, sI_2, sA_1, sA_2, sR_1, sR_2, upd_at, sL_1, sL_2, rL_uL, updL_at, if_neg hk]
            exact h1 k hk
          · rw [el]; simp only [sI_1, sI_2, sA_1, sA_2, sR_1, sR_2, upd_at, sL_1, sL_2, rL_uL, updL_at, if_true]
          · intro k hk
            simp only [sI_1, sI_2, sA_1, sA_2, sR_1, sR_2, upd_at, sL_1, sL_2, rL_uL, updL_at, if_neg hk]
            exact h3 k hk
          · intro k hk
            rw [el]
            simp only [sI_1, sI_2, sA_1, sA_2, sR_1, sR_2, upd_at, sL_1, sL_2, rL_uL, updL_at, if_true, setz]
            by_cases r : k = 52 * (la g t (lastOf g t) nn w i).1 + 13 * g.2 11 (3 * t + i) + lastOf g t
            · rw [if_pos r, if_pos r]; exact cd_0.symm
            · rw [if_neg r, if_neg r]; exact h5 k hk)
    3 (nI (g.2 8 t), nI 0, o) ⟨0, rfl, Nat.zero_le _, rfl, rfl, fun _ _ => rfl, h0, fun _ _ => rfl, h4⟩
  subst q
  exact ⟨z, e, q0, q1, q2, q3, q4⟩
/-- a word of no letters, open -/
theorem p6_any (p to : Nat) (hp : p < 13) (ht : to < 13) (o : ob) (w : Nat → Nat) (h4 : ∀ k, k < 676 → o.2 13 k = cd (w k)) : ∃ z, wh (f6_targetEdges_L150 (nI to) (nI 0) (nI 1) (nI p)) (0, o) = some (1, z) ∧ z.2.1 = o.1 ∧ (∀ k, k ≠ 13 → z.2.2 k = o.2 k) ∧ ∀ k, k < 676 → z.2.2 13 k = cd (an w p to 4 k) := by
  obtain ⟨k, z, e, q, q1, q2, q3⟩ := wh_meas (st := f6_targetEdges_L150 (nI to) (nI 0) (nI 1) (nI p)) (fun m z => ∃ i, m = 4 - i ∧ i ≤ 4 ∧ z.1 = nI i ∧ z.2.1 = o.1 ∧ (∀ k, k ≠ 13 → z.2.2 k = o.2 k) ∧ ∀ k, k < 676 → z.2.2 13 k = cd (an w p to i k)) (fun k z => k = 0 ∧ z.2.1 = o.1 ∧ (∀ k, k ≠ 13 → z.2.2 k = o.2 k) ∧ ∀ k, k < 676 → z.2.2 13 k = cd (an w p to 4 k))
    (by
      rintro m ⟨z1, z2⟩ ⟨i, rfl, hi, rfl, h1, h2, h3⟩
      dsimp only at h1 h2 h3
      by_cases hb : i = 4
      · subst hb
        exact Or.inl ⟨0, (nI 4, z2), rfl, rfl, h1, h2, h3⟩
      · have hm1 : 4 - (i + 1) < 4 - i := by omega
        have hi1 : i + 1 ≤ 4 := by omega
        refine Or.inr ⟨4 - (i + 1), (nI (i + 1), sA z2 13 (52 * p + 13 * i + to) (nI 0)), hm1, ?_, i + 1, rfl, hi1, rfl, h1, fun k hk => ?_, fun k hk => ?_⟩
        · unfold f6_targetEdges_L150
          simp (disch := omega) only [nI_lit, nI_add, nI_mul, nI_clamp, vin_nI, nI_leI, nI_ltI, nI_eq, nI_sub, gd_t, gd_p, lt_v, if_true, if_false, if_pos, if_neg, Option.bind_some, p6_place]
        · simp only [sI_1, sI_2, sA_1, sA_2, sR_1, sR_2, upd_at, sL_1, sL_2, rL_uL, updL_at, if_neg hk]
          exact h2 k hk
        · simp only [sI_1, sI_2, sA_1, sA_2, sR_1, sR_2, upd_at, sL_1, sL_2, rL_uL, updL_at, if_true, an, setz]
          by_cases q : k = 52 * p + 13 * i + to
          · rw [if_pos q, if_pos q]; exact cd_0.symm
          · rw [if_neg q, if_neg q]; exact h3 k hk)
    4 (nI 0, o) ⟨0, rfl, by omega, rfl, rfl, fun _ _ => rfl, h4⟩
  subst q
  exact ⟨z, e, q1, q2, q3⟩
theorem p6_targetEdges (g : nb) (h : WT g) (t : Nat) (ht : t < g.1 7) (o : ob) (hT : MT o g) (h0 : o.1 15 = nI (tg g t).1) (h4 : ∀ k, k < 676 → o.2 13 k = cd ((tg g t).2 k)) :
    ∃ o', f6_targetEdges (nI t) o = some o' ∧ (∀ k, k ≠ 15 → o'.1 k = o.1 k) ∧ o'.1 15 = nI (tg g (t + 1)).1 ∧ (∀ k, k ≠ 13 → o'.2 k = o.2 k) ∧ ∀ k, k < 676 → o'.2 13 k = cd ((tg g (t + 1)).2 k) := by
  have h' := h
  have hT' := hT
  obtain ⟨g0, g1, g2, g3⟩ := h'
  obtain ⟨b1, b2, b3, b4⟩ := g3 t ht
  obtain ⟨hT1, -, hT3⟩ := hT'
  obtain ⟨m0, m1, m2, -⟩ := hT3 t ht
  obtain ⟨c1, c2, c3, c4⟩ := tg_ok h t (by omega)
  obtain ⟨z, ez, z0, z1, z2, z3, z4⟩ := p6_letters g h t ht o hT (tg g t).1 (tg g t).2 c3 c4 c1 (by omega) h0 h4
  have fl : (if nI (g.2 10 t) = 1 then some (1 : Int32) else some 0) = some (nI (g.2 10 t)) := by
    rcases b3 with q | q <;> rw [q] <;> rfl
  have start : ∀ (r : Option ob), ((wh (f6_targetEdges_L52 (nI (6 * t)) (nI (g.1 0 + 1)) (nI (g.2 9 t)) (nI (g.2 10 t))) (nI (g.2 8 t), 0, o)).bind fun q9 => (wh (f6_targetEdges_L150 (nI (g.1 0 + 1)) (nI (g.2 9 t)) (nI (g.2 10 t)) q9.2.1) (0, q9.2.2.2)).bind fun q10 => some q10.2.2) = r → f6_targetEdges (nI t) o = r := by
    intro r hr
    unfold f6_targetEdges
    have e6 : (6 : Int32) * nI t = nI (6 * t) := by rw [show (6 : Int32) = nI 6 from rfl, nI_mul]
    have e61 : nI (6 * t) + 1 = nI (6 * t + 1) := nI_1 _
    have e62 : nI (6 * t) + 2 = nI (6 * t + 2) := nI_add (6 * t) 2
    have eS : nI (g.1 0) + 1 = nI (g.1 0 + 1) := nI_1 _
    simp only [lt_v]
    rw [e6, e61, e62, hT1, eS, vin_nI (by omega), gd_p (by omega), vin_nI (by omega), gd_p (by omega), vin_nI (by omega), gd_p (by omega), nI_clamp (by omega), nI_clamp (by omega), nI_clamp (by omega), m0, m1, m2, fl]
    exact hr
  by_cases hA : g.2 9 t = 0 ∧ g.2 10 t = 1
  · obtain ⟨h9, h10⟩ := hA
    have e9 : la g t (lastOf g t) (tg g t).1 (tg g t).2 (g.2 9 t) = (g.2 8 t, (tg g t).1, (tg g t).2) := by rw [h9]; rfl
    rw [e9] at z2 z4
    obtain ⟨y, ey, y1, y2, y3⟩ := p6_any (g.2 8 t) (g.1 0 + 1) (by omega) (by omega) z.2.2 (tg g t).2 z4
    have et : tg g (t + 1) = ((tg g t).1, an (tg g t).2 (g.2 8 t) (g.1 0 + 1) 4) := by
      simp only [tg, h9, h10, and_self, if_true, la]
    rw [et]
    refine ⟨y.2, ?_, fun k hk => by rw [y1]; exact z1 k hk, by rw [y1]; exact z2, fun k hk => by rw [y2 k hk]; exact z3 k hk, y3⟩
    refine start _ ?_
    have z0' := z0 h9
    rw [ez]
    simp only [Option.bind_some, z0']
    rw [h9, h10]
    exact (congrArg (fun x => Option.bind x _) ey).trans rfl
  · have et : tg g (t + 1) = ((la g t (lastOf g t) (tg g t).1 (tg g t).2 (g.2 9 t)).2.1, (la g t (lastOf g t) (tg g t).1 (tg g t).2 (g.2 9 t)).2.2) := by
      simp only [tg, if_neg hA]
    rw [et]
    have out : f6_targetEdges_L150 (nI (g.1 0 + 1)) (nI (g.2 9 t)) (nI (g.2 10 t)) z.1 (0, z.2.2) = some (1, (0, z.2.2)) := by
      unfold f6_targetEdges_L150
      by_cases q : g.2 9 t = 0
      · have q2 : g.2 10 t = 0 := by
          rcases b3 with r | r
          · exact r
          · exact absurd ⟨q, r⟩ hA
        rw [q, q2]
        rfl
      · simp (disch := omega) only [nI_lit, nI_add, nI_mul, nI_clamp, vin_nI, nI_leI, nI_ltI, nI_eq, nI_sub, gd_t, gd_p, lt_v, if_true, if_false, if_pos, if_neg]
    refine ⟨z.2.2, ?_, z1, z2, z3, z4⟩
    refine start _ ?_
    rw [ez]
    simp only [Option.bind_some]
    exact (congrArg (fun x => Option.bind x _) (wh_off out)).trans rfl
theorem p6_far (o : ob) : ∃ z, wh f6_begins_L2 (0, o) = some (1, z) ∧ z.2.1 = o.1 ∧ (∀ k, k ≠ 13 → z.2.2 k = o.2 k) ∧ ∀ k, k < 676 → z.2.2 13 k = cd 1000000000 := by
  obtain ⟨k, z, e, q, q1, q2, q3⟩ := wh_meas (st := f6_begins_L2) (fun m z => ∃ i, m = 676 - i ∧ i ≤ 676 ∧ z.1 = nI i ∧ z.2.1 = o.1 ∧ (∀ k, k ≠ 13 → z.2.2 k = o.2 k) ∧ ∀ k, k < i → z.2.2 13 k = cd 1000000000) (fun k z => k = 0 ∧ z.2.1 = o.1 ∧ (∀ k, k ≠ 13 → z.2.2 k = o.2 k) ∧ ∀ k, k < 676 → z.2.2 13 k = cd 1000000000)
    (by
      rintro m ⟨z1, z2⟩ ⟨i, rfl, hi, rfl, h1, h2, h3⟩
      dsimp only at h1 h2 h3
      by_cases hb : i = 676
      · subst hb
        exact Or.inl ⟨0, (nI 676, z2), rfl, rfl, h1, h2, h3⟩
      · have hm1 : 676 - (i + 1) < 676 - i := by omega
        have hi1 : i + 1 ≤ 676 := by omega
        refine Or.inr ⟨676 - (i + 1), (nI (i + 1), sA z2 13 i (-(nI 1))), hm1, ?_, i + 1, rfl, hi1, rfl, h1, fun k hk => ?_, fun k hk => ?_⟩
        · unfold f6_begins_L2
          simp (disch := omega) only [nI_lit, nI_add, nI_mul, nI_clamp, vin_nI, nI_leI, nI_ltI, nI_eq, nI_sub, gd_t, gd_p, lt_v, if_true, if_false, if_pos, if_neg, Option.bind_some]
        · simp only [sI_1, sI_2, sA_1, sA_2, sR_1, sR_2, upd_at, sL_1, sL_2, rL_uL, updL_at, if_neg hk]
          exact h2 k hk
        · simp only [sI_1, sI_2, sA_1, sA_2, sR_1, sR_2, upd_at, sL_1, sL_2, rL_uL, updL_at, if_true]
          by_cases q : k = i
          · subst q; rw [if_pos rfl]; exact cd_FR.symm
          · rw [if_neg q]; exact h3 k (by omega))
    676 (nI 0, o) ⟨0, rfl, by omega, rfl, rfl, fun _ _ => rfl, fun _ h => absurd h (by omega)⟩
  subst q
  exact ⟨z, e, q1, q2, q3⟩
theorem p6_any0 (S : Nat) (hS : S ≤ 3) (o : ob) (hs : o.1 0 = nI S) (w : Nat → Nat) (h4 : ∀ k, k < 676 → o.2 13 k = cd (w k)) : ∃ z, wh f6_begins_L34 (0, o) = some (1, z) ∧ z.2.1 = o.1 ∧ (∀ k, k ≠ 13 → z.2.2 k = o.2 k) ∧ ∀ k, k < 676 → z.2.2 13 k = cd (an w (S + 1) (S + 1) 4 k) := by
  obtain ⟨k, z, e, q, q1, q2, q3⟩ := wh_meas (st := f6_begins_L34) (fun m z => ∃ i, m = 4 - i ∧ i ≤ 4 ∧ z.1 = nI i ∧ z.2.1 = o.1 ∧ (∀ k, k ≠ 13 → z.2.2 k = o.2 k) ∧ ∀ k, k < 676 → z.2.2 13 k = cd (an w (S + 1) (S + 1) i k)) (fun k z => k = 0 ∧ z.2.1 = o.1 ∧ (∀ k, k ≠ 13 → z.2.2 k = o.2 k) ∧ ∀ k, k < 676 → z.2.2 13 k = cd (an w (S + 1) (S + 1) 4 k))
    (by
      rintro m ⟨z1, z2⟩ ⟨i, rfl, hi, rfl, h1, h2, h3⟩
      dsimp only at h1 h2 h3
      by_cases hb : i = 4
      · subst hb
        exact Or.inl ⟨0, (nI 4, z2), rfl, rfl, h1, h2, h3⟩
      · have hm1 : 4 - (i + 1) < 4 - i := by omega
        have hi1 : i + 1 ≤ 4 := by omega
        have e0 : z2.1 0 = nI S := by rw [h1]; exact hs
        refine Or.inr ⟨4 - (i + 1), (nI (i + 1), sA z2 13 (52 * (S + 1) + 13 * i + (S + 1)) (nI 0)), hm1, ?_, i + 1, rfl, hi1, rfl, h1, fun k hk => ?_, fun k hk => ?_⟩
        · unfold f6_begins_L34
          simp (disch := omega) only [nI_lit, nI_add, nI_mul, nI_clamp, vin_nI, nI_leI, nI_ltI, nI_eq, nI_sub, gd_t, gd_p, lt_v, if_true, if_false, if_pos, if_neg, Option.bind_some, p6_place, e0]
        · simp only [sI_1, sI_2, sA_1, sA_2, sR_1, sR_2, upd_at, sL_1, sL_2, rL_uL, updL_at, if_neg hk]
          exact h2 k hk
        · simp only [sI_1, sI_2, sA_1, sA_2, sR_1, sR_2, upd_at, sL_1, sL_2, rL_uL, updL_at, if_true, an, setz]
          by_cases q : k = 52 * (S + 1) + 13 * i + (S + 1)
          · rw [if_pos q, if_pos q]; exact cd_0.symm
          · rw [if_neg q, if_neg q]; exact h3 k hk)
    4 (nI 0, o) ⟨0, rfl, by omega, rfl, rfl, fun _ _ => rfl, h4⟩
  subst q
  exact ⟨z, e, q1, q2, q3⟩
