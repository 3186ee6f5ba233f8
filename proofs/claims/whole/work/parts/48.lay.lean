/-! the edges at first -/
def setz (w : Nat → Nat) (p k : Nat) : Nat := if k = p then 0 else w k
def an (w : Nat → Nat) (p to : Nat) : Nat → (Nat → Nat)
  | 0 => w
  | x + 1 => setz (an w p to x) (52 * p + 13 * x + to)
/-- a target's letters: the node reached, the next free node, the weights -/
def la (g : nb) (t last : Nat) (nn : Nat) (w : Nat → Nat) : Nat → Nat × Nat × (Nat → Nat)
  | 0 => (g.2 8 t, nn, w)
  | i + 1 =>
    let s := la g t last nn w i
    let to := if i + 1 < g.2 9 t then s.2.1 else last
    (to, (if i + 1 < g.2 9 t then s.2.1 + 1 else s.2.1), setz s.2.2 (52 * s.1 + 13 * g.2 11 (3 * t + i) + to))
def lastOf (g : nb) (t : Nat) : Nat := if g.2 10 t = 0 then g.1 0 else g.1 0 + 1
/-- after t targets: the number of nodes, the weights -/
def tg (g : nb) : Nat → Nat × (Nat → Nat)
  | 0 => (g.1 0 + 2, an (fun _ => 1000000000) (g.1 0 + 1) (g.1 0 + 1) 4)
  | t + 1 =>
    let s := tg g t
    let w := if g.2 9 t = 0 ∧ g.2 10 t = 1 then an s.2 (g.2 8 t) (g.1 0 + 1) 4 else s.2
    let u := la g t (lastOf g t) s.1 w (g.2 9 t)
    (u.2.1, u.2.2)
/-- the targets are well made -/
def WT (g : nb) : Prop := 1 ≤ g.1 0 ∧ g.1 0 ≤ 3 ∧ g.1 7 ≤ 4 ∧ ∀ t, t < g.1 7 → g.2 8 t < g.1 0 ∧ g.2 9 t ≤ 3 ∧ (g.2 10 t = 0 ∨ g.2 10 t = 1) ∧ ∀ j, j < g.2 9 t → g.2 11 (3 * t + j) < 4
def W2 (w : Nat → Nat) : Prop := ∀ k, w k = 0 ∨ w k = 1000000000
theorem W2.le {w : Nat → Nat} (h : W2 w) (k : Nat) : w k ≤ 1000000000 := by rcases h k with e | e <;> rw [e] <;> omega
theorem setz_W2 {w : Nat → Nat} (h : W2 w) (p : Nat) : W2 (setz w p) := by
  intro k; unfold setz; split
  · exact Or.inl rfl
  · exact h k
theorem an_W2 {w : Nat → Nat} (h : W2 w) (p to : Nat) : ∀ x, W2 (an w p to x)
  | 0 => h
  | x + 1 => setz_W2 (an_W2 h p to x) _
theorem setz_NT {N : Nat} {w : Nat → Nat} (h : NT N w) {p x to : Nat} (hp : p < 13) (hx : x < 4) (ht : to < N) (hN : N ≤ 13) : NT N (setz w (52 * p + 13 * x + to)) := by
  intro fr y t2 h1 h2 h3 h4
  unfold setz
  rw [if_neg (by omega)]
  exact h fr y t2 h1 h2 h3 h4
theorem NT.mono {N N' : Nat} {w : Nat → Nat} (h : NT N w) (hn : N ≤ N') : NT N' w := fun fr x to h1 h2 h3 h4 => h fr x to h1 h2 (by omega) h4
theorem an_NT {N : Nat} {w : Nat → Nat} (h : NT N w) {p to : Nat} (hp : p < 13) (ht : to < N) (hN : N ≤ 13) : ∀ x, x ≤ 4 → NT N (an w p to x)
  | 0, _ => h
  | x + 1, hx => setz_NT (an_NT h hp ht hN x (by omega)) hp (by omega) ht hN
theorem la_ok {g : nb} {t last nn : Nat} {w : Nat → Nat} (hw : W2 w) (hNT : NT nn w) (hp : g.2 8 t < nn) (hlast : last < nn) (h9 : g.2 9 t ≤ 3) (h11 : ∀ j, j < g.2 9 t → g.2 11 (3 * t + j) < 4) (hnn : nn + 2 ≤ 13) : ∀ i, i ≤ g.2 9 t →
    (la g t last nn w i).1 < (la g t last nn w i).2.1 ∧ (la g t last nn w i).2.1 ≤ nn + i ∧ (la g t last nn w i).2.1 ≤ nn + 2 ∧ nn ≤ (la g t last nn w i).2.1 ∧ W2 (la g t last nn w i).2.2 ∧ NT (la g t last nn w i).2.1 (la g t last nn w i).2.2
  | 0, _ => ⟨hp, Nat.le_refl _, by show nn ≤ _; omega, Nat.le_refl _, hw, hNT⟩
  | i + 1, hi => by
    obtain ⟨a1, a2, a3, a4, a5, a6⟩ := la_ok hw hNT hp hlast h9 h11 hnn i (by omega)
    have l4 := h11 i (by omega)
    show (if i + 1 < g.2 9 t then (la g t last nn w i).2.1 else last) < (if i + 1 < g.2 9 t then (la g t last nn w i).2.1 + 1 else (la g t last nn w i).2.1) ∧ _
    by_cases q : i + 1 < g.2 9 t
    · have e : la g t last nn w (i + 1) = ((la g t last nn w i).2.1, (la g t last nn w i).2.1 + 1, setz (la g t last nn w i).2.2 (52 * (la g t last nn w i).1 + 13 * g.2 11 (3 * t + i) + (la g t last nn w i).2.1)) := by
        simp only [la, q, if_true]
      rw [e, if_pos q, if_pos q]
      dsimp only
      exact ⟨by omega, by omega, by omega, by omega, setz_W2 a5 _, setz_NT (a6.mono (by omega)) (by omega) l4 (by omega) (by omega)⟩
    · have e : la g t last nn w (i + 1) = (last, (la g t last nn w i).2.1, setz (la g t last nn w i).2.2 (52 * (la g t last nn w i).1 + 13 * g.2 11 (3 * t + i) + last)) := by
        simp only [la, q, if_false]
      rw [e, if_neg q, if_neg q]
      dsimp only
      exact ⟨by omega, by omega, by omega, by omega, setz_W2 a5 _, setz_NT a6 (by omega) l4 (by omega) (by omega)⟩
theorem tg_ok {g : nb} (h : WT g) : ∀ t, t ≤ g.1 7 → g.1 0 + 2 ≤ (tg g t).1 ∧ (tg g t).1 ≤ g.1 0 + 2 + 2 * t ∧ W2 (tg g t).2 ∧ NT (tg g t).1 (tg g t).2
  | 0, _ => by
    obtain ⟨h0, h1, h2, h3⟩ := h
    have e : tg g 0 = (g.1 0 + 2, an (fun _ => 1000000000) (g.1 0 + 1) (g.1 0 + 1) 4) := rfl
    rw [e]
    dsimp only
    exact ⟨Nat.le_refl _, Nat.le_refl _, an_W2 (fun _ => Or.inr rfl) _ _ _, an_NT (fun _ _ _ _ _ _ _ => rfl) (by omega) (by omega) (by omega) 4 (by omega)⟩
  | t + 1, ht => by
    obtain ⟨a1, a2, a3, a4⟩ := tg_ok h t (by omega)
    obtain ⟨h0, h1, h2, h3⟩ := h
    obtain ⟨b1, b2, b3, b4⟩ := h3 t (by omega)
    have hw : W2 (if g.2 9 t = 0 ∧ g.2 10 t = 1 then an (tg g t).2 (g.2 8 t) (g.1 0 + 1) 4 else (tg g t).2) := by
      split
      · exact an_W2 a3 _ _ _
      · exact a3
    have hn : NT (tg g t).1 (if g.2 9 t = 0 ∧ g.2 10 t = 1 then an (tg g t).2 (g.2 8 t) (g.1 0 + 1) 4 else (tg g t).2) := by
      split
      · exact an_NT a4 (by omega) (by omega) (by omega) 4 (by omega)
      · exact a4
    have hl : lastOf g t < (tg g t).1 := by unfold lastOf; split <;> omega
    obtain ⟨c1, c2, c3, c4, c5, c6⟩ := la_ok (g := g) (t := t) (last := lastOf g t) hw hn (by omega) hl b2 b4 (by omega) (g.2 9 t) (Nat.le_refl _)
    refine ⟨?_, ?_, c5, c6⟩
    · show _ ≤ (la g t _ _ _ _).2.1; omega
    · show (la g t _ _ _ _).2.1 ≤ _; omega
/-- the tower's targets -/
def TT (t : ob) (g : nb) : Prop := t.1 0 = nI (g.1 0) ∧ t.1 7 = nI (g.1 7) ∧ ∀ i, i < g.1 7 → t.2 8 i = nI (g.2 8 i) ∧ t.2 9 i = nI (g.2 9 i) ∧ t.2 10 i = nI (g.2 10 i) ∧ ∀ j, j < g.2 9 i → t.2 11 (3 * i + j) = nI (g.2 11 (3 * i + j))
def acc (g : nb) : Nat → Nat → Nat
  | 0, k => if k = g.1 0 ∨ k = g.1 0 + 1 then 1 else 0
  | t + 1, k => if g.2 9 t = 0 ∧ k = g.2 8 t then 1 else acc g t k
theorem p0_any (p to : Nat) (hp : p < 13) (ht : to < 13) (o : ob) (w : Nat → Nat) (h4 : ∀ k, k < 676 → rL (o.2 4) k = eL (w k)) : ∃ o', f0_layAnyLetter (nI p) (nI to) o = some o' ∧ o'.1 = o.1 ∧ (∀ k, k ≠ 4 → o'.2 k = o.2 k) ∧ ∀ k, k < 676 → rL (o'.2 4) k = eL (an w p to 4 k) := by
  obtain ⟨k, z, e, q, q1, q2, q3⟩ := wh_meas (st := f0_layAnyLetter_L2 (nI p) (nI to)) (fun m z => ∃ i, m = 4 - i ∧ i ≤ 4 ∧ z.1 = nI i ∧ z.2.1 = o.1 ∧ (∀ k, k ≠ 4 → z.2.2 k = o.2 k) ∧ ∀ k, k < 676 → rL (z.2.2 4) k = eL (an w p to i k)) (fun k z => k = 0 ∧ z.2.1 = o.1 ∧ (∀ k, k ≠ 4 → z.2.2 k = o.2 k) ∧ ∀ k, k < 676 → rL (z.2.2 4) k = eL (an w p to 4 k))
    (by
      rintro m ⟨z1, z2⟩ ⟨i, rfl, hi, rfl, h1, h2, h3⟩
      dsimp only at h1 h2 h3
      by_cases hb : i = 4
      · subst hb
        exact Or.inl ⟨0, (nI 4, z2), rfl, rfl, h1, h2, h3⟩
      · have hm1 : 4 - (i + 1) < 4 - i := by omega
        have hi1 : i + 1 ≤ 4 := by omega
        refine Or.inr ⟨4 - (i + 1), (nI (i + 1), sL z2 4 (52 * p + 13 * i + to) (eL 0)), hm1, ?_, i + 1, rfl, hi1, rfl, h1, fun k hk => ?_, fun k hk => ?_⟩
        · unfold f0_layAnyLetter_L2
          simp (disch := omega) only [nI_lit, nI_add, nI_mul, nI_clamp, vin_nI, nI_leI, nI_ltI, nI_eq, nI_sub, gd_t, gd_p, lt_v, if_true, if_false, if_pos, if_neg, eL_F, eL_Z, eL_leI, eL_ltI, Option.bind_some, p5_edgeAt]
        · simp only [sI_1, sI_2, sA_1, sA_2, sR_1, sR_2, upd_at, sL_1, sL_2, rL_uL, updL_at, if_neg hk]
          exact h2 k hk
        · simp only [sI_1, sI_2, sA_1, sA_2, sR_1, sR_2, upd_at, sL_1, sL_2, rL_uL, updL_at, if_true, an, setz]
          by_cases q : k = 52 * p + 13 * i + to
          · rw [if_pos q, if_pos q]
          · rw [if_neg q, if_neg q]; exact h3 k hk)
    4 (nI 0, o) ⟨0, rfl, by omega, rfl, rfl, fun _ _ => rfl, h4⟩
  subst q
  refine ⟨z.2, ?_, q1, q2, q3⟩
  unfold f0_layAnyLetter
  simp only [nI_lit] at e ⊢
  rw [e]
  rfl
/-- one target's letters -/
theorem p0_letters (g : nb) (h : WT g) (t : Nat) (ht : t < g.1 7) (tw o : ob) (hT : TT tw g) (nn : Nat) (w : Nat → Nat) (hw : W2 w) (hNT : NT nn w) (hn1 : g.1 0 + 2 ≤ nn) (hn2 : nn + 2 ≤ 13) (h0 : o.1 0 = nI nn) (h4 : ∀ k, k < 676 → rL (o.2 4) k = eL (w k)) :
    ∃ z, wh (f0_layTargets_L171 tw (nI t) (nI (lastOf g t)) (nI (g.2 9 t))) (nI (g.2 8 t), 0, o) = some (1, z) ∧ (∀ k, k ≠ 0 → z.2.2.1 k = o.1 k) ∧ z.2.2.1 0 = nI (la g t (lastOf g t) nn w (g.2 9 t)).2.1 ∧ (∀ k, k ≠ 4 → z.2.2.2 k = o.2 k) ∧ ∀ k, k < 676 → rL (z.2.2.2 4) k = eL ((la g t (lastOf g t) nn w (g.2 9 t)).2.2 k) := by
  obtain ⟨g0, g1, g2, g3⟩ := h
  obtain ⟨b1, b2, b3, b4⟩ := g3 t ht
  obtain ⟨-, -, hT3⟩ := hT
  obtain ⟨-, -, -, t11⟩ := hT3 t ht
  have hl : lastOf g t < nn := by unfold lastOf; split <;> omega
  have ok := la_ok (g := g) (t := t) (last := lastOf g t) hw hNT (by omega) hl b2 b4 (by omega)
  obtain ⟨k, z, e, q, q1, q2, q3, q4⟩ := wh_meas (st := f0_layTargets_L171 tw (nI t) (nI (lastOf g t)) (nI (g.2 9 t))) (fun m z => ∃ i, m = 3 - i ∧ i ≤ g.2 9 t ∧ z.1 = nI (la g t (lastOf g t) nn w i).1 ∧ z.2.1 = nI i ∧ (∀ k, k ≠ 0 → z.2.2.1 k = o.1 k) ∧ z.2.2.1 0 = nI (la g t (lastOf g t) nn w i).2.1 ∧ (∀ k, k ≠ 4 → z.2.2.2 k = o.2 k) ∧ ∀ k, k < 676 → rL (z.2.2.2 4) k = eL ((la g t (lastOf g t) nn w i).2.2 k))
    (fun k z => k = 0 ∧ (∀ k, k ≠ 0 → z.2.2.1 k = o.1 k) ∧ z.2.2.1 0 = nI (la g t (lastOf g t) nn w (g.2 9 t)).2.1 ∧ (∀ k, k ≠ 4 → z.2.2.2 k = o.2 k) ∧ ∀ k, k < 676 → rL (z.2.2.2 4) k = eL ((la g t (lastOf g t) nn w (g.2 9 t)).2.2 k))
    (by
      rintro m ⟨z0, z1, z2⟩ ⟨i, rfl, hi, rfl, rfl, h1, h2, h3, h5⟩
      dsimp only at h1 h2 h3 h5
      obtain ⟨c1, c2, c3, c4, c5, c6⟩ := ok i hi
      by_cases hb : i = g.2 9 t
      · subst hb
        refine Or.inl ⟨0, (nI (la g t (lastOf g t) nn w (g.2 9 t)).1, nI (g.2 9 t), z2), ?_, rfl, h1, h2, h3, h5⟩
        unfold f0_layTargets_L171
        dsimp only
        rw [if_pos (nI_le (Nat.le_refl _) (by omega))]
      · have hm1 : 3 - (i + 1) < 3 - i := by omega
        have hi1 : i + 1 ≤ g.2 9 t := by omega
        have l4 := b4 i (by omega)
        have e11 := t11 i (by omega)
        by_cases q : i + 1 < g.2 9 t
        · have el : la g t (lastOf g t) nn w (i + 1) = ((la g t (lastOf g t) nn w i).2.1, (la g t (lastOf g t) nn w i).2.1 + 1, setz (la g t (lastOf g t) nn w i).2.2 (52 * (la g t (lastOf g t) nn w i).1 + 13 * g.2 11 (3 * t + i) + (la g t (lastOf g t) nn w i).2.1)) := by
            simp only [la, q, if_true]
          refine Or.inr ⟨3 - (i + 1), (nI (la g t (lastOf g t) nn w i).2.1, nI (i + 1), sL (sI z2 0 (nI ((la g t (lastOf g t) nn w i).2.1 + 1))) 4 (52 * (la g t (lastOf g t) nn w i).1 + 13 * g.2 11 (3 * t + i) + (la g t (lastOf g t) nn w i).2.1) (eL 0)), hm1, ?_, i + 1, rfl, hi1, by rw [el], rfl, ?_, ?_, ?_, ?_⟩
          · unfold f0_layTargets_L171
            have m3 : t * 3 + i = 3 * t + i := by omega
            generalize la g t (lastOf g t) nn w i = L at *
            clear ok el
            simp (disch := omega) only [nI_lit, nI_add, nI_mul, nI_clamp, vin_nI, nI_leI, nI_ltI, nI_eq, nI_sub, gd_t, gd_p, lt_v, if_true, if_false, if_pos, if_neg, eL_F, eL_Z, eL_leI, eL_ltI, Option.bind_some, h2, m3, e11, p5_edgeAt]
          · intro k hk
            simp only [sI_1, sI_2, sA_1, sA_2, sR_1, sR_2, upd_at, sL_1, sL_2, rL_uL, updL_at, if_neg hk]
            exact h1 k hk
          · rw [el]; simp only [sI_1, sI_2, sA_1, sA_2, sR_1, sR_2, upd_at, sL_1, sL_2, rL_uL, updL_at, if_true]
          · intro k hk
            simp only [sI_1, sI_2, sA_1, sA_2, sR_1, sR_2, upd_at, sL_1, sL_2, rL_uL, updL_at, if_neg hk]
            exact h3 k hk
          · intro k hk
            rw [el]
            simp only [sI_1, sI_2, sA_1, sA_2, sR_1, sR_2, upd_at, sL_1, sL_2, rL_uL, updL_at, if_true, setz]
            by_cases r : k = 52 * (la g t (lastOf g t) nn w i).1 + 13 * g.2 11 (3 * t + i) + (la g t (lastOf g t) nn w i).2.1
            · rw [if_pos r, if_pos r]
            · rw [if_neg r, if_neg r]; exact h5 k hk
        · have el : la g t (lastOf g t) nn w (i + 1) = (lastOf g t, (la g t (lastOf g t) nn w i).2.1, setz (la g t (lastOf g t) nn w i).2.2 (52 * (la g t (lastOf g t) nn w i).1 + 13 * g.2 11 (3 * t + i) + lastOf g t)) := by
            simp only [la, q, if_false]
          refine Or.inr ⟨3 - (i + 1), (nI (lastOf g t), nI (i + 1), sL z2 4 (52 * (la g t (lastOf g t) nn w i).1 + 13 * g.2 11 (3 * t + i) + lastOf g t) (eL 0)), hm1, ?_, i + 1, rfl, hi1, by rw [el], rfl, h1, ?_, ?_, ?_⟩
          · unfold f0_layTargets_L171
            have m3 : t * 3 + i = 3 * t + i := by omega
            generalize la g t (lastOf g t) nn w i = L at *
            clear ok el
            generalize lastOf g t = la9 at *
            simp (disch := omega) only [nI_lit, nI_add, nI_mul, nI_clamp, vin_nI, nI_leI, nI_ltI, nI_eq, nI_sub, gd_t, gd_p, lt_v, if_true, if_false, if_pos, if_neg, eL_F, eL_Z, eL_leI, eL_ltI, Option.bind_some, h2, m3, e11, p5_edgeAt]
          · rw [el]; exact h2
          · intro k hk
            simp only [sI_1, sI_2, sA_1, sA_2, sR_1, sR_2, upd_at, sL_1, sL_2, rL_uL, updL_at, if_neg hk]
            exact h3 k hk
          · intro k hk
            rw [el]
            simp only [sI_1, sI_2, sA_1, sA_2, sR_1, sR_2, upd_at, sL_1, sL_2, rL_uL, updL_at, if_true, setz]
            by_cases r : k = 52 * (la g t (lastOf g t) nn w i).1 + 13 * g.2 11 (3 * t + i) + lastOf g t
            · rw [if_pos r, if_pos r]
            · rw [if_neg r, if_neg r]; exact h5 k hk)
    3 (nI (g.2 8 t), nI 0, o) ⟨0, rfl, Nat.zero_le _, rfl, rfl, fun _ _ => rfl, h0, fun _ _ => rfl, h4⟩
  subst q
  exact ⟨z, e, q1, q2, q3, q4⟩
