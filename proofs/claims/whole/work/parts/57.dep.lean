/-! how the targets' edges go on: never to a state, and from the other nodes ever on -/
def dp (g : nb) : Nat → Nat → Nat
  | 0, _ => 2
  | t + 1, n => if n = (tg g t).1 then 0 else if n = (tg g t).1 + 1 then 1 else dp g t n
theorem dp_s (g : nb) (t n : Nat) : dp g (t + 1) n = if n = (tg g t).1 then 0 else if n = (tg g t).1 + 1 then 1 else dp g t n := rfl
theorem dp_le (g : nb) (n : Nat) : ∀ t, dp g t n ≤ 2
  | 0 => Nat.le_refl _
  | t + 1 => by
    have := dp_le g n t
    rw [dp_s]; split
    · omega
    · split <;> omega
def DD (S N : Nat) (d : Nat → Nat) (w : Nat → Nat) : Prop := ∀ fr x to, fr < 13 → x < 4 → to < 13 → w (52 * fr + 13 * x + to) < 1000000000 → S ≤ to ∧ fr < N ∧ (S ≤ fr → to = fr ∨ d fr < d to)
theorem DD_setz {S N : Nat} {d w : Nat → Nat} (h : DD S N d w) {a y b : Nat} (ha : a < 13) (hy : y < 4) (hb : b < 13) (h1 : S ≤ b) (h2 : a < N) (h3 : S ≤ a → b = a ∨ d a < d b) : DD S N d (setz w (52 * a + 13 * y + b)) := by
  intro fr x to q1 q2 q3 q4
  unfold setz at q4
  by_cases e : 52 * fr + 13 * x + to = 52 * a + 13 * y + b
  · have e1 : fr = a := by omega
    have e2 : to = b := by omega
    subst e1; subst e2
    exact ⟨h1, h2, h3⟩
  · rw [if_neg e] at q4
    exact h fr x to q1 q2 q3 q4
theorem DD_an {S N : Nat} {d w : Nat → Nat} (h : DD S N d w) {a b : Nat} (ha : a < 13) (hb : b < 13) (h1 : S ≤ b) (h2 : a < N) (h3 : S ≤ a → b = a ∨ d a < d b) : ∀ x, x ≤ 4 → DD S N d (an w a b x)
  | 0, _ => h
  | x + 1, hx => DD_setz (DD_an h ha hb h1 h2 h3 x (by omega)) ha (by omega) hb h1 h2 h3
theorem DD.mono {S N N' : Nat} {d w : Nat → Nat} (h : DD S N d w) (hN : N ≤ N') : DD S N' d w := fun fr x to q1 q2 q3 q4 =>
  have := h fr x to q1 q2 q3 q4
  ⟨this.1, by omega, this.2.2⟩
theorem la_at {g : nb} {t last nn : Nat} {w : Nat → Nat} : ∀ i, i < g.2 9 t → (la g t last nn w i).1 = (if i = 0 then g.2 8 t else nn + i - 1) ∧ (la g t last nn w i).2.1 = nn + i
  | 0, _ => ⟨rfl, rfl⟩
  | i + 1, hi => by
    obtain ⟨h1, h2⟩ := la_at (g := g) (t := t) (last := last) (nn := nn) (w := w) i (by omega)
    have el : la g t last nn w (i + 1) = ((la g t last nn w i).2.1, (la g t last nn w i).2.1 + 1, setz (la g t last nn w i).2.2 (52 * (la g t last nn w i).1 + 13 * g.2 11 (3 * t + i) + (la g t last nn w i).2.1)) := by
      simp only [la, hi, if_true]
    rw [el, h2, if_neg (by omega)]
    exact ⟨rfl, rfl⟩
theorem tg_D {g : nb} (h : WT g) : ∀ t, t ≤ g.1 7 → DD (g.1 0) (tg g t).1 (dp g t) (tg g t).2 ∧ dp g t (g.1 0) = 2 ∧ dp g t (g.1 0 + 1) = 2
  | 0, _ => by
    have g1 := h.2.1
    refine ⟨DD_an (fun fr x to _ _ _ q => absurd q (by show ¬ 1000000000 < 1000000000; omega)) (by omega) (by omega) (by omega) (by show _ < g.1 0 + 2; omega) (fun _ => Or.inl rfl) 4 (Nat.le_refl _), rfl, rfl⟩
  | t + 1, ht => by
    obtain ⟨ih, ihe, iha⟩ := tg_D h t (by omega)
    obtain ⟨c1, c2, c3, c4⟩ := tg_ok h t (by omega)
    have h' := h
    obtain ⟨g0, g1, g2, g3⟩ := h'
    obtain ⟨b1, b2, b3, b4⟩ := g3 t (by omega)
    have dE : dp g (t + 1) (g.1 0) = 2 := by rw [dp_s, if_neg (by omega), if_neg (by omega)]; exact ihe
    have dA : dp g (t + 1) (g.1 0 + 1) = 2 := by rw [dp_s, if_neg (by omega), if_neg (by omega)]; exact iha
    refine ⟨?_, dE, dA⟩
    -- the old edges, with the new depths
    have old : DD (g.1 0) (tg g t).1 (dp g (t + 1)) (tg g t).2 := by
      intro fr x to q1 q2 q3 q4
      obtain ⟨a1, a2, a3⟩ := ih fr x to q1 q2 q3 q4
      have hto : to < (tg g t).1 := by
        by_cases q : to < (tg g t).1
        · exact q
        · have := c4 fr x to q1 q2 (by omega) q3
          omega
      refine ⟨a1, a2, fun q => ?_⟩
      rw [dp_s, dp_s, if_neg (by omega), if_neg (by omega), if_neg (by omega), if_neg (by omega)]
      exact a3 q
    have hw : DD (g.1 0) (tg g t).1 (dp g (t + 1)) (if g.2 9 t = 0 ∧ g.2 10 t = 1 then an (tg g t).2 (g.2 8 t) (g.1 0 + 1) 4 else (tg g t).2) := by
      split
      · exact DD_an old (by omega) (by omega) (by omega) (by omega) (fun q => absurd q (by omega)) 4 (Nat.le_refl _)
      · exact old
    have hl1 : g.1 0 ≤ lastOf g t := by unfold lastOf; split <;> omega
    have hl2 : lastOf g t < g.1 0 + 2 := by unfold lastOf; split <;> omega
    have dL : dp g (t + 1) (lastOf g t) = 2 := by unfold lastOf; split <;> assumption
    show DD (g.1 0) (la g t (lastOf g t) (tg g t).1 (if g.2 9 t = 0 ∧ g.2 10 t = 1 then an (tg g t).2 (g.2 8 t) (g.1 0 + 1) 4 else (tg g t).2) (g.2 9 t)).2.1 (dp g (t + 1)) (la g t (lastOf g t) (tg g t).1 (if g.2 9 t = 0 ∧ g.2 10 t = 1 then an (tg g t).2 (g.2 8 t) (g.1 0 + 1) 4 else (tg g t).2) (g.2 9 t)).2.2
    generalize (if g.2 9 t = 0 ∧ g.2 10 t = 1 then an (tg g t).2 (g.2 8 t) (g.1 0 + 1) 4 else (tg g t).2) = w at hw ⊢
    have key : ∀ i, i ≤ g.2 9 t → DD (g.1 0) (la g t (lastOf g t) (tg g t).1 w i).2.1 (dp g (t + 1)) (la g t (lastOf g t) (tg g t).1 w i).2.2 := by
      intro i
      induction i with
      | zero => exact fun _ => hw
      | succ i ihi =>
        intro hi
        have D := ihi (by omega)
        have l4 := b4 i (by omega)
        obtain ⟨p1, p2⟩ := la_at (g := g) (t := t) (last := lastOf g t) (nn := (tg g t).1) (w := w) i (by omega)
        have dps : ∀ n, dp g (t + 1) n = if n = (tg g t).1 then 0 else if n = (tg g t).1 + 1 then 1 else dp g t n := fun n => rfl
        have ha : (la g t (lastOf g t) (tg g t).1 w i).1 < (tg g t).1 + i := by rw [p1]; split <;> omega
        have hda : g.1 0 ≤ (la g t (lastOf g t) (tg g t).1 w i).1 → dp g (t + 1) (la g t (lastOf g t) (tg g t).1 w i).1 = i - 1 ∧ 1 ≤ i := by
          intro q
          rw [p1] at q ⊢
          by_cases q0 : i = 0
          · rw [if_pos q0] at q; omega
          · rw [if_neg q0, dps]
            by_cases q1 : i = 1
            · subst q1; rw [if_pos (by omega)]; exact ⟨rfl, by omega⟩
            · rw [if_neg (by omega), if_pos (by omega)]; exact ⟨by omega, by omega⟩
        by_cases q : i + 1 < g.2 9 t
        · have el : la g t (lastOf g t) (tg g t).1 w (i + 1) = ((la g t (lastOf g t) (tg g t).1 w i).2.1, (la g t (lastOf g t) (tg g t).1 w i).2.1 + 1, setz (la g t (lastOf g t) (tg g t).1 w i).2.2 (52 * (la g t (lastOf g t) (tg g t).1 w i).1 + 13 * g.2 11 (3 * t + i) + (la g t (lastOf g t) (tg g t).1 w i).2.1)) := by
            simp only [la, q, if_true]
          rw [el]
          dsimp only
          rw [p2] at D ⊢
          refine DD_setz (D.mono (by omega)) (by omega) l4 (by omega) (by omega) (by omega) (fun q3 => Or.inr ?_)
          obtain ⟨e1, e2⟩ := hda q3
          rw [e1, dps]
          have hi1 : i = 1 := by omega
          subst hi1
          rw [if_neg (by omega), if_pos (by omega)]
          omega
        · have el : la g t (lastOf g t) (tg g t).1 w (i + 1) = (lastOf g t, (la g t (lastOf g t) (tg g t).1 w i).2.1, setz (la g t (lastOf g t) (tg g t).1 w i).2.2 (52 * (la g t (lastOf g t) (tg g t).1 w i).1 + 13 * g.2 11 (3 * t + i) + lastOf g t)) := by
            simp only [la, q, if_false]
          rw [el]
          dsimp only
          rw [p2] at D ⊢
          refine DD_setz D (by omega) l4 (by omega) hl1 (by omega) (fun q3 => Or.inr ?_)
          obtain ⟨e1, e2⟩ := hda q3
          rw [e1, dL]
          omega
    exact key _ (Nat.le_refl _)
