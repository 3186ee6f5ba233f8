theorem Ch_last : ∀ {l : List Nat} {x a b : Nat} {es : List Nat}, (∀ y, y ∈ x :: l → y < 4) → a < 13 → Ch (x :: l) a b es → ∃ fr y, fr < 13 ∧ y < 4 ∧ 52 * fr + 13 * y + b ∈ es
  | _, _, _, _, [], _, _, h => h.elim
  | [], x, a, b, e :: es, hl, ha, h => by
    obtain ⟨m, hm, h1, h2, h3⟩ := h
    subst h2
    exact ⟨a, x, ha, hl x List.mem_cons_self, by rw [h1]; exact List.mem_cons_self⟩
  | z :: l, x, a, b, e :: es, hl, ha, h => by
    obtain ⟨m, hm, h1, h2⟩ := h
    obtain ⟨fr, y, q1, q2, q3⟩ := Ch_last (fun y hy => hl y (List.mem_cons_of_mem _ hy)) hm h2
    exact ⟨fr, y, q1, q2, List.mem_cons_of_mem _ q3⟩
theorem lw_0 {w : Nat} (h : w = 0) : lw w = [] := by unfold lw; rw [if_pos h]
theorem lw_cases {w : Nat} (h : w ≠ 0) : (∃ y, lw w = [y]) ∨ ∃ y z, lw w = [y, z] := by
  unfold lw
  rw [if_neg h]
  split
  · exact Or.inl ⟨_, rfl⟩
  · exact Or.inr ⟨_, _, rfl⟩
theorem ws_far {mx : Bool} {S R : Nat} {g : nb} {co w0 : Nat → Nat} (hg : WR g S R) : ∀ j k, 52 * S ≤ k → ws mx g co w0 R j k = w0 k
  | 0, _, _ => rfl
  | j + 1, k, hk => by
    show rnd mx g co (ws mx g co w0 R j) R k = w0 k
    rw [rnd_far hg R (Nat.le_refl _) k hk]
    exact ws_far hg j k hk
/-- edges into a state -/
theorem into_st {mx : Bool} {S R N c : Nat} {g : nb} {co w0 d : Nat → Nat} (hg : WR g S R) (hS : S ≤ 3) (hw : ∀ k, w0 k ≤ 1000000000) (hD : DD S N d w0) (hco : ∀ r, r < R → co r < 1000000000 → co r ≤ c) :
    ∀ j fr x s, fr < 13 → x < 4 → s < S → ws mx g co w0 R j (52 * fr + 13 * x + s) < 1000000000 → fr < S ∧ (ws mx g co w0 R j (52 * fr + 13 * x + s) ≤ c ∨ ∃ r, r < R ∧ g.2 5 r ≠ 0 ∧ bse g r + s = 52 * fr + 13 * x + s) ∧ ∃ r, r < R ∧ g.2 5 r = 0 ∧ g.2 4 r = s := by
  intro j
  induction j with
  | zero =>
    intro fr x s h1 h2 h3 h4
    have := (hD fr x s h1 h2 (by omega) h4).1
    omega
  | succ j ih =>
    intro fr x s h1 h2 h3 h4
    by_cases q : ws mx g co w0 R (j + 1) (52 * fr + 13 * x + s) < ws mx g co w0 R j (52 * fr + 13 * x + s)
    · obtain ⟨r, to, es, e1, e2, e3, e4, e5, e6, e7⟩ := ws_ex hg hS hw q
      obtain ⟨a1, a2, a3, a4⟩ := hg r e1
      have hb : bse g r = 52 * g.2 2 r + 13 * g.2 3 r := rfl
      have f1 : fr = g.2 2 r := by omega
      have f2 : to = s := by omega
      subst f2
      refine ⟨by omega, ?_⟩
      by_cases q0 : g.2 5 r = 0
      · rw [lw_0 q0] at e4
        obtain ⟨c1, c2⟩ := e4
        subst c2
        rw [e6] at h4 ⊢
        have hc : co r < 1000000000 := (bj_fin h4).1
        have hc2 := hco r e1 hc
        refine ⟨Or.inl ?_, r, e1, q0, c1⟩
        have : fj mx (ws mx g co w0 R j) 0 [] = 0 := rfl
        rw [this]
        unfold bj
        split <;> omega
      · refine ⟨Or.inr ⟨r, e1, q0, e3.symm⟩, ?_⟩
        have hl : ∀ y, y ∈ lw (g.2 5 r) → y < 4 := fun y hy => lw_lt a4 hy
        have : ∃ fr y, fr < 13 ∧ y < 4 ∧ 52 * fr + 13 * y + to ∈ es := by
          rcases lw_cases q0 with ⟨y, hy⟩ | ⟨y, z, hy⟩
          · rw [hy] at e4 hl; exact Ch_last hl (by omega) e4
          · rw [hy] at e4 hl; exact Ch_last hl (by omega) e4
        obtain ⟨f', y', b1, b2, b3⟩ := this
        exact (ih f' y' to b1 b2 h3 (e7 _ b3)).2.2
    · have e : ws mx g co w0 R (j + 1) (52 * fr + 13 * x + s) = ws mx g co w0 R j (52 * fr + 13 * x + s) := Nat.le_antisymm (ws_dec j _) (by omega)
      rw [e] at h4 ⊢
      exact ih fr x s h1 h2 h3 h4
/-- how many rules draw an edge to a state -/
def ns (g : nb) (S R : Nat) (w : Nat → Nat) (s : Nat) : Nat := if s < S then nS g R w s else 0
theorem ns_mono {g : nb} {S R : Nat} {w w' : Nat → Nat} (h : ∀ k, w' k ≤ w k) (s : Nat) : ns g S R w s ≤ ns g S R w' s := by
  unfold ns; split
  · exact nS_mono h
  · exact Nat.le_refl _
theorem st_bound {S R N c : Nat} {g : nb} {co w0 d : Nat → Nat} (hg : WR g S R) (hS : S ≤ 3) (hw : ∀ k, w0 k ≤ 1000000000) (hD : DD S N d w0) (hco : ∀ r, r < R → co r < 1000000000 → co r ≤ c) :
    ∀ j fr x s, fr < 13 → x < 4 → s < S → ws false g co w0 R j (52 * fr + 13 * x + s) < 1000000000 → ws false g co w0 R j (52 * fr + 13 * x + s) + 2 * c ≤ Ph c (ns g S R (ws false g co w0 R j)) := by
  intro j
  induction j with
  | zero =>
    intro fr x s h1 h2 h3 h4
    have := (hD fr x s h1 h2 (by omega) h4).1
    omega
  | succ j ih =>
    intro fr x s h1 h2 h3 h4
    have mono : Ph c (ns g S R (ws false g co w0 R j)) ≤ Ph c (ns g S R (ws false g co w0 R (j + 1))) := Ph_mono (fun s _ => ns_mono (ws_dec j) s)
    by_cases old : ws false g co w0 R j (52 * fr + 13 * x + s) < 1000000000
    · have := ih fr x s h1 h2 h3 old
      have := ws_dec (mx := false) (g := g) (co := co) (w0 := w0) (R := R) j (52 * fr + 13 * x + s)
      omega
    · obtain ⟨r, to, es, e1, e2, e3, e4, e5, e6, e7⟩ := ws_ex hg hS hw (mx := false) (co := co) (j := j) (k := 52 * fr + 13 * x + s) (by omega)
      obtain ⟨a1, a2, a3, a4⟩ := hg r e1
      have hb : bse g r = 52 * g.2 2 r + 13 * g.2 3 r := rfl
      have f2 : to = s := by omega
      subst f2
      have hcF : co r < 1000000000 := by rw [e6] at h4; exact (bj_fin h4).1
      have hc := hco r e1 hcF
      have e6 : ws false g co w0 R (j + 1) (52 * fr + 13 * x + to) = co r + fj false (ws false g co w0 R j) 0 es := e6
      have g3 := Ph_ge c (ns g S R (ws false g co w0 R (j + 1)))
      have g3' := Ph_ge c (ns g S R (ws false g co w0 R j))
      by_cases q0 : g.2 5 r = 0
      · rw [lw_0 q0] at e4
        obtain ⟨c1, c2⟩ := e4
        subst c2
        rw [e6, show fj false (ws false g co w0 R j) 0 [] = 0 from rfl]
        omega
      · have hnew : ns g S R (ws false g co w0 R j) to + 1 ≤ ns g S R (ws false g co w0 R (j + 1)) to := by
          unfold ns
          rw [if_pos h3, if_pos h3]
          exact nS_new (ws_dec j) e1 q0 (by rw [← e3]; omega) (by rw [← e3]; exact h4)
        have hsm : ∀ fr' y', fr' < 13 → y' < 4 → ws false g co w0 R j (52 * fr' + 13 * y' + to) < 1000000000 → ns g S R (ws false g co w0 R j) to = 0 → ws false g co w0 R j (52 * fr' + 13 * y' + to) ≤ c := by
          intro fr' y' b1 b2 b3 b4
          rcases (into_st hg hS hw hD hco j fr' y' to b1 b2 h3 b3).2.1 with q | ⟨r', p1, p2, p3⟩
          · exact q
          · have : 1 ≤ ns g S R (ws false g co w0 R j) to := by
              unfold ns
              rw [if_pos h3]
              exact ctr_pos p1 (decide_eq_true ⟨p2, by rw [p3]; exact b3⟩)
            omega
        have two : 1 ≤ ns g S R (ws false g co w0 R j) to → 2 * Ph c (ns g S R (ws false g co w0 R j)) ≤ Ph c (ns g S R (ws false g co w0 R (j + 1))) := fun q => Ph_dbl (by omega) (fun s _ => ns_mono (ws_dec j) s) hnew q
        have add : ns g S R (ws false g co w0 R j) to = 0 → Ph c (ns g S R (ws false g co w0 R j)) + 2 * c ≤ Ph c (ns g S R (ws false g co w0 R (j + 1))) := fun q => Ph_add (by omega) (fun s _ => ns_mono (ws_dec j) s) hnew q
        rcases lw_cases q0 with ⟨y, hy⟩ | ⟨y, z, hy⟩
        · have hy4 : y < 4 := lw_lt a4 (by rw [hy]; exact List.mem_cons_self)
          rw [hy] at e4
          match es, e4 with
          | e :: es', e4 =>
          obtain ⟨m, hm, p1, p2, p3⟩ := e4
          subst p3; subst p2; subst p1
          have w1 := e7 _ List.mem_cons_self
          have ef : fj false (ws false g co w0 R j) 0 [52 * g.2 4 r + 13 * y + m] = 0 + ws false g co w0 R j (52 * g.2 4 r + 13 * y + m) := rfl
          rw [e6, ef]
          have u1 := ih (g.2 4 r) y m (by omega) hy4 h3 w1
          by_cases qn : ns g S R (ws false g co w0 R j) m = 0
          · have := hsm (g.2 4 r) y (by omega) hy4 w1 qn
            have := add qn
            omega
          · have := two (by omega)
            omega
        · have hy4 : y < 4 := lw_lt a4 (by rw [hy]; exact List.mem_cons_self)
          have hz4 : z < 4 := lw_lt a4 (by rw [hy]; simp)
          rw [hy] at e4
          match es, e4 with
          | e :: e' :: es', e4 =>
          obtain ⟨m, hm, p1, m2, hm2, p2, p3, p4⟩ := e4
          subst p4; subst p3; subst p2; subst p1
          have w1 := e7 _ List.mem_cons_self
          have w2 := e7 (52 * m + 13 * z + m2) (by simp)
          have hmS := (into_st hg hS hw hD hco j m z m2 hm hz4 h3 w2).1
          have ef : fj false (ws false g co w0 R j) 0 [52 * g.2 4 r + 13 * y + m, 52 * m + 13 * z + m2] = 0 + ws false g co w0 R j (52 * g.2 4 r + 13 * y + m) + ws false g co w0 R j (52 * m + 13 * z + m2) := rfl
          rw [e6, ef]
          have u1 := ih (g.2 4 r) y m (by omega) hy4 hmS w1
          have u2 := ih m z m2 hm hz4 h3 w2
          by_cases qn : ns g S R (ws false g co w0 R j) m2 = 0
          · have := hsm m z hm hz4 w2 qn
            have := add qn
            omega
          · have := two (by omega)
            omega
