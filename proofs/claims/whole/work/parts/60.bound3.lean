def FF (c : Nat) (g : nb) (R : Nat) : Nat := if oo g R ≤ 7 then c * 2359296 else c * 114688
theorem FF_le (c : Nat) (g : nb) (R : Nat) : FF c g R ≤ c * 2359296 := by
  unfold FF
  split
  · exact Nat.le_refl _
  · exact Nat.mul_le_mul_left c (by omega)
theorem st_top {S R N c : Nat} {g : nb} {co w0 d : Nat → Nat} (hg : WR g S R) (hS : S ≤ 3) (hR : R ≤ 10) (hw : ∀ k, w0 k ≤ 1000000000) (hD : DD S N d w0) (hco : ∀ r, r < R → co r < 1000000000 → co r ≤ c) (j : Nat) :
    Ph c (ns g S R (ws false g co w0 R j)) ≤ FF c g R := by
  have pop : ∀ s, s < 3 → 1 ≤ ns g S R (ws false g co w0 R j) s → 1 ≤ qq g R s := by
    intro s hs h
    unfold ns at h
    by_cases q : s < S
    · rw [if_pos q] at h
      obtain ⟨r, hr, h1⟩ := ctr_ex h
      have h1 := of_decide_eq_true h1
      obtain ⟨a1, a2, a3, a4⟩ := hg r hr
      obtain ⟨r', p1, p2, p3⟩ := (into_st hg hS hw hD hco j (g.2 2 r) (g.2 3 r) s (by omega) a2 q h1.2).2.2
      exact ctr_pos p1 (decide_eq_true ⟨p2, p3⟩)
    · rw [if_neg q] at h; omega
  exact Ph_top (R := R) hR (oq_le g R) (fun s _ => by
    unfold ns; split
    · exact nS_le g R _ s
    · exact Nat.zero_le _) (pop 0 (by omega)) (pop 1 (by omega)) (pop 2 (by omega))
theorem st_low {S R N c : Nat} {g : nb} {co w0 d : Nat → Nat} (hg : WR g S R) (hS : S ≤ 3) (hR : R ≤ 10) (hw : ∀ k, w0 k ≤ 1000000000) (hD : DD S N d w0) (hco : ∀ r, r < R → co r < 1000000000 → co r ≤ c) (j fr x s : Nat) (h1 : fr < 13) (h2 : x < 4) (h3 : s < S) (h4 : ws false g co w0 R j (52 * fr + 13 * x + s) < 1000000000) :
    ws false g co w0 R j (52 * fr + 13 * x + s) + 2 * c ≤ FF c g R := Nat.le_trans (st_bound hg hS hw hD hco j fr x s h1 h2 h3 h4) (st_top hg hS hR hw hD hco j)
/-- edges to the other nodes -/
theorem end_bound {S R N c : Nat} {g : nb} {co w0 d : Nat → Nat} (hg : WR g S R) (hS : S ≤ 3) (hR : R ≤ 10) (hw2 : W2 w0) (hD : DD S N d w0) (hco : ∀ r, r < R → co r < 1000000000 → co r ≤ c) :
    ∀ j fr x n, fr < S → x < 4 → S ≤ n → n < 13 → ws false g co w0 R j (52 * fr + 13 * x + n) < 1000000000 → ws false g co w0 R j (52 * fr + 13 * x + n) ≤ (oo g R * d n + nS g R (ws false g co w0 R j) n) * FF c g R := by
  have hw : ∀ k, w0 k ≤ 1000000000 := fun k => hw2.le k
  have cF : c ≤ FF c g R := by
    unfold FF
    split <;> omega
  intro j
  induction j with
  | zero =>
    intro fr x n h1 h2 h3 h3' h4
    have : ws false g co w0 R 0 (52 * fr + 13 * x + n) = w0 (52 * fr + 13 * x + n) := rfl
    rw [this] at h4 ⊢
    rcases hw2 (52 * fr + 13 * x + n) with q | q <;> rw [q] at h4 ⊢
    · exact Nat.zero_le _
    · exact absurd h4 (Nat.lt_irrefl _)
  | succ j ih =>
    intro fr x n h1 h2 h3 h3' h4
    by_cases old : ws false g co w0 R j (52 * fr + 13 * x + n) < 1000000000
    · have u := ih fr x n h1 h2 h3 h3' old
      have dn := ws_dec (mx := false) (g := g) (co := co) (w0 := w0) (R := R) j (52 * fr + 13 * x + n)
      refine Nat.le_trans dn (Nat.le_trans u (Nat.mul_le_mul_right _ (Nat.add_le_add_left (nS_mono (ws_dec j)) _)))
    · obtain ⟨r, to, es, e1, e2, e3, e4, e5, e6, e7⟩ := ws_ex hg hS hw (mx := false) (co := co) (j := j) (k := 52 * fr + 13 * x + n) (by omega)
      obtain ⟨a1, a2, a3, a4⟩ := hg r e1
      have hb : bse g r = 52 * g.2 2 r + 13 * g.2 3 r := rfl
      have f2 : to = n := by omega
      subst f2
      have hcF : co r < 1000000000 := by rw [e6] at h4; exact (bj_fin h4).1
      have hc := hco r e1 hcF
      have e6 : ws false g co w0 R (j + 1) (52 * fr + 13 * x + to) = co r + fj false (ws false g co w0 R j) 0 es := e6
      by_cases q0 : g.2 5 r = 0
      · rw [lw_0 q0] at e4
        have := e4.1
        omega
      · have hnew : nS g R (ws false g co w0 R j) to + 1 ≤ nS g R (ws false g co w0 R (j + 1)) to :=
          nS_new (ws_dec j) e1 q0 (by rw [← e3]; omega) (by rw [← e3]; exact h4)
        have goal : (oo g R * d to + nS g R (ws false g co w0 R j) to + 1) * FF c g R ≤ (oo g R * d to + nS g R (ws false g co w0 R (j + 1)) to) * FF c g R := Nat.mul_le_mul_right _ (by omega)
        rw [Nat.add_mul, Nat.one_mul] at goal
        refine Nat.le_trans ?_ goal
        rw [e6]
        rcases lw_cases q0 with ⟨y, hy⟩ | ⟨y, z, hy⟩
        · have hy4 : y < 4 := lw_lt a4 (by rw [hy]; exact List.mem_cons_self)
          rw [hy] at e4
          match es, e4 with
          | e :: es', e4 =>
          obtain ⟨m, hm, p1, p2, p3⟩ := e4
          subst p3; subst p2; subst p1
          have w1 := e7 _ List.mem_cons_self
          have ef : fj false (ws false g co w0 R j) 0 [52 * g.2 4 r + 13 * y + m] = 0 + ws false g co w0 R j (52 * g.2 4 r + 13 * y + m) := rfl
          rw [ef]
          have u1 := ih (g.2 4 r) y m a3 hy4 h3 hm w1
          omega
        · have hy4 : y < 4 := lw_lt a4 (by rw [hy]; exact List.mem_cons_self)
          have hz4 : z < 4 := lw_lt a4 (by rw [hy]; simp)
          rw [hy] at e4
          match es, e4 with
          | e :: e' :: es', e4 =>
          obtain ⟨m, hm, p1, m2, hm2, p2, p3, p4⟩ := e4
          subst p4; subst p3; subst p2; subst p1
          have w1 := e7 _ List.mem_cons_self
          have w2 := e7 (52 * m + 13 * z + m2) (by simp)
          have ef : fj false (ws false g co w0 R j) 0 [52 * g.2 4 r + 13 * y + m, 52 * m + 13 * z + m2] = 0 + ws false g co w0 R j (52 * g.2 4 r + 13 * y + m) + ws false g co w0 R j (52 * m + 13 * z + m2) := rfl
          rw [ef]
          by_cases hmS : m < S
          · have u1 := st_low hg hS hR hw hD hco j (g.2 4 r) y m (by omega) hy4 hmS w1
            have u2 := ih m z m2 hmS hz4 h3 hm2 w2
            omega
          · have z0 : ws false g co w0 R j (52 * m + 13 * z + m2) = w0 (52 * m + 13 * z + m2) := ws_far hg j _ (by omega)
            rw [z0] at w2 ⊢
            have z1 : w0 (52 * m + 13 * z + m2) = 0 := by
              rcases hw2 (52 * m + 13 * z + m2) with q | q
              · exact q
              · rw [q] at w2; exact absurd w2 (Nat.lt_irrefl _)
            have u1 := ih (g.2 4 r) y m a3 hy4 (by omega) hm w1
            rw [z1]
            rcases (hD m z m2 hm hz4 hm2 w2).2.2 (by omega) with q | q
            · subst q; omega
            · have k1 := nS_le g R (ws false g co w0 R j) m
              have k2 : oo g R * (d m + 1) ≤ oo g R * d m2 := Nat.mul_le_mul_left _ q
              rw [Nat.mul_add, Nat.mul_one] at k2
              have k3 : (oo g R * d m + nS g R (ws false g co w0 R j) m) * FF c g R ≤ (oo g R * d m2 + nS g R (ws false g co w0 R j) m2) * FF c g R := Nat.mul_le_mul_right _ (by omega)
              omega
theorem end_top {c R n : Nat} {g : nb} {d w : Nat → Nat} (hd : d n ≤ 2) (hR : R ≤ 10) : (oo g R * d n + nS g R w n) * FF c g R ≤ c * 49545216 := by
  have h1 := nS_le g R w n
  have h2 : oo g R * d n ≤ oo g R * 2 := Nat.mul_le_mul_left _ hd
  have h3 := oq_le g R
  unfold FF
  by_cases q : oo g R ≤ 7
  · rw [if_pos q]
    have : (oo g R * d n + nS g R w n) * (c * 2359296) ≤ 21 * (c * 2359296) := Nat.mul_le_mul_right _ (by omega)
    omega
  · rw [if_neg q]
    have : (oo g R * d n + nS g R w n) * (c * 114688) ≤ 30 * (c * 114688) := Nat.mul_le_mul_right _ (by omega)
    omega
/-- all edges -/
theorem all_bound {S R N c : Nat} {g : nb} {co w0 d : Nat → Nat} (hg : WR g S R) (hS : S ≤ 3) (hR : R ≤ 10) (hw2 : W2 w0) (hD : DD S N d w0) (hd : ∀ n, d n ≤ 2) (hco : ∀ r, r < R → co r < 1000000000 → co r ≤ c) (j fr x to : Nat) (h1 : fr < 13) (h2 : x < 4) (h3 : to < 13) (h4 : ws false g co w0 R j (52 * fr + 13 * x + to) < 1000000000) :
    (to < S → fr < S ∧ ws false g co w0 R j (52 * fr + 13 * x + to) ≤ c * 2359296) ∧ ws false g co w0 R j (52 * fr + 13 * x + to) ≤ c * 49545216 ∧ (S ≤ fr → S ≤ to ∧ ws false g co w0 R j (52 * fr + 13 * x + to) = 0) := by
  have hw : ∀ k, w0 k ≤ 1000000000 := fun k => hw2.le k
  have far : S ≤ fr → S ≤ to ∧ ws false g co w0 R j (52 * fr + 13 * x + to) = 0 := by
    intro q
    have e := ws_far (mx := false) (co := co) (w0 := w0) hg j (52 * fr + 13 * x + to) (by omega)
    rw [e] at h4 ⊢
    refine ⟨(hD fr x to h1 h2 h3 h4).1, ?_⟩
    rcases hw2 (52 * fr + 13 * x + to) with q | q
    · exact q
    · rw [q] at h4; exact absurd h4 (Nat.lt_irrefl _)
  have low : to < S → fr < S ∧ ws false g co w0 R j (52 * fr + 13 * x + to) ≤ c * 2359296 := by
    intro q
    have u := st_low hg hS hR hw hD hco j fr x to h1 h2 q h4
    have v := FF_le c g R
    exact ⟨(into_st hg hS hw hD hco j fr x to h1 h2 q h4).1, by omega⟩
  refine ⟨low, ?_, far⟩
  by_cases q : to < S
  · exact Nat.le_trans (low q).2 (Nat.mul_le_mul_left c (by decide))
  · by_cases q2 : S ≤ fr
    · rw [(far q2).2]; exact Nat.zero_le _
    · exact Nat.le_trans (end_bound hg hS hR hw2 hD hco j fr x to (by omega) h2 (by omega) h3 h4) (end_top (hd to) hR)
