/-! the items: the reference -/
theorem at_6_self {m : ob} {a : Nat} (h : m.1 31 = nI a) : at_6 m a (m.1 32) = m := by
  unfold at_6
  rw [sI_self, ← h, sI_self]
theorem at_6_k (m : ob) (a : Nat) (v : Int32) {k : Nat} (h1 : 31 ≠ k) (h2 : 32 ≠ k) (x : Int32) : sI (at_6 m a v) k x = at_6 (sI m k x) a v := by
  unfold at_6
  rw [sI_co _ h1, sI_co _ h2]
theorem p6_wcode {T : Nat → Nat} {a n x : Nat} {v : Int32} (hn : n ≤ 2) (m : ob) (h33 : m.1 33 = nI n) (h : ∀ j, j < n → m.2 34 j = nI (T (a + j) - 97)) : (if ((at_6 m x v).1 33) = 0 then (some 0) else ((if ((at_6 m x v).1 33) = 1 then (gd (vin 0 6) <| some (1 + ((at_6 m x v).2 34 (0 : Int32).toNatClampNeg))) else (gd (vin 0 6) <| gd (vin 1 6) <| some ((5 + (4 * ((at_6 m x v).2 34 (0 : Int32).toNatClampNeg))) + ((at_6 m x v).2 34 (1 : Int32).toNatClampNeg)))))) = some (nI (wcd T a n)) := by
  have c0 : (0 : Int32).toNatClampNeg = 0 := rfl
  have c1 : (1 : Int32).toNatClampNeg = 1 := rfl
  have v0 : vin 0 6 = true := by decide
  have v1 : vin 1 6 = true := by decide
  rw [at_6i m x v (by decide) (by decide), h33, at_6r, c0, c1, v0, v1, gd_t, gd_t, gd_t]
  unfold wcd
  by_cases q0 : n = 0
  · rw [if_pos (show nI n = 0 by rw [q0]; rfl), if_pos q0]; rfl
  · have h0 := h 0 (by omega)
    rw [Nat.add_zero] at h0
    by_cases q1 : n = 1
    · rw [if_neg (nIz (by omega) q0), if_pos (show nI n = 1 by rw [q1]; rfl), if_neg q0, if_pos q1, h0, show (1 : Int32) = nI 1 from rfl, nI_add]
    · have h1 := h 1 (by omega)
      rw [if_neg (nIz (by omega) q0), if_neg (show ¬ nI n = 1 by rw [show n = 2 by omega]; decide), if_neg q0, if_neg q1, h0, h1, show (5 : Int32) = nI 5 from rfl, show (4 : Int32) = nI 4 from rfl, nI_mul, nI_add, nI_add]
theorem p6_rule {T : Nat → Nat} {L b n : Nat} {v : Int32} {g : nb} (hT : txt T L) {m : ob} (h : tx_6 m T L) (hb : b ≤ L) (hW : WF g) (h35 : m.1 35 = nI (g.1 0)) (h36 : m.1 36 = nI (g.1 1)) (hw : wat T L (b + 6) n) (x0 : Int32) :
    (rcf T L b g n ∧ ∃ m', sf_6 m m' ∧ f6_readsRule x0 (at_6 m b v) = (if x0 = 0 then (some (1, at_6 (sI m' 36 (nI (g.1 1 + 1))) (b + 8 + n) (nI (T (b + 7 + n) - 48)))) else ((f6_enters (nI (T b - 48)) (nI (T (b + 2) - 97)) (nI (T (b + 4) - 48)) (nI (wcd T (b + 6) n)) (nI (T (b + 7 + n) - 48)) (at_6 (sI m' 36 (nI (g.1 1 + 1))) (b + 8 + n) (nI (T (b + 7 + n) - 48)))).bind fun q28 => some (1, q28)))) ∨ (¬ rcf T L b g n ∧ ∃ m' a' v', f6_readsRule x0 (at_6 m b v) = some (0, at_6 m' a' v') ∧ sf_6 m m') := by
  have hl := hT.1
  have h3 := hW.1.2.1
  have h1 := hW.1.1
  have h10 := hW.2.1.2.1
  generalize hF : f6_readsRule x0 (at_6 m b v) = F
  unfold f6_readsRule at hF
  rw [at_6i m b v (show 36 ≠ 31 by decide) (by decide), h36, at_6i m b v (show 35 ≠ 31 by decide) (by decide), h35] at hF
  have rej : ∀ m' a' v', F = some (0, at_6 m' a' v') → sf_6 m m' → ¬ rcf T L b g n → (rcf T L b g n ∧ ∃ m', sf_6 m m' ∧ F = (if x0 = 0 then (some (1, at_6 (sI m' 36 (nI (g.1 1 + 1))) (b + 8 + n) (nI (T (b + 7 + n) - 48)))) else ((f6_enters (nI (T b - 48)) (nI (T (b + 2) - 97)) (nI (T (b + 4) - 48)) (nI (wcd T (b + 6) n)) (nI (T (b + 7 + n) - 48)) (at_6 (sI m' 36 (nI (g.1 1 + 1))) (b + 8 + n) (nI (T (b + 7 + n) - 48)))).bind fun q28 => some (1, q28)))) ∨ (¬ rcf T L b g n ∧ ∃ m' a' v', F = some (0, at_6 m' a' v') ∧ sf_6 m m') := fun m' a' v' e s q => Or.inr ⟨q, m', a', v', e, s⟩
  by_cases c0 : g.1 1 < 10
  case neg =>
    rw [if_pos (show nI (g.1 1) = 10 by rw [show g.1 1 = 10 by omega]; rfl)] at hF
    exact rej m b v hF.symm (sf_6.rf m) (fun H => c0 H.1)
  rw [if_neg (show ¬ nI (g.1 1) = 10 from fun e => by have := (nI_eq (a := g.1 1) (b := 10) (by omega) (by decide)).mp e; omega)] at hF
  by_cases c1 : tD T L b 0 (g.1 0)
  case neg =>
    rw [show (0 : Int32) = nI 0 from rfl, p6_fig_n hT h hb (by omega) (by omega) (by omega) c1] at hF
    simp only [Option.bind_some] at hF
    rw [if_pos (show (0 : Int32) = nI 0 from rfl)] at hF
    exact rej m b v hF.symm (sf_6.rf m) (fun H => c1 H.2.1)
  rw [show f6_figure 0 (nI (g.1 0)) (at_6 m b v) = _ from p6_fig_y (lo := 0) hT h (by omega) (by omega) (by omega) c1] at hF
  simp only [Option.bind_some] at hF
  (first | rw [if_neg (by decide)] at hF | rw [if_neg not_false] at hF)
  by_cases c2 : tS T L (b + 1) 44
  case neg =>
    rw [show f6_sign 44 (at_6 m (b + 1) (nI (T b - 48))) = _ from p6_sign_n (c := 44) hT h (by omega) (by omega) c2] at hF
    simp only [Option.bind_some] at hF
    (first | rw [if_pos (by decide)] at hF | rw [if_pos trivial] at hF)
    exact rej m _ _ hF.symm (sf_6.rf m) (fun H => c2 H.2.2.1)
  rw [show f6_sign 44 (at_6 m (b + 1) (nI (T b - 48))) = _ from p6_sign_y (c := 44) hT h c2] at hF
  simp only [Option.bind_some] at hF
  (first | rw [if_neg (by decide)] at hF | rw [if_neg not_false] at hF)
  simp only [lt_v, at_62] at hF
  have w1 := run_ok T L (b + 2)
  generalize hn1 : run_ T L (b + 2) = n1 at w1
  obtain ⟨m1, s1, s33, s34, s5⟩ := p6_word (most := 1) (v := nI (T b - 48)) hT h (show b + 2 ≤ L by omega) w1 (by omega)
  have hn1 := wat_le w1 (show b + 2 ≤ L by omega)
  rw [show b + 1 + 1 = b + 2 by omega, show f6_word 1 (at_6 m (b + 2) (nI (T b - 48))) = _ from s5] at hF
  simp only [Option.bind_some] at hF
  by_cases c3a : n1 ≤ 1
  case neg =>
    rw [if_neg c3a] at hF
    rw [if_pos z0] at hF
    exact rej m1 _ _ hF.symm s1 (fun H => by
      have e1 := w1.1 1 (by omega)
      have e2 := H.2.2.2.2.1
      rw [show b + 2 + 1 = b + 3 by omega] at e1
      have := e1.2; have := e2.2; omega)
  rw [if_pos c3a] at hF
  rw [if_neg z1, at_6i m1 _ _ (show 33 ≠ 31 by decide) (by decide), s33] at hF
  by_cases c3b : n1 = 0
  case pos =>
    rw [if_pos (show nI n1 = 0 by rw [c3b]; rfl)] at hF
    exact rej m1 _ _ hF.symm s1 (fun H => by
      have := w1.2
      rw [c3b] at this
      exact this H.2.2.2.1)
  obtain rfl : n1 = 1 := by omega
  have c3 : tL T L (b + 2) := w1.1 0 (by omega)
  rw [if_neg (show ¬ nI 1 = 0 by decide)] at hF
  by_cases c4 : tS T L (b + 3) 44
  case neg =>
    rw [show b + 2 + 1 = b + 3 by omega, show f6_sign 44 (at_6 m1 (b + 3) (nI (T b - 48))) = _ from p6_sign_n (c := 44) hT (s1.tx h) (by omega) (by omega) c4] at hF
    simp only [Option.bind_some] at hF
    (first | rw [if_pos (by decide)] at hF | rw [if_pos trivial] at hF)
    exact rej m1 _ _ hF.symm s1 (fun H => c4 H.2.2.2.2.1)
  rw [show b + 2 + 1 = b + 3 by omega, show f6_sign 44 (at_6 m1 (b + 3) (nI (T b - 48))) = _ from p6_sign_y (c := 44) hT (s1.tx h) c4] at hF
  simp only [Option.bind_some] at hF
  (first | rw [if_neg (by decide)] at hF | rw [if_neg not_false] at hF)
  have c0' : (0 : Int32).toNatClampNeg = 0 := rfl
  have s340 := s34 0 (by omega) (by omega)
  rw [Nat.add_zero] at s340
  rw [show vin 0 6 = true from by decide, gd_t, at_6r, c0', s340, at_6i m1 _ _ (show 35 ≠ 31 by decide) (by decide), s1.1 35 (by decide), h35] at hF
  by_cases c5 : tD T L (b + 4) 0 (g.1 0)
  case neg =>
    rw [show b + 3 + 1 = b + 4 by omega, show f6_figure 0 (nI (g.1 0)) (at_6 m1 (b + 4) (nI (T b - 48))) = _ from p6_fig_n (lo := 0) hT (s1.tx h) (by omega) (by omega) (by omega) (by omega) c5] at hF
    simp only [Option.bind_some] at hF
    (first | rw [if_pos (by decide)] at hF | rw [if_pos trivial] at hF)
    exact rej m1 _ _ hF.symm s1 (fun H => c5 H.2.2.2.2.2.1)
  rw [show b + 3 + 1 = b + 4 by omega, show f6_figure 0 (nI (g.1 0)) (at_6 m1 (b + 4) (nI (T b - 48))) = _ from p6_fig_y (lo := 0) hT (s1.tx h) (by omega) (by omega) (by omega) c5] at hF
  simp only [Option.bind_some] at hF
  (first | rw [if_neg (by decide)] at hF | rw [if_neg not_false] at hF)
  by_cases c6 : tS T L (b + 5) 44
  case neg =>
    rw [show b + 4 + 1 = b + 5 by omega, show f6_sign 44 (at_6 m1 (b + 5) (nI (T (b + 4) - 48))) = _ from p6_sign_n (c := 44) hT (s1.tx h) (by omega) (by omega) c6] at hF
    simp only [Option.bind_some] at hF
    (first | rw [if_pos (by decide)] at hF | rw [if_pos trivial] at hF)
    exact rej m1 _ _ hF.symm s1 (fun H => c6 H.2.2.2.2.2.2.1)
  rw [show b + 4 + 1 = b + 5 by omega, show f6_sign 44 (at_6 m1 (b + 5) (nI (T (b + 4) - 48))) = _ from p6_sign_y (c := 44) hT (s1.tx h) c6] at hF
  simp only [Option.bind_some] at hF
  (first | rw [if_neg (by decide)] at hF | rw [if_neg not_false] at hF)
  obtain ⟨m2, u1, u33, u34, u5⟩ := p6_word (most := 2) (v := nI (T (b + 4) - 48)) hT (s1.tx h) (show b + 6 ≤ L by omega) hw (by omega)
  have hn := wat_le hw (show b + 6 ≤ L by omega)
  have s2 := s1.tr u1
  simp only [at_62] at hF
  rw [show b + 5 + 1 = b + 6 by omega, show f6_word 2 (at_6 m1 (b + 6) (nI (T (b + 4) - 48))) = _ from u5] at hF
  simp only [Option.bind_some] at hF
  by_cases c7 : n ≤ 2
  case neg =>
    rw [if_neg c7] at hF
    rw [if_pos z0] at hF
    exact rej m2 _ _ hF.symm s2 (fun H => c7 H.2.2.2.2.2.2.2.1)
  rw [if_pos c7] at hF
  rw [if_neg z1] at hF
  by_cases c8 : tS T L (b + 6 + n) 44
  case neg =>
    rw [show f6_sign 44 (at_6 m2 (b + 6 + n) (nI (T (b + 4) - 48))) = _ from p6_sign_n (c := 44) hT (s2.tx h) (by omega) (by omega) c8] at hF
    simp only [Option.bind_some] at hF
    (first | rw [if_pos (by decide)] at hF | rw [if_pos trivial] at hF)
    exact rej m2 _ _ hF.symm s2 (fun H => c8 H.2.2.2.2.2.2.2.2.1)
  rw [show f6_sign 44 (at_6 m2 (b + 6 + n) (nI (T (b + 4) - 48))) = _ from p6_sign_y (c := 44) hT (s2.tx h) c8] at hF
  simp only [Option.bind_some] at hF
  (first | rw [if_neg (by decide)] at hF | rw [if_neg not_false] at hF)
  have wc := p6_wcode (T := T) (a := b + 6) (x := b + 6 + n + 1) (v := nI (T (b + 4) - 48)) c7 m2 u33 (fun j hj => u34 j hj (by omega))
  rw [show vin 0 6 = true from by decide, c0'] at wc
  rw [wc] at hF
  simp only [Option.bind_some] at hF
  by_cases c9 : tD T L (b + 7 + n) 0 10
  case neg =>
    rw [show b + 6 + n + 1 = b + 7 + n by omega, show f6_figure 0 10 (at_6 m2 (b + 7 + n) (nI (T (b + 4) - 48))) = _ from p6_fig_n (lo := 0) (hi := 10) hT (s2.tx h) (by omega) (by omega) (by omega) (by omega) c9] at hF
    simp only [Option.bind_some] at hF
    (first | rw [if_pos (by decide)] at hF | rw [if_pos trivial] at hF)
    exact rej m2 _ _ hF.symm s2 (fun H => c9 H.2.2.2.2.2.2.2.2.2)
  rw [show b + 6 + n + 1 = b + 7 + n by omega, show f6_figure 0 10 (at_6 m2 (b + 7 + n) (nI (T (b + 4) - 48))) = _ from p6_fig_y (lo := 0) (hi := 10) hT (s2.tx h) (by omega) (by omega) (by omega) c9] at hF
  simp only [Option.bind_some] at hF
  (first | rw [if_neg (by decide)] at hF | rw [if_neg not_false] at hF)
  rw [at_6i m2 _ _ (show 36 ≠ 31 by decide) (by decide), s2.1 36 (by decide), h36, nI_1, at_6_k _ _ _ (show 31 ≠ 36 by decide) (by decide), at_62, show b + 7 + n + 1 = b + 8 + n by omega] at hF
  exact Or.inl ⟨⟨c0, c1, c2, c3, c4, c5, c6, c7, c8, c9⟩, m2, s2, hF.symm⟩
