def ws (mx : Bool) (g : nb) (co w0 : Nat → Nat) (R : Nat) : Nat → Nat → Nat
  | 0 => w0
  | k + 1 => rnd mx g co (ws mx g co w0 R k) R
theorem ws_le {mx : Bool} {g : nb} {co w0 : Nat → Nat} {R : Nat} : ∀ (k j : Nat), ws mx g co w0 R k j ≤ w0 j
  | 0, _ => Nat.le_refl _
  | k + 1, j => Nat.le_trans (rnd_le R j) (ws_le k j)
theorem ws_dec {mx : Bool} {g : nb} {co w0 : Nat → Nat} {R : Nat} (k j : Nat) : ws mx g co w0 R (k + 1) j ≤ ws mx g co w0 R k j := rnd_le R j
/-- edges to nodes that there aren't: none -/
def NT (N : Nat) (w : Nat → Nat) : Prop := ∀ fr x to, fr < 13 → x < 4 → N ≤ to → to < 13 → w (52 * fr + 13 * x + to) = 1000000000
theorem rdm_NT {mx : Bool} {N x : Nat} {w rd : Nat → Nat} (hx : x < 4) (hw : NT N w) {to : Nat} (h1 : N ≤ to) (h2 : to < 13) : rdm mx w rd x to = 1000000000 := by
  have := mn_more (g := fun fr => jn mx (rd fr) (w (52 * fr + 13 * x + to))) (n := 0) 13 (fun i _ h4 => by
    rw [hw i x to (by omega) hx h1 h2, jn_b (Nat.le_refl _)]; exact Nat.le_refl _)
  exact this
theorem rdl_NT {mx : Bool} {N : Nat} {w : Nat → Nat} (hw : NT N w) : ∀ (l : List Nat) (rd : Nat → Nat), (∀ x ∈ l, x < 4) → (∀ to, N ≤ to → to < 13 → rd to = 1000000000) → ∀ to, N ≤ to → to < 13 → rdl mx w l rd to = 1000000000
  | [], _, _, h => h
  | x :: l, rd, hl, _ => rdl_NT hw l _ (fun y hy => hl y (List.mem_cons_of_mem _ hy)) (fun _ h1 h2 => rdm_NT (hl x List.mem_cons_self) hw h1 h2)
theorem rdw_NT {mx : Bool} {N : Nat} {w : Nat → Nat} (hw : NT N w) {p wd : Nat} (hp : p < N) (hwd : wd < 21) {to : Nat} (h1 : N ≤ to) (h2 : to < 13) : rdw mx w p wd to = 1000000000 :=
  rdl_NT hw _ _ (fun _ hx => lw_lt hwd hx) (fun to h3 _ => by unfold st0; rw [if_neg (by omega)]) to h1 h2
theorem rnd_NT {mx : Bool} {N S R : Nat} {g : nb} {co wb : Nat → Nat} (hg : WR g S R) (hSN : S ≤ N) (hS : S ≤ 3) (hw : NT N wb) : ∀ r, r ≤ R → NT N (rnd mx g co wb r)
  | 0, _ => hw
  | r + 1, hr => by
    intro fr x to h1 h2 h3 h4
    obtain ⟨g2, g3, g4, g5⟩ := hg r (by omega)
    have ih := rnd_NT (mx := mx) (co := co) hg hSN hS hw r (by omega) fr x to h1 h2 h3 h4
    show dr mx (co r) (rdw mx wb (g.2 4 r) (g.2 5 r)) (bse g r) (rnd mx g co wb r) _ = 1000000000
    unfold dr
    split
    · rename_i q
      unfold bse at q ⊢
      have e : 52 * fr + 13 * x + to - (52 * g.2 2 r + 13 * g.2 3 r) = to := by omega
      rw [ih, e, rdw_NT hw (by omega) g5 h3 h4, jn_b (Nat.le_refl _), Nat.min_self]
    · exact ih
theorem ws_NT {mx : Bool} {N S R : Nat} {g : nb} {co w0 : Nat → Nat} (hg : WR g S R) (hSN : S ≤ N) (hS : S ≤ 3) (hw : NT N w0) : ∀ k, NT N (ws mx g co w0 R k)
  | 0 => hw
  | k + 1 => rnd_NT hg hSN hS (ws_NT hg hSN hS hw k) R (Nat.le_refl _)
theorem rnd_far {mx : Bool} {S R : Nat} {g : nb} {co wb : Nat → Nat} (hg : WR g S R) : ∀ r, r ≤ R → ∀ k, 52 * S ≤ k → rnd mx g co wb r k = wb k
  | 0, _, _, _ => rfl
  | r + 1, hr, k, hk => by
    obtain ⟨g2, g3, -, -⟩ := hg r (by omega)
    show dr mx (co r) _ (bse g r) (rnd mx g co wb r) k = wb k
    unfold dr
    rw [if_neg (by unfold bse; omega)]
    exact rnd_far hg r (by omega) k hk
/-- K rounds change something, the next one doesn't -/
def LAST (mx : Bool) (g : nb) (co w0 : Nat → Nat) (R K : Nat) : Prop := (∀ j, j < K → ∃ k, k < 676 ∧ ws mx g co w0 R (j + 1) k < ws mx g co w0 R j k) ∧ ∀ k, k < 676 → ws mx g co w0 R (K + 1) k = ws mx g co w0 R K k
/-- the class: all rounds -/
theorem p0_rounds (mx : Bool) (N S R K : Nat) (hN : N ≤ 13) (hSN : S ≤ N) (hS : S ≤ 3) (hR : R ≤ 10) (g : nb) (hg : WR g S R) (co w0 : Nat → Nat) (hco : ∀ r, r < R → co r ≤ 1000000000) (hc9 : ∀ r, r < R → co r < 1000000000 → co r ≤ 9) (B : Nat) (hB : ∀ k, OKB mx B (ws mx g co w0 R k)) (hK : LAST mx g co w0 R K) (hK1 : K < 1000) (o t : ob) (h0 : o.1 0 = nI N) (h3 : o.1 3 = nI 0) (h8 : o.1 8 = mxI mx)
    (ht0 : t.1 0 = nI S) (ht1 : t.1 1 = nI R) (ht : ∀ k r, r < R → 2 ≤ k → k ≤ 5 → t.2 k r = nI (g.2 k r)) (h7 : ∀ r, r < R → o.2 7 r = cd (co r)) (hw0 : ∀ k, k < 676 → w0 k ≤ 1000000000) (hNT : NT N w0) (h5 : ∀ k, k < 676 → rL (o.2 5) k = eL (w0 k)) (h4 : ∀ k, k < 676 → rL (o.2 4) k = eL (w0 k)) :
    ∃ z, wh (f0_build_L115 t) (0, o) = some (1, z) ∧ (∀ k, k ≠ 3 → k ≠ 11 → z.2.1 k = o.1 k) ∧ z.2.1 3 = nI K ∧ (∀ k, k ≠ 4 → k ≠ 5 → k ≠ 9 → k ≠ 10 → z.2.2 k = o.2 k) ∧ (∀ k, k < 676 → rL (z.2.2 4) k = eL (ws mx g co w0 R K k)) ∧ ∀ k, k < 676 → rL (z.2.2 5) k = eL (ws mx g co w0 R K k) := by
  obtain ⟨k, z, e, q, q1, q2, q3, q4, q5⟩ := wh_meas (st := f0_build_L115 t) (fun m z => ∃ i, m = K - i ∧ i ≤ K ∧ z.1 = nI i ∧ (∀ k, k ≠ 3 → k ≠ 11 → z.2.1 k = o.1 k) ∧ z.2.1 3 = nI i ∧ (∀ k, k ≠ 4 → k ≠ 5 → k ≠ 9 → k ≠ 10 → z.2.2 k = o.2 k) ∧ (∀ k, k < 676 → rL (z.2.2 4) k = eL (ws mx g co w0 R i k)) ∧ ∀ k, k < 676 → rL (z.2.2 5) k = eL (ws mx g co w0 R i k))
    (fun k z => k = 0 ∧ (∀ k, k ≠ 3 → k ≠ 11 → z.2.1 k = o.1 k) ∧ z.2.1 3 = nI K ∧ (∀ k, k ≠ 4 → k ≠ 5 → k ≠ 9 → k ≠ 10 → z.2.2 k = o.2 k) ∧ (∀ k, k < 676 → rL (z.2.2 4) k = eL (ws mx g co w0 R K k)) ∧ ∀ k, k < 676 → rL (z.2.2 5) k = eL (ws mx g co w0 R K k))
    (by
      rintro m ⟨z1, z2⟩ ⟨i, rfl, hi, rfl, a1, a2, a3, a4, a5⟩
      dsimp only at a1 a2 a3 a4 a5
      obtain ⟨f, o', e, b1, b2, b3, b4, b5⟩ := p0_playRound mx N S R hN hSN hS hR g hg co (ws mx g co w0 R i) hco hc9 B (hB i) z2 t (by rw [a1 0 (by decide) (by decide), h0]) (by rw [a1 8 (by decide) (by decide), h8]) ht1 ht (by rw [a3 7 (by decide) (by decide) (by decide) (by decide)]; exact h7) ⟨a5, fun k hk => Nat.le_trans (ws_le i k) (hw0 k hk), ws_NT hg hSN hS hNT i⟩ a4
      by_cases hb : i = K
      · subst hb
        have hf : f = nI 0 := by
          rcases b4 with h | h
          · exact h
          · obtain ⟨k, hk, hd⟩ := b5.mp h
            have := hK.2 k hk
            have hd : ws mx g co w0 R (i + 1) k < ws mx g co w0 R i k := hd
            omega
        refine Or.inl ⟨0, (nI i, o'), ?_, rfl, fun k k1 k2 => (b1 k k2).trans (a1 k k1 k2), (b1 3 (by decide)).trans a2, fun k k1 k2 k3 k4 => (b2 k k1 k3 k4).trans (a3 k k1 k2 k3 k4), fun k hk => ?_, fun k hk => (congrFun (congrArg rL (b2 5 (by decide) (by decide) (by decide))) k).trans (a5 k hk)⟩
        · unfold f0_build_L115
          clear b5
          simp (disch := omega) only [nI_lit, nI_add, nI_mul, nI_clamp, vin_nI, nI_leI, nI_ltI, nI_eq, nI_sub, gd_t, gd_p, lt_v, if_true, if_false, if_pos, if_neg, Option.bind_some, e, hf]
        · rw [b3 k hk]
          exact congrArg eL (hK.2 k hk)
      · have hf : f = nI 1 := b5.mpr (hK.1 i (by omega))
        have hm1 : K - (i + 1) < K - i := by omega
        have hi1 : i + 1 ≤ K := by omega
        have c0 : cpk 0 0 (nI (S * 4 * 13)) 676 676 = true := by
          rcases (show S = 0 ∨ S = 1 ∨ S = 2 ∨ S = 3 by omega) with h | h | h | h <;> subst h <;> decide
        have e0 : (nI (S * 4 * 13)).toNatClampNeg = S * 4 * 13 := nI_clamp (by omega)
        refine Or.inr ⟨K - (i + 1), (nI (i + 1), sR (sI o' 3 (nI (i + 1))) 5 (uL (va_cpy (rL (o'.2 4)) (rL (o'.2 5)) 0 0 (S * 4 * 13)))), hm1, ?_, i + 1, rfl, hi1, rfl, ?_, ?_, ?_, ?_, ?_⟩
        · have o3 : o'.1 3 = nI i := (b1 3 (by decide)).trans a2
          unfold f0_build_L115
          dsimp only
          rw [if_neg (show ¬ (1000 : Int32) ≤ nI i from nI_ge (a := i) (b := 1000) (by omega) (by decide)), e]
          simp only [Option.bind_some, hf]
          rw [if_neg (by decide)]
          simp only [lt_v, sI_1, sI_2, o3, ht0]
          have m4 : nI S * 4 * 13 = nI (S * 4 * 13) := by rw [show (4 : Int32) = nI 4 from rfl, show (13 : Int32) = nI 13 from rfl, nI_mul, nI_mul]
          rw [m4, c0, e0, nI_1]
          rfl
        · intro k k1 k2
          simp only [sI_1, sI_2, sA_1, sA_2, sR_1, sR_2, upd_at, sL_1, sL_2, rL_uL, updL_at, if_neg k1]
          exact (b1 k k2).trans (a1 k k1 k2)
        · simp only [sI_1, sI_2, sA_1, sA_2, sR_1, sR_2, upd_at, sL_1, sL_2, rL_uL, updL_at, if_true]
        · intro k k1 k2 k3 k4
          simp only [sI_1, sI_2, sA_1, sA_2, sR_1, sR_2, upd_at, sL_1, sL_2, rL_uL, updL_at, if_neg k2]
          exact (b2 k k1 k3 k4).trans (a3 k k1 k2 k3 k4)
        · intro k hk
          simp only [sI_1, sI_2, sA_1, sA_2, sR_1, sR_2, upd_at, sL_1, sL_2, rL_uL, updL_at]
          rw [if_neg (by decide)]
          exact b3 k hk
        · intro k hk
          simp only [sI_1, sI_2, sA_1, sA_2, sR_1, sR_2, upd_at, sL_1, sL_2, rL_uL, updL_at, if_true, va_cpy]
          by_cases q : k < S * 4 * 13
          · rw [if_pos ⟨by omega, by omega⟩, show 0 + (k - 0) = k by omega]
            exact b3 k hk
          · rw [if_neg (by omega), b2 5 (by decide) (by decide) (by decide), a5 k hk]
            exact congrArg eL (rnd_far (mx := mx) (co := co) (wb := ws mx g co w0 R i) hg R (Nat.le_refl _) k (by omega)).symm)
    K (nI 0, o) ⟨0, rfl, Nat.zero_le _, rfl, fun _ _ _ => rfl, h3, fun _ _ _ _ _ => rfl, h4, h5⟩
  subst q
  exact ⟨z, e, q1, q2, q3, q4, q5⟩
/-- the reference: all rules of one round -/
theorem p6_rules (mx : Bool) (b : Nat) (hb : b < 2 ^ 31) (hm : (mx = true) ↔ b = 2) (B S R : Nat) (hS : S ≤ 3) (hR : R ≤ 10) (g : nb) (hg : WR g S R) (wo : Nat) (wI : Int32) (hwo : ∀ r, r < R → (nI r = wI ↔ r = wo)) (co wb : Nat → Nat) (hB : OKB mx B wb) (hwb : ∀ k, k < 676 → wb k ≤ 1000000000) (hco : ∀ r, r < R → (r = wo → co r = 1000000000) ∧ (r ≠ wo → co r = if b = 1 then 1 else g.2 6 r)) (h9 : ∀ r, r < R → g.2 6 r ≤ 9) (o : ob) (h1R : o.1 1 = nI R) (hM : MR o g R) (h14 : ∀ k, k < 676 → o.2 14 k = cd (wb k)) (h13 : ∀ k, k < 676 → o.2 13 k = cd (wb k)) :
    ∃ z, wh (f6_grows_L46 (nI b) wI) (0, 0, o) = some (1, z) ∧ z.2.2.1 = o.1 ∧ (∀ k, k ≠ 13 → k ≠ 18 → k ≠ 19 → z.2.2.2 k = o.2 k) ∧ (∀ k, k < 676 → z.2.2.2 13 k = cd (rnd mx g co wb R k)) ∧ (z.1 = nI 0 ∨ z.1 = nI 1) ∧ (z.1 = nI 1 ↔ ∃ k, k < 676 ∧ rnd mx g co wb R k < wb k) := by
  obtain ⟨k, z, e, q, q1, q2, q3, q4, q5⟩ := wh_meas (st := f6_grows_L46 (nI b) wI) (fun m z => ∃ i, m = 10 - i ∧ i ≤ R ∧ z.2.1 = nI i ∧ z.2.2.1 = o.1 ∧ (∀ k, k ≠ 13 → k ≠ 18 → k ≠ 19 → z.2.2.2 k = o.2 k) ∧ (∀ k, k < 676 → z.2.2.2 13 k = cd (rnd mx g co wb i k)) ∧ (z.1 = nI 0 ∨ z.1 = nI 1) ∧ (z.1 = nI 1 ↔ ∃ k, k < 676 ∧ rnd mx g co wb i k < wb k))
    (fun k z => k = 0 ∧ z.2.2.1 = o.1 ∧ (∀ k, k ≠ 13 → k ≠ 18 → k ≠ 19 → z.2.2.2 k = o.2 k) ∧ (∀ k, k < 676 → z.2.2.2 13 k = cd (rnd mx g co wb R k)) ∧ (z.1 = nI 0 ∨ z.1 = nI 1) ∧ (z.1 = nI 1 ↔ ∃ k, k < 676 ∧ rnd mx g co wb R k < wb k))
    (by
      rintro m ⟨z0, z1, z2⟩ ⟨i, rfl, hi, rfl, a1, a2, a3, a4, a5⟩
      dsimp only at a1 a2 a3 a4 a5
      unfold f6_grows_L46
      dsimp only
      rw [a1, h1R]
      by_cases hbR : i = R
      · subst hbR
        refine Or.inl ⟨0, (z0, nI i, z2), ?_, rfl, a1, a2, a3, a4, a5⟩
        rw [if_pos (nI_le (Nat.le_refl _) (by omega))]
      · have hi1 : i + 1 ≤ R := by omega
        have hm1 : 10 - (i + 1) < 10 - i := by omega
        have hiR : i < R := by omega
        obtain ⟨c1, c2⟩ := hco i hiR
        by_cases hw : i = wo
        · have hcF := c1 hw
          have same : ∀ k, k < 676 → rnd mx g co wb (i + 1) k = rnd mx g co wb i k := by
            intro k hk
            show dr mx (co i) _ _ _ k = _
            unfold dr
            split
            · rw [jn_a (by omega), Nat.min_eq_left (Nat.le_trans (rnd_le i k) (hwb k hk))]
            · rfl
          refine Or.inr ⟨10 - (i + 1), (z0, nI (i + 1), z2), hm1, ?_, i + 1, rfl, hi1, rfl, a1, a2, fun k hk => by rw [a3 k hk, same k hk], a4, ?_⟩
          · rw [if_neg (nI_ge hiR (by omega)), if_pos ((hwo i hiR).mpr hw)]
            simp only [Option.bind_some, lt_v, nI_1]
          · rw [a5]
            constructor
            · rintro ⟨k, hk, hd⟩; exact ⟨k, hk, by rw [same k hk]; exact hd⟩
            · rintro ⟨k, hk, hd⟩; exact ⟨k, hk, by rw [← same k hk]; exact hd⟩
        · have hc := c2 hw
          have hc9 : co i ≤ 9 := by rw [hc]; have := h9 i hiR; split <;> omega
          obtain ⟨f, o', e, d1, d2, d3, d4, d5⟩ := p6_roundBy mx b hb hm B wb (rnd mx g co wb i) hB g S R i (co i) hS hR hiR hg hc9 z2 (by
            intro r hr
            rw [a2 2 (by decide) (by decide) (by decide)]
            exact hM r hr) (by rw [a2 14 (by decide) (by decide) (by decide)]; exact h14) a3 (fun k hk => Nat.le_trans (rnd_le i k) (hwb k hk))
          obtain ⟨z', hz', hz1, hz2⟩ : ∃ z', (if z0 = 0 then (if f = 0 then some (0 : Int32) else some 1) else some 1) = some z' ∧ (z' = nI 0 ∨ z' = nI 1) ∧ (z' = nI 1 ↔ z0 = nI 1 ∨ f = nI 1) := by
            rcases a4 with h | h <;> rcases d4 with h' | h' <;> rw [h, h']
            · exact ⟨nI 0, rfl, Or.inl rfl, by decide⟩
            · exact ⟨nI 1, rfl, Or.inr rfl, by decide⟩
            · exact ⟨nI 1, rfl, Or.inr rfl, by decide⟩
            · exact ⟨nI 1, rfl, Or.inr rfl, by decide⟩
          refine Or.inr ⟨10 - (i + 1), (z', nI (i + 1), o'), hm1, ?_, i + 1, rfl, hi1, rfl, d1.trans a1, fun k k1 k2 k3 => (d2 k k1 k2 k3).trans (a2 k k1 k2 k3), d3, hz1, ?_⟩
          · have m6 : z2.2 2 (7 * i + 6) = nI (g.2 6 i) := by
              rw [a2 2 (by decide) (by decide) (by decide)]; exact (hM i hiR).2.2.2.2.2
            have cst : (if nI b = 1 then some (1 : Int32) else (gd (vin (7 * nI i + 6) 70) <| some (z2.2 2 (7 * nI i + 6).toNatClampNeg))) = some (nI (co i)) := by
              by_cases hb1 : b = 1
              · subst hb1
                rw [if_pos (show nI 1 = (1 : Int32) from rfl), hc, if_pos rfl]; rfl
              · rw [if_neg (show ¬ nI b = (1 : Int32) from fun h => hb1 ((nI_eq hb (by decide)).mp (show nI b = nI 1 from h))), hc, if_neg hb1]
                clear a5 d5 hz2
                simp (disch := omega) only [nI_lit, nI_add, nI_mul, nI_clamp, vin_nI, nI_leI, nI_ltI, nI_eq, nI_sub, gd_t, gd_p, lt_v, if_true, if_false, if_pos, if_neg, m6]
            rw [if_neg (nI_ge hiR (by omega)), if_neg (fun h => hw ((hwo i hiR).mp h)), cst]
            simp only [Option.bind_some, e, hz', lt_v, nI_1]
          · rw [hz2, a5, d5]
            constructor
            · rintro (⟨k, hk, hd⟩ | ⟨k, hk, hd⟩)
              · exact ⟨k, hk, Nat.lt_of_le_of_lt (dr_le k) hd⟩
              · exact ⟨k, hk, Nat.lt_of_lt_of_le hd (rnd_le i k)⟩
            · rintro ⟨k, hk, hd⟩
              by_cases q : rnd mx g co wb i k < wb k
              · exact Or.inl ⟨k, hk, q⟩
              · refine Or.inr ⟨k, hk, ?_⟩
                have := rnd_le (mx := mx) (g := g) (co := co) (wb := wb) i k
                exact Nat.lt_of_lt_of_le hd (by omega))
    10 (nI 0, nI 0, o) ⟨0, rfl, by omega, rfl, rfl, fun _ _ _ _ => rfl, h13, Or.inl rfl, fun h => absurd (show nI 0 = nI 1 from h) (by decide), fun ⟨k, hk, hd⟩ => absurd hd (Nat.lt_irrefl _)⟩
  subst q
  exact ⟨z, e, q1, q2, q3, q4, q5⟩
theorem p6_copy (o : ob) (w : Nat → Nat) (h13 : ∀ k, k < 676 → o.2 13 k = cd (w k)) : ∃ z, wh f6_grows_L13 (0, o) = some (1, z) ∧ z.2.1 = o.1 ∧ (∀ k, k ≠ 14 → z.2.2 k = o.2 k) ∧ ∀ k, k < 676 → z.2.2 14 k = cd (w k) := by
  obtain ⟨k, z, e, q, q1, q2, q3⟩ := wh_meas (st := f6_grows_L13) (fun m z => ∃ i, m = 676 - i ∧ i ≤ 676 ∧ z.1 = nI i ∧ z.2.1 = o.1 ∧ (∀ k, k ≠ 14 → z.2.2 k = o.2 k) ∧ ∀ k, k < i → z.2.2 14 k = cd (w k)) (fun k z => k = 0 ∧ z.2.1 = o.1 ∧ (∀ k, k ≠ 14 → z.2.2 k = o.2 k) ∧ ∀ k, k < 676 → z.2.2 14 k = cd (w k))
    (by
      rintro m ⟨z1, z2⟩ ⟨i, rfl, hi, rfl, h1, h2, h3⟩
      dsimp only at h1 h2 h3
      by_cases hb : i = 676
      · subst hb
        exact Or.inl ⟨0, (nI 676, z2), rfl, rfl, h1, h2, h3⟩
      · have hm1 : 676 - (i + 1) < 676 - i := by omega
        have hi1 : i + 1 ≤ 676 := by omega
        have e13 : z2.2 13 i = cd (w i) := by rw [h2 13 (by decide)]; exact h13 i (by omega)
        refine Or.inr ⟨676 - (i + 1), (nI (i + 1), sA z2 14 i (cd (w i))), hm1, ?_, i + 1, rfl, hi1, rfl, h1, fun k hk => ?_, fun k hk => ?_⟩
        · unfold f6_grows_L13
          simp (disch := omega) only [nI_lit, nI_add, nI_mul, nI_clamp, vin_nI, nI_leI, nI_ltI, nI_eq, nI_sub, gd_t, gd_p, lt_v, if_true, if_false, if_pos, if_neg, Option.bind_some, e13]
        · simp only [sI_1, sI_2, sA_1, sA_2, sR_1, sR_2, upd_at, sL_1, sL_2, rL_uL, updL_at, if_neg hk]
          exact h2 k hk
        · simp only [sI_1, sI_2, sA_1, sA_2, sR_1, sR_2, upd_at, sL_1, sL_2, rL_uL, updL_at, if_true]
          by_cases q : k = i
          · subst q; rw [if_pos rfl]
          · rw [if_neg q]; exact h3 k (by omega))
    676 (nI 0, o) ⟨0, rfl, by omega, rfl, rfl, fun _ _ => rfl, fun _ h => absurd h (by omega)⟩
  subst q
  exact ⟨z, e, q1, q2, q3⟩
/-- the reference: all rounds, where no weight of any round comes near 1000000000 -/
theorem p6_rounds (mx : Bool) (b : Nat) (hb : b < 2 ^ 31) (hm : (mx = true) ↔ b = 2) (B S R K : Nat) (hS : S ≤ 3) (hR : R ≤ 10) (g : nb) (hg : WR g S R) (wo : Nat) (wI : Int32) (hwo : ∀ r, r < R → (nI r = wI ↔ r = wo)) (co w0 : Nat → Nat) (hB : ∀ k, OKB mx B (ws mx g co w0 R k)) (hw0 : ∀ k, k < 676 → w0 k ≤ 1000000000) (hco : ∀ r, r < R → (r = wo → co r = 1000000000) ∧ (r ≠ wo → co r = if b = 1 then 1 else g.2 6 r)) (h9 : ∀ r, r < R → g.2 6 r ≤ 9) (hK : LAST mx g co w0 R K) (hK1 : K < 1000) (o : ob) (h1R : o.1 1 = nI R) (h17 : o.1 17 = nI 0) (hM : MR o g R) (h13 : ∀ k, k < 676 → o.2 13 k = cd (w0 k)) :
    ∃ z, wh (f6_grows_L6 (nI b) wI) (1, o) = some (1, z) ∧ (∀ k, k ≠ 17 → z.2.1 k = o.1 k) ∧ z.2.1 17 = nI K ∧ (∀ k, k ≠ 13 → k ≠ 14 → k ≠ 18 → k ≠ 19 → z.2.2 k = o.2 k) ∧ (∀ k, k < 676 → z.2.2 13 k = cd (ws mx g co w0 R K k)) ∧ ∀ k, k < 676 → z.2.2 14 k = cd (ws mx g co w0 R K k) := by
  have step : ∀ (i : Nat) (z1 : Int32) (z2 : ob), i ≤ K → ¬ z1 = 0 → (∀ k, k ≠ 17 → z2.1 k = o.1 k) → z2.1 17 = nI i → (∀ k, k ≠ 13 → k ≠ 14 → k ≠ 18 → k ≠ 19 → z2.2 k = o.2 k) → (∀ k, k < 676 → z2.2 13 k = cd (ws mx g co w0 R i k)) →
      ∃ z2', f6_grows_L6 (nI b) wI (z1, z2) = some (0, ((if i < K then nI 1 else nI 0), z2')) ∧ (∀ k, k ≠ 17 → z2'.1 k = o.1 k) ∧ z2'.1 17 = nI (if i < K then i + 1 else i) ∧ (∀ k, k ≠ 13 → k ≠ 14 → k ≠ 18 → k ≠ 19 → z2'.2 k = o.2 k) ∧ (∀ k, k < 676 → z2'.2 13 k = cd (ws mx g co w0 R (i + 1) k)) ∧ (∀ k, k < 676 → z2'.2 14 k = cd (ws mx g co w0 R i k)) := by
    intro i z1 z2 hi hz a1 a2 a3 a4
    obtain ⟨y, ey, y1, y2, y3⟩ := p6_copy z2 _ a4
    obtain ⟨u, eu, u1, u2, u3, u4, u5⟩ := p6_rules mx b hb hm B S R hS hR g hg wo wI hwo co (ws mx g co w0 R i) (hB i) (fun k hk => Nat.le_trans (ws_le i k) (hw0 k hk)) hco h9 y.2 (by rw [y1, a1 1 (by decide), h1R]) (by
      intro r hr
      rw [y2 2 (by decide), a3 2 (by decide) (by decide) (by decide) (by decide)]
      exact hM r hr) y3 (by rw [y2 13 (by decide)]; exact a4)
    have hu : u.1 = if i < K then nI 1 else nI 0 := by
      by_cases hlt : i < K
      · rw [if_pos hlt]; exact u5.mpr (hK.1 i hlt)
      · rw [if_neg hlt]
        rcases u4 with h | h
        · exact h
        · obtain ⟨k, hk, hd⟩ := u5.mp h
          have hKi : i = K := by omega
          subst hKi
          have h2 := hK.2 k hk
          have hd : ws mx g co w0 R (i + 1) k < ws mx g co w0 R i k := hd
          omega
    have u17 : u.2.2.1 17 = nI i := by rw [u1, y1]; exact a2
    refine ⟨sI u.2.2 17 (nI (if i < K then i + 1 else i)), ?_, fun k hk => ?_, ?_, fun k k1 k2 k3 k4 => ?_, fun k hk => u3 k hk, fun k hk => (congrFun (u2 14 (by decide) (by decide) (by decide)) k).trans (y3 k hk)⟩
    · unfold f6_grows_L6
      dsimp only
      rw [if_neg hz, ey]
      simp only [Option.bind_some]
      rw [eu]
      simp only [Option.bind_some, hu]
      by_cases hlt : i < K
      · rw [if_pos hlt, if_pos hlt, if_neg (show ¬ nI 1 = (0 : Int32) by decide)]
        simp only [Option.bind_some, lt_v, u17, nI_1]
      · rw [if_neg hlt, if_neg hlt, if_pos (show nI 0 = (0 : Int32) from rfl)]
        simp only [Option.bind_some, lt_v, u17]
        rw [show nI i + 0 = nI i from nI_add i 0]
    · simp only [sI_1, sI_2, sA_1, sA_2, sR_1, sR_2, upd_at, sL_1, sL_2, rL_uL, updL_at, if_neg hk]
      rw [u1, y1]
      exact a1 k hk
    · simp only [sI_1, sI_2, sA_1, sA_2, sR_1, sR_2, upd_at, sL_1, sL_2, rL_uL, updL_at, if_true]
    · simp only [sI_1, sI_2, sA_1, sA_2, sR_1, sR_2, upd_at, sL_1, sL_2, rL_uL, updL_at]
      rw [u2 k k1 k3 k4, y2 k k2]
      exact a3 k k1 k2 k3 k4
  obtain ⟨k, z, e, q, q1, q2, q3, q4, q5⟩ := wh_meas (st := f6_grows_L6 (nI b) wI) (fun m z => (∃ i, m = K + 1 - i ∧ i ≤ K ∧ z.1 = nI 1 ∧ (∀ k, k ≠ 17 → z.2.1 k = o.1 k) ∧ z.2.1 17 = nI i ∧ (∀ k, k ≠ 13 → k ≠ 14 → k ≠ 18 → k ≠ 19 → z.2.2 k = o.2 k) ∧ ∀ k, k < 676 → z.2.2 13 k = cd (ws mx g co w0 R i k)) ∨ (m = 0 ∧ z.1 = nI 0 ∧ (∀ k, k ≠ 17 → z.2.1 k = o.1 k) ∧ z.2.1 17 = nI K ∧ (∀ k, k ≠ 13 → k ≠ 14 → k ≠ 18 → k ≠ 19 → z.2.2 k = o.2 k) ∧ (∀ k, k < 676 → z.2.2 13 k = cd (ws mx g co w0 R K k)) ∧ ∀ k, k < 676 → z.2.2 14 k = cd (ws mx g co w0 R K k)))
    (fun k z => k = 0 ∧ (∀ k, k ≠ 17 → z.2.1 k = o.1 k) ∧ z.2.1 17 = nI K ∧ (∀ k, k ≠ 13 → k ≠ 14 → k ≠ 18 → k ≠ 19 → z.2.2 k = o.2 k) ∧ (∀ k, k < 676 → z.2.2 13 k = cd (ws mx g co w0 R K k)) ∧ ∀ k, k < 676 → z.2.2 14 k = cd (ws mx g co w0 R K k))
    (by
      rintro m ⟨z1, z2⟩ (⟨i, rfl, hi, rfl, a1, a2, a3, a4⟩ | ⟨rfl, rfl, a1, a2, a3, a4, a5⟩)
      · obtain ⟨z', e, b1, b2, b3, b4, b5⟩ := step i (nI 1) z2 hi (by decide) a1 a2 a3 a4
        by_cases hlt : i < K
        · rw [if_pos hlt] at e b2
          exact Or.inr ⟨K + 1 - (i + 1), _, by omega, e, Or.inl ⟨i + 1, rfl, by omega, rfl, b1, b2, b3, b4⟩⟩
        · rw [if_neg hlt] at e b2
          have hKi : i = K := by omega
          subst hKi
          exact Or.inr ⟨0, _, by omega, e, Or.inr ⟨rfl, rfl, b1, b2, b3, fun k hk => by rw [b4 k hk, hK.2 k hk], b5⟩⟩
      · refine Or.inl ⟨0, (nI 0, z2), ?_, rfl, a1, a2, a3, a4, a5⟩
        unfold f6_grows_L6
        rw [if_pos (show nI 0 = (0 : Int32) from rfl)])
    (K + 1) (nI 1, o) (Or.inl ⟨0, rfl, Nat.zero_le _, rfl, fun _ _ => rfl, h17, fun _ _ _ _ _ => rfl, h13⟩)
  subst q
  exact ⟨z, e, q1, q2, q3, q4, q5⟩
