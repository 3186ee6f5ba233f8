/-- the reference's rules -/
def MR (m : ob) (g : nb) (R : Nat) : Prop := ∀ r, r < R → m.2 2 (7 * r) = nI (g.2 2 r) ∧ m.2 2 (7 * r + 1) = nI (g.2 3 r) ∧ m.2 2 (7 * r + 2) = nI (g.2 4 r) ∧ m.2 2 (7 * r + 3) = nI (lw (g.2 5 r)).length ∧ (∀ j x, (lw (g.2 5 r))[j]? = some x → m.2 2 (7 * r + 4 + j) = nI x) ∧ m.2 2 (7 * r + 6) = nI (g.2 6 r)
theorem p6_stands (p : Nat) (hp : p < 13) (o : ob) : ∃ o', f6_standsAt (nI p) o = some o' ∧ o'.1 = o.1 ∧ (∀ k, k ≠ 18 → o'.2 k = o.2 k) ∧ ∀ k, k < 13 → o'.2 18 k = cd (st0 p k) := by
  obtain ⟨o', e, h1, h2, h3⟩ := p6_standsAt p hp o
  refine ⟨o', e, h1, h2, fun k hk => ?_⟩
  rw [h3 k hk]
  unfold st0
  by_cases q : k = p
  · rw [if_pos q, if_pos q]; rfl
  · rw [if_neg q, if_neg q]; rfl
theorem p6_round_w (mx : Bool) (b : Nat) (hb : b < 2 ^ 31) (hm : (mx = true) ↔ b = 2) (B : Nat) (wb : Nat → Nat) (hB : OKB mx B wb) (g : nb) (R r : Nat) (hR : R ≤ 10) (hr : r < R) (hg5 : g.2 5 r < 21) (hp : g.2 4 r < 13) (o : ob) (hM : MR o g R) (h14 : ∀ k, k < 676 → o.2 14 k = cd (wb k)) (h18 : ∀ k, k < 13 → o.2 18 k = cd (st0 (g.2 4 r) k)) :
    ∃ t, wh (f6_roundBy_L22 (nI b) (nI (7 * r))) (0, o) = some (1, t) ∧ t.2.1 = o.1 ∧ (∀ k, k ≠ 18 → k ≠ 19 → t.2.2 k = o.2 k) ∧ (∀ k, k < 13 → t.2.2 18 k = cd (rdw mx wb (g.2 4 r) (g.2 5 r) k)) ∧ ∀ k, k < 13 → rdw mx wb (g.2 4 r) (g.2 5 r) k < 1000000000 → mx = false → rdw mx wb (g.2 4 r) (g.2 5 r) k ≤ 2 * B := by
  obtain ⟨-, -, -, m3, m4, -⟩ := hM r hr
  have st_b : ∀ k, k < 13 → st0 (g.2 4 r) k < 1000000000 → mx = false → st0 (g.2 4 r) k ≤ 0 := by
    intro k _ h _
    unfold st0 at h ⊢
    by_cases q : k = g.2 4 r
    · rw [if_pos q]; exact Nat.le_refl _
    · rw [if_neg q] at h; omega
  have step : ∀ (i : Nat) (x : Nat) (rd : Nat → Nat) (z : ob) (A : Nat), (lw (g.2 5 r))[i]? = some x → i < 2 → z.1 = o.1 → (∀ k, k ≠ 18 → k ≠ 19 → z.2 k = o.2 k) → (∀ k, k < 13 → z.2 18 k = cd (rd k)) → (∀ k, k < 13 → rd k < 1000000000 → mx = false → rd k ≤ A) → A ≤ B →
      ∃ z', f6_roundBy_L22 (nI b) (nI (7 * r)) (nI i, z) = some (0, (nI (i + 1), z')) ∧ z'.1 = o.1 ∧ (∀ k, k ≠ 18 → k ≠ 19 → z'.2 k = o.2 k) ∧ (∀ k, k < 13 → z'.2 18 k = cd (rdm mx wb rd x k)) ∧ (∀ k, k < 13 → rdm mx wb rd x k < 1000000000 → mx = false → rdm mx wb rd x k ≤ A + B) := by
    intro i x rd z A hx hi z1 z2 z3 hA hAB
    have hx4 : x < 4 := lw_lt hg5 (List.mem_of_getElem? hx)
    have hil : i < (lw (g.2 5 r)).length := (List.getElem?_eq_some_iff.mp hx).1
    have hlen := lw_len (w := g.2 5 r)
    obtain ⟨z', e, a1, a2, a3⟩ := p6_reads mx b hb hm x hx4 wb rd z z3 (by rw [z2 14 (by decide) (by decide)]; exact h14) (fun fr to h1 h2 h3 h4 => by
      by_cases hmx : mx = true
      · exact (jn_bd h3 h4 (Nat.le_refl _) (Nat.le_refl _) (Or.inl hmx)).1
      · have hmf : mx = false := by simpa using hmx
        have := hB.2
        refine (jn_bd h3 h4 (hA fr h1 h3 hmf) (hB.1 _ (by omega) h4) (Or.inr ?_)).1
        rcases this with h | h
        · exact absurd h hmx
        · omega)
    refine ⟨z', ?_, a1.trans z1, fun k h1 h2 => (a2 k h1 h2).trans (z2 k h1 h2), a3, fun k hk h1 hmf => rdm_bd hx4 hk hA hB.1 h1 hmf⟩
    unfold f6_roundBy_L22
    have e2 : z.2 2 = o.2 2 := z2 2 (by decide) (by decide)
    have e4 := m4 i x hx
    simp (disch := omega) only [nI_lit, nI_add, nI_mul, nI_clamp, vin_nI, nI_leI, nI_ltI, nI_eq, nI_sub, gd_t, gd_p, lt_v, if_true, if_false, if_pos, if_neg, Option.bind_some, e2, m3, e4, e]
  have fin : ∀ (i : Nat) (z : ob), (lw (g.2 5 r)).length = i → (∀ k, k ≠ 18 → k ≠ 19 → z.2 k = o.2 k) → f6_roundBy_L22 (nI b) (nI (7 * r)) (nI i, z) = some (1, (nI i, z)) := by
    intro i z hi z2
    unfold f6_roundBy_L22
    have e2 : z.2 2 = o.2 2 := z2 2 (by decide) (by decide)
    have hlen := lw_len (w := g.2 5 r)
    rw [hi] at m3 hlen
    simp (disch := omega) only [nI_lit, nI_add, nI_mul, nI_clamp, vin_nI, nI_leI, nI_ltI, nI_eq, nI_sub, gd_t, gd_p, lt_v, if_true, if_false, if_pos, if_neg, Option.bind_some, e2, m3]
  unfold rdw
  cases hl : lw (g.2 5 r) with
  | nil =>
    refine ⟨(nI 0, o), wh_off (fin 0 o (by rw [hl]; rfl) (fun _ _ _ => rfl)), rfl, fun _ _ _ => rfl, h18, fun k hk h1 h2 => Nat.le_trans (st_b k hk h1 h2) (Nat.zero_le _)⟩
  | cons x l =>
    obtain ⟨z1, e1, a1, a2, a3, a4⟩ := step 0 x (st0 (g.2 4 r)) o 0 (by rw [hl]; rfl) (by omega) rfl (fun _ _ _ => rfl) h18 st_b (Nat.zero_le _)
    cases l with
    | nil =>
      refine ⟨(nI 1, z1), ?_, a1, a2, a3, fun k hk h1 h2 => Nat.le_trans (a4 k hk h1 h2) (by omega)⟩
      have e1' : f6_roundBy_L22 (nI b) (nI (7 * r)) (0, o) = some (0, (nI 1, z1)) := e1
      rw [wh_on e1']
      exact wh_off (fin 1 z1 (by rw [hl]; rfl) a2)
    | cons y l2 =>
      have hl2 : l2 = [] := by
        have : (x :: y :: l2).length ≤ 2 := by rw [← hl]; exact lw_len
        simp only [List.length_cons] at this
        exact List.length_eq_zero_iff.mp (by omega)
      subst hl2
      obtain ⟨z2, e2, b1, b2, b3, b4⟩ := step 1 y _ z1 (0 + B) (by rw [hl]; rfl) (by omega) a1 a2 a3 a4 (by omega)
      refine ⟨(nI 2, z2), ?_, b1, b2, b3, fun k hk h1 h2 => Nat.le_trans (b4 k hk h1 h2) (by omega)⟩
      have e1' : f6_roundBy_L22 (nI b) (nI (7 * r)) (0, o) = some (0, (nI 1, z1)) := e1
      have e2' : f6_roundBy_L22 (nI b) (nI (7 * r)) (nI 1, z1) = some (0, (nI 2, z2)) := e2
      rw [wh_on e1', wh_on e2']
      exact wh_off (fin 2 z2 (by rw [hl]; rfl) b2)
