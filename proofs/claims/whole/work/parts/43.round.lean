def dr (mx : Bool) (c : Nat) (rd : Nat → Nat) (base : Nat) (w : Nat → Nat) (k : Nat) : Nat := if base ≤ k ∧ k < base + 13 then min (w k) (jn mx c (rd (k - base))) else w k
theorem dr_le {mx : Bool} {c : Nat} {rd : Nat → Nat} {base : Nat} {w : Nat → Nat} (k : Nat) : dr mx c rd base w k ≤ w k := by
  unfold dr; split
  · exact Nat.min_le_left _ _
  · exact Nat.le_refl _
theorem p0_startAt (N p : Nat) (hN : N ≤ 13) (hp : p < N) (o : ob) : ∃ o', f0_startAt (nI p) o = some o' ∧ o'.1 = o.1 ∧ (∀ k, k ≠ 9 → o'.2 k = o.2 k) ∧ RD N o' (st0 p) := by
  obtain ⟨k, t, e, q, q1, q2, q3⟩ := wh_meas (st := f0_startAt_L2) (fun m z => ∃ i, m = 13 - i ∧ i ≤ 13 ∧ z.1 = nI i ∧ z.2.1 = o.1 ∧ (∀ k, k ≠ 9 → z.2.2 k = o.2 k) ∧ ∀ k, k < i → rL (z.2.2 9) k = eL 1000000000) (fun k z => k = 0 ∧ z.2.1 = o.1 ∧ (∀ k, k ≠ 9 → z.2.2 k = o.2 k) ∧ ∀ k, k < 13 → rL (z.2.2 9) k = eL 1000000000)
    (by
      rintro m ⟨z1, z2⟩ ⟨i, rfl, hi, rfl, h1, h2, h3⟩
      unfold f0_startAt_L2
      by_cases hb : i = 13
      · subst hb
        exact Or.inl ⟨0, (nI 13, z2), rfl, rfl, h1, h2, h3⟩
      · refine Or.inr ⟨13 - (i + 1), (nI (i + 1), sL z2 9 i (eL 1000000000)), by omega, ?_, i + 1, rfl, by omega, rfl, h1, ?_, ?_⟩
        · simp (disch := omega) only [nI_lit, nI_add, nI_mul, nI_clamp, vin_nI, nI_leI, nI_ltI, nI_eq, nI_sub, gd_t, gd_p, lt_v, if_true, if_false, if_pos, if_neg, eL_F, eL_Z, eL_leI, eL_ltI, Option.bind_some]
        · intro k hk
          simp only [sI_1, sI_2, sA_1, sA_2, sR_1, sR_2, upd_at, sL_1, sL_2, rL_uL, updL_at, if_neg hk]
          exact h2 k hk
        · intro k hk
          simp only [sI_1, sI_2, sA_1, sA_2, sR_1, sR_2, upd_at, sL_1, sL_2, rL_uL, updL_at, if_true]
          by_cases q : k = i
          · subst q; simp
          · rw [if_neg q]; exact h3 k (by omega))
    13 (nI 0, o) ⟨0, rfl, by omega, rfl, rfl, fun _ _ => rfl, fun _ h => absurd h (by omega)⟩
  subst q
  refine ⟨sL t.2 9 p (eL 0), ?_, q1, ?_, ?_, ?_, ?_⟩
  · unfold f0_startAt
    simp only [nI_lit] at e ⊢
    rw [e]
    simp (disch := omega) only [nI_lit, nI_add, nI_mul, nI_clamp, vin_nI, nI_leI, nI_ltI, nI_eq, nI_sub, gd_t, gd_p, lt_v, if_true, if_false, if_pos, if_neg, eL_F, eL_Z, eL_leI, eL_ltI, Option.bind_some]
  · intro k hk
    simp only [sI_1, sI_2, sA_1, sA_2, sR_1, sR_2, upd_at, sL_1, sL_2, rL_uL, updL_at, if_neg hk]
    exact q2 k hk
  · intro k hk
    simp only [sI_1, sI_2, sA_1, sA_2, sR_1, sR_2, upd_at, sL_1, sL_2, rL_uL, updL_at, if_true]
    unfold st0
    by_cases r : k = p
    · rw [if_pos r, if_pos r]
    · rw [if_neg r, if_neg r, q3 k hk]
  · intro k _
    unfold st0; split <;> omega
  · intro k h1 h2
    unfold st0; rw [if_neg (by omega)]
theorem p0_drawEdges (mx : Bool) (N c base : Nat) (hN : N ≤ 13) (hbase : base + 13 ≤ 676) (hc : c < 1000000000) (w rd : Nat → Nat) (o : ob) (h0 : o.1 0 = nI N) (h8 : o.1 8 = mxI mx) (hr : RD N o rd) (h4 : ∀ k, k < 676 → rL (o.2 4) k = eL (w k)) (hw : ∀ k, k < 676 → w k ≤ 1000000000) (hJ : ∀ k, k < 13 → rd k < 1000000000 → jn mx c (rd k) < 1000000000) :
    ∃ f o', f0_drawEdges (nI base) (nI c) o = some (f, o') ∧ o'.1 = o.1 ∧ (∀ k, k ≠ 4 → o'.2 k = o.2 k) ∧ (∀ k, k < 676 → rL (o'.2 4) k = eL (dr mx c rd base w k)) ∧ (f = nI 0 ∨ f = nI 1) ∧ (f = nI 1 ↔ ∃ k, k < 676 ∧ dr mx c rd base w k < w k) := by
  obtain ⟨k, t, e, q, q1, q2, q3, q4, q5⟩ := wh_meas (st := f0_drawEdges_L5 (nI base) (nI c)) (fun m z => ∃ i, m = 13 - i ∧ i ≤ N ∧ z.2.1 = nI i ∧ z.2.2.1 = o.1 ∧ (∀ k, k ≠ 4 → z.2.2.2 k = o.2 k) ∧ (∀ k, k < 676 → rL (z.2.2.2 4) k = eL (if k < base + i then dr mx c rd base w k else w k)) ∧ (z.1 = nI 0 ∨ z.1 = nI 1) ∧ (z.1 = nI 1 ↔ ∃ k, k < base + i ∧ dr mx c rd base w k < w k))
    (fun k z => k = 0 ∧ z.2.2.1 = o.1 ∧ (∀ k, k ≠ 4 → z.2.2.2 k = o.2 k) ∧ (∀ k, k < 676 → rL (z.2.2.2 4) k = eL (if k < base + N then dr mx c rd base w k else w k)) ∧ (z.1 = nI 0 ∨ z.1 = nI 1) ∧ (z.1 = nI 1 ↔ ∃ k, k < base + N ∧ dr mx c rd base w k < w k))
    (by
      rintro m ⟨z0, z1, z2⟩ ⟨i, rfl, hi, rfl, h1, h2, h3, h5, h6⟩
      dsimp only at h1 h2 h3 h5 h6
      unfold f0_drawEdges_L5
      dsimp only
      rw [h1, h0]
      by_cases hb : i = N
      · subst hb
        refine Or.inl ⟨0, (z0, nI i, z2), ?_, rfl, h1, h2, h3, h5, h6⟩
        rw [if_pos (nI_le (Nat.le_refl _) (by omega))]
      · have hN1 : i + 1 ≤ N := by omega
        have hm1 : 13 - (i + 1) < 13 - i := by omega
        have e9 : rL (z2.2 9) i = eL (rd i) := by rw [h2 9 (by decide)]; exact hr.1 i (by omega)
        have r9 := hr.2.1 i (by omega)
        have e4 := h3 (base + i) (by omega)
        rw [if_neg (by omega)] at e4
        have w4 := hw (base + i) (by omega)
        have ed : dr mx c rd base w (base + i) = min (w (base + i)) (jn mx c (rd i)) := by
          unfold dr; rw [if_pos ⟨by omega, by omega⟩, Nat.add_sub_cancel_left]
        have same : w (base + i) ≤ jn mx c (rd i) → dr mx c rd base w (base + i) = w (base + i) := fun h => by rw [ed, Nat.min_eq_left h]
        have nxt : ¬ dr mx c rd base w (base + i) < w (base + i) → (z0 = nI 1 ↔ ∃ k, k < base + (i + 1) ∧ dr mx c rd base w k < w k) := fun hn => by
          rw [h6]
          constructor
          · rintro ⟨k, hk, hd⟩; exact ⟨k, by omega, hd⟩
          · rintro ⟨k, hk, hd⟩
            by_cases q : k = base + i
            · subst q; exact absurd hd hn
            · exact ⟨k, by omega, hd⟩
        have rows : dr mx c rd base w (base + i) = w (base + i) → ∀ k, k < 676 → rL (z2.2 4) k = eL (if k < base + (i + 1) then dr mx c rd base w k else w k) := fun hs k hk => by
          rw [h3 k hk]
          refine congrArg eL ?_
          by_cases q : k = base + i
          · subst q; rw [if_neg (by omega), if_pos (by omega), hs]
          · by_cases q2 : k < base + i
            · rw [if_pos q2, if_pos (by omega)]
            · rw [if_neg q2, if_neg (by omega)]
        by_cases hri : rd i = 1000000000
        · have hs := same (by rw [hri, jn_b (Nat.le_refl _)]; exact w4)
          refine Or.inr ⟨13 - (i + 1), (z0, nI (i + 1), z2), by omega, ?_, i + 1, rfl, by omega, rfl, h1, h2, rows hs, h5, nxt (by omega)⟩
          simp (disch := omega) only [nI_lit, nI_add, nI_mul, nI_clamp, vin_nI, nI_leI, nI_ltI, nI_eq, nI_sub, gd_t, gd_p, lt_v, if_true, if_false, if_pos, if_neg, eL_F, eL_Z, eL_leI, eL_ltI, Option.bind_some, e9, hri]
        · have jb : jn mx c (rd i) < 1000000000 := hJ i (by omega) (by omega)
          have hj := p0_joined mx c (rd i) hc (by omega) jb z2 (by rw [h1, h8])
          have hcL : (nI c).toInt64 = eL c := nI_eL hc
          by_cases hle : w (base + i) ≤ jn mx c (rd i)
          · have hs := same hle
            refine Or.inr ⟨13 - (i + 1), (z0, nI (i + 1), z2), by omega, ?_, i + 1, rfl, by omega, rfl, h1, h2, rows hs, h5, nxt (by omega)⟩
            simp (disch := omega) only [nI_lit, nI_add, nI_mul, nI_clamp, vin_nI, nI_leI, nI_ltI, nI_eq, nI_sub, gd_t, gd_p, lt_v, if_true, if_false, if_pos, if_neg, eL_F, eL_Z, eL_leI, eL_ltI, Option.bind_some, e9, hcL, hj, e4]
          · have hlt : dr mx c rd base w (base + i) < w (base + i) := by rw [ed, Nat.min_eq_right (by omega)]; omega
            refine Or.inr ⟨13 - (i + 1), (nI 1, nI (i + 1), sL z2 4 (base + i) (eL (jn mx c (rd i)))), hm1, ?_, i + 1, rfl, hN1, rfl, h1, ?_, ?_, Or.inr rfl, fun _ => ⟨base + i, by omega, hlt⟩, fun _ => rfl⟩
            · clear nxt rows same h6 h5 ed hlt
              simp (disch := omega) only [nI_lit, nI_add, nI_mul, nI_clamp, vin_nI, nI_leI, nI_ltI, nI_eq, nI_sub, gd_t, gd_p, lt_v, if_true, if_false, if_pos, if_neg, eL_F, eL_Z, eL_leI, eL_ltI, Option.bind_some, e9, hcL, hj, e4]
            · intro k hk
              simp only [sI_1, sI_2, sA_1, sA_2, sR_1, sR_2, upd_at, sL_1, sL_2, rL_uL, updL_at, if_neg hk]
              exact h2 k hk
            · intro k hk
              simp only [sI_1, sI_2, sA_1, sA_2, sR_1, sR_2, upd_at, sL_1, sL_2, rL_uL, updL_at, if_true]
              by_cases q : k = base + i
              · subst q; rw [if_pos rfl, if_pos (by omega), ed, Nat.min_eq_right (by omega)]
              · rw [if_neg q, h3 k hk]
                refine congrArg eL ?_
                by_cases q2 : k < base + i
                · rw [if_pos q2, if_pos (by omega)]
                · rw [if_neg q2, if_neg (by omega)])
    13 (nI 0, nI 0, o) ⟨0, rfl, by omega, rfl, rfl, fun _ _ => rfl, fun k hk => by
        rw [h4 k hk]
        refine congrArg eL ?_
        by_cases q : k < base
        · rw [if_pos (by omega)]; unfold dr; rw [if_neg (by omega)]
        · rw [if_neg (by omega)], Or.inl rfl, fun h => absurd (show nI 0 = nI 1 from h) (by decide), fun ⟨k, hk, hd⟩ => absurd hd (by unfold dr; rw [if_neg (by omega)]; omega)⟩
  subst q
  have far : ∀ k, k < 676 → ¬ k < base + N → dr mx c rd base w k = w k := by
    intro k hk hn
    unfold dr
    by_cases q : base ≤ k ∧ k < base + 13
    · rw [if_pos q, hr.2.2 (k - base) (by omega) (by omega), jn_b (Nat.le_refl _), Nat.min_eq_left (hw k hk)]
    · rw [if_neg q]
  refine ⟨t.1, t.2.2, ?_, q1, q2, ?_, q4, ?_⟩
  · unfold f0_drawEdges
    simp only [nI_lit] at e ⊢
    rw [e]
    rcases q4 with h | h <;> simp only [Option.bind_some, h, bz_0, bz_1, gd_t]
  · intro k hk
    rw [q3 k hk]
    refine congrArg eL ?_
    by_cases q : k < base + N
    · rw [if_pos q]
    · rw [if_neg q, far k hk q]
  · rw [q5]
    constructor
    · rintro ⟨k, hk, hd⟩; exact ⟨k, by omega, hd⟩
    · rintro ⟨k, hk, hd⟩
      by_cases q : k < base + N
      · exact ⟨k, q, hd⟩
      · rw [far k hk q] at hd; omega
/-- no sum of two weights and a cost comes to 1000000000 -/
def OKB (mx : Bool) (B : Nat) (w : Nat → Nat) : Prop := (∀ k, k < 676 → w k < 1000000000 → w k ≤ B) ∧ (mx = true ∨ 2 * B + 9 < 1000000000)
theorem jn_bd {mx : Bool} {a b A B : Nat} (ha : a < 1000000000) (hb : b < 1000000000) (hA : a ≤ A) (hB : b ≤ B) (h : mx = true ∨ A + B < 1000000000) : jn mx a b < 1000000000 ∧ (mx = false → jn mx a b ≤ A + B) := by
  rw [jn_lt ha hb]
  cases mx with
  | true => exact ⟨by simp; omega, fun h => by cases h⟩
  | false =>
    have h : A + B < 1000000000 := h.resolve_left (by decide)
    exact ⟨by simp; omega, fun _ => by simp; omega⟩
theorem rdm_bd {mx : Bool} {w rd : Nat → Nat} {x to A B : Nat} (hx : x < 4) (hto : to < 13) (hr : ∀ k, k < 13 → rd k < 1000000000 → mx = false → rd k ≤ A) (hw : ∀ k, k < 676 → w k < 1000000000 → w k ≤ B) (h : rdm mx w rd x to < 1000000000) : mx = false → rdm mx w rd x to ≤ A + B := by
  intro hm
  obtain ⟨i, hi, e⟩ := mn_ex h
  have e : rdm mx w rd x to = jn mx (rd i) (w (52 * i + 13 * x + to)) := e
  rw [e] at h ⊢
  by_cases h1 : 1000000000 ≤ rd i
  · rw [jn_a h1] at h; omega
  · by_cases h2 : 1000000000 ≤ w (52 * i + 13 * x + to)
    · rw [jn_b h2] at h; omega
    · have a1 := hr i hi (by omega) hm
      have a2 := hw (52 * i + 13 * x + to) (by omega) (by omega)
      rw [jn_lt (by omega) (by omega)]
      subst hm
      simp
      omega
theorem jn_ok {mx : Bool} {w rd : Nat → Nat} {x A B : Nat} (hB : OKB mx B w) (hA : ∀ k, k < 13 → rd k < 1000000000 → mx = false → rd k ≤ A) (hAB : A ≤ B) (hx : x < 4) : ∀ fr k, fr < 13 → k < 13 → rd fr < 1000000000 → w (52 * fr + 13 * x + k) < 1000000000 → jn mx (rd fr) (w (52 * fr + 13 * x + k)) < 1000000000 := by
  intro fr to h1 h2 h3 h4
  by_cases hmx : mx = true
  · exact (jn_bd h3 h4 (Nat.le_refl _) (Nat.le_refl _) (Or.inl hmx)).1
  · have hmf : mx = false := by simpa using hmx
    have := hB.2
    refine (jn_bd h3 h4 (hA fr h1 h3 hmf) (hB.1 _ (by omega) h4) (Or.inr ?_)).1
    rcases this with h | h
    · exact absurd h hmx
    · omega
theorem st0_bd {mx : Bool} {p : Nat} : ∀ k, k < 13 → st0 p k < 1000000000 → mx = false → st0 p k ≤ 0 := by
  intro k _ h _
  unfold st0 at h ⊢
  by_cases q : k = p
  · rw [if_pos q]; exact Nat.le_refl _
  · rw [if_neg q] at h; omega
