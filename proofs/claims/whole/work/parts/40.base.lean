/-! the pure layer: numbers, loops -/
theorem nI_lit (n : Nat) : (@OfNat.ofNat Int32 n Int32.instOfNat) = nI (@OfNat.ofNat Nat n (instOfNatNat n)) := rfl
theorem nI_mul (a b : Nat) : nI a * nI b = nI (a * b) := (Int32.ofNat_mul a b).symm
theorem nI_sub {a b : Nat} (h : b ≤ a) : nI a - nI b = nI (a - b) := by
  have e : nI a = nI (a - b) + nI b := by rw [nI_add, Nat.sub_add_cancel h]
  rw [e, Int32.add_sub_cancel]
theorem vin_nI {a n : Nat} (h : a < 2 ^ 31) : vin (nI a) n = decide (a < n) := by
  simp only [vin, nI_clamp h, nI_pos h, decide_false, Bool.false_or]
  by_cases q : a < n
  · simp [q, Nat.not_le.mpr q]
  · simp [q, Nat.le_of_not_lt q]
theorem gd_t {α : Type} {x : Option α} : gd true x = x := rfl
theorem gd_p {α : Type} {p : Prop} [Decidable p] {x : Option α} (h : p) : gd (decide p) x = x := by simp [gd, h]
theorem lt_v {α β : Type} {x : α} {f : α → β} : lt x f = f x := rfl
theorem nI_neg_toInt {b : Nat} (h0 : 0 < b) (h : b < 2 ^ 31) : (-(nI b)).toInt = -(b : Int) := by
  rw [Int32.toInt_neg, nI_toInt h]
  have := Int.bmod_eq_of_le (n := -(b : Int)) (m := 2 ^ 32) (by omega) (by omega)
  exact this
theorem nI_lt_neg {a b : Nat} (ha : a < 2 ^ 31) (h0 : 0 < b) (h : b < 2 ^ 31) : ¬ nI a < -(nI b) := by
  rw [Int32.lt_iff_toInt_lt, nI_toInt ha, nI_neg_toInt h0 h]; omega
theorem nI_le_neg {a b : Nat} (ha : a < 2 ^ 31) (h0 : 0 < b) (h : b < 2 ^ 31) : ¬ nI a ≤ -(nI b) := by
  rw [Int32.le_iff_toInt_le, nI_toInt ha, nI_neg_toInt h0 h]; omega
theorem nI_neg_lt {a b : Nat} (ha : a < 2 ^ 31) (h0 : 0 < b) (h : b < 2 ^ 31) : -(nI b) < nI a := by
  rw [Int32.lt_iff_toInt_lt, nI_toInt ha, nI_neg_toInt h0 h]; omega
theorem nI_neg_le {a b : Nat} (ha : a < 2 ^ 31) (h0 : 0 < b) (h : b < 2 ^ 31) : -(nI b) ≤ nI a := by
  rw [Int32.le_iff_toInt_le, nI_toInt ha, nI_neg_toInt h0 h]; omega
theorem nI_ne_neg {a b : Nat} (ha : a < 2 ^ 31) (h0 : 0 < b) (h : b < 2 ^ 31) : ¬ nI a = -(nI b) := by
  intro e
  have := congrArg Int32.toInt e
  rw [nI_toInt ha, nI_neg_toInt h0 h] at this
  omega
theorem neg_ne_nI {a b : Nat} (ha : a < 2 ^ 31) (h0 : 0 < b) (h : b < 2 ^ 31) : ¬ -(nI b) = nI a := fun e => nI_ne_neg ha h0 h e.symm
theorem bz_0 : bz (nI 0) = true := rfl
theorem bz_1 : bz (nI 1) = true := rfl
theorem sI_1 (o : ob) (k : Nat) (v : Int32) (j : Nat) : (sI o k v).1 j = if j = k then v else o.1 j := rfl
theorem sI_2 (o : ob) (k : Nat) (v : Int32) : (sI o k v).2 = o.2 := rfl
theorem sA_1 (o : ob) (k i : Nat) (v : Int32) : (sA o k i v).1 = o.1 := rfl
theorem sA_2 (o : ob) (k i : Nat) (v : Int32) (j : Nat) : (sA o k i v).2 j = if j = k then upd (o.2 k) i v else o.2 j := rfl
theorem sR_1 (o : ob) (k : Nat) (r : Nat → Int32) : (sR o k r).1 = o.1 := rfl
theorem sR_2 (o : ob) (k : Nat) (r : Nat → Int32) (j : Nat) : (sR o k r).2 j = if j = k then r else o.2 j := rfl
theorem sL_1 (o : ob) (k i : Nat) (v : Int64) : (sL o k i v).1 = o.1 := rfl
theorem sL_2 (o : ob) (k i : Nat) (v : Int64) (j : Nat) : (sL o k i v).2 j = if j = k then uL (vp_updL (rL (o.2 k)) i v) else o.2 j := rfl
theorem sF_1 (o : ob) (k : Nat) (v : Int64) : (sF o k v).1 = o.1 := rfl
theorem sF_2 (o : ob) (k : Nat) (v : Int64) (j : Nat) : (sF o k v).2 j = if j = k then uL (fun _ => v) else o.2 j := rfl
theorem updL_at (f : Nat → Int64) (k : Nat) (x : Int64) (j : Nat) : vp_updL f k x j = if j = k then x else f j := rfl
theorem upd_at (f : Nat → Int32) (k : Nat) (x : Int32) (j : Nat) : upd f k x j = if j = k then x else f j := rfl
/-! loops -/
theorem wh_meas {α : Type} {st : α → Option (Nat × α)} (I : Nat → α → Prop) (Q : Nat → α → Prop)
    (h : ∀ m s, I m s → (∃ k t, st s = some (k + 1, t) ∧ Q k t) ∨ (∃ m' s', m' < m ∧ st s = some (0, s') ∧ I m' s')) : ∀ m s, I m s → ∃ k t, wh st s = some (k + 1, t) ∧ Q k t := by
  intro m
  induction m using Nat.strongRecOn with
  | ind m ih =>
    intro s hI
    rcases h m s hI with ⟨k, t, e, q⟩ | ⟨m', s', hm, e, hI'⟩
    · exact ⟨k, t, wh_off e, q⟩
    · obtain ⟨k, t, e2, q⟩ := ih m' hm s' hI'
      exact ⟨k, t, by rw [wh_on e]; exact e2, q⟩
theorem wh_seq {α : Type} {st : α → Option (Nat × α)} (f : Nat → α) (n : Nat) {k : Nat} {t : α} (h1 : ∀ i, i < n → st (f i) = some (0, f (i + 1))) (h2 : st (f n) = some (k + 1, t)) : wh st (f 0) = some (k + 1, t) := by
  have key : ∀ j, j ≤ n → wh st (f (n - j)) = some (k + 1, t) := by
    intro j
    induction j with
    | zero => intro _; exact wh_off h2
    | succ j ih =>
      intro hj
      have e := h1 (n - (j + 1)) (by omega)
      rw [wh_on e, show n - (j + 1) + 1 = n - j by omega]
      exact ih (by omega)
  have := key n (Nat.le_refl n)
  rwa [Nat.sub_self] at this
/-- two loops side by side -/
theorem wh_two {α β : Type} {st : α → Option (Nat × α)} {su : β → Option (Nat × β)} (I : Nat → α → β → Prop) (Q : α → β → Prop)
    (h : ∀ m s t, I m s t → (∃ k j s' t', st s = some (k + 1, s') ∧ su t = some (j + 1, t') ∧ Q s' t') ∨ (∃ m' s' t', m' < m ∧ st s = some (0, s') ∧ su t = some (0, t') ∧ I m' s' t')) :
    ∀ m s t, I m s t → ∃ k j s' t', wh st s = some (k + 1, s') ∧ wh su t = some (j + 1, t') ∧ Q s' t' := by
  intro m
  induction m using Nat.strongRecOn with
  | ind m ih =>
    intro s t hI
    rcases h m s t hI with ⟨k, j, s', t', e1, e2, q⟩ | ⟨m', s', t', hm, e1, e2, hI'⟩
    · exact ⟨k, j, s', t', wh_off e1, wh_off e2, q⟩
    · obtain ⟨k, j, a, b, g1, g2, q⟩ := ih m' hm s' t' hI'
      exact ⟨k, j, a, b, by rw [wh_on e1]; exact g1, by rw [wh_on e2]; exact g2, q⟩
theorem p6_in (a b c : Nat) (ha : a < 2 ^ 31) (hb : b < 2 ^ 31) (hc : c < 2 ^ 31) : f6_in (nI a) (nI b) (nI c) = some (if b ≤ a ∧ a ≤ c then nI 1 else nI 0) := by
  unfold f6_in
  simp only [nI_lit, nI_add, nI_mul, nI_clamp, vin_nI, nI_leI, nI_ltI, nI_eq, nI_sub, gd_t, gd_p, lt_v, if_true, if_false, if_pos, if_neg, ha, hb, hc]
  by_cases h1 : a < b
  · rw [if_pos h1, if_neg (by omega)]
  · by_cases h2 : c < a
    · rw [if_neg h1, if_pos h2, if_neg (by omega)]
    · rw [if_neg h1, if_neg h2, if_pos (by omega)]
theorem p6_place (a b c : Nat) : f6_place (nI a) (nI b) (nI c) = some (nI (52 * a + 13 * b + c)) := by
  unfold f6_place
  simp only [nI_lit, nI_add, nI_mul, nI_clamp, vin_nI, nI_leI, nI_ltI, nI_eq, nI_sub, gd_t, gd_p, lt_v, if_true, if_false, if_pos, if_neg]
theorem p5_edgeAt (a b c : Nat) : f5_edgeAt (nI a) (nI b) (nI c) = some (nI (52 * a + 13 * b + c)) := by
  unfold f5_edgeAt
  simp only [nI_lit, nI_add, nI_mul, nI_clamp, vin_nI, nI_leI, nI_ltI, nI_eq, nI_sub, gd_t, gd_p, lt_v, if_true, if_false, if_pos, if_neg]
  congr 2
  omega
theorem p6_standsAt (n : Nat) (hn : n < 13) (o : ob) : ∃ o', f6_standsAt (nI n) o = some o' ∧ o'.1 = o.1 ∧ (∀ k, k ≠ 18 → o'.2 k = o.2 k) ∧ ∀ k, k < 13 → o'.2 18 k = if k = n then nI 0 else -(nI 1) := by
  unfold f6_standsAt
  obtain ⟨k, t, e, q⟩ := wh_meas (st := f6_standsAt_L2 (nI n)) (fun m z => ∃ i, m = 13 - i ∧ i ≤ 13 ∧ z.1 = nI i ∧ z.2.1 = o.1 ∧ (∀ k, k ≠ 18 → z.2.2 k = o.2 k) ∧ ∀ k, k < i → z.2.2 18 k = if k = n then nI 0 else -(nI 1)) (fun _ z => z.2.1 = o.1 ∧ (∀ k, k ≠ 18 → z.2.2 k = o.2 k) ∧ ∀ k, k < 13 → z.2.2 18 k = if k = n then nI 0 else -(nI 1))
    (by
      rintro m ⟨z1, z2⟩ ⟨i, rfl, hi, rfl, h1, h2, h3⟩
      unfold f6_standsAt_L2
      by_cases hb : i = 13
      · subst hb
        exact Or.inl ⟨0, (nI 13, z2), rfl, h1, h2, h3⟩
      · have hlt : i < 13 := by omega
        refine Or.inr ⟨13 - (i + 1), (nI (i + 1), sA z2 18 i (if i = n then nI 0 else -(nI 1))), by omega, ?_, i + 1, rfl, by omega, rfl, h1, ?_, ?_⟩
        · by_cases q : i = n <;> simp (disch := omega) only [nI_lit, nI_add, nI_mul, nI_clamp, vin_nI, nI_leI, nI_ltI, nI_eq, nI_sub, gd_t, gd_p, lt_v, if_true, if_false, if_pos, if_neg, Option.bind_some, q] <;> rfl
        · intro k hk
          simp only [sI_1, sI_2, sA_1, sA_2, sR_1, sR_2, upd_at, sL_1, sL_2, rL_uL, updL_at, if_neg hk]
          exact h2 k hk
        · intro k hk
          simp only [sI_1, sI_2, sA_1, sA_2, sR_1, sR_2, upd_at, sL_1, sL_2, rL_uL, updL_at, if_true]
          by_cases q : k = i
          · subst q; simp
          · rw [if_neg q]; exact h3 k (by omega))
    13 (nI 0, o) ⟨0, rfl, by omega, rfl, rfl, fun _ _ => rfl, fun _ h => absurd h (by omega)⟩
  simp only [nI_lit] at e ⊢
  rw [e]
  exact ⟨t.2, rfl, q⟩
