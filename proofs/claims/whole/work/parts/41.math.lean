/-! the automaton in numbers: 1000000000 is 'no edge' -/
def mn (g : Nat → Nat) : Nat → Nat
  | 0 => 1000000000
  | n + 1 => min (mn g n) (g n)
def jn (mx : Bool) (a b : Nat) : Nat := if 1000000000 ≤ a then 1000000000 else if 1000000000 ≤ b then 1000000000 else if mx = true then max a b else a + b
def rdm (mx : Bool) (w rd : Nat → Nat) (x to : Nat) : Nat := mn (fun fr => jn mx (rd fr) (w (52 * fr + 13 * x + to))) 13
def st0 (p k : Nat) : Nat := if k = p then 0 else 1000000000
def lw (w : Nat) : List Nat := if w = 0 then [] else if w ≤ 4 then [w - 1] else [(w - 5) / 4, (w - 5) % 4]
def rdl (mx : Bool) (w : Nat → Nat) : List Nat → (Nat → Nat) → (Nat → Nat)
  | [], rd => rd
  | x :: l, rd => rdl mx w l (rdm mx w rd x)
theorem mn_succ (g : Nat → Nat) (n : Nat) : mn g (n + 1) = min (mn g n) (g n) := rfl
theorem mn_le_FR (g : Nat → Nat) : ∀ n, mn g n ≤ 1000000000
  | 0 => Nat.le_refl _
  | n + 1 => Nat.le_trans (Nat.min_le_left _ _) (mn_le_FR g n)
theorem mn_le {g : Nat → Nat} : ∀ {n i : Nat}, i < n → mn g n ≤ g i
  | n + 1, i, h => by
    by_cases e : i = n
    · subst e; exact Nat.min_le_right _ _
    · exact Nat.le_trans (Nat.min_le_left _ _) (mn_le (by omega))
theorem mn_ex {g : Nat → Nat} : ∀ {n : Nat}, mn g n < 1000000000 → ∃ i, i < n ∧ mn g n = g i
  | 0, h => absurd h (Nat.lt_irrefl _)
  | n + 1, h => by
    rcases Nat.lt_or_ge (g n) (mn g n) with q | q
    · exact ⟨n, by omega, Nat.min_eq_right (Nat.le_of_lt q)⟩
    · have e : mn g (n + 1) = mn g n := Nat.min_eq_left q
      rw [e] at h ⊢
      obtain ⟨i, hi, hg⟩ := mn_ex h
      exact ⟨i, by omega, hg⟩
theorem mn_congr {g h : Nat → Nat} : ∀ {n : Nat}, (∀ i, i < n → g i = h i) → mn g n = mn h n
  | 0, _ => rfl
  | n + 1, e => by
    show min (mn g n) (g n) = min (mn h n) (h n)
    rw [mn_congr (fun i hi => e i (by omega)), e n (by omega)]
theorem mn_more {g : Nat → Nat} {n : Nat} : ∀ k, (∀ i, n ≤ i → i < n + k → 1000000000 ≤ g i) → mn g (n + k) = mn g n
  | 0, _ => rfl
  | k + 1, h => by
    have e := mn_more k (fun i h1 h2 => h i h1 (by omega))
    show min (mn g (n + k)) (g (n + k)) = mn g n
    rw [e]
    exact Nat.min_eq_left (Nat.le_trans (mn_le_FR g n) (h (n + k) (by omega) (by omega)))
theorem rdm_le (mx : Bool) (w rd : Nat → Nat) (x to : Nat) : rdm mx w rd x to ≤ 1000000000 := mn_le_FR _ _
theorem jn_lt {mx : Bool} {a b : Nat} (ha : a < 1000000000) (hb : b < 1000000000) : jn mx a b = if mx = true then max a b else a + b := by
  unfold jn; rw [if_neg (by omega), if_neg (by omega)]
theorem jn_a {mx : Bool} {a b : Nat} (ha : 1000000000 ≤ a) : jn mx a b = 1000000000 := by unfold jn; rw [if_pos ha]
theorem jn_b {mx : Bool} {a b : Nat} (hb : 1000000000 ≤ b) : jn mx a b = 1000000000 := by unfold jn; split <;> first | rfl | rw [if_pos hb]
/-! the class's long weights: no edge is a million millions -/
def eL (a : Nat) : Int64 := if 1000000000 ≤ a then 1000000000000 else lN a
theorem eL_lt {a : Nat} (h : a < 1000000000) : eL a = lN a := by unfold eL; rw [if_neg (by omega)]
theorem eL_ge {a : Nat} (h : 1000000000 ≤ a) : eL a = 1000000000000 := by unfold eL; rw [if_pos h]
theorem eL_F : (1000000000000 : Int64) = eL 1000000000 := (eL_ge (Nat.le_refl _)).symm
theorem eL_Z : (0 : Int64) = eL 0 := by rw [eL_lt (a := 0) (by omega)]; rfl
theorem eL_O : (1 : Int64) = eL 1 := by rw [eL_lt (a := 1) (by omega)]; rfl
theorem eL_toInt {a : Nat} (h : a ≤ 1000000000) : (eL a).toInt = if 1000000000 ≤ a then 1000000000000 else (a : Int) := by
  by_cases q : 1000000000 ≤ a
  · rw [eL_ge q, if_pos q]; rfl
  · rw [eL_lt (by omega), if_neg q, lN_toInt (by omega)]
theorem eL_leI {a b : Nat} (ha : a ≤ 1000000000) (hb : b ≤ 1000000000) : eL a ≤ eL b ↔ a ≤ b := by
  rw [Int64.le_iff_toInt_le, eL_toInt ha, eL_toInt hb]
  split <;> split <;> omega
theorem eL_ltI {a b : Nat} (ha : a ≤ 1000000000) (hb : b ≤ 1000000000) : eL a < eL b ↔ a < b := by
  rw [Int64.lt_iff_toInt_lt, eL_toInt ha, eL_toInt hb]
  split <;> split <;> omega
theorem eL_eqI {a b : Nat} (ha : a ≤ 1000000000) (hb : b ≤ 1000000000) : eL a = eL b ↔ a = b := by
  rw [← Int64.toInt_inj, eL_toInt ha, eL_toInt hb]
  split <;> split <;> omega
theorem eL_add {a b : Nat} (h : a + b < 1000000000) : eL a + eL b = eL (a + b) := by
  rw [eL_lt (by omega), eL_lt (by omega), eL_lt h, lN_add]
theorem eL_sub {a b : Nat} (h : b ≤ a) (ha : a < 1000000000) : eL a - eL b = eL (a - b) := by
  rw [eL_lt ha, eL_lt (by omega), eL_lt (by omega), lN_sub h]
theorem eL_i {a : Nat} (h : a < 1000000000) : (eL a).toInt32 = nI a := by rw [eL_lt h, lN_i]
theorem nI_eL {a : Nat} (h : a < 1000000000) : (nI a).toInt64 = eL a := by rw [eL_lt h, nI_l (by omega)]
/-! the class reads a letter -/
def mxI (mx : Bool) : Int32 := if mx = true then nI 1 else nI 0
theorem p0_joined (mx : Bool) (a b : Nat) (ha : a < 1000000000) (hb : b < 1000000000) (hj : jn mx a b < 1000000000) (o : ob) (h8 : o.1 8 = mxI mx) : f0_joined (eL a) (eL b) o = some (eL (jn mx a b)) := by
  unfold f0_joined
  rw [h8]
  rw [jn_lt ha hb] at hj ⊢
  cases mx with
  | false =>
    have hj : a + b < 1000000000 := hj
    rw [if_pos (show mxI false = (0 : Int32) from rfl), eL_add hj]
    rfl
  | true =>
    rw [if_neg (show ¬ mxI true = (0 : Int32) by decide)]
    have e : (if true = true then max a b else a + b) = max a b := rfl
    rw [e]
    by_cases q : b < a
    · rw [if_pos ((eL_ltI (by omega) (by omega)).mpr q), Nat.max_eq_left (by omega)]
    · rw [if_neg (fun h => q ((eL_ltI (by omega) (by omega)).mp h)), Nat.max_eq_right (by omega)]
/-- what stays of an automaton when a letter is read -/
def keep0 (o o' : ob) : Prop := (∀ k, k ≠ 11 → o'.1 k = o.1 k) ∧ ∀ k, k ≠ 9 → k ≠ 10 → o'.2 k = o.2 k
theorem keep0.rf (o : ob) : keep0 o o := ⟨fun _ _ => rfl, fun _ _ _ => rfl⟩
theorem keep0.tr {a b c : ob} (h : keep0 a b) (g : keep0 b c) : keep0 a c := ⟨fun k hk => (g.1 k hk).trans (h.1 k hk), fun k h1 h2 => (g.2 k h1 h2).trans (h.2 k h1 h2)⟩
theorem p0_readOn_a (o : ob) : ∃ t, wh f0_readOn_L2 (0, o) = some (1, t) ∧ t.2.1 = o.1 ∧ (∀ k, k ≠ 10 → t.2.2 k = o.2 k) ∧ ∀ k, k < 13 → rL (t.2.2 10) k = eL 1000000000 := by
  obtain ⟨k, t, e, q, q1, q2, q3⟩ := wh_meas (st := f0_readOn_L2) (fun m z => ∃ i, m = 13 - i ∧ i ≤ 13 ∧ z.1 = nI i ∧ z.2.1 = o.1 ∧ (∀ k, k ≠ 10 → z.2.2 k = o.2 k) ∧ ∀ k, k < i → rL (z.2.2 10) k = eL 1000000000) (fun k z => k = 0 ∧ z.2.1 = o.1 ∧ (∀ k, k ≠ 10 → z.2.2 k = o.2 k) ∧ ∀ k, k < 13 → rL (z.2.2 10) k = eL 1000000000)
    (by
      rintro m ⟨z1, z2⟩ ⟨i, rfl, hi, rfl, h1, h2, h3⟩
      unfold f0_readOn_L2
      by_cases hb : i = 13
      · subst hb
        exact Or.inl ⟨0, (nI 13, z2), rfl, rfl, h1, h2, h3⟩
      · refine Or.inr ⟨13 - (i + 1), (nI (i + 1), sL z2 10 i (eL 1000000000)), by omega, ?_, i + 1, rfl, by omega, rfl, h1, ?_, ?_⟩
        · simp (disch := omega) only [nI_lit, nI_add, nI_mul, nI_clamp, vin_nI, nI_leI, nI_ltI, nI_eq, nI_sub, gd_t, gd_p, lt_v, if_true, if_false, if_pos, if_neg, eL_F, eL_Z, eL_leI, eL_ltI, Option.bind_some]
        · intro k hk
          simp only [sI_1, sI_2, sA_1, sA_2, sR_1, sR_2, upd_at, sL_1, sL_2, rL_uL, updL_at, if_neg hk]
          exact h2 k hk
        · intro k hk
          simp only [sI_1, sI_2, sA_1, sA_2, sR_1, sR_2, upd_at, sL_1, sL_2, rL_uL, updL_at, if_true]
          by_cases q : k = i
          · subst q; simp
          · rw [if_neg q]; exact h3 k (by omega))
    13 (nI 0, o) ⟨0, rfl, by omega, rfl, rfl, fun _ _ => rfl, fun _ h => absurd h (by omega)⟩
  subst q
  exact ⟨t, e, q1, q2, q3⟩
/-- one node's edges -/
theorem p0_readOn_b (mx : Bool) (N fr x : Nat) (hN : N ≤ 13) (hfr : fr < N) (hx : x < 4) (wb rd sp : Nat → Nat) (o : ob) (h0 : o.1 0 = nI N) (h8 : o.1 8 = mxI mx) (h9 : rL (o.2 9) fr = eL (rd fr)) (hrd : rd fr < 1000000000) (h5 : ∀ k, k < 676 → rL (o.2 5) k = eL (wb k)) (hwb : ∀ k, k < 676 → wb k ≤ 1000000000)
    (h10 : ∀ k, k < 13 → rL (o.2 10) k = eL (sp k)) (hsp : ∀ k, k < 13 → sp k ≤ 1000000000) (hJ : ∀ k, k < 13 → wb (52 * fr + 13 * x + k) < 1000000000 → jn mx (rd fr) (wb (52 * fr + 13 * x + k)) < 1000000000) :
    ∃ t, wh (f0_readOn_L56 (nI fr) (nI (52 * fr + 13 * x + 0))) (0, o) = some (1, t) ∧ t.2.1 = o.1 ∧ (∀ k, k ≠ 10 → t.2.2 k = o.2 k) ∧ ∀ k, k < 13 → rL (t.2.2 10) k = eL (if k < N then min (sp k) (jn mx (rd fr) (wb (52 * fr + 13 * x + k))) else sp k) := by
  obtain ⟨k, t, e, q, q1, q2, q3⟩ := wh_meas (st := f0_readOn_L56 (nI fr) (nI (52 * fr + 13 * x + 0))) (fun m z => ∃ i, m = 13 - i ∧ i ≤ N ∧ z.1 = nI i ∧ z.2.1 = o.1 ∧ (∀ k, k ≠ 10 → z.2.2 k = o.2 k) ∧ ∀ k, k < 13 → rL (z.2.2 10) k = eL (if k < i then min (sp k) (jn mx (rd fr) (wb (52 * fr + 13 * x + k))) else sp k)) (fun k z => k = 0 ∧ z.2.1 = o.1 ∧ (∀ k, k ≠ 10 → z.2.2 k = o.2 k) ∧ ∀ k, k < 13 → rL (z.2.2 10) k = eL (if k < N then min (sp k) (jn mx (rd fr) (wb (52 * fr + 13 * x + k))) else sp k))
    (by
      rintro m ⟨z1, z2⟩ ⟨i, rfl, hi, rfl, h1, h2, h3⟩
      dsimp only at h1 h2 h3
      unfold f0_readOn_L56
      dsimp only
      rw [h1, h0, h2 5 (by decide), h2 9 (by decide)]
      by_cases hb : i = N
      · subst hb
        refine Or.inl ⟨0, (nI i, z2), ?_, rfl, h1, h2, h3⟩
        rw [if_pos (nI_le (Nat.le_refl _) (by omega))]
      · have e5 := h5 (52 * fr + 13 * x + i) (by omega)
        have w5 := hwb (52 * fr + 13 * x + i) (by omega)
        have e10 := h3 i (by omega)
        rw [if_neg (Nat.lt_irrefl i)] at e10
        have s10 := hsp i (by omega)
        by_cases hw : wb (52 * fr + 13 * x + i) = 1000000000
        · refine Or.inr ⟨13 - (i + 1), (nI (i + 1), z2), by omega, ?_, i + 1, rfl, by omega, rfl, h1, h2, ?_⟩
          · simp (disch := omega) only [nI_lit, nI_add, nI_mul, nI_clamp, vin_nI, nI_leI, nI_ltI, nI_eq, nI_sub, gd_t, gd_p, lt_v, if_true, if_false, if_pos, if_neg, eL_F, eL_Z, eL_leI, eL_ltI, Option.bind_some, Nat.add_zero, e5, hw, h9]
          · intro k hk
            rw [h3 k hk]
            congr 1
            by_cases q : k = i
            · subst q
              rw [if_neg (by omega), if_pos (by omega), hw, jn_b (Nat.le_refl _), Nat.min_eq_left (hsp k hk)]
            · by_cases q2 : k < i
              · rw [if_pos q2, if_pos (by omega)]
              · rw [if_neg q2, if_neg (by omega)]
        · have jb : jn mx (rd fr) (wb (52 * fr + 13 * x + i)) < 1000000000 := hJ i (by omega) (by omega)
          have hj := p0_joined mx (rd fr) (wb (52 * fr + 13 * x + i)) hrd (by omega) jb z2 (by rw [h1, h8])
          refine Or.inr ⟨13 - (i + 1), (nI (i + 1), sL z2 10 i (eL (min (sp i) (jn mx (rd fr) (wb (52 * fr + 13 * x + i)))))), by omega, ?_, i + 1, rfl, by omega, rfl, h1, ?_, ?_⟩
          · simp (disch := omega) only [nI_lit, nI_add, nI_mul, nI_clamp, vin_nI, nI_leI, nI_ltI, nI_eq, nI_sub, gd_t, gd_p, lt_v, if_true, if_false, if_pos, if_neg, eL_F, eL_Z, eL_leI, eL_ltI, Option.bind_some, Nat.add_zero, e5, hj, e10, h9]
            by_cases q : jn mx (rd fr) (wb (52 * fr + 13 * x + i)) < sp i
            · rw [if_pos q, Nat.min_eq_right (by omega)]
            · rw [if_neg q, Nat.min_eq_left (by omega)]
          · intro k hk
            simp only [sI_1, sI_2, sA_1, sA_2, sR_1, sR_2, upd_at, sL_1, sL_2, rL_uL, updL_at, if_neg hk]
            exact h2 k hk
          · intro k hk
            simp only [sI_1, sI_2, sA_1, sA_2, sR_1, sR_2, upd_at, sL_1, sL_2, rL_uL, updL_at, if_true]
            by_cases q : k = i
            · subst q; simp
            · rw [if_neg q, h3 k hk]
              congr 1
              by_cases q2 : k < i
              · rw [if_pos q2, if_pos (by omega)]
              · rw [if_neg q2, if_neg (by omega)])
    13 (nI 0, o) ⟨0, rfl, by omega, rfl, rfl, fun _ _ => rfl, fun k hk => by rw [if_neg (by omega)]; exact h10 k hk⟩
  subst q
  exact ⟨t, e, q1, q2, q3⟩
/-- the row that is read and the weights by which it is read -/
def RD (N : Nat) (o : ob) (rd : Nat → Nat) : Prop := (∀ k, k < 13 → rL (o.2 9) k = eL (rd k)) ∧ (∀ k, k < 13 → rd k ≤ 1000000000) ∧ ∀ k, N ≤ k → k < 13 → rd k = 1000000000
def WB (N : Nat) (r : Nat → Int32) (w : Nat → Nat) : Prop := (∀ k, k < 676 → rL r k = eL (w k)) ∧ (∀ k, k < 676 → w k ≤ 1000000000) ∧ ∀ fr x to, fr < 13 → x < 4 → N ≤ to → to < 13 → w (52 * fr + 13 * x + to) = 1000000000
theorem p0_readOn_c (mx : Bool) (N x : Nat) (hN : N ≤ 13) (hx : x < 4) (w rd : Nat → Nat) (o : ob) (h0 : o.1 0 = nI N) (h8 : o.1 8 = mxI mx) (hr : RD N o rd) (hw : WB N (o.2 5) w) (h10 : ∀ k, k < 13 → rL (o.2 10) k = eL 1000000000) (hJ : ∀ fr k, fr < 13 → k < 13 → rd fr < 1000000000 → w (52 * fr + 13 * x + k) < 1000000000 → jn mx (rd fr) (w (52 * fr + 13 * x + k)) < 1000000000) :
    ∃ t, wh (f0_readOn_L25 (nI x)) (0, o) = some (1, t) ∧ t.2.1 = o.1 ∧ (∀ k, k ≠ 10 → t.2.2 k = o.2 k) ∧ ∀ k, k < 13 → rL (t.2.2 10) k = eL (mn (fun fr => jn mx (rd fr) (w (52 * fr + 13 * x + k))) N) := by
  obtain ⟨k, t, e, q, q1, q2, q3⟩ := wh_meas (st := f0_readOn_L25 (nI x)) (fun m z => ∃ i, m = 13 - i ∧ i ≤ N ∧ z.1 = nI i ∧ z.2.1 = o.1 ∧ (∀ k, k ≠ 10 → z.2.2 k = o.2 k) ∧ ∀ k, k < 13 → rL (z.2.2 10) k = eL (mn (fun fr => jn mx (rd fr) (w (52 * fr + 13 * x + k))) i)) (fun k z => k = 0 ∧ z.2.1 = o.1 ∧ (∀ k, k ≠ 10 → z.2.2 k = o.2 k) ∧ ∀ k, k < 13 → rL (z.2.2 10) k = eL (mn (fun fr => jn mx (rd fr) (w (52 * fr + 13 * x + k))) N))
    (by
      rintro m ⟨z1, z2⟩ ⟨i, rfl, hi, rfl, h1, h2, h3⟩
      dsimp only at h1 h2 h3
      unfold f0_readOn_L25
      dsimp only
      rw [h1, h0]
      by_cases hb : i = N
      · subst hb
        refine Or.inl ⟨0, (nI i, z2), ?_, rfl, h1, h2, h3⟩
        rw [if_pos (nI_le (Nat.le_refl _) (by omega))]
      · have e9 : rL (z2.2 9) i = eL (rd i) := by rw [h2 9 (by decide)]; exact hr.1 i (by omega)
        have r9 := hr.2.1 i (by omega)
        by_cases hri : rd i = 1000000000
        · refine Or.inr ⟨13 - (i + 1), (nI (i + 1), z2), by omega, ?_, i + 1, rfl, by omega, rfl, h1, h2, ?_⟩
          · simp (disch := omega) only [nI_lit, nI_add, nI_mul, nI_clamp, vin_nI, nI_leI, nI_ltI, nI_eq, nI_sub, gd_t, gd_p, lt_v, if_true, if_false, if_pos, if_neg, eL_F, eL_Z, eL_leI, eL_ltI, Option.bind_some, e9, hri]
          · intro k hk
            rw [h3 k hk]
            simp only [mn_succ, hri, jn_a (Nat.le_refl _), Nat.min_eq_left (mn_le_FR _ _)]
        · obtain ⟨t, et, t1, t2, t3⟩ := p0_readOn_b mx N i x hN (by omega) hx w rd (fun k => mn (fun fr => jn mx (rd fr) (w (52 * fr + 13 * x + k))) i) z2 (by rw [h1, h0]) (by rw [h1, h8]) e9 (by omega) (by rw [h2 5 (by decide)]; exact hw.1) hw.2.1 h3 (fun k _ => mn_le_FR _ _) (fun k hk hwk => hJ i k (by omega) hk (by omega) hwk)
          refine Or.inr ⟨13 - (i + 1), (nI (i + 1), t.2), by omega, ?_, i + 1, rfl, by omega, rfl, t1.trans h1, fun k hk => (t2 k hk).trans (h2 k hk), ?_⟩
          · have ee : f5_edgeAt (nI i) (nI x) (nI 0) = some (nI (52 * i + 13 * x + 0)) := p5_edgeAt i x 0
            simp (disch := omega) only [nI_lit, nI_add, nI_mul, nI_clamp, vin_nI, nI_leI, nI_ltI, nI_eq, nI_sub, gd_t, gd_p, lt_v, if_true, if_false, if_pos, if_neg, eL_F, eL_Z, eL_leI, eL_ltI, Option.bind_some, e9, ee] at et ⊢
            rw [et]
            rfl
          · intro k hk
            rw [t3 k hk]
            congr 1
            simp only [mn_succ]
            by_cases q : k < N
            · rw [if_pos q]
            · rw [if_neg q, hw.2.2 i x k (by omega) hx (by omega) hk, jn_b (Nat.le_refl _), Nat.min_eq_left (mn_le_FR _ _)])
    13 (nI 0, o) ⟨0, rfl, by omega, rfl, rfl, fun _ _ => rfl, h10⟩
  subst q
  exact ⟨t, e, q1, q2, q3⟩
theorem p0_readOn (mx : Bool) (N x : Nat) (hN : N ≤ 13) (hx : x < 4) (w rd : Nat → Nat) (o : ob) (h0 : o.1 0 = nI N) (h8 : o.1 8 = mxI mx) (hr : RD N o rd) (hw : WB N (o.2 5) w) (hJ : ∀ fr k, fr < 13 → k < 13 → rd fr < 1000000000 → w (52 * fr + 13 * x + k) < 1000000000 → jn mx (rd fr) (w (52 * fr + 13 * x + k)) < 1000000000) :
    ∃ o', f0_readOn (nI x) o = some o' ∧ keep0 o o' ∧ RD N o' (rdm mx w rd x) := by
  obtain ⟨t, e, a1, a2, a3⟩ := p0_readOn_a o
  obtain ⟨t', e', b1, b2, b3⟩ := p0_readOn_c mx N x hN hx w rd t.2 (by rw [a1, h0]) (by rw [a1, h8]) ⟨by rw [a2 9 (by decide)]; exact hr.1, hr.2⟩ ⟨by rw [a2 5 (by decide)]; exact hw.1, hw.2⟩ a3 hJ
  refine ⟨swp t'.2, ?_, ⟨?_, ?_⟩, ?_, ?_, ?_⟩
  · unfold f0_readOn
    rw [e]
    simp only [Option.bind_some]
    rw [e']
    rfl
  · intro k hk
    show va_up t'.2.1 11 _ k = _
    rw [va_up_ne _ _ hk, b1, a1]
  · intro k h1 h2
    show va_up (va_up t'.2.2 9 _) 10 _ k = _
    rw [va_up_ne _ _ h2, va_up_ne _ _ h1, b2 k h2, a2 k h2]
  · intro k hk
    show rL (va_up (va_up t'.2.2 9 (t'.2.2 10)) 10 (t'.2.2 9) 9) k = _
    rw [va_up_ne _ _ (by decide), va_up_self, b3 k hk]
    refine congrArg eL ?_
    have := mn_more (g := fun fr => jn mx (rd fr) (w (52 * fr + 13 * x + k))) (n := N) (13 - N) (fun i h1 h2 => by
      rw [hr.2.2 i h1 (by omega), jn_a (Nat.le_refl _)]; exact Nat.le_refl _)
    rw [show N + (13 - N) = 13 by omega] at this
    exact this.symm
  · intro k _
    exact rdm_le _ _ _ _ _
  · intro k h1 h2
    show mn _ 13 = 1000000000
    have := mn_more (g := fun fr => jn mx (rd fr) (w (52 * fr + 13 * x + k))) (n := 0) 13 (fun i _ h4 => by
      rw [hw.2.2 i x k (by omega) hx h1 h2, jn_b (Nat.le_refl _)]; exact Nat.le_refl _)
    exact this
/-! the reference reads a letter: no edge is -1, and nothing is cut off at 1000000000, so it needs a bound -/
def cd (a : Nat) : Int32 := if 1000000000 ≤ a then -(nI 1) else nI a
theorem cd_lt {a : Nat} (h : a < 1000000000) : cd a = nI a := by unfold cd; rw [if_neg (by omega)]
theorem cd_ge {a : Nat} (h : 1000000000 ≤ a) : cd a = -(nI 1) := by unfold cd; rw [if_pos h]
theorem p6_made (mx : Bool) (b : Nat) (hb : b < 2 ^ 31) (hm : (mx = true) ↔ b = 2) (x y : Nat) (hx : x < 1000000000) (hy : y < 1000000000) : f6_made (nI b) (nI x) (nI y) = some (nI (jn mx x y)) := by
  unfold f6_made
  rw [jn_lt hx hy]
  by_cases q : b = 2
  · have e : mx = true := hm.mpr q
    subst e
    subst q
    by_cases r : x ≤ y
    · simp (disch := omega) only [nI_lit, nI_add, nI_mul, nI_clamp, vin_nI, nI_leI, nI_ltI, nI_eq, nI_sub, gd_t, gd_p, lt_v, if_true, if_false, if_pos, if_neg, if_true, Nat.max_eq_right r]
    · simp (disch := omega) only [nI_lit, nI_add, nI_mul, nI_clamp, vin_nI, nI_leI, nI_ltI, nI_eq, nI_sub, gd_t, gd_p, lt_v, if_true, if_false, if_pos, if_neg, if_true, Nat.max_eq_left (Nat.le_of_not_le r)]
  · have e : mx = false := by
      cases mx with
      | false => rfl
      | true => exact absurd (hm.mp rfl) q
    subst e
    simp (disch := omega) only [nI_lit, nI_add, nI_mul, nI_clamp, vin_nI, nI_leI, nI_ltI, nI_eq, nI_sub, gd_t, gd_p, lt_v, if_true, if_false, if_pos, if_neg, q]
    rfl
theorem p6_lesser (a b : Nat) (hb : b < 1000000000) : f6_lesser (cd a) (nI b) = some (cd (min a b)) := by
  unfold f6_lesser
  by_cases q : 1000000000 ≤ a
  · rw [cd_ge q, Nat.min_eq_right (by omega), cd_lt hb]
    rw [if_pos (by decide)]
  · rw [cd_lt (by omega), cd_lt (Nat.lt_of_le_of_lt (Nat.min_le_right _ _) hb)]
    by_cases r : a ≤ b
    · simp (disch := omega) only [nI_lit, nI_add, nI_mul, nI_clamp, vin_nI, nI_leI, nI_ltI, nI_eq, nI_sub, gd_t, gd_p, lt_v, if_true, if_false, if_pos, if_neg, Nat.min_eq_left r]
    · simp (disch := omega) only [nI_lit, nI_add, nI_mul, nI_clamp, vin_nI, nI_leI, nI_ltI, nI_eq, nI_sub, gd_t, gd_p, lt_v, if_true, if_false, if_pos, if_neg, Nat.min_eq_right (Nat.le_of_not_le r)]
