/-! reading a text: signs, figures, letters, words -/
theorem ob_ext {o o' : ob} (h1 : ∀ k, o.1 k = o'.1 k) (h2 : ∀ k, o.2 k = o'.2 k) : o = o' := Prod.ext (funext h1) (funext h2)
theorem sI_sI (o : ob) (k : Nat) (x y : Int32) : sI (sI o k x) k y = sI o k y := ob_ext (fun j => by
  show (if j = k then y else if j = k then x else o.1 j) = if j = k then y else o.1 j
  by_cases q : j = k
  · rw [if_pos q, if_pos q]
  · rw [if_neg q, if_neg q, if_neg q]) (fun _ => rfl)
theorem sI_self (o : ob) (k : Nat) : sI o k (o.1 k) = o := ob_ext (fun j => by
  show (if j = k then o.1 k else o.1 j) = o.1 j
  by_cases q : j = k
  · rw [if_pos q, q]
  · rw [if_neg q]) (fun _ => rfl)
theorem sI_co (o : ob) {k l : Nat} (h : k ≠ l) (x y : Int32) : sI (sI o k x) l y = sI (sI o l y) k x := ob_ext (fun j => by
  show (if j = l then y else if j = k then x else o.1 j) = if j = k then x else if j = l then y else o.1 j
  by_cases q : j = k
  · rw [if_pos q, if_neg (fun e => h (q.symm.trans e)), if_pos q]
  · rw [if_neg q, if_neg q]) (fun _ => rfl)
theorem sub_ng {a b : Nat} (h : a < b) (hb : b < 2 ^ 31) : nI a - nI b = -(nI (b - a)) := by
  rw [← Int32.neg_sub, nI_sub (by omega)]
/-- the text, L signs -/
def txt (T : Nat → Nat) (L : Nat) : Prop := L ≤ 200 ∧ ∀ i, i < L → 32 ≤ T i ∧ T i ≤ 126
abbrev tS (T : Nat → Nat) (L a c : Nat) : Prop := a < L ∧ T a = c
abbrev tD (T : Nat → Nat) (L a lo hi : Nat) : Prop := a < L ∧ 48 + lo ≤ T a ∧ T a < 48 + hi
abbrev tL (T : Nat → Nat) (L a : Nat) : Prop := a < L ∧ 97 ≤ T a ∧ T a < 101
def trn (T : Nat → Nat) (L : Nat) : Nat → Nat → Nat
  | 0, _ => 0
  | k + 1, a => if tL T L a then trn T L k (a + 1) + 1 else 0
theorem trn_ok (T : Nat → Nat) (L : Nat) : ∀ k a, L ≤ a + k → (∀ j, j < trn T L k a → tL T L (a + j)) ∧ ¬ tL T L (a + trn T L k a)
  | 0, a, h => ⟨fun j hj => absurd hj (Nat.not_lt_zero _), fun q => by have := q.1; show False; simp only [trn] at this; omega⟩
  | k + 1, a, h => by
    by_cases q : tL T L a
    · obtain ⟨h1, h2⟩ := trn_ok T L k (a + 1) (by omega)
      have e : trn T L (k + 1) a = trn T L k (a + 1) + 1 := if_pos q
      rw [e]
      refine ⟨fun j hj => ?_, ?_⟩
      · match j, hj with
        | 0, _ => exact q
        | j + 1, hj =>
          have := h1 j (by omega)
          rw [show a + 1 + j = a + (j + 1) by omega] at this
          exact this
      · rw [show a + 1 + trn T L k (a + 1) = a + (trn T L k (a + 1) + 1) by omega] at h2
        exact h2
    · have e : trn T L (k + 1) a = 0 := if_neg q
      rw [e]
      exact ⟨fun j hj => absurd hj (Nat.not_lt_zero _), q⟩
/-- a word of n letters stands at a -/
def wat (T : Nat → Nat) (L a n : Nat) : Prop := (∀ j, j < n → tL T L (a + j)) ∧ ¬ tL T L (a + n)
def run_ (T : Nat → Nat) (L a : Nat) : Nat := trn T L L a
theorem run_ok (T : Nat → Nat) (L a : Nat) : wat T L a (run_ T L a) := trn_ok T L L a (by omega)
theorem wat_le {T : Nat → Nat} {L a n : Nat} (h : wat T L a n) (ha : a ≤ L) : a + n ≤ L := by
  match n, h with
  | 0, _ => exact ha
  | n + 1, h => have := (h.1 n (by omega)).1; omega
/-- the class's reader at a place -/
def at_3 (sc : ob) (a : Nat) : ob := sI sc 2 (nI a)
def tx_3 (sc : ob) (T : Nat → Nat) (L : Nat) : Prop := sc.1 1 = nI L ∧ ∀ i, i < L → sc.2 0 i = nI (T i)
def sf_3 (sc sc' : ob) : Prop := sc'.1 = sc.1 ∧ ∀ k, k ≠ 3 → sc'.2 k = sc.2 k
theorem sf_3.tx {sc sc' : ob} {T : Nat → Nat} {L : Nat} (h : sf_3 sc sc') (t : tx_3 sc T L) : tx_3 sc' T L := ⟨by rw [h.1]; exact t.1, fun i hi => by rw [h.2 0 (by decide)]; exact t.2 i hi⟩
theorem sf_3.rf (sc : ob) : sf_3 sc sc := ⟨rfl, fun _ _ => rfl⟩
theorem sf_3.tr {a b c : ob} (h : sf_3 a b) (k : sf_3 b c) : sf_3 a c := ⟨k.1.trans h.1, fun j hj => (k.2 j hj).trans (h.2 j hj)⟩
theorem at_31 (sc : ob) (a : Nat) : (at_3 sc a).1 1 = sc.1 1 := rfl
theorem at_32 (sc : ob) (a : Nat) : (at_3 sc a).1 2 = nI a := rfl
theorem at_3r (sc : ob) (a : Nat) : (at_3 sc a).2 = sc.2 := rfl
theorem at_3s (sc : ob) (a : Nat) : sI (at_3 sc a) 2 (nI a + 1) = at_3 sc (a + 1) := by
  unfold at_3
  rw [sI_sI, nI_1]
theorem p3_end {T : Nat → Nat} {L a : Nat} (hT : txt T L) {sc : ob} (h : tx_3 sc T L) (ha : a ≤ L) : ((at_3 sc a).1 1 ≤ (at_3 sc a).1 2 ↔ a = L) := by
  have hl := hT.1
  rw [at_31, at_32, h.1, nI_leI (by omega) (by omega)]
  omega
theorem p3_sign_y {T : Nat → Nat} {L a c : Nat} (hT : txt T L) {sc : ob} (h : tx_3 sc T L) (q : tS T L a c) : f3_readSign (nI c) (at_3 sc a) = some (1, at_3 sc (a + 1)) := by
  have hl := hT.1
  unfold f3_readSign
  rw [if_neg (fun e => by have := (p3_end hT h (by omega)).mp e; omega), at_32, vin_nI (by omega), gd_p (show a < 200 by omega), nI_clamp (by omega), at_3r, h.2 a q.1, q.2, if_pos rfl, at_3s]
  rfl
theorem p3_sign_n {T : Nat → Nat} {L a c : Nat} (hT : txt T L) {sc : ob} (h : tx_3 sc T L) (ha : a ≤ L) (hc : c < 200) (q : ¬ tS T L a c) : f3_readSign (nI c) (at_3 sc a) = some (0, at_3 sc a) := by
  have hl := hT.1
  unfold f3_readSign
  by_cases e : a = L
  · rw [if_pos ((p3_end hT h ha).mpr e)]
  · have hi := hT.2 a (by omega)
    rw [if_neg (fun e2 => e ((p3_end hT h ha).mp e2)), at_32, vin_nI (by omega), gd_p (show a < 200 by omega), nI_clamp (by omega), at_3r, h.2 a (by omega), if_neg (fun e2 => q ⟨by omega, (nI_eq (by omega) (by omega)).mp e2⟩)]
theorem p3_digit_y {T : Nat → Nat} {L a hi : Nat} (hT : txt T L) {sc : ob} (h : tx_3 sc T L) (hh : hi ≤ 10) (q : tD T L a 0 hi) : f3_readDigit (nI hi) (at_3 sc a) = some (nI (T a - 48), at_3 sc (a + 1)) := by
  have hl := hT.1
  have ht := hT.2 a q.1
  unfold f3_readDigit
  rw [if_neg (fun e => by have := (p3_end hT h (by omega)).mp e; omega), at_32, vin_nI (by omega), gd_p (show a < 200 by omega), gd_p (show a < 200 by omega), gd_p (show a < 200 by omega), nI_clamp (by omega), at_3r, h.2 a q.1, if_neg (show ¬ nI (T a) < 48 from nI_nlt (a := T a) (b := 48) (by omega) (by omega)), show (48 : Int32) = nI 48 from rfl, nI_sub (by omega), if_pos (nI_lt (by omega) (by omega)), at_3s]
  rfl
theorem p3_digit_n {T : Nat → Nat} {L a hi : Nat} (hT : txt T L) {sc : ob} (h : tx_3 sc T L) (ha : a ≤ L) (hh : hi ≤ 10) (q : ¬ tD T L a 0 hi) : f3_readDigit (nI hi) (at_3 sc a) = some (-1, at_3 sc a) := by
  have hl := hT.1
  unfold f3_readDigit
  by_cases e : a = L
  · rw [if_pos ((p3_end hT h ha).mpr e)]
  · have ht := hT.2 a (by omega)
    rw [if_neg (fun e2 => e ((p3_end hT h ha).mp e2)), at_32, vin_nI (by omega), gd_p (show a < 200 by omega), gd_p (show a < 200 by omega), gd_p (show a < 200 by omega), nI_clamp (by omega), at_3r, h.2 a (by omega)]
    by_cases q1 : T a < 48
    · rw [if_pos (show nI (T a) < 48 from nI_lt (a := T a) (b := 48) q1 (by decide))]
    · rw [if_neg (show ¬ nI (T a) < 48 from nI_nlt (a := T a) (b := 48) (by omega) (by omega)), show (48 : Int32) = nI 48 from rfl, nI_sub (by omega), if_neg (nI_nlt (by omega) (by omega))]
theorem p3_letter_y {T : Nat → Nat} {L a : Nat} (hT : txt T L) {sc : ob} (h : tx_3 sc T L) (q : tL T L a) : f3_readLetter (at_3 sc a) = some (nI (T a - 97), at_3 sc (a + 1)) := by
  have hl := hT.1
  have ht := hT.2 a q.1
  unfold f3_readLetter
  rw [if_neg (fun e => by have := (p3_end hT h (by omega)).mp e; omega), at_32, vin_nI (by omega), gd_p (show a < 200 by omega), gd_p (show a < 200 by omega), gd_p (show a < 200 by omega), nI_clamp (by omega), at_3r, h.2 a q.1, if_neg (show ¬ nI (T a) < 97 from nI_nlt (a := T a) (b := 97) (by omega) (by omega)), show (97 : Int32) = nI 97 from rfl, nI_sub (by omega), if_pos (show nI (T a - 97) < 4 from nI_lt (b := 4) (by omega) (by decide)), at_3s]
  rfl
theorem p3_letter_n {T : Nat → Nat} {L a : Nat} (hT : txt T L) {sc : ob} (h : tx_3 sc T L) (ha : a ≤ L) (q : ¬ tL T L a) : f3_readLetter (at_3 sc a) = some (-1, at_3 sc a) := by
  have hl := hT.1
  unfold f3_readLetter
  by_cases e : a = L
  · rw [if_pos ((p3_end hT h ha).mpr e)]
  · have ht := hT.2 a (by omega)
    rw [if_neg (fun e2 => e ((p3_end hT h ha).mp e2)), at_32, vin_nI (by omega), gd_p (show a < 200 by omega), gd_p (show a < 200 by omega), gd_p (show a < 200 by omega), nI_clamp (by omega), at_3r, h.2 a (by omega)]
    by_cases q1 : T a < 97
    · rw [if_pos (show nI (T a) < 97 from nI_lt (a := T a) (b := 97) q1 (by decide))]
    · rw [if_neg (show ¬ nI (T a) < 97 from nI_nlt (a := T a) (b := 97) (by omega) (by omega)), show (97 : Int32) = nI 97 from rfl, nI_sub (by omega), if_neg (show ¬ nI (T a - 97) < 4 from nI_nlt (b := 4) (by omega) (by omega))]
theorem p3_word {T : Nat → Nat} {L a n most : Nat} (hT : txt T L) {sc : ob} (h : tx_3 sc T L) (ha : a ≤ L) (hw : wat T L a n) (hm : most ≤ 6) : ∃ sc', sf_3 sc sc' ∧ (∀ j, j < n → j < most → sc'.2 3 j = nI (T (a + j) - 97)) ∧ f3_readWord (nI most) (at_3 sc a) = some (nI (if n ≤ most then n else most), at_3 sc' (a + if n ≤ most then n else most)) := by
  have hl := hT.1
  have hn := wat_le hw ha
  obtain ⟨k, t, e, i, sc', hk, hi1, hi2, he, r1, r2, r3⟩ := wh_meas (st := f3_readWord_L4 (nI most)) (fun mm z => ∃ i sc', mm = most - i ∧ i ≤ most ∧ i ≤ n ∧ z = (nI i, nI i, at_3 sc' (a + i)) ∧ sf_3 sc sc' ∧ ∀ j, j < i → sc'.2 3 j = nI (T (a + j) - 97))
    (fun k z => ∃ i sc', (k = 0 ∨ k = 1) ∧ i ≤ most ∧ i ≤ n ∧ z = (nI i, nI i, at_3 sc' (a + i)) ∧ sf_3 sc sc' ∧ (∀ j, j < i → sc'.2 3 j = nI (T (a + j) - 97)) ∧ (i = n ∨ i = most))
    (by
      rintro mm z ⟨i, sc', rfl, h1, h2, rfl, h3, h4⟩
      by_cases q : i = most
      · refine Or.inl ⟨1, _, ?_, i, sc', Or.inr rfl, h1, h2, rfl, h3, h4, Or.inr q⟩
        unfold f3_readWord_L4
        dsimp only
        rw [if_pos (nI_le (by omega) (by omega))]
      · have e0 : ∀ w, f3_readLetter (at_3 sc' (a + i)) = some w → f3_readWord_L4 (nI most) (nI i, nI i, at_3 sc' (a + i)) = (if 0 ≤ w.1 then (gd (vin (nI i) 6) <| lt (sA w.2 3 (nI i).toNatClampNeg w.1) fun t7 => lt (nI i + 1) fun y8 => lt (nI i + 1) fun y9 => some (0, (y8, y9, t7))) else (some (1, (nI i, nI i, w.2)))) := by
          intro w hw
          unfold f3_readWord_L4
          dsimp only
          rw [if_neg (nI_ge (by omega) (by omega)), if_neg (show ¬ (6 : Int32) ≤ nI i from nI_ge (a := i) (b := 6) (by omega) (by decide)), hw]
          rfl
        by_cases q2 : i = n
        · refine Or.inl ⟨0, _, ?_, i, sc', Or.inl rfl, h1, h2, rfl, h3, h4, Or.inl q2⟩
          rw [e0 _ (p3_letter_n hT (h3.tx h) (by omega) (by rw [q2]; exact hw.2)), if_neg (show ¬ (0 : Int32) ≤ -1 by decide)]
        · have hL := hw.1 i (by omega)
          refine Or.inr ⟨most - (i + 1), (nI (i + 1), nI (i + 1), at_3 (sA sc' 3 i (nI (T (a + i) - 97))) (a + i + 1)), by omega, ?_, i + 1, sA sc' 3 i (nI (T (a + i) - 97)), rfl, by omega, by omega, rfl, h3.tr ⟨rfl, fun k hk => by simp only [sI_1, sI_2, sA_1, sA_2, sR_1, sR_2, upd_at, sL_1, sL_2, rL_uL, updL_at, if_neg hk]⟩, fun j hj => ?_⟩
          · have hb := hT.2 (a + i) hL.1
            rw [e0 _ (p3_letter_y hT (h3.tx h) hL), if_pos (show (0 : Int32) ≤ nI (T (a + i) - 97) from nI_le (a := 0) (by omega) (by omega)), vin_nI (by omega), gd_p (show i < 6 by omega), nI_clamp (by omega)]
            simp only [lt_v, nI_1]
            rfl
          · show (if j = i then nI (T (a + i) - 97) else sc'.2 3 j) = _
            by_cases qj : j = i
            · rw [if_pos qj, qj]
            · rw [if_neg qj]; exact h4 j (by omega))
    most (nI 0, nI 0, at_3 sc a) ⟨0, sc, rfl, by omega, by omega, rfl, sf_3.rf sc, fun _ hj => absurd hj (Nat.not_lt_zero _)⟩
  refine ⟨sc', r1, fun j j1 j2 => r2 j (by omega), ?_⟩
  have ei : i = if n ≤ most then n else most := by split <;> omega
  have e : wh (f3_readWord_L4 (nI most)) (0, 0, at_3 sc a) = some (k + 1, t) := e
  unfold f3_readWord
  rw [e, he]
  simp only [Option.bind_some]
  rw [ite_self, ← ei]
