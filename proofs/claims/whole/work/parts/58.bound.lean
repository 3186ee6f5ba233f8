/-! no weight comes near 1000000000 -/
def ctr (f : Nat → Bool) : Nat → Nat
  | 0 => 0
  | n + 1 => if f n = true then ctr f n + 1 else ctr f n
theorem ctr_s (f : Nat → Bool) (n : Nat) : ctr f (n + 1) = if f n = true then ctr f n + 1 else ctr f n := rfl
theorem ctr_mono {f h : Nat → Bool} : ∀ {n : Nat}, (∀ r, r < n → f r = true → h r = true) → ctr f n ≤ ctr h n
  | 0, _ => Nat.le_refl _
  | n + 1, e => by
    have ih := ctr_mono (n := n) (fun r hr => e r (by omega))
    have en := e n (by omega)
    rw [ctr_s, ctr_s]
    by_cases q : f n = true
    · rw [if_pos q, if_pos (en q)]; omega
    · rw [if_neg q]; split <;> omega
theorem ctr_strict {f h : Nat → Bool} : ∀ {n r : Nat}, (∀ r, r < n → f r = true → h r = true) → r < n → f r = false → h r = true → ctr f n + 1 ≤ ctr h n
  | n + 1, r, e, hr, h1, h2 => by
    have en := e n (by omega)
    rw [ctr_s, ctr_s]
    by_cases q : r = n
    · subst q
      have ih := ctr_mono (n := r) (fun k hk => e k (by omega))
      rw [if_pos h2, if_neg (by rw [h1]; decide)]; omega
    · have ih := ctr_strict (n := n) (r := r) (fun k hk => e k (by omega)) (by omega) h1 h2
      by_cases q : f n = true
      · rw [if_pos q, if_pos (en q)]; omega
      · rw [if_neg q]; split <;> omega
theorem ctr_pos {f : Nat → Bool} {n r : Nat} (hr : r < n) (h : f r = true) : 1 ≤ ctr f n := by
  have := ctr_strict (f := fun _ => false) (h := f) (n := n) (r := r) (fun _ _ q => absurd q (by decide)) hr rfl h
  omega
theorem ctr_ex {f : Nat → Bool} : ∀ {n : Nat}, 1 ≤ ctr f n → ∃ r, r < n ∧ f r = true
  | 0, h => absurd h (by show ¬ 1 ≤ 0; omega)
  | n + 1, h => by
    rw [ctr_s] at h
    by_cases q : f n = true
    · exact ⟨n, by omega, q⟩
    · rw [if_neg q] at h
      obtain ⟨r, h1, h2⟩ := ctr_ex h
      exact ⟨r, by omega, h2⟩
def oo (g : nb) (R : Nat) : Nat := ctr (fun r => decide (g.2 5 r ≠ 0)) R
def qq (g : nb) (R s : Nat) : Nat := ctr (fun r => decide (g.2 5 r = 0 ∧ g.2 4 r = s)) R
def nS (g : nb) (R : Nat) (w : Nat → Nat) (s : Nat) : Nat := ctr (fun r => decide (g.2 5 r ≠ 0 ∧ w (bse g r + s) < 1000000000)) R
theorem nS_le (g : nb) (R : Nat) (w : Nat → Nat) (s : Nat) : nS g R w s ≤ oo g R := ctr_mono (fun r _ h => by
  have h := of_decide_eq_true h
  exact decide_eq_true h.1)
theorem oq_le (g : nb) : ∀ R, oo g R + qq g R 0 + qq g R 1 + qq g R 2 ≤ R
  | 0 => Nat.le_refl _
  | R + 1 => by
    have ih := oq_le g R
    unfold oo qq at ih ⊢
    rw [ctr_s, ctr_s, ctr_s, ctr_s]
    simp only [decide_eq_true_eq]
    by_cases q : g.2 5 R = 0
    · rw [if_neg (fun h => h q)]
      by_cases a0 : g.2 4 R = 0
      · rw [if_pos ⟨q, a0⟩, if_neg (by omega), if_neg (by omega)]; omega
      · by_cases a1 : g.2 4 R = 1
        · rw [if_neg (by omega), if_pos ⟨q, a1⟩, if_neg (by omega)]; omega
        · by_cases a2 : g.2 4 R = 2
          · rw [if_neg (by omega), if_neg (by omega), if_pos ⟨q, a2⟩]; omega
          · rw [if_neg (by omega), if_neg (by omega), if_neg (by omega)]; omega
    · rw [if_pos q, if_neg (by omega), if_neg (by omega), if_neg (by omega)]; omega
theorem nS_mono {g : nb} {R s : Nat} {w w' : Nat → Nat} (h : ∀ k, w' k ≤ w k) : nS g R w s ≤ nS g R w' s := ctr_mono (fun r _ q => by
  have q := of_decide_eq_true q
  exact decide_eq_true ⟨q.1, Nat.lt_of_le_of_lt (h _) q.2⟩)
theorem nS_new {g : nb} {R s r : Nat} {w w' : Nat → Nat} (h : ∀ k, w' k ≤ w k) (hr : r < R) (h5 : g.2 5 r ≠ 0) (h1 : 1000000000 ≤ w (bse g r + s)) (h2 : w' (bse g r + s) < 1000000000) : nS g R w s + 1 ≤ nS g R w' s :=
  ctr_strict (r := r) (fun r _ q => by
    have q := of_decide_eq_true q
    exact decide_eq_true ⟨q.1, Nat.lt_of_le_of_lt (h _) q.2⟩) hr (decide_eq_false (fun q => by omega)) (decide_eq_true ⟨h5, h2⟩)
/-! the potential -/
def fzz (a : Nat → Nat) : Nat := min (a 0) 1 + min (a 1) 1 + min (a 2) 1
def dzz (a : Nat → Nat) : Nat := (a 0 - 1) + (a 1 - 1) + (a 2 - 1)
def Ph (c : Nat) (a : Nat → Nat) : Nat := c * (3 + 2 * fzz a) * 2 ^ dzz a
theorem Ph_mono {c : Nat} {a b : Nat → Nat} (h : ∀ s, s < 3 → a s ≤ b s) : Ph c a ≤ Ph c b := by
  have h0 := h 0 (by omega)
  have h1 := h 1 (by omega)
  have h2 := h 2 (by omega)
  refine Nat.mul_le_mul (Nat.mul_le_mul_left c ?_) (Nat.pow_le_pow_right (by omega) ?_)
  · unfold fzz; omega
  · unfold dzz; omega
theorem Ph_ge (c : Nat) (a : Nat → Nat) : 3 * c ≤ Ph c a := by
  have h1 : 1 ≤ 2 ^ dzz a := Nat.one_le_two_pow
  have h2 : c * 3 ≤ c * (3 + 2 * fzz a) := Nat.mul_le_mul_left c (by omega)
  have h3 : c * (3 + 2 * fzz a) * 1 ≤ Ph c a := Nat.mul_le_mul_left _ h1
  omega
theorem Ph_dbl {c s : Nat} {a b : Nat → Nat} (hs : s < 3) (h : ∀ s, s < 3 → a s ≤ b s) (h1 : a s + 1 ≤ b s) (h2 : 1 ≤ a s) : 2 * Ph c a ≤ Ph c b := by
  have k0 := h 0 (by omega)
  have k1 := h 1 (by omega)
  have k2 := h 2 (by omega)
  have hf : fzz a ≤ fzz b := by unfold fzz; omega
  have hd : dzz a + 1 ≤ dzz b := by
    unfold dzz
    rcases (show s = 0 ∨ s = 1 ∨ s = 2 by omega) with e | e | e <;> subst e <;> omega
  have e1 : c * (3 + 2 * fzz a) * 2 ^ (dzz a + 1) ≤ Ph c b := Nat.mul_le_mul (Nat.mul_le_mul_left c (by omega)) (Nat.pow_le_pow_right (by omega) hd)
  rw [Nat.pow_succ, ← Nat.mul_assoc] at e1
  unfold Ph at e1 ⊢
  omega
theorem Ph_add {c s : Nat} {a b : Nat → Nat} (hs : s < 3) (h : ∀ s, s < 3 → a s ≤ b s) (h1 : a s + 1 ≤ b s) (h2 : a s = 0) : Ph c a + 2 * c ≤ Ph c b := by
  have k0 := h 0 (by omega)
  have k1 := h 1 (by omega)
  have k2 := h 2 (by omega)
  have hf : fzz a + 1 ≤ fzz b := by
    unfold fzz
    rcases (show s = 0 ∨ s = 1 ∨ s = 2 by omega) with e | e | e <;> subst e <;> omega
  have hd : dzz a ≤ dzz b := by unfold dzz; omega
  have e1 : c * (3 + 2 * fzz a + 2) * 2 ^ dzz a ≤ Ph c b := Nat.mul_le_mul (Nat.mul_le_mul_left c (by omega)) (Nat.pow_le_pow_right (by omega) hd)
  have e2 : c * (3 + 2 * fzz a + 2) * 2 ^ dzz a = Ph c a + c * 2 * 2 ^ dzz a := by
    unfold Ph
    rw [Nat.mul_add c _ 2, Nat.add_mul]
  have e3 : c * 2 * 1 ≤ c * 2 * 2 ^ dzz a := Nat.mul_le_mul_left _ Nat.one_le_two_pow
  omega
theorem Ph_top {c o R q0 q1 q2 : Nat} {a : Nat → Nat} (hR : R ≤ 10) (ho : o + q0 + q1 + q2 ≤ R) (h : ∀ s, s < 3 → a s ≤ o) (h0 : 1 ≤ a 0 → 1 ≤ q0) (h1 : 1 ≤ a 1 → 1 ≤ q1) (h2 : 1 ≤ a 2 → 1 ≤ q2) : Ph c a ≤ if o ≤ 7 then c * 2359296 else c * 114688 := by
  have k0 := h 0 (by omega)
  have k1 := h 1 (by omega)
  have k2 := h 2 (by omega)
  have t : ∀ x y, fzz a ≤ x → dzz a ≤ y → Ph c a ≤ c * (3 + 2 * x) * 2 ^ y := fun x y hx hy => Nat.mul_le_mul (Nat.mul_le_mul_left c (by omega)) (Nat.pow_le_pow_right (by omega) hy)
  by_cases q3 : fzz a = 3
  · have a0 : 1 ≤ a 0 := by unfold fzz at q3; omega
    have a1 : 1 ≤ a 1 := by unfold fzz at q3; omega
    have a2 : 1 ≤ a 2 := by unfold fzz at q3; omega
    have b0 := h0 a0
    have b1 := h1 a1
    have b2 := h2 a2
    have e := t 3 18 (by omega) (by unfold dzz; omega)
    rw [if_pos (by omega)]
    rw [Nat.mul_assoc, show (3 + 2 * 3) * 2 ^ 18 = 2359296 from rfl] at e
    exact e
  · have hf : fzz a ≤ 2 := by unfold fzz at q3 ⊢; omega
    have hb : dzz a ≤ 14 := by
      unfold fzz at hf
      unfold dzz
      rcases (show a 0 = 0 ∨ a 1 = 0 ∨ a 2 = 0 by omega) with e | e | e
      · by_cases x1 : 1 ≤ a 1
        · have := h1 x1
          by_cases x2 : 1 ≤ a 2
          · have := h2 x2; omega
          · omega
        · omega
      · by_cases x1 : 1 ≤ a 0
        · have := h0 x1
          by_cases x2 : 1 ≤ a 2
          · have := h2 x2; omega
          · omega
        · omega
      · by_cases x1 : 1 ≤ a 0
        · have := h0 x1
          by_cases x2 : 1 ≤ a 1
          · have := h1 x2; omega
          · omega
        · omega
    have e := t 2 14 hf hb
    rw [Nat.mul_assoc, show (3 + 2 * 2) * 2 ^ 14 = 114688 from rfl] at e
    split
    · exact Nat.le_trans e (Nat.mul_le_mul_left c (by omega))
    · exact e
