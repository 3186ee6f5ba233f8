/-! sets as bits -/
theorem nI_or (a b : Nat) : nI a ||| nI b = nI (a ||| b) := by
  apply Int32.toBitVec_inj.mp
  rw [Int32.toBitVec_or]
  show BitVec.ofNat 32 a ||| BitVec.ofNat 32 b = BitVec.ofNat 32 (a ||| b)
  apply BitVec.eq_of_getLsbD_eq
  intro i hi
  simp only [BitVec.getLsbD_or, BitVec.getLsbD_ofNat, Nat.testBit_or, hi, decide_true, Bool.true_and]
theorem shr_12 (x : Int32) : ∀ h, h < 12 → x >>> (nI h &&& 31) = Int32.ofBitVec (x.toBitVec.sshiftRight h) := by
  intro h hh
  rcases (show h = 0 ∨ h = 1 ∨ h = 2 ∨ h = 3 ∨ h = 4 ∨ h = 5 ∨ h = 6 ∨ h = 7 ∨ h = 8 ∨ h = 9 ∨ h = 10 ∨ h = 11 by omega) with e | e | e | e | e | e | e | e | e | e | e | e <;> subst e <;> rfl
theorem tst {a h : Nat} (hh : h < 12) : ((nI a >>> (nI h &&& 31)) &&& 1) = if a.testBit h = true then nI 1 else nI 0 := by
  rw [shr_12 _ h hh]
  apply Int32.toBitVec_inj.mp
  rw [Int32.toBitVec_and]
  show ((BitVec.ofNat 32 a).sshiftRight h) &&& 1#32 = _
  have key : ∀ i, i < 32 → (((BitVec.ofNat 32 a).sshiftRight h) &&& 1#32).getLsbD i = (decide (i = 0) && a.testBit h) := by
    intro i hi
    rw [BitVec.getLsbD_and, BitVec.getLsbD_sshiftRight]
    by_cases q : i = 0
    · subst q
      rw [if_pos (by omega), BitVec.getLsbD_ofNat]
      simp
      omega
    · have : (1#32).getLsbD i = false := by
        rw [BitVec.getLsbD_ofNat]
        have : Nat.testBit 1 i = false := by
          cases i with
          | zero => exact absurd rfl q
          | succ i => rw [Nat.testBit_succ]; simp
        rw [this, Bool.and_false]
      rw [this, Bool.and_false]
      simp [q]
  apply BitVec.eq_of_getLsbD_eq
  intro i hi
  rw [key i hi]
  by_cases q : a.testBit h = true
  · rw [if_pos q, q]
    show _ = (1#32).getLsbD i
    rw [BitVec.getLsbD_ofNat]
    cases i with
    | zero => rfl
    | succ i => rw [Nat.testBit_succ]; simp
  · rw [if_neg q]
    have q : a.testBit h = false := by simpa using q
    rw [q, Bool.and_false]
    show false = (0#32).getLsbD i
    rw [BitVec.getLsbD_zero]
theorem shl_12 : ∀ h, h < 12 → (1 : Int32) <<< (nI h &&& 31) = nI (2 ^ h) := by decide
theorem tb_pow (n i : Nat) : (2 ^ n).testBit i = decide (n = i) := Nat.testBit_two_pow
theorem or_lt {a b n : Nat} (ha : a < 2 ^ n) (hb : b < 2 ^ n) : a ||| b < 2 ^ n := Nat.or_lt_two_pow ha hb
/-- the union, over the states of a set, of the sets of a row -/
def afl (f : Nat → Nat) (a x : Nat) : Nat → Nat
  | 0 => 0
  | p + 1 => if a.testBit p = true then afl f a x p ||| f (4 * p + x) else afl f a x p
theorem afl_lt {f : Nat → Nat} (hf : ∀ h, h < 12 → f h < 8) {a x : Nat} (hx : x < 4) : ∀ n, n ≤ 3 → afl f a x n < 8
  | 0, _ => by show 0 < 8; omega
  | n + 1, hn => by
    have ih := afl_lt hf (a := a) hx n (by omega)
    show (if a.testBit n = true then afl f a x n ||| f (4 * n + x) else afl f a x n) < 8
    split
    · exact or_lt (n := 3) ih (hf _ (by omega))
    · exact ih
theorem afl_b {f : Nat → Nat} {a x s : Nat} : ∀ n, (afl f a x n).testBit s = true ↔ ∃ p, p < n ∧ a.testBit p = true ∧ (f (4 * p + x)).testBit s = true
  | 0 => by
    show (0 : Nat).testBit s = true ↔ _
    rw [Nat.zero_testBit]
    exact ⟨fun h => Bool.noConfusion h, fun ⟨p, h, _⟩ => absurd h (by omega)⟩
  | n + 1 => by
    have ih := afl_b (f := f) (a := a) (x := x) (s := s) n
    show (if a.testBit n = true then afl f a x n ||| f (4 * n + x) else afl f a x n).testBit s = true ↔ _
    by_cases q : a.testBit n = true
    · rw [if_pos q, Nat.testBit_or, Bool.or_eq_true, ih]
      constructor
      · rintro (⟨p, h1, h2, h3⟩ | h)
        · exact ⟨p, by omega, h2, h3⟩
        · exact ⟨n, by omega, q, h⟩
      · rintro ⟨p, h1, h2, h3⟩
        by_cases e : p = n
        · subst e; exact Or.inr h3
        · exact Or.inl ⟨p, by omega, h2, h3⟩
    · rw [if_neg q, ih]
      constructor
      · rintro ⟨p, h1, h2, h3⟩; exact ⟨p, by omega, h2, h3⟩
      · rintro ⟨p, h1, h2, h3⟩
        by_cases e : p = n
        · subst e; exact absurd h2 q
        · exact ⟨p, by omega, h2, h3⟩
theorem p1_afterLetter (f : Nat → Nat) (a x : Nat) (hx : x < 4) (o : ob) (h0 : ∀ h, h < 12 → o.2 0 h = nI (f h)) : f1_afterLetter (nI a) (nI x) o = some (nI (afl f a x 3)) := by
  obtain ⟨v, e, hv⟩ := wh_fr (st := f1_afterLetter_L5 (nI a) (nI x) o) (fun i (b : Int32) => (b, nI i)) 3 (fun i v => v = nI (afl f a x i)) (b0 := nI 0) rfl
    (by
      intro v _
      unfold f1_afterLetter_L5
      dsimp only
      rw [if_pos (by decide)])
    (by
      rintro i v hi rfl
      refine ⟨_, ?_, rfl⟩
      have e4 : nI i * 4 + nI x = nI (4 * i + x) := by
        rw [show (4 : Int32) = nI 4 from rfl, nI_mul, nI_add]
        exact congrArg nI (by omega)
      have ea : afl f a x (i + 1) = if a.testBit i = true then afl f a x i ||| f (4 * i + x) else afl f a x i := rfl
      unfold f1_afterLetter_L5
      dsimp only
      rw [if_neg (show ¬ (3 : Int32) ≤ nI i from nI_ge (a := i) (b := 3) hi (by decide)), tst (by omega), e4, ea]
      by_cases q : a.testBit i = true
      · rw [if_pos q, if_pos q, if_pos (show nI 1 = (1 : Int32) from rfl), vin_nI (by omega), gd_p (show 4 * i + x < 12 by omega), nI_clamp (by omega), h0 _ (by omega), nI_or]
        simp only [lt_v, Option.bind_some, nI_1]
      · rw [if_neg q, if_neg q, if_neg (show ¬ nI 0 = (1 : Int32) by decide)]
        simp only [lt_v, Option.bind_some, nI_1])
  unfold f1_afterLetter
  have e : wh (f1_afterLetter_L5 (nI a) (nI x) o) (0, 0) = some (1, (v, nI 3)) := e
  rw [e, hv]
  simp only [Option.bind_some]
/-- the heads of a letter -/
def hdo (a x : Nat) : Nat → Nat
  | 0 => 0
  | p + 1 => if a.testBit p = true then hdo a x p ||| 2 ^ (4 * p + x) else hdo a x p
theorem hdo_lt {a x : Nat} (hx : x < 4) : ∀ n, n ≤ 3 → hdo a x n < 2 ^ 12
  | 0, _ => by show 0 < 2 ^ 12; decide
  | n + 1, hn => by
    have ih := hdo_lt (a := a) hx n (by omega)
    show (if a.testBit n = true then hdo a x n ||| 2 ^ (4 * n + x) else hdo a x n) < 2 ^ 12
    split
    · exact or_lt ih (Nat.pow_lt_pow_right (by omega) (by omega))
    · exact ih
theorem hdo_b {a x k : Nat} : ∀ n, (hdo a x n).testBit k = true ↔ ∃ p, p < n ∧ a.testBit p = true ∧ 4 * p + x = k
  | 0 => by
    show (0 : Nat).testBit k = true ↔ _
    rw [Nat.zero_testBit]
    exact ⟨fun h => Bool.noConfusion h, fun ⟨p, h, _⟩ => absurd h (by omega)⟩
  | n + 1 => by
    have ih := hdo_b (a := a) (x := x) (k := k) n
    show (if a.testBit n = true then hdo a x n ||| 2 ^ (4 * n + x) else hdo a x n).testBit k = true ↔ _
    by_cases q : a.testBit n = true
    · rw [if_pos q, Nat.testBit_or, Bool.or_eq_true, ih, tb_pow, decide_eq_true_eq]
      constructor
      · rintro (⟨p, h1, h2, h3⟩ | h)
        · exact ⟨p, by omega, h2, h3⟩
        · exact ⟨n, by omega, q, h⟩
      · rintro ⟨p, h1, h2, h3⟩
        by_cases e : p = n
        · subst e; exact Or.inr h3
        · exact Or.inl ⟨p, by omega, h2, h3⟩
    · rw [if_neg q, ih]
      constructor
      · rintro ⟨p, h1, h2, h3⟩; exact ⟨p, by omega, h2, h3⟩
      · rintro ⟨p, h1, h2, h3⟩
        by_cases e : p = n
        · subst e; exact absurd h2 q
        · exact ⟨p, by omega, h2, h3⟩
theorem p1_headsOf (a x : Nat) (hx : x < 4) : f1_headsOf (nI a) (nI x) = some (nI (hdo a x 3)) := by
  obtain ⟨v, e, hv⟩ := wh_fr (st := f1_headsOf_L4 (nI a) (nI x)) (fun i (b : Int32) => (b, nI i)) 3 (fun i v => v = nI (hdo a x i)) (b0 := nI 0) rfl
    (by
      intro v _
      unfold f1_headsOf_L4
      dsimp only
      rw [if_pos (by decide)])
    (by
      rintro i v hi rfl
      refine ⟨_, ?_, rfl⟩
      have e4 : nI i * 4 + nI x = nI (4 * i + x) := by
        rw [show (4 : Int32) = nI 4 from rfl, nI_mul, nI_add]
        exact congrArg nI (by omega)
      have ea : hdo a x (i + 1) = if a.testBit i = true then hdo a x i ||| 2 ^ (4 * i + x) else hdo a x i := rfl
      unfold f1_headsOf_L4
      dsimp only
      rw [if_neg (show ¬ (3 : Int32) ≤ nI i from nI_ge (a := i) (b := 3) hi (by decide)), tst (by omega), e4, ea]
      by_cases q : a.testBit i = true
      · rw [if_pos q, if_pos q, if_pos (show nI 1 = (1 : Int32) from rfl), shl_12 _ (by omega), nI_or]
        simp only [lt_v, Option.bind_some, nI_1]
      · rw [if_neg q, if_neg q, if_neg (show ¬ nI 0 = (1 : Int32) by decide)]
        simp only [lt_v, Option.bind_some, nI_1])
  unfold f1_headsOf
  have e : wh (f1_headsOf_L4 (nI a) (nI x)) (0, 0) = some (1, (v, nI 3)) := e
  rw [e, hv]
  simp only [Option.bind_some]
/-! what a letter can be gone to -/
/-- a word goes by, as a set of pops says -/
def GN (P : Nat → Nat → Nat → Prop) (q w s : Nat) : Prop := match lw w with
  | [] => q = s
  | [x] => P q x s
  | x :: y :: _ => ∃ t, t < 3 ∧ P q x t ∧ P t y s
def CLO (g : nb) (P : Nat → Nat → Nat → Prop) : Prop := ∀ r, r < g.1 1 → ∀ s, s < 3 → GN P (g.2 4 r) (g.2 5 r) s → P (g.2 2 r) (g.2 3 r) s
def Pop (g : nb) (p x s : Nat) : Prop := ∀ P, CLO g P → P p x s
theorem GN_mono {P Q : Nat → Nat → Nat → Prop} (h : ∀ p x s, P p x s → Q p x s) {q w s : Nat} (hg : GN P q w s) : GN Q q w s := by
  unfold GN at hg ⊢
  split <;> rename_i e <;> rw [e] at hg
  · exact hg
  · exact h _ _ _ hg
  · obtain ⟨t, h1, h2, h3⟩ := hg
    exact ⟨t, h1, h _ _ _ h2, h _ _ _ h3⟩
theorem Pop_clo (g : nb) : CLO g (Pop g) := fun r hr s hs hg P hP => hP r hr s hs (GN_mono (fun p x s h => h P hP) hg)
theorem Pop_lt {g : nb} (hW : WF g) {p x s : Nat} (h : Pop g p x s) : p < g.1 0 ∧ x < 4 ∧ s < g.1 0 := by
  refine h (fun p x s => p < g.1 0 ∧ x < 4 ∧ s < g.1 0) (fun r hr s hs hg => ?_)
  obtain ⟨a1, a2, a3, a4⟩ := hW.2.1.1 r hr
  refine ⟨a1, a2, ?_⟩
  unfold GN at hg
  split at hg
  · omega
  · exact hg.2.2
  · obtain ⟨t, h1, h2, h3⟩ := hg
    exact h3.2.2
def FS (f : Nat → Nat) (p x s : Nat) : Prop := p < 3 ∧ x < 4 ∧ (f (4 * p + x)).testBit s = true
/-- the class's afterWord -/
def awd (f : Nat → Nat) (q w : Nat) : Nat := match lw w with
  | [] => 2 ^ q
  | [x] => afl f (2 ^ q) x 3
  | x :: y :: _ => afl f (afl f (2 ^ q) x 3) y 3
theorem afl_one {f : Nat → Nat} {q x s : Nat} (hq : q < 3) (hx : x < 4) : (afl f (2 ^ q) x 3).testBit s = true ↔ FS f q x s := by
  rw [afl_b]
  constructor
  · rintro ⟨p, h1, h2, h3⟩
    rw [tb_pow, decide_eq_true_eq] at h2
    subst h2
    exact ⟨hq, hx, h3⟩
  · rintro ⟨-, -, h⟩
    exact ⟨q, hq, by rw [tb_pow, decide_eq_true_eq], h⟩
theorem awd_b {f : Nat → Nat} {q w s : Nat} (hq : q < 3) (hw : w < 21) : (awd f q w).testBit s = true ↔ GN (FS f) q w s := by
  have hl := fun x hx => lw_lt (x := x) hw hx
  unfold awd GN
  split <;> rename_i e
  · rw [tb_pow, decide_eq_true_eq]
  · exact afl_one hq (hl _ (by rw [e]; exact List.mem_cons_self))
  · rename_i x y l
    have hx : x < 4 := hl _ (by rw [e]; exact List.mem_cons_self)
    have hy : y < 4 := hl _ (by rw [e]; simp)
    rw [afl_b]
    constructor
    · rintro ⟨p, h1, h2, h3⟩
      exact ⟨p, h1, (afl_one hq hx).mp h2, h1, hy, h3⟩
    · rintro ⟨t, h1, h2, h3⟩
      exact ⟨t, h1, (afl_one hq hx).mpr h2, h3.2.2⟩
theorem awd_lt {f : Nat → Nat} (hf : ∀ h, h < 12 → f h < 8) {q w : Nat} (hq : q < 3) (hw : w < 21) : awd f q w < 8 := by
  have hl := fun x hx => lw_lt (x := x) hw hx
  unfold awd
  split <;> rename_i e
  · exact Nat.pow_lt_pow_right (n := 3) (by omega) hq
  · exact afl_lt hf (hl _ (by rw [e]; exact List.mem_cons_self)) 3 (Nat.le_refl _)
  · exact afl_lt hf (hl _ (by rw [e]; simp)) 3 (Nat.le_refl _)
theorem p1_afterWord (f : Nat → Nat) (q w : Nat) (hq : q < 3) (hw : w < 21) (o : ob) (h0 : ∀ h, h < 12 → o.2 0 h = nI (f h)) : f1_afterWord (nI q) (nI w) o = some (nI (awd f q w)) := by
  have hl := fun x hx => lw_lt (x := x) hw hx
  unfold f1_afterWord
  rw [shl_12 q (by omega), p5_lettersIn w hw]
  simp only [lt_v, Option.bind_some]
  unfold awd
  cases e : lw w with
  | nil =>
    simp only [List.length_nil]
    rw [if_pos (show nI 0 ≤ 0 by decide)]
    simp only [Option.bind_some]
    rw [if_neg (show ¬ nI 0 = 2 by decide)]
  | cons x l =>
    have f1 := p5_firstLetter w x l hw e
    have hx : x < 4 := hl _ (by rw [e]; exact List.mem_cons_self)
    cases l with
    | nil =>
      simp only [List.length_cons, List.length_nil, Nat.zero_add]
      rw [if_neg (show ¬ nI 1 ≤ 0 by decide), f1]
      simp only [Option.bind_some]
      rw [p1_afterLetter f _ x hx o h0]
      simp only [Option.bind_some]
      rw [if_neg (show ¬ nI 1 = 2 by decide)]
    | cons y l2 =>
      have hy : y < 4 := hl _ (by rw [e]; simp)
      have hl2 : l2 = [] := by
        have : (x :: y :: l2).length ≤ 2 := by rw [← e]; exact lw_len
        simp only [List.length_cons] at this
        exact List.length_eq_zero_iff.mp (by omega)
      subst hl2
      simp only [List.length_cons, List.length_nil, Nat.zero_add]
      rw [if_neg (show ¬ nI (1 + 1) ≤ 0 by decide), f1]
      simp only [Option.bind_some]
      rw [p1_afterLetter f _ x hx o h0]
      simp only [Option.bind_some]
      rw [if_pos (show nI (1 + 1) = 2 from rfl), p5_secondLetter w x y hw e]
      simp only [Option.bind_some]
      rw [p1_afterLetter f _ y hy o h0]
      simp only [Option.bind_some]
