/-! ranges -/
theorem xI (x : Int32) : x < 0 ∨ ∃ a, a < 2 ^ 31 ∧ x = nI a := by
  by_cases h : x < 0
  · exact Or.inl h
  · refine Or.inr ⟨x.toInt.toNat, ?_, ?_⟩
    · have := Int32.toInt_lt x
      omega
    · rw [Int32.lt_iff_toInt_lt] at h
      have h0 : (0 : Int32).toInt = 0 := rfl
      have hx : x.toInt < 2 ^ 31 := Int32.toInt_lt x
      apply Int32.toInt_inj.mp
      rw [nI_toInt (by omega)]
      omega
def IN (x : Int32) (n : Nat) : Prop := ∃ a, a < n ∧ x = nI a
theorem out {x : Int32} {n : Nat} (h : ¬ IN x n) : x < 0 ∨ ∃ a, a < 2 ^ 31 ∧ n ≤ a ∧ x = nI a := by
  rcases xI x with q | ⟨a, h1, h2⟩
  · exact Or.inl q
  · by_cases q : a < n
    · exact absurd ⟨a, q, h2⟩ h
    · exact Or.inr ⟨a, h1, by omega, h2⟩
theorem nn0 {a : Nat} (h : a < 2 ^ 31) : ¬ nI a < 0 := nI_nlt (a := a) (b := 0) (by omega) (by omega)
theorem cin_y {a n : Nat} (h : a < n) (hn : n < 2 ^ 31) : (if nI a < 0 then some (0 : Int32) else if nI n ≤ nI a then some 0 else some 1) = some (nI 1) := by
  rw [if_neg (nn0 (by omega)), if_neg (nI_ge h hn)]
  rfl
theorem cin_n {x : Int32} {n : Nat} (h : ¬ IN x n) (hn : n < 2 ^ 31) : (if x < 0 then some (0 : Int32) else if nI n ≤ x then some 0 else some 1) = some (nI 0) := by
  rcases out h with q | ⟨a, h1, h2, h3⟩
  · rw [if_pos q]; rfl
  · subst h3
    rw [if_neg (nn0 h1), if_pos (nI_le h2 h1)]; rfl
theorem rin_y {a n : Nat} (h : a < n) (hn : n < 2 ^ 31) : f6_in (nI a) 0 (nI n - 1) = some (nI 1) := by
  have e : nI n - 1 = nI (n - 1) := nI_sub (a := n) (b := 1) (by omega)
  rw [e]
  have := p6_in a 0 (n - 1) (by omega) (by omega) (by omega)
  rw [if_pos ⟨by omega, by omega⟩] at this
  exact this
theorem rin_n {x : Int32} {n : Nat} (h : ¬ IN x n) (hn : n < 2 ^ 31) : f6_in x 0 (nI n - 1) = some (nI 0) := by
  unfold f6_in
  rcases out h with q | ⟨a, h1, h2, h3⟩
  · rw [if_pos q]; rfl
  · subst h3
    rw [if_neg (nn0 h1)]
    by_cases q : n = 0
    · subst q
      have : nI 0 - 1 = -(nI 1) := rfl
      rw [this, if_pos (nI_neg_lt h1 (by omega) (by omega))]; rfl
    · have e : nI n - 1 = nI (n - 1) := nI_sub (a := n) (b := 1) (by omega)
      rw [e, if_pos (nI_lt (by omega) h1)]; rfl
theorem c5L_y {a : Nat} (h : a < 4) : f5_isLetter (nI a) = some (nI 1) := cin_y (n := 4) h (by decide)
theorem c5L_n {x : Int32} (h : ¬ IN x 4) : f5_isLetter x = some (nI 0) := cin_n (n := 4) h (by decide)
theorem c6L_y {a : Nat} (h : a < 4) : f6_isLetter (nI a) = some (nI 1) := by
  unfold f6_isLetter
  rw [show (3 : Int32) = nI 4 - 1 from rfl, rin_y h (by decide)]
  rfl
theorem c6L_n {x : Int32} (h : ¬ IN x 4) : f6_isLetter x = some (nI 0) := by
  unfold f6_isLetter
  rw [show (3 : Int32) = nI 4 - 1 from rfl, rin_n h (by decide)]
  rfl
theorem c0N_y {a n : Nat} {o : ob} (h0 : o.1 0 = nI n) (h : a < n) (hn : n < 2 ^ 31) : f0_isNode (nI a) o = some (nI 1) := by
  unfold f0_isNode
  rw [h0]
  exact cin_y h hn
theorem c0N_n {x : Int32} {n : Nat} {o : ob} (h0 : o.1 0 = nI n) (h : ¬ IN x n) (hn : n < 2 ^ 31) : f0_isNode x o = some (nI 0) := by
  unfold f0_isNode
  rw [h0]
  exact cin_n h hn
theorem z1 : ¬ nI 1 = (0 : Int32) := by decide
theorem z0 : nI 0 = (0 : Int32) := rfl
/-- what a call that only asks leaves behind -/
def ASK (x m : ob) (g : nb) (ans : Int32) (A : Option (Int32 × ob × ob)) (B : Option (Int32 × ob)) : Prop := ∃ x' net' m', A = some (ans, x', net') ∧ B = some (ans, m') ∧ NV x' net' g ∧ keep9 x x' ∧ keepM m m'
theorem eq_price {g : nb} (h : WF g) (x now net m : ob) (ht : TW now g) (hm : MW m g) (hv : NV x net g) : ∃ ans, ASK x m g ans (f5_price x now net) (f6_price m) := by
  obtain ⟨x', net', e, a1, a2, a3⟩ := c_price h x now net ht hv
  obtain ⟨m', e', k⟩ := m_price h m hm
  exact ⟨_, x', net', m', e, e', Or.inr ⟨a1, a2⟩, a3, k⟩
theorem pI_lt {v : Nat} (h : v < 1000000000) : pI v = nI v := by unfold pI; rw [if_neg (by omega)]
theorem pI_ge {v : Nat} (h : 1000000000 ≤ v) : pI v = -(nI 4) := by unfold pI; rw [if_pos h]
theorem pI_none {v : Nat} (h : v ≤ 1000000000) : pI v = -4 ↔ 1000000000 ≤ v := by
  constructor
  · intro e
    by_cases q : 1000000000 ≤ v
    · exact q
    · rw [pI_lt (by omega)] at e
      exact absurd e (nI_ne_neg (b := 4) (by omega) (by omega) (by omega))
  · intro q
    rw [pI_ge q]; rfl
theorem eq_edge {g : nb} (h : WF g) (x0 x1 x2 : Int32) (x now net m : ob) (ht : TW now g) (hm : MW m g) (hv : NV x net g) : ∃ ans, ASK x m g ans (f5_edge x0 x1 x2 x now net) (f6_edge x0 x1 x2 m) := by
  obtain ⟨x', net', e, a1, a2, a3⟩ := c_renewNet h x now net ht hv
  obtain ⟨mb, eb, b1, b2, b3, b4, b5, b6⟩ := p6_begins g h.1 m hm.1
  have kb : keepM m mb := ⟨b1, fun k q1 _ _ _ => b5 k q1⟩
  have hmb := hm.keep kb
  have nd := ndn_le h.1
  have n0 := a2.1
  have bad : f5_edge x0 x1 x2 x now net = some (-1, x', net') → f6_edge x0 x1 x2 m = some (-1, mb) → ∃ ans, ASK x m g ans (f5_edge x0 x1 x2 x now net) (f6_edge x0 x1 x2 m) := fun q1 q2 => ⟨-1, x', net', mb, q1, q2, Or.inr ⟨a1, a2⟩, a3, kb⟩
  by_cases i0 : IN x0 (ndn g)
  · obtain ⟨p, hp, rfl⟩ := i0
    by_cases i1 : IN x1 4
    · obtain ⟨y, hy, rfl⟩ := i1
      by_cases i2 : IN x2 (ndn g)
      · obtain ⟨s, hs, rfl⟩ := i2
        obtain ⟨mg, eg, kg, G⟩ := growsS h (g.1 12) h.2.2.2 10 (-4) (noneI h.2.1.2.1 (x := 4) (by omega) (by omega)) mb hmb
        refine ⟨pI (fw g (g.1 12) (coO g (g.1 12) 10) (52 * p + 13 * y + s)), x', net', mg, ?_, ?_, Or.inr ⟨a1, a2⟩, a3, kb.tr kg⟩
        · unfold f5_edge
          rw [e]
          simp only [Option.bind_some]
          rw [c0N_y n0 hp (by omega)]
          simp only [Option.bind_some]
          rw [if_neg z1, c5L_y hy]
          simp only [Option.bind_some]
          rw [if_neg z1, c0N_y n0 hs (by omega)]
          simp only [Option.bind_some]
          rw [if_neg z1, p5_edgeAt]
          simp only [Option.bind_some, lt_v]
          rw [vin_nI (by omega), gd_p (by omega), nI_clamp (by omega), a2.2.2.2.2.2.1 _ (by omega)]
          have l := fw_le h.1 (g.1 12) (coO g (g.1 12) 10) (52 * p + 13 * y + s)
          rw [eL_F]
          by_cases q : 1000000000 ≤ fw g (g.1 12) (coO g (g.1 12) 10) (52 * p + 13 * y + s)
          · rw [pI_ge q, if_pos ((eL_leI (Nat.le_refl _) l).mpr q)]; rfl
          · rw [pI_lt (by omega), if_neg (fun h => q ((eL_leI (Nat.le_refl _) l).mp h)), eL_i (by omega)]
        · unfold f6_edge
          rw [eb]
          simp only [Option.bind_some]
          rw [b2, rin_y hp (by omega)]
          simp only [Option.bind_some]
          rw [if_neg z1, c6L_y hy]
          simp only [Option.bind_some]
          rw [if_neg z1, rin_y hs (by omega)]
          simp only [Option.bind_some]
          rw [if_neg z1, hmb.2.2.2.2.2.1, eg]
          simp only [Option.bind_some]
          rw [p6_place]
          simp only [Option.bind_some, lt_v]
          rw [vin_nI (by omega), gd_p (by omega), nI_clamp (by omega), G.2.2.2.1 _ (by omega)]
          by_cases q : 1000000000 ≤ fw g (g.1 12) (coO g (g.1 12) 10) (52 * p + 13 * y + s)
          · rw [pI_ge q, cd_ge q, if_neg (by decide)]; rfl
          · rw [pI_lt (by omega), cd_lt (by omega), if_pos (show (0 : Int32) ≤ nI _ from nI_le (a := 0) (Nat.zero_le _) (by omega))]
      · refine bad ?_ ?_
        · unfold f5_edge
          rw [e]
          simp only [Option.bind_some]
          rw [c0N_y n0 hp (by omega)]
          simp only [Option.bind_some]
          rw [if_neg z1, c5L_y hy]
          simp only [Option.bind_some]
          rw [if_neg z1, c0N_n n0 i2 (by omega)]
          simp only [Option.bind_some]
          rw [if_pos z0]
        · unfold f6_edge
          rw [eb]
          simp only [Option.bind_some]
          rw [b2, rin_y hp (by omega)]
          simp only [Option.bind_some]
          rw [if_neg z1, c6L_y hy]
          simp only [Option.bind_some]
          rw [if_neg z1, rin_n i2 (by omega)]
          simp only [Option.bind_some]
          rw [if_pos z0]
    · refine bad ?_ ?_
      · unfold f5_edge
        rw [e]
        simp only [Option.bind_some]
        rw [c0N_y n0 hp (by omega)]
        simp only [Option.bind_some]
        rw [if_neg z1, c5L_n i1]
        simp only [Option.bind_some]
        rw [if_pos z0]
      · unfold f6_edge
        rw [eb]
        simp only [Option.bind_some]
        rw [b2, rin_y hp (by omega)]
        simp only [Option.bind_some]
        rw [if_neg z1, c6L_n i1]
        simp only [Option.bind_some]
        rw [if_pos z0]
  · refine bad ?_ ?_
    · unfold f5_edge
      rw [e]
      simp only [Option.bind_some]
      rw [c0N_n n0 i0 (by omega)]
      simp only [Option.bind_some]
      rw [if_pos z0]
    · unfold f6_edge
      rw [eb]
      simp only [Option.bind_some]
      rw [b2, rin_n i0 (by omega)]
      simp only [Option.bind_some]
      rw [if_pos z0]
theorem ne_lit {x : Int32} {n k : Nat} (h : ¬ IN x n) (hk : k < n) : ¬ x = nI k := fun e => h ⟨k, hk, e⟩
theorem eq_automaton {g : nb} (h : WF g) (x0 : Int32) (x now net m : ob) (ht : TW now g) (hm : MW m g) (hv : NV x net g) : ∃ ans, ASK x m g ans (f5_automaton x0 x now net) (f6_automaton x0 m) := by
  obtain ⟨x', net', e, a1, a2, a3⟩ := c_renewNet h x now net ht hv
  by_cases i0 : IN x0 4
  · obtain ⟨p, hp, rfl⟩ := i0
    obtain ⟨mg, eg, kg, G⟩ := growsS h (g.1 12) h.2.2.2 10 (-4) (noneI h.2.1.2.1 (x := 4) (by omega) (by omega)) m hm
    have he := p6_edges mg (fw g (g.1 12) (coO g (g.1 12) 10)) G.2.2.2.1
    have a2' := a2
    obtain ⟨n0, n1, n2, n3, -⟩ := a2'
    obtain ⟨g0, g1, g2, -⟩ := G
    have key : ∀ v, f5_automaton (nI p) x now net = some (v, x', net') → f6_automaton (nI p) m = some (v, mg) → ∃ ans, ASK x m g ans (f5_automaton (nI p) x now net) (f6_automaton (nI p) m) := fun v q1 q2 => ⟨v, x', net', mg, q1, q2, Or.inr ⟨a1, a2⟩, a3, kg⟩
    have s5 : f5_automaton (nI p) x now net = (if nI p = 0 then some (net'.1 0, x', net') else if nI p = 1 then some (net'.1 1, x', net') else if nI p = 2 then some (net'.1 2, x', net') else if nI p = 3 then some (net'.1 3, x', net') else some (-1, x', net')) := by
      unfold f5_automaton
      rw [e]
      simp only [Option.bind_some]
    have s6 : f6_automaton (nI p) m = (if nI p = 0 then some (mg.1 15, mg) else if nI p = 1 then some (mg.1 16, mg) else if nI p = 2 then some (nI (cnt (fw g (g.1 12) (coO g (g.1 12) 10)) 676), mg) else some (mg.1 17, mg)) := by
      unfold f6_automaton
      rw [show (3 : Int32) = nI 4 - 1 from rfl, rin_y hp (by decide)]
      simp only [Option.bind_some]
      rw [if_neg z1, hm.2.2.2.2.2.1, eg]
      simp only [Option.bind_some]
      rw [he]
      simp only [Option.bind_some]
    rcases (show p = 0 ∨ p = 1 ∨ p = 2 ∨ p = 3 by omega) with q | q | q | q <;> subst q
    · refine key (nI (ndn g)) ?_ ?_
      · rw [s5, if_pos (by decide), n0]
      · rw [s6, if_pos (by decide), g0]
    · refine key (nI (cnt (wt0 g) 676)) ?_ ?_
      · rw [s5, if_neg (by decide), if_pos (by decide), n1]
      · rw [s6, if_neg (by decide), if_pos (by decide), g1]
    · refine key (nI (cnt (fw g (g.1 12) (coO g (g.1 12) 10)) 676)) ?_ ?_
      · rw [s5, if_neg (by decide), if_neg (by decide), if_pos (by decide), n2]
      · rw [s6, if_neg (by decide), if_neg (by decide), if_pos (by decide)]
    · refine key (nI (lastK g (g.1 12) (coO g (g.1 12) 10))) ?_ ?_
      · rw [s5, if_neg (by decide), if_neg (by decide), if_neg (by decide), if_pos (by decide), n3]
      · rw [s6, if_neg (by decide), if_neg (by decide), if_neg (by decide), g2]
  · refine ⟨-1, x', net', m, ?_, ?_, Or.inr ⟨a1, a2⟩, a3, keepM.rf m⟩
    · unfold f5_automaton
      rw [e]
      simp only [Option.bind_some]
      rw [if_neg (show ¬ x0 = (0 : Int32) from ne_lit i0 (k := 0) (by omega)), if_neg (show ¬ x0 = (1 : Int32) from ne_lit i0 (k := 1) (by omega)), if_neg (show ¬ x0 = (2 : Int32) from ne_lit i0 (k := 2) (by omega)), if_neg (show ¬ x0 = (3 : Int32) from ne_lit i0 (k := 3) (by omega))]
    · unfold f6_automaton
      rw [show (3 : Int32) = nI 4 - 1 from rfl, rin_n i0 (by decide)]
      simp only [Option.bind_some]
      rw [if_pos z0]
