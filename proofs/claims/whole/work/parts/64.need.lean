/-! which rules are needed -/
noncomputable def msk (g : nb) : Nat → Int32
  | 0 => 0
  | i + 1 => @ite _ (1000000000 ≤ pri g (g.1 12) (coO g (g.1 12) i)) (Classical.propDecidable _) (msk g i ||| (1 <<< (nI i &&& 31))) (msk g i)
theorem msk_y {g : nb} {i : Nat} (h : 1000000000 ≤ pri g (g.1 12) (coO g (g.1 12) i)) : msk g (i + 1) = (msk g i ||| (1 <<< (nI i &&& 31))) := if_pos h
theorem msk_n {g : nb} {i : Nat} (h : ¬ 1000000000 ≤ pri g (g.1 12) (coO g (g.1 12) i)) : msk g (i + 1) = msk g i := if_neg h
theorem oddL {g : nb} (hr : WFr g) (i : Nat) (hi : i < g.1 1) : ODD g 2 (nI i) (-1) (coO g 2 i) := by
  intro r hr1
  have h10 := hr.2.1
  have h9 := hr.2.2 r hr1
  by_cases q : r = i
  · subst q
    refine ⟨1000000000, ?_, Or.inl rfl, ?_⟩
    · rw [if_pos rfl, cd_FR]; rfl
    · unfold coO
      rw [if_pos rfl, if_pos rfl]
  · refine ⟨g.2 6 r, ?_, Or.inr h9, ?_⟩
    · rw [if_neg (fun e => q ((nI_eq (by omega) (by omega)).mp e)), cd_lt (by omega)]
    · unfold coO
      rw [if_neg q, if_neg (show ¬ g.2 6 r = 1000000000 by omega)]
theorem pri_le (g : nb) (b : Nat) (co : Nat → Nat) : pri g b co ≤ 1000000000 := mn_le_FR _ _
theorem pres_iff {g : nb} (h : WF g) (b b' wo : Nat) : 1000000000 ≤ pri g b (coO g b wo) ↔ 1000000000 ≤ pri g b' (coO g b' wo) := by
  have l1 := pres_pri h.1 h.2.1 h.2.2.1 b b' wo
  have l2 := pres_pri h.1 h.2.1 h.2.2.1 b' b wo
  constructor
  · intro q
    by_cases q2 : 1000000000 ≤ pri g b' (coO g b' wo)
    · exact q2
    · have := l2 (by omega); omega
  · intro q
    by_cases q2 : 1000000000 ≤ pri g b (coO g b wo)
    · exact q2
    · have := l1 (by omega); omega
theorem c_neededL {g : nb} (h : WF g) (now : ob) (ht : TW now g) (tr : ob) : ∃ tr', wh (f5_needed_L15 now) (0, 0, tr) = some (1, (msk g (g.1 1), nI (g.1 1), tr')) := by
  have h10 := h.2.1.2.1
  obtain ⟨b, e, hb⟩ := wh_fr (st := f5_needed_L15 now) (fun i (b : Int32 × ob) => (b.1, nI i, b.2)) (g.1 1) (fun i b => b.1 = msk g i) (b0 := (0, tr)) rfl
    (by
      intro b _
      unfold f5_needed_L15
      dsimp only
      rw [ht.2.1, if_pos (nI_le (Nat.le_refl _) (by omega))])
    (by
      rintro i ⟨v, z⟩ hi hv
      have hv : v = msk g i := hv
      subst hv
      obtain ⟨t1, e1, n1⟩ := buildS h 2 (Nat.le_refl _) (nI i) (-1) _ (oddL h.2.1 i hi) now ht z
      obtain ⟨t2, e2, n2⟩ := priceS h 2 _ (coO_CO h.2.1 _ _) now t1 ht n1
      refine ⟨(msk g (i + 1), t2), ?_, rfl⟩
      unfold f5_needed_L15
      dsimp only
      have e1 : f0_build 2 (nI i) (-1) z now = some t1 := e1
      rw [ht.2.1, if_neg (nI_ge hi (by omega)), e1]
      simp only [Option.bind_some]
      rw [e2]
      simp only [Option.bind_some]
      by_cases q : 1000000000 ≤ pri g 2 (coO g 2 i)
      · rw [if_pos ((pI_none (pri_le _ _ _)).mpr q), msk_y ((pres_iff h 2 (g.1 12) i).mp q)]
        simp only [Option.bind_some, lt_v, nI_1]
      · rw [if_neg (fun e => q ((pI_none (pri_le _ _ _)).mp e)), msk_n (fun e => q ((pres_iff h 2 (g.1 12) i).mpr e))]
        simp only [Option.bind_some, lt_v, nI_1])
  refine ⟨b.2, ?_⟩
  have e : wh (f5_needed_L15 now) (0, 0, tr) = some (1, (b.1, nI (g.1 1), b.2)) := e
  rw [e, hb]
theorem m_neededL {g : nb} (h : WF g) (m : ob) (hm : MW m g) : ∃ m', wh f6_needed_L13 (0, 0, m) = some (1, (msk g (g.1 1), nI (g.1 1), m')) ∧ keepM m m' := by
  have h10 := h.2.1.2.1
  obtain ⟨b, e, hb, kb⟩ := wh_fr (st := f6_needed_L13) (fun i (b : Int32 × ob) => (b.1, nI i, b.2)) (g.1 1) (fun i b => b.1 = msk g i ∧ keepM m b.2) (b0 := (0, m)) ⟨rfl, keepM.rf m⟩
    (by
      rintro ⟨v, z⟩ ⟨-, k⟩
      have hz := hm.keep k
      unfold f6_needed_L13
      dsimp only
      rw [hz.2.2.1, if_pos (nI_le (Nat.le_refl _) (by omega))])
    (by
      rintro i ⟨v, z⟩ hi ⟨hv, k⟩
      have hv : v = msk g i := hv
      subst hv
      have hz := hm.keep k
      obtain ⟨z', e1, k1⟩ := withoutS h i (nI i) (fun r hr => nI_eq (by omega) (by omega)) z hz
      refine ⟨(msk g (i + 1), z'), ?_, rfl, k.tr k1⟩
      unfold f6_needed_L13
      dsimp only
      rw [hz.2.2.1, if_neg (nI_ge hi (by omega)), e1]
      simp only [Option.bind_some]
      by_cases q : 1000000000 ≤ pri g (g.1 12) (coO g (g.1 12) i)
      · rw [if_pos ((pI_none (pri_le _ _ _)).mpr q), msk_y q]
        simp only [Option.bind_some, lt_v, nI_1]
      · rw [if_neg (fun e => q ((pI_none (pri_le _ _ _)).mp e)), msk_n q]
        simp only [Option.bind_some, lt_v, nI_1, Int32.or_zero])
  refine ⟨b.2, ?_, kb⟩
  have e : wh f6_needed_L13 (0, 0, m) = some (1, (b.1, nI (g.1 1), b.2)) := e
  rw [e, hb]
def ASKT (x m : ob) (g : nb) (ans : Int32) (A : Option (Int32 × ob × ob × ob)) (B : Option (Int32 × ob)) : Prop := ∃ x' net' tr' m', A = some (ans, x', net', tr') ∧ B = some (ans, m') ∧ NV x' net' g ∧ keep9 x x' ∧ keepM m m'
theorem eq_needed {g : nb} (h : WF g) (x now net tr m : ob) (ht : TW now g) (hm : MW m g) (hv : NV x net g) : ∃ ans, ASKT x m g ans (f5_needed x now net tr) (f6_needed m) := by
  obtain ⟨x', net', e, a1, a2, a3⟩ := c_price h x now net ht hv
  obtain ⟨m', e', k⟩ := m_price h m hm
  by_cases q : 1000000000 ≤ pri g (g.1 12) (coO g (g.1 12) 10)
  · refine ⟨0, x', net', tr, m', ?_, ?_, Or.inr ⟨a1, a2⟩, a3, k⟩
    · unfold f5_needed
      rw [e]
      simp only [Option.bind_some]
      rw [if_pos ((pI_none (pri_le _ _ _)).mpr q)]
    · unfold f6_needed
      rw [e']
      simp only [Option.bind_some]
      rw [if_pos ((pI_none (pri_le _ _ _)).mpr q)]
  · obtain ⟨tr', l1⟩ := c_neededL h now ht tr
    obtain ⟨m2, l2, k2⟩ := m_neededL h m' (hm.keep k)
    refine ⟨msk g (g.1 1), x', net', tr', m2, ?_, ?_, Or.inr ⟨a1, a2⟩, a3, k.tr k2⟩
    · unfold f5_needed
      rw [e]
      simp only [Option.bind_some]
      rw [if_neg (fun e => q ((pI_none (pri_le _ _ _)).mp e)), l1]
      simp only [Option.bind_some]
    · unfold f6_needed
      rw [e']
      simp only [Option.bind_some]
      rw [if_neg (fun e => q ((pI_none (pri_le _ _ _)).mp e)), l2]
      simp only [Option.bind_some]
