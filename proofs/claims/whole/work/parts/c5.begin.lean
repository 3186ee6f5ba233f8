/-! at the start -/
theorem g0_WF : WF g0 := (ps_WF (T := T0) (L := 99) 99 0 (gi 2) gi2_WF (Nat.zero_le _)).1
theorem g0_n : g0.1 0 = 2 ∧ g0.1 1 = 7 ∧ g0.1 7 = 2 ∧ g0.1 12 = 0 ∧ g0.1 13 = 0 ∧ g0.1 14 = 2 := by decide +kernel
theorem g0_s : ∀ i, i < 2 → m0.2 7 i = nI (g0.2 15 i) := by decide +kernel
theorem g0_r : ∀ r, r < 7 → m0.2 2 (7 * r) = nI (g0.2 2 r) ∧ m0.2 2 (7 * r + 1) = nI (g0.2 3 r) ∧ m0.2 2 (7 * r + 2) = nI (g0.2 4 r) ∧ m0.2 2 (7 * r + 3) = nI (lw (g0.2 5 r)).length ∧ m0.2 2 (7 * r + 6) = nI (g0.2 6 r) ∧ ∀ j, j < 2 → m0.2 2 (7 * r + 4 + j) = if j < (lw (g0.2 5 r)).length then nI ((lw (g0.2 5 r)).getD j 0) else -(nI 4) := by decide +kernel
theorem g0_t : ∀ i, i < 2 → m0.2 4 (6 * i) = nI (g0.2 8 i) ∧ m0.2 4 (6 * i + 1) = nI (g0.2 9 i) ∧ m0.2 4 (6 * i + 2) = nI (g0.2 10 i) ∧ ∀ j, j < 3 → m0.2 4 (6 * i + 3 + j) = if j < g0.2 9 i then nI (g0.2 11 (3 * i + j)) else -(nI 4) := by decide +kernel
theorem m0_MW : MW m0 g0 := by
  obtain ⟨e0, e1, e7, e12, e13, e14⟩ := g0_n
  have hT := g0_WF.1.2.2.2
  refine ⟨⟨?_, ?_, ?_⟩, ?_, ?_, ?_, ?_, ?_, ?_, ?_, ?_⟩
  · rw [e0]; rfl
  · rw [e7]; rfl
  · intro i hi
    have h3 := (hT i hi).2.1
    rw [e7] at hi
    obtain ⟨a1, a2, a3, a4⟩ := g0_t i hi
    refine ⟨a1, a2, a3, fun j hj => ?_⟩
    rw [a4 j (by omega), if_pos hj]
  · intro r hr
    rw [e1] at hr
    obtain ⟨a1, a2, a3, a4, a5, a6⟩ := g0_r r hr
    have l2 := lw_len (w := g0.2 5 r)
    refine ⟨a1, a2, a3, a4, fun j x hj => ?_, a5⟩
    obtain ⟨hl, hx⟩ := List.getElem?_eq_some_iff.mp hj
    rw [a6 j (by omega), if_pos hl, List.getD_eq_getElem?_getD, hj, Option.getD_some]
  · rw [e1]; rfl
  · rw [e13]; rfl
  · rw [e14]; rfl
  · rw [e12]; rfl
  · intro i hi
    rw [e14] at hi
    exact g0_s i hi
  · intro r hr j hj hl
    rw [e1] at hr
    rw [(g0_r r hr).2.2.2.2.2 j hj, if_neg (by omega)]
  · intro i hi j hj hl
    rw [e7] at hi
    rw [(g0_t i hi).2.2.2 j hj, if_neg (by omega)]
theorem RG_0 {sc now : ob} (hs : sc.1 1 = nI 0) (ht : TW now g0) : RG rok zo sc now zo (fun _ => zo) (fun _ => zo) zo zo zo m0 g0 := by
  refine ⟨g0_WF, ht, m0_MW, ⟨0, fun _ => 0, hs, rfl, Nat.zero_le _, fun i hi => absurd hi (Nat.not_lt_zero i)⟩, ⟨0, 0, fun _ => g0, rfl, rfl, by decide, rfl, by decide, fun j hj => absurd hj (Nat.not_lt_zero j)⟩, ⟨0, fun _ => g0, rfl, rfl, by decide, fun j hj => absurd hj (Nat.not_lt_zero j)⟩, fun t _ => rfl, Or.inl rfl, Or.inl rfl, Or.inl rfl⟩
