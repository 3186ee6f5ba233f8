/-! calls that only ask for what is there; the text -/
theorem p5_fs (w : Nat) (hw : w < 21) : f5_firstLetter (nI w) = some (fstI w) ∧ f5_secondLetter (nI w) = some (sndI w) := by
  constructor
  · unfold fstI
    cases hl : lw w with
    | nil =>
      have q : w = 0 := by
        by_cases q : w = 0
        · exact q
        · rcases lw_cases q with ⟨y, hy⟩ | ⟨y, z, hy⟩ <;> rw [hy] at hl <;> cases hl
      subst q
      rfl
    | cons y l =>
      rw [p5_firstLetter w y l hw hl]
      rcases fs_ok (w := w) (j := 0) (y := y) (by rw [hl]; rfl) with ⟨-, h⟩ | ⟨h, -⟩
      · exact congrArg some h.symm
      · cases h
  · unfold sndI
    by_cases q : 5 ≤ w
    · rw [if_pos q]
      have hl : lw w = [(w - 5) / 4, (w - 5) % 4] := by unfold lw; rw [if_neg (by omega), if_neg (by omega)]
      exact p5_secondLetter w _ _ hw hl
    · rw [if_neg q]
      have : ∀ w, w < 5 → f5_secondLetter (nI w) = some (-(nI 4)) := by
        intro w hw
        rcases (show w = 0 ∨ w = 1 ∨ w = 2 ∨ w = 3 ∨ w = 4 by omega) with e | e | e | e | e <;> subst e <;> rfl
      exact this w (by omega)
theorem out_ne {x : Int32} {n : Nat} (h : ¬ IN x n) {k : Nat} (hk : k < n) : ¬ x = nI k := ne_lit h hk
section QUERY
variable {ROK : ob → nb → Prop} {x sc now draft net paces route m : ob} {past saved : Nat → ob} {g : nb}
theorem eq_rule (H : RG ROK x sc now draft past saved net paces route m g) (x0 x1 : Int32) : ∃ ans, f5_rule x0 x1 x now = some ans ∧ f6_rule x0 x1 m = some ans := by
  have H2 := H
  obtain ⟨hW, ht, hm, -⟩ := H2
  have h10 := hW.2.1.2.1
  have t8 := ht.2.2.2.2.2.1
  by_cases i0 : IN x0 (g.1 1)
  · obtain ⟨r, hr, rfl⟩ := i0
    obtain ⟨a1, a2, a3, a4⟩ := hW.2.1.1 r hr
    obtain ⟨b1, b2, b3, b4, b5, b6⟩ := hm.2.1 r hr
    have b7 := hm.2.2.2.2.2.2.2.1 r hr
    obtain ⟨fs1, fs2⟩ := p5_fs (g.2 5 r) a4
    have m4 : m.2 2 (7 * r + 4) = fstI (g.2 5 r) := by
      cases hl : (lw (g.2 5 r))[0]? with
      | some y =>
        rcases fs_ok hl with ⟨-, h⟩ | ⟨h, -⟩
        · rw [h]; exact b5 0 y hl
        · cases h
      | none =>
        rcases fs_no (w := g.2 5 r) (j := 0) (by omega) (by rw [List.getElem?_eq_none_iff] at hl; omega) with ⟨-, h⟩ | ⟨h, -⟩
        · rw [h]; exact b7 0 (by omega) (by rw [List.getElem?_eq_none_iff] at hl; omega)
        · cases h
    have m5 : m.2 2 (7 * r + 5) = sndI (g.2 5 r) := by
      cases hl : (lw (g.2 5 r))[1]? with
      | some y =>
        rcases fs_ok hl with ⟨h, -⟩ | ⟨-, h⟩
        · cases h
        · rw [h]; exact b5 1 y hl
      | none =>
        rcases fs_no (w := g.2 5 r) (j := 1) (by omega) (by rw [List.getElem?_eq_none_iff] at hl; omega) with ⟨h, -⟩ | ⟨-, h⟩
        · cases h
        · rw [h]; exact b7 1 (by omega) (by rw [List.getElem?_eq_none_iff] at hl; omega)
    have s5 : f5_rule (nI r) x1 x now = if x1 = 0 then some (nI (g.2 2 r)) else if x1 = 1 then some (nI (g.2 3 r)) else if x1 = 2 then some (nI (g.2 4 r)) else if x1 = 3 then some (nI (lw (g.2 5 r)).length) else if x1 = 4 then some (fstI (g.2 5 r)) else if x1 = 5 then some (sndI (g.2 5 r)) else if x1 = 6 then some (nI (g.2 6 r)) else some (-1) := by
      unfold f5_rule
      rw [c5R_y ht hr h10]
      simp only [Option.bind_some]
      have hv : vin (nI r) 10 = true := by rw [vin_nI (by omega)]; exact decide_eq_true (by omega)
      have hcl : (nI r).toNatClampNeg = r := nI_clamp (by omega)
      rw [if_neg z1]
      simp only [hv, gd_t, hcl]
      rw [t8 2 r hr (by omega) (by omega), t8 3 r hr (by omega) (by omega), t8 4 r hr (by omega) (by omega), t8 5 r hr (by omega) (by omega), t8 6 r hr (by omega) (by omega), p5_lettersIn _ a4, fs1, fs2]
      simp only [Option.bind_some]
    by_cases i1 : IN x1 7
    · obtain ⟨k, hk, rfl⟩ := i1
      have s6 : f6_rule (nI r) (nI k) m = some (m.2 2 (7 * r + k)) := by
        unfold f6_rule
        rw [c6R_y hm hr h10]
        simp only [Option.bind_some]
        rw [if_neg z1, show (6 : Int32) = nI 7 - 1 from rfl, rin_y hk (by decide)]
        simp only [Option.bind_some]
        rw [if_neg z1, show (7 : Int32) * nI r = nI (7 * r) by rw [show (7 : Int32) = nI 7 from rfl, nI_mul], nI_add, vin_nI (by omega), gd_p (show 7 * r + k < 70 by omega), nI_clamp (by omega)]
      rcases (show k = 0 ∨ k = 1 ∨ k = 2 ∨ k = 3 ∨ k = 4 ∨ k = 5 ∨ k = 6 by omega) with e | e | e | e | e | e | e <;> subst e
      · exact ⟨_, by rw [s5, if_pos (by decide)], by rw [s6]; exact congrArg some b1⟩
      · exact ⟨_, by rw [s5, if_neg (by decide), if_pos (by decide)], by rw [s6]; exact congrArg some b2⟩
      · exact ⟨_, by rw [s5, if_neg (by decide), if_neg (by decide), if_pos (by decide)], by rw [s6]; exact congrArg some b3⟩
      · exact ⟨_, by rw [s5, if_neg (by decide), if_neg (by decide), if_neg (by decide), if_pos (by decide)], by rw [s6]; exact congrArg some b4⟩
      · exact ⟨_, by rw [s5, if_neg (by decide), if_neg (by decide), if_neg (by decide), if_neg (by decide), if_pos (by decide)], by rw [s6]; exact congrArg some m4⟩
      · exact ⟨_, by rw [s5, if_neg (by decide), if_neg (by decide), if_neg (by decide), if_neg (by decide), if_neg (by decide), if_pos (by decide)], by rw [s6]; exact congrArg some m5⟩
      · exact ⟨_, by rw [s5, if_neg (by decide), if_neg (by decide), if_neg (by decide), if_neg (by decide), if_neg (by decide), if_neg (by decide), if_pos (by decide)], by rw [s6]; exact congrArg some b6⟩
    · refine ⟨-1, ?_, ?_⟩
      · rw [s5, if_neg (show ¬ x1 = (0 : Int32) from ne_lit i1 (k := 0) (by omega)), if_neg (show ¬ x1 = (1 : Int32) from ne_lit i1 (k := 1) (by omega)), if_neg (show ¬ x1 = (2 : Int32) from ne_lit i1 (k := 2) (by omega)), if_neg (show ¬ x1 = (3 : Int32) from ne_lit i1 (k := 3) (by omega)), if_neg (show ¬ x1 = (4 : Int32) from ne_lit i1 (k := 4) (by omega)), if_neg (show ¬ x1 = (5 : Int32) from ne_lit i1 (k := 5) (by omega)), if_neg (show ¬ x1 = (6 : Int32) from ne_lit i1 (k := 6) (by omega))]
      · unfold f6_rule
        rw [c6R_y hm hr h10]
        simp only [Option.bind_some]
        rw [if_neg z1, show (6 : Int32) = nI 7 - 1 from rfl, rin_n i1 (by decide)]
        simp only [Option.bind_some]
        rw [if_pos z0]
  · refine ⟨-1, ?_, ?_⟩
    · unfold f5_rule
      rw [c5R_n ht i0 h10]
      simp only [Option.bind_some]
      rw [if_pos z0]
    · unfold f6_rule
      rw [c6R_n hm i0 h10]
      simp only [Option.bind_some]
      rw [if_pos z0]
theorem eq_target (H : RG ROK x sc now draft past saved net paces route m g) (x0 x1 : Int32) : ∃ ans, f5_target x0 x1 x now = some ans ∧ f6_target x0 x1 m = some ans := by
  have H2 := H
  obtain ⟨hW, ht, hm, -⟩ := H2
  obtain ⟨g0, g1, g2, g3⟩ := hW.1
  obtain ⟨t0, t1, t2⟩ := ht.1
  obtain ⟨m0, m1, m2⟩ := hm.1
  have m3 := hm.2.2.2.2.2.2.2.2
  by_cases i0 : IN x0 (g.1 7)
  · obtain ⟨t, htt, rfl⟩ := i0
    obtain ⟨a1, a2, a3, a4⟩ := t2 t htt
    obtain ⟨b1, b2, b3, b4⟩ := m2 t htt
    obtain ⟨c1, c2, c3, c4⟩ := g3 t htt
    have s5 : ∀ k, k < 6 → f5_target (nI t) (nI k) x now = (if k = 0 then some (nI (g.2 8 t)) else if k = 1 then some (nI (g.2 9 t)) else if k = 2 then some (nI (g.2 10 t)) else if g.2 9 t ≤ k - 3 then some (-(nI 4)) else some (nI (g.2 11 (3 * t + (k - 3))))) := by
      intro k hk
      unfold f5_target
      have hv : vin (nI t) 4 = true := by rw [vin_nI (by omega)]; exact decide_eq_true (by omega)
      have hcl : (nI t).toNatClampNeg = t := nI_clamp (by omega)
      rw [t1, if_neg (nn0 (by omega)), if_neg (nI_ge htt (by omega)), if_neg (nn0 (by omega)), if_pos (show nI k ≤ 5 from nI_le (b := 5) (by omega) (by decide))]
      simp only [hv, gd_t, hcl, a1, a2, a3]
      by_cases k0 : k = 0
      · rw [if_pos (show nI k = 0 by rw [k0]; rfl), if_pos k0]
      · rw [if_neg (show ¬ nI k = (0 : Int32) from fun h => k0 ((nI_eq (b := 0) (by omega) (by decide)).mp h)), if_neg k0]
        by_cases k1 : k = 1
        · rw [if_pos (show nI k = 1 by rw [k1]; rfl), if_pos k1]
        · rw [if_neg (show ¬ nI k = (1 : Int32) from fun h => k1 ((nI_eq (b := 1) (by omega) (by decide)).mp h)), if_neg k1]
          by_cases k2 : k = 2
          · rw [if_pos (show nI k = 2 by rw [k2]; rfl), if_pos k2]
            rcases c3 with h | h <;> rw [h]
            · rfl
            · rfl
          · rw [if_neg (show ¬ nI k = (2 : Int32) from fun h => k2 ((nI_eq (b := 2) (by omega) (by decide)).mp h)), if_neg k2]
            have e3 : nI k - 3 = nI (k - 3) := nI_sub (b := 3) (by omega)
            have e4 : nI t * 3 + nI k - 3 = nI (3 * t + (k - 3)) := by
              rw [show (3 : Int32) = nI 3 from rfl, nI_mul, nI_add, nI_sub (by omega)]
              exact congrArg nI (by omega)
            rw [e3, e4]
            by_cases kl : g.2 9 t ≤ k - 3
            · rw [if_pos (nI_le kl (by omega)), if_pos kl]; rfl
            · rw [if_neg (nI_ge (by omega) (by omega)), if_neg kl, vin_nI (by omega), gd_p (show 3 * t + (k - 3) < 12 by omega), nI_clamp (by omega), a4 _ (by omega)]
    by_cases i1 : IN x1 6
    · obtain ⟨k, hk, rfl⟩ := i1
      have s6 : f6_target (nI t) (nI k) m = some (m.2 4 (6 * t + k)) := by
        unfold f6_target
        rw [m1, rin_y htt (by omega)]
        simp only [Option.bind_some]
        rw [if_neg z1, show (5 : Int32) = nI 6 - 1 from rfl, rin_y hk (by decide)]
        simp only [Option.bind_some]
        rw [if_neg z1, show (6 : Int32) * nI t = nI (6 * t) by rw [show (6 : Int32) = nI 6 from rfl, nI_mul], nI_add, vin_nI (by omega), gd_p (show 6 * t + k < 24 by omega), nI_clamp (by omega)]
      by_cases k0 : k = 0
      · exact ⟨_, by rw [s5 k hk, if_pos k0], by rw [s6, k0]; exact congrArg some b1⟩
      · by_cases k1 : k = 1
        · exact ⟨_, by rw [s5 k hk, if_neg k0, if_pos k1], by rw [s6, k1]; exact congrArg some b2⟩
        · by_cases k2 : k = 2
          · exact ⟨_, by rw [s5 k hk, if_neg k0, if_neg k1, if_pos k2], by rw [s6, k2]; exact congrArg some b3⟩
          · by_cases kl : g.2 9 t ≤ k - 3
            · refine ⟨_, by rw [s5 k hk, if_neg k0, if_neg k1, if_neg k2, if_pos kl], ?_⟩
              have := m3 t htt (k - 3) (by omega) kl
              rw [s6, show 6 * t + k = 6 * t + 3 + (k - 3) by omega, this]
            · refine ⟨_, by rw [s5 k hk, if_neg k0, if_neg k1, if_neg k2, if_neg kl], ?_⟩
              have := b4 (k - 3) (by omega)
              rw [s6, show 6 * t + k = 6 * t + 3 + (k - 3) by omega, this]
    · refine ⟨-1, ?_, ?_⟩
      · unfold f5_target
        rw [t1, if_neg (nn0 (by omega)), if_neg (nI_ge htt (by omega))]
        rcases out i1 with h | ⟨a, h1, h2, rfl⟩
        · rw [if_pos h]
        · rw [if_neg (nn0 h1), if_neg (show ¬ nI a ≤ 5 from nI_ge (a := 5) (b := a) (by omega) h1)]
      · unfold f6_target
        rw [m1, rin_y htt (by omega)]
        simp only [Option.bind_some]
        rw [if_neg z1, show (5 : Int32) = nI 6 - 1 from rfl, rin_n i1 (by decide)]
        simp only [Option.bind_some]
        rw [if_pos z0]
  · refine ⟨-1, ?_, ?_⟩
    · unfold f5_target
      rw [t1]
      rcases out i0 with h | ⟨a, h1, h2, rfl⟩
      · rw [if_pos h]
      · rw [if_neg (nn0 h1), if_pos (nI_le h2 h1)]
    · unfold f6_target
      rw [m1, rin_n i0 (by omega)]
      simp only [Option.bind_some]
      rw [if_pos z0]
theorem eq_stack (H : RG ROK x sc now draft past saved net paces route m g) (x0 : Int32) : ∃ ans, f5_stack x0 x now = some ans ∧ f6_stack x0 m = some ans := by
  have H2 := H
  obtain ⟨hW, ht, hm, -⟩ := H2
  obtain ⟨c1, c2, c3⟩ := hW.2.2.1
  have t13 := ht.2.2.2.1
  have t14 := ht.2.2.2.2.1
  have t15 := ht.2.2.2.2.2.2.1
  have m5 := hm.2.2.2.1
  have m6 := hm.2.2.2.2.1
  have m7 := hm.2.2.2.2.2.2.1
  unfold f5_stack f6_stack
  rw [t13, t14, m5, m6]
  by_cases q : (-2 : Int32) ≤ x0
  · rw [if_pos q, if_pos q]
    rcases xI x0 with h | ⟨a, ha, rfl⟩
    · have hn : ¬ (0 : Int32) ≤ x0 := fun h2 => by
        rw [Int32.lt_iff_toInt_lt] at h
        rw [Int32.le_iff_toInt_le] at h2
        omega
      rw [if_neg hn]
      by_cases q2 : x0 = -2
      · exact ⟨_, by rw [if_pos q2], by rw [if_pos q2]⟩
      · have q1 : x0 = -1 := by
          apply Int32.toInt_inj.mp
          rw [Int32.le_iff_toInt_le] at q
          rw [Int32.lt_iff_toInt_lt] at h
          have q2 : ¬ x0.toInt = (-2 : Int32).toInt := fun e => q2 (Int32.toInt_inj.mp e)
          have e2 : (-2 : Int32).toInt = -2 := rfl
          have e1 : (-1 : Int32).toInt = -1 := rfl
          have e0 : (0 : Int32).toInt = 0 := rfl
          omega
        exact ⟨_, by rw [if_neg q2, if_pos q1], by rw [if_neg q2]⟩
    · rw [if_pos (show (0 : Int32) ≤ nI a from nI_le (a := 0) (Nat.zero_le _) ha), if_neg (show ¬ nI a = -2 from nI_ne_neg (b := 2) ha (by omega) (by omega)), if_neg (show ¬ nI a = -1 from nI_ne_neg (b := 1) ha (by omega) (by omega))]
      by_cases q3 : g.1 14 ≤ a
      · exact ⟨_, by rw [if_pos (nI_le q3 ha)], by rw [if_pos (nI_le q3 ha)]⟩
      · have e1 : nI (g.1 14) - 1 - nI a = nI (g.1 14 - 1 - a) := by
          rw [show nI (g.1 14) - 1 = nI (g.1 14 - 1) from nI_sub (b := 1) (by omega), nI_sub (by omega)]
        refine ⟨nI (g.2 15 (g.1 14 - 1 - a)), ?_, ?_⟩
        · rw [if_neg (nI_ge (by omega) (by omega)), e1, vin_nI (by omega), gd_p (show g.1 14 - 1 - a < 12 by omega), nI_clamp (by omega), t15 _ (by omega)]
        · rw [if_neg (nI_ge (by omega) (by omega)), e1, vin_nI (by omega), gd_p (show g.1 14 - 1 - a < 12 by omega), nI_clamp (by omega), m7 _ (by omega)]
  · exact ⟨-1, by rw [if_neg q], by rw [if_neg q]⟩
theorem eq_count (H : RG ROK x sc now draft past saved net paces route m g) (x0 : Int32) : ∃ ans, f5_count x0 x sc now = some ans ∧ f6_count x0 m = some ans := by
  have H2 := H
  obtain ⟨hW, ht, hm, ⟨L, T, l1, l2, -⟩, ⟨pc, pn, P, p1, p2, -⟩, ⟨kc, K, k1, k2, -⟩, -⟩ := H2
  unfold f5_count f6_count
  rw [ht.1.1, ht.2.1, ht.1.2.1, ht.2.2.1, p1, k1, l1, hm.1.1, hm.2.2.1, hm.1.2.1, hm.2.2.2.2.2.1, p2, k2, l2]
  repeat' split
  all_goals exact ⟨_, rfl, rfl⟩
theorem RG.txt (H : RG ROK x sc now draft past saved net paces route m g) {sc' m' : ob} (hX : RX sc' m') (hi : ∀ k, k ≠ 30 → m'.1 k = m.1 k) (hr : ∀ k, k ≠ 29 → m'.2 k = m.2 k) : RG ROK x sc' now draft past saved net paces route m' g := by
  obtain ⟨hW, ht, hm, -, hP, hK, hF, hN, hV, hR⟩ := H
  refine ⟨hW, ht, hm.cg (fun k hk => hi k (by omega)) (fun k hk => hr k (by omega)), hX, ?_, ?_, hF, hN, hV, hR⟩
  · obtain ⟨pc, pn, P', a1, a2, a3, a4, a5, a6⟩ := hP
    exact ⟨pc, pn, P', a1, by rw [hi 9 (by decide)]; exact a2, a3, a4, a5, by rw [hr 10 (by decide)]; exact a6⟩
  · obtain ⟨kc, K, a1, a2, a3, a4⟩ := hK
    exact ⟨kc, K, a1, by rw [hi 11 (by decide)]; exact a2, a3, by rw [hr 12 (by decide)]; exact a4⟩
theorem eq_wipe (H : RG ROK x sc now draft past saved net paces route m g) : ∃ ans sc' m', f5_wipe x sc = some (ans, sc') ∧ f6_wipe m = some (ans, m') ∧ RG ROK x sc' now draft past saved net paces route m' g := by
  have H2 := H
  obtain ⟨-, -, -, ⟨L, T, l1, l2, l3, l4⟩, -⟩ := H2
  refine ⟨nI L, sI sc 1 0, sI m 30 0, ?_, ?_, H.txt ⟨0, T, rfl, rfl, by omega, fun i hi => absurd hi (by omega)⟩ (fun k hk => by simp only [sI_1, sI_2, sA_1, sA_2, sR_1, sR_2, upd_at, sL_1, sL_2, rL_uL, updL_at, if_neg hk]) (fun k _ => rfl)⟩
  · unfold f5_wipe f3_clear
    simp only [lt_v, Option.bind_some]
    rw [l1]
  · unfold f6_wipe
    simp only [lt_v]
    rw [l2]
theorem chr_ok : ∀ a, a < 127 → vp_nar .char ((nI a).toUInt32 % 65536).toInt32 = nI a := by decide
theorem eq_write (H : RG ROK x sc now draft past saved net paces route m g) (x0 : Int32) : ∃ ans sc' m', f5_write x0 x sc = some (ans, sc') ∧ f6_write x0 m = some (ans, m') ∧ RG ROK x sc' now draft past saved net paces route m' g := by
  have H2 := H
  obtain ⟨-, -, -, ⟨L, T, l1, l2, l3, l4⟩, -⟩ := H2
  have bad : x0 < 32 ∨ ¬ x0 ≤ 126 → ∃ ans sc' m', f5_write x0 x sc = some (ans, sc') ∧ f6_write x0 m = some (ans, m') ∧ RG ROK x sc' now draft past saved net paces route m' g := by
    intro h
    refine ⟨-1, sc, m, ?_, ?_, H⟩
    · unfold f5_write
      by_cases q : x0 < 32
      · rw [if_pos q]
      · rw [if_neg q, if_neg (h.resolve_left q)]
    · unfold f6_write f6_in
      by_cases q : x0 < 32
      · rw [if_pos q]
        simp only [Option.bind_some]
        rw [if_pos trivial]
      · have q2 : (126 : Int32) < x0 := by
          have := h.resolve_left q
          rw [Int32.le_iff_toInt_le] at this
          rw [Int32.lt_iff_toInt_lt]
          omega
        rw [if_neg q, if_pos q2]
        simp only [Option.bind_some]
        rw [if_pos trivial]
  rcases xI x0 with h | ⟨a, ha, rfl⟩
  · refine bad (Or.inl ?_)
    rw [Int32.lt_iff_toInt_lt] at h ⊢
    have e0 : (0 : Int32).toInt = 0 := rfl
    have e1 : (32 : Int32).toInt = 32 := rfl
    omega
  · by_cases q1 : a < 32
    · exact bad (Or.inl (nI_lt (b := 32) q1 (by decide)))
    · by_cases q2 : 126 < a
      · exact bad (Or.inr (show ¬ nI a ≤ 126 from nI_ge (a := 126) (b := a) q2 ha))
      · have n1 : ¬ nI a < 32 := nI_nlt (a := a) (b := 32) (by omega) (by omega)
        have n2 : nI a ≤ 126 := nI_le (b := 126) (by omega) (by decide)
        have n3 : ¬ (126 : Int32) < nI a := nI_nlt (a := 126) (b := a) (by omega) (by omega)
        have w6 : f6_write (nI a) m = if m.1 30 = 200 then some (-3, m) else (gd (vin (m.1 30) 200) <| lt (sA m 29 (m.1 30).toNatClampNeg (nI a)) fun t5 => lt (sI t5 30 ((t5.1 30) + 1)) fun t6 => some (t6.1 30, t6)) := by
          unfold f6_write f6_in
          rw [if_neg n1, if_neg n3]
          simp only [Option.bind_some]
          rw [if_neg (by decide)]
        by_cases q : L < 200
        · refine ⟨nI (L + 1), sI (sA sc 0 L (nI a)) 1 (nI (L + 1)), sI (sA m 29 L (nI a)) 30 (nI (L + 1)), ?_, ?_, H.txt ⟨L + 1, fun i => if i = L then a else T i, rfl, rfl, by omega, fun i hi => ?_⟩ (fun k hk => by simp only [sI_1, sI_2, sA_1, sA_2, sR_1, sR_2, upd_at, sL_1, sL_2, rL_uL, updL_at, if_neg hk]) (fun k hk => by simp only [sI_1, sI_2, sA_1, sA_2, sR_1, sR_2, upd_at, sL_1, sL_2, rL_uL, updL_at, if_neg hk])⟩
          · unfold f5_write f3_append
            rw [if_neg n1, if_pos n2, l1, if_pos (show nI L < 200 from nI_lt (b := 200) q (by decide)), chr_ok a (by omega), vin_nI (by omega), gd_p q, nI_clamp (by omega)]
            simp only [lt_v, Option.bind_some]
            have e : (sA sc 0 L (nI a)).1 1 = nI L := l1
            rw [e, nI_1, if_neg (by decide)]
            rfl
          · rw [w6, l2, if_neg (show ¬ nI L = (200 : Int32) from fun h => by
              have := (nI_eq (b := 200) (by omega) (by decide)).mp h
              omega), vin_nI (by omega), gd_p q, nI_clamp (by omega)]
            simp only [lt_v]
            have e : (sA m 29 L (nI a)).1 30 = nI L := l2
            rw [e, nI_1]
            rfl
          · show (if i = L then nI a else sc.2 0 i) = nI (if i = L then a else T i) ∧ (if i = L then nI a else m.2 29 i) = nI (if i = L then a else T i) ∧ 32 ≤ (if i = L then a else T i) ∧ (if i = L then a else T i) ≤ 126
            by_cases qi : i = L
            · simp only [if_pos qi]
              exact ⟨trivial, trivial, by omega, by omega⟩
            · simp only [if_neg qi]
              exact l4 i (by omega)
        · have q200 : L = 200 := by omega
          refine ⟨-3, sc, m, ?_, ?_, H⟩
          · unfold f5_write f3_append
            rw [if_neg n1, if_pos n2, l1, if_neg (show ¬ nI L < 200 by rw [q200]; decide)]
            simp only [Option.bind_some]
            rw [if_pos trivial]
          · rw [w6, l2, if_pos (show nI L = (200 : Int32) by rw [q200]; rfl)]
end QUERY
