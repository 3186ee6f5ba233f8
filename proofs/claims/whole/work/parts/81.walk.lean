/-! walks: the numbers -/
theorem nIz {v : Nat} (h : v < 2 ^ 31) (q : ¬ v = 0) : ¬ nI v = 0 := fun e => q ((nI_eq (a := v) (b := 0) h (by decide)).mp e)
def lI (n : Nat) : Int64 := Int64.ofNat n
theorem lI_add (a b : Nat) : lI a + lI b = lI (a + b) := (Int64.ofNat_add a b).symm
theorem lI_mul (a b : Nat) : lI a * lI b = lI (a * b) := (Int64.ofNat_mul a b).symm
theorem lI_toInt {a : Nat} (h : a < 2 ^ 63) : (lI a).toInt = (a : Int) := Int64.toInt_ofNat_of_lt h
theorem lI_sub {a b : Nat} (h : b ≤ a) : lI a - lI b = lI (a - b) := by
  have e : lI a = lI (a - b) + lI b := by rw [lI_add, Nat.sub_add_cancel h]
  rw [e, Int64.add_sub_cancel]
theorem lI_div {a b : Nat} (ha : a < 2 ^ 63) (hb : b < 2 ^ 63) : lI a / lI b = lI (a / b) := by
  apply Int64.toInt_inj.mp
  rw [Int64.toInt_div, lI_toInt ha, lI_toInt hb, lI_toInt (Nat.lt_of_le_of_lt (Nat.div_le_self a b) ha), Int.tdiv_eq_ediv_of_nonneg (by omega)]
  rw [show (a : Int) / (b : Int) = ((a / b : Nat) : Int) from (Int.natCast_ediv a b).symm]
  have := Nat.div_le_self a b
  generalize a / b = q at this ⊢
  exact Int.bmod_eq_of_le (by omega) (by omega)
theorem lI_rem {a b : Nat} (ha : a < 2 ^ 63) (hb : b < 2 ^ 63) : lI a - lI a / lI b * lI b = lI (a % b) := by
  rw [lI_div ha hb, lI_mul, lI_sub (Nat.div_mul_le_self a b)]
  refine congrArg lI ?_
  have := Nat.div_add_mod a b
  have h2 : a / b * b = b * (a / b) := Nat.mul_comm _ _
  omega
theorem lI_of {a : Nat} (h : a < 2 ^ 31) : (nI a).toInt64 = lI a := by
  apply Int64.toInt_inj.mp
  rw [lI_toInt (by omega), Int32.toInt_toInt64, nI_toInt h]
theorem lI_to {a : Nat} (h : a < 2 ^ 31) : (lI a).toInt32 = nI a := by
  apply Int32.toInt_inj.mp
  rw [nI_toInt h, Int64.toInt_toInt32, lI_toInt (by omega)]
  exact Int.bmod_eq_of_le (by omega) (by omega)
theorem lI_nz {a : Nat} (h0 : 0 < a) (h : a < 2 ^ 63) : nzl (lI a) = true := by
  have : ¬ lI a = 0 := by
    intro e
    have := congrArg Int64.toInt e
    rw [lI_toInt h] at this
    have z : (0 : Int64).toInt = 0 := by decide
    rw [z] at this
    omega
  simpa [nzl] using this
def drx (z k : Nat) : Nat := (7919 * z + 6151 * k + 1) * (7919 * z + 6151 * k + 1) % 65521
theorem drx_lt (z k : Nat) : drx z k < 65521 := Nat.mod_lt _ (by decide)
theorem drx_l {z k : Nat} (hz : z < 10000) (hk : k < 60) : ((((7919 * ((nI z).toInt64)) + (6151 * ((nI k).toInt64))) + 1) * (((7919 * ((nI z).toInt64)) + (6151 * ((nI k).toInt64))) + 1)) - ((((7919 * ((nI z).toInt64)) + (6151 * ((nI k).toInt64))) + 1) * (((7919 * ((nI z).toInt64)) + (6151 * ((nI k).toInt64))) + 1)) / 65521 * 65521 = lI (drx z k) := by
  have e : 7919 * ((nI z).toInt64) + 6151 * ((nI k).toInt64) + 1 = lI (7919 * z + 6151 * k + 1) := by
    rw [lI_of (by omega), lI_of (by omega), show (7919 : Int64) = lI 7919 from rfl, show (6151 : Int64) = lI 6151 from rfl, show (1 : Int64) = lI 1 from rfl, lI_mul, lI_mul, lI_add, lI_add]
  rw [e, lI_mul, show (65521 : Int64) = lI 65521 from rfl]
  have hx : 7919 * z + 6151 * k + 1 ≤ 79600000 := by omega
  have hb : (7919 * z + 6151 * k + 1) * (7919 * z + 6151 * k + 1) ≤ 79600000 * 79600000 := Nat.mul_le_mul hx hx
  exact lI_rem (Nat.lt_of_le_of_lt hb (by decide)) (by decide)
theorem p5_drawn {z k : Nat} (hz : z < 10000) (hk : k < 60) : f5_drawn (nI z) (nI k) = some (nI (drx z k / 4)) := by
  have h := drx_lt z k
  unfold f5_drawn
  rw [drx_l hz hk, lI_to (by omega), show (4 : Int32) = nI 4 from rfl, idiv_nI (by omega) (by decide)]
theorem p6_drawn {z k f : Nat} (hz : z < 10000) (hk : k < 60) (hf : f < 20) : (((((((7919 * ((nI z).toInt64)) + (6151 * ((nI k).toInt64))) + 1) * (((7919 * ((nI z).toInt64)) + (6151 * ((nI k).toInt64))) + 1)) - ((((7919 * ((nI z).toInt64)) + (6151 * ((nI k).toInt64))) + 1) * (((7919 * ((nI z).toInt64)) + (6151 * ((nI k).toInt64))) + 1)) / 65521 * 65521) / 4) - ((((((7919 * ((nI z).toInt64)) + (6151 * ((nI k).toInt64))) + 1) * (((7919 * ((nI z).toInt64)) + (6151 * ((nI k).toInt64))) + 1)) - ((((7919 * ((nI z).toInt64)) + (6151 * ((nI k).toInt64))) + 1) * (((7919 * ((nI z).toInt64)) + (6151 * ((nI k).toInt64))) + 1)) / 65521 * 65521) / 4) / ((nI f).toInt64) * ((nI f).toInt64)).toInt32 = nI (drx z k / 4 % f) := by
  have h := drx_lt z k
  have h2 : drx z k / 4 < 65521 := Nat.lt_of_le_of_lt (Nat.div_le_self _ _) h
  have h3 : drx z k / 4 % f < 65521 := Nat.lt_of_le_of_lt (Nat.mod_le _ _) h2
  rw [drx_l hz hk, show (4 : Int64) = lI 4 from rfl, lI_div (by omega) (by decide), lI_of (by omega), lI_rem (by omega) (by omega), lI_to (by omega)]
/-! walks: the rule that is picked -/
def cntA (g : nb) : Nat → Nat → Nat
  | _, 0 => 0
  | r, k + 1 => (if apl g r = true then 1 else 0) + cntA g (r + 1) k
theorem cntA_s (g : nb) (r k : Nat) : cntA g r (k + 1) = (if apl g r = true then 1 else 0) + cntA g (r + 1) k := rfl
theorem cntA_le (g : nb) : ∀ r k, cntA g r k ≤ k
  | _, 0 => Nat.le_refl 0
  | r, k + 1 => by
    have := cntA_le g (r + 1) k
    rw [cntA_s]
    split <;> omega
theorem apl_i {g : nb} (h : 0 < g.1 14) (r : Nat) : apl g r = true ↔ g.2 2 r = g.1 13 ∧ g.2 3 r = g.2 15 (g.1 14 - 1) := by
  unfold apl
  rw [decide_eq_true_iff]
  exact ⟨fun a => a.2, fun a => ⟨h, a⟩⟩
theorem k4_cnt {g : nb} (hW : WF g) (h1 : 0 < g.1 14) (d : ob) (hd : TW d g) : ∀ k r c, r + k = g.1 1 → c ≤ r → wh (f4_rulesFor_L5 (nI (g.1 13)) (nI (g.2 15 (g.1 14 - 1))) d) (nI c, nI r) = some (1, (nI (c + cntA g r k), nI (g.1 1)))
  | 0, r, c, e, _ => by
    have h10 := hW.2.1.2.1
    apply wh_off
    unfold f4_rulesFor_L5
    dsimp only
    rw [hd.2.1, if_pos (nI_le (by omega) (by omega)), show r = g.1 1 by omega]
    rfl
  | k + 1, r, c, e, hc => by
    have h10 := hW.2.1.2.1
    have hr : r < g.1 1 := by omega
    obtain ⟨a1, a2, a3, a4⟩ := hW.2.1.1 r hr
    have h3 := hW.1.2.1
    obtain ⟨c1, h12, c3⟩ := hW.2.2.1
    have c15 := c3 (g.1 14 - 1) (by omega)
    have d2 := hd.2.2.2.2.2.1 2 r hr (by omega) (by omega)
    have d3 := hd.2.2.2.2.2.1 3 r hr (by omega) (by omega)
    have st : f4_rulesFor_L5 (nI (g.1 13)) (nI (g.2 15 (g.1 14 - 1))) d (nI c, nI r) = some (0, (nI (c + if apl g r = true then 1 else 0), nI (r + 1))) := by
      unfold f4_rulesFor_L5
      dsimp only
      rw [hd.2.1, if_neg (nI_ge hr (by omega)), vin_nI (by omega), gd_p (show r < 10 by omega), gd_p (show r < 10 by omega), nI_clamp (by omega), d2, d3]
      by_cases q1 : g.2 2 r = g.1 13
      · by_cases q2 : g.2 3 r = g.2 15 (g.1 14 - 1)
        · rw [if_pos (by rw [q1]), if_pos (by rw [q2]), if_pos ((apl_i h1 r).mpr ⟨q1, q2⟩)]
          simp only [Option.bind_some, lt_v]
          rw [nI_1, nI_1]
        · rw [if_pos (by rw [q1]), if_neg (fun h => q2 ((nI_eq (by omega) (by omega)).mp h)), if_neg (fun h => q2 ((apl_i h1 r).mp h).2)]
          simp only [Option.bind_some, lt_v]
          rw [nI_1]
          rfl
      · rw [if_neg (fun h => q1 ((nI_eq (by omega) (by omega)).mp h)), if_neg (fun h => q1 ((apl_i h1 r).mp h).1)]
        simp only [Option.bind_some, lt_v]
        rw [nI_1]
        rfl
    rw [wh_on st, k4_cnt hW h1 d hd k (r + 1) _ (by omega) (by split <;> omega)]
    rw [cntA_s, Nat.add_assoc]
theorem k6_cnt {g : nb} (hW : WF g) (h1 : 0 < g.1 14) (m : ob) (hm : MW m g) : ∀ k r c, r + k = g.1 1 → c ≤ r → wh (f6_fitting_L4 m) (nI c, nI r) = some (1, (nI (c + cntA g r k), nI (g.1 1)))
  | 0, r, c, e, _ => by
    have h10 := hW.2.1.2.1
    apply wh_off
    unfold f6_fitting_L4
    dsimp only
    rw [hm.2.2.1, if_pos (nI_le (by omega) (by omega)), show r = g.1 1 by omega]
    rfl
  | k + 1, r, c, e, hc => by
    have h10 := hW.2.1.2.1
    have hr : r < g.1 1 := by omega
    have h3 := hW.1.2.1
    obtain ⟨c1, h12, c3⟩ := hW.2.2.1
    have c15 := c3 (g.1 14 - 1) (by omega)
    have es : nI (g.1 14) - 1 = nI (g.1 14 - 1) := nI_sub (a := g.1 14) (b := 1) (by omega)
    have st : f6_fitting_L4 m (nI c, nI r) = some (0, (nI (c + if apl g r = true then 1 else 0), nI (r + 1))) := by
      unfold f6_fitting_L4
      dsimp only
      rw [hm.2.2.1, if_neg (nI_ge hr (by omega)), hm.2.2.2.2.1, if_neg (show ¬ nI (g.1 14) ≤ 0 from nI_ge (a := 0) (b := g.1 14) (by omega) (by omega)), es, vin_nI (by omega), gd_p (show g.1 14 - 1 < 12 by omega), nI_clamp (by omega), hm.2.2.2.1, hm.2.2.2.2.2.2.1 _ (by omega), p6_fits hW hr (by omega) (by omega) m hm]
      simp only [Option.bind_some, lt_v]
      by_cases q : apl g r = true
      · rw [if_pos q, if_pos ((apl_i h1 r).mp q), if_neg z1]
        simp only [Option.bind_some]
        rw [nI_1, nI_1]
      · rw [if_neg q, if_neg (fun h => q ((apl_i h1 r).mpr h)), if_pos z0]
        simp only [Option.bind_some]
        rw [nI_1, show (0 : Int32) = nI 0 from rfl, nI_add]
    rw [wh_on st, k6_cnt hW h1 m hm k (r + 1) _ (by omega) (by split <;> omega)]
    rw [cntA_s, Nat.add_assoc]
theorem k46_at {g : nb} (hW : WF g) (h1 : 0 < g.1 14) (d m : ob) (hd : TW d g) (hm : MW m g) : ∀ k r v, r + k = g.1 1 → v < cntA g r k → ∃ q a b, q < g.1 1 ∧ apl g q = true ∧ wh (f4_choose_L44 d) (nI v, nI r) = some (1, (a, nI q)) ∧ wh (f6_fittingAt_L4 m) (nI v, nI r) = some (1, (b, nI q))
  | 0, r, v, e, hv => absurd hv (Nat.not_lt_zero _)
  | k + 1, r, v, e, hv => by
    have h10 := hW.2.1.2.1
    have hr : r < g.1 1 := by omega
    have h3 := hW.1.2.1
    obtain ⟨c1, h12, c3⟩ := hW.2.2.1
    have c15 := c3 (g.1 14 - 1) (by omega)
    have es : nI (g.1 14) - 1 = nI (g.1 14 - 1) := nI_sub (a := g.1 14) (b := 1) (by omega)
    have hb := cntA_le g r (k + 1)
    have ap := p4_applies hW hr d hd
    have sd : f4_choose_L44 d (nI v, nI r) = if apl g r = true then (if v = 0 then some (1, (nI v, nI r)) else some (0, (nI (v - 1), nI (r + 1)))) else some (0, (nI v, nI (r + 1))) := by
      unfold f4_choose_L44
      dsimp only
      rw [hd.2.1, if_neg (nI_ge hr (by omega)), ap]
      simp only [Option.bind_some, lt_v]
      by_cases q : apl g r = true
      · rw [if_pos q, if_pos q, if_neg z1]
        by_cases qv : v = 0
        · rw [if_pos (show nI v = 0 by rw [qv]; rfl), if_pos qv]
        · rw [if_neg (nIz (by omega) qv), if_neg qv, show nI v + (-1) = nI (v - 1) from by rw [show (-1 : Int32) = -(nI 1) from rfl, ← Int32.sub_eq_add_neg, nI_sub (by omega)], nI_1]
      · rw [if_neg q, if_neg q, if_pos z0, nI_1]
    have sm : f6_fittingAt_L4 m (nI v, nI r) = if apl g r = true then (if v = 0 then some (1, (nI v, nI r)) else some (0, (nI (v - 1), nI (r + 1)))) else some (0, (nI v, nI (r + 1))) := by
      unfold f6_fittingAt_L4
      dsimp only
      rw [hm.2.2.1, if_neg (nI_ge hr (by omega)), hm.2.2.2.2.1, es, vin_nI (by omega), gd_p (show g.1 14 - 1 < 12 by omega), nI_clamp (by omega), hm.2.2.2.1, hm.2.2.2.2.2.2.1 _ (by omega), p6_fits hW hr (by omega) (by omega) m hm]
      simp only [Option.bind_some, lt_v]
      by_cases q : apl g r = true
      · rw [if_pos q, if_pos ((apl_i h1 r).mp q), if_neg z1]
        by_cases qv : v = 0
        · rw [if_pos (show nI v = 0 by rw [qv]; rfl), if_pos qv]
        · rw [if_neg (nIz (by omega) qv), if_neg qv, show nI v + (-1) = nI (v - 1) from by rw [show (-1 : Int32) = -(nI 1) from rfl, ← Int32.sub_eq_add_neg, nI_sub (by omega)], nI_1]
      · rw [if_neg q, if_neg (fun h => q ((apl_i h1 r).mpr h)), if_pos z0, nI_1]
    rw [cntA_s] at hv
    by_cases q : apl g r = true
    · rw [if_pos q] at sd sm hv
      by_cases qv : v = 0
      · rw [if_pos qv] at sd sm
        exact ⟨r, _, _, hr, q, wh_off sd, wh_off sm⟩
      · rw [if_neg qv] at sd sm
        obtain ⟨q', a, b, e1, e2, e3, e4⟩ := k46_at hW h1 d m hd hm k (r + 1) (v - 1) (by omega) (by omega)
        exact ⟨q', a, b, e1, e2, by rw [wh_on sd]; exact e3, by rw [wh_on sm]; exact e4⟩
    · rw [if_neg q] at sd sm hv
      obtain ⟨q', a, b, e1, e2, e3, e4⟩ := k46_at hW h1 d m hd hm k (r + 1) v (by omega) (by omega)
      exact ⟨q', a, b, e1, e2, by rw [wh_on sd]; exact e3, by rw [wh_on sm]; exact e4⟩
theorem k46_pick {g : nb} (hW : WF g) (d m : ob) (hd : TW d g) (hm : MW m g) (D : Nat) (hD : D < 65521) : (f4_choose (nI D) d = some (-1) ∧ f6_fitting m = some 0) ∨ ∃ q f, q < g.1 1 ∧ apl g q = true ∧ 0 < f ∧ f < 20 ∧ f4_choose (nI D) d = some (nI q) ∧ f6_fitting m = some (nI f) ∧ f6_fittingAt (nI (D % f)) m = some (nI q) := by
  have h10 := hW.2.1.2.1
  have h3 := hW.1.2.1
  obtain ⟨c1, h12, c3⟩ := hW.2.2.1
  by_cases h0 : g.1 14 = 0
  · refine Or.inl ⟨?_, ?_⟩
    · unfold f4_choose
      rw [hd.2.2.2.2.1, if_pos (show nI (g.1 14) ≤ 0 by rw [h0]; decide)]
      simp only [Option.bind_some]
      rw [if_pos trivial]
    · have : f6_fitting_L4 m (0, 0) = some (1, (0, 0)) := by
        unfold f6_fitting_L4
        dsimp only
        rw [hm.2.2.2.2.1, if_pos (show nI (g.1 14) ≤ 0 by rw [h0]; decide)]
        split <;> rfl
      unfold f6_fitting
      rw [wh_off this]
      rfl
  · have h1 : 0 < g.1 14 := by omega
    have c15 := c3 (g.1 14 - 1) (by omega)
    have es : nI (g.1 14) - 1 = nI (g.1 14 - 1) := nI_sub (a := g.1 14) (b := 1) (by omega)
    have a1 := k4_cnt hW h1 d hd (g.1 1) 0 0 (by omega) (Nat.le_refl 0)
    have a2 := k6_cnt hW h1 m hm (g.1 1) 0 0 (by omega) (Nat.le_refl 0)
    have hb := cntA_le g 0 (g.1 1)
    rw [Nat.zero_add] at a1 a2
    have e6 : f6_fitting m = some (nI (cntA g 0 (g.1 1))) := by
      have a2 : wh (f6_fitting_L4 m) (0, 0) = _ := a2
      unfold f6_fitting
      rw [a2]
      rfl
    have e4 : f4_rulesFor (nI (g.1 13)) (nI (g.2 15 (g.1 14 - 1))) d = some (nI (cntA g 0 (g.1 1))) := by
      have a1 : wh (f4_rulesFor_L5 (nI (g.1 13)) (nI (g.2 15 (g.1 14 - 1))) d) (0, 0) = _ := a1
      unfold f4_rulesFor
      rw [a1]
      rfl
    have ech : f4_choose (nI D) d = (if nI (cntA g 0 (g.1 1)) = 0 then (some (-1)) else (gd (nz (nI (cntA g 0 (g.1 1)))) <| lt (nI D - nI D / nI (cntA g 0 (g.1 1)) * nI (cntA g 0 (g.1 1))) fun y4 => (wh (f4_choose_L44 d) (y4, 0)).bind fun q5 => (if q5.1 = 1 then (some q5.2.2) else (some (-1))))) := by
      unfold f4_choose
      rw [hd.2.2.2.2.1, if_neg (show ¬ nI (g.1 14) ≤ 0 from nI_ge (a := 0) (b := g.1 14) (by omega) (by omega)), es, vin_nI (by omega), gd_p (show g.1 14 - 1 < 12 by omega), nI_clamp (by omega), hd.2.2.2.1, hd.2.2.2.2.2.2.1 _ (by omega), e4]
      simp only [Option.bind_some]
    generalize hf : cntA g 0 (g.1 1) = f at hb e6 ech
    by_cases q0 : f = 0
    · subst q0
      refine Or.inl ⟨?_, e6⟩
      rw [ech, if_pos (by rfl)]
    · have n0 : ¬ nI f = 0 := nIz (by omega) q0
      obtain ⟨q, a, b, b1, b2, b3, b4⟩ := k46_at hW h1 d m hd hm (g.1 1) 0 (D % f) (by omega) (by rw [hf]; exact Nat.mod_lt _ (by omega))
      refine Or.inr ⟨q, f, b1, b2, by omega, by omega, ?_, e6, ?_⟩
      · have b3 : wh (f4_choose_L44 d) (nI (D % f), 0) = _ := b3
        have nz1 : nz (nI f) = true := by simpa [nz] using n0
        rw [ech, if_neg n0, nz1, gd_t, lt_v, irem_nI (by omega) (by omega), b3]
        simp only [Option.bind_some]
        rw [if_pos trivial]
      · have b4 : wh (f6_fittingAt_L4 m) (nI (D % f), 0) = _ := b4
        unfold f6_fittingAt
        rw [b4]
        simp only [Option.bind_some]
        rw [if_pos trivial]
