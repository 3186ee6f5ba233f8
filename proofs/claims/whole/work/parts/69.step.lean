/-! a rule is done -/
def nst (g : nb) (r : Nat) (i : Nat) : Nat := if i < g.1 14 - 1 then g.2 15 i else (lw (g.2 5 r)).getD (g.1 14 - 1 + (lw (g.2 5 r)).length - 1 - i) 0
def after (g : nb) (r : Nat) : nb := cf g (g.2 4 r) (g.1 14 - 1 + (lw (g.2 5 r)).length) (nst g r)
theorem nst_WF {g : nb} (hW : WF g) {r : Nat} (hr : r < g.1 1) (h1 : 0 < g.1 14) (h2 : g.1 14 - 1 + (lw (g.2 5 r)).length ≤ 12) : WF (after g r) := by
  obtain ⟨a1, a2, a3, a4⟩ := hW.2.1.1 r hr
  refine cf_WF hW a3 h2 (fun i hi => ?_)
  unfold nst
  split
  · exact hW.2.2.1.2.2 i (by omega)
  · rename_i q
    have hl : g.1 14 - 1 + (lw (g.2 5 r)).length - 1 - i < (lw (g.2 5 r)).length := by omega
    rw [List.getD_eq_getElem?_getD, List.getElem?_eq_getElem hl, Option.getD_some]
    exact lw_lt a4 (List.getElem_mem hl)
theorem len_nI {l : List Nat} : nI l.length = nI l.length := rfl
theorem p4_apply {g : nb} (hW : WF g) {r : Nat} (hr : r < g.1 1) (h1 : 0 < g.1 14) (h2 : g.1 14 - 1 + (lw (g.2 5 r)).length ≤ 12) (d : ob) (hd : TW d g) : ∃ d', f4_apply (nI r) d = some d' ∧ TW d' (after g r) := by
  obtain ⟨a1, a2, a3, a4⟩ := hW.2.1.1 r hr
  have h10 := hW.2.1.2.1
  have h14 := hd.2.2.2.2.1
  have h12 := hW.2.2.1.2.1
  have d5 := hd.2.2.2.2.2.1 5 r hr (by omega) (by omega)
  have d4 := hd.2.2.2.2.2.1 4 r hr (by omega) (by omega)
  have d15 := hd.2.2.2.2.2.2.1
  have hl := p5_lettersIn (g.2 5 r) a4
  have n0 : ¬ nI (g.1 14) = 0 := fun h => by
    have := (nI_eq (a := g.1 14) (b := 0) (by omega) (by decide)).mp (show nI (g.1 14) = nI 0 from h)
    omega
  have es : nI (g.1 14) - 1 = nI (g.1 14 - 1) := nI_sub (a := g.1 14) (b := 1) (by omega)
  have tk : f4_takeLetter d = some (nI (g.2 15 (g.1 14 - 1)), sI d 14 (nI (g.1 14 - 1))) := by
    unfold f4_takeLetter
    rw [h14, if_neg n0, es]
    simp only [lt_v]
    have e : (sI d 14 (nI (g.1 14 - 1))).1 14 = nI (g.1 14 - 1) := rfl
    have e2 : (sI d 14 (nI (g.1 14 - 1))).2 15 (g.1 14 - 1) = nI (g.2 15 (g.1 14 - 1)) := d15 _ (by omega)
    rw [e, vin_nI (by omega), gd_p (show g.1 14 - 1 < 12 by omega), nI_clamp (by omega), e2]
  have put : ∀ (o : ob) (c v : Nat), c < 12 → o.1 14 = nI c → f4_putLetter (nI v) o = some (sI (sA o 15 c (nI v)) 14 (nI (c + 1))) := by
    intro o c v hc ho
    unfold f4_putLetter
    rw [ho, if_neg (show ¬ (12 : Int32) ≤ nI c from nI_ge (a := c) (b := 12) hc (by decide)), vin_nI (by omega), gd_p hc, nI_clamp (by omega)]
    simp only [lt_v]
    have e : (sA o 15 c (nI v)).1 14 = nI c := ho
    rw [e, nI_1]
  have low : ∀ i, i < g.1 14 - 1 → nst g r i = g.2 15 i := fun i hi => if_pos hi
  have top : ∀ i, g.1 14 - 1 ≤ i → nst g r i = (lw (g.2 5 r)).getD (g.1 14 - 1 + (lw (g.2 5 r)).length - 1 - i) 0 := fun i hi => if_neg (by omega)
  unfold f4_apply
  rw [tk]
  simp only [Option.bind_some]
  have e5 : (sI d 14 (nI (g.1 14 - 1))).2 5 r = nI (g.2 5 r) := d5
  rw [vin_nI (by omega), gd_p (show r < 10 by omega), nI_clamp (by omega), e5]
  simp only [lt_v]
  rw [hl]
  simp only [Option.bind_some]
  unfold after
  by_cases q0 : g.2 5 r = 0
  · have l0 := lw_0 q0
    rw [l0]
    simp only [List.length_nil]
    rw [if_neg (show ¬ nI 0 = 2 by decide)]
    simp only [Option.bind_some]
    rw [if_pos (show nI 0 ≤ 0 by decide)]
    simp only [Option.bind_some]
    rw [gd_p (show r < 10 by omega)]
    refine ⟨_, rfl, hd.cf (fun k k1 k2 => by simp only [sI_1, sI_2, sA_1, sA_2, sR_1, sR_2, upd_at, sL_1, sL_2, rL_uL, updL_at, if_neg k1, if_neg k2]) (fun k _ => rfl) ?_ rfl (fun i hi => ?_)⟩
    · show d.2 4 r = _
      exact d4
    · rw [low i (by omega)]
      exact d15 i (by omega)
  · rcases lw_cases q0 with ⟨x, hx⟩ | ⟨x, y, hx⟩
    · have f1 := p5_firstLetter (g.2 5 r) x [] a4 hx
      rw [hx]
      simp only [List.length_cons, List.length_nil, Nat.zero_add]
      rw [if_neg (show ¬ nI 1 = 2 by decide)]
      simp only [Option.bind_some]
      rw [if_neg (show ¬ nI 1 ≤ 0 by decide), f1]
      simp only [Option.bind_some]
      rw [put (sI d 14 (nI (g.1 14 - 1))) (g.1 14 - 1) x (by omega) rfl]
      simp only [Option.bind_some]
      rw [gd_p (show r < 10 by omega)]
      refine ⟨_, rfl, hd.cf (fun k k1 k2 => by simp only [sI_1, sI_2, sA_1, sA_2, sR_1, sR_2, upd_at, sL_1, sL_2, rL_uL, updL_at, if_neg k1, if_neg k2]) (fun k k1 => by simp only [sI_1, sI_2, sA_1, sA_2, sR_1, sR_2, upd_at, sL_1, sL_2, rL_uL, updL_at, if_neg k1]) ?_ rfl (fun i hi => ?_)⟩
      · show d.2 4 r = _
        exact d4
      · show (if i = g.1 14 - 1 then nI x else d.2 15 i) = _
        by_cases qi : i = g.1 14 - 1
        · rw [if_pos qi, top i (by omega), hx, qi]
          have : g.1 14 - 1 + [x].length - 1 - (g.1 14 - 1) = 0 := by simp only [List.length_cons, List.length_nil]; omega
          rw [this]
          rfl
        · rw [if_neg qi, low i (by omega)]
          exact d15 i (by omega)
    · have f1 := p5_firstLetter (g.2 5 r) x [y] a4 hx
      have f2 := p5_secondLetter (g.2 5 r) x y a4 hx
      rw [hx] at h2
      simp only [List.length_cons, List.length_nil, Nat.zero_add] at h2
      rw [hx]
      simp only [List.length_cons, List.length_nil, Nat.zero_add]
      rw [if_pos (show nI (1 + 1) = 2 from rfl), f2]
      simp only [Option.bind_some]
      rw [put (sI d 14 (nI (g.1 14 - 1))) (g.1 14 - 1) y (by omega) rfl]
      simp only [Option.bind_some]
      rw [if_neg (show ¬ nI (1 + 1) ≤ 0 by decide), f1]
      simp only [Option.bind_some]
      rw [put _ (g.1 14 - 1 + 1) x (by omega) rfl]
      simp only [Option.bind_some]
      rw [gd_p (show r < 10 by omega)]
      refine ⟨_, rfl, hd.cf (fun k k1 k2 => by simp only [sI_1, sI_2, sA_1, sA_2, sR_1, sR_2, upd_at, sL_1, sL_2, rL_uL, updL_at, if_neg k1, if_neg k2]) (fun k k1 => by simp only [sI_1, sI_2, sA_1, sA_2, sR_1, sR_2, upd_at, sL_1, sL_2, rL_uL, updL_at, if_neg k1]) ?_ rfl (fun i hi => ?_)⟩
      · show d.2 4 r = _
        exact d4
      · show (if i = g.1 14 - 1 + 1 then nI x else (if i = g.1 14 - 1 then nI y else d.2 15 i)) = _
        by_cases qi : i = g.1 14 - 1 + 1
        · rw [if_pos qi, top i (by omega), hx, qi]
          have : g.1 14 - 1 + [x, y].length - 1 - (g.1 14 - 1 + 1) = 0 := by simp only [List.length_cons, List.length_nil]; omega
          rw [this]
          rfl
        · rw [if_neg qi]
          by_cases qj : i = g.1 14 - 1
          · rw [if_pos qj, top i (by omega), hx, qj]
            have : g.1 14 - 1 + [x, y].length - 1 - (g.1 14 - 1) = 1 := by simp only [List.length_cons, List.length_nil]; omega
            rw [this]
            rfl
          · rw [if_neg qj, low i (by omega)]
            exact d15 i (by omega)
theorem p6_steps {g : nb} (hW : WF g) {r : Nat} (hr : r < g.1 1) (h1 : 0 < g.1 14) (h2 : g.1 14 - 1 + (lw (g.2 5 r)).length ≤ 12) (m : ob) (hm : MW m g) : ∃ m', f6_steps (nI r) m = some m' ∧ MW m' (after g r) ∧ (∀ k, k ≠ 5 → k ≠ 6 → m'.1 k = m.1 k) ∧ ∀ k, k ≠ 7 → m'.2 k = m.2 k := by
  obtain ⟨a1, a2, a3, a4⟩ := hW.2.1.1 r hr
  obtain ⟨b1, b2, b3, b4, b5, b6⟩ := hm.2.1 r hr
  have h10 := hW.2.1.2.1
  have m6 := hm.2.2.2.2.1
  have m7 := hm.2.2.2.2.2.2.1
  have h12 := hW.2.2.1.2.1
  have l2 := lw_len (w := g.2 5 r)
  have es : nI (g.1 14) - 1 = nI (g.1 14 - 1) := nI_sub (a := g.1 14) (b := 1) (by omega)
  have e7 : (7 : Int32) * nI r = nI (7 * r) := by rw [show (7 : Int32) = nI 7 from rfl, nI_mul]
  have e73 : nI (7 * r) + 3 = nI (7 * r + 3) := nI_add _ 3
  have e72 : nI (7 * r) + 2 = nI (7 * r + 2) := nI_add _ 2
  have e74 : nI (7 * r) + 4 = nI (7 * r + 4) := nI_add _ 4
  -- the loop: i letters are put
  obtain ⟨z, ez, z1, z2, z3, z4, z5⟩ := wh_fr (st := f6_steps_L24 (nI r)) (fun i (b : ob) => (dn (lw (g.2 5 r)).length i, b)) (lw (g.2 5 r)).length (fun i z => (∀ k, k ≠ 6 → z.1 k = m.1 k) ∧ z.1 6 = nI (g.1 14 - 1 + i) ∧ (∀ k, k ≠ 7 → z.2 k = m.2 k) ∧ (∀ j, j < g.1 14 - 1 → z.2 7 j = m.2 7 j) ∧ ∀ j, j < i → z.2 7 (g.1 14 - 1 + j) = nI ((lw (g.2 5 r)).getD ((lw (g.2 5 r)).length - 1 - j) 0)) (b0 := sI m 6 (nI (g.1 14 - 1))) ⟨fun k hk => by simp only [sI_1, sI_2, sA_1, sA_2, sR_1, sR_2, upd_at, sL_1, sL_2, rL_uL, updL_at, if_neg hk], rfl, fun _ _ => rfl, fun _ _ => rfl, fun _ h => absurd h (by omega)⟩
    (by
      intro z _
      unfold f6_steps_L24
      dsimp only
      rw [dn_end, if_pos (by decide)])
    (by
      rintro i z hi ⟨z1, z2, z3, z4, z5⟩
      have hl : (lw (g.2 5 r)).length - 1 - i < (lw (g.2 5 r)).length := by omega
      have bx := b5 ((lw (g.2 5 r)).length - 1 - i) _ (List.getElem?_eq_getElem hl)
      have gx : (lw (g.2 5 r)).getD ((lw (g.2 5 r)).length - 1 - i) 0 = (lw (g.2 5 r))[(lw (g.2 5 r)).length - 1 - i] := by
        rw [List.getD_eq_getElem?_getD, List.getElem?_eq_getElem hl, Option.getD_some]
      rw [← gx] at bx
      refine ⟨sI (sA z 7 (g.1 14 - 1 + i) (nI ((lw (g.2 5 r)).getD ((lw (g.2 5 r)).length - 1 - i) 0))) 6 (nI (g.1 14 - 1 + (i + 1))), ?_, fun k hk => by simp only [sI_1, sI_2, sA_1, sA_2, sR_1, sR_2, upd_at, sL_1, sL_2, rL_uL, updL_at, if_neg hk]; exact z1 k hk, rfl, fun k hk => by simp only [sI_1, sI_2, sA_1, sA_2, sR_1, sR_2, upd_at, sL_1, sL_2, rL_uL, updL_at, if_neg hk]; exact z3 k hk, fun j hj => ?_, fun j hj => ?_⟩
      · unfold f6_steps_L24
        dsimp only
        rw [dn_s hi, dn_lt hi, if_neg (nn0 (by omega)), e7, e74, nI_add, vin_nI (by omega), gd_p (show 7 * r + 4 + ((lw (g.2 5 r)).length - 1 - i) < 70 by omega), z2, vin_nI (by omega), gd_p (show g.1 14 - 1 + i < 12 by omega), nI_clamp (by omega), nI_clamp (by omega), z3 2 (by decide), bx]
        simp only [lt_v]
        have e : (sA z 7 (g.1 14 - 1 + i) (nI ((lw (g.2 5 r)).getD ((lw (g.2 5 r)).length - 1 - i) 0))).1 6 = nI (g.1 14 - 1 + i) := z2
        rw [e, nI_1]
        rfl
      · show (if j = g.1 14 - 1 + i then _ else z.2 7 j) = _
        rw [if_neg (by omega)]
        exact z4 j hj
      · show (if g.1 14 - 1 + j = g.1 14 - 1 + i then _ else z.2 7 (g.1 14 - 1 + j)) = _
        by_cases q : j = i
        · rw [if_pos (by omega), q]
        · rw [if_neg (by omega)]
          exact z5 j (by omega))
  refine ⟨sI z 5 (nI (g.2 4 r)), ?_, ?_, fun k k1 k2 => by simp only [sI_1, sI_2, sA_1, sA_2, sR_1, sR_2, upd_at, sL_1, sL_2, rL_uL, updL_at, if_neg k1]; exact z1 k k2, z3⟩
  · unfold f6_steps
    rw [m6, es, e7, e73, e72]
    simp only [lt_v]
    rw [vin_nI (by omega), gd_p (show 7 * r + 3 < 70 by omega), nI_clamp (by omega)]
    have e3 : (sI m 6 (nI (g.1 14 - 1))).2 2 (7 * r + 3) = nI (lw (g.2 5 r)).length := b4
    rw [e3, dn_0, ez]
    simp only [Option.bind_some]
    rw [vin_nI (by omega), gd_p (show 7 * r + 2 < 70 by omega), nI_clamp (by omega), z3 2 (by decide), b3]
  · refine hm.cf (fun k _ k1 k2 => by simp only [sI_1, sI_2, sA_1, sA_2, sR_1, sR_2, upd_at, sL_1, sL_2, rL_uL, updL_at, if_neg k1]; exact z1 k k2) (fun k hk => z3 k (by omega)) rfl ?_ (fun i hi => ?_)
    · show z.1 6 = _
      exact z2
    · show z.2 7 i = _
      unfold nst
      by_cases q : i < g.1 14 - 1
      · rw [if_pos q, z4 i q]
        exact m7 i (by omega)
      · rw [if_neg q]
        have := z5 (i - (g.1 14 - 1)) (by omega)
        rw [show g.1 14 - 1 + (i - (g.1 14 - 1)) = i by omega] at this
        rw [this]
        refine congrArg (fun n => nI ((lw (g.2 5 r)).getD n 0)) ?_
        omega
/-- whether a rule applies -/
def apl (g : nb) (r : Nat) : Bool := decide (0 < g.1 14 ∧ g.2 2 r = g.1 13 ∧ g.2 3 r = g.2 15 (g.1 14 - 1))
theorem p4_applies {g : nb} (hW : WF g) {r : Nat} (hr : r < g.1 1) (d : ob) (hd : TW d g) : f4_applies (nI r) d = some (if apl g r = true then nI 1 else nI 0) := by
  obtain ⟨a1, a2, a3, a4⟩ := hW.2.1.1 r hr
  have h10 := hW.2.1.2.1
  have h3 := hW.1.2.1
  have h14 := hd.2.2.2.2.1
  obtain ⟨c1, h12, c3⟩ := hW.2.2.1
  have d2 := hd.2.2.2.2.2.1 2 r hr (by omega) (by omega)
  have d3 := hd.2.2.2.2.2.1 3 r hr (by omega) (by omega)
  unfold f4_applies apl
  rw [h14]
  by_cases q : g.1 14 = 0
  · rw [if_pos (by rw [q]; decide), if_neg (by simp [q])]; rfl
  · have d15 := hd.2.2.2.2.2.2.1 (g.1 14 - 1) (by omega)
    have c15 := c3 (g.1 14 - 1) (by omega)
    have es : nI (g.1 14) - 1 = nI (g.1 14 - 1) := nI_sub (a := g.1 14) (b := 1) (by omega)
    rw [if_neg (show ¬ nI (g.1 14) ≤ 0 from nI_ge (a := 0) (b := g.1 14) (by omega) (by omega)), vin_nI (by omega), gd_p (show r < 10 by omega), nI_clamp (by omega), d2, hd.2.2.2.1, es, vin_nI (by omega), gd_p (show r < 10 by omega), gd_p (show g.1 14 - 1 < 12 by omega), nI_clamp (by omega), d3, d15]
    by_cases q1 : g.2 2 r = g.1 13
    · rw [if_pos (by rw [q1])]
      by_cases q2 : g.2 3 r = g.2 15 (g.1 14 - 1)
      · rw [if_pos (by rw [q2]), if_pos (decide_eq_true ⟨by omega, q1, q2⟩)]; rfl
      · rw [if_neg (fun h => q2 ((nI_eq (by omega) (by omega)).mp h)), if_neg (by simp [q2])]; rfl
    · rw [if_neg (fun h => q1 ((nI_eq (by omega) (by omega)).mp h)), if_neg (by simp [q1])]; rfl
theorem p6_fits {g : nb} (hW : WF g) {r a b : Nat} (hr : r < g.1 1) (ha : a < 2 ^ 31) (hb : b < 2 ^ 31) (m : ob) (hm : MW m g) : f6_fits (nI r) (nI a) (nI b) m = some (if g.2 2 r = a ∧ g.2 3 r = b then nI 1 else nI 0) := by
  obtain ⟨a1, a2, a3, a4⟩ := hW.2.1.1 r hr
  obtain ⟨b1, b2, b3, b4, b5, b6⟩ := hm.2.1 r hr
  have h10 := hW.2.1.2.1
  have h3 := hW.1.2.1
  have e7 : (7 : Int32) * nI r = nI (7 * r) := by rw [show (7 : Int32) = nI 7 from rfl, nI_mul]
  unfold f6_fits
  rw [e7, nI_1, vin_nI (by omega), gd_p (show 7 * r < 70 by omega), nI_clamp (by omega), b1, vin_nI (by omega), gd_p (show 7 * r + 1 < 70 by omega), nI_clamp (by omega), b2]
  by_cases q1 : g.2 2 r = a
  · rw [if_pos (by rw [q1])]
    by_cases q2 : g.2 3 r = b
    · rw [if_pos (by rw [q2]), if_pos ⟨q1, q2⟩]; rfl
    · rw [if_neg (fun h => q2 ((nI_eq (by omega) (by omega)).mp h)), if_neg (fun h => q2 h.2)]; rfl
  · rw [if_neg (fun h => q1 ((nI_eq (by omega) (by omega)).mp h)), if_neg (fun h => q1 h.1)]; rfl
section STEP
variable {ROK : ob → nb → Prop} {x sc now draft net paces route m : ob} {past saved : Nat → ob} {g : nb}
theorem eq_step (H : RG ROK x sc now draft past saved net paces route m g) (x0 : Int32) : CHG ROK sc draft saved net paces route (f5_step x0 x now past) (f6_step x0 m) := by
  have H2 := H
  obtain ⟨hW, ht, hm, -, hP, -⟩ := H2
  have h14 := ht.2.2.2.2.1
  have m6 := hm.2.2.2.2.1
  have m5 := hm.2.2.2.1
  have h3 := hW.1.2.1
  obtain ⟨c1, h12, c3⟩ := hW.2.2.1
  have h10 := hW.2.1.2.1
  by_cases i0 : IN x0 (g.1 1)
  · obtain ⟨r, hr, rfl⟩ := i0
    obtain ⟨a1, a2, a3, a4⟩ := hW.2.1.1 r hr
    obtain ⟨b1, b2, b3, b4, b5, b6⟩ := hm.2.1 r hr
    have l2 := lw_len (w := g.2 5 r)
    have ap := p4_applies hW hr now ht
    have s5 : f5_step (nI r) x now past = (f4_applies (nI r) now).bind fun q3 => (if q3 = 0 then (some ((-2), x, now, past)) else ((f4_heightAfter (nI r) now).bind fun q5 => (if q5 ≤ 12 then ((f5_remember x now past).bind fun q7 => (f4_apply (nI r) now).bind fun q8 => some (q8.1 14, q7.1, q8, q7.2)) else (some ((-3), x, now, past))))) := by
      unfold f5_step
      rw [c5R_y ht hr h10]
      simp only [Option.bind_some]
      rw [if_neg z1]
    rw [ap] at s5
    simp only [Option.bind_some] at s5
    have s6 : f6_step (nI r) m = if apl g r = true then (gd (vin ((7 * nI r) + 3) 70) <| (if (((m.1 6) - 1) + (m.2 2 ((7 * nI r) + 3).toNatClampNeg)) ≤ 12 then ((f6_notes m).bind fun q9 => (f6_steps (nI r) q9).bind fun q10 => some (q10.1 6, q10)) else (some ((-3), m)))) else some (-2, m) := by
      unfold f6_step
      rw [c6R_y hm hr h10]
      simp only [Option.bind_some]
      rw [if_neg z1]
      by_cases q : g.1 14 = 0
      · have : ¬ apl g r = true := by unfold apl; simp [q]
        rw [if_pos (show m.1 6 = 0 by rw [m6, q]; rfl), if_neg this]
      · have es : nI (g.1 14) - 1 = nI (g.1 14 - 1) := nI_sub (a := g.1 14) (b := 1) (by omega)
        have n0 : ¬ m.1 6 = 0 := by
          rw [m6]
          exact fun h => q ((nI_eq (a := g.1 14) (b := 0) (by omega) (by decide)).mp (show nI (g.1 14) = nI 0 from h))
        have c15 := c3 (g.1 14 - 1) (by omega)
        rw [if_neg n0, m6, es, vin_nI (by omega), gd_p (show g.1 14 - 1 < 12 by omega), nI_clamp (by omega), m5, hm.2.2.2.2.2.2.1 _ (by omega), p6_fits hW hr (by omega) (by omega) m hm]
        simp only [Option.bind_some]
        by_cases qa : apl g r = true
        · have qa' := of_decide_eq_true qa
          rw [if_pos qa, if_pos (show g.2 2 r = g.1 13 ∧ g.2 3 r = g.2 15 (g.1 14 - 1) from qa'.2), if_neg z1]
        · have : ¬ (g.2 2 r = g.1 13 ∧ g.2 3 r = g.2 15 (g.1 14 - 1)) := fun h => qa (decide_eq_true ⟨by omega, h⟩)
          rw [if_neg qa, if_neg this, if_pos z0]
    by_cases qa : apl g r = true
    · have qa' := of_decide_eq_true qa
      obtain ⟨hpos, -⟩ := qa'
      have es : nI (g.1 14) - 1 = nI (g.1 14 - 1) := nI_sub (a := g.1 14) (b := 1) (by omega)
      have e73 : (7 : Int32) * nI r + 3 = nI (7 * r + 3) := by rw [show (7 : Int32) = nI 7 from rfl, nI_mul, show (3 : Int32) = nI 3 from rfl, nI_add]
      have hh : f4_heightAfter (nI r) now = some (nI (g.1 14 - 1 + (lw (g.2 5 r)).length)) := by
        unfold f4_heightAfter
        rw [vin_nI (by omega), gd_p (show r < 10 by omega), nI_clamp (by omega), ht.2.2.2.2.2.1 5 r hr (by omega) (by omega), p5_lettersIn _ a4]
        simp only [Option.bind_some]
        rw [h14, es, nI_add]
      rw [if_pos qa, if_neg z1, hh] at s5
      simp only [Option.bind_some] at s5
      rw [if_pos qa, e73, vin_nI (by omega), gd_p (show 7 * r + 3 < 70 by omega), nI_clamp (by omega), m6, es, b4, nI_add] at s6
      by_cases qf : g.1 14 - 1 + (lw (g.2 5 r)).length ≤ 12
      · obtain ⟨x', past', m1, ex, em, n1, n2, n3, n4, n5, n6⟩ := note hW ht hm hP
        have h1m : MW m1 g := hm.cg (fun k hk => n5 k (by omega)) (fun k hk => n6 k (by omega))
        obtain ⟨d', ed, td⟩ := p4_apply hW hr hpos qf now ht
        obtain ⟨m', e6, tm, mi, mr⟩ := p6_steps hW hr hpos qf m1 h1m
        have le12 : nI (g.1 14 - 1 + (lw (g.2 5 r)).length) ≤ 12 := nI_le (b := 12) qf (by decide)
        rw [if_pos le12, ex] at s5
        simp only [Option.bind_some] at s5
        rw [ed] at s5
        simp only [Option.bind_some] at s5
        rw [if_pos le12, em] at s6
        simp only [Option.bind_some] at s6
        rw [e6] at s6
        simp only [Option.bind_some] at s6
        have e14 : d'.1 14 = nI (g.1 14 - 1 + (lw (g.2 5 r)).length) := td.2.2.2.2.1
        have e06 : m'.1 6 = nI (g.1 14 - 1 + (lw (g.2 5 r)).length) := tm.2.2.2.2.1
        rw [e14] at s5
        rw [e06] at s6
        exact ⟨_, x', d', past', m', _, s5, s6, H.cfg n1 n2 n3 n5 n6 (nst_WF hW hr hpos qf) td tm mi mr⟩
      · have nle : ¬ nI (g.1 14 - 1 + (lw (g.2 5 r)).length) ≤ 12 := nI_ge (a := 12) (b := g.1 14 - 1 + (lw (g.2 5 r)).length) (by omega) (by omega)
        rw [if_neg nle] at s5 s6
        exact CHG.no H s5 s6
    · rw [if_neg qa, if_pos z0] at s5
      rw [if_neg qa] at s6
      exact CHG.no H s5 s6
  · refine CHG.no H (v := -1) ?_ ?_
    · unfold f5_step
      rw [c5R_n ht i0 h10]
      simp only [Option.bind_some]
      rw [if_pos z0]
    · unfold f6_step
      rw [c6R_n hm i0 h10]
      simp only [Option.bind_some]
      rw [if_pos z0]
end STEP
