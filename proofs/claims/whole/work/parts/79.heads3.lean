section HEADS3
variable {g : nb}
theorem p6_headsOfPile (hW : WF g) (m0 : ob) (hm0 : MW m0 g) (b : Nat → Nat) (hb : b01 b 36) (hP : ∀ p x s, PS b p x s ↔ Pop g p x s) (m : ob) (k0 : keepH m0 m) (h25 : ∀ k, k < 36 → m.2 25 k = nI (b k)) (h26 : ∀ k, k < 12 → m.2 26 k = nI 0) :
    ∃ a m' hb', f6_headsOfPile m = some m' ∧ a < 8 ∧ keepH m0 m' ∧ (∀ k, k < 36 → m'.2 25 k = nI (b k)) ∧ (∀ p, p < 3 → m'.2 27 p = nI (if a.testBit p = true then 1 else 0)) ∧ (∀ k, k < 12 → m'.2 26 k = nI (hb' k)) ∧ b01 hb' 12 ∧ (∀ s, a.testBit s = true ↔ BT g (g.1 14) s) ∧ ∀ p x, HQ hb' p x ↔ HI g (g.1 14) p x := by
  have h3 := hW.1.2.1
  obtain ⟨c1, c2, c3⟩ := hW.2.2.1
  have m5 : m.1 5 = nI (g.1 13) := by rw [k0.1]; exact hm0.2.2.2.1
  have m6 : m.1 6 = nI (g.1 14) := by rw [k0.1]; exact hm0.2.2.2.2.1
  -- bare at first
  obtain ⟨u, eu, ku, u25, u26, u27⟩ := wh_fr (st := f6_headsOfPile_L2) (fun i (b : ob) => (nI i, b)) 3 (fun i z => keepH m0 z ∧ z.2 25 = m.2 25 ∧ z.2 26 = m.2 26 ∧ ∀ p, p < i → z.2 27 p = nI (if (2 ^ g.1 13).testBit p = true then 1 else 0)) (b0 := m) ⟨k0, rfl, rfl, fun _ h => absurd h (by omega)⟩
    (by
      intro z _
      unfold f6_headsOfPile_L2
      dsimp only
      rw [if_pos (by decide)])
    (by
      rintro i z hi ⟨k, z25, z26, z27⟩
      refine ⟨sA z 27 i (nI (if (2 ^ g.1 13).testBit i = true then 1 else 0)), ?_, k.tr ⟨rfl, fun k _ _ q => by simp only [sI_1, sI_2, sA_1, sA_2, sR_1, sR_2, upd_at, sL_1, sL_2, rL_uL, updL_at, if_neg q]⟩, z25, z26, fun p hp => ?_⟩
      · unfold f6_headsOfPile_L2
        dsimp only
        have e5 : z.1 5 = nI (g.1 13) := by rw [k.1]; exact hm0.2.2.2.1
        rw [if_neg (show ¬ (3 : Int32) ≤ nI i from nI_ge (a := i) (b := 3) hi (by decide)), e5]
        have : (if nI i = nI (g.1 13) then some (1 : Int32) else some 0) = some (nI (if (2 ^ g.1 13).testBit i = true then 1 else 0)) := by
          by_cases q : i = g.1 13
          · rw [if_pos (by rw [q]), if_pos (by rw [tb_pow]; exact decide_eq_true q.symm)]; rfl
          · rw [if_neg (fun h => q ((nI_eq (by omega) (by omega)).mp h)), if_neg (by rw [tb_pow, decide_eq_true_eq]; omega)]; rfl
        rw [this]
        simp only [Option.bind_some]
        rw [vin_nI (by omega), gd_p hi, nI_clamp (by omega)]
        simp only [lt_v, nI_1]
      · show (if p = i then _ else z.2 27 p) = _
        by_cases q : p = i
        · rw [if_pos q, q]
        · rw [if_neg q]; exact z27 p (by omega))
  obtain ⟨y, ey, ky, y25, a, y1, y27, hb', y26, y01, yb, yh⟩ := wh_fr (st := f6_headsOfPile_L39) (fun i (b : ob) => (dn (g.1 14) i, b)) (g.1 14) (fun i z => keepH m0 z ∧ (∀ k, k < 36 → z.2 25 k = nI (b k)) ∧ ∃ a, a < 8 ∧ (∀ p, p < 3 → z.2 27 p = nI (if a.testBit p = true then 1 else 0)) ∧ ∃ hb', (∀ k, k < 12 → z.2 26 k = nI (hb' k)) ∧ b01 hb' 12 ∧ (∀ s, a.testBit s = true ↔ BT g i s) ∧ ∀ p x, HQ hb' p x ↔ HI g i p x) (b0 := u)
    ⟨ku, fun k hk => by rw [u25]; exact h25 k hk, 2 ^ g.1 13, Nat.pow_lt_pow_right (n := 3) (by omega) (by omega), u27, fun _ => 0, fun k hk => by rw [u26]; exact h26 k hk, fun _ _ => Or.inl rfl, fun s => by
      rw [tb_pow, decide_eq_true_eq]
      exact ⟨fun h => h.symm, fun h => Eq.symm h⟩, fun p x => ⟨fun h => absurd h.2.2 (show ¬ (0 : Nat) = 1 by decide), fun ⟨j, hj, _⟩ => absurd hj (by omega)⟩⟩
    (by
      intro y _
      unfold f6_headsOfPile_L39
      dsimp only
      rw [dn_end, if_pos (by decide)])
    (by
      rintro i z hi ⟨k, z25, a, z1, z27, hb1, z26, z01, zb, zh⟩
      have hx := c3 (g.1 14 - 1 - i) (by omega)
      obtain ⟨x, hxd⟩ : ∃ x, x = g.2 15 (g.1 14 - 1 - i) := ⟨_, rfl⟩
      rw [← hxd] at hx
      have h7 := (hm0.H k).2.2.2.2.2.2.1 (g.1 14 - 1 - i) (by omega)
      rw [← hxd] at h7
      obtain ⟨a', w, hb2, ew, w1, kw, w25, w27, w26, w01, wb, wh'⟩ := p6_pileLetter hW m0 hm0 b hb hP x hx a (fun s hs => BT_lt hW ((zb s).mp hs)) z k z25 z27 hb1 z26 z01
      obtain ⟨t, et, kt, t25, t26, t27⟩ := wh_fr (st := f6_headsOfPile_L129 (nI a')) (fun i (b : ob) => (nI i, b)) 3 (fun i z => keepH m0 z ∧ z.2 25 = w.2 25 ∧ z.2 26 = w.2 26 ∧ ∀ p, p < i → z.2 27 p = nI (if a'.testBit p = true then 1 else 0)) (b0 := w) ⟨kw, rfl, rfl, fun _ h => absurd h (by omega)⟩
        (by
          intro z _
          unfold f6_headsOfPile_L129
          dsimp only
          rw [if_pos (by decide)])
        (by
          rintro i z hi ⟨k, z25, z26, z27⟩
          refine ⟨sA z 27 i (nI (if a'.testBit i = true then 1 else 0)), ?_, k.tr ⟨rfl, fun k _ _ q => by simp only [sI_1, sI_2, sA_1, sA_2, sR_1, sR_2, upd_at, sL_1, sL_2, rL_uL, updL_at, if_neg q]⟩, z25, z26, fun p hp => ?_⟩
          · unfold f6_headsOfPile_L129
            dsimp only
            rw [if_neg (show ¬ (3 : Int32) ≤ nI i from nI_ge (a := i) (b := 3) hi (by decide)), vin_nI (by omega), gd_p hi, nI_clamp (by omega), tst (by omega)]
            simp only [lt_v, nI_1]
            split <;> rfl
          · show (if p = i then _ else z.2 27 p) = _
            by_cases q : p = i
            · rw [if_pos q, q]
            · rw [if_neg q]; exact z27 p (by omega))
      refine ⟨t, ?_, kt, fun k hk => by rw [t25, w25]; exact z25 k hk, a', w1, t27, hb2, fun k hk => by rw [t26]; exact w26 k hk, w01, fun s => ?_, fun p y => ?_⟩
      · unfold f6_headsOfPile_L39
        dsimp only
        rw [dn_s hi, dn_lt hi, if_neg (nn0 (by omega)), vin_nI (by omega), gd_p (show g.1 14 - 1 - i < 12 by omega), nI_clamp (by omega), h7]
        simp only [lt_v]
        rw [ew]
        simp only [Option.bind_some]
        have et : wh (f6_headsOfPile_L129 (nI a')) (0, w) = some (1, (nI 3, t)) := et
        rw [et]
        simp only [Option.bind_some]
      · rw [wb]
        constructor
        · rintro ⟨p, p1, p2⟩; exact ⟨p, (zb p).mp p1, by rw [← hxd]; exact p2⟩
        · rintro ⟨p, p1, p2⟩; exact ⟨p, (zb p).mpr p1, by rw [hxd]; exact p2⟩
      · rw [wh', zh]
        constructor
        · rintro (⟨j, j1, j2⟩ | ⟨h1, h2⟩)
          · exact ⟨j, by omega, j2⟩
          · exact ⟨i, by omega, (zb p).mp h1, by rw [h2, hxd]⟩
        · rintro ⟨j, j1, j2, j3⟩
          by_cases qj : j = i
          · subst qj
            exact Or.inr ⟨(zb p).mpr j2, by rw [hxd]; exact j3.symm⟩
          · exact Or.inl ⟨j, by omega, j2, j3⟩)
  refine ⟨a, y, hb', ?_, y1, ky, y25, y27, y26, y01, yb, yh⟩
  unfold f6_headsOfPile
  have eu : wh f6_headsOfPile_L2 (0, m) = some (1, (nI 3, u)) := eu
  rw [eu]
  simp only [Option.bind_some, lt_v]
  have u6 : u.1 6 = nI (g.1 14) := by rw [ku.1]; exact hm0.2.2.2.2.1
  rw [u6, dn_0, ey]
  simp only [Option.bind_some]
def massH (b : Nat → Nat) : Nat := ctr (fun k => decide (b k = 1)) 12
theorem p6_headMany (m : ob) (hb : Nat → Nat) (h26 : ∀ k, k < 12 → m.2 26 k = nI (hb k)) (h01 : b01 hb 12) : f6_headMany m = some (nI (massH hb)) := by
  obtain ⟨v, e, hv⟩ := wh_fr (st := f6_headMany_L4 m) (fun i (b : Int32) => (b, nI i)) 12 (fun i v => v = nI (ctr (fun k => decide (hb k = 1)) i)) (b0 := nI 0) rfl
    (by
      intro v _
      unfold f6_headMany_L4
      dsimp only
      rw [if_pos (by decide)])
    (by
      rintro i v hi rfl
      refine ⟨_, ?_, rfl⟩
      unfold f6_headMany_L4
      dsimp only
      rw [if_neg (show ¬ (12 : Int32) ≤ nI i from nI_ge (a := i) (b := 12) hi (by decide)), vin_nI (by omega), gd_p hi, nI_clamp (by omega), h26 i hi, ctr_s]
      simp only [lt_v, nI_1, decide_eq_true_eq, nI_add]
      rcases h01 i hi with q | q
      · rw [q, if_neg (by decide)]; rfl
      · rw [q, if_pos rfl])
  unfold f6_headMany
  have e : wh (f6_headMany_L4 m) (0, 0) = some (1, (v, nI 12)) := e
  rw [e, hv]
  simp only [Option.bind_some]
  rfl
theorem p6_headsOf (hW : WF g) (m0 : ob) (hm0 : MW m0 g) (b : Nat → Nat) (hb : b01 b 36) (hP : ∀ p x s, PS b p x s ↔ Pop g p x s) {r : Nat} (hr : r < g.1 1) (m : ob) (k0 : keepH m0 m) (h25 : ∀ k, k < 36 → m.2 25 k = nI (b k)) (h0 : Nat → Nat) (h26 : ∀ k, k < 12 → m.2 26 k = nI (h0 k)) (h01 : b01 h0 12) (hs : ∀ p x, HQ h0 p x → HD g p x) (hd : HD g (g.2 2 r) (g.2 3 r)) :
    ∃ m' h', f6_headsOf (nI r) m = some m' ∧ keepH m0 m' ∧ m'.2 25 = m.2 25 ∧ m'.2 27 = m.2 27 ∧ (∀ k, k < 12 → m'.2 26 k = nI (h' k)) ∧ b01 h' 12 ∧ (∀ k, h0 k = 1 → h' k = 1) ∧ (∀ p x, HQ h' p x → HD g p x) ∧ HR g (HQ h') (g.2 4 r) (g.2 5 r) := by
  have h10 := hW.2.1.2.1
  have h3 := hW.1.2.1
  obtain ⟨c1, c2, c3, c4⟩ := hW.2.1.1 r hr
  have e7 : (7 : Int32) * nI r = nI (7 * r) := by rw [show (7 : Int32) = nI 7 from rfl, nI_mul]
  have e72 : nI (7 * r) + 2 = nI (7 * r + 2) := nI_add _ 2
  have e73 : nI (7 * r) + 3 = nI (7 * r + 3) := nI_add _ 3
  have e74 : nI (7 * r) + 4 = nI (7 * r + 4) := nI_add _ 4
  have e75 : nI (7 * r) + 5 = nI (7 * r + 5) := nI_add _ 5
  have hl := fun x hx => lw_lt (x := x) c4 hx
  have hdr := (HD_clo g).2 r hr hd
  obtain ⟨b1, b2, b3, b4, b5, b6⟩ := (hm0.H k0).2.1 r hr
  -- a head is set
  have set1 : ∀ (z : ob) (hz : Nat → Nat) (k : Nat), k < 12 → (∀ k, k < 12 → z.2 26 k = nI (hz k)) → b01 hz 12 → (∀ j, j < 12 → (sA z 26 k 1).2 26 j = nI (if j = k then 1 else hz j)) ∧ b01 (fun j => if j = k then 1 else hz j) 12 ∧ ∀ j, hz j = 1 → (if j = k then 1 else hz j) = 1 := by
    intro z hz k hk h1 h2
    refine ⟨fun j hj => ?_, fun j hj => ?_, fun j hj => ?_⟩
    · show (if j = k then 1 else z.2 26 j) = _
      by_cases q : j = k
      · rw [if_pos q, if_pos q]; rfl
      · rw [if_neg q, if_neg q]; exact h1 j hj
    · show (if j = k then 1 else hz j) = 0 ∨ (if j = k then 1 else hz j) = 1
      by_cases q : j = k
      · exact Or.inr (if_pos q)
      · rw [if_neg q]; exact h2 j hj
    · split
      · rfl
      · exact hj
  have sp : f6_headsOf (nI r) m = ((if nI (lw (g.2 5 r)).length ≤ 0 then (some m) else (gd (vin ((4 * nI (g.2 4 r)) + (m.2 2 (7 * r + 4))) 12) <| lt (sA m 26 ((4 * nI (g.2 4 r)) + (m.2 2 (7 * r + 4))).toNatClampNeg 1) fun t20 => some t20))).bind fun v5 => (wh (f6_headsOf_L52 (nI r) (nI (g.2 4 r)) (nI (lw (g.2 5 r)).length)) (0, v5)).bind fun q6 => some q6.2.2 := by
    unfold f6_headsOf
    rw [e7, e72, e73, e74, vin_nI (by omega), gd_p (show 7 * r + 2 < 70 by omega), vin_nI (by omega), vin_nI (by omega), nI_clamp (by omega), nI_clamp (by omega), nI_clamp (by omega), b3, b4]
    simp only [lt_v]
    rw [gd_p (show 7 * r + 3 < 70 by omega), gd_p (show 7 * r + 4 < 70 by omega)]
  have z0' : ∀ z : ob, keepH m0 z → z.1 0 = nI (g.1 0) := fun z k => by rw [k.1]; exact hm0.1.1
  -- without a second letter the loop does nothing
  have skip : ∀ (z : ob) (n : Nat), n ≠ 2 → n < 3 → keepH m0 z → wh (f6_headsOf_L52 (nI r) (nI (g.2 4 r)) (nI n)) (0, z) = some (1, (0, z)) := by
    intro z n hn hn3 k
    refine wh_off ?_
    unfold f6_headsOf_L52
    dsimp only
    rw [z0' z k, if_neg (show ¬ nI (g.1 0) ≤ (0 : Int32) from nI_ge (a := 0) (b := g.1 0) (by have := hW.1.1; omega) (by omega)), if_neg (show ¬ nI n = (2 : Int32) from fun h => hn ((nI_eq (b := 2) (by omega) (by decide)).mp h))]
  cases e : lw (g.2 5 r) with
  | nil =>
    rw [e] at sp
    simp only [List.length_nil] at sp
    rw [if_pos (show nI 0 ≤ 0 by decide)] at sp
    simp only [Option.bind_some] at sp
    rw [skip m 0 (by decide) (by decide) k0] at sp
    simp only [Option.bind_some] at sp
    exact ⟨m, h0, sp, k0, rfl, rfl, h26, h01, fun _ h => h, hs, by unfold HR; rw [e]; trivial⟩
  | cons x l =>
    have hx : x < 4 := hl _ (by rw [e]; exact List.mem_cons_self)
    have m4 : m.2 2 (7 * r + 4) = nI x := b5 0 x (by rw [e]; rfl)
    have hq12 : 4 * g.2 4 r + x < 12 := by omega
    have e4 : (4 : Int32) * nI (g.2 4 r) + nI x = nI (4 * g.2 4 r + x) := by rw [show (4 : Int32) = nI 4 from rfl, nI_mul, nI_add]
    obtain ⟨s1, s2, s3⟩ := set1 m h0 (4 * g.2 4 r + x) hq12 h26 h01
    have ks : keepH m0 (sA m 26 (4 * g.2 4 r + x) 1) := k0.tr ⟨rfl, fun k _ q _ => by simp only [sI_1, sI_2, sA_1, sA_2, sR_1, sR_2, upd_at, sL_1, sL_2, rL_uL, updL_at, if_neg q]⟩
    have sound1 : HD g (g.2 4 r) x → ∀ p y, HQ (fun j => if j = 4 * g.2 4 r + x then 1 else h0 j) p y → HD g p y := by
      intro hdx p y hh
      obtain ⟨q1, q2, q3⟩ := hh
      have q3 : (if 4 * p + y = 4 * g.2 4 r + x then 1 else h0 (4 * p + y)) = 1 := q3
      by_cases q : 4 * p + y = 4 * g.2 4 r + x
      · have g1 : p = g.2 4 r := by omega
        have g2 : y = x := by omega
        rw [g1, g2]; exact hdx
      · rw [if_neg q] at q3
        exact hs p y ⟨q1, q2, q3⟩
    cases l with
    | nil =>
      rw [e] at sp
      simp only [List.length_cons, List.length_nil, Nat.zero_add] at sp
      rw [if_neg (show ¬ nI 1 ≤ 0 by decide), m4, e4, vin_nI (by omega), gd_p hq12, nI_clamp (by omega)] at sp
      simp only [lt_v, Option.bind_some] at sp
      rw [skip _ 1 (by decide) (by decide) ks] at sp
      simp only [Option.bind_some] at sp
      unfold HR at hdr
      rw [e] at hdr
      refine ⟨_, _, sp, ks, rfl, rfl, s1, s2, s3, sound1 hdr, ?_⟩
      unfold HR; rw [e]
      exact ⟨by omega, hx, if_pos rfl⟩
    | cons y l2 =>
      have hy : y < 4 := hl _ (by rw [e]; simp)
      have hl2 : l2 = [] := by
        have : (x :: y :: l2).length ≤ 2 := by rw [← e]; exact lw_len
        simp only [List.length_cons] at this
        exact List.length_eq_zero_iff.mp (by omega)
      subst hl2
      rw [e] at sp
      simp only [List.length_cons, List.length_nil, Nat.zero_add] at sp
      rw [if_neg (show ¬ nI (1 + 1) ≤ 0 by decide), m4, e4, vin_nI (by omega), gd_p hq12, nI_clamp (by omega)] at sp
      simp only [lt_v, Option.bind_some] at sp
      unfold HR at hdr
      rw [e] at hdr
      obtain ⟨hdx, hdy⟩ := hdr
      obtain ⟨w, ew, kw, w25, w27, h', w26, w01, wsub, ws, wr⟩ := wh_fr (st := f6_headsOf_L52 (nI r) (nI (g.2 4 r)) (nI (1 + 1))) (fun i (b : ob) => (nI i, b)) (g.1 0) (fun i z => keepH m0 z ∧ z.2 25 = m.2 25 ∧ z.2 27 = m.2 27 ∧ ∃ h', (∀ k, k < 12 → z.2 26 k = nI (h' k)) ∧ b01 h' 12 ∧ (∀ k, (if k = 4 * g.2 4 r + x then 1 else h0 k) = 1 → h' k = 1) ∧ (∀ p y, HQ h' p y → HD g p y) ∧ ∀ s, s < i → Pop g (g.2 4 r) x s → h' (4 * s + y) = 1) (b0 := sA m 26 (4 * g.2 4 r + x) 1) ⟨ks, rfl, rfl, _, s1, s2, fun _ h => h, sound1 hdx, fun _ h => absurd h (by omega)⟩
        (by
          rintro z ⟨k, -⟩
          unfold f6_headsOf_L52
          dsimp only
          rw [z0' z k, if_pos (nI_le (Nat.le_refl _) (by omega))])
        (by
          rintro i z hi ⟨k, z25, z27, hz, z26, z01, zsub, zs, zr⟩
          obtain ⟨d1, d2, d3, d4, d5, d6⟩ := (hm0.H k).2.1 r hr
          have n4 : z.2 2 (7 * r + 4) = nI x := d5 0 x (by rw [e]; rfl)
          have n5 : z.2 2 (7 * r + 5) = nI y := d5 1 y (by rw [e]; rfl)
          have ei : (4 : Int32) * nI i + nI y = nI (4 * i + y) := by rw [show (4 : Int32) = nI 4 from rfl, nI_mul, nI_add]
          have hbi := hb (12 * g.2 4 r + 3 * x + i) (by omega)
          have st : f6_headsOf_L52 (nI r) (nI (g.2 4 r)) (nI (1 + 1)) (nI i, z) = ((if nI (b (12 * g.2 4 r + 3 * x + i)) = 1 then some (sA z 26 (4 * i + y) 1) else some z).bind fun v11 => some (0, (nI (i + 1), v11))) := by
            unfold f6_headsOf_L52
            dsimp only
            rw [z0' z k, if_neg (nI_ge hi (by omega)), if_pos (show nI (1 + 1) = (2 : Int32) from rfl), e7, e74, e75, vin_nI (by omega), gd_p (show 7 * r + 4 < 70 by omega), nI_clamp (by omega), n4, p6_popsBy b z (fun k hk => by rw [z25]; exact h25 k hk) (by omega) hx (by omega)]
            simp only [Option.bind_some, lt_v]
            rw [vin_nI (by omega), gd_p (show 7 * r + 5 < 70 by omega), nI_clamp (by omega), n5, ei, vin_nI (by omega), gd_p (show 4 * i + y < 12 by omega), nI_clamp (by omega), nI_1]
          by_cases q : b (12 * g.2 4 r + 3 * x + i) = 1
          · have hpop : Pop g (g.2 4 r) x i := (hP _ _ _).mp ⟨by omega, hx, by omega, q⟩
            rw [if_pos ((bit1 hbi).mpr q)] at st
            simp only [Option.bind_some] at st
            obtain ⟨t1, t2, t3⟩ := set1 z hz (4 * i + y) (by omega) z26 z01
            refine ⟨_, st, k.tr ⟨rfl, fun k _ q _ => by simp only [sI_1, sI_2, sA_1, sA_2, sR_1, sR_2, upd_at, sL_1, sL_2, rL_uL, updL_at, if_neg q]⟩, z25, z27, _, t1, t2, fun j hj => t3 j (zsub j hj), fun p y' hh => ?_, fun s hs hpo => ?_⟩
            · obtain ⟨q1, q2, q3⟩ := hh
              have q3 : (if 4 * p + y' = 4 * i + y then 1 else hz (4 * p + y')) = 1 := q3
              by_cases qq : 4 * p + y' = 4 * i + y
              · have g1 : p = i := by omega
                have g2 : y' = y := by omega
                rw [g1, g2]; exact hdy i hpop
              · rw [if_neg qq] at q3
                exact zs p y' ⟨q1, q2, q3⟩
            · by_cases qs : s = i
              · subst qs; exact if_pos rfl
              · exact t3 _ (zr s (by omega) hpo)
          · rw [if_neg (fun h => q ((bit1 hbi).mp h))] at st
            simp only [Option.bind_some] at st
            refine ⟨z, st, k, z25, z27, hz, z26, z01, zsub, zs, fun s hs hpo => ?_⟩
            by_cases qs : s = i
            · subst qs; exact absurd ((hP _ _ _).mpr hpo).2.2.2 q
            · exact zr s (by omega) hpo)
      have ew : wh (f6_headsOf_L52 (nI r) (nI (g.2 4 r)) (nI (1 + 1))) (0, sA m 26 (4 * g.2 4 r + x) 1) = some (1, (nI (g.1 0), w)) := ew
      rw [ew] at sp
      simp only [Option.bind_some] at sp
      refine ⟨w, h', sp, kw, w25, w27, w26, w01, fun k hk => wsub k (s3 k hk), ws, ?_⟩
      unfold HR; rw [e]
      refine ⟨⟨by omega, hx, wsub _ (if_pos rfl)⟩, fun s hpo => ?_⟩
      have := (Pop_lt hW hpo).2.2
      exact ⟨by omega, hy, wr s this hpo⟩
theorem p6_pass (hW : WF g) (m0 : ob) (hm0 : MW m0 g) (b : Nat → Nat) (hb : b01 b 36) (hP : ∀ p x s, PS b p x s ↔ Pop g p x s) (m : ob) (k0 : keepH m0 m) (h25 : ∀ k, k < 36 → m.2 25 k = nI (b k)) (h0 : Nat → Nat) (h26 : ∀ k, k < 12 → m.2 26 k = nI (h0 k)) (h01 : b01 h0 12) (hs : ∀ p x, HQ h0 p x → HD g p x) :
    ∃ m' h', wh f6_setHeads_L46 (0, m) = some (1, (nI (g.1 1), m')) ∧ keepH m0 m' ∧ m'.2 25 = m.2 25 ∧ m'.2 27 = m.2 27 ∧ (∀ k, k < 12 → m'.2 26 k = nI (h' k)) ∧ b01 h' 12 ∧ (∀ k, h0 k = 1 → h' k = 1) ∧ (∀ p x, HQ h' p x → HD g p x) ∧ ∀ r, r < g.1 1 → HQ h0 (g.2 2 r) (g.2 3 r) → HR g (HQ h') (g.2 4 r) (g.2 5 r) := by
  have h10 := hW.2.1.2.1
  have h3 := hW.1.2.1
  obtain ⟨w, ew, kw, w25, w27, h', w26, w01, wsub, ws, wr⟩ := wh_fr (st := f6_setHeads_L46) (fun i (b : ob) => (nI i, b)) (g.1 1) (fun i z => keepH m0 z ∧ z.2 25 = m.2 25 ∧ z.2 27 = m.2 27 ∧ ∃ h', (∀ k, k < 12 → z.2 26 k = nI (h' k)) ∧ b01 h' 12 ∧ (∀ k, h0 k = 1 → h' k = 1) ∧ (∀ p x, HQ h' p x → HD g p x) ∧ ∀ r, r < i → HQ h0 (g.2 2 r) (g.2 3 r) → HR g (HQ h') (g.2 4 r) (g.2 5 r)) (b0 := m) ⟨k0, rfl, rfl, h0, h26, h01, fun _ h => h, hs, fun _ h => absurd h (by omega)⟩
    (by
      rintro z ⟨k, -⟩
      unfold f6_setHeads_L46
      dsimp only
      rw [k.1, hm0.2.2.1, if_pos (nI_le (Nat.le_refl _) (by omega))])
    (by
      rintro i z hi ⟨k, z25, z27, hz, z26, z01, zsub, zs, zr⟩
      obtain ⟨c1, c2, c3, c4⟩ := hW.2.1.1 i hi
      obtain ⟨d1, d2, -⟩ := (hm0.H k).2.1 i hi
      have e7 : (7 : Int32) * nI i = nI (7 * i) := by rw [show (7 : Int32) = nI 7 from rfl, nI_mul]
      have ei : (4 : Int32) * nI (g.2 2 i) + nI (g.2 3 i) = nI (4 * g.2 2 i + g.2 3 i) := by rw [show (4 : Int32) = nI 4 from rfl, nI_mul, nI_add]
      have st : f6_setHeads_L46 (nI i, z) = ((if nI (hz (4 * g.2 2 i + g.2 3 i)) = 1 then ((f6_headsOf (nI i) z).bind fun q16 => some q16) else some z).bind fun v13 => some (0, (nI (i + 1), v13))) := by
        unfold f6_setHeads_L46
        dsimp only
        have e1 : z.1 1 = nI (g.1 1) := by rw [k.1]; exact hm0.2.2.1
        rw [e1, if_neg (nI_ge hi (by omega)), e7, nI_1, vin_nI (by omega), gd_p (show 7 * i < 70 by omega), vin_nI (by omega), gd_p (show 7 * i + 1 < 70 by omega), nI_clamp (by omega), nI_clamp (by omega), d1, d2, ei, vin_nI (by omega), gd_p (show 4 * g.2 2 i + g.2 3 i < 12 by omega), nI_clamp (by omega), z26 _ (by omega)]
        simp only [lt_v, nI_1]
      have z01i := z01 (4 * g.2 2 i + g.2 3 i) (by omega)
      by_cases q : hz (4 * g.2 2 i + g.2 3 i) = 1
      · have hd : HD g (g.2 2 i) (g.2 3 i) := zs _ _ ⟨by omega, c2, q⟩
        obtain ⟨m', h', e, k', a25, a27, a26, a01, asub, as, ar⟩ := p6_headsOf hW m0 hm0 b hb hP hi z k (fun j hj => by rw [z25]; exact h25 j hj) hz z26 z01 zs hd
        rw [if_pos ((bit1 z01i).mpr q), e] at st
        simp only [Option.bind_some] at st
        refine ⟨m', st, k', a25.trans z25, a27.trans z27, h', a26, a01, fun j hj => asub j (zsub j hj), as, fun r hr hM => ?_⟩
        by_cases qr : r = i
        · subst qr; exact ar
        · exact HR_mono (fun p x h => ⟨h.1, h.2.1, asub _ h.2.2⟩) (zr r (by omega) hM)
      · rw [if_neg (fun h => q ((bit1 z01i).mp h))] at st
        simp only [Option.bind_some] at st
        refine ⟨z, st, k, z25, z27, hz, z26, z01, zsub, zs, fun r hr hM => ?_⟩
        by_cases qr : r = i
        · subst qr; exact absurd (zsub _ hM.2.2) q
        · exact zr r (by omega) hM)
  exact ⟨w, h', ew, kw, w25, w27, w26, w01, wsub, ws, wr⟩
theorem p6_setHeads (hW : WF g) (m : ob) (hm : MW m g) : ∃ m' a hb, f6_setHeads m = some m' ∧ keepH m m' ∧ a < 8 ∧ (∀ p, p < 3 → m'.2 27 p = nI (if a.testBit p = true then 1 else 0)) ∧ (∀ k, k < 12 → m'.2 26 k = nI (hb k)) ∧ b01 hb 12 ∧ (∀ s, a.testBit s = true ↔ BT g (g.1 14) s) ∧ ∀ p x, HQ hb p x ↔ HD g p x := by
  obtain ⟨u, b, eu, ku, u25, ub, uP⟩ := p6_setPops hW m hm
  obtain ⟨v, ev, kv, v25, v26⟩ := wh_fr (st := f6_setHeads_L6) (fun i (b : ob) => (nI i, b)) 12 (fun i z => keepH m z ∧ z.2 25 = u.2 25 ∧ ∀ h, h < i → z.2 26 h = nI 0) (b0 := u) ⟨ku, rfl, fun _ h => absurd h (by omega)⟩
    (by
      intro z _
      unfold f6_setHeads_L6
      dsimp only
      rw [if_pos (by decide)])
    (by
      rintro i z hi ⟨k, z25, z2⟩
      refine ⟨sA z 26 i 0, ?_, k.tr ⟨rfl, fun k _ q _ => by simp only [sI_1, sI_2, sA_1, sA_2, sR_1, sR_2, upd_at, sL_1, sL_2, rL_uL, updL_at, if_neg q]⟩, z25, fun h hh => ?_⟩
      · unfold f6_setHeads_L6
        dsimp only
        rw [if_neg (show ¬ (12 : Int32) ≤ nI i from nI_ge (a := i) (b := 12) hi (by decide)), vin_nI (by omega), gd_p hi, nI_clamp (by omega)]
        simp only [lt_v, nI_1]
      · show (if h = i then 0 else z.2 26 h) = nI 0
        by_cases q : h = i
        · rw [if_pos q]; rfl
        · rw [if_neg q]; exact z2 h (by omega))
  obtain ⟨a, w, h0, ew, w8, kw, w25, w27, w26, w01, wb, wh0⟩ := p6_headsOfPile hW m hm b ub uP v kv (fun k hk => by rw [v25]; exact u25 k hk) v26
  obtain ⟨k, y, ey, hk, ky, y27, hb, y26, y01, ysub, ys, yc⟩ := wh_meas (st := f6_setHeads_L31) (fun n z => keepH m z.2 ∧ (∀ k, k < 36 → z.2.2 25 k = nI (b k)) ∧ z.2.2 27 = w.2 27 ∧ ∃ hb, (∀ k, k < 12 → z.2.2 26 k = nI (hb k)) ∧ b01 hb 12 ∧ (∀ k, h0 k = 1 → hb k = 1) ∧ (∀ p x, HQ hb p x → HD g p x) ∧ ((¬ z.1 = nI (massH hb) ∧ n = 40 - massH hb) ∨ (z.1 = nI (massH hb) ∧ n = 0 ∧ ∀ r, r < g.1 1 → HQ hb (g.2 2 r) (g.2 3 r) → HR g (HQ hb) (g.2 4 r) (g.2 5 r)))) (fun k z => k = 0 ∧ keepH m z.2 ∧ z.2.2 27 = w.2 27 ∧ ∃ hb, (∀ k, k < 12 → z.2.2 26 k = nI (hb k)) ∧ b01 hb 12 ∧ (∀ k, h0 k = 1 → hb k = 1) ∧ (∀ p x, HQ hb p x → HD g p x) ∧ ∀ r, r < g.1 1 → HQ hb (g.2 2 r) (g.2 3 r) → HR g (HQ hb) (g.2 4 r) (g.2 5 r))
    (by
      rintro n ⟨hd, z⟩ ⟨kz, z25, z27, hz, z26, z01, zsub, zs, z4⟩
      dsimp only at kz z25 z27 z26 z4
      have hmm := p6_headMany z hz z26 z01
      have l12 : massH hz ≤ 12 := ctr_le _ _
      unfold f6_setHeads_L31
      dsimp only
      rw [hmm]
      simp only [Option.bind_some]
      rcases z4 with ⟨q, rfl⟩ | ⟨q, rfl, hcl⟩
      · obtain ⟨m', h', e, k', a25, a27, a26, a01, asub, as, ar⟩ := p6_pass hW m hm b ub uP z kz z25 hz z26 z01 zs
        have l12' : massH h' ≤ 12 := ctr_le _ _
        rw [if_neg q, e]
        simp only [Option.bind_some]
        by_cases qs : ∀ k, k < 12 → h' k = 1 → hz k = 1
        · have eqv : ∀ k, k < 12 → (h' k = 1 ↔ hz k = 1) := fun k hk => ⟨qs k hk, asub k⟩
          have em : massH h' = massH hz := by
            have a1 : massH h' ≤ massH hz := ctr_mono (fun k hk h => decide_eq_true (qs k hk (of_decide_eq_true h)))
            have a2 : massH hz ≤ massH h' := ctr_mono (fun k hk h => decide_eq_true (asub k (of_decide_eq_true h)))
            omega
          refine Or.inr ⟨0, (nI (massH hz), m'), by omega, rfl, k', fun k hk => by rw [a25]; exact z25 k hk, a27.trans z27, h', a26, a01, fun k hk => asub k (zsub k hk), as, Or.inr ⟨by rw [em], rfl, fun r hr hM => ?_⟩⟩
          refine ar r hr ⟨hM.1, hM.2.1, ?_⟩
          have h1 := hM.1
          have h2 := hM.2.1
          exact qs _ (by omega) hM.2.2
        · have hex : ∃ k, k < 12 ∧ h' k = 1 ∧ ¬ hz k = 1 := by
            refine Classical.byContradiction fun hn => qs (fun k hk h1 => ?_)
            by_cases qz : hz k = 1
            · exact qz
            · exact absurd ⟨k, hk, h1, qz⟩ hn
          obtain ⟨k, k1, k2, k3⟩ := hex
          have gt : massH hz + 1 ≤ massH h' := ctr_strict (fun k _ h => decide_eq_true (asub k (of_decide_eq_true h))) k1 (decide_eq_false k3) (decide_eq_true k2)
          refine Or.inr ⟨40 - massH h', (nI (massH hz), m'), by omega, rfl, k', fun k hk => by rw [a25]; exact z25 k hk, a27.trans z27, h', a26, a01, fun k hk => asub k (zsub k hk), as, Or.inl ⟨fun h => ?_, rfl⟩⟩
          have := (nI_eq (by omega) (by omega)).mp h
          omega
      · refine Or.inl ⟨0, (hd, z), ?_, rfl, kz, z27, hz, z26, z01, zsub, zs, hcl⟩
        rw [if_pos q])
    (40 - massH h0) (-(nI 1), w) ⟨kw, w25, rfl, h0, w26, w01, fun _ h => h, fun p x h => (HD_clo g).1 p x ((wh0 p x).mp h), Or.inl ⟨neg_ne_nI (by have : massH h0 ≤ 12 := ctr_le _ _; omega) (by omega) (by omega), rfl⟩⟩
  subst hk
  refine ⟨y.2, a, hb, ?_, ky, w8, fun p hp => by rw [y27]; exact w27 p hp, y26, y01, wb, fun p x => ⟨ys p x, fun h => h _ ⟨fun p x hi => ?_, yc⟩⟩⟩
  · unfold f6_setHeads
    rw [eu]
    simp only [Option.bind_some]
    have ev : wh f6_setHeads_L6 (0, u) = some (1, (nI 12, v)) := ev
    rw [ev]
    simp only [Option.bind_some]
    rw [ew]
    simp only [Option.bind_some]
    have ey : wh f6_setHeads_L31 (-1, w) = some (0 + 1, y) := ey
    rw [ey]
    simp only [Option.bind_some]
  · have := (wh0 p x).mpr hi
    exact ⟨this.1, this.2.1, ysub _ this.2.2⟩
end HEADS3
