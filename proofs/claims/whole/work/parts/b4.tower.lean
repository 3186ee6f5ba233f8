/-! the class's route: up to a step -/
theorem RLt.of2 {g : nb} (hW : WF g) {o o' : ob} {l : List Nat} (h : RLt g o l) (e : o'.2 = o.2) : RLt g o' l := by
  cases l with
  | nil => exact TRow.cg hW h (fun _ _ => by rw [e])
  | cons x l => exact ⟨by rw [e]; exact h.1, h.2.cg hW (fun _ _ => by rw [e]) (fun _ _ => by rw [e])⟩
theorem p2_ruleAt {g : nb} (hW : WF g) {now : ob} (ht : TW now g) {o : ob} (hN : NK o g 1 (coO g 1 10)) (hF : L0 g < 1000000000) {rt : ob} {j k : Nat} (hk : k < L0 g) (hj : j ≤ k + 1) (h : RO g rt j) (h5 : j = k + 1 → rt.1 5 = nI (nxr g (cfg g k).1 (cfg g k).2)) : ∃ rt', f2_ruleAt (nI k) rt now o = some (nI (nxr g (cfg g k).1 (cfg g k).2), rt') ∧ RO g rt' (k + 1) ∧ rt'.1 5 = nI (nxr g (cfg g k).1 (cfg g k).2) := by
  obtain ⟨z, e, z1, z2⟩ := wh_fr (st := f2_ruleAt_L6 (nI k) now o) (fun i (b : ob) => (nI (j + i), b)) (k + 1 - j) (fun i z => RO g z (j + i) ∧ (z.1 5 = nI (nxr g (cfg g (j + i - 1)).1 (cfg g (j + i - 1)).2) ∨ (i = 0 ∧ z = rt))) (b0 := rt) ⟨h, Or.inr ⟨rfl, rfl⟩⟩
    (by
      rintro z ⟨z1, z2⟩
      unfold f2_ruleAt_L6
      dsimp only
      rw [if_pos (nI_lt (by omega) (by omega))])
    (by
      rintro i z hi ⟨z1, z2⟩
      obtain ⟨z', e', r1, r2, r3, r4, r5⟩ := p2_advance hW ht hN hF (show j + i < L0 g by omega) z1
      refine ⟨sI z' 5 (nI (nxr g (cfg g (j + i)).1 (cfg g (j + i)).2)), ?_, ⟨r1, r2, r3, r4, r5.of2 hW rfl⟩, Or.inl ?_⟩
      · unfold f2_ruleAt_L6
        dsimp only
        rw [if_neg (nI_nlt (by omega) (by omega)), e']
        simp only [Option.bind_some, lt_v, nI_1]
        rfl
      · rfl)
  rw [show j + (k + 1 - j) = k + 1 by omega] at e z1
  have z5 : z.1 5 = nI (nxr g (cfg g k).1 (cfg g k).2) := by
    rcases z2 with q | ⟨q1, q2⟩
    · rw [show j + (k + 1 - j) - 1 = k by omega] at q
      exact q
    · rw [q2]
      exact h5 (by omega)
  refine ⟨z, ?_, z1, z5⟩
  unfold f2_ruleAt
  rw [h.2.2.2.1, lt_v]
  have e : wh (f2_ruleAt_L6 (nI k) now o) (nI j, rt) = _ := e
  rw [e]
  simp only [Option.bind_some]
  rw [z5]
/-! the reference's tower -/
def TR6 (g : nb) (m : ob) (h : Nat) (l : List Nat) : Prop := ∀ t, t < 13 → m.2 21 (13 * h + t) = cd (tv g l t)
def AB (g : nb) (m : ob) (l : List Nat) : Prop := ∀ t, t < 13 → m.2 23 t = cd (tv g l t)
def WM (g : nb) (m : ob) : Prop := ∀ k, k < 676 → m.2 13 k = cd (Wg g k)
def RM (g : nb) (m : ob) : List Nat → Prop
  | [] => TR6 g m 0 []
  | x :: l => m.2 20 l.length = nI x ∧ TR6 g m (l.length + 1) (x :: l) ∧ RM g m l
theorem RM.row {g : nb} {m : ob} : ∀ {l : List Nat}, RM g m l → TR6 g m l.length l
  | [], h => h
  | x :: l, h => h.2.1
theorem RM.cg {g : nb} {m m' : ob} : ∀ {l : List Nat}, RM g m l → (∀ j, j < l.length → m'.2 20 j = m.2 20 j) → (∀ j, j < 13 * (l.length + 1) → m'.2 21 j = m.2 21 j) → RM g m' l
  | [], h, _, e1 => fun t ht => by rw [e1 _ (by show 13 * 0 + t < 13 * (0 + 1); omega)]; exact h t ht
  | x :: l, ⟨a, b, c⟩, e0, e1 => ⟨by rw [e0 l.length (by rw [List.length_cons]; omega)]; exact a, fun t ht => by rw [e1 _ (by rw [List.length_cons]; omega)]; exact b t ht, RM.cg c (fun j hj => e0 j (by rw [List.length_cons]; omega)) (fun j hj => e1 j (by rw [List.length_cons]; omega))⟩
theorem cd_neg' {a : Nat} (ha : a ≤ 1000000000) : cd a < 0 ↔ 1000000000 ≤ a := by
  by_cases q : 1000000000 ≤ a
  · rw [cd_ge q]
    exact ⟨fun _ => q, fun _ => by decide⟩
  · rw [cd_lt (by omega)]
    exact ⟨fun h => absurd h (nn0 (by omega)), fun h => absurd h q⟩
theorem p6_goesBy {g : nb} (hW : WF g) {m : ob} (hw : WM g m) {x : Nat} {l : List Nat} (hx : x < 4) (hl : ∀ y, y ∈ l → y < 4) (hn : l.length < 175) (ha : AB g m l) : ∃ m', f6_goesBy (nI x) m = some m' ∧ m'.1 = m.1 ∧ (∀ k, k ≠ 23 → k ≠ 24 → m'.2 k = m.2 k) ∧ AB g m' (x :: l) := by
  have inner : ∀ fr z, fr < 13 → z.1 = m.1 → (∀ k, k ≠ 24 → z.2 k = m.2 k) → z.2 24 fr = -(nI 1) → ∃ z', wh (f6_goesBy_L17 (nI x) (nI fr)) (0, z) = some (1, (nI 13, z')) ∧ z'.1 = m.1 ∧ (∀ k, k ≠ 24 → z'.2 k = m.2 k) ∧ (∀ j, j ≠ fr → z'.2 24 j = z.2 24 j) ∧ z'.2 24 fr = cd (tv g (x :: l) fr) := by
    intro fr z hfr q1 q2 q3
    obtain ⟨b, e, b1, b2, b3, b4⟩ := wh_fr (st := f6_goesBy_L17 (nI x) (nI fr)) (fun i (b : ob) => (nI i, b)) 13 (fun i b => b.1 = m.1 ∧ (∀ k, k ≠ 24 → b.2 k = m.2 k) ∧ (∀ j, j ≠ fr → b.2 24 j = z.2 24 j) ∧ b.2 24 fr = cd (mn (fun t => Wg g (52 * fr + 13 * x + t) + tv g l t) i)) (b0 := z) ⟨q1, q2, fun _ _ => rfl, q3⟩
      (by
        intro b _
        unfold f6_goesBy_L17
        dsimp only
        rw [if_pos (by decide)])
      (by
        rintro i b hi ⟨b1, b2, b3, b4⟩
        have ew : b.2 13 (52 * fr + 13 * x + i) = cd (Wg g (52 * fr + 13 * x + i)) := by rw [b2 13 (by decide)]; exact hw _ (by omega)
        have ea : b.2 23 i = cd (tv g l i) := by rw [b2 23 (by decide)]; exact ha i hi
        have lw1 := Wg_le hW (52 * fr + 13 * x + i)
        have ltv := tv_le g l i
        have lm := mn_le_FR (fun t => Wg g (52 * fr + 13 * x + t) + tv g l t) i
        have st : f6_goesBy_L17 (nI x) (nI fr) (nI i, b) = ((if cd (Wg g (52 * fr + 13 * x + i)) < 0 then (some b) else ((if cd (tv g l i) < 0 then (some b) else ((f6_lesser (b.2 24 fr) (cd (Wg g (52 * fr + 13 * x + i)) + cd (tv g l i))).bind fun q24 => some (sA b 24 fr q24))))).bind fun v17 => lt (nI i + 1) fun y18 => some (0, (y18, v17))) := by
          unfold f6_goesBy_L17
          dsimp only
          rw [if_neg (show ¬ (13 : Int32) ≤ nI i from nI_ge (b := 13) hi (by decide)), p6_place]
          simp only [Option.bind_some]
          rw [vin_nI (show 52 * fr + 13 * x + i < 2 ^ 31 by omega), gd_p (show 52 * fr + 13 * x + i < 676 by omega), lt_v, nI_clamp (show 52 * fr + 13 * x + i < 2 ^ 31 by omega), ew, vin_nI (show i < 2 ^ 31 by omega), gd_p hi, vin_nI (show fr < 2 ^ 31 by omega), gd_p hi, nI_clamp (show i < 2 ^ 31 by omega), ea, nI_clamp (show fr < 2 ^ 31 by omega)]
          simp only [gd_p hfr, lt_v]
        rw [mn_succ] 
        generalize mn (fun t => Wg g (52 * fr + 13 * x + t) + tv g l t) i = mm at lm b4 ⊢
        rw [b4] at st
        by_cases qw : 1000000000 ≤ Wg g (52 * fr + 13 * x + i)
        · rw [if_pos ((cd_neg' lw1).mpr qw)] at st
          refine ⟨b, ?_, b1, b2, b3, ?_⟩
          · rw [st]; simp only [Option.bind_some, lt_v, nI_1]
          · rw [Nat.min_eq_left (by omega)]; exact b4
        · rw [if_neg (fun h => qw ((cd_neg' lw1).mp h))] at st
          by_cases qt : 1000000000 ≤ tv g l i
          · rw [if_pos ((cd_neg' ltv).mpr qt)] at st
            refine ⟨b, ?_, b1, b2, b3, ?_⟩
            · rw [st]; simp only [Option.bind_some, lt_v, nI_1]
            · rw [Nat.min_eq_left (by omega)]; exact b4
          · have k1 := (Wg_b hW hfr hx hi (show Wg g (52 * fr + 13 * x + i) < 1000000000 by omega)).2.1
            have k2 := tv_b hW hl hi (show tv g l i < 1000000000 by omega)
            have k3 : l.length * 2359296 ≤ 175 * 2359296 := Nat.mul_le_mul_right _ (by omega)
            rw [if_neg (fun h => qt ((cd_neg' ltv).mp h)), cd_lt (show Wg g (52 * fr + 13 * x + i) < 1000000000 by omega), cd_lt (show tv g l i < 1000000000 by omega), nI_add, p6_lesser _ _ (by omega)] at st
            refine ⟨sA b 24 fr (cd (min mm (Wg g (52 * fr + 13 * x + i) + tv g l i))), ?_, b1, fun k hk => ?_, fun j hj => ?_, ?_⟩
            · rw [st]; simp only [Option.bind_some, lt_v, nI_1]
            · show (if k = 24 then _ else b.2 k) = _
              rw [if_neg hk]; exact b2 k hk
            · show (if j = fr then _ else b.2 24 j) = _
              rw [if_neg hj]; exact b3 j hj
            · show (if fr = fr then _ else _) = _
              rw [if_pos rfl])
    exact ⟨b, e, b1, b2, b3, b4⟩
  obtain ⟨u, eu, u1, u2, u3⟩ := wh_fr (st := f6_goesBy_L2 (nI x)) (fun i (b : ob) => (nI i, b)) 13 (fun i b => b.1 = m.1 ∧ (∀ k, k ≠ 24 → b.2 k = m.2 k) ∧ ∀ j, j < i → b.2 24 j = cd (tv g (x :: l) j)) (b0 := m) ⟨rfl, fun _ _ => rfl, fun _ hj => absurd hj (Nat.not_lt_zero _)⟩
    (by
      intro b _
      unfold f6_goesBy_L2
      dsimp only
      rw [if_pos (by decide)])
    (by
      rintro i b hi ⟨b1, b2, b3⟩
      obtain ⟨z, ez, z1, z2, z3, z4⟩ := inner i (sA b 24 i (-1)) hi b1 (fun k hk => by
        show (if k = 24 then _ else b.2 k) = _
        rw [if_neg hk]; exact b2 k hk) (by
        show (if i = i then _ else _) = _
        rw [if_pos rfl]; rfl)
      refine ⟨z, ?_, z1, z2, fun j hj => ?_⟩
      · unfold f6_goesBy_L2
        dsimp only
        rw [if_neg (show ¬ (13 : Int32) ≤ nI i from nI_ge (b := 13) hi (by decide)), vin_nI (by omega), gd_p hi, nI_clamp (by omega), lt_v, ez]
        simp only [Option.bind_some, lt_v, nI_1]
      · by_cases q : j = i
        · rw [q]; exact z4
        · rw [z3 j q]
          show (if j = i then _ else b.2 24 j) = _
          rw [if_neg q]; exact b3 j (by omega))
  obtain ⟨w, ew, w1, w2, w3⟩ := wh_fr (st := f6_goesBy_L88) (fun i (b : ob) => (nI i, b)) 13 (fun i b => b.1 = m.1 ∧ (∀ k, k ≠ 23 → b.2 k = u.2 k) ∧ ∀ j, j < i → b.2 23 j = cd (tv g (x :: l) j)) (b0 := u) ⟨u1, fun _ _ => rfl, fun _ hj => absurd hj (Nat.not_lt_zero _)⟩
    (by
      intro b _
      unfold f6_goesBy_L88
      dsimp only
      rw [if_pos (by decide)])
    (by
      rintro i b hi ⟨b1, b2, b3⟩
      refine ⟨sA b 23 i (cd (tv g (x :: l) i)), ?_, b1, fun k hk => ?_, fun j hj => ?_⟩
      · unfold f6_goesBy_L88
        dsimp only
        rw [if_neg (show ¬ (13 : Int32) ≤ nI i from nI_ge (b := 13) hi (by decide)), vin_nI (by omega), gd_p hi, gd_p hi, nI_clamp (by omega), b2 24 (by decide), u3 i hi]
        simp only [lt_v, nI_1]
      · show (if k = 23 then _ else b.2 k) = _
        rw [if_neg hk]; exact b2 k hk
      · show (if j = i then _ else b.2 23 j) = _
        by_cases q : j = i
        · rw [if_pos q, q]
        · rw [if_neg q]; exact b3 j (by omega))
  refine ⟨w, ?_, w1, fun k k1 k2 => (w2 k k1).trans (u2 k k2), fun t ht => w3 t ht⟩
  have eu : wh (f6_goesBy_L2 (nI x)) (0, m) = _ := eu
  have ew : wh f6_goesBy_L88 (0, u) = _ := ew
  unfold f6_goesBy
  rw [eu]
  simp only [Option.bind_some]
  rw [ew]
  rfl
theorem p6_standsOn {g : nb} {m : ob} {h : Nat} {l : List Nat} (hh : h ≤ 400) (hr : TR6 g m h l) : ∃ m', f6_standsOn (nI h) m = some m' ∧ m'.1 = m.1 ∧ (∀ k, k ≠ 23 → m'.2 k = m.2 k) ∧ AB g m' l := by
  obtain ⟨w, ew, w1, w2, w3⟩ := wh_fr (st := f6_standsOn_L2 (nI h)) (fun i (b : ob) => (nI i, b)) 13 (fun i b => b.1 = m.1 ∧ (∀ k, k ≠ 23 → b.2 k = m.2 k) ∧ ∀ j, j < i → b.2 23 j = cd (tv g l j)) (b0 := m) ⟨rfl, fun _ _ => rfl, fun _ hj => absurd hj (Nat.not_lt_zero _)⟩
    (by
      intro b _
      unfold f6_standsOn_L2
      dsimp only
      rw [if_pos (by decide)])
    (by
      rintro i b hi ⟨b1, b2, b3⟩
      have e13 : 13 * nI h + nI i = nI (13 * h + i) := by rw [show (13 : Int32) = nI 13 from rfl, nI_mul, nI_add]
      refine ⟨sA b 23 i (cd (tv g l i)), ?_, b1, fun k hk => ?_, fun j hj => ?_⟩
      · unfold f6_standsOn_L2
        dsimp only
        rw [if_neg (show ¬ (13 : Int32) ≤ nI i from nI_ge (b := 13) hi (by decide)), e13, vin_nI (show 13 * h + i < 2 ^ 31 by omega), gd_p (show 13 * h + i < 5213 by omega), vin_nI (show i < 2 ^ 31 by omega), gd_p hi, nI_clamp (show 13 * h + i < 2 ^ 31 by omega), nI_clamp (show i < 2 ^ 31 by omega), b2 21 (by decide), hr i hi]
        simp only [lt_v, nI_1]
      · show (if k = 23 then _ else b.2 k) = _
        rw [if_neg hk]; exact b2 k hk
      · show (if j = i then _ else b.2 23 j) = _
        by_cases q : j = i
        · rw [if_pos q, q]
        · rw [if_neg q]; exact b3 j (by omega))
  refine ⟨w, ?_, w1, w2, fun t ht => w3 t ht⟩
  have ew : wh (f6_standsOn_L2 (nI h)) (0, m) = _ := ew
  unfold f6_standsOn
  rw [ew]
  rfl
/-- what the tower's work leaves as it is -/
def kr (m m' : ob) : Prop := (∀ k, k ≠ 22 → m'.1 k = m.1 k) ∧ ∀ k, k ≠ 20 → k ≠ 21 → k ≠ 23 → k ≠ 24 → m'.2 k = m.2 k
theorem kr.rf (m : ob) : kr m m := ⟨fun _ _ => rfl, fun _ _ _ _ _ => rfl⟩
theorem kr.tr {a b c : ob} (h : kr a b) (k : kr b c) : kr a c := ⟨fun j hj => (k.1 j hj).trans (h.1 j hj), fun j h1 h2 h3 h4 => (k.2 j h1 h2 h3 h4).trans (h.2 j h1 h2 h3 h4)⟩
theorem kr.WM {g : nb} {m m' : ob} (h : kr m m') (w : WM g m) : WM g m' := fun k hk => by rw [h.2 13 (by decide) (by decide) (by decide) (by decide)]; exact w k hk
theorem kr.MW {g : nb} {m m' : ob} (h : kr m m') (w : MW m g) : MW m' g := w.cg (fun k hk => h.1 k (by omega)) (fun k hk => h.2 k (by omega) (by omega) (by omega) (by omega))
theorem p6_puts {g : nb} (hW : WF g) {m : ob} (hw : WM g m) {x : Nat} {l : List Nat} (hx : x < 4) (hl : ∀ y, y ∈ l → y < 4) (hn : l.length < 175) (h22 : m.1 22 = nI l.length) (hr : RM g m l) : ∃ m', f6_puts (nI x) m = some m' ∧ kr m m' ∧ m'.1 22 = nI (l.length + 1) ∧ RM g m' (x :: l) := by
  obtain ⟨a, ea, a1, a2, a3⟩ := p6_standsOn (by omega) hr.row
  have wa : WM g a := fun k hk => by rw [a2 13 (by decide)]; exact hw k hk
  obtain ⟨b, eb, b1, b2, b3⟩ := p6_goesBy hW wa hx hl hn a3
  have b22 : b.1 22 = nI l.length := by rw [b1, a1]; exact h22
  obtain ⟨w, ew, w1, w2, w3, w4⟩ := wh_fr (st := f6_puts_L35) (fun i (b : ob) => (nI i, b)) 13 (fun i z => z.1 = (sI b 22 (nI (l.length + 1))).1 ∧ (∀ k, k ≠ 21 → z.2 k = (sA b 20 l.length (nI x)).2 k) ∧ (∀ j, j < 13 * (l.length + 1) → z.2 21 j = b.2 21 j) ∧ ∀ t, t < i → z.2 21 (13 * (l.length + 1) + t) = cd (tv g (x :: l) t)) (b0 := sI (sA b 20 l.length (nI x)) 22 (nI (l.length + 1))) ⟨rfl, fun _ _ => rfl, fun _ _ => rfl, fun _ hj => absurd hj (Nat.not_lt_zero _)⟩
    (by
      intro b _
      unfold f6_puts_L35
      dsimp only
      rw [if_pos (by decide)])
    (by
      rintro i z hi ⟨w1, w2, w3, w4⟩
      have z22 : z.1 22 = nI (l.length + 1) := by rw [w1]; rfl
      have z23 : z.2 23 i = cd (tv g (x :: l) i) := by rw [w2 23 (by decide)]; exact b3 i hi
      have e13 : 13 * nI (l.length + 1) + nI i = nI (13 * (l.length + 1) + i) := by rw [show (13 : Int32) = nI 13 from rfl, nI_mul, nI_add]
      refine ⟨sA z 21 (13 * (l.length + 1) + i) (cd (tv g (x :: l) i)), ?_, w1, fun k hk => ?_, fun j hj => ?_, fun t ht => ?_⟩
      · unfold f6_puts_L35
        dsimp only
        rw [if_neg (show ¬ (13 : Int32) ≤ nI i from nI_ge (b := 13) hi (by decide)), vin_nI (show i < 2 ^ 31 by omega), gd_p hi, z22, e13, vin_nI (show 13 * (l.length + 1) + i < 2 ^ 31 by omega), gd_p (show 13 * (l.length + 1) + i < 5213 by omega), nI_clamp (show 13 * (l.length + 1) + i < 2 ^ 31 by omega), nI_clamp (show i < 2 ^ 31 by omega), z23]
        simp only [lt_v, nI_1]
      · show (if k = 21 then _ else z.2 k) = _
        rw [if_neg hk]; exact w2 k hk
      · show (if j = 13 * (l.length + 1) + i then _ else z.2 21 j) = _
        rw [if_neg (by omega)]; exact w3 j hj
      · show (if 13 * (l.length + 1) + t = 13 * (l.length + 1) + i then _ else z.2 21 (13 * (l.length + 1) + t)) = _
        by_cases q : t = i
        · rw [if_pos (by omega), q]
        · rw [if_neg (by omega)]; exact w4 t (by omega))
  have rb : RM g w l := hr.cg (fun j hj => by
    rw [w2 20 (by decide)]
    show (if j = l.length then _ else b.2 20 j) = _
    rw [if_neg (by omega), b2 20 (by decide) (by decide), a2 20 (by decide)]) (fun j hj => by rw [w3 j hj, b2 21 (by decide) (by decide), a2 21 (by decide)])
  refine ⟨w, ?_, ⟨fun k hk => ?_, fun k k1 k2 k3 k4 => ?_⟩, by rw [w1]; rfl, ?_, w4, rb⟩
  · have ew : wh f6_puts_L35 (0, sI (sA b 20 l.length (nI x)) 22 (nI (l.length + 1))) = _ := ew
    unfold f6_puts
    rw [h22, ea]
    simp only [Option.bind_some]
    rw [eb]
    simp only [Option.bind_some]
    rw [b22, vin_nI (by omega), gd_p (show l.length < 400 by omega), nI_clamp (by omega), lt_v, lt_v, show (sA b 20 l.length (nI x)).1 22 = nI l.length from b22, nI_1, ew]
    rfl
  · rw [w1]
    show (if k = 22 then _ else b.1 k) = _
    rw [if_neg hk, b1, a1]
  · rw [w2 k k2]
    show (if k = 20 then _ else b.2 k) = _
    rw [if_neg k1, b2 k k3 k4, a2 k k3]
  · rw [w2 20 (by decide)]
    show (if l.length = l.length then _ else _) = _
    rw [if_pos rfl]
