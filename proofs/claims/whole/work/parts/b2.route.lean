/-! the class's route: rows of steps to go -/
def TRow (g : nb) (o : ob) (h : Nat) (l : List Nat) : Prop := ∀ t, t < ndn g → rL (o.2 1) (13 * h + t) = eL (tv g l t)
theorem ndn_b {g : nb} (hW : WF g) : g.1 0 + 2 ≤ ndn g ∧ ndn g ≤ 13 := by
  obtain ⟨h1, h2, -⟩ := tg_ok hW.1 (g.1 7) (Nat.le_refl _)
  have h3 := hW.1.2.1
  have h4 := hW.1.2.2.1
  exact ⟨h1, by show (tg g (g.1 7)).1 ≤ 13; omega⟩
/-- the least of sums, as the class takes it -/
theorem min_s {a b m : Nat} (hm : m ≤ 1000000000) (ha : a ≤ 1000000000) (hb : b ≤ 1000000000) (hs : a < 1000000000 → b < 1000000000 → a + b < 1000000000) : (if 1000000000000 ≤ eL a then (some (eL m)) else ((if 1000000000000 ≤ eL b then (some (eL m)) else (some (if eL a + eL b < eL m then eL a + eL b else eL m))))) = some (eL (min m (a + b))) := by
  rw [eL_F]
  by_cases qa : 1000000000 ≤ a
  · rw [if_pos ((eL_leI (Nat.le_refl _) ha).mpr qa), Nat.min_eq_left (by omega)]
  · rw [if_neg (fun h => qa ((eL_leI (Nat.le_refl _) ha).mp h))]
    by_cases qb : 1000000000 ≤ b
    · rw [if_pos ((eL_leI (Nat.le_refl _) hb).mpr qb), Nat.min_eq_left (by omega)]
    · have hab := hs (by omega) (by omega)
      rw [if_neg (fun h => qb ((eL_leI (Nat.le_refl _) hb).mp h)), eL_add hab]
      by_cases q : a + b < m
      · rw [if_pos ((eL_ltI (by omega) hm).mpr q), Nat.min_eq_right (by omega)]
      · rw [if_neg (fun h => q ((eL_ltI (by omega) hm).mp h)), Nat.min_eq_left (by omega)]
theorem sum_b {g : nb} (hW : WF g) {n x t : Nat} {l : List Nat} (hn : n < 13) (hx : x < 4) (ht : t < 13) (hl : ∀ y, y ∈ l → y < 4) (hk : l.length ≤ 200) : Wg g (52 * n + 13 * x + t) < 1000000000 → tv g l t < 1000000000 → Wg g (52 * n + 13 * x + t) + tv g l t < 1000000000 := by
  intro h1 h2
  have k1 := (Wg_b hW hn hx ht h1).2.1
  have k2 := tv_b hW hl ht h2
  have k3 : l.length * 2359296 ≤ 200 * 2359296 := Nat.mul_le_mul_right _ hk
  omega
theorem tv_N {g : nb} (hW : WF g) {n x : Nat} (hn : n < 13) (hx : x < 4) (l : List Nat) : mn (fun t => Wg g (52 * n + 13 * x + t) + tv g l t) (ndn g) = tv g (x :: l) n := by
  have hb := (ndn_b hW).2
  have := mn_more (g := fun t => Wg g (52 * n + 13 * x + t) + tv g l t) (n := ndn g) (13 - ndn g) (fun i h1 h2 => by
    have := Wg_NT hW n x i hn hx h1 (by omega)
    omega)
  rw [show ndn g + (13 - ndn g) = 13 by omega] at this
  exact this.symm
theorem p0_stepsOver {g : nb} (hW : WF g) {o : ob} (hN : NK o g 1 (coO g 1 10)) {q : ob} {row n x : Nat} {l : List Nat} (hr : row < 200) (hn : n < 13) (hx : x < 4) (hly : ∀ y, y ∈ l → y < 4) (hlk : l.length ≤ 200) (ht : TRow g q row l) : f0_stepsOver (nI n) (nI x) (nI row) o q = some (eL (tv g (x :: l) n)) := by
  have hb := ndn_b hW
  obtain ⟨o0, -, -, -, -, o4, -, -⟩ := hN
  obtain ⟨v, e, hv⟩ := wh_fr (st := f0_stepsOver_L16 (nI row) o q (nI (52 * n + 13 * x + 0))) (fun i (b : Int64) => (b, nI i)) (ndn g) (fun i v => v = eL (mn (fun t => Wg g (52 * n + 13 * x + t) + tv g l t) i)) (b0 := eL 1000000000) rfl
    (by
      intro v _
      unfold f0_stepsOver_L16
      dsimp only
      rw [o0, if_pos (nI_le (Nat.le_refl _) (by omega))])
    (by
      rintro i v hi rfl
      refine ⟨_, ?_, rfl⟩
      have lm := mn_le_FR (fun t => Wg g (52 * n + 13 * x + t) + tv g l t) i
      have lw1 := Wg_le hW (52 * n + 13 * x + i)
      have lt := tv_le g l i
      have e13 : nI row * 13 + nI i = nI (13 * row + i) := by
        rw [show (13 : Int32) = nI 13 from rfl, nI_mul, nI_add, Nat.mul_comm]
      have ew : rL (o.2 4) (52 * n + 13 * x + i) = eL (Wg g (52 * n + 13 * x + i)) := o4 _ (by omega)
      rw [mn_succ]
      generalize mn (fun t => Wg g (52 * n + 13 * x + t) + tv g l t) i = m at lm ⊢
      have ms := min_s lm lw1 lt (sum_b hW hn hx (by omega) hly hlk)
      unfold f0_stepsOver_L16
      dsimp only
      rw [o0, if_neg (nI_ge hi (by omega)), e13, vin_nI (show 13 * row + i < 2 ^ 31 by omega), gd_p (show 13 * row + i < 2600 by omega), lt_v, nI_clamp (show 13 * row + i < 2 ^ 31 by omega), ht i hi, Nat.add_zero, nI_add, vin_nI (show 52 * n + 13 * x + i < 2 ^ 31 by omega), gd_p (show 52 * n + 13 * x + i < 676 by omega), gd_p (show 52 * n + 13 * x + i < 676 by omega), nI_clamp (show 52 * n + 13 * x + i < 2 ^ 31 by omega), ew]
      simp only [lt_v]
      rw [ms]
      simp only [Option.bind_some]
      rw [nI_1])
  unfold f0_stepsOver
  rw [show f5_edgeAt (nI n) (nI x) 0 = some (nI (52 * n + 13 * x + 0)) from p5_edgeAt n x 0]
  simp only [Option.bind_some]
  have e : wh (f0_stepsOver_L16 (nI row) o q (nI (52 * n + 13 * x + 0))) (1000000000000, 0) = some (1, (v, nI (ndn g))) := by rw [eL_F]; exact e
  rw [e]
  simp only [Option.bind_some]
  rw [hv, tv_N hW hn hx]
theorem p0_stepsOverTwo {g : nb} (hW : WF g) {o : ob} (hN : NK o g 1 (coO g 1 10)) {q : ob} {row n x y : Nat} {l : List Nat} (hr : row < 200) (hn : n < 13) (hx : x < 4) (hy : y < 4) (hly : ∀ y, y ∈ l → y < 4) (hlk : l.length ≤ 199) (ht : TRow g q row l) : f0_stepsOverTwo (nI n) (nI x) (nI y) (nI row) o q = some (eL (tv g (x :: y :: l) n)) := by
  have hb := ndn_b hW
  have hN2 := hN
  obtain ⟨o0, -, -, -, -, o4, -, -⟩ := hN2
  obtain ⟨v, e, hv⟩ := wh_fr (st := f0_stepsOverTwo_L16 (nI y) (nI row) o q (nI (52 * n + 13 * x + 0))) (fun i (b : Int64) => (b, nI i)) (ndn g) (fun i v => v = eL (mn (fun t => Wg g (52 * n + 13 * x + t) + tv g (y :: l) t) i)) (b0 := eL 1000000000) rfl
    (by
      intro v _
      unfold f0_stepsOverTwo_L16
      dsimp only
      rw [o0, if_pos (nI_le (Nat.le_refl _) (by omega))])
    (by
      rintro i v hi rfl
      refine ⟨_, ?_, rfl⟩
      have lm := mn_le_FR (fun t => Wg g (52 * n + 13 * x + t) + tv g (y :: l) t) i
      have lw1 := Wg_le hW (52 * n + 13 * x + i)
      have lt := tv_le g (y :: l) i
      have ew : rL (o.2 4) (52 * n + 13 * x + i) = eL (Wg g (52 * n + 13 * x + i)) := o4 _ (by omega)
      have so := p0_stepsOver hW hN (n := i) (x := y) hr (by omega) hy hly (by omega) ht
      rw [mn_succ]
      generalize mn (fun t => Wg g (52 * n + 13 * x + t) + tv g (y :: l) t) i = m at lm ⊢
      have ms := min_s lm lw1 lt (sum_b hW hn hx (by omega) (List.forall_mem_cons.mpr ⟨hy, hly⟩) (by rw [List.length_cons]; omega))
      unfold f0_stepsOverTwo_L16
      dsimp only
      rw [o0, if_neg (nI_ge hi (by omega)), Nat.add_zero, nI_add, vin_nI (show 52 * n + 13 * x + i < 2 ^ 31 by omega), gd_p (show 52 * n + 13 * x + i < 676 by omega), nI_clamp (show 52 * n + 13 * x + i < 2 ^ 31 by omega), ew, so]
      simp only [Option.bind_some, lt_v, gd_p (show 52 * n + 13 * x + i < 676 by omega)]
      rw [ms]
      simp only [Option.bind_some]
      rw [nI_1])
  unfold f0_stepsOverTwo
  rw [show f5_edgeAt (nI n) (nI x) 0 = some (nI (52 * n + 13 * x + 0)) from p5_edgeAt n x 0]
  simp only [Option.bind_some]
  have e : wh (f0_stepsOverTwo_L16 (nI y) (nI row) o q (nI (52 * n + 13 * x + 0))) (1000000000000, 0) = some (1, (v, nI (ndn g))) := by rw [eL_F]; exact e
  rw [e]
  simp only [Option.bind_some]
  rw [hv, tv_N hW hn hx]
/-- letters and rows of a stack -/
def RLs (g : nb) (o : ob) : List Nat → Prop
  | [] => TRow g o 0 []
  | x :: l => o.2 0 l.length = nI x ∧ TRow g o (l.length + 1) (x :: l) ∧ RLs g o l
/-- the top letter's row may be wanting -/
def RLt (g : nb) (o : ob) : List Nat → Prop
  | [] => TRow g o 0 []
  | x :: l => o.2 0 l.length = nI x ∧ RLs g o l
theorem RLs.t {g : nb} {o : ob} : ∀ {l : List Nat}, RLs g o l → RLt g o l
  | [], h => h
  | x :: l, h => ⟨h.1, h.2.2⟩
theorem TRow.cg {g : nb} (hW : WF g) {o o' : ob} {h : Nat} {l : List Nat} (hr : TRow g o h l) (e : ∀ j, j < 13 * (h + 1) → rL (o'.2 1) j = rL (o.2 1) j) : TRow g o' h l := fun t ht => by
  have := (ndn_b hW).2
  rw [e _ (by omega)]
  exact hr t ht
theorem RLs.cg {g : nb} (hW : WF g) {o o' : ob} : ∀ {l : List Nat}, RLs g o l → (∀ j, j < l.length → o'.2 0 j = o.2 0 j) → (∀ j, j < 13 * (l.length + 1) → rL (o'.2 1) j = rL (o.2 1) j) → RLs g o' l
  | [], h, _, e1 => TRow.cg hW h (fun j hj => e1 j hj)
  | x :: l, ⟨a, b, c⟩, e0, e1 => ⟨by rw [e0 l.length (by rw [List.length_cons]; omega)]; exact a, TRow.cg hW b (fun j hj => e1 j (by rw [List.length_cons]; omega)), RLs.cg hW c (fun j hj => e0 j (by rw [List.length_cons]; omega)) (fun j hj => e1 j (by rw [List.length_cons]; omega))⟩
theorem RLs.row {g : nb} {o : ob} : ∀ {l : List Nat}, RLs g o l → TRow g o l.length l
  | [], h => h
  | x :: l, h => h.2.1
theorem p2_fillTail {g : nb} (hW : WF g) {o : ob} (hN : NK o g 1 (coO g 1 10)) {rt : ob} {x : Nat} {l : List Nat} (hx : x < 4) (hly : ∀ y, y ∈ l → y < 4) (hl : l.length < 198) (hr : RLs g rt l) (h0 : rt.2 0 l.length = nI x) : ∃ rt', f2_fillTail (nI l.length) rt o = some rt' ∧ rt'.1 = rt.1 ∧ (∀ k, k ≠ 1 → rt'.2 k = rt.2 k) ∧ RLs g rt' (x :: l) := by
  have hb := ndn_b hW
  have hN2 := hN
  obtain ⟨o0, -⟩ := hN2
  have row := hr.row
  obtain ⟨z, e, e1, e2, e3, e4⟩ := wh_fr (st := f2_fillTail_L2 (nI l.length) o) (fun i (b : ob) => (nI i, b)) (ndn g) (fun i z => z.1 = rt.1 ∧ (∀ k, k ≠ 1 → z.2 k = rt.2 k) ∧ (∀ j, j < 13 * (l.length + 1) → rL (z.2 1) j = rL (rt.2 1) j) ∧ ∀ t, t < i → rL (z.2 1) (13 * (l.length + 1) + t) = eL (tv g (x :: l) t)) (b0 := rt) ⟨rfl, fun _ _ => rfl, fun _ _ => rfl, fun _ h => absurd h (Nat.not_lt_zero _)⟩
    (by
      intro z _
      unfold f2_fillTail_L2
      dsimp only
      rw [o0, if_pos (nI_le (Nat.le_refl _) (by omega))])
    (by
      rintro i z hi ⟨e1, e2, e3, e4⟩
      have so := p0_stepsOver hW hN (q := z) (row := l.length) (n := i) (x := x) (l := l) (by omega) (by omega) hx hly (by omega) (TRow.cg hW row e3)
      have e13 : (nI l.length + 1) * 13 + nI i = nI (13 * (l.length + 1) + i) := by
        rw [nI_1, show (13 : Int32) = nI 13 from rfl, nI_mul, nI_add, Nat.mul_comm]
      refine ⟨sL z 1 (13 * (l.length + 1) + i) (eL (tv g (x :: l) i)), ?_, e1, fun k hk => ?_, fun j hj => ?_, fun t ht => ?_⟩
      · unfold f2_fillTail_L2
        dsimp only
        rw [o0, if_neg (nI_ge hi (by omega)), vin_nI (show l.length < 2 ^ 31 by omega), gd_p (show l.length < 200 by omega), nI_clamp (show l.length < 2 ^ 31 by omega), e2 0 (by decide), h0, so]
        simp only [Option.bind_some]
        rw [e13, vin_nI (show 13 * (l.length + 1) + i < 2 ^ 31 by omega), gd_p (show 13 * (l.length + 1) + i < 2600 by omega), nI_clamp (show 13 * (l.length + 1) + i < 2 ^ 31 by omega)]
        simp only [lt_v, nI_1]
      · rw [sL_2, if_neg hk]; exact e2 k hk
      · rw [← sL_g]
        show (if j = 13 * (l.length + 1) + i then _ else rL (z.2 1) j) = _
        rw [if_neg (by omega)]; exact e3 j hj
      · rw [← sL_g]
        show (if 13 * (l.length + 1) + t = 13 * (l.length + 1) + i then _ else rL (z.2 1) (13 * (l.length + 1) + t)) = _
        by_cases q : t = i
        · rw [if_pos (by omega), q]
        · rw [if_neg (by omega)]; exact e4 t (by omega))
  refine ⟨z, ?_, e1, e2, by rw [e2 0 (by decide)]; exact h0, e4, RLs.cg hW hr (fun j _ => by rw [e2 0 (by decide)]) e3⟩
  have e : wh (f2_fillTail_L2 (nI l.length) o) (0, rt) = _ := e
  unfold f2_fillTail
  rw [e]
  rfl
theorem p0_fillBottom {g : nb} {o : ob} (hW : WF g) (hN : NK o g 1 (coO g 1 10)) (rt : ob) : ∃ rt', f0_fillBottom o rt = some rt' ∧ rt'.1 = rt.1 ∧ rt'.2 0 = rt.2 0 ∧ RLs g rt' [] := by
  have hb := ndn_b hW
  obtain ⟨-, -, -, -, -, -, -, o6⟩ := hN
  obtain ⟨z, e, e1, e2, e4⟩ := wh_fr (st := f0_fillBottom_L2 o) (fun i (b : ob) => (nI i, b)) 13 (fun i z => z.1 = rt.1 ∧ z.2 0 = rt.2 0 ∧ ∀ t, t < i → rL (z.2 1) t = eL (tv g [] t)) (b0 := rt) ⟨rfl, rfl, fun _ h => absurd h (Nat.not_lt_zero _)⟩
    (by
      intro z _
      unfold f0_fillBottom_L2
      dsimp only
      rw [if_pos (by decide)])
    (by
      rintro i z hi ⟨e1, e2, e4⟩
      have ev : (if o.2 6 i = 0 then (some (1000000000000 : Int64)) else (some 0)) = some (eL (tv g [] i)) := by
        rw [o6 i hi]
        unfold tv
        rcases acc_01 g i (g.1 7) with h | h
        · rw [h, if_pos (by decide), if_neg (by decide)]; exact congrArg some eL_F
        · rw [h, if_neg (by decide), if_pos rfl]; exact congrArg some eL_Z
      refine ⟨sL z 1 i (eL (tv g [] i)), ?_, e1, ?_, fun t ht => ?_⟩
      · unfold f0_fillBottom_L2
        dsimp only
        rw [if_neg (show ¬ (13 : Int32) ≤ nI i from nI_ge (b := 13) hi (by decide)), vin_nI (by omega), gd_p hi, nI_clamp (by omega), ev]
        simp only [Option.bind_some]
        rw [vin_nI (by omega), gd_p (show i < 2600 by omega)]
        simp only [lt_v, nI_1]
      · exact e2
      · rw [← sL_g]
        show (if t = i then _ else rL (z.2 1) t) = _
        by_cases q : t = i
        · rw [if_pos q, q]
        · rw [if_neg q]; exact e4 t (by omega))
  refine ⟨z, ?_, e1, e2, fun t ht => ?_⟩
  · have e : wh (f0_fillBottom_L2 o) (0, rt) = _ := e
    unfold f0_fillBottom
    rw [e]
    rfl
  · rw [Nat.mul_zero, Nat.zero_add]
    exact e4 t (by omega)
