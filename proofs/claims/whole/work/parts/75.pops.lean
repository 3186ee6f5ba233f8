/-! the class: in which states a letter can be gone -/
def massF (f : Nat → Nat) : Nat := ctr (fun i => (f (i / 3)).testBit (i % 3)) 36
theorem ctr_le (f : Nat → Bool) : ∀ n, ctr f n ≤ n
  | 0 => Nat.le_refl _
  | n + 1 => by
    have := ctr_le f n
    rw [ctr_s]; split <;> omega
theorem tb_hi {a s : Nat} (ha : a < 8) (hs : 3 ≤ s) : a.testBit s = false := Nat.testBit_lt_two_pow (Nat.lt_of_lt_of_le ha (Nat.pow_le_pow_right (by omega) hs : 2 ^ 3 ≤ 2 ^ s))
theorem or_new {a b : Nat} (ha : a < 8) (hb : b < 8) (h : ¬ a ||| b = a) : ∃ s, s < 3 ∧ a.testBit s = false ∧ b.testBit s = true := by
  refine Classical.byContradiction fun hn => h ?_
  refine Nat.eq_of_testBit_eq fun s => ?_
  rw [Nat.testBit_or]
  by_cases q : s < 3
  · cases ea : a.testBit s with
    | true => rfl
    | false =>
      cases eb : b.testBit s with
      | false => rfl
      | true => exact absurd ⟨s, q, ea, eb⟩ hn
  · rw [tb_hi hb (by omega), Bool.or_false]
def OKF (g : nb) (f : Nat → Nat) : Prop := (∀ h, h < 12 → f h < 8) ∧ ∀ p x s, FS f p x s → Pop g p x s
def subF (f f' : Nat → Nat) : Prop := ∀ h s, (f h).testBit s = true → (f' h).testBit s = true
theorem massF_mono {f f' : Nat → Nat} (h : subF f f') : massF f ≤ massF f' := ctr_mono (fun i _ q => h _ _ q)
theorem massF_new {f f' : Nat → Nat} (h : subF f f') {k s : Nat} (hk : k < 12) (hs : s < 3) (h1 : (f k).testBit s = false) (h2 : (f' k).testBit s = true) : massF f + 1 ≤ massF f' :=
  ctr_strict (r := 3 * k + s) (fun i _ q => h _ _ q) (by omega) (by
    show (f ((3 * k + s) / 3)).testBit ((3 * k + s) % 3) = false
    rw [show (3 * k + s) / 3 = k by omega, show (3 * k + s) % 3 = s by omega]; exact h1) (by
    show (f' ((3 * k + s) / 3)).testBit ((3 * k + s) % 3) = true
    rw [show (3 * k + s) / 3 = k by omega, show (3 * k + s) % 3 = s by omega]; exact h2)
section POPS
variable {g : nb}
theorem p1_settleRound (hW : WF g) (now : ob) (ht : TW now g) (f : Nat → Nat) (hf : OKF g f) (o : ob) (h0 : ∀ h, h < 12 → o.2 0 h = nI (f h)) :
    ∃ fl o' f', wh (f1_settleFalls_L41 now) (0, 0, o) = some (1, (fl, nI (g.1 1), o')) ∧ o'.1 = o.1 ∧ (∀ k, k ≠ 0 → o'.2 k = o.2 k) ∧ (∀ h, h < 12 → o'.2 0 h = nI (f' h)) ∧ OKF g f' ∧ ((fl = nI 0 ∧ (∀ h, h < 12 → f' h = f h) ∧ CLO g (FS f)) ∨ (fl = nI 1 ∧ massF f + 1 ≤ massF f')) := by
  have h10 := hW.2.1.2.1
  have h3 := hW.1.2.1
  have t8 := ht.2.2.2.2.2.1
  obtain ⟨b, e, a1, a2, f', a3, a4, a5, a6⟩ := wh_fr (st := f1_settleFalls_L41 now) (fun i (b : Int32 × ob) => (b.1, nI i, b.2)) (g.1 1) (fun i b => b.2.1 = o.1 ∧ (∀ k, k ≠ 0 → b.2.2 k = o.2 k) ∧ ∃ f', (∀ h, h < 12 → b.2.2 0 h = nI (f' h)) ∧ OKF g f' ∧ subF f f' ∧ ((b.1 = nI 0 ∧ (∀ h, h < 12 → f' h = f h) ∧ ∀ r, r < i → ∀ s, s < 3 → GN (FS f) (g.2 4 r) (g.2 5 r) s → FS f (g.2 2 r) (g.2 3 r) s) ∨ (b.1 = nI 1 ∧ massF f + 1 ≤ massF f'))) (b0 := (0, o))
    ⟨rfl, fun _ _ => rfl, f, h0, hf, fun _ _ h => h, Or.inl ⟨rfl, fun _ _ => rfl, fun _ h => absurd h (by omega)⟩⟩
    (by
      intro b _
      unfold f1_settleFalls_L41
      dsimp only
      rw [ht.2.1, if_pos (nI_le (Nat.le_refl _) (by omega))])
    (by
      rintro i ⟨v, z⟩ hi ⟨a1, a2, f', a3, a4, a5, a6⟩
      dsimp only at a1 a2 a3 a6
      obtain ⟨c1, c2, c3, c4⟩ := hW.2.1.1 i hi
      have hh : 4 * g.2 2 i + g.2 3 i < 12 := by omega
      have hfh := a4.1 _ hh
      have haw := awd_lt a4.1 (q := g.2 4 i) (w := g.2 5 i) (by omega) c4
      have ea := p1_afterWord f' (g.2 4 i) (g.2 5 i) (by omega) c4 z a3
      obtain ⟨a, hadef⟩ : ∃ a, a = awd f' (g.2 4 i) (g.2 5 i) := ⟨_, rfl⟩
      rw [← hadef] at ea haw
      have ab : ∀ s, a.testBit s = true ↔ GN (FS f') (g.2 4 i) (g.2 5 i) s := fun s => by rw [hadef]; exact awd_b (by omega) c4
      have e4 : nI (g.2 2 i) * 4 + nI (g.2 3 i) = nI (4 * g.2 2 i + g.2 3 i) := by
        rw [show (4 : Int32) = nI 4 from rfl, nI_mul, nI_add]
        exact congrArg nI (by omega)
      -- the row behind this rule
      have sub2 : subF f' (fun h => if h = 4 * g.2 2 i + g.2 3 i then f' h ||| a else f' h) := by
        intro h s hs
        show (if h = _ then f' h ||| a else f' h).testBit s = true
        split
        · rw [Nat.testBit_or, hs]; rfl
        · exact hs
      have st : ∀ w : Int32, f1_settleFalls_L41 now (v, nI i, z) = some (0, (v ||| (if nI (f' (4 * g.2 2 i + g.2 3 i) ||| a) = nI (f' (4 * g.2 2 i + g.2 3 i)) then 0 else 1), nI (i + 1), sA z 0 (4 * g.2 2 i + g.2 3 i) (nI (f' (4 * g.2 2 i + g.2 3 i) ||| a)))) := by
        intro w
        unfold f1_settleFalls_L41
        dsimp only
        have hv : vin (nI i) 10 = true := by rw [vin_nI (by omega)]; exact decide_eq_true (by omega)
        have hcl : (nI i).toNatClampNeg = i := nI_clamp (by omega)
        have hv2 : vin (nI (4 * g.2 2 i + g.2 3 i)) 12 = true := by rw [vin_nI (by omega)]; exact decide_eq_true hh
        have hcl2 : (nI (4 * g.2 2 i + g.2 3 i)).toNatClampNeg = 4 * g.2 2 i + g.2 3 i := nI_clamp (by omega)
        rw [ht.2.1, if_neg (nI_ge hi (by omega))]
        simp only [hv, gd_t, hcl, lt_v]
        rw [t8 2 i hi (by omega) (by omega), t8 3 i hi (by omega) (by omega), t8 4 i hi (by omega) (by omega), t8 5 i hi (by omega) (by omega), e4, ea]
        simp only [Option.bind_some, hv2, gd_t, hcl2]
        rw [a3 _ hh, nI_or]
        by_cases q : nI (f' (4 * g.2 2 i + g.2 3 i) ||| a) = nI (f' (4 * g.2 2 i + g.2 3 i))
        · rw [if_pos q, if_pos q]
          simp only [Option.bind_some, nI_1]
        · rw [if_neg q, if_neg q]
          simp only [Option.bind_some, nI_1]
      have orl : f' (4 * g.2 2 i + g.2 3 i) ||| a < 8 := or_lt (n := 3) hfh haw
      have rows : ∀ h, h < 12 → (sA z 0 (4 * g.2 2 i + g.2 3 i) (nI (f' (4 * g.2 2 i + g.2 3 i) ||| a))).2 0 h = nI (if h = 4 * g.2 2 i + g.2 3 i then f' h ||| a else f' h) := by
        intro h hh'
        show (if h = 4 * g.2 2 i + g.2 3 i then nI (f' (4 * g.2 2 i + g.2 3 i) ||| a) else z.2 0 h) = _
        by_cases q : h = 4 * g.2 2 i + g.2 3 i
        · rw [if_pos q, if_pos q, q]
        · rw [if_neg q, if_neg q]; exact a3 h hh'
      have ok2 : OKF g (fun h => if h = 4 * g.2 2 i + g.2 3 i then f' h ||| a else f' h) := by
        refine ⟨fun h hh' => ?_, fun p x s hF => ?_⟩
        · show (if h = _ then f' h ||| a else f' h) < 8
          by_cases q : h = 4 * g.2 2 i + g.2 3 i
          · rw [if_pos q, q]; exact orl
          · rw [if_neg q]; exact a4.1 h hh'
        · obtain ⟨q1, q2, q3⟩ := hF
          have q3 : (if 4 * p + x = 4 * g.2 2 i + g.2 3 i then f' (4 * p + x) ||| a else f' (4 * p + x)).testBit s = true := q3
          by_cases q : 4 * p + x = 4 * g.2 2 i + g.2 3 i
          · rw [if_pos q, Nat.testBit_or, Bool.or_eq_true] at q3
            rcases q3 with q3 | q3
            · exact a4.2 p x s ⟨q1, q2, q3⟩
            · have e1 : p = g.2 2 i := by omega
              have e2 : x = g.2 3 i := by omega
              rw [e1, e2]
              have hs : s < 3 := by
                by_cases hs : s < 3
                · exact hs
                · rw [tb_hi haw (by omega)] at q3; cases q3
              exact Pop_clo g i hi s hs (GN_mono a4.2 ((ab s).mp q3))
          · rw [if_neg q] at q3
            exact a4.2 p x s ⟨q1, q2, q3⟩
      refine ⟨(v ||| (if nI (f' (4 * g.2 2 i + g.2 3 i) ||| a) = nI (f' (4 * g.2 2 i + g.2 3 i)) then 0 else 1), sA z 0 (4 * g.2 2 i + g.2 3 i) (nI (f' (4 * g.2 2 i + g.2 3 i) ||| a))), st 0, a1, fun k hk => by simp only [sI_1, sI_2, sA_1, sA_2, sR_1, sR_2, upd_at, sL_1, sL_2, rL_uL, updL_at, if_neg hk]; exact a2 k hk, _, rows, ok2, fun h s hs => sub2 h s (a5 h s hs), ?_⟩
      by_cases q : f' (4 * g.2 2 i + g.2 3 i) ||| a = f' (4 * g.2 2 i + g.2 3 i)
      · have same : ∀ h, (if h = 4 * g.2 2 i + g.2 3 i then f' h ||| a else f' h) = f' h := by
          intro h
          by_cases q2 : h = 4 * g.2 2 i + g.2 3 i
          · rw [if_pos q2, q2, q]
          · rw [if_neg q2]
        have vq : v ||| (if nI (f' (4 * g.2 2 i + g.2 3 i) ||| a) = nI (f' (4 * g.2 2 i + g.2 3 i)) then (0 : Int32) else 1) = v := by
          rw [if_pos (by rw [q]), Int32.or_zero]
        rcases a6 with ⟨b1, b2, b3⟩ | ⟨b1, b2⟩
        · refine Or.inl ⟨vq.trans b1, fun h hh' => (same h).trans (b2 h hh'), fun r hr s hs hG => ?_⟩
          by_cases qr : r = i
          · subst qr
            have toF' : ∀ p x s, FS f p x s → FS f' p x s := fun p x s h => ⟨h.1, h.2.1, a5 _ _ h.2.2⟩
            have hb := (ab s).mpr (GN_mono toF' hG)
            refine ⟨by omega, c2, ?_⟩
            rw [← b2 _ hh, ← q, Nat.testBit_or, hb, Bool.or_true]
          · exact b3 r (by omega) s hs hG
        · refine Or.inr ⟨vq.trans b1, ?_⟩
          have e : massF (fun h => if h = 4 * g.2 2 i + g.2 3 i then f' h ||| a else f' h) = massF f' := congrArg massF (funext same)
          rw [e]; exact b2
      · obtain ⟨s, hs, n1, n2⟩ := or_new hfh haw q
        have vq : v ||| (if nI (f' (4 * g.2 2 i + g.2 3 i) ||| a) = nI (f' (4 * g.2 2 i + g.2 3 i)) then (0 : Int32) else 1) = nI 1 := by
          rw [if_neg (fun h => q ((nI_eq (by omega) (by omega)).mp h))]
          rcases a6 with ⟨b1, -⟩ | ⟨b1, -⟩ <;> rw [b1] <;> decide
        refine Or.inr ⟨vq, ?_⟩
        have := massF_new sub2 hh hs n1 (by
          show (if 4 * g.2 2 i + g.2 3 i = 4 * g.2 2 i + g.2 3 i then f' _ ||| a else f' _).testBit s = true
          rw [if_pos rfl, Nat.testBit_or, n2, Bool.or_true])
        have := massF_mono a5
        omega)
  refine ⟨b.1, b.2, f', e, a1, a2, a3, a4, ?_⟩
  rcases a6 with ⟨b1, b2, b3⟩ | h
  · exact Or.inl ⟨b1, b2, b3⟩
  · exact Or.inr h
theorem p1_settleFalls (hW : WF g) (now : ob) (ht : TW now g) (o : ob) : ∃ o' f, f1_settleFalls o now = some o' ∧ o'.1 = o.1 ∧ (∀ h, h < 12 → o'.2 0 h = nI (f h)) ∧ (∀ h, h < 12 → f h < 8) ∧ ∀ p x s, FS f p x s ↔ Pop g p x s := by
  obtain ⟨z, ez, z1, z2⟩ := wh_fr (st := f1_settleFalls_L2) (fun i (b : ob) => (nI i, b)) 12 (fun i z => z.1 = o.1 ∧ ∀ h, h < i → z.2 0 h = nI 0) (b0 := o) ⟨rfl, fun _ h => absurd h (by omega)⟩
    (by
      intro z _
      unfold f1_settleFalls_L2
      dsimp only
      rw [if_pos (by decide)])
    (by
      rintro i z hi ⟨z1, z2⟩
      refine ⟨sA z 0 i 0, ?_, z1, fun h hh => ?_⟩
      · unfold f1_settleFalls_L2
        dsimp only
        rw [if_neg (show ¬ (12 : Int32) ≤ nI i from nI_ge (a := i) (b := 12) hi (by decide)), vin_nI (by omega), gd_p hi, nI_clamp (by omega)]
        simp only [lt_v, nI_1]
      · show (if h = i then 0 else z.2 0 h) = nI 0
        by_cases q : h = i
        · rw [if_pos q]; rfl
        · rw [if_neg q]; exact z2 h (by omega))
  have ok0 : OKF g (fun _ => 0) := ⟨fun _ _ => by show 0 < 8; omega, fun p x s h => by
    have : (0 : Nat).testBit s = true := h.2.2
    rw [Nat.zero_testBit] at this; cases this⟩
  obtain ⟨k, y, ey, hk, y1, f, y2, y3, y4⟩ := wh_meas (st := f1_settleFalls_L25 now) (fun n z => ∃ c f, n = 100 - c ∧ z.2.1 = nI c ∧ z.2.2.1 = o.1 ∧ (∀ h, h < 12 → z.2.2.2 0 h = nI (f h)) ∧ OKF g f ∧ ((z.1 = nI 1 ∧ c ≤ massF f) ∨ (z.1 = nI 0 ∧ c ≤ 37 ∧ CLO g (FS f)))) (fun k z => k = 0 ∧ z.2.2.1 = o.1 ∧ ∃ f, (∀ h, h < 12 → z.2.2.2 0 h = nI (f h)) ∧ OKF g f ∧ CLO g (FS f))
    (by
      rintro n ⟨v, w, z⟩ ⟨c, f, rfl, hw, a1, a2, a3, a4⟩
      dsimp only at hw a1 a2 a4
      subst hw
      unfold f1_settleFalls_L25
      dsimp only
      rcases a4 with ⟨hv, hc⟩ | ⟨hv, hc, hcl⟩
      · have hm : massF f ≤ 36 := ctr_le _ _
        obtain ⟨fl, o', f', e, b1, b2, b3, b4, b5⟩ := p1_settleRound hW now ht f a3 z a2
        refine Or.inr ⟨100 - (c + 1), (fl, nI (c + 1), o'), by omega, ?_, c + 1, f', rfl, rfl, b1.trans a1, b3, b4, ?_⟩
        · rw [if_neg (show ¬ (1000 : Int32) ≤ nI c from nI_ge (a := c) (b := 1000) (by omega) (by decide)), hv, if_neg (show ¬ nI 1 = (0 : Int32) by decide), e]
          simp only [Option.bind_some, lt_v, nI_1]
        · rcases b5 with ⟨c1, c2, c3⟩ | ⟨c1, c2⟩
          · refine Or.inr ⟨c1, by omega, fun r hr s hs hG => ?_⟩
            have back : ∀ p x s, FS f' p x s → FS f p x s := fun p x s h => ⟨h.1, h.2.1, by
              have h1 := h.1
              have h2 := h.2.1
              rw [← c2 (4 * p + x) (by omega)]; exact h.2.2⟩
            have := c3 r hr s hs (GN_mono back hG)
            exact ⟨this.1, this.2.1, by
              have h1 := this.1
              have h2 := this.2.1
              rw [c2 _ (by omega)]; exact this.2.2⟩
          · exact Or.inl ⟨c1, by omega⟩
      · refine Or.inl ⟨0, (v, nI c, z), ?_, rfl, a1, f, a2, a3, hcl⟩
        rw [if_neg (show ¬ (1000 : Int32) ≤ nI c from nI_ge (a := c) (b := 1000) (by omega) (by decide)), hv, if_pos z0])
    100 (nI 1, nI 0, z) ⟨0, fun _ => 0, rfl, rfl, z1, z2, ok0, Or.inl ⟨rfl, Nat.zero_le _⟩⟩
  subst hk
  refine ⟨y.2.2, f, ?_, y1, y2, y3.1, fun p x s => ⟨y3.2 p x s, fun h => h _ y4⟩⟩
  unfold f1_settleFalls
  have ez : wh f1_settleFalls_L2 (0, o) = some (1, (nI 12, z)) := ez
  rw [ez]
  simp only [Option.bind_some]
  have ey : wh (f1_settleFalls_L25 now) (1, 0, z) = some (0 + 1, y) := ey
  rw [ey]
  simp only [Option.bind_some]
/-! the reference: what pops what -/
def PS (b : Nat → Nat) (p x s : Nat) : Prop := p < 3 ∧ x < 4 ∧ s < 3 ∧ b (12 * p + 3 * x + s) = 1
def OKP (g : nb) (b : Nat → Nat) : Prop := (∀ k, k < 36 → b k = 0 ∨ b k = 1) ∧ ∀ p x s, PS b p x s → Pop g p x s
theorem p6_popsBy (b : Nat → Nat) (m : ob) (h25 : ∀ k, k < 36 → m.2 25 k = nI (b k)) {p x s : Nat} (hp : p < 3) (hx : x < 4) (hs : s < 3) : f6_popsBy (nI p) (nI x) (nI s) m = some (nI (b (12 * p + 3 * x + s))) := by
  unfold f6_popsBy
  have e : (12 : Int32) * nI p + 3 * nI x + nI s = nI (12 * p + 3 * x + s) := by
    rw [show (12 : Int32) = nI 12 from rfl, show (3 : Int32) = nI 3 from rfl, nI_mul, nI_mul, nI_add, nI_add]
  rw [e, vin_nI (by omega), gd_p (show 12 * p + 3 * x + s < 36 by omega), nI_clamp (by omega), h25 _ (by omega)]
theorem bit1 {v : Nat} (h : v = 0 ∨ v = 1) : (nI v = 1 ↔ v = 1) := by
  rcases h with e | e <;> subst e <;> decide
theorem p6_isGone (hW : WF g) (m : ob) (hm : MW m g) (b : Nat → Nat) (hb : OKP g b) (h25 : ∀ k, k < 36 → m.2 25 k = nI (b k)) {r s : Nat} (hr : r < g.1 1) (hs : s < 3) :
    ∃ v, f6_isGone (nI r) (nI s) m = some v ∧ ((v = nI 0 ∧ ¬ GN (PS b) (g.2 4 r) (g.2 5 r) s) ∨ (v = nI 1 ∧ GN (PS b) (g.2 4 r) (g.2 5 r) s)) := by
  have h10 := hW.2.1.2.1
  have h3 := hW.1.2.1
  obtain ⟨c1, c2, c3, c4⟩ := hW.2.1.1 r hr
  obtain ⟨b1, b2, b3, b4, b5, b6⟩ := hm.2.1 r hr
  have e7 : (7 : Int32) * nI r = nI (7 * r) := by rw [show (7 : Int32) = nI 7 from rfl, nI_mul]
  have e72 : nI (7 * r) + 2 = nI (7 * r + 2) := nI_add _ 2
  have e73 : nI (7 * r) + 3 = nI (7 * r + 3) := nI_add _ 3
  have e74 : nI (7 * r) + 4 = nI (7 * r + 4) := nI_add _ 4
  have e75 : nI (7 * r) + 5 = nI (7 * r + 5) := nI_add _ 5
  have hl := fun x hx => lw_lt (x := x) c4 hx
  unfold f6_isGone
  rw [e7, e72, e73, e74, vin_nI (by omega), gd_p (show 7 * r + 2 < 70 by omega), vin_nI (by omega), vin_nI (by omega), nI_clamp (by omega), nI_clamp (by omega), nI_clamp (by omega), b3, b4]
  simp only [lt_v]
  rw [gd_p (show 7 * r + 3 < 70 by omega), gd_p (show 7 * r + 4 < 70 by omega)]
  cases e : lw (g.2 5 r) with
  | nil =>
    simp only [List.length_nil]
    rw [if_pos (show nI 0 = 0 from rfl)]
    have gn : GN (PS b) (g.2 4 r) (g.2 5 r) s ↔ g.2 4 r = s := by unfold GN; rw [e]
    by_cases q : g.2 4 r = s
    · exact ⟨nI 1, by rw [if_pos (by rw [q])]; rfl, Or.inr ⟨rfl, gn.mpr q⟩⟩
    · exact ⟨nI 0, by rw [if_neg (fun h => q ((nI_eq (by omega) (by omega)).mp h))]; rfl, Or.inl ⟨rfl, fun h => q (gn.mp h)⟩⟩
  | cons x l =>
    have hx : x < 4 := hl _ (by rw [e]; exact List.mem_cons_self)
    have m4 : m.2 2 (7 * r + 4) = nI x := b5 0 x (by rw [e]; rfl)
    cases l with
    | nil =>
      simp only [List.length_cons, List.length_nil, Nat.zero_add]
      rw [if_neg (show ¬ nI 1 = 0 by decide), if_pos (show nI 1 = 1 from rfl), m4, p6_popsBy b m h25 (by omega) hx hs]
      simp only [Option.bind_some]
      have gn : GN (PS b) (g.2 4 r) (g.2 5 r) s ↔ PS b (g.2 4 r) x s := by unfold GN; rw [e]
      have b01 := hb.1 (12 * g.2 4 r + 3 * x + s) (by omega)
      by_cases q : b (12 * g.2 4 r + 3 * x + s) = 1
      · exact ⟨nI 1, by rw [if_pos ((bit1 b01).mpr q)]; rfl, Or.inr ⟨rfl, gn.mpr ⟨by omega, hx, hs, q⟩⟩⟩
      · exact ⟨nI 0, by rw [if_neg (fun h => q ((bit1 b01).mp h))]; rfl, Or.inl ⟨rfl, fun h => q (gn.mp h).2.2.2⟩⟩
    | cons y l2 =>
      have hy : y < 4 := hl _ (by rw [e]; simp)
      have m5 : m.2 2 (7 * r + 5) = nI y := b5 1 y (by rw [e]; rfl)
      have hl2 : l2 = [] := by
        have : (x :: y :: l2).length ≤ 2 := by rw [← e]; exact lw_len
        simp only [List.length_cons] at this
        exact List.length_eq_zero_iff.mp (by omega)
      subst hl2
      simp only [List.length_cons, List.length_nil, Nat.zero_add]
      rw [if_neg (show ¬ nI (1 + 1) = 0 by decide), if_neg (show ¬ nI (1 + 1) = 1 by decide), m4]
      have gn : GN (PS b) (g.2 4 r) (g.2 5 r) s ↔ ∃ t, t < 3 ∧ PS b (g.2 4 r) x t ∧ PS b t y s := by unfold GN; rw [e]
      obtain ⟨v, ev, hv⟩ := wh_fr (st := f6_isGone_L84 (nI r) (nI s) m (nI (g.2 4 r)) (nI x)) (fun i (b : Int32) => (b, nI i)) (g.1 0) (fun i v => (v = nI 0 ∧ ¬ ∃ t, t < i ∧ PS b (g.2 4 r) x t ∧ PS b t y s) ∨ (v = nI 1 ∧ ∃ t, t < i ∧ PS b (g.2 4 r) x t ∧ PS b t y s)) (b0 := nI 0) (Or.inl ⟨rfl, fun ⟨t, h, _⟩ => absurd h (by omega)⟩)
        (by
          intro v _
          unfold f6_isGone_L84
          dsimp only
          rw [hm.1.1, if_pos (nI_le (Nat.le_refl _) (by omega))])
        (by
          intro i v hi hv
          have sp : f6_isGone_L84 (nI r) (nI s) m (nI (g.2 4 r)) (nI x) (v, nI i) = ((if v = 0 then (if nI (b (12 * g.2 4 r + 3 * x + i)) = 1 then (if nI (b (12 * i + 3 * y + s)) = 1 then some (1 : Int32) else some 0) else some 0) else some 1).bind fun v12 => some (0, (v12, nI (i + 1)))) := by
            unfold f6_isGone_L84
            dsimp only
            rw [hm.1.1, if_neg (nI_ge hi (by omega)), p6_popsBy b m h25 (by omega) hx (by omega)]
            simp only [Option.bind_some, lt_v, nI_1]
            rw [e7, e75, vin_nI (by omega), gd_p (show 7 * r + 5 < 70 by omega), nI_clamp (by omega), m5, p6_popsBy b m h25 (by omega) hy hs]
            simp only [Option.bind_some]
          have i01 := hb.1 (12 * g.2 4 r + 3 * x + i) (by omega)
          have j01 := hb.1 (12 * i + 3 * y + s) (by omega)
          rcases hv with ⟨rfl, hn⟩ | ⟨rfl, hy'⟩
          · rw [if_pos z0] at sp
            by_cases q1 : b (12 * g.2 4 r + 3 * x + i) = 1
            · rw [if_pos ((bit1 i01).mpr q1)] at sp
              by_cases q2 : b (12 * i + 3 * y + s) = 1
              · rw [if_pos ((bit1 j01).mpr q2)] at sp
                exact ⟨nI 1, sp, Or.inr ⟨rfl, i, by omega, ⟨by omega, hx, by omega, q1⟩, ⟨by omega, hy, hs, q2⟩⟩⟩
              · rw [if_neg (fun h => q2 ((bit1 j01).mp h))] at sp
                refine ⟨nI 0, sp, Or.inl ⟨rfl, fun ⟨t, t1, t2, t3⟩ => ?_⟩⟩
                by_cases qt : t = i
                · subst qt; exact q2 t3.2.2.2
                · exact hn ⟨t, by omega, t2, t3⟩
            · rw [if_neg (fun h => q1 ((bit1 i01).mp h))] at sp
              refine ⟨nI 0, sp, Or.inl ⟨rfl, fun ⟨t, t1, t2, t3⟩ => ?_⟩⟩
              by_cases qt : t = i
              · subst qt; exact q1 t2.2.2.2
              · exact hn ⟨t, by omega, t2, t3⟩
          · rw [if_neg z1] at sp
            obtain ⟨t, t1, t2⟩ := hy'
            exact ⟨nI 1, sp, Or.inr ⟨rfl, t, by omega, t2⟩⟩)
      have ev : wh (f6_isGone_L84 (nI r) (nI s) m (nI (g.2 4 r)) (nI x)) (0, 0) = some (1, (v, nI (g.1 0))) := ev
      rw [ev]
      simp only [Option.bind_some]
      rcases hv with ⟨rfl, hn⟩ | ⟨rfl, t, t1, t2⟩
      · refine ⟨nI 0, rfl, Or.inl ⟨rfl, fun h => ?_⟩⟩
        obtain ⟨t, t1, t2, t3⟩ := gn.mp h
        exact hn ⟨t, (Pop_lt hW (hb.2 _ _ _ t2)).2.2, t2, t3⟩
      · exact ⟨nI 1, rfl, Or.inr ⟨rfl, gn.mpr ⟨t, by omega, t2⟩⟩⟩
end POPS
