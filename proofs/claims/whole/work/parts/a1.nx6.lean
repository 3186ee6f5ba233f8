/-! one item: the reference -/
theorem p6_conf {T : Nat → Nat} {L b n : Nat} {v : Int32} {g : nb} (hT : txt T L) {m : ob} (h : tx_6 m T L) (hb : b ≤ L) (hW : WF g) (h35 : m.1 35 = nI (g.1 0)) (hw : wat T L (b + 2) n) :
    (ccf T L b g n ∧ ∃ m', sf_6 m m' ∧ m'.1 33 = nI n ∧ (∀ j, j < n → m'.2 34 j = nI (T (b + 2 + j) - 97)) ∧ ∀ x0, f6_readsConfiguration x0 (at_6 m b v) = (if x0 = 0 then (some (1, at_6 m' (b + 2 + n) (nI (T b - 48)))) else (lt (sI (at_6 m' (b + 2 + n) (nI (T b - 48))) 5 (nI (T b - 48))) fun t8 => lt (sI t8 6 (t8.1 33)) fun t9 => (wh f6_readsConfiguration_L54 (0, t9)).bind fun q10 => some (1, q10.2.2)))) ∨ (¬ ccf T L b g n ∧ ∃ m' a' v', (∀ x0, f6_readsConfiguration x0 (at_6 m b v) = some (0, at_6 m' a' v')) ∧ sf_6 m m') := by
  have hl := hT.1
  have h3 := hW.1.2.1
  have h1 := hW.1.1
  by_cases c1 : tD T L b 0 (g.1 0)
  case neg =>
    refine Or.inr ⟨fun H => c1 H.1, m, b, v, fun x0 => ?_, sf_6.rf m⟩
    unfold f6_readsConfiguration
    rw [at_6i m b v (show 35 ≠ 31 by decide) (by decide), h35, show f6_figure 0 (nI (g.1 0)) (at_6 m b v) = _ from p6_fig_n (lo := 0) hT h hb (by omega) (by omega) (by omega) c1]
    simp only [Option.bind_some]
    rw [if_pos trivial]
  have f1 : f6_figure 0 (nI (g.1 0)) (at_6 m b v) = _ := p6_fig_y (lo := 0) hT h (by omega) (by omega) (by omega) c1
  by_cases c2 : tS T L (b + 1) 44
  case neg =>
    refine Or.inr ⟨fun H => c2 H.2.1, m, b + 1, nI (T b - 48), fun x0 => ?_, sf_6.rf m⟩
    unfold f6_readsConfiguration
    rw [at_6i m b v (show 35 ≠ 31 by decide) (by decide), h35, f1]
    simp only [Option.bind_some]
    rw [if_neg (show ¬ (1 : Int32) = 0 by decide), show f6_sign 44 (at_6 m (b + 1) (nI (T b - 48))) = _ from p6_sign_n (c := 44) hT h (by omega) (by omega) c2]
    simp only [Option.bind_some]
    rw [if_pos trivial]
  have f2 : f6_sign 44 (at_6 m (b + 1) (nI (T b - 48))) = _ := p6_sign_y (c := 44) hT h c2
  obtain ⟨m1, s1, s33, s34, s5⟩ := p6_word (most := 6) (v := nI (T b - 48)) hT h (show b + 2 ≤ L by omega) hw (by omega)
  have s5 : f6_word 6 (at_6 m (b + 1 + 1) (nI (T b - 48))) = _ := s5
  by_cases c7 : n ≤ 6
  case neg =>
    refine Or.inr ⟨fun H => c7 H.2.2, m1, b + 2 + n, nI (T b - 48), fun x0 => ?_, s1⟩
    unfold f6_readsConfiguration
    rw [at_6i m b v (show 35 ≠ 31 by decide) (by decide), h35, f1]
    simp only [Option.bind_some]
    rw [if_neg (show ¬ (1 : Int32) = 0 by decide), f2]
    simp only [Option.bind_some]
    rw [if_neg (show ¬ (1 : Int32) = 0 by decide), s5]
    simp only [Option.bind_some]
    rw [if_neg c7, if_pos z0]
  rw [if_pos c7] at s5
  refine Or.inl ⟨⟨c1, c2, c7⟩, m1, s1, s33, fun j hj => s34 j hj (by omega), fun x0 => ?_⟩
  unfold f6_readsConfiguration
  rw [at_6i m b v (show 35 ≠ 31 by decide) (by decide), h35, f1]
  simp only [Option.bind_some]
  rw [if_neg (show ¬ (1 : Int32) = 0 by decide), f2]
  simp only [Option.bind_some]
  rw [if_neg (show ¬ (1 : Int32) = 0 by decide), s5]
  simp only [Option.bind_some]
  rw [if_neg z1, at_62]
theorem p6_putConf {g : nb} {t : ob} (ht : MW t g) (p n : Nat) (hn : n ≤ 6) (w : Nat → Nat) (h33 : t.1 33 = nI n) (h34 : ∀ j, j < n → t.2 34 j = nI (w j)) : ∃ m', (lt (sI t 5 (nI p)) fun t8 => lt (sI t8 6 (t8.1 33)) fun t9 => (wh f6_readsConfiguration_L54 (0, t9)).bind fun q10 => some ((1 : Int32), q10.2.2)) = some (1, m') ∧ MW m' (cf g p n (fun i => w (n - 1 - i))) ∧ (∀ k, k ≠ 5 → k ≠ 6 → m'.1 k = t.1 k) ∧ ∀ k, k ≠ 7 → m'.2 k = t.2 k := by
  have e33 : (sI t 5 (nI p)).1 33 = nI n := h33
  obtain ⟨z, ez, b1, b2, b3⟩ := wh_fr (st := f6_readsConfiguration_L54) (fun i (b : ob) => (nI i, b)) n (fun i z => z.1 = (sI (sI t 5 (nI p)) 6 (nI n)).1 ∧ (∀ k, k ≠ 7 → z.2 k = t.2 k) ∧ ∀ j, j < i → z.2 7 j = nI (w (n - 1 - j))) (b0 := sI (sI t 5 (nI p)) 6 (nI n)) ⟨rfl, fun _ _ => rfl, fun _ hj => absurd hj (Nat.not_lt_zero _)⟩
    (by
      rintro z ⟨b1, b2, b3⟩
      have z33 : z.1 33 = nI n := by rw [b1]; exact h33
      unfold f6_readsConfiguration_L54
      dsimp only
      rw [z33, if_pos (nI_le (by omega) (by omega))])
    (by
      rintro i z hi ⟨b1, b2, b3⟩
      have z33 : z.1 33 = nI n := by rw [b1]; exact h33
      have e1 : nI n - 1 - nI i = nI (n - 1 - i) := by rw [show (1 : Int32) = nI 1 from rfl, nI_sub (by omega), nI_sub (by omega)]
      refine ⟨sA z 7 i (nI (w (n - 1 - i))), ?_, b1, fun k hk => ?_, fun j hj => ?_⟩
      · unfold f6_readsConfiguration_L54
        dsimp only
        rw [z33, if_neg (nI_ge hi (by omega)), e1, vin_nI (show n - 1 - i < 2 ^ 31 by omega), gd_p (show n - 1 - i < 6 by omega), vin_nI (show i < 2 ^ 31 by omega), gd_p (show i < 12 by omega), nI_clamp (show i < 2 ^ 31 by omega), nI_clamp (show n - 1 - i < 2 ^ 31 by omega), b2 34 (by decide), h34 _ (by omega)]
        simp only [lt_v, nI_1]
      · show (if k = 7 then _ else z.2 k) = _
        rw [if_neg hk]; exact b2 k hk
      · show (if j = i then _ else z.2 7 j) = _
        by_cases q : j = i
        · rw [if_pos q, q]
        · rw [if_neg q]; exact b3 j (by omega))
  have ez : wh f6_readsConfiguration_L54 (0, sI (sI t 5 (nI p)) 6 (nI n)) = some (1, (nI n, z)) := ez
  refine ⟨z, ?_, ht.cf (fun k _ k1 k2 => ?_) (fun k hk => b2 k (by omega)) ?_ ?_ b3, fun k k1 k2 => ?_, b2⟩
  · simp only [lt_v, e33]
    rw [ez]
    simp only [Option.bind_some]
  · rw [b1]
    show (if k = 6 then _ else if k = 5 then _ else t.1 k) = _
    rw [if_neg k2, if_neg k1]
  · rw [b1]; rfl
  · rw [b1]; rfl
  · rw [b1]
    show (if k = 6 then _ else if k = 5 then _ else t.1 k) = _
    rw [if_neg k2, if_neg k1]
def fr0 (m m' : ob) : Prop := (∀ k, k < 31 → m'.1 k = m.1 k) ∧ ∀ k, k ≠ 34 → m'.2 k = m.2 k
def fr1 (m m' : ob) : Prop := (∀ k, 9 ≤ k → k < 31 → m'.1 k = m.1 k) ∧ ∀ k, k ≠ 2 → k ≠ 4 → k ≠ 7 → k ≠ 34 → m'.2 k = m.2 k
def cnt6 (m : ob) (g : nb) : Prop := m.1 35 = nI (g.1 0) ∧ m.1 36 = nI (g.1 1) ∧ m.1 37 = nI (g.1 7)
theorem fr0.rf (m : ob) : fr0 m m := ⟨fun _ _ => rfl, fun _ _ => rfl⟩
theorem fr0.tr {a b c : ob} (h : fr0 a b) (k : fr0 b c) : fr0 a c := ⟨fun j hj => (k.1 j hj).trans (h.1 j hj), fun j hj => (k.2 j hj).trans (h.2 j hj)⟩
theorem fr1.rf (m : ob) : fr1 m m := ⟨fun _ _ _ => rfl, fun _ _ _ _ _ => rfl⟩
theorem fr1.tr {a b c : ob} (h : fr1 a b) (k : fr1 b c) : fr1 a c := ⟨fun j h1 h2 => (k.1 j h1 h2).trans (h.1 j h1 h2), fun j h1 h2 h3 h4 => (k.2 j h1 h2 h3 h4).trans (h.2 j h1 h2 h3 h4)⟩
theorem fr0.to1 {a b : ob} (h : fr0 a b) : fr1 a b := ⟨fun j _ h2 => h.1 j h2, fun j _ _ _ h4 => h.2 j h4⟩
theorem sf_6.fr {m m' : ob} (h : sf_6 m m') : fr0 m m' := ⟨fun k hk => h.1 k (by omega), fun k hk => h.2 k hk⟩
theorem fr0.tx {m m' : ob} {T : Nat → Nat} {L : Nat} (h : fr0 m m') (t : tx_6 m T L) : tx_6 m' T L := ⟨by rw [h.1 30 (by decide)]; exact t.1, fun i hi => by rw [h.2 29 (by decide)]; exact t.2 i hi⟩
theorem fr1.tx {m m' : ob} {T : Nat → Nat} {L : Nat} (h : fr1 m m') (t : tx_6 m T L) : tx_6 m' T L := ⟨by rw [h.1 30 (by decide) (by decide)]; exact t.1, fun i hi => by rw [h.2 29 (by decide) (by decide) (by decide) (by decide)]; exact t.2 i hi⟩
theorem fr0.at_ (m : ob) (a : Nat) (v : Int32) : fr0 m (at_6 m a v) := ⟨fun k hk => at_6i m a v (by omega) (by omega), fun _ _ => rfl⟩
theorem fr0.MW {m m' : ob} {g : nb} (h : fr0 m m') (hm : MW m g) : MW m' g := hm.cg (fun k hk => h.1 k (by omega)) (fun k hk => h.2 k (by omega))
theorem kset {m : ob} {k : Nat} {x : Int32} (hk : 31 ≤ k) : fr0 m (sI m k x) := ⟨fun j hj => by simp only [sI_1, sI_2, sA_1, sA_2, sR_1, sR_2, upd_at, sL_1, sL_2, rL_uL, updL_at]; rw [if_neg (by omega)], fun _ _ => rfl⟩
/-- the end of an item -/
theorem p6_tail {T : Nat → Nat} {L x : Nat} (hT : txt T L) {m : ob} (h : tx_6 m T L) (hx : x ≤ L) (h31 : m.1 31 = nI x) : (if (1 : Int32) = 0 then (some ((0 : Int32), m)) else ((f6_sign 59 m).bind fun q6 => (if q6.1 = 0 then (some (0, q6.2)) else (some (1, q6.2))))) = if tS T L x 59 then some (1, at_6 m (x + 1) (m.1 32)) else some (0, m) := by
  have e := at_6_self h31
  rw [if_neg (by decide)]
  by_cases c : tS T L x 59
  · have := p6_sign_y (v := m.1 32) hT h c
    rw [e] at this
    rw [show f6_sign 59 m = _ from this, if_pos c]
    simp only [Option.bind_some]
    rw [if_neg (by decide)]
  · have := p6_sign_n (v := m.1 32) hT h hx (by decide) c
    rw [e] at this
    rw [show f6_sign 59 m = _ from this, if_neg c]
    simp only [Option.bind_some]
    rw [if_pos trivial]
