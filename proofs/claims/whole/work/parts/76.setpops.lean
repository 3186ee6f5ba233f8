def massP (b : Nat → Nat) : Nat := ctr (fun k => decide (b k = 1)) 36
def keepH (m m' : ob) : Prop := m'.1 = m.1 ∧ ∀ k, k ≠ 25 → k ≠ 26 → k ≠ 27 → m'.2 k = m.2 k
theorem keepH.rf (m : ob) : keepH m m := ⟨rfl, fun _ _ _ _ => rfl⟩
theorem keepH.tr {a b c : ob} (h : keepH a b) (k : keepH b c) : keepH a c := ⟨k.1.trans h.1, fun j q1 q2 q3 => (k.2 j q1 q2 q3).trans (h.2 j q1 q2 q3)⟩
theorem MW.H {m m' : ob} {g : nb} (h : MW m g) (k : keepH m m') : MW m' g := h.cg (fun j _ => by rw [k.1]) (fun j hj => k.2 j (by omega) (by omega) (by omega))
theorem PS_cg {b b' : Nat → Nat} (h : ∀ k, k < 36 → b' k = b k) {p x s : Nat} (hp : PS b' p x s) : PS b p x s := by
  obtain ⟨h1, h2, h3, h4⟩ := hp
  exact ⟨h1, h2, h3, by rw [← h _ (by omega)]; exact h4⟩
section SETPOPS
variable {g : nb}
def RJ (g : nb) (b b' : Nat → Nat) (v : Int32) (r i : Nat) : Prop := OKP g b' ∧ (∀ k, k < 36 → b k = 1 → b' k = 1) ∧ ((v = nI 0 ∧ (∀ k, k < 36 → b' k = b k) ∧ (∀ r', r' < r → ∀ s, s < g.1 0 → GN (PS b) (g.2 4 r') (g.2 5 r') s → PS b (g.2 2 r') (g.2 3 r') s) ∧ ∀ s, s < i → GN (PS b) (g.2 4 r) (g.2 5 r) s → PS b (g.2 2 r) (g.2 3 r) s) ∨ (v = nI 1 ∧ massP b + 1 ≤ massP b'))
theorem massP_mono {b b' : Nat → Nat} (h : ∀ k, k < 36 → b k = 1 → b' k = 1) : massP b ≤ massP b' := ctr_mono (fun k hk q => decide_eq_true (h k hk (of_decide_eq_true q)))
theorem massP_new {b b' : Nat → Nat} (h : ∀ k, k < 36 → b k = 1 → b' k = 1) {j : Nat} (hj : j < 36) (h1 : ¬ b j = 1) (h2 : b' j = 1) : massP b + 1 ≤ massP b' :=
  ctr_strict (r := j) (fun k hk q => decide_eq_true (h k hk (of_decide_eq_true q))) hj (decide_eq_false h1) (decide_eq_true h2)
theorem p6_popsRule (hW : WF g) (m0 : ob) (hm0 : MW m0 g) (b : Nat → Nat) {r : Nat} (hr : r < g.1 1) (v : Int32) (z : ob) (kz : keepH m0 z) (b0 : Nat → Nat) (h25 : ∀ k, k < 36 → z.2 25 k = nI (b0 k)) (hJ : RJ g b b0 v r 0) :
    ∃ v' z' b', wh (f6_setPops_L41 (nI r)) (v, 0, z) = some (1, (v', nI (g.1 0), z')) ∧ keepH m0 z' ∧ (∀ k, k < 36 → z'.2 25 k = nI (b' k)) ∧ RJ g b b' v' r (g.1 0) := by
  have h10 := hW.2.1.2.1
  have h3 := hW.1.2.1
  obtain ⟨c1, c2, c3, c4⟩ := hW.2.1.1 r hr
  have e7 : (7 : Int32) * nI r = nI (7 * r) := by rw [show (7 : Int32) = nI 7 from rfl, nI_mul]
  obtain ⟨y, e, kk, b', a1, a2⟩ := wh_fr (st := f6_setPops_L41 (nI r)) (fun i (b : Int32 × ob) => (b.1, nI i, b.2)) (g.1 0) (fun i y => keepH m0 y.2 ∧ ∃ b', (∀ k, k < 36 → y.2.2 25 k = nI (b' k)) ∧ RJ g b b' y.1 r i) (b0 := (v, z)) ⟨kz, b0, h25, hJ⟩
    (by
      rintro ⟨v, z⟩ ⟨k, -⟩
      unfold f6_setPops_L41
      dsimp only
      rw [k.1, hm0.1.1, if_pos (nI_le (Nat.le_refl _) (by omega))])
    (by
      rintro i ⟨v, z⟩ hi ⟨k, b', a1, ⟨a2, a3, a4⟩⟩
      dsimp only at k a1 a4
      have hz := hm0.H k
      obtain ⟨d1, d2, -⟩ := hz.2.1 r hr
      obtain ⟨w, ew, hw⟩ := p6_isGone hW z hz b' a2 a1 hr (s := i) (by omega)
      obtain ⟨j, hj⟩ : ∃ j, j = 12 * g.2 2 r + 3 * g.2 3 r + i := ⟨_, rfl⟩
      have hj36 : j < 36 := by omega
      have ej : (12 : Int32) * nI (g.2 2 r) + 3 * nI (g.2 3 r) + nI i = nI j := by
        rw [hj, show (12 : Int32) = nI 12 from rfl, show (3 : Int32) = nI 3 from rfl, nI_mul, nI_mul, nI_add, nI_add]
      have sp : f6_setPops_L41 (nI r) (v, nI i, z) = ((if nI (b' j) = 0 then (if w = 0 then some (v, z) else some (1, sA z 25 j 1)) else some (v, z)).bind fun v13 => some (0, (v13.1, nI (i + 1), v13.2))) := by
        unfold f6_setPops_L41
        dsimp only
        rw [hz.1.1, if_neg (nI_ge hi (by omega)), e7, nI_1, vin_nI (by omega), gd_p (show 7 * r < 70 by omega), vin_nI (by omega), gd_p (show 7 * r + 1 < 70 by omega), nI_clamp (by omega), nI_clamp (by omega), d1, d2, ej]
        simp only [lt_v]
        rw [vin_nI (by omega), gd_p hj36, nI_clamp (by omega), a1 j hj36, ew]
        simp only [Option.bind_some, nI_1, gd_p hj36]
      have b01 := a2.1 j hj36
      have toP : ∀ p x s, PS b p x s → PS b' p x s := fun p x s h => ⟨h.1, h.2.1, h.2.2.1, by
        have h1 := h.1
        have h2 := h.2.1
        have h3 := h.2.2.1
        exact a3 _ (by omega) h.2.2.2⟩
      have same : (∀ k, k < 36 → b' k = b k) → (GN (PS b) (g.2 4 r) (g.2 5 r) i → b' j = 1) → (∀ s, s < i → GN (PS b) (g.2 4 r) (g.2 5 r) s → PS b (g.2 2 r) (g.2 3 r) s) → ∀ s, s < i + 1 → GN (PS b) (g.2 4 r) (g.2 5 r) s → PS b (g.2 2 r) (g.2 3 r) s := by
        intro q1 q2 q3 s hs hG
        by_cases qs : s = i
        · subst qs
          refine ⟨by omega, c2, by omega, ?_⟩
          rw [← hj, ← q1 j hj36]
          exact q2 hG
        · exact q3 s (by omega) hG
      by_cases q : b' j = 0
      · rw [if_pos (show nI (b' j) = 0 by rw [q]; rfl)] at sp
        rcases hw with ⟨rfl, hn⟩ | ⟨rfl, hG⟩
        · rw [if_pos z0] at sp
          refine ⟨(v, z), sp, k, b', a1, a2, a3, ?_⟩
          rcases a4 with ⟨p1, p2, p3, p4⟩ | h
          · exact Or.inl ⟨p1, p2, p3, same p2 (fun hG => absurd (GN_mono toP hG) hn) p4⟩
          · exact Or.inr h
        · rw [if_neg z1] at sp
          refine ⟨(1, sA z 25 j 1), sp, k.tr ⟨rfl, fun k q1 _ _ => by simp only [sI_1, sI_2, sA_1, sA_2, sR_1, sR_2, upd_at, sL_1, sL_2, rL_uL, updL_at, if_neg q1]⟩, fun k => if k = j then 1 else b' k, fun k hk => ?_, ⟨⟨fun k hk => ?_, fun p x s hP => ?_⟩, fun k hk h1 => ?_, Or.inr ⟨rfl, ?_⟩⟩⟩
          · show (if k = j then 1 else z.2 25 k) = nI (if k = j then 1 else b' k)
            by_cases qk : k = j
            · rw [if_pos qk, if_pos qk]; rfl
            · rw [if_neg qk, if_neg qk]; exact a1 k hk
          · show (if k = j then 1 else b' k) = 0 ∨ (if k = j then 1 else b' k) = 1
            by_cases qk : k = j
            · exact Or.inr (if_pos qk)
            · rw [if_neg qk]; exact a2.1 k hk
          · obtain ⟨h1, h2, h3, h4⟩ := hP
            have h4 : (if 12 * p + 3 * x + s = j then 1 else b' (12 * p + 3 * x + s)) = 1 := h4
            by_cases qk : 12 * p + 3 * x + s = j
            · have g1 : p = g.2 2 r := by omega
              have g2 : x = g.2 3 r := by omega
              have g3 : s = i := by omega
              rw [g1, g2, g3]
              exact Pop_clo g r hr i (by omega) (GN_mono a2.2 hG)
            · rw [if_neg qk] at h4
              exact a2.2 p x s ⟨h1, h2, h3, h4⟩
          · show (if k = j then 1 else b' k) = 1
            by_cases qk : k = j
            · exact if_pos qk
            · rw [if_neg qk]; exact a3 k hk h1
          · have n := massP_new (b := b') (b' := fun k => if k = j then 1 else b' k) (fun k _ h => by
              show (if k = j then 1 else b' k) = 1
              by_cases qk : k = j
              · exact if_pos qk
              · rw [if_neg qk]; exact h) hj36 (by omega) (if_pos rfl)
            have := massP_mono a3
            omega
      · have q1 : b' j = 1 := by omega
        rw [if_neg (show ¬ nI (b' j) = 0 by rw [q1]; decide)] at sp
        refine ⟨(v, z), sp, k, b', a1, a2, a3, ?_⟩
        rcases a4 with ⟨p1, p2, p3, p4⟩ | h
        · exact Or.inl ⟨p1, p2, p3, same p2 (fun _ => q1) p4⟩
        · exact Or.inr h)
  exact ⟨y.1, y.2, b', e, kk, a1, a2⟩
theorem p6_popsRound (hW : WF g) (m0 : ob) (hm0 : MW m0 g) (b : Nat → Nat) (hb : OKP g b) (z : ob) (kz : keepH m0 z) (h25 : ∀ k, k < 36 → z.2 25 k = nI (b k)) :
    ∃ v' z' b', wh f6_setPops_L31 (0, 0, z) = some (1, (v', nI (g.1 1), z')) ∧ keepH m0 z' ∧ (∀ k, k < 36 → z'.2 25 k = nI (b' k)) ∧ OKP g b' ∧ ((v' = nI 0 ∧ (∀ k, k < 36 → b' k = b k) ∧ CLO g (PS b)) ∨ (v' = nI 1 ∧ massP b + 1 ≤ massP b')) := by
  have h10 := hW.2.1.2.1
  obtain ⟨y, e, kk, b', a1, a2, a3, a4⟩ := wh_fr (st := f6_setPops_L31) (fun i (b : Int32 × ob) => (b.1, nI i, b.2)) (g.1 1) (fun i y => keepH m0 y.2 ∧ ∃ b', (∀ k, k < 36 → y.2.2 25 k = nI (b' k)) ∧ RJ g b b' y.1 i 0) (b0 := (nI 0, z)) ⟨kz, b, h25, hb, fun _ _ h => h, Or.inl ⟨rfl, fun _ _ => rfl, fun _ h => absurd h (by omega), fun _ h => absurd h (by omega)⟩⟩
    (by
      rintro ⟨v, z⟩ ⟨k, -⟩
      unfold f6_setPops_L31
      dsimp only
      rw [k.1, hm0.2.2.1, if_pos (nI_le (Nat.le_refl _) (by omega))])
    (by
      rintro i ⟨v, z⟩ hi ⟨k, b1, a1, a2⟩
      obtain ⟨v', z', b', e, k', c1, c2⟩ := p6_popsRule hW m0 hm0 b hi v z k b1 a1 a2
      refine ⟨(v', z'), ?_, k', b', c1, c2.1, c2.2.1, ?_⟩
      · unfold f6_setPops_L31
        dsimp only
        have k1 : z.1 = m0.1 := k.1
        rw [k1, hm0.2.2.1, if_neg (nI_ge hi (by omega)), e]
        simp only [Option.bind_some, lt_v, nI_1]
      · rcases c2.2.2 with ⟨p1, p2, p3, p4⟩ | h
        · refine Or.inl ⟨p1, p2, fun r' hr' s hs => ?_, fun _ h => absurd h (by omega)⟩
          by_cases q : r' = i
          · subst q; exact p4 s hs
          · exact p3 r' (by omega) s hs
        · exact Or.inr h)
  refine ⟨y.1, y.2, b', e, kk, a1, a2, ?_⟩
  rcases a4 with ⟨p1, p2, p3, -⟩ | h
  · refine Or.inl ⟨p1, p2, fun r hr s hs hG => ?_⟩
    have hP : Pop g (g.2 2 r) (g.2 3 r) s := Pop_clo g r hr s hs (GN_mono hb.2 hG)
    exact p3 r hr s (Pop_lt hW hP).2.2 hG
  · exact Or.inr h
theorem p6_setPops (hW : WF g) (m : ob) (hm : MW m g) : ∃ m' b, f6_setPops m = some m' ∧ keepH m m' ∧ (∀ k, k < 36 → m'.2 25 k = nI (b k)) ∧ (∀ k, k < 36 → b k = 0 ∨ b k = 1) ∧ ∀ p x s, PS b p x s ↔ Pop g p x s := by
  obtain ⟨z, ez, kz, z2⟩ := wh_fr (st := f6_setPops_L2) (fun i (b : ob) => (nI i, b)) 36 (fun i z => keepH m z ∧ ∀ h, h < i → z.2 25 h = nI 0) (b0 := m) ⟨keepH.rf m, fun _ h => absurd h (by omega)⟩
    (by
      intro z _
      unfold f6_setPops_L2
      dsimp only
      rw [if_pos (by decide)])
    (by
      rintro i z hi ⟨k, z2⟩
      refine ⟨sA z 25 i 0, ?_, k.tr ⟨rfl, fun k q1 _ _ => by simp only [sI_1, sI_2, sA_1, sA_2, sR_1, sR_2, upd_at, sL_1, sL_2, rL_uL, updL_at, if_neg q1]⟩, fun h hh => ?_⟩
      · unfold f6_setPops_L2
        dsimp only
        rw [if_neg (show ¬ (36 : Int32) ≤ nI i from nI_ge (a := i) (b := 36) hi (by decide)), vin_nI (by omega), gd_p hi, nI_clamp (by omega)]
        simp only [lt_v, nI_1]
      · show (if h = i then 0 else z.2 25 h) = nI 0
        by_cases q : h = i
        · rw [if_pos q]; rfl
        · rw [if_neg q]; exact z2 h (by omega))
  have ok0 : OKP g (fun _ => 0) := ⟨fun _ _ => Or.inl rfl, fun p x s h => absurd h.2.2.2 (show ¬ (0 : Nat) = 1 by decide)⟩
  obtain ⟨k, y, ey, hk, ky, b, y2, y3, y4⟩ := wh_meas (st := f6_setPops_L23) (fun n z => keepH m z.2 ∧ ∃ b, (∀ h, h < 36 → z.2.2 25 h = nI (b h)) ∧ OKP g b ∧ ((z.1 = nI 1 ∧ n = 40 - massP b) ∨ (z.1 = nI 0 ∧ n = 0 ∧ CLO g (PS b)))) (fun k z => k = 0 ∧ keepH m z.2 ∧ ∃ b, (∀ h, h < 36 → z.2.2 25 h = nI (b h)) ∧ OKP g b ∧ CLO g (PS b))
    (by
      rintro n ⟨v, z⟩ ⟨kz, b, a2, a3, a4⟩
      dsimp only at kz a2 a4
      unfold f6_setPops_L23
      dsimp only
      rcases a4 with ⟨hv, rfl⟩ | ⟨hv, rfl, hcl⟩
      · have hmb : massP b ≤ 36 := ctr_le _ _
        obtain ⟨v', z', b', e, k', c1, c2, c3⟩ := p6_popsRound hW m hm b a3 z kz a2
        rcases c3 with ⟨p1, p2, p3⟩ | ⟨p1, p2⟩
        · refine Or.inr ⟨0, (v', z'), by omega, ?_, k', b', c1, c2, Or.inr ⟨p1, rfl, fun r hr s hs hG => ?_⟩⟩
          · rw [hv, if_neg (show ¬ nI 1 = (0 : Int32) by decide), e]
            simp only [Option.bind_some]
          · have := p3 r hr s hs (GN_mono (fun p x s h => PS_cg p2 h) hG)
            exact PS_cg (fun k hk => (p2 k hk).symm) this
        · have hmb' : massP b' ≤ 36 := ctr_le _ _
          refine Or.inr ⟨40 - massP b', (v', z'), by omega, ?_, k', b', c1, c2, Or.inl ⟨p1, rfl⟩⟩
          rw [hv, if_neg (show ¬ nI 1 = (0 : Int32) by decide), e]
          simp only [Option.bind_some]
      · refine Or.inl ⟨0, (v, z), ?_, rfl, kz, b, a2, a3, hcl⟩
        rw [hv, if_pos z0])
    (40 - massP (fun _ => 0)) (nI 1, z) ⟨kz, fun _ => 0, z2, ok0, Or.inl ⟨rfl, rfl⟩⟩
  subst hk
  refine ⟨y.2, b, ?_, ky, y2, y3.1, fun p x s => ⟨y3.2 p x s, fun h => h _ y4⟩⟩
  unfold f6_setPops
  have ez : wh f6_setPops_L2 (0, m) = some (1, (nI 36, z)) := ez
  rw [ez]
  simp only [Option.bind_some]
  have ey : wh f6_setPops_L23 (1, z) = some (0 + 1, y) := ey
  rw [ey]
  simp only [Option.bind_some]
end SETPOPS
