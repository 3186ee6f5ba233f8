/-! copies of systems -/
theorem copyTW (d s : ob) {g : nb} (h : TW s g) (hW : WF g) : ∃ d', f4_copyFrom d s = some d' ∧ TW d' g := by
  obtain ⟨⟨w0, w1, w2, w3⟩, ⟨w4, w5, -⟩, ⟨-, w6, -⟩, -⟩ := hW
  obtain ⟨⟨h1, h2, h3⟩, h4, h5, h6, h7, h8, h9, h10⟩ := h
  have c10 : cpk 0 0 10 10 10 = true := by decide
  have c12 : cpk 0 0 12 12 12 = true := by decide
  have z10 : (10 : Int32).toNatClampNeg = 10 := rfl
  have z12 : (12 : Int32).toNatClampNeg = 12 := rfl
  have zz : (0 : Int32).toNatClampNeg = 0 := rfl
  have cp : ∀ (r t : Nat → Int32) (n k : Nat), k < n → va_cpy r t 0 0 n k = r k := by
    intro r t n k hk
    unfold va_cpy
    rw [if_pos ⟨by omega, by omega⟩, show 0 + (k - 0) = k by omega]
  have loop : ∀ t13 : ob, ∃ z, wh (f4_copyFrom_L101 s) (0, t13) = some (1, (nI 4, z)) ∧ z.1 = t13.1 ∧ (∀ k, k ≠ 8 → k ≠ 9 → k ≠ 10 → z.2 k = t13.2 k) ∧ ∀ i, i < 4 → z.2 8 i = s.2 8 i ∧ z.2 9 i = s.2 9 i ∧ z.2 10 i = s.2 10 i := by
    intro t13
    obtain ⟨z, e, a1, a2, a3⟩ := wh_fr (st := f4_copyFrom_L101 s) (fun i (b : ob) => (nI i, b)) 4 (fun i z => z.1 = t13.1 ∧ (∀ k, k ≠ 8 → k ≠ 9 → k ≠ 10 → z.2 k = t13.2 k) ∧ ∀ j, j < i → z.2 8 j = s.2 8 j ∧ z.2 9 j = s.2 9 j ∧ z.2 10 j = s.2 10 j) (b0 := t13) ⟨rfl, fun _ _ _ _ => rfl, fun _ h => absurd h (by omega)⟩
      (by
        intro z _
        unfold f4_copyFrom_L101
        dsimp only
        rw [if_pos (by decide)])
      (by
        rintro i z hi ⟨a1, a2, a3⟩
        refine ⟨sA (sA (sA z 8 i (s.2 8 i)) 9 i (s.2 9 i)) 10 i (s.2 10 i), ?_, a1, fun k q1 q2 q3 => ?_, fun j hj => ?_⟩
        · unfold f4_copyFrom_L101
          dsimp only
          rw [if_neg (show ¬ (4 : Int32) ≤ nI i from nI_ge (a := i) (b := 4) hi (by decide)), vin_nI (by omega), nI_clamp (by omega), h10 i hi]
          simp only [gd_p hi, gd_t, lt_v, nI_1]
        · simp only [sI_1, sI_2, sA_1, sA_2, sR_1, sR_2, upd_at, sL_1, sL_2, rL_uL, updL_at, if_neg q1, if_neg q2, if_neg q3]
          exact a2 k q1 q2 q3
        · by_cases q : j = i
          · subst q
            refine ⟨?_, ?_, ?_⟩
            · show (if j = j then s.2 8 j else z.2 8 j) = _; rw [if_pos rfl]
            · show (if j = j then s.2 9 j else z.2 9 j) = _; rw [if_pos rfl]
            · show (if j = j then s.2 10 j else z.2 10 j) = _; rw [if_pos rfl]
          · obtain ⟨b1, b2, b3⟩ := a3 j (by omega)
            refine ⟨?_, ?_, ?_⟩
            · show (if j = i then s.2 8 i else z.2 8 j) = _; rw [if_neg q]; exact b1
            · show (if j = i then s.2 9 i else z.2 9 j) = _; rw [if_neg q]; exact b2
            · show (if j = i then s.2 10 i else z.2 10 j) = _; rw [if_neg q]; exact b3)
    exact ⟨z, e, a1, a2, a3⟩
  unfold f4_copyFrom
  simp only [lt_v, c10, c12, gd_t, z10, z12, zz]
  obtain ⟨z, e, a1, a2, a3⟩ := loop (sI (sR (sR (sR (sR (sR (sI (sI d 0 (s.1 0)) 1 (s.1 1)) 2 (va_cpy (s.2 2) (d.2 2) 0 0 10)) 3 (va_cpy (s.2 3) (d.2 3) 0 0 10)) 4 (va_cpy (s.2 4) (d.2 4) 0 0 10)) 5 (va_cpy (s.2 5) (d.2 5) 0 0 10)) 6 (va_cpy (s.2 6) (d.2 6) 0 0 10)) 7 (s.1 7))
  refine ⟨_, (congrArg (fun q => Option.bind q _) e).trans rfl, ⟨?_, ?_, ?_⟩, ?_, ?_, ?_, ?_, ?_, ?_, ?_⟩
  · show z.1 0 = _
    rw [a1]; exact h1
  · show z.1 7 = _
    rw [a1]; exact h2
  · intro i hi
    obtain ⟨b1, b2, b3⟩ := a3 i (by omega)
    obtain ⟨c1, c2, c3, c4⟩ := h3 i hi
    have l := (w3 i hi).2.1
    refine ⟨b1.trans c1, b2.trans c2, b3.trans c3, fun j hj => ?_⟩
    show va_cpy (s.2 11) (z.2 11) 0 0 12 (3 * i + j) = _
    rw [cp _ _ _ _ (by omega)]
    exact c4 j hj
  · show z.1 1 = _
    rw [a1]; exact h4
  · exact h5
  · exact h6
  · exact h7
  · intro k r hr q1 q2
    have hr10 : r < 10 := by omega
    have : ∀ k, k ≠ 8 → k ≠ 9 → k ≠ 10 → k ≠ 11 → k ≠ 15 → (sR (sI (sI (sI (sR z 11 (va_cpy (s.2 11) (z.2 11) 0 0 12)) 12 (s.1 12)) 13 (s.1 13)) 14 (s.1 14)) 15 (va_cpy (s.2 15) (z.2 15) 0 0 12)).2 k = z.2 k := by
      intro k _ _ _ k4 k5
      simp only [sI_1, sI_2, sA_1, sA_2, sR_1, sR_2, upd_at, sL_1, sL_2, rL_uL, updL_at, if_neg k4, if_neg k5]
    rcases (show k = 2 ∨ k = 3 ∨ k = 4 ∨ k = 5 ∨ k = 6 by omega) with e | e | e | e | e <;> subst e
    · exact (congrFun (a2 2 (by decide) (by decide) (by decide)) r).trans ((cp (s.2 2) (d.2 2) 10 r hr10).trans (h8 2 r hr q1 q2))
    · exact (congrFun (a2 3 (by decide) (by decide) (by decide)) r).trans ((cp (s.2 3) (d.2 3) 10 r hr10).trans (h8 3 r hr q1 q2))
    · exact (congrFun (a2 4 (by decide) (by decide) (by decide)) r).trans ((cp (s.2 4) (d.2 4) 10 r hr10).trans (h8 4 r hr q1 q2))
    · exact (congrFun (a2 5 (by decide) (by decide) (by decide)) r).trans ((cp (s.2 5) (d.2 5) 10 r hr10).trans (h8 5 r hr q1 q2))
    · exact (congrFun (a2 6 (by decide) (by decide) (by decide)) r).trans ((cp (s.2 6) (d.2 6) 10 r hr10).trans (h8 6 r hr q1 q2))
  · intro i hi
    show va_cpy (s.2 15) (z.2 15) 0 0 12 i = _
    rw [cp _ _ _ _ (by omega)]
    exact h9 i hi
  · intro t ht
    show bz (z.2 10 t) = true
    rw [(a3 t ht).2.2]
    exact h10 t ht
/-! snapshots of the reference -/
def SNP (row : Nat → Int32) (a : Nat) (g : nb) : Prop := ∃ m0, MW m0 g ∧ row a = m0.1 1 ∧ row (a + 1) = m0.1 5 ∧ row (a + 2) = m0.1 6 ∧ row (a + 3) = m0.1 8 ∧ (∀ k, k < 12 → row (a + 4 + k) = m0.2 7 k) ∧ ∀ k, k < 70 → row (a + 16 + k) = m0.2 2 k
theorem SNP.cg {row row' : Nat → Int32} {a a' : Nat} {g : nb} (h : SNP row a g) (e : ∀ j, j < 86 → row' (a' + j) = row (a + j)) : SNP row' a' g := by
  obtain ⟨m0, h0, h1, h2, h3, h4, h5, h6⟩ := h
  refine ⟨m0, h0, ?_, ?_, ?_, ?_, fun k hk => ?_, fun k hk => ?_⟩
  · exact (e 0 (by omega)).trans h1
  · exact (e 1 (by omega)).trans h2
  · exact (e 2 (by omega)).trans h3
  · exact (e 3 (by omega)).trans h4
  · rw [Nat.add_assoc, e (4 + k) (by omega), ← Nat.add_assoc]; exact h5 k hk
  · rw [Nat.add_assoc, e (16 + k) (by omega), ← Nat.add_assoc]; exact h6 k hk
/-- the same states and targets -/
def ST (g p : nb) : Prop := p.1 0 = g.1 0 ∧ p.1 7 = g.1 7 ∧ p.2 8 = g.2 8 ∧ p.2 9 = g.2 9 ∧ p.2 10 = g.2 10 ∧ p.2 11 = g.2 11
theorem ST.rf (g : nb) : ST g g := ⟨rfl, rfl, rfl, rfl, rfl, rfl⟩
theorem ST.tr {a b c : nb} (h : ST a b) (k : ST a c) : ST b c := by
  obtain ⟨h1, h2, h3, h4, h5, h6⟩ := h
  obtain ⟨k1, k2, k3, k4, k5, k6⟩ := k
  exact ⟨k1.trans h1.symm, k2.trans h2.symm, k3.trans h3.symm, k4.trans h4.symm, k5.trans h5.symm, k6.trans h6.symm⟩
/-- a system of the reference from what it is made of -/
theorem MW.of {m m' m0 : ob} {g p : nb} (hm : MW m g) (h0 : MW m0 p) (hW : WF p) (hs : ST g p) (e0 : m'.1 0 = m.1 0) (e3 : m'.1 3 = m.1 3) (e4 : m'.2 4 = m.2 4) (e1 : m'.1 1 = m0.1 1) (e5 : m'.1 5 = m0.1 5) (e6 : m'.1 6 = m0.1 6) (e8 : m'.1 8 = m0.1 8) (e7 : ∀ k, k < 12 → m'.2 7 k = m0.2 7 k) (e2 : ∀ k, k < 70 → m'.2 2 k = m0.2 2 k) : MW m' p := by
  obtain ⟨s1, s2, s3, s4, s5, s6⟩ := hs
  obtain ⟨-, ⟨-, w5, -⟩, ⟨-, w6, -⟩, -⟩ := hW
  obtain ⟨⟨t1, t2, t3⟩, -, -, -, -, -, -, -, t9⟩ := hm
  obtain ⟨-, h2, h3, h4, h5, h6, h7, h8, -⟩ := h0
  refine ⟨⟨?_, ?_, ?_⟩, ?_, e1.trans h3, e5.trans h4, e6.trans h5, e8.trans h6, fun i hi => (e7 i (by omega)).trans (h7 i hi), ?_, ?_⟩
  · rw [e0, s1]; exact t1
  · rw [e3, s2]; exact t2
  · rw [e4, s2, s3, s4, s5, s6]; exact t3
  · intro r hr
    obtain ⟨a1, a2, a3, a4, a5, a6⟩ := h2 r hr
    have l2 := lw_len (w := p.2 5 r)
    refine ⟨?_, ?_, ?_, ?_, fun j x hj => ?_, ?_⟩
    · rw [e2 _ (by omega)]; exact a1
    · rw [e2 _ (by omega)]; exact a2
    · rw [e2 _ (by omega)]; exact a3
    · rw [e2 _ (by omega)]; exact a4
    · have := (List.getElem?_eq_some_iff.mp hj).1
      rw [e2 _ (by omega)]; exact a5 j x hj
    · rw [e2 _ (by omega)]; exact a6
  · intro r hr j hj hl
    rw [e2 _ (by omega)]; exact h8 r hr j hj hl
  · rw [e4, s2, s4]; exact t9
theorem writes_undone (a : Nat) (ha : a + 90 ≤ 720) (m : ob) {g : nb} (hm : MW m g) : ∃ m', f6_writes_undone (nI a) m = some m' ∧ m'.1 = m.1 ∧ (∀ k, k ≠ 10 → m'.2 k = m.2 k) ∧ (∀ j, j < a ∨ a + 86 ≤ j → m'.2 10 j = m.2 10 j) ∧ SNP (m'.2 10) a g := by
  have e1 : nI a + 1 = nI (a + 1) := nI_1 a
  have e2 : nI a + 2 = nI (a + 2) := nI_add a 2
  have e3 : nI a + 3 = nI (a + 3) := nI_add a 3
  have e4 : nI a + 4 = nI (a + 4) := nI_add a 4
  have e16 : nI a + 16 = nI (a + 16) := nI_add a 16
  have w : ∃ u, (sA (sA (sA (sA m 10 a (m.1 1)) 10 (a + 1) (m.1 5)) 10 (a + 2) (m.1 6)) 10 (a + 3) (m.1 8)) = u := ⟨_, rfl⟩
  obtain ⟨u, hu⟩ := w
  have u1 : u.1 = m.1 := by rw [← hu]; rfl
  have u2 : ∀ k, k ≠ 10 → u.2 k = m.2 k := fun k hk => by rw [← hu]; simp only [sI_1, sI_2, sA_1, sA_2, sR_1, sR_2, upd_at, sL_1, sL_2, rL_uL, updL_at, if_neg hk]
  have uR : ∀ j, u.2 10 j = if j = a + 3 then m.1 8 else if j = a + 2 then m.1 6 else if j = a + 1 then m.1 5 else if j = a then m.1 1 else m.2 10 j := fun j => by rw [← hu]; rfl
  obtain ⟨y, ey, y1, y2, y3, y4⟩ := wh_fr (st := f6_writes_undone_L36 (nI a)) (fun i (b : ob) => (nI i, b)) 12 (fun i z => z.1 = m.1 ∧ (∀ k, k ≠ 10 → z.2 k = m.2 k) ∧ (∀ j, j < a + 4 ∨ a + 4 + i ≤ j → z.2 10 j = u.2 10 j) ∧ ∀ k, k < i → z.2 10 (a + 4 + k) = m.2 7 k) (b0 := u) ⟨u1, u2, fun _ _ => rfl, fun _ h => absurd h (by omega)⟩
    (by
      intro z _
      unfold f6_writes_undone_L36
      dsimp only
      rw [if_pos (by decide)])
    (by
      rintro i z hi ⟨y1, y2, y3, y4⟩
      refine ⟨sA z 10 (a + 4 + i) (m.2 7 i), ?_, y1, fun k hk => by simp only [sI_1, sI_2, sA_1, sA_2, sR_1, sR_2, upd_at, sL_1, sL_2, rL_uL, updL_at, if_neg hk]; exact y2 k hk, fun j hj => ?_, fun k hk => ?_⟩
      · unfold f6_writes_undone_L36
        dsimp only
        rw [if_neg (show ¬ (12 : Int32) ≤ nI i from nI_ge (a := i) (b := 12) hi (by decide)), vin_nI (by omega), gd_p hi, e4, nI_add, vin_nI (by omega), gd_p (show a + 4 + i < 720 by omega), nI_clamp (by omega), nI_clamp (by omega), y2 7 (by decide)]
        simp only [lt_v, nI_1]
      · simp only [sI_1, sI_2, sA_1, sA_2, sR_1, sR_2, upd_at, sL_1, sL_2, rL_uL, updL_at, if_true]
        rw [if_neg (by omega)]
        exact y3 j (by omega)
      · simp only [sI_1, sI_2, sA_1, sA_2, sR_1, sR_2, upd_at, sL_1, sL_2, rL_uL, updL_at, if_true]
        by_cases q : k = i
        · rw [if_pos (by omega), q]
        · rw [if_neg (by omega)]; exact y4 k (by omega))
  obtain ⟨z, ez, z1, z2, z3, z4⟩ := wh_fr (st := f6_writes_undone_L63 (nI a)) (fun i (b : ob) => (nI i, b)) 70 (fun i z => z.1 = m.1 ∧ (∀ k, k ≠ 10 → z.2 k = m.2 k) ∧ (∀ j, j < a + 16 ∨ a + 16 + i ≤ j → z.2 10 j = y.2 10 j) ∧ ∀ k, k < i → z.2 10 (a + 16 + k) = m.2 2 k) (b0 := y) ⟨y1, y2, fun _ _ => rfl, fun _ h => absurd h (by omega)⟩
    (by
      intro z _
      unfold f6_writes_undone_L63
      dsimp only
      rw [if_pos (by decide)])
    (by
      rintro i z hi ⟨z1, z2, z3, z4⟩
      refine ⟨sA z 10 (a + 16 + i) (m.2 2 i), ?_, z1, fun k hk => by simp only [sI_1, sI_2, sA_1, sA_2, sR_1, sR_2, upd_at, sL_1, sL_2, rL_uL, updL_at, if_neg hk]; exact z2 k hk, fun j hj => ?_, fun k hk => ?_⟩
      · unfold f6_writes_undone_L63
        dsimp only
        rw [if_neg (show ¬ (70 : Int32) ≤ nI i from nI_ge (a := i) (b := 70) hi (by decide)), vin_nI (by omega), gd_p hi, e16, nI_add, vin_nI (by omega), gd_p (show a + 16 + i < 720 by omega), nI_clamp (by omega), nI_clamp (by omega), z2 2 (by decide)]
        simp only [lt_v, nI_1]
      · simp only [sI_1, sI_2, sA_1, sA_2, sR_1, sR_2, upd_at, sL_1, sL_2, rL_uL, updL_at, if_true]
        rw [if_neg (by omega)]
        exact z3 j (by omega)
      · simp only [sI_1, sI_2, sA_1, sA_2, sR_1, sR_2, upd_at, sL_1, sL_2, rL_uL, updL_at, if_true]
        by_cases q : k = i
        · rw [if_pos (by omega), q]
        · rw [if_neg (by omega)]; exact z4 k (by omega))
  refine ⟨z, ?_, z1, z2, fun j hj => ?_, m, hm, ?_, ?_, ?_, ?_, fun k hk => ?_, z4⟩
  · unfold f6_writes_undone
    simp only [lt_v]
    rw [e1, e2, e3, vin_nI (by omega), gd_p (show a < 720 by omega), vin_nI (by omega), gd_p (show a + 1 < 720 by omega), vin_nI (by omega), gd_p (show a + 2 < 720 by omega), vin_nI (by omega), gd_p (show a + 3 < 720 by omega), nI_clamp (by omega), nI_clamp (by omega), nI_clamp (by omega), nI_clamp (by omega)]
    have ey' : wh (f6_writes_undone_L36 (nI a)) (0, sA (sA (sA (sA m 10 a (m.1 1)) 10 (a + 1) (m.1 5)) 10 (a + 2) (m.1 6)) 10 (a + 3) (m.1 8)) = some (1, (nI 12, y)) := by rw [hu]; exact ey
    refine (congrArg (fun q => Option.bind q _) ey').trans ?_
    refine (congrArg (fun q => Option.bind q _) ez).trans rfl
  · rw [z3 j (by omega), y3 j (by omega), uR, if_neg (by omega), if_neg (by omega), if_neg (by omega), if_neg (by omega)]
  · rw [z3 _ (by omega), y3 _ (by omega), uR, if_neg (by omega), if_neg (by omega), if_neg (by omega), if_pos rfl]
  · rw [z3 _ (by omega), y3 _ (by omega), uR, if_neg (by omega), if_neg (by omega), if_pos rfl]
  · rw [z3 _ (by omega), y3 _ (by omega), uR, if_neg (by omega), if_pos rfl]
  · rw [z3 _ (by omega), y3 _ (by omega), uR, if_pos rfl]
  · rw [z3 _ (by omega)]; exact y4 k hk
theorem reads_undone (a : Nat) (ha : a + 90 ≤ 720) (m : ob) {g p : nb} (hm : MW m g) (hW : WF p) (hs : ST g p) (hp : SNP (m.2 10) a p) : ∃ m', f6_readsBack_undone (nI a) m = some m' ∧ MW m' p ∧ (∀ k, k ≠ 1 → k ≠ 5 → k ≠ 6 → k ≠ 8 → m'.1 k = m.1 k) ∧ ∀ k, k ≠ 2 → k ≠ 7 → m'.2 k = m.2 k := by
  have e1 : nI a + 1 = nI (a + 1) := nI_1 a
  have e2 : nI a + 2 = nI (a + 2) := nI_add a 2
  have e3 : nI a + 3 = nI (a + 3) := nI_add a 3
  have e4 : nI a + 4 = nI (a + 4) := nI_add a 4
  have e16 : nI a + 16 = nI (a + 16) := nI_add a 16
  have w : ∃ u, (sI (sI (sI (sI m 1 (m.2 10 a)) 5 (m.2 10 (a + 1))) 6 (m.2 10 (a + 2))) 8 (m.2 10 (a + 3))) = u := ⟨_, rfl⟩
  obtain ⟨u, hu⟩ := w
  have u2 : u.2 = m.2 := by rw [← hu]; rfl
  obtain ⟨y, ey, y1, y2, y3⟩ := wh_fr (st := f6_readsBack_undone_L36 (nI a)) (fun i (b : ob) => (nI i, b)) 12 (fun i z => z.1 = u.1 ∧ (∀ k, k ≠ 7 → z.2 k = m.2 k) ∧ ∀ k, k < i → z.2 7 k = m.2 10 (a + 4 + k)) (b0 := u) ⟨rfl, fun k _ => by rw [u2], fun _ h => absurd h (by omega)⟩
    (by
      intro z _
      unfold f6_readsBack_undone_L36
      dsimp only
      rw [if_pos (by decide)])
    (by
      rintro i z hi ⟨y1, y2, y3⟩
      refine ⟨sA z 7 i (m.2 10 (a + 4 + i)), ?_, y1, fun k hk => by simp only [sI_1, sI_2, sA_1, sA_2, sR_1, sR_2, upd_at, sL_1, sL_2, rL_uL, updL_at, if_neg hk]; exact y2 k hk, fun k hk => ?_⟩
      · unfold f6_readsBack_undone_L36
        dsimp only
        rw [if_neg (show ¬ (12 : Int32) ≤ nI i from nI_ge (a := i) (b := 12) hi (by decide)), e4, nI_add, vin_nI (by omega), gd_p (show a + 4 + i < 720 by omega), vin_nI (by omega), gd_p hi, nI_clamp (by omega), nI_clamp (by omega), y2 10 (by decide)]
        simp only [lt_v, nI_1]
      · simp only [sI_1, sI_2, sA_1, sA_2, sR_1, sR_2, upd_at, sL_1, sL_2, rL_uL, updL_at, if_true]
        by_cases q : k = i
        · rw [if_pos q, q]
        · rw [if_neg q]; exact y3 k (by omega))
  obtain ⟨z, ez, z1, z2, z3⟩ := wh_fr (st := f6_readsBack_undone_L63 (nI a)) (fun i (b : ob) => (nI i, b)) 70 (fun i z => z.1 = u.1 ∧ (∀ k, k ≠ 2 → z.2 k = y.2 k) ∧ ∀ k, k < i → z.2 2 k = m.2 10 (a + 16 + k)) (b0 := y) ⟨y1, fun _ _ => rfl, fun _ h => absurd h (by omega)⟩
    (by
      intro z _
      unfold f6_readsBack_undone_L63
      dsimp only
      rw [if_pos (by decide)])
    (by
      rintro i z hi ⟨z1, z2, z3⟩
      refine ⟨sA z 2 i (m.2 10 (a + 16 + i)), ?_, z1, fun k hk => by simp only [sI_1, sI_2, sA_1, sA_2, sR_1, sR_2, upd_at, sL_1, sL_2, rL_uL, updL_at, if_neg hk]; exact z2 k hk, fun k hk => ?_⟩
      · unfold f6_readsBack_undone_L63
        dsimp only
        rw [if_neg (show ¬ (70 : Int32) ≤ nI i from nI_ge (a := i) (b := 70) hi (by decide)), e16, nI_add, vin_nI (by omega), gd_p (show a + 16 + i < 720 by omega), vin_nI (by omega), gd_p hi, nI_clamp (by omega), nI_clamp (by omega), z2 10 (by decide), y2 10 (by decide)]
        simp only [lt_v, nI_1]
      · simp only [sI_1, sI_2, sA_1, sA_2, sR_1, sR_2, upd_at, sL_1, sL_2, rL_uL, updL_at, if_true]
        by_cases q : k = i
        · rw [if_pos q, q]
        · rw [if_neg q]; exact z3 k (by omega))
  obtain ⟨m0, h0, h1, h2, h3, h4, h5, h6⟩ := hp
  refine ⟨z, ?_, ?_, fun k q1 q2 q3 q4 => ?_, fun k q1 q2 => (z2 k q1).trans (y2 k q2)⟩
  · unfold f6_readsBack_undone
    simp only [lt_v]
    rw [e1, e2, e3, vin_nI (by omega), gd_p (show a < 720 by omega), vin_nI (by omega), gd_p (show a + 1 < 720 by omega), vin_nI (by omega), gd_p (show a + 2 < 720 by omega), vin_nI (by omega), gd_p (show a + 3 < 720 by omega), nI_clamp (by omega), nI_clamp (by omega), nI_clamp (by omega), nI_clamp (by omega)]
    have ey' : wh (f6_readsBack_undone_L36 (nI a)) (0, sI (sI (sI (sI m 1 (m.2 10 a)) 5 (m.2 10 (a + 1))) 6 (m.2 10 (a + 2))) 8 (m.2 10 (a + 3))) = some (1, (nI 12, y)) := by rw [hu]; exact ey
    refine (congrArg (fun q => Option.bind q _) ey').trans ?_
    refine (congrArg (fun q => Option.bind q _) ez).trans rfl
  · refine MW.of hm h0 hW hs ?_ ?_ ?_ ?_ ?_ ?_ ?_ (fun k hk => ?_) (fun k hk => ?_)
    · rw [z1, ← hu]; rfl
    · rw [z1, ← hu]; rfl
    · rw [z2 4 (by decide), y2 4 (by decide)]
    · rw [z1, ← hu]; exact h1
    · rw [z1, ← hu]; exact h2
    · rw [z1, ← hu]; exact h3
    · rw [z1, ← hu]; exact h4
    · rw [z2 7 (by decide), y3 k hk]; exact h5 k hk
    · rw [z3 k hk]; exact h6 k hk
  · rw [z1, ← hu]
    simp only [sI_1, sI_2, sA_1, sA_2, sR_1, sR_2, upd_at, sL_1, sL_2, rL_uL, updL_at, if_neg q1, if_neg q2, if_neg q3, if_neg q4]
theorem writes_kept (a : Nat) (ha : a + 90 ≤ 180) (m : ob) {g : nb} (hm : MW m g) : ∃ m', f6_writes_kept (nI a) m = some m' ∧ m'.1 = m.1 ∧ (∀ k, k ≠ 12 → m'.2 k = m.2 k) ∧ (∀ j, j < a ∨ a + 86 ≤ j → m'.2 12 j = m.2 12 j) ∧ SNP (m'.2 12) a g := by
  have e1 : nI a + 1 = nI (a + 1) := nI_1 a
  have e2 : nI a + 2 = nI (a + 2) := nI_add a 2
  have e3 : nI a + 3 = nI (a + 3) := nI_add a 3
  have e4 : nI a + 4 = nI (a + 4) := nI_add a 4
  have e16 : nI a + 16 = nI (a + 16) := nI_add a 16
  have w : ∃ u, (sA (sA (sA (sA m 12 a (m.1 1)) 12 (a + 1) (m.1 5)) 12 (a + 2) (m.1 6)) 12 (a + 3) (m.1 8)) = u := ⟨_, rfl⟩
  obtain ⟨u, hu⟩ := w
  have u1 : u.1 = m.1 := by rw [← hu]; rfl
  have u2 : ∀ k, k ≠ 12 → u.2 k = m.2 k := fun k hk => by rw [← hu]; simp only [sI_1, sI_2, sA_1, sA_2, sR_1, sR_2, upd_at, sL_1, sL_2, rL_uL, updL_at, if_neg hk]
  have uR : ∀ j, u.2 12 j = if j = a + 3 then m.1 8 else if j = a + 2 then m.1 6 else if j = a + 1 then m.1 5 else if j = a then m.1 1 else m.2 12 j := fun j => by rw [← hu]; rfl
  obtain ⟨y, ey, y1, y2, y3, y4⟩ := wh_fr (st := f6_writes_kept_L36 (nI a)) (fun i (b : ob) => (nI i, b)) 12 (fun i z => z.1 = m.1 ∧ (∀ k, k ≠ 12 → z.2 k = m.2 k) ∧ (∀ j, j < a + 4 ∨ a + 4 + i ≤ j → z.2 12 j = u.2 12 j) ∧ ∀ k, k < i → z.2 12 (a + 4 + k) = m.2 7 k) (b0 := u) ⟨u1, u2, fun _ _ => rfl, fun _ h => absurd h (by omega)⟩
    (by
      intro z _
      unfold f6_writes_kept_L36
      dsimp only
      rw [if_pos (by decide)])
    (by
      rintro i z hi ⟨y1, y2, y3, y4⟩
      refine ⟨sA z 12 (a + 4 + i) (m.2 7 i), ?_, y1, fun k hk => by simp only [sI_1, sI_2, sA_1, sA_2, sR_1, sR_2, upd_at, sL_1, sL_2, rL_uL, updL_at, if_neg hk]; exact y2 k hk, fun j hj => ?_, fun k hk => ?_⟩
      · unfold f6_writes_kept_L36
        dsimp only
        rw [if_neg (show ¬ (12 : Int32) ≤ nI i from nI_ge (a := i) (b := 12) hi (by decide)), vin_nI (by omega), gd_p hi, e4, nI_add, vin_nI (by omega), gd_p (show a + 4 + i < 180 by omega), nI_clamp (by omega), nI_clamp (by omega), y2 7 (by decide)]
        simp only [lt_v, nI_1]
      · simp only [sI_1, sI_2, sA_1, sA_2, sR_1, sR_2, upd_at, sL_1, sL_2, rL_uL, updL_at, if_true]
        rw [if_neg (by omega)]
        exact y3 j (by omega)
      · simp only [sI_1, sI_2, sA_1, sA_2, sR_1, sR_2, upd_at, sL_1, sL_2, rL_uL, updL_at, if_true]
        by_cases q : k = i
        · rw [if_pos (by omega), q]
        · rw [if_neg (by omega)]; exact y4 k (by omega))
  obtain ⟨z, ez, z1, z2, z3, z4⟩ := wh_fr (st := f6_writes_kept_L63 (nI a)) (fun i (b : ob) => (nI i, b)) 70 (fun i z => z.1 = m.1 ∧ (∀ k, k ≠ 12 → z.2 k = m.2 k) ∧ (∀ j, j < a + 16 ∨ a + 16 + i ≤ j → z.2 12 j = y.2 12 j) ∧ ∀ k, k < i → z.2 12 (a + 16 + k) = m.2 2 k) (b0 := y) ⟨y1, y2, fun _ _ => rfl, fun _ h => absurd h (by omega)⟩
    (by
      intro z _
      unfold f6_writes_kept_L63
      dsimp only
      rw [if_pos (by decide)])
    (by
      rintro i z hi ⟨z1, z2, z3, z4⟩
      refine ⟨sA z 12 (a + 16 + i) (m.2 2 i), ?_, z1, fun k hk => by simp only [sI_1, sI_2, sA_1, sA_2, sR_1, sR_2, upd_at, sL_1, sL_2, rL_uL, updL_at, if_neg hk]; exact z2 k hk, fun j hj => ?_, fun k hk => ?_⟩
      · unfold f6_writes_kept_L63
        dsimp only
        rw [if_neg (show ¬ (70 : Int32) ≤ nI i from nI_ge (a := i) (b := 70) hi (by decide)), vin_nI (by omega), gd_p hi, e16, nI_add, vin_nI (by omega), gd_p (show a + 16 + i < 180 by omega), nI_clamp (by omega), nI_clamp (by omega), z2 2 (by decide)]
        simp only [lt_v, nI_1]
      · simp only [sI_1, sI_2, sA_1, sA_2, sR_1, sR_2, upd_at, sL_1, sL_2, rL_uL, updL_at, if_true]
        rw [if_neg (by omega)]
        exact z3 j (by omega)
      · simp only [sI_1, sI_2, sA_1, sA_2, sR_1, sR_2, upd_at, sL_1, sL_2, rL_uL, updL_at, if_true]
        by_cases q : k = i
        · rw [if_pos (by omega), q]
        · rw [if_neg (by omega)]; exact z4 k (by omega))
  refine ⟨z, ?_, z1, z2, fun j hj => ?_, m, hm, ?_, ?_, ?_, ?_, fun k hk => ?_, z4⟩
  · unfold f6_writes_kept
    simp only [lt_v]
    rw [e1, e2, e3, vin_nI (by omega), gd_p (show a < 180 by omega), vin_nI (by omega), gd_p (show a + 1 < 180 by omega), vin_nI (by omega), gd_p (show a + 2 < 180 by omega), vin_nI (by omega), gd_p (show a + 3 < 180 by omega), nI_clamp (by omega), nI_clamp (by omega), nI_clamp (by omega), nI_clamp (by omega)]
    have ey' : wh (f6_writes_kept_L36 (nI a)) (0, sA (sA (sA (sA m 12 a (m.1 1)) 12 (a + 1) (m.1 5)) 12 (a + 2) (m.1 6)) 12 (a + 3) (m.1 8)) = some (1, (nI 12, y)) := by rw [hu]; exact ey
    refine (congrArg (fun q => Option.bind q _) ey').trans ?_
    refine (congrArg (fun q => Option.bind q _) ez).trans rfl
  · rw [z3 j (by omega), y3 j (by omega), uR, if_neg (by omega), if_neg (by omega), if_neg (by omega), if_neg (by omega)]
  · rw [z3 _ (by omega), y3 _ (by omega), uR, if_neg (by omega), if_neg (by omega), if_neg (by omega), if_pos rfl]
  · rw [z3 _ (by omega), y3 _ (by omega), uR, if_neg (by omega), if_neg (by omega), if_pos rfl]
  · rw [z3 _ (by omega), y3 _ (by omega), uR, if_neg (by omega), if_pos rfl]
  · rw [z3 _ (by omega), y3 _ (by omega), uR, if_pos rfl]
  · rw [z3 _ (by omega)]; exact y4 k hk
theorem reads_kept (a : Nat) (ha : a + 90 ≤ 180) (m : ob) {g p : nb} (hm : MW m g) (hW : WF p) (hs : ST g p) (hp : SNP (m.2 12) a p) : ∃ m', f6_readsBack_kept (nI a) m = some m' ∧ MW m' p ∧ (∀ k, k ≠ 1 → k ≠ 5 → k ≠ 6 → k ≠ 8 → m'.1 k = m.1 k) ∧ ∀ k, k ≠ 2 → k ≠ 7 → m'.2 k = m.2 k := by
  have e1 : nI a + 1 = nI (a + 1) := nI_1 a
  have e2 : nI a + 2 = nI (a + 2) := nI_add a 2
  have e3 : nI a + 3 = nI (a + 3) := nI_add a 3
  have e4 : nI a + 4 = nI (a + 4) := nI_add a 4
  have e16 : nI a + 16 = nI (a + 16) := nI_add a 16
  have w : ∃ u, (sI (sI (sI (sI m 1 (m.2 12 a)) 5 (m.2 12 (a + 1))) 6 (m.2 12 (a + 2))) 8 (m.2 12 (a + 3))) = u := ⟨_, rfl⟩
  obtain ⟨u, hu⟩ := w
  have u2 : u.2 = m.2 := by rw [← hu]; rfl
  obtain ⟨y, ey, y1, y2, y3⟩ := wh_fr (st := f6_readsBack_kept_L36 (nI a)) (fun i (b : ob) => (nI i, b)) 12 (fun i z => z.1 = u.1 ∧ (∀ k, k ≠ 7 → z.2 k = m.2 k) ∧ ∀ k, k < i → z.2 7 k = m.2 12 (a + 4 + k)) (b0 := u) ⟨rfl, fun k _ => by rw [u2], fun _ h => absurd h (by omega)⟩
    (by
      intro z _
      unfold f6_readsBack_kept_L36
      dsimp only
      rw [if_pos (by decide)])
    (by
      rintro i z hi ⟨y1, y2, y3⟩
      refine ⟨sA z 7 i (m.2 12 (a + 4 + i)), ?_, y1, fun k hk => by simp only [sI_1, sI_2, sA_1, sA_2, sR_1, sR_2, upd_at, sL_1, sL_2, rL_uL, updL_at, if_neg hk]; exact y2 k hk, fun k hk => ?_⟩
      · unfold f6_readsBack_kept_L36
        dsimp only
        rw [if_neg (show ¬ (12 : Int32) ≤ nI i from nI_ge (a := i) (b := 12) hi (by decide)), e4, nI_add, vin_nI (by omega), gd_p (show a + 4 + i < 180 by omega), vin_nI (by omega), gd_p hi, nI_clamp (by omega), nI_clamp (by omega), y2 12 (by decide)]
        simp only [lt_v, nI_1]
      · simp only [sI_1, sI_2, sA_1, sA_2, sR_1, sR_2, upd_at, sL_1, sL_2, rL_uL, updL_at, if_true]
        by_cases q : k = i
        · rw [if_pos q, q]
        · rw [if_neg q]; exact y3 k (by omega))
  obtain ⟨z, ez, z1, z2, z3⟩ := wh_fr (st := f6_readsBack_kept_L63 (nI a)) (fun i (b : ob) => (nI i, b)) 70 (fun i z => z.1 = u.1 ∧ (∀ k, k ≠ 2 → z.2 k = y.2 k) ∧ ∀ k, k < i → z.2 2 k = m.2 12 (a + 16 + k)) (b0 := y) ⟨y1, fun _ _ => rfl, fun _ h => absurd h (by omega)⟩
    (by
      intro z _
      unfold f6_readsBack_kept_L63
      dsimp only
      rw [if_pos (by decide)])
    (by
      rintro i z hi ⟨z1, z2, z3⟩
      refine ⟨sA z 2 i (m.2 12 (a + 16 + i)), ?_, z1, fun k hk => by simp only [sI_1, sI_2, sA_1, sA_2, sR_1, sR_2, upd_at, sL_1, sL_2, rL_uL, updL_at, if_neg hk]; exact z2 k hk, fun k hk => ?_⟩
      · unfold f6_readsBack_kept_L63
        dsimp only
        rw [if_neg (show ¬ (70 : Int32) ≤ nI i from nI_ge (a := i) (b := 70) hi (by decide)), e16, nI_add, vin_nI (by omega), gd_p (show a + 16 + i < 180 by omega), vin_nI (by omega), gd_p hi, nI_clamp (by omega), nI_clamp (by omega), z2 12 (by decide), y2 12 (by decide)]
        simp only [lt_v, nI_1]
      · simp only [sI_1, sI_2, sA_1, sA_2, sR_1, sR_2, upd_at, sL_1, sL_2, rL_uL, updL_at, if_true]
        by_cases q : k = i
        · rw [if_pos q, q]
        · rw [if_neg q]; exact z3 k (by omega))
  obtain ⟨m0, h0, h1, h2, h3, h4, h5, h6⟩ := hp
  refine ⟨z, ?_, ?_, fun k q1 q2 q3 q4 => ?_, fun k q1 q2 => (z2 k q1).trans (y2 k q2)⟩
  · unfold f6_readsBack_kept
    simp only [lt_v]
    rw [e1, e2, e3, vin_nI (by omega), gd_p (show a < 180 by omega), vin_nI (by omega), gd_p (show a + 1 < 180 by omega), vin_nI (by omega), gd_p (show a + 2 < 180 by omega), vin_nI (by omega), gd_p (show a + 3 < 180 by omega), nI_clamp (by omega), nI_clamp (by omega), nI_clamp (by omega), nI_clamp (by omega)]
    have ey' : wh (f6_readsBack_kept_L36 (nI a)) (0, sI (sI (sI (sI m 1 (m.2 12 a)) 5 (m.2 12 (a + 1))) 6 (m.2 12 (a + 2))) 8 (m.2 12 (a + 3))) = some (1, (nI 12, y)) := by rw [hu]; exact ey
    refine (congrArg (fun q => Option.bind q _) ey').trans ?_
    refine (congrArg (fun q => Option.bind q _) ez).trans rfl
  · refine MW.of hm h0 hW hs ?_ ?_ ?_ ?_ ?_ ?_ ?_ (fun k hk => ?_) (fun k hk => ?_)
    · rw [z1, ← hu]; rfl
    · rw [z1, ← hu]; rfl
    · rw [z2 4 (by decide), y2 4 (by decide)]
    · rw [z1, ← hu]; exact h1
    · rw [z1, ← hu]; exact h2
    · rw [z1, ← hu]; exact h3
    · rw [z1, ← hu]; exact h4
    · rw [z2 7 (by decide), y3 k hk]; exact h5 k hk
    · rw [z3 k hk]; exact h6 k hk
  · rw [z1, ← hu]
    simp only [sI_1, sI_2, sA_1, sA_2, sR_1, sR_2, upd_at, sL_1, sL_2, rL_uL, updL_at, if_neg q1, if_neg q2, if_neg q3, if_neg q4]
theorem writes_before (a : Nat) (ha : a + 90 ≤ 90) (m : ob) {g : nb} (hm : MW m g) : ∃ m', f6_writes_before (nI a) m = some m' ∧ m'.1 = m.1 ∧ (∀ k, k ≠ 28 → m'.2 k = m.2 k) ∧ (∀ j, j < a ∨ a + 86 ≤ j → m'.2 28 j = m.2 28 j) ∧ SNP (m'.2 28) a g := by
  have e1 : nI a + 1 = nI (a + 1) := nI_1 a
  have e2 : nI a + 2 = nI (a + 2) := nI_add a 2
  have e3 : nI a + 3 = nI (a + 3) := nI_add a 3
  have e4 : nI a + 4 = nI (a + 4) := nI_add a 4
  have e16 : nI a + 16 = nI (a + 16) := nI_add a 16
  have w : ∃ u, (sA (sA (sA (sA m 28 a (m.1 1)) 28 (a + 1) (m.1 5)) 28 (a + 2) (m.1 6)) 28 (a + 3) (m.1 8)) = u := ⟨_, rfl⟩
  obtain ⟨u, hu⟩ := w
  have u1 : u.1 = m.1 := by rw [← hu]; rfl
  have u2 : ∀ k, k ≠ 28 → u.2 k = m.2 k := fun k hk => by rw [← hu]; simp only [sI_1, sI_2, sA_1, sA_2, sR_1, sR_2, upd_at, sL_1, sL_2, rL_uL, updL_at, if_neg hk]
  have uR : ∀ j, u.2 28 j = if j = a + 3 then m.1 8 else if j = a + 2 then m.1 6 else if j = a + 1 then m.1 5 else if j = a then m.1 1 else m.2 28 j := fun j => by rw [← hu]; rfl
  obtain ⟨y, ey, y1, y2, y3, y4⟩ := wh_fr (st := f6_writes_before_L36 (nI a)) (fun i (b : ob) => (nI i, b)) 12 (fun i z => z.1 = m.1 ∧ (∀ k, k ≠ 28 → z.2 k = m.2 k) ∧ (∀ j, j < a + 4 ∨ a + 4 + i ≤ j → z.2 28 j = u.2 28 j) ∧ ∀ k, k < i → z.2 28 (a + 4 + k) = m.2 7 k) (b0 := u) ⟨u1, u2, fun _ _ => rfl, fun _ h => absurd h (by omega)⟩
    (by
      intro z _
      unfold f6_writes_before_L36
      dsimp only
      rw [if_pos (by decide)])
    (by
      rintro i z hi ⟨y1, y2, y3, y4⟩
      refine ⟨sA z 28 (a + 4 + i) (m.2 7 i), ?_, y1, fun k hk => by simp only [sI_1, sI_2, sA_1, sA_2, sR_1, sR_2, upd_at, sL_1, sL_2, rL_uL, updL_at, if_neg hk]; exact y2 k hk, fun j hj => ?_, fun k hk => ?_⟩
      · unfold f6_writes_before_L36
        dsimp only
        rw [if_neg (show ¬ (12 : Int32) ≤ nI i from nI_ge (a := i) (b := 12) hi (by decide)), vin_nI (by omega), gd_p hi, e4, nI_add, vin_nI (by omega), gd_p (show a + 4 + i < 90 by omega), nI_clamp (by omega), nI_clamp (by omega), y2 7 (by decide)]
        simp only [lt_v, nI_1]
      · simp only [sI_1, sI_2, sA_1, sA_2, sR_1, sR_2, upd_at, sL_1, sL_2, rL_uL, updL_at, if_true]
        rw [if_neg (by omega)]
        exact y3 j (by omega)
      · simp only [sI_1, sI_2, sA_1, sA_2, sR_1, sR_2, upd_at, sL_1, sL_2, rL_uL, updL_at, if_true]
        by_cases q : k = i
        · rw [if_pos (by omega), q]
        · rw [if_neg (by omega)]; exact y4 k (by omega))
  obtain ⟨z, ez, z1, z2, z3, z4⟩ := wh_fr (st := f6_writes_before_L63 (nI a)) (fun i (b : ob) => (nI i, b)) 70 (fun i z => z.1 = m.1 ∧ (∀ k, k ≠ 28 → z.2 k = m.2 k) ∧ (∀ j, j < a + 16 ∨ a + 16 + i ≤ j → z.2 28 j = y.2 28 j) ∧ ∀ k, k < i → z.2 28 (a + 16 + k) = m.2 2 k) (b0 := y) ⟨y1, y2, fun _ _ => rfl, fun _ h => absurd h (by omega)⟩
    (by
      intro z _
      unfold f6_writes_before_L63
      dsimp only
      rw [if_pos (by decide)])
    (by
      rintro i z hi ⟨z1, z2, z3, z4⟩
      refine ⟨sA z 28 (a + 16 + i) (m.2 2 i), ?_, z1, fun k hk => by simp only [sI_1, sI_2, sA_1, sA_2, sR_1, sR_2, upd_at, sL_1, sL_2, rL_uL, updL_at, if_neg hk]; exact z2 k hk, fun j hj => ?_, fun k hk => ?_⟩
      · unfold f6_writes_before_L63
        dsimp only
        rw [if_neg (show ¬ (70 : Int32) ≤ nI i from nI_ge (a := i) (b := 70) hi (by decide)), vin_nI (by omega), gd_p hi, e16, nI_add, vin_nI (by omega), gd_p (show a + 16 + i < 90 by omega), nI_clamp (by omega), nI_clamp (by omega), z2 2 (by decide)]
        simp only [lt_v, nI_1]
      · simp only [sI_1, sI_2, sA_1, sA_2, sR_1, sR_2, upd_at, sL_1, sL_2, rL_uL, updL_at, if_true]
        rw [if_neg (by omega)]
        exact z3 j (by omega)
      · simp only [sI_1, sI_2, sA_1, sA_2, sR_1, sR_2, upd_at, sL_1, sL_2, rL_uL, updL_at, if_true]
        by_cases q : k = i
        · rw [if_pos (by omega), q]
        · rw [if_neg (by omega)]; exact z4 k (by omega))
  refine ⟨z, ?_, z1, z2, fun j hj => ?_, m, hm, ?_, ?_, ?_, ?_, fun k hk => ?_, z4⟩
  · unfold f6_writes_before
    simp only [lt_v]
    rw [e1, e2, e3, vin_nI (by omega), gd_p (show a < 90 by omega), vin_nI (by omega), gd_p (show a + 1 < 90 by omega), vin_nI (by omega), gd_p (show a + 2 < 90 by omega), vin_nI (by omega), gd_p (show a + 3 < 90 by omega), nI_clamp (by omega), nI_clamp (by omega), nI_clamp (by omega), nI_clamp (by omega)]
    have ey' : wh (f6_writes_before_L36 (nI a)) (0, sA (sA (sA (sA m 28 a (m.1 1)) 28 (a + 1) (m.1 5)) 28 (a + 2) (m.1 6)) 28 (a + 3) (m.1 8)) = some (1, (nI 12, y)) := by rw [hu]; exact ey
    refine (congrArg (fun q => Option.bind q _) ey').trans ?_
    refine (congrArg (fun q => Option.bind q _) ez).trans rfl
  · rw [z3 j (by omega), y3 j (by omega), uR, if_neg (by omega), if_neg (by omega), if_neg (by omega), if_neg (by omega)]
  · rw [z3 _ (by omega), y3 _ (by omega), uR, if_neg (by omega), if_neg (by omega), if_neg (by omega), if_pos rfl]
  · rw [z3 _ (by omega), y3 _ (by omega), uR, if_neg (by omega), if_neg (by omega), if_pos rfl]
  · rw [z3 _ (by omega), y3 _ (by omega), uR, if_neg (by omega), if_pos rfl]
  · rw [z3 _ (by omega), y3 _ (by omega), uR, if_pos rfl]
  · rw [z3 _ (by omega)]; exact y4 k hk
theorem reads_before (a : Nat) (ha : a + 90 ≤ 90) (m : ob) {g p : nb} (hm : MW m g) (hW : WF p) (hs : ST g p) (hp : SNP (m.2 28) a p) : ∃ m', f6_readsBack_before (nI a) m = some m' ∧ MW m' p ∧ (∀ k, k ≠ 1 → k ≠ 5 → k ≠ 6 → k ≠ 8 → m'.1 k = m.1 k) ∧ ∀ k, k ≠ 2 → k ≠ 7 → m'.2 k = m.2 k := by
  have e1 : nI a + 1 = nI (a + 1) := nI_1 a
  have e2 : nI a + 2 = nI (a + 2) := nI_add a 2
  have e3 : nI a + 3 = nI (a + 3) := nI_add a 3
  have e4 : nI a + 4 = nI (a + 4) := nI_add a 4
  have e16 : nI a + 16 = nI (a + 16) := nI_add a 16
  have w : ∃ u, (sI (sI (sI (sI m 1 (m.2 28 a)) 5 (m.2 28 (a + 1))) 6 (m.2 28 (a + 2))) 8 (m.2 28 (a + 3))) = u := ⟨_, rfl⟩
  obtain ⟨u, hu⟩ := w
  have u2 : u.2 = m.2 := by rw [← hu]; rfl
  obtain ⟨y, ey, y1, y2, y3⟩ := wh_fr (st := f6_readsBack_before_L36 (nI a)) (fun i (b : ob) => (nI i, b)) 12 (fun i z => z.1 = u.1 ∧ (∀ k, k ≠ 7 → z.2 k = m.2 k) ∧ ∀ k, k < i → z.2 7 k = m.2 28 (a + 4 + k)) (b0 := u) ⟨rfl, fun k _ => by rw [u2], fun _ h => absurd h (by omega)⟩
    (by
      intro z _
      unfold f6_readsBack_before_L36
      dsimp only
      rw [if_pos (by decide)])
    (by
      rintro i z hi ⟨y1, y2, y3⟩
      refine ⟨sA z 7 i (m.2 28 (a + 4 + i)), ?_, y1, fun k hk => by simp only [sI_1, sI_2, sA_1, sA_2, sR_1, sR_2, upd_at, sL_1, sL_2, rL_uL, updL_at, if_neg hk]; exact y2 k hk, fun k hk => ?_⟩
      · unfold f6_readsBack_before_L36
        dsimp only
        rw [if_neg (show ¬ (12 : Int32) ≤ nI i from nI_ge (a := i) (b := 12) hi (by decide)), e4, nI_add, vin_nI (by omega), gd_p (show a + 4 + i < 90 by omega), vin_nI (by omega), gd_p hi, nI_clamp (by omega), nI_clamp (by omega), y2 28 (by decide)]
        simp only [lt_v, nI_1]
      · simp only [sI_1, sI_2, sA_1, sA_2, sR_1, sR_2, upd_at, sL_1, sL_2, rL_uL, updL_at, if_true]
        by_cases q : k = i
        · rw [if_pos q, q]
        · rw [if_neg q]; exact y3 k (by omega))
  obtain ⟨z, ez, z1, z2, z3⟩ := wh_fr (st := f6_readsBack_before_L63 (nI a)) (fun i (b : ob) => (nI i, b)) 70 (fun i z => z.1 = u.1 ∧ (∀ k, k ≠ 2 → z.2 k = y.2 k) ∧ ∀ k, k < i → z.2 2 k = m.2 28 (a + 16 + k)) (b0 := y) ⟨y1, fun _ _ => rfl, fun _ h => absurd h (by omega)⟩
    (by
      intro z _
      unfold f6_readsBack_before_L63
      dsimp only
      rw [if_pos (by decide)])
    (by
      rintro i z hi ⟨z1, z2, z3⟩
      refine ⟨sA z 2 i (m.2 28 (a + 16 + i)), ?_, z1, fun k hk => by simp only [sI_1, sI_2, sA_1, sA_2, sR_1, sR_2, upd_at, sL_1, sL_2, rL_uL, updL_at, if_neg hk]; exact z2 k hk, fun k hk => ?_⟩
      · unfold f6_readsBack_before_L63
        dsimp only
        rw [if_neg (show ¬ (70 : Int32) ≤ nI i from nI_ge (a := i) (b := 70) hi (by decide)), e16, nI_add, vin_nI (by omega), gd_p (show a + 16 + i < 90 by omega), vin_nI (by omega), gd_p hi, nI_clamp (by omega), nI_clamp (by omega), z2 28 (by decide), y2 28 (by decide)]
        simp only [lt_v, nI_1]
      · simp only [sI_1, sI_2, sA_1, sA_2, sR_1, sR_2, upd_at, sL_1, sL_2, rL_uL, updL_at, if_true]
        by_cases q : k = i
        · rw [if_pos q, q]
        · rw [if_neg q]; exact z3 k (by omega))
  obtain ⟨m0, h0, h1, h2, h3, h4, h5, h6⟩ := hp
  refine ⟨z, ?_, ?_, fun k q1 q2 q3 q4 => ?_, fun k q1 q2 => (z2 k q1).trans (y2 k q2)⟩
  · unfold f6_readsBack_before
    simp only [lt_v]
    rw [e1, e2, e3, vin_nI (by omega), gd_p (show a < 90 by omega), vin_nI (by omega), gd_p (show a + 1 < 90 by omega), vin_nI (by omega), gd_p (show a + 2 < 90 by omega), vin_nI (by omega), gd_p (show a + 3 < 90 by omega), nI_clamp (by omega), nI_clamp (by omega), nI_clamp (by omega), nI_clamp (by omega)]
    have ey' : wh (f6_readsBack_before_L36 (nI a)) (0, sI (sI (sI (sI m 1 (m.2 28 a)) 5 (m.2 28 (a + 1))) 6 (m.2 28 (a + 2))) 8 (m.2 28 (a + 3))) = some (1, (nI 12, y)) := by rw [hu]; exact ey
    refine (congrArg (fun q => Option.bind q _) ey').trans ?_
    refine (congrArg (fun q => Option.bind q _) ez).trans rfl
  · refine MW.of hm h0 hW hs ?_ ?_ ?_ ?_ ?_ ?_ ?_ (fun k hk => ?_) (fun k hk => ?_)
    · rw [z1, ← hu]; rfl
    · rw [z1, ← hu]; rfl
    · rw [z2 4 (by decide), y2 4 (by decide)]
    · rw [z1, ← hu]; exact h1
    · rw [z1, ← hu]; exact h2
    · rw [z1, ← hu]; exact h3
    · rw [z1, ← hu]; exact h4
    · rw [z2 7 (by decide), y3 k hk]; exact h5 k hk
    · rw [z3 k hk]; exact h6 k hk
  · rw [z1, ← hu]
    simp only [sI_1, sI_2, sA_1, sA_2, sR_1, sR_2, upd_at, sL_1, sL_2, rL_uL, updL_at, if_neg q1, if_neg q2, if_neg q3, if_neg q4]
