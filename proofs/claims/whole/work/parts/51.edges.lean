/-! counted loops; edges counted; the automaton of both sides -/
theorem wh_fr {S β : Type} {st : S → Option (Nat × S)} (mk : Nat → β → S) (n : Nat) (I : Nat → β → Prop) {b0 : β} (h0 : I 0 b0)
    (hend : ∀ b, I n b → st (mk n b) = some (1, mk n b)) (hstep : ∀ i b, i < n → I i b → ∃ b', st (mk i b) = some (0, mk (i + 1) b') ∧ I (i + 1) b') :
    ∃ b, wh st (mk 0 b0) = some (1, mk n b) ∧ I n b := by
  have key : ∀ j i b, i + j = n → I i b → ∃ b', wh st (mk i b) = some (1, mk n b') ∧ I n b' := by
    intro j
    induction j with
    | zero =>
      intro i b hi hI
      have hi : i = n := by omega
      subst hi
      exact ⟨b, wh_off (hend b hI), hI⟩
    | succ j ih =>
      intro i b hi hI
      obtain ⟨b', e, hI'⟩ := hstep i b (by omega) hI
      obtain ⟨b2, e2, h2⟩ := ih (i + 1) b' (by omega) hI'
      exact ⟨b2, by rw [wh_on e]; exact e2, h2⟩
  exact key n 0 b0 (by omega) h0
def cnt (w : Nat → Nat) : Nat → Nat
  | 0 => 0
  | k + 1 => if w k < 1000000000 then cnt w k + 1 else cnt w k
theorem cnt_s (w : Nat → Nat) (k : Nat) : cnt w (k + 1) = if w k < 1000000000 then cnt w k + 1 else cnt w k := rfl
theorem cnt_le (w : Nat → Nat) : ∀ k, cnt w k ≤ k
  | 0 => Nat.le_refl _
  | k + 1 => by
    have := cnt_le w k
    unfold cnt; split <;> omega
theorem p0_countEdges (o : ob) (w : Nat → Nat) (h4 : ∀ k, k < 676 → rL (o.2 4) k = eL (w k)) (hw : ∀ k, k < 676 → w k ≤ 1000000000) : f0_countEdges o = some (nI (cnt w 676)) := by
  obtain ⟨b, e, hb⟩ := wh_fr (st := f0_countEdges_L4 o) (fun i (b : Int32) => (b, nI i)) 676 (fun i b => b = nI (cnt w i)) (b0 := nI 0) rfl
    (fun b _ => by unfold f0_countEdges_L4; rw [if_pos (show (676 : Int32) ≤ nI 676 from nI_le (a := 676) (b := 676) (by decide) (by decide))])
    (by
      rintro i b hi rfl
      have hc := cnt_le w i
      have hv := h4 i hi
      have hl := hw i hi
      refine ⟨_, ?_, rfl⟩
      rw [cnt_s]
      unfold f0_countEdges_L4
      by_cases q : w i < 1000000000
      · rw [if_pos q]
        simp (disch := omega) only [nI_lit, nI_add, nI_mul, nI_clamp, vin_nI, nI_leI, nI_ltI, nI_eq, nI_sub, gd_t, gd_p, lt_v, if_true, if_false, if_pos, if_neg, eL_F, eL_Z, eL_leI, eL_ltI, Option.bind_some, hv]
      · rw [if_neg q]
        simp (disch := omega) only [nI_lit, nI_add, nI_mul, nI_clamp, vin_nI, nI_leI, nI_ltI, nI_eq, nI_sub, gd_t, gd_p, lt_v, if_true, if_false, if_pos, if_neg, eL_F, eL_Z, eL_leI, eL_ltI, Option.bind_some, hv])
  unfold f0_countEdges
  have e : wh (f0_countEdges_L4 o) (0, 0) = some (1, (b, nI 676)) := e
  rw [e, hb]
  rfl
theorem cd_ng {a : Nat} (h : 1000000000 ≤ a) : cd a < 0 := by rw [cd_ge h]; decide
theorem cd_nn {a : Nat} (h : a < 1000000000) : ¬ cd a < 0 := by
  rw [cd_lt h]
  exact nI_nlt (a := a) (b := 0) (by omega) (by omega)
theorem p6_edges (o : ob) (w : Nat → Nat) (h13 : ∀ k, k < 676 → o.2 13 k = cd (w k)) : f6_edges o = some (nI (cnt w 676)) := by
  obtain ⟨b, e, hb⟩ := wh_fr (st := f6_edges_L4 o) (fun i (b : Int32) => (b, nI i)) 676 (fun i b => b = nI (cnt w i)) (b0 := nI 0) rfl
    (fun b _ => by unfold f6_edges_L4; rw [if_pos (show (676 : Int32) ≤ nI 676 from nI_le (a := 676) (b := 676) (by decide) (by decide))])
    (by
      rintro i b hi rfl
      have hc := cnt_le w i
      have hv := h13 i hi
      refine ⟨_, ?_, rfl⟩
      rw [cnt_s]
      unfold f6_edges_L4
      dsimp only
      rw [if_neg (show ¬ (676 : Int32) ≤ nI i from nI_ge (a := i) (b := 676) hi (by decide)), vin_nI (by omega), gd_p hi, nI_clamp (by omega), hv]
      by_cases q : w i < 1000000000
      · rw [if_pos q, if_neg (cd_nn q)]
        simp only [Option.bind_some, lt_v, nI_1]
      · rw [if_neg q, if_pos (cd_ng (by omega))]
        simp only [Option.bind_some, lt_v, nI_1]
        rw [show nI (cnt w i) + 0 = nI (cnt w i) from nI_add _ 0])
  unfold f6_edges
  have e : wh (f6_edges_L4 o) (0, 0) = some (1, (b, nI 676)) := e
  rw [e, hb]
  rfl
def wt0 (g : nb) : Nat → Nat := (tg g (g.1 7)).2
def ndn (g : nb) : Nat := (tg g (g.1 7)).1
theorem wt0_W2 {g : nb} (h : WT g) : W2 (wt0 g) := (tg_ok h _ (Nat.le_refl _)).2.2.1
theorem wt0_NT {g : nb} (h : WT g) : NT (ndn g) (wt0 g) := (tg_ok h _ (Nat.le_refl _)).2.2.2
theorem ndn_ge {g : nb} (h : WT g) : g.1 0 + 2 ≤ ndn g := (tg_ok h _ (Nat.le_refl _)).1
theorem ndn_le {g : nb} (h : WT g) : ndn g ≤ 13 := by
  have := (tg_ok h _ (Nat.le_refl _)).2.1
  have h1 := h.2.1
  have h2 := h.2.2.1
  unfold ndn
  omega
theorem p6_begins (g : nb) (h : WT g) (o : ob) (hT : MT o g) :
    ∃ o', f6_begins o = some o' ∧ (∀ k, k ≠ 15 → k ≠ 16 → k ≠ 17 → o'.1 k = o.1 k) ∧ o'.1 15 = nI (ndn g) ∧ o'.1 16 = nI (cnt (wt0 g) 676) ∧ o'.1 17 = nI 0 ∧ (∀ k, k ≠ 13 → o'.2 k = o.2 k) ∧ ∀ k, k < 676 → o'.2 13 k = cd (wt0 g k) := by
  have h' := h
  obtain ⟨g0, g1, g2, -⟩ := h'
  obtain ⟨z, ez, z1, z2, z3⟩ := p6_far o
  have hT0 := hT.1
  obtain ⟨y, ey, y1, y2, y3⟩ := p6_any0 (g.1 0) g1 (sI z.2 15 (nI (g.1 0 + 2))) (by simp only [sI_1, sI_2, sA_1, sA_2, sR_1, sR_2, upd_at, sL_1, sL_2, rL_uL, updL_at]; rw [if_neg (by decide), z1]; exact hT0) (fun _ => 1000000000) (by simp only [sI_1, sI_2, sA_1, sA_2, sR_1, sR_2, upd_at, sL_1, sL_2, rL_uL, updL_at]; exact z3)
  obtain ⟨b, e, b1, b2, b3, b4⟩ := wh_fr (st := f6_begins_L69) (fun i (b : ob) => (nI i, b)) (g.1 7) (fun i b => (∀ k, k ≠ 15 → b.1 k = o.1 k) ∧ b.1 15 = nI (tg g i).1 ∧ (∀ k, k ≠ 13 → b.2 k = o.2 k) ∧ ∀ k, k < 676 → b.2 13 k = cd ((tg g i).2 k)) (b0 := y.2)
    ⟨fun k hk => by rw [y1]; simp only [sI_1, sI_2, sA_1, sA_2, sR_1, sR_2, upd_at, sL_1, sL_2, rL_uL, updL_at, if_neg hk, z1], by rw [y1]; simp only [sI_1, sI_2, sA_1, sA_2, sR_1, sR_2, upd_at, sL_1, sL_2, rL_uL, updL_at, if_true]; rfl, fun k hk => by rw [y2 k hk]; simp only [sI_1, sI_2, sA_1, sA_2, sR_1, sR_2, upd_at, sL_1, sL_2, rL_uL, updL_at]; exact z2 k hk, y3⟩
    (by
      rintro b ⟨b1, -, -, -⟩
      unfold f6_begins_L69
      dsimp only
      rw [b1 3 (by decide), hT.2.1, if_pos (nI_le (Nat.le_refl _) (by omega))])
    (by
      rintro i b hi ⟨b1, b2, b3, b4⟩
      obtain ⟨c, ec, c1, c2, c3, c4⟩ := p6_targetEdges g h i hi b ⟨by rw [b1 0 (by decide)]; exact hT.1, by rw [b1 3 (by decide)]; exact hT.2.1, by rw [b3 4 (by decide)]; exact hT.2.2⟩ b2 b4
      refine ⟨c, ?_, fun k hk => (c1 k hk).trans (b1 k hk), c2, fun k hk => (c3 k hk).trans (b3 k hk), c4⟩
      unfold f6_begins_L69
      dsimp only
      rw [b1 3 (by decide), hT.2.1, if_neg (nI_ge hi (by omega)), ec]
      simp only [Option.bind_some, lt_v, nI_1])
  have he := p6_edges b (wt0 g) b4
  refine ⟨sI (sI b 16 (nI (cnt (wt0 g) 676))) 17 (nI 0), ?_, fun k k1 k2 k3 => ?_, ?_, ?_, ?_, b3, b4⟩
  · unfold f6_begins
    rw [ez]
    simp only [Option.bind_some, lt_v]
    rw [z1, hT0, show nI (g.1 0) + 2 = nI (g.1 0 + 2) from nI_add _ 2, ey]
    simp only [Option.bind_some]
    have e : wh f6_begins_L69 (0, y.2) = some (1, (nI (g.1 7), b)) := e
    rw [e]
    simp only [Option.bind_some]
    rw [he]
    rfl
  · simp only [sI_1, sI_2, sA_1, sA_2, sR_1, sR_2, upd_at, sL_1, sL_2, rL_uL, updL_at, if_neg k2, if_neg k3]; exact b1 k k1
  · simp only [sI_1, sI_2, sA_1, sA_2, sR_1, sR_2, upd_at, sL_1, sL_2, rL_uL, updL_at]; rw [if_neg (by decide), if_neg (by decide)]; exact b2
  · simp only [sI_1, sI_2, sA_1, sA_2, sR_1, sR_2, upd_at, sL_1, sL_2, rL_uL, updL_at]; rw [if_neg (by decide), if_pos trivial]
  · simp only [sI_1, sI_2, sA_1, sA_2, sR_1, sR_2, upd_at, sL_1, sL_2, rL_uL, updL_at, if_true]
/-- the whole of the automaton -/
def mxO (b : Nat) : Bool := decide (b = 2)
theorem mxO_iff (b : Nat) : (mxO b = true) ↔ b = 2 := by unfold mxO; simp
def coO (g : nb) (b wo : Nat) (r : Nat) : Nat := if r = wo then 1000000000 else if b = 1 then 1 else g.2 6 r
def wk (g : nb) (b wo k : Nat) : Nat → Nat := ws (mxO b) g (coO g b wo) (wt0 g) (g.1 1) k
/-- rules well made -/
def WFr (g : nb) : Prop := WR g (g.1 0) (g.1 1) ∧ g.1 1 ≤ 10 ∧ ∀ r, r < g.1 1 → g.2 6 r ≤ 9
theorem coO_le {g : nb} (h : WFr g) (b wo r : Nat) (hr : r < g.1 1) : coO g b wo r ≤ 1000000000 := by
  unfold coO
  have := h.2.2 r hr
  split
  · exact Nat.le_refl _
  · split <;> omega
theorem p6_grows (g : nb) (h : WT g) (hr : WFr g) (b wo K : Nat) (wI : Int32) (hb : b < 2 ^ 31) (hwo : ∀ r, r < g.1 1 → (nI r = wI ↔ r = wo)) (B : Nat) (hB : ∀ k, OKB (mxO b) B (wk g b wo k)) (hK : LAST (mxO b) g (coO g b wo) (wt0 g) (g.1 1) K) (hK1 : K < 1000) (o : ob) (hT : MT o g) (h1 : o.1 1 = nI (g.1 1)) (hM : MR o g (g.1 1)) :
    ∃ o', f6_grows (nI b) wI o = some o' ∧ (∀ k, k ≠ 15 → k ≠ 16 → k ≠ 17 → o'.1 k = o.1 k) ∧ o'.1 15 = nI (ndn g) ∧ o'.1 16 = nI (cnt (wt0 g) 676) ∧ o'.1 17 = nI K ∧ (∀ k, k ≠ 13 → k ≠ 14 → k ≠ 18 → k ≠ 19 → o'.2 k = o.2 k) ∧ (∀ k, k < 676 → o'.2 13 k = cd (wk g b wo K k)) ∧ ∀ k, k < 676 → o'.2 14 k = cd (wk g b wo K k) := by
  obtain ⟨y, ey, y1, y2, y3, y4, y5, y6⟩ := p6_begins g h o hT
  obtain ⟨z, ez, z1, z2, z3, z4, z5⟩ := p6_rounds (mxO b) b hb (mxO_iff b) B (g.1 0) (g.1 1) K h.2.1 hr.2.1 g hr.1 wo wI hwo (coO g b wo) (wt0 g) hB (fun k _ => (wt0_W2 h).le k) (by
      intro r hr
      unfold coO
      exact ⟨fun e => by rw [if_pos e], fun e => by rw [if_neg e]⟩) hr.2.2 hK hK1 y (by rw [y1 1 (by decide) (by decide) (by decide)]; exact h1) y4 (by
      intro r hr
      rw [y5 2 (by decide)]
      exact hM r hr) y6
  refine ⟨z.2, ?_, fun k k1 k2 k3 => (z1 k k3).trans (y1 k k1 k2 k3), (z1 15 (by decide)).trans y2, (z1 16 (by decide)).trans y3, z2, fun k k1 k2 k3 k4 => (z3 k k1 k2 k3 k4).trans (y5 k k1), z4, z5⟩
  unfold f6_grows
  rw [ey]
  simp only [Option.bind_some]
  rw [ez]
  rfl
