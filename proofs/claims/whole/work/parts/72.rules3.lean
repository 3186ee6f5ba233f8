section RULES3
variable {ROK : ob → nb → Prop} {x sc now draft net paces route m : ob} {past saved : Nat → ob} {g : nb}
def drf (g : nb) (r k i : Nat) : Nat := if i < r then g.2 k i else g.2 k (i + 1)
theorem dr_WF {g : nb} (hW : WF g) {r : Nat} (hr : r < g.1 1) : WF (ru g (g.1 1 - 1) (drf g r)) := by
  obtain ⟨w1, ⟨w2, w3, w4⟩, w5, w6⟩ := hW
  refine ⟨w1, ⟨fun i hi => ?_, by show g.1 1 - 1 ≤ 10; omega, fun i hi => ?_⟩, w5, w6⟩
  · have hi : i < g.1 1 - 1 := hi
    show drf g r 2 i < g.1 0 ∧ drf g r 3 i < 4 ∧ drf g r 4 i < g.1 0 ∧ drf g r 5 i < 21
    unfold drf
    by_cases q : i < r
    · simp only [if_pos q]
      exact w2 i (by omega)
    · simp only [if_neg q]
      exact w2 (i + 1) (by omega)
  · have hi : i < g.1 1 - 1 := hi
    show drf g r 6 i ≤ 9
    unfold drf
    by_cases q : i < r
    · simp only [if_pos q]
      exact w4 i (by omega)
    · simp only [if_neg q]
      exact w4 (i + 1) (by omega)
theorem p4_removeRule {now : ob} (ht : TW now g) (h10 : g.1 1 ≤ 10) {r : Nat} (hr : r < g.1 1) : ∃ now', f4_removeRule (nI r) now = some now' ∧ TW now' (ru g (g.1 1 - 1) (drf g r)) := by
  have t1 := ht.2.1
  have t8 := ht.2.2.2.2.2.1
  obtain ⟨z, ez, z1, z2, z3⟩ := wh_fr (st := f4_removeRule_L2) (fun i (b : ob) => (nI (r + i), b)) (g.1 1 - 1 - r) (fun i z => z.1 = now.1 ∧ (∀ k, 7 ≤ k → z.2 k = now.2 k) ∧ ∀ k, 2 ≤ k → k ≤ 6 → ∀ j, z.2 k j = if r ≤ j ∧ j < r + i then now.2 k (j + 1) else now.2 k j) (b0 := now) ⟨rfl, fun _ _ => rfl, fun _ _ _ j => by rw [if_neg (by omega)]⟩
    (by
      rintro z ⟨z1, -⟩
      unfold f4_removeRule_L2
      dsimp only
      rw [z1, t1, nI_1, if_pos (nI_le (by omega) (by omega))])
    (by
      rintro i z hi ⟨z1, z2, z3⟩
      have nx : ∀ k, 2 ≤ k → k ≤ 6 → z.2 k (r + i + 1) = now.2 k (r + i + 1) := fun k k2 k6 => by rw [z3 k k2 k6, if_neg (by omega)]
      refine ⟨sA (sA (sA (sA (sA z 2 (r + i) (now.2 2 (r + i + 1))) 3 (r + i) (now.2 3 (r + i + 1))) 4 (r + i) (now.2 4 (r + i + 1))) 5 (r + i) (now.2 5 (r + i + 1))) 6 (r + i) (now.2 6 (r + i + 1)), ?_, z1, fun k hk => ?_, fun k k2 k6 j => ?_⟩
      · unfold f4_removeRule_L2
        dsimp only
        have e1 : ¬ nI (g.1 1) ≤ nI (r + i) + 1 := by rw [nI_1]; exact nI_ge (by omega) (by omega)
        have hv : vin (nI (r + i)) 10 = true := by rw [vin_nI (by omega)]; exact decide_eq_true (by omega)
        have hv2 : vin (nI (r + i) + 1) 10 = true := by rw [nI_1, vin_nI (by omega)]; exact decide_eq_true (by omega)
        have hcl : (nI (r + i)).toNatClampNeg = r + i := nI_clamp (by omega)
        have hcl2 : (nI (r + i) + 1).toNatClampNeg = r + i + 1 := by rw [nI_1]; exact nI_clamp (by omega)
        rw [z1, t1, if_neg e1]
        simp only [hv, hv2, hcl, hcl2, gd_t, lt_v]
        have g3 : (sA z 2 (r + i) (z.2 2 (r + i + 1))).2 3 (r + i + 1) = now.2 3 (r + i + 1) := nx 3 (by omega) (by omega)
        rw [g3]
        have g4 : (sA (sA z 2 (r + i) (z.2 2 (r + i + 1))) 3 (r + i) (now.2 3 (r + i + 1))).2 4 (r + i + 1) = now.2 4 (r + i + 1) := nx 4 (by omega) (by omega)
        rw [g4]
        have g5 : (sA (sA (sA z 2 (r + i) (z.2 2 (r + i + 1))) 3 (r + i) (now.2 3 (r + i + 1))) 4 (r + i) (now.2 4 (r + i + 1))).2 5 (r + i + 1) = now.2 5 (r + i + 1) := nx 5 (by omega) (by omega)
        rw [g5]
        have g6 : (sA (sA (sA (sA z 2 (r + i) (z.2 2 (r + i + 1))) 3 (r + i) (now.2 3 (r + i + 1))) 4 (r + i) (now.2 4 (r + i + 1))) 5 (r + i) (now.2 5 (r + i + 1))).2 6 (r + i + 1) = now.2 6 (r + i + 1) := nx 6 (by omega) (by omega)
        rw [g6, nx 2 (by omega) (by omega), nI_1]
        rfl
      · simp only [sI_1, sI_2, sA_1, sA_2, sR_1, sR_2, upd_at, sL_1, sL_2, rL_uL, updL_at]
        rw [if_neg (by omega), if_neg (by omega), if_neg (by omega), if_neg (by omega), if_neg (by omega)]
        exact z2 k hk
      · have key : (sA (sA (sA (sA (sA z 2 (r + i) (now.2 2 (r + i + 1))) 3 (r + i) (now.2 3 (r + i + 1))) 4 (r + i) (now.2 4 (r + i + 1))) 5 (r + i) (now.2 5 (r + i + 1))) 6 (r + i) (now.2 6 (r + i + 1))).2 k j = if j = r + i then now.2 k (r + i + 1) else z.2 k j := by
          rcases (show k = 2 ∨ k = 3 ∨ k = 4 ∨ k = 5 ∨ k = 6 by omega) with e | e | e | e | e <;> subst e <;> rfl
        rw [key]
        by_cases q : j = r + i
        · rw [if_pos q, if_pos (by omega), q]
        · rw [if_neg q, z3 k k2 k6]
          by_cases q2 : r ≤ j ∧ j < r + i
          · rw [if_pos q2, if_pos (by omega)]
          · rw [if_neg q2, if_neg (by omega)])
  refine ⟨sI z 1 (nI (g.1 1 - 1)), ?_, ht.ru (fun k k1 => by simp only [sI_1, sI_2, sA_1, sA_2, sR_1, sR_2, upd_at, sL_1, sL_2, rL_uL, updL_at, if_neg k1, z1]) (fun k hk => z2 k hk) rfl (fun k j hj k2 k6 => ?_)⟩
  · unfold f4_removeRule
    have ez : wh f4_removeRule_L2 (nI r, now) = some (1, (nI (r + (g.1 1 - 1 - r)), z)) := ez
    rw [ez]
    simp only [Option.bind_some, lt_v]
    rw [z1, t1, show nI (g.1 1) - 1 = nI (g.1 1 - 1) from nI_sub (b := 1) (by omega)]
  · show z.2 k j = nI (drf g r k j)
    rw [z3 k k2 k6]
    unfold drf
    by_cases q : j < r
    · rw [if_neg (by omega), if_pos q]; exact t8 k j (by omega) k2 k6
    · rw [if_pos (by omega), if_neg q]; exact t8 k (j + 1) (by omega) k2 k6
theorem p6_dropL (hm : MW m g) (h10 : g.1 1 ≤ 10) {r : Nat} (hr : r < g.1 1) : ∃ m', wh f6_drop_L40 (7 * nI r, sI m 1 (nI (g.1 1 - 1))) = some (1, (nI (7 * (g.1 1 - 1)), m')) ∧ MW m' (ru g (g.1 1 - 1) (drf g r)) ∧ (∀ k, k ≠ 1 → m'.1 k = m.1 k) ∧ (∀ k, k ≠ 2 → m'.2 k = m.2 k) ∧ m'.1 1 = nI (g.1 1 - 1) := by
  have e7 : (7 : Int32) * nI r = nI (7 * r) := by rw [show (7 : Int32) = nI 7 from rfl, nI_mul]
  obtain ⟨z, ez, z1, z2, z3⟩ := wh_fr (st := f6_drop_L40) (fun i (b : ob) => (nI (7 * r + i), b)) (7 * (g.1 1 - 1) - 7 * r) (fun i z => z.1 = (sI m 1 (nI (g.1 1 - 1))).1 ∧ (∀ k, k ≠ 2 → z.2 k = m.2 k) ∧ ∀ j, z.2 2 j = if 7 * r ≤ j ∧ j < 7 * r + i then m.2 2 (j + 7) else m.2 2 j) (b0 := sI m 1 (nI (g.1 1 - 1))) ⟨rfl, fun _ _ => rfl, fun j => by rw [if_neg (by omega)]; rfl⟩
    (by
      rintro z ⟨z1, -⟩
      unfold f6_drop_L40
      dsimp only
      have e1 : z.1 1 = nI (g.1 1 - 1) := by rw [z1]; rfl
      rw [e1, show (7 : Int32) * nI (g.1 1 - 1) = nI (7 * (g.1 1 - 1)) by rw [show (7 : Int32) = nI 7 from rfl, nI_mul], if_pos (nI_le (by omega) (by omega))])
    (by
      rintro i z hi ⟨z1, z2, z3⟩
      refine ⟨sA z 2 (7 * r + i) (m.2 2 (7 * r + i + 7)), ?_, z1, fun k hk => by simp only [sI_1, sI_2, sA_1, sA_2, sR_1, sR_2, upd_at, sL_1, sL_2, rL_uL, updL_at, if_neg hk]; exact z2 k hk, fun j => ?_⟩
      · unfold f6_drop_L40
        dsimp only
        have e1 : z.1 1 = nI (g.1 1 - 1) := by rw [z1]; rfl
        rw [e1, show (7 : Int32) * nI (g.1 1 - 1) = nI (7 * (g.1 1 - 1)) by rw [show (7 : Int32) = nI 7 from rfl, nI_mul], if_neg (nI_ge (by omega) (by omega)), show nI (7 * r + i) + 7 = nI (7 * r + i + 7) from nI_add _ 7, vin_nI (by omega), gd_p (show 7 * r + i + 7 < 70 by omega), vin_nI (by omega), gd_p (show 7 * r + i < 70 by omega), nI_clamp (by omega), nI_clamp (by omega), z3, if_neg (by omega)]
        simp only [lt_v, nI_1]
        rfl
      · simp only [sI_1, sI_2, sA_1, sA_2, sR_1, sR_2, upd_at, sL_1, sL_2, rL_uL, updL_at, if_true]
        by_cases q : j = 7 * r + i
        · rw [if_pos q, if_pos (by omega), q]
        · rw [if_neg q, z3]
          by_cases q2 : 7 * r ≤ j ∧ j < 7 * r + i
          · rw [if_pos q2, if_pos (by omega)]
          · rw [if_neg q2, if_neg (by omega)])
  have ends : 7 * r + (7 * (g.1 1 - 1) - 7 * r) = 7 * (g.1 1 - 1) := by omega
  rw [ends] at ez z3
  have e1 : z.1 1 = nI (g.1 1 - 1) := by rw [z1]; rfl
  have at' : ∀ i, i < g.1 1 - 1 → ∀ j, j < 7 → z.2 2 (7 * i + j) = m.2 2 (7 * (if i < r then i else i + 1) + j) := by
    intro i hi j hj
    rw [z3]
    by_cases q : i < r
    · rw [if_neg (by omega), if_pos q]
    · rw [if_pos (by omega), if_neg q]
      exact congrArg (m.2 2) (by omega)
  have dk : ∀ k i, drf g r k i = g.2 k (if i < r then i else i + 1) := by
    intro k i
    unfold drf
    split <;> rfl
  refine ⟨z, by rw [e7]; exact ez, hm.ru (fun k _ k1 => by rw [z1]; simp only [sI_1, sI_2, sA_1, sA_2, sR_1, sR_2, upd_at, sL_1, sL_2, rL_uL, updL_at, if_neg k1]) (fun k _ k1 => z2 k k1) e1 (fun i hi => ?_) (fun i hi j hj hl => ?_), fun k k1 => by rw [z1]; simp only [sI_1, sI_2, sA_1, sA_2, sR_1, sR_2, upd_at, sL_1, sL_2, rL_uL, updL_at, if_neg k1], z2, e1⟩
  · obtain ⟨a1, a2, a3, a4, a5, a6⟩ := hm.2.1 (if i < r then i else i + 1) (by split <;> omega)
    have l2 := lw_len (w := g.2 5 (if i < r then i else i + 1))
    rw [dk, dk, dk, dk, dk]
    refine ⟨(at' i hi 0 (by omega)).trans a1, (at' i hi 1 (by omega)).trans a2, (at' i hi 2 (by omega)).trans a3, (at' i hi 3 (by omega)).trans a4, fun j y hj => ?_, (at' i hi 6 (by omega)).trans a6⟩
    have hl := (List.getElem?_eq_some_iff.mp hj).1
    have := a5 j y hj
    rw [Nat.add_assoc, at' i hi (4 + j) (by omega), ← Nat.add_assoc]
    exact this
  · rw [dk] at hl
    have := hm.2.2.2.2.2.2.2.1 (if i < r then i else i + 1) (by split <;> omega) j hj hl
    rw [Nat.add_assoc, at' i hi (4 + j) (by omega), ← Nat.add_assoc]
    exact this
theorem eq_drop (H : RG ROK x sc now draft past saved net paces route m g) (x0 : Int32) : CHG ROK sc draft saved net paces route (f5_drop x0 x now past) (f6_drop x0 m) := by
  have H2 := H
  obtain ⟨hW, ht, hm, -, hP, -⟩ := H2
  have h10 := hW.2.1.2.1
  have t1 := ht.2.1
  have m1 := hm.2.2.1
  by_cases i0 : IN x0 (g.1 1)
  · obtain ⟨r, hr, rfl⟩ := i0
    by_cases q : g.1 1 = 1
    · refine CHG.no H (v := -2) ?_ ?_
      · unfold f5_drop
        rw [c5R_y ht hr h10]
        simp only [Option.bind_some]
        rw [if_neg z1, t1, if_pos (by rw [q]; rfl)]
      · unfold f6_drop
        rw [c6R_y hm hr h10]
        simp only [Option.bind_some]
        rw [if_neg z1, m1, if_pos (by rw [q]; rfl)]
    · obtain ⟨x', past', m1', ex, em, n1, n2, n3, n4, n5, n6⟩ := note hW ht hm hP
      have h1m : MW m1' g := hm.cg (fun k hk => n5 k (by omega)) (fun k hk => n6 k (by omega))
      obtain ⟨x2, e2, c9, c11, c14, cx, -⟩ := c_noteNew x'
      obtain ⟨now', en, tn⟩ := p4_removeRule ht h10 hr
      obtain ⟨m', e6, tm, mi, mr, mm⟩ := p6_dropL h1m h10 hr
      have nq : ¬ nI (g.1 1) = 1 := fun h => q ((nI_eq (b := 1) (by omega) (by decide)).mp h)
      refine ⟨nI (g.1 1 - 1), x2, now', past', m', _, ?_, ?_, H.rul n1 n3 n5 n6 c9 c11 c14 cx (ru_ST g _ _) (dr_WF hW hr) tn tm (fun k k1 _ => mi k k1) mr⟩
      · unfold f5_drop
        rw [c5R_y ht hr h10]
        simp only [Option.bind_some]
        rw [if_neg z1, t1, if_neg nq, ex]
        simp only [Option.bind_some]
        rw [en]
        simp only [Option.bind_some]
        rw [e2]
        simp only [Option.bind_some]
        have k1 : now'.1 1 = nI (g.1 1 - 1) := tn.2.1
        rw [k1]
      · unfold f6_drop
        rw [c6R_y hm hr h10]
        simp only [Option.bind_some]
        rw [if_neg z1, m1, if_neg nq, em]
        simp only [Option.bind_some, lt_v]
        rw [h1m.2.2.1, show nI (g.1 1) - 1 = nI (g.1 1 - 1) from nI_sub (b := 1) (by omega), e6]
        simp only [Option.bind_some]
        rw [mm]
  · refine CHG.no H (v := -1) ?_ ?_
    · unfold f5_drop
      rw [c5R_n ht i0 h10]
      simp only [Option.bind_some]
      rw [if_pos z0]
    · unfold f6_drop
      rw [c6R_n hm i0 h10]
      simp only [Option.bind_some]
      rw [if_pos z0]
theorem eq_undo (H : RG ROK x sc now draft past saved net paces route m g) : ∃ ans x' now' m' g', f5_undo x now past = some (ans, x', now') ∧ f6_undo m = some (ans, m') ∧ RG ROK x' sc now' draft past saved net paces route m' g' := by
  have H2 := H
  obtain ⟨hW, ht, hm, hX, ⟨pc, pn, P, p1, p2, p3, p4, p5, p6⟩, hK, hF, hN, hV, hR⟩ := H2
  by_cases q : pc = 0
  · refine ⟨-2, x, now, m, g, ?_, ?_, H⟩
    · unfold f5_undo
      rw [p1, if_pos (by rw [q]; rfl)]
    · unfold f6_undo
      rw [p2, if_pos (by rw [q]; rfl)]
  · obtain ⟨b1, b2, b3, b4⟩ := p6 (pc - 1) (by omega)
    have n0 : ¬ nI pc = 0 := fun h => q ((nI_eq (b := 0) (by omega) (by decide)).mp h)
    have es : nI pc - 1 = nI (pc - 1) := nI_sub (b := 1) (by omega)
    have er : ((nI pn + 8) - 1) - ((nI pn + 8) - 1) / 8 * 8 = nI ((pn + 7) % 8) := by
      rw [show nI pn + 8 = nI (pn + 8) from nI_add _ 8, show nI (pn + 8) - 1 = nI (pn + 8 - 1) from nI_sub (b := 1) (by omega), show (8 : Int32) = nI 8 from rfl, irem_nI (by omega) (by omega)]
      rfl
    have ei : (pn + 8 - pc + (pc - 1)) % 8 = (pn + 7) % 8 := by omega
    rw [ei] at b1
    obtain ⟨now', en, tn⟩ := copyTW now (past ((pn + 7) % 8)) b1 b3
    obtain ⟨x2, e2, c9, c11, c14, cx, -⟩ := c_noteNew (sI (sI x 4 (nI ((pn + 7) % 8))) 5 (nI (pc - 1)))
    have hm9 : MW (sI m 9 (nI (pc - 1))) g := hm.cg (fun k hk => by simp only [sI_1, sI_2, sA_1, sA_2, sR_1, sR_2, upd_at, sL_1, sL_2, rL_uL, updL_at]; rw [if_neg (by omega)]) (fun k _ => rfl)
    obtain ⟨m', em, tm, mi, mr⟩ := reads_undone (90 * (pc - 1)) (by omega) (sI m 9 (nI (pc - 1))) hm9 b3 b4 b2
    refine ⟨nI (pc - 1), x2, now', m', P (pc - 1), ?_, ?_, b3, tn, tm, ?_, ⟨pc - 1, (pn + 7) % 8, P, ?_, ?_, by omega, ?_, by omega, fun j hj => ?_⟩, ?_, hF, Or.inl c9, Or.inl c11, Or.inl c14⟩
    · unfold f5_undo
      rw [p1, if_neg n0, p4, er]
      simp only [lt_v]
      have k5 : (sI x 4 (nI ((pn + 7) % 8))).1 5 = nI pc := p1
      rw [k5, es]
      have k4 : (sI (sI x 4 (nI ((pn + 7) % 8))) 5 (nI (pc - 1))).1 4 = nI ((pn + 7) % 8) := rfl
      rw [k4, vin_nI (by omega), gd_p (show (pn + 7) % 8 < 8 by omega), nI_clamp (by omega), en]
      simp only [Option.bind_some]
      rw [e2]
      simp only [Option.bind_some]
      rw [cx 5 (by decide) (by decide) (by decide)]
      rfl
    · unfold f6_undo
      rw [p2, if_neg n0, es]
      simp only [lt_v]
      have k9 : (sI m 9 (nI (pc - 1))).1 9 = nI (pc - 1) := rfl
      rw [k9, show (90 : Int32) = nI 90 from rfl, nI_mul, em]
      simp only [Option.bind_some]
      rw [mi 9 (by decide) (by decide) (by decide) (by decide)]
      rfl
    · obtain ⟨L, T, a1, a2, a3, a4⟩ := hX
      refine ⟨L, T, a1, ?_, a3, ?_⟩
      · rw [mi 30 (by decide) (by decide) (by decide) (by decide)]; exact a2
      · rw [mr 29 (by decide) (by decide)]; exact a4
    · rw [cx 5 (by decide) (by decide) (by decide)]; rfl
    · rw [mi 9 (by decide) (by decide) (by decide) (by decide)]; rfl
    · rw [cx 4 (by decide) (by decide) (by decide)]; rfl
    · obtain ⟨d1, d2, d3, d4⟩ := p6 j (by omega)
      refine ⟨?_, ?_, d3, b4.tr d4⟩
      · have e : ((pn + 7) % 8 + 8 - (pc - 1) + j) % 8 = (pn + 8 - pc + j) % 8 := by omega
        rw [e]; exact d1
      · rw [mr 10 (by decide) (by decide)]; exact d2
    · obtain ⟨kc, K, a1, a2, a3, a4⟩ := hK
      refine ⟨kc, K, ?_, ?_, a3, fun j hj => ?_⟩
      · rw [cx 7 (by decide) (by decide) (by decide)]; exact a1
      · rw [mi 11 (by decide) (by decide) (by decide) (by decide)]; exact a2
      · obtain ⟨d1, d2, d3, d4⟩ := a4 j hj
        exact ⟨d1, by rw [mr 12 (by decide) (by decide)]; exact d2, d3, b4.tr d4⟩
theorem eq_keep (H : RG ROK x sc now draft past saved net paces route m g) : ∃ ans x' saved' m', f5_keep x now saved = some (ans, x', saved') ∧ f6_keep m = some (ans, m') ∧ RG ROK x' sc now draft past saved' net paces route m' g := by
  have H2 := H
  obtain ⟨hW, ht, hm, hX, hP, ⟨kc, P, p1, p2, p3, p4⟩, hF, hN, hV, hR⟩ := H2
  by_cases q : kc = 2
  · refine ⟨-3, x, saved, m, ?_, ?_, H⟩
    · unfold f5_keep
      rw [p1, if_neg (by rw [q]; decide)]
    · unfold f6_keep
      rw [p2, if_pos (by rw [q]; rfl)]
  · have h2 : kc < 2 := by omega
    obtain ⟨d, ed, td⟩ := copyTW (saved kc) now ht hW
    obtain ⟨m1, em, m1i, m1r, m1o, m1s⟩ := writes_kept (90 * kc) (by omega) m hm
    refine ⟨nI (kc + 1), sI x 7 (nI (kc + 1)), va_up saved kc d, sI m1 11 (nI (kc + 1)), ?_, ?_, hW, ht, ?_, ?_, ?_, ⟨kc + 1, fun j => if j = kc then g else P j, rfl, rfl, by omega, fun j hj => ?_⟩, hF, hN, hV, hR⟩
    · unfold f5_keep
      rw [p1, if_pos (show nI kc < 2 from nI_lt (b := 2) h2 (by decide)), vin_nI (by omega), gd_p h2, nI_clamp (by omega), ed]
      simp only [Option.bind_some, lt_v, nI_1]
      rfl
    · unfold f6_keep
      rw [p2, if_neg (show ¬ nI kc = (2 : Int32) from fun h => q ((nI_eq (b := 2) (by omega) (by decide)).mp h)), show (90 : Int32) = nI 90 from rfl, nI_mul, em]
      simp only [Option.bind_some, lt_v]
      rw [m1i, p2, nI_1]
      rfl
    · exact hm.cg (fun k hk => by simp only [sI_1, sI_2, sA_1, sA_2, sR_1, sR_2, upd_at, sL_1, sL_2, rL_uL, updL_at]; rw [if_neg (by omega), m1i]) (fun k hk => m1r k (by omega))
    · obtain ⟨L, T, a1, a2, a3, a4⟩ := hX
      refine ⟨L, T, a1, ?_, a3, ?_⟩
      · show m1.1 30 = _
        rw [m1i]; exact a2
      · show ∀ i, i < L → sc.2 0 i = nI (T i) ∧ m1.2 29 i = nI (T i) ∧ _
        rw [m1r 29 (by decide)]; exact a4
    · obtain ⟨pc, pn, P', a1, a2, a3, a4, a5, a6⟩ := hP
      refine ⟨pc, pn, P', a1, ?_, a3, a4, a5, ?_⟩
      · show m1.1 9 = _
        rw [m1i]; exact a2
      · show ∀ j, j < pc → TW _ _ ∧ SNP (m1.2 10) _ _ ∧ _
        rw [m1r 10 (by decide)]; exact a6
    · show TW (va_up saved kc d j) (if j = kc then g else P j) ∧ SNP (m1.2 12) (90 * j) (if j = kc then g else P j) ∧ WF (if j = kc then g else P j) ∧ ST g (if j = kc then g else P j)
      by_cases qj : j = kc
      · subst qj
        rw [if_pos rfl, va_up_self]
        exact ⟨td, m1s, hW, ST.rf g⟩
      · obtain ⟨b1, b2, b3, b4⟩ := p4 j (by omega)
        rw [if_neg qj, va_up_ne _ _ qj]
        exact ⟨b1, b2.cg (fun i hi => m1o _ (by omega)), b3, b4⟩
theorem eq_back (H : RG ROK x sc now draft past saved net paces route m g) : ∃ ans x' now' m' g', f5_back x now saved = some (ans, x', now') ∧ f6_back m = some (ans, m') ∧ RG ROK x' sc now' draft past saved net paces route m' g' := by
  have H2 := H
  obtain ⟨hW, ht, hm, hX, hP, ⟨kc, P, p1, p2, p3, p4⟩, hF, hN, hV, hR⟩ := H2
  by_cases q : kc = 0
  · refine ⟨-2, x, now, m, g, ?_, ?_, H⟩
    · unfold f5_back
      rw [p1, if_pos (by rw [q]; rfl)]
    · unfold f6_back
      rw [p2, if_pos (by rw [q]; rfl)]
  · obtain ⟨b1, b2, b3, b4⟩ := p4 (kc - 1) (by omega)
    have n0 : ¬ nI kc = 0 := fun h => q ((nI_eq (b := 0) (by omega) (by decide)).mp h)
    have es : nI kc - 1 = nI (kc - 1) := nI_sub (b := 1) (by omega)
    obtain ⟨now', en, tn⟩ := copyTW now (saved (kc - 1)) b1 b3
    obtain ⟨x2, e2, c9, c11, c14, cx, -⟩ := c_noteNew (sI (sI x 7 (nI (kc - 1))) 5 0)
    have hm9 : MW (sI m 11 (nI (kc - 1))) g := hm.cg (fun k hk => by simp only [sI_1, sI_2, sA_1, sA_2, sR_1, sR_2, upd_at, sL_1, sL_2, rL_uL, updL_at]; rw [if_neg (by omega)]) (fun k _ => rfl)
    obtain ⟨m', em, tm, mi, mr⟩ := reads_kept (90 * (kc - 1)) (by omega) (sI m 11 (nI (kc - 1))) hm9 b3 b4 b2
    obtain ⟨pc, pn, P', a1, a2, a3, a4, a5, a6⟩ := hP
    refine ⟨nI (kc - 1), x2, now', sI m' 9 0, P (kc - 1), ?_, ?_, b3, tn, tm.cg (fun k hk => by simp only [sI_1, sI_2, sA_1, sA_2, sR_1, sR_2, upd_at, sL_1, sL_2, rL_uL, updL_at]; rw [if_neg (by omega)]) (fun k _ => rfl), ?_, ⟨0, pn, P', ?_, rfl, by omega, ?_, a5, fun j hj => absurd hj (by omega)⟩, ⟨kc - 1, P, ?_, ?_, by omega, fun j hj => ?_⟩, hF, Or.inl c9, Or.inl c11, Or.inl c14⟩
    · unfold f5_back
      rw [p1, if_neg n0, es]
      simp only [lt_v]
      have k7 : (sI x 7 (nI (kc - 1))).1 7 = nI (kc - 1) := rfl
      rw [k7, vin_nI (by omega), gd_p (show kc - 1 < 2 by omega), nI_clamp (by omega), en]
      simp only [Option.bind_some]
      rw [e2]
      simp only [Option.bind_some]
      rw [cx 7 (by decide) (by decide) (by decide)]
      rfl
    · unfold f6_back
      rw [p2, if_neg n0, es]
      simp only [lt_v]
      have k9 : (sI m 11 (nI (kc - 1))).1 11 = nI (kc - 1) := rfl
      rw [k9, show (90 : Int32) = nI 90 from rfl, nI_mul, em]
      simp only [Option.bind_some]
      have k11 : (sI m' 9 0).1 11 = nI (kc - 1) := by
        show m'.1 11 = _
        rw [mi 11 (by decide) (by decide) (by decide) (by decide)]; rfl
      rw [k11]
    · obtain ⟨L, T, a1, a2, a3, a4⟩ := hX
      refine ⟨L, T, a1, ?_, a3, ?_⟩
      · show m'.1 30 = _
        rw [mi 30 (by decide) (by decide) (by decide) (by decide)]; exact a2
      · show ∀ i, i < L → sc.2 0 i = nI (T i) ∧ m'.2 29 i = nI (T i) ∧ _
        rw [mr 29 (by decide) (by decide)]; exact a4
    · rw [cx 5 (by decide) (by decide) (by decide)]; rfl
    · rw [cx 4 (by decide) (by decide) (by decide)]; exact a4
    · rw [cx 7 (by decide) (by decide) (by decide)]; rfl
    · show m'.1 11 = _
      rw [mi 11 (by decide) (by decide) (by decide) (by decide)]; rfl
    · obtain ⟨d1, d2, d3, d4⟩ := p4 j (by omega)
      refine ⟨d1, ?_, d3, b4.tr d4⟩
      show SNP (m'.2 12) _ _
      rw [mr 12 (by decide) (by decide)]; exact d2
end RULES3
