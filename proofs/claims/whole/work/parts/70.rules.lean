/-! calls that change the rules or the mode -/
def ru (g : nb) (R : Nat) (f : Nat → Nat → Nat) : nb := (fun k => if k = 1 then R else g.1 k, fun k => if k = 2 then f 2 else if k = 3 then f 3 else if k = 4 then f 4 else if k = 5 then f 5 else if k = 6 then f 6 else g.2 k)
theorem ru_ST (g : nb) (R : Nat) (f : Nat → Nat → Nat) : ST g (ru g R f) := ⟨rfl, rfl, rfl, rfl, rfl, rfl⟩
theorem ru_hi (g : nb) (R : Nat) (f : Nat → Nat → Nat) {k : Nat} (hk : 7 ≤ k) : (ru g R f).2 k = g.2 k := by
  show (if k = 2 then f 2 else if k = 3 then f 3 else if k = 4 then f 4 else if k = 5 then f 5 else if k = 6 then f 6 else g.2 k) = _
  rw [if_neg (by omega), if_neg (by omega), if_neg (by omega), if_neg (by omega), if_neg (by omega)]
theorem ru_lo (g : nb) (R : Nat) (f : Nat → Nat → Nat) {k : Nat} (h2 : 2 ≤ k) (h6 : k ≤ 6) : (ru g R f).2 k = f k := by
  rcases (show k = 2 ∨ k = 3 ∨ k = 4 ∨ k = 5 ∨ k = 6 by omega) with e | e | e | e | e <;> subst e <;> rfl
theorem TW.ru {now now' : ob} {g : nb} (h : TW now g) {R : Nat} {f : Nat → Nat → Nat} (h1 : ∀ k, k ≠ 1 → now'.1 k = now.1 k) (h2 : ∀ k, 7 ≤ k → now'.2 k = now.2 k) (e1 : now'.1 1 = nI R) (e2 : ∀ k r, r < R → 2 ≤ k → k ≤ 6 → now'.2 k r = nI (f k r)) : TW now' (ru g R f) := by
  obtain ⟨⟨t1, t2, t3⟩, t4, t5, t6, t7, t8, t9, t10⟩ := h
  refine ⟨⟨?_, ?_, ?_⟩, e1, ?_, ?_, ?_, ?_, ?_, ?_⟩
  · rw [h1 0 (by decide)]; exact t1
  · rw [h1 7 (by decide)]; exact t2
  · rw [h2 8 (by decide), h2 9 (by decide), h2 10 (by decide), h2 11 (by decide)]; exact t3
  · rw [h1 12 (by decide)]; exact t5
  · rw [h1 13 (by decide)]; exact t6
  · rw [h1 14 (by decide)]; exact t7
  · intro k r hr q1 q2
    rw [ru_lo g R f q1 q2]
    exact e2 k r hr q1 q2
  · rw [h2 15 (by decide)]; exact t9
  · rw [h2 10 (by decide)]; exact t10
theorem MW.ru {m m' : ob} {g : nb} (h : MW m g) {R : Nat} {f : Nat → Nat → Nat} (h1 : ∀ k, k < 9 → k ≠ 1 → m'.1 k = m.1 k) (h2 : ∀ k, k < 8 → k ≠ 2 → m'.2 k = m.2 k) (e1 : m'.1 1 = nI R)
    (e2 : ∀ r, r < R → m'.2 2 (7 * r) = nI (f 2 r) ∧ m'.2 2 (7 * r + 1) = nI (f 3 r) ∧ m'.2 2 (7 * r + 2) = nI (f 4 r) ∧ m'.2 2 (7 * r + 3) = nI (lw (f 5 r)).length ∧ (∀ j x, (lw (f 5 r))[j]? = some x → m'.2 2 (7 * r + 4 + j) = nI x) ∧ m'.2 2 (7 * r + 6) = nI (f 6 r))
    (e3 : ∀ r, r < R → ∀ j, j < 2 → (lw (f 5 r)).length ≤ j → m'.2 2 (7 * r + 4 + j) = -(nI 4)) : MW m' (ru g R f) := by
  obtain ⟨⟨t1, t2, t3⟩, t4, t5, t6, t7, t8, t9, t10, t11⟩ := h
  refine ⟨⟨?_, ?_, ?_⟩, e2, e1, ?_, ?_, ?_, ?_, e3, ?_⟩
  · rw [h1 0 (by omega) (by decide)]; exact t1
  · rw [h1 3 (by omega) (by decide)]; exact t2
  · rw [h2 4 (by omega) (by decide)]; exact t3
  · rw [h1 5 (by omega) (by decide)]; exact t6
  · rw [h1 6 (by omega) (by decide)]; exact t7
  · rw [h1 8 (by omega) (by decide)]; exact t8
  · rw [h2 7 (by omega) (by decide)]; exact t9
  · rw [h2 4 (by omega) (by decide)]; exact t11
theorem c_noteNew (x : ob) : ∃ x', f5_noteNewRules x = some x' ∧ x'.1 9 = 0 ∧ x'.1 11 = 0 ∧ x'.1 14 = 0 ∧ (∀ k, k ≠ 9 → k ≠ 11 → k ≠ 14 → x'.1 k = x.1 k) ∧ x'.2 = x.2 :=
  ⟨sI (sI (sI x 9 0) 11 0) 14 0, rfl, rfl, rfl, rfl, fun k k1 k2 k3 => by simp only [sI_1, sI_2, sA_1, sA_2, sR_1, sR_2, upd_at, sL_1, sL_2, rL_uL, updL_at, if_neg k1, if_neg k2, if_neg k3], rfl⟩
theorem RG.rul {ROK : ob → nb → Prop} {x sc now draft net paces route m x1 x' now' m1 m' : ob} {past saved past' : Nat → ob} {g g' : nb} (H : RG ROK x sc now draft past saved net paces route m g) (n1 : RP x1 m1 past' g) (n3 : ∀ k, k ≠ 4 → k ≠ 5 → k ≠ 14 → x1.1 k = x.1 k) (n5 : ∀ k, k ≠ 9 → m1.1 k = m.1 k) (n6 : ∀ k, k ≠ 10 → m1.2 k = m.2 k)
    (c9 : x'.1 9 = 0) (c11 : x'.1 11 = 0) (c14 : x'.1 14 = 0) (cx : ∀ k, k ≠ 9 → k ≠ 11 → k ≠ 14 → x'.1 k = x1.1 k) (hS : ST g g') (hW' : WF g') (ht' : TW now' g') (hm' : MW m' g') (hmi : ∀ k, k ≠ 1 → k ≠ 8 → m'.1 k = m1.1 k) (hmr : ∀ k, k ≠ 2 → m'.2 k = m1.2 k) : RG ROK x' sc now' draft past' saved net paces route m' g' := by
  obtain ⟨hW, ht, hm, hX, hP, hK, hF, hN, hV, hR⟩ := H
  refine ⟨hW', ht', hm', ?_, ?_, ?_, hF, Or.inl c9, Or.inl c11, Or.inl c14⟩
  · obtain ⟨L, T, a1, a2, a3, a4⟩ := hX
    exact ⟨L, T, a1, by rw [hmi 30 (by decide) (by decide), n5 30 (by decide)]; exact a2, a3, by rw [hmr 29 (by decide), n6 29 (by decide)]; exact a4⟩
  · obtain ⟨pc, pn, P, a1, a2, a3, a4, a5, a6⟩ := n1
    refine ⟨pc, pn, P, by rw [cx 5 (by decide) (by decide) (by decide)]; exact a1, by rw [hmi 9 (by decide) (by decide)]; exact a2, a3, by rw [cx 4 (by decide) (by decide) (by decide)]; exact a4, a5, fun j hj => ?_⟩
    obtain ⟨b1, b2, b3, b4⟩ := a6 j hj
    exact ⟨b1, by rw [hmr 10 (by decide)]; exact b2, b3, hS.tr b4⟩
  · obtain ⟨kc, P, a1, a2, a3, a4⟩ := hK
    refine ⟨kc, P, by rw [cx 7 (by decide) (by decide) (by decide), n3 7 (by decide) (by decide) (by decide)]; exact a1, by rw [hmi 11 (by decide) (by decide), n5 11 (by decide)]; exact a2, a3, fun j hj => ?_⟩
    obtain ⟨b1, b2, b3, b4⟩ := a4 j hj
    exact ⟨b1, by rw [hmr 12 (by decide), n6 12 (by decide)]; exact b2, b3, hS.tr b4⟩
section RULES
variable {ROK : ob → nb → Prop} {x sc now draft net paces route m : ob} {past saved : Nat → ob} {g : nb}
theorem eq_weigh (H : RG ROK x sc now draft past saved net paces route m g) (x0 x1 : Int32) : CHG ROK sc draft saved net paces route (f5_weigh x0 x1 x now past) (f6_weigh x0 x1 m) := by
  have H2 := H
  obtain ⟨hW, ht, hm, -, hP, -⟩ := H2
  have h10 := hW.2.1.2.1
  by_cases i0 : IN x0 (g.1 1)
  · obtain ⟨r, hr, rfl⟩ := i0
    have h9 := hW.2.1.2.2 r hr
    have d6 := ht.2.2.2.2.2.1 6 r hr (by omega) (by omega)
    have b6 := (hm.2.1 r hr).2.2.2.2.2
    have e76 : (7 : Int32) * nI r + 6 = nI (7 * r + 6) := by rw [show (7 : Int32) = nI 7 from rfl, nI_mul, show (6 : Int32) = nI 6 from rfl, nI_add]
    have isC : ∀ y, f5_isCost y = if y < 0 then some 0 else if nI 10 ≤ y then some 0 else some 1 := by
      intro y
      unfold f5_isCost
      by_cases q : y < 0
      · rw [if_pos q, if_pos q]
      · rw [if_neg q, if_neg q]
        rcases xI y with h | ⟨a, ha, rfl⟩
        · exact absurd h q
        · by_cases q2 : 9 < a
          · rw [if_pos (show (9 : Int32) < nI a from nI_lt (a := 9) (b := a) q2 ha), if_pos (nI_le (by omega) ha)]
          · rw [if_neg (show ¬ (9 : Int32) < nI a from nI_nlt (a := 9) (b := a) (by omega) (by omega)), if_neg (nI_ge (by omega) (by omega))]
    by_cases i1 : IN x1 10
    · obtain ⟨c, hc, rfl⟩ := i1
      by_cases q : c = g.2 6 r
      · refine CHG.no H (v := -2) ?_ ?_
        · unfold f5_weigh
          rw [c5R_y ht hr h10]
          simp only [Option.bind_some]
          rw [if_neg z1, isC, cin_y hc (by decide)]
          simp only [Option.bind_some]
          rw [if_neg z1, vin_nI (by omega), gd_p (show r < 10 by omega), nI_clamp (by omega), d6]
          simp only [lt_v]
          rw [if_pos (by rw [q])]
        · unfold f6_weigh
          rw [c6R_y hm hr h10]
          simp only [Option.bind_some]
          rw [if_neg z1, show (9 : Int32) = nI 10 - 1 from rfl, rin_y hc (by decide)]
          simp only [Option.bind_some]
          rw [if_neg z1, e76, vin_nI (by omega), gd_p (show 7 * r + 6 < 70 by omega), nI_clamp (by omega), b6]
          simp only [lt_v]
          rw [if_pos (by rw [q])]
      · obtain ⟨x', past', m1, ex, em, n1, n2, n3, n4, n5, n6⟩ := note hW ht hm hP
        have h1m : MW m1 g := hm.cg (fun k hk => n5 k (by omega)) (fun k hk => n6 k (by omega))
        obtain ⟨x2, e2, c9, c11, c14, cx, -⟩ := c_noteNew x'
        have hW' : WF (gc g r c) := gc_WF hW (by omega)
        have hm' : MW (sA m1 2 (7 * r + 6) (nI c)) (gc g r c) := gc_MW h1m h10 hr c
        have ht' : TW (sA now 6 r (nI c)) (gc g r c) := by
          obtain ⟨t1, t4, t5, t6, t7, t8, t9, t10⟩ := ht
          refine ⟨t1, t4, t5, t6, t7, fun k i hi k1 k2 => ?_, t9, t10⟩
          by_cases qk : k = 6
          · subst qk
            show (if i = r then nI c else now.2 6 i) = nI (if i = r then c else g.2 6 i)
            by_cases qi : i = r
            · rw [if_pos qi, if_pos qi]
            · rw [if_neg qi, if_neg qi]; exact t8 6 i hi k1 k2
          · have e1 : (sA now 6 r (nI c)).2 k = now.2 k := if_neg qk
            have e2 : (gc g r c).2 k = g.2 k := if_neg qk
            rw [e1, e2]
            exact t8 k i hi k1 k2
        refine ⟨nI (g.2 6 r), x2, _, past', _, gc g r c, ?_, ?_, H.rul n1 n3 n5 n6 c9 c11 c14 cx ⟨rfl, rfl, rfl, rfl, rfl, rfl⟩ hW' ht' hm' (fun k _ _ => rfl) (fun k k1 => by simp only [sI_1, sI_2, sA_1, sA_2, sR_1, sR_2, upd_at, sL_1, sL_2, rL_uL, updL_at, if_neg k1])⟩
        · unfold f5_weigh
          rw [c5R_y ht hr h10]
          simp only [Option.bind_some]
          rw [if_neg z1, isC, cin_y hc (by decide)]
          simp only [Option.bind_some]
          rw [if_neg z1, vin_nI (by omega), gd_p (show r < 10 by omega), nI_clamp (by omega), d6]
          simp only [lt_v]
          rw [if_neg (fun h => q ((nI_eq (by omega) (by omega)).mp h)), ex]
          simp only [Option.bind_some]
          rw [gd_p (show r < 10 by omega), e2]
          simp only [Option.bind_some]
        · unfold f6_weigh
          rw [c6R_y hm hr h10]
          simp only [Option.bind_some]
          rw [if_neg z1, show (9 : Int32) = nI 10 - 1 from rfl, rin_y hc (by decide)]
          simp only [Option.bind_some]
          rw [if_neg z1, e76, vin_nI (by omega), gd_p (show 7 * r + 6 < 70 by omega), nI_clamp (by omega), b6]
          simp only [lt_v]
          rw [if_neg (fun h => q ((nI_eq (by omega) (by omega)).mp h).symm), em]
          simp only [Option.bind_some]
          rw [gd_p (show 7 * r + 6 < 70 by omega)]
    · refine CHG.no H (v := -1) ?_ ?_
      · unfold f5_weigh
        rw [c5R_y ht hr h10]
        simp only [Option.bind_some]
        rw [if_neg z1, isC, cin_n i1 (by decide)]
        simp only [Option.bind_some]
        rw [if_pos z0]
      · unfold f6_weigh
        rw [c6R_y hm hr h10]
        simp only [Option.bind_some]
        rw [if_neg z1, show (9 : Int32) = nI 10 - 1 from rfl, rin_n i1 (by decide)]
        simp only [Option.bind_some]
        rw [if_pos z0]
  · refine CHG.no H (v := -1) ?_ ?_
    · unfold f5_weigh
      rw [c5R_n ht i0 h10]
      simp only [Option.bind_some]
      rw [if_pos z0]
    · unfold f6_weigh
      rw [c6R_n hm i0 h10]
      simp only [Option.bind_some]
      rw [if_pos z0]
theorem eq_mode (H : RG ROK x sc now draft past saved net paces route m g) (x0 : Int32) : CHG ROK sc draft saved net paces route (f5_mode x0 x now past) (f6_mode x0 m) := by
  have H2 := H
  obtain ⟨hW, ht, hm, -, hP, -⟩ := H2
  have t12 := ht.2.2.1
  have m8 := hm.2.2.2.2.2.1
  have h2 := hW.2.2.2
  by_cases i0 : IN x0 3
  · obtain ⟨b, hb, rfl⟩ := i0
    by_cases q : b = g.1 12
    · refine CHG.no H (v := -2) ?_ ?_
      · unfold f5_mode
        rw [if_neg (nn0 (by omega)), if_pos (show nI b < 3 from nI_lt (a := b) (b := 3) hb (by decide)), t12]
        simp only [lt_v]
        rw [if_pos (by rw [q])]
      · unfold f6_mode
        rw [show (2 : Int32) = nI 3 - 1 from rfl, rin_y hb (by decide)]
        simp only [Option.bind_some]
        rw [if_neg z1, m8, if_pos (by rw [q])]
    · obtain ⟨x', past', m1, ex, em, n1, n2, n3, n4, n5, n6⟩ := note hW ht hm hP
      have h1m : MW m1 g := hm.cg (fun k hk => n5 k (by omega)) (fun k hk => n6 k (by omega))
      obtain ⟨x2, e2, c9, c11, c14, cx, -⟩ := c_noteNew x'
      have nq : ¬ nI b = nI (g.1 12) := fun h => q ((nI_eq (by omega) (by omega)).mp h)
      have ht' : TW (sI now 12 (nI b)) (fun k => if k = 12 then b else g.1 k, g.2) := by
        obtain ⟨t1, t4, t5, t6, t7, t8, t9, t10⟩ := ht
        exact ⟨t1, t4, rfl, t6, t7, t8, t9, t10⟩
      have hm' : MW (sI m1 8 (nI b)) (fun k => if k = 12 then b else g.1 k, g.2) := by
        obtain ⟨t1, t4, t5, t6, t7, t8, t9, t10, t11⟩ := h1m
        exact ⟨t1, t4, t5, t6, t7, rfl, t9, t10, t11⟩
      have hW' : WF (fun k => if k = 12 then b else g.1 k, g.2) := ⟨hW.1, hW.2.1, hW.2.2.1, by show b ≤ 2; omega⟩
      refine ⟨nI (g.1 12), x2, _, past', _, (fun k => if k = 12 then b else g.1 k, g.2), ?_, ?_, H.rul (g' := (fun k => if k = 12 then b else g.1 k, g.2)) n1 n3 n5 n6 c9 c11 c14 cx ⟨rfl, rfl, rfl, rfl, rfl, rfl⟩ hW' ht' hm' (fun k _ k1 => by simp only [sI_1, sI_2, sA_1, sA_2, sR_1, sR_2, upd_at, sL_1, sL_2, rL_uL, updL_at, if_neg k1]) (fun k k1 => rfl)⟩
      · unfold f5_mode
        rw [if_neg (nn0 (by omega)), if_pos (show nI b < 3 from nI_lt (a := b) (b := 3) hb (by decide)), t12]
        simp only [lt_v]
        rw [if_neg nq, ex]
        simp only [Option.bind_some]
        rw [e2]
        simp only [Option.bind_some]
      · unfold f6_mode
        rw [show (2 : Int32) = nI 3 - 1 from rfl, rin_y hb (by decide)]
        simp only [Option.bind_some]
        rw [if_neg z1, m8, if_neg nq, em]
        simp only [Option.bind_some, lt_v]
        rw [h1m.2.2.2.2.2.1]
  · refine CHG.no H (v := -1) ?_ ?_
    · unfold f5_mode
      rcases out i0 with h | ⟨a, h1, h2, rfl⟩
      · rw [if_pos h]
      · rw [if_neg (nn0 h1), if_neg (show ¬ nI a < 3 from nI_nlt (a := a) (b := 3) (by omega) (by omega))]
    · unfold f6_mode
      rw [show (2 : Int32) = nI 3 - 1 from rfl, rin_n i0 (by decide)]
      simp only [Option.bind_some]
      rw [if_pos z0]
end RULES
