section HCALLS
variable {ROK : ob → nb → Prop} {x sc now draft net paces route m : ob} {past saved : Nat → ob} {g : nb}
/-- what a call that asks leaves -/
theorem RG.ask (H : RG ROK x sc now draft past saved net paces route m g) {x' net' m' : ob} (hi : ∀ k, k < 13 ∨ k = 30 → m'.1 k = m.1 k) (hr : ∀ k, k < 8 ∨ k = 10 ∨ k = 12 ∨ k = 29 → m'.2 k = m.2 k) (hx : ∀ k, k ≠ 9 → x'.1 k = x.1 k) (hn : NV x' net' g) : RG ROK x' sc now draft past saved net' paces route m' g := by
  obtain ⟨hW, ht, hm, hX, hP, hK, hF, hN, hV, hR⟩ := H
  refine ⟨hW, ht, hm.cg (fun k hk => hi k (by omega)) (fun k hk => hr k (by omega)), ?_, ?_, ?_, hF, hn, ?_, ?_⟩
  · obtain ⟨L, T, a1, a2, a3, a4⟩ := hX
    exact ⟨L, T, a1, by rw [hi 30 (by omega)]; exact a2, a3, by rw [hr 29 (by omega)]; exact a4⟩
  · obtain ⟨pc, pn, P', a1, a2, a3, a4, a5, a6⟩ := hP
    exact ⟨pc, pn, P', by rw [hx 5 (by decide)]; exact a1, by rw [hi 9 (by omega)]; exact a2, a3, by rw [hx 4 (by decide)]; exact a4, a5, by rw [hr 10 (by omega)]; exact a6⟩
  · obtain ⟨kc, K, a1, a2, a3, a4⟩ := hK
    exact ⟨kc, K, by rw [hx 7 (by decide)]; exact a1, by rw [hi 11 (by omega)]; exact a2, a3, by rw [hr 12 (by omega)]; exact a4⟩
  · unfold PV; rw [hx 11 (by decide)]; exact hV
  · unfold RV; rw [hx 14 (by decide), hx 11 (by decide)]; exact hR
theorem RG.askM (H : RG ROK x sc now draft past saved net paces route m g) {x' net' m' : ob} (k : keepM m m') (hx : keep9 x x') (hn : NV x' net' g) : RG ROK x' sc now draft past saved net' paces route m' g :=
  H.ask (fun j hj => k.1 j (by omega) (by omega) (by omega)) (fun j hj => k.2 j (by omega) (by omega) (by omega) (by omega)) hx.1 hn
theorem RG.askH (H : RG ROK x sc now draft past saved net paces route m g) {m' : ob} (k : keepH m m') : RG ROK x sc now draft past saved net paces route m' g :=
  H.ask (fun j hj => by rw [k.1]) (fun j hj => k.2 j (by omega) (by omega) (by omega)) (fun _ _ => rfl) H.2.2.2.2.2.2.2.1
theorem rq_price (H : RG ROK x sc now draft past saved net paces route m g) : ∃ ans x' net' m', f5_price x now net = some (ans, x', net') ∧ f6_price m = some (ans, m') ∧ RG ROK x' sc now draft past saved net' paces route m' g := by
  obtain ⟨ans, x', net', m', a, b, c, d, e⟩ := eq_price H.1 x now net m H.2.1 H.2.2.1 H.2.2.2.2.2.2.2.1
  exact ⟨ans, x', net', m', a, b, H.askM e d c⟩
theorem rq_edge (H : RG ROK x sc now draft past saved net paces route m g) (x0 x1 x2 : Int32) : ∃ ans x' net' m', f5_edge x0 x1 x2 x now net = some (ans, x', net') ∧ f6_edge x0 x1 x2 m = some (ans, m') ∧ RG ROK x' sc now draft past saved net' paces route m' g := by
  obtain ⟨ans, x', net', m', a, b, c, d, e⟩ := eq_edge H.1 x0 x1 x2 x now net m H.2.1 H.2.2.1 H.2.2.2.2.2.2.2.1
  exact ⟨ans, x', net', m', a, b, H.askM e d c⟩
theorem rq_automaton (H : RG ROK x sc now draft past saved net paces route m g) (x0 : Int32) : ∃ ans x' net' m', f5_automaton x0 x now net = some (ans, x', net') ∧ f6_automaton x0 m = some (ans, m') ∧ RG ROK x' sc now draft past saved net' paces route m' g := by
  obtain ⟨ans, x', net', m', a, b, c, d, e⟩ := eq_automaton H.1 x0 x now net m H.2.1 H.2.2.1 H.2.2.2.2.2.2.2.1
  exact ⟨ans, x', net', m', a, b, H.askM e d c⟩
theorem rq_needed (H : RG ROK x sc now draft past saved net paces route m g) (tr : ob) : ∃ ans x' net' tr' m', f5_needed x now net tr = some (ans, x', net', tr') ∧ f6_needed m = some (ans, m') ∧ RG ROK x' sc now draft past saved net' paces route m' g := by
  obtain ⟨ans, x', net', tr', m', a, b, c, d, e⟩ := eq_needed H.1 x now net tr m H.2.1 H.2.2.1 H.2.2.2.2.2.2.2.1
  exact ⟨ans, x', net', tr', m', a, b, H.askM e d c⟩
theorem rq_dear (H : RG ROK x sc now draft past saved net paces route m g) (x0 : Int32) (tr : ob) : ∃ ans x' net' tr' m', f5_dear x0 x now net tr = some (ans, x', net', tr') ∧ f6_dear x0 m = some (ans, m') ∧ RG ROK x' sc now draft past saved net' paces route m' g := by
  obtain ⟨ans, x', net', tr', m', a, b, c, d, e⟩ := eq_dear H.1 x0 x now net tr m H.2.1 H.2.2.1 H.2.2.2.2.2.2.2.1
  exact ⟨ans, x', net', tr', m', a, b, H.askM e d c⟩
theorem rq_heads (H : RG ROK x sc now draft past saved net paces route m g) (x0 x1 : Int32) (reach : ob) : ∃ ans reach' m', f5_heads x0 x1 x now reach = some (ans, reach') ∧ f6_heads x0 x1 m = some (ans, m') ∧ RG ROK x sc now draft past saved net paces route m' g := by
  have H2 := H
  obtain ⟨hW, ht, hm, -⟩ := H2
  have h3 := hW.1.2.1
  by_cases i0 : IN x0 (g.1 0)
  · obtain ⟨p, hp, rfl⟩ := i0
    by_cases i1 : IN x1 4
    · obtain ⟨y, hy, rfl⟩ := i1
      obtain ⟨o', hmk, a, eo, o1, -, o3, -, -, oh⟩ := p1_explore hW now ht reach
      obtain ⟨m', a', hb, em, km, -, -, m26, m01, -, mh⟩ := p6_setHeads hW m hm
      have eqv : hmk.testBit (4 * p + y) = true ↔ hb (4 * p + y) = 1 := by
        constructor
        · intro h
          exact ((mh p y).mpr ((oh p y).mp ⟨by omega, hy, h⟩)).2.2
        · intro h
          exact ((oh p y).mpr ((mh p y).mp ⟨by omega, hy, h⟩)).2.2
      refine ⟨nI (hb (4 * p + y)), o', m', ?_, ?_, H.askH km⟩
      · unfold f5_heads
        rw [c5S_y ht hp h3]
        simp only [Option.bind_some]
        rw [if_neg z1, c5L_y hy]
        simp only [Option.bind_some]
        rw [if_neg z1, eo]
        simp only [Option.bind_some]
        unfold f1_hasHead
        have e4 : nI p * 4 + nI y = nI (4 * p + y) := by
          rw [show (4 : Int32) = nI 4 from rfl, nI_mul, nI_add]
          exact congrArg nI (by omega)
        rw [o1, e4, tst (by omega)]
        rcases m01 (4 * p + y) (by omega) with q | q
        · rw [if_neg (show ¬ hmk.testBit (4 * p + y) = true from fun h => by have := eqv.mp h; omega), if_neg (show ¬ nI 0 = (1 : Int32) by decide), q]
          simp only [Option.bind_some]
          rw [if_pos trivial]
          rfl
        · rw [if_pos (eqv.mpr q), if_pos (show nI 1 = (1 : Int32) from rfl), q]
          simp only [Option.bind_some]
          rw [if_neg (by decide)]
          rfl
      · unfold f6_heads
        rw [c6S_y hm hp h3]
        simp only [Option.bind_some]
        rw [if_neg z1, c6L_y hy]
        simp only [Option.bind_some]
        rw [if_neg z1, em]
        simp only [Option.bind_some]
        rw [show (4 : Int32) * nI p + nI y = nI (4 * p + y) by rw [show (4 : Int32) = nI 4 from rfl, nI_mul, nI_add], vin_nI (by omega), gd_p (show 4 * p + y < 12 by omega), nI_clamp (by omega), m26 _ (by omega)]
    · refine ⟨-1, reach, m, ?_, ?_, H⟩
      · unfold f5_heads
        rw [c5S_y ht hp h3]
        simp only [Option.bind_some]
        rw [if_neg z1, c5L_n i1]
        simp only [Option.bind_some]
        rw [if_pos z0]
      · unfold f6_heads
        rw [c6S_y hm hp h3]
        simp only [Option.bind_some]
        rw [if_neg z1, c6L_n i1]
        simp only [Option.bind_some]
        rw [if_pos z0]
  · refine ⟨-1, reach, m, ?_, ?_, H⟩
    · unfold f5_heads
      rw [c5S_n ht i0 h3]
      simp only [Option.bind_some]
      rw [if_pos z0]
    · unfold f6_heads
      rw [c6S_n hm i0 h3]
      simp only [Option.bind_some]
      rw [if_pos z0]
theorem bt_eq (hW : WF g) {a a' : Nat} (h1 : ∀ s, a.testBit s = true ↔ BT g (g.1 14) s) (h2 : ∀ s, a'.testBit s = true ↔ BT g (g.1 14) s) : a = a' := Nat.eq_of_testBit_eq fun s => by
  have e : a.testBit s = true ↔ a'.testBit s = true := (h1 s).trans (h2 s).symm
  cases ea : a.testBit s with
  | true => rw [ea] at e; exact (e.mp rfl).symm
  | false =>
    cases eb : a'.testBit s with
    | false => rfl
    | true => rw [ea, eb] at e; exact absurd (e.mpr rfl) (by decide)
theorem rq_empty (H : RG ROK x sc now draft past saved net paces route m g) (x0 : Int32) (reach : ob) : ∃ ans reach' m', f5_empty x0 x now reach = some (ans, reach') ∧ f6_empty x0 m = some (ans, m') ∧ RG ROK x sc now draft past saved net paces route m' g := by
  have H2 := H
  obtain ⟨hW, ht, hm, -⟩ := H2
  have h3 := hW.1.2.1
  by_cases i0 : IN x0 (g.1 0)
  · obtain ⟨p, hp, rfl⟩ := i0
    obtain ⟨o', hmk, a, eo, -, o2, -, -, ob, -⟩ := p1_explore hW now ht reach
    obtain ⟨m', a', hb, em, km, -, m27, -, -, mb, -⟩ := p6_setHeads hW m hm
    have ea := bt_eq hW ob mb
    subst ea
    refine ⟨nI (if a.testBit p = true then 1 else 0), o', m', ?_, ?_, H.askH km⟩
    · unfold f5_empty
      rw [c5S_y ht hp h3]
      simp only [Option.bind_some]
      rw [if_neg z1, eo]
      simp only [Option.bind_some]
      rw [o2, tst (by omega)]
      split <;> rfl
    · unfold f6_empty
      rw [c6S_y hm hp h3]
      simp only [Option.bind_some]
      rw [if_neg z1, em]
      simp only [Option.bind_some]
      rw [vin_nI (by omega), gd_p (show p < 3 by omega), nI_clamp (by omega), m27 p (by omega)]
  · refine ⟨-1, reach, m, ?_, ?_, H⟩
    · unfold f5_empty
      rw [c5S_n ht i0 h3]
      simp only [Option.bind_some]
      rw [if_pos z0]
    · unfold f6_empty
      rw [c6S_n hm i0 h3]
      simp only [Option.bind_some]
      rw [if_pos z0]
end HCALLS
