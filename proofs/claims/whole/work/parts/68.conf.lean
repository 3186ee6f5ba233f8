/-! calls that change the configuration -/
theorem RG.cfg {ROK : ob → nb → Prop} {x sc now draft net paces route m x' now' m1 m' : ob} {past saved past' : Nat → ob} {g : nb} (H : RG ROK x sc now draft past saved net paces route m g) (n1 : RP x' m1 past' g) (n2 : x'.1 14 = 0) (n3 : ∀ k, k ≠ 4 → k ≠ 5 → k ≠ 14 → x'.1 k = x.1 k) (n5 : ∀ k, k ≠ 9 → m1.1 k = m.1 k) (n6 : ∀ k, k ≠ 10 → m1.2 k = m.2 k)
    {st hh : Nat} {s : Nat → Nat} (hW' : WF (cf g st hh s)) (ht' : TW now' (cf g st hh s)) (hm' : MW m' (cf g st hh s)) (hmi : ∀ k, k ≠ 5 → k ≠ 6 → m'.1 k = m1.1 k) (hmr : ∀ k, k ≠ 7 → m'.2 k = m1.2 k) : RG ROK x' sc now' draft past' saved net paces route m' (cf g st hh s) := by
  obtain ⟨hW, ht, hm, hX, hP, hK, hF, hN, hV, hR⟩ := H
  refine ⟨hW', ht', hm', ?_, ?_, ?_, hF, ?_, ?_, Or.inl n2⟩
  · obtain ⟨L, T, a1, a2, a3, a4⟩ := hX
    exact ⟨L, T, a1, by rw [hmi 30 (by decide) (by decide), n5 30 (by decide)]; exact a2, a3, by rw [hmr 29 (by decide), n6 29 (by decide)]; exact a4⟩
  · obtain ⟨pc, pn, P, a1, a2, a3, a4, a5, a6⟩ := n1
    exact ⟨pc, pn, P, a1, by rw [hmi 9 (by decide) (by decide)]; exact a2, a3, a4, a5, by rw [hmr 10 (by decide)]; exact a6⟩
  · obtain ⟨kc, P, a1, a2, a3, a4⟩ := hK
    exact ⟨kc, P, by rw [n3 7 (by decide) (by decide) (by decide)]; exact a1, by rw [hmi 11 (by decide) (by decide), n5 11 (by decide)]; exact a2, a3, by rw [hmr 12 (by decide), n6 12 (by decide)]; exact a4⟩
  · rcases hN with h | ⟨h1, h2⟩
    · exact Or.inl (by rw [n3 9 (by decide) (by decide) (by decide)]; exact h)
    · exact Or.inr ⟨by rw [n3 9 (by decide) (by decide) (by decide)]; exact h1, cf_NK g st hh s net _ _ h2⟩
  · rcases hV with h | ⟨h1, h2⟩
    · exact Or.inl (by rw [n3 11 (by decide) (by decide) (by decide)]; exact h)
    · exact Or.inr ⟨by rw [n3 11 (by decide) (by decide) (by decide)]; exact h1, cf_NK g st hh s paces _ _ h2⟩
/-- a call that changes something -/
def CHG (ROK : ob → nb → Prop) (sc draft : ob) (saved : Nat → ob) (net paces route : ob) (A : Option (Int32 × ob × ob × (Nat → ob))) (B : Option (Int32 × ob)) : Prop := ∃ ans x' now' past' m' g', A = some (ans, x', now', past') ∧ B = some (ans, m') ∧ RG ROK x' sc now' draft past' saved net paces route m' g'
theorem CHG.no {ROK : ob → nb → Prop} {x sc now draft net paces route m : ob} {past saved : Nat → ob} {g : nb} (H : RG ROK x sc now draft past saved net paces route m g) {A : Option (Int32 × ob × ob × (Nat → ob))} {B : Option (Int32 × ob)} {v : Int32} (a : A = some (v, x, now, past)) (b : B = some (v, m)) : CHG ROK sc draft saved net paces route A B := ⟨v, x, now, past, m, g, a, b, H⟩
section CONF
variable {ROK : ob → nb → Prop} {x sc now draft net paces route m : ob} {past saved : Nat → ob} {g : nb}
theorem eq_push (H : RG ROK x sc now draft past saved net paces route m g) (x0 : Int32) : CHG ROK sc draft saved net paces route (f5_push x0 x now past) (f6_push x0 m) := by
  have H2 := H
  obtain ⟨hW, ht, hm, -, hP, -⟩ := H2
  have h14 := ht.2.2.2.2.1
  have m6 := hm.2.2.2.2.1
  have h12 := hW.2.2.1.2.1
  by_cases i0 : IN x0 4
  · obtain ⟨a, ha, rfl⟩ := i0
    by_cases q : g.1 14 < 12
    · obtain ⟨x', past', m1, ex, em, n1, n2, n3, n4, n5, n6⟩ := note hW ht hm hP
      have h1m : MW m1 g := hm.cg (fun k hk => n5 k (by omega)) (fun k hk => n6 k (by omega))
      have hW' : WF (cf g (g.1 13) (g.1 14 + 1) (fun i => if i = g.1 14 then a else g.2 15 i)) := cf_WF hW hW.2.2.1.1 (by omega) (fun i hi => by
        show (if i = g.1 14 then a else g.2 15 i) < 4
        split
        · exact ha
        · exact hW.2.2.1.2.2 i (by omega))
      have ht' : TW (sI (sA now 15 (g.1 14) (nI a)) 14 (nI (g.1 14 + 1))) (cf g (g.1 13) (g.1 14 + 1) (fun i => if i = g.1 14 then a else g.2 15 i)) := ht.cf (fun k _ k2 => by simp only [sI_1, sI_2, sA_1, sA_2, sR_1, sR_2, upd_at, sL_1, sL_2, rL_uL, updL_at, if_neg k2]) (fun k k1 => by simp only [sI_1, sI_2, sA_1, sA_2, sR_1, sR_2, upd_at, sL_1, sL_2, rL_uL, updL_at, if_neg k1]) ht.2.2.2.1 rfl (fun i hi => by
        show (if i = g.1 14 then nI a else now.2 15 i) = nI (if i = g.1 14 then a else g.2 15 i)
        by_cases qi : i = g.1 14
        · rw [if_pos qi, if_pos qi]
        · rw [if_neg qi, if_neg qi]; exact ht.2.2.2.2.2.2.1 i (by omega))
      have hm' : MW (sI (sA m1 7 (g.1 14) (nI a)) 6 (nI (g.1 14 + 1))) (cf g (g.1 13) (g.1 14 + 1) (fun i => if i = g.1 14 then a else g.2 15 i)) := h1m.cf (fun k _ _ k2 => by simp only [sI_1, sI_2, sA_1, sA_2, sR_1, sR_2, upd_at, sL_1, sL_2, rL_uL, updL_at, if_neg k2]) (fun k k1 => by simp only [sI_1, sI_2, sA_1, sA_2, sR_1, sR_2, upd_at, sL_1, sL_2, rL_uL, updL_at]; rw [if_neg (by omega)]) h1m.2.2.2.1 rfl (fun i hi => by
        show (if i = g.1 14 then nI a else m1.2 7 i) = nI (if i = g.1 14 then a else g.2 15 i)
        by_cases qi : i = g.1 14
        · rw [if_pos qi, if_pos qi]
        · rw [if_neg qi, if_neg qi]; exact h1m.2.2.2.2.2.2.1 i (by omega))
      refine ⟨nI (g.1 14 + 1), x', _, past', _, _, ?_, ?_, H.cfg n1 n2 n3 n5 n6 hW' ht' hm' (fun k _ k2 => by simp only [sI_1, sI_2, sA_1, sA_2, sR_1, sR_2, upd_at, sL_1, sL_2, rL_uL, updL_at, if_neg k2]) (fun k k1 => by simp only [sI_1, sI_2, sA_1, sA_2, sR_1, sR_2, upd_at, sL_1, sL_2, rL_uL, updL_at, if_neg k1])⟩
      · unfold f5_push
        rw [c5L_y ha]
        simp only [Option.bind_some]
        rw [if_neg z1, h14, if_pos (show nI (g.1 14) < 12 from nI_lt (a := g.1 14) (b := 12) q (by decide)), ex]
        simp only [Option.bind_some]
        unfold f4_putLetter
        rw [h14, if_neg (show ¬ (12 : Int32) ≤ nI (g.1 14) from nI_ge (a := g.1 14) (b := 12) q (by decide)), vin_nI (by omega), gd_p q, nI_clamp (by omega)]
        simp only [Option.bind_some, lt_v]
        have e : (sA now 15 (g.1 14) (nI a)).1 14 = nI (g.1 14) := h14
        rw [e, nI_1]
        rfl
      · unfold f6_push
        rw [c6L_y ha]
        simp only [Option.bind_some]
        have m16 := h1m.2.2.2.2.1
        rw [if_neg z1, m6, if_neg (show ¬ nI (g.1 14) = 12 from fun h => by
          have := (nI_eq (a := g.1 14) (b := 12) (by omega) (by decide)).mp (show nI (g.1 14) = nI 12 from h)
          omega), em]
        simp only [Option.bind_some]
        rw [m16, vin_nI (by omega), gd_p q, nI_clamp (by omega)]
        simp only [lt_v]
        have e : (sA m1 7 (g.1 14) (nI a)).1 6 = nI (g.1 14) := m16
        rw [e, nI_1]
        rfl
    · have q12 : g.1 14 = 12 := by omega
      refine CHG.no H (v := -3) ?_ ?_
      · unfold f5_push
        rw [c5L_y ha]
        simp only [Option.bind_some]
        rw [if_neg z1, h14, if_neg (show ¬ nI (g.1 14) < 12 from nI_nlt (a := g.1 14) (b := 12) (by omega) (by omega))]
      · unfold f6_push
        rw [c6L_y ha]
        simp only [Option.bind_some]
        rw [if_neg z1, m6, if_pos (by rw [q12]; rfl)]
  · refine CHG.no H (v := -1) ?_ ?_
    · unfold f5_push
      rw [c5L_n i0]
      simp only [Option.bind_some]
      rw [if_pos z0]
    · unfold f6_push
      rw [c6L_n i0]
      simp only [Option.bind_some]
      rw [if_pos z0]
theorem eq_pop (H : RG ROK x sc now draft past saved net paces route m g) : CHG ROK sc draft saved net paces route (f5_pop x now past) (f6_pop m) := by
  have H2 := H
  obtain ⟨hW, ht, hm, -, hP, -⟩ := H2
  have h14 := ht.2.2.2.2.1
  have m6 := hm.2.2.2.2.1
  have h12 := hW.2.2.1.2.1
  by_cases q : g.1 14 = 0
  · refine CHG.no H (v := -2) ?_ ?_
    · unfold f5_pop
      rw [h14, if_pos (by rw [q]; rfl)]
    · unfold f6_pop
      rw [m6, if_pos (by rw [q]; rfl)]
  · obtain ⟨x', past', m1, ex, em, n1, n2, n3, n4, n5, n6⟩ := note hW ht hm hP
    have h1m : MW m1 g := hm.cg (fun k hk => n5 k (by omega)) (fun k hk => n6 k (by omega))
    have m16 := h1m.2.2.2.2.1
    have hW' : WF (cf g (g.1 13) (g.1 14 - 1) (g.2 15)) := cf_WF hW hW.2.2.1.1 (by omega) (fun i hi => hW.2.2.1.2.2 i (by omega))
    have ht' : TW (sI now 14 (nI (g.1 14 - 1))) (cf g (g.1 13) (g.1 14 - 1) (g.2 15)) := ht.cf (fun k _ k2 => by simp only [sI_1, sI_2, sA_1, sA_2, sR_1, sR_2, upd_at, sL_1, sL_2, rL_uL, updL_at, if_neg k2]) (fun k k1 => rfl) ht.2.2.2.1 rfl (fun i hi => ht.2.2.2.2.2.2.1 i (by omega))
    have hm' : MW (sI m1 6 (nI (g.1 14 - 1))) (cf g (g.1 13) (g.1 14 - 1) (g.2 15)) := h1m.cf (fun k _ _ k2 => by simp only [sI_1, sI_2, sA_1, sA_2, sR_1, sR_2, upd_at, sL_1, sL_2, rL_uL, updL_at, if_neg k2]) (fun k k1 => rfl) h1m.2.2.2.1 rfl (fun i hi => h1m.2.2.2.2.2.2.1 i (by omega))
    have n0 : ¬ nI (g.1 14) = 0 := fun h => q ((nI_eq (a := g.1 14) (b := 0) (by omega) (by decide)).mp (show nI (g.1 14) = nI 0 from h))
    have es : nI (g.1 14) - 1 = nI (g.1 14 - 1) := nI_sub (a := g.1 14) (b := 1) (by omega)
    refine ⟨nI (g.2 15 (g.1 14 - 1)), x', _, past', _, _, ?_, ?_, H.cfg n1 n2 n3 n5 n6 hW' ht' hm' (fun k _ k2 => by simp only [sI_1, sI_2, sA_1, sA_2, sR_1, sR_2, upd_at, sL_1, sL_2, rL_uL, updL_at, if_neg k2]) (fun k k1 => rfl)⟩
    · unfold f5_pop
      rw [h14, if_neg n0, ex]
      simp only [Option.bind_some]
      unfold f4_takeLetter
      rw [h14, if_neg n0, es]
      simp only [lt_v]
      have e : (sI now 14 (nI (g.1 14 - 1))).1 14 = nI (g.1 14 - 1) := rfl
      have e2 : (sI now 14 (nI (g.1 14 - 1))).2 15 (g.1 14 - 1) = nI (g.2 15 (g.1 14 - 1)) := ht.2.2.2.2.2.2.1 _ (by omega)
      rw [e, vin_nI (by omega), gd_p (show g.1 14 - 1 < 12 by omega), nI_clamp (by omega), e2]
      simp only [Option.bind_some]
    · unfold f6_pop
      rw [m6, if_neg n0, em]
      simp only [Option.bind_some]
      rw [m16, es]
      simp only [lt_v]
      have e : (sI m1 6 (nI (g.1 14 - 1))).1 6 = nI (g.1 14 - 1) := rfl
      have e2 : (sI m1 6 (nI (g.1 14 - 1))).2 7 (g.1 14 - 1) = nI (g.2 15 (g.1 14 - 1)) := h1m.2.2.2.2.2.2.1 _ (by omega)
      rw [e, vin_nI (by omega), gd_p (show g.1 14 - 1 < 12 by omega), nI_clamp (by omega), e2]
theorem c5S_y {a : Nat} {x now : ob} {g : nb} (ht : TW now g) (h : a < g.1 0) (h3 : g.1 0 ≤ 3) : f5_isState (nI a) x now = some (nI 1) := by
  unfold f5_isState
  rw [ht.1.1]
  exact cin_y h (by omega)
theorem c5S_n {y : Int32} {x now : ob} {g : nb} (ht : TW now g) (h : ¬ IN y (g.1 0)) (h3 : g.1 0 ≤ 3) : f5_isState y x now = some (nI 0) := by
  unfold f5_isState
  rw [ht.1.1]
  exact cin_n h (by omega)
theorem c6S_y {a : Nat} {m : ob} {g : nb} (hm : MW m g) (h : a < g.1 0) (h3 : g.1 0 ≤ 3) : f6_isState (nI a) m = some (nI 1) := by
  unfold f6_isState
  rw [hm.1.1, rin_y h (by omega)]
  rfl
theorem c6S_n {y : Int32} {m : ob} {g : nb} (hm : MW m g) (h : ¬ IN y (g.1 0)) (h3 : g.1 0 ≤ 3) : f6_isState y m = some (nI 0) := by
  unfold f6_isState
  rw [hm.1.1, rin_n h (by omega)]
  rfl
theorem eq_go (H : RG ROK x sc now draft past saved net paces route m g) (x0 : Int32) : CHG ROK sc draft saved net paces route (f5_go x0 x now past) (f6_go x0 m) := by
  have H2 := H
  obtain ⟨hW, ht, hm, -, hP, -⟩ := H2
  have h13 := ht.2.2.2.1
  have m5 := hm.2.2.2.1
  have h3 := hW.1.2.1
  have hc := hW.2.2.1
  by_cases i0 : IN x0 (g.1 0)
  · obtain ⟨a, ha, rfl⟩ := i0
    by_cases q : a = g.1 13
    · refine CHG.no H (v := -2) ?_ ?_
      · unfold f5_go
        rw [c5S_y ht ha h3]
        simp only [Option.bind_some, lt_v]
        rw [if_neg z1, h13, if_pos (by rw [q])]
      · unfold f6_go
        rw [c6S_y hm ha h3]
        simp only [Option.bind_some]
        rw [if_neg z1, m5, if_pos (by rw [q])]
    · obtain ⟨x', past', m1, ex, em, n1, n2, n3, n4, n5, n6⟩ := note hW ht hm hP
      have h1m : MW m1 g := hm.cg (fun k hk => n5 k (by omega)) (fun k hk => n6 k (by omega))
      have nq : ¬ nI a = nI (g.1 13) := fun h => q ((nI_eq (by omega) (by have := hc.1; omega)).mp h)
      have hW' : WF (cf g a (g.1 14) (g.2 15)) := cf_WF hW ha hc.2.1 hc.2.2
      have ht' : TW (sI now 13 (nI a)) (cf g a (g.1 14) (g.2 15)) := ht.cf (fun k k1 _ => by simp only [sI_1, sI_2, sA_1, sA_2, sR_1, sR_2, upd_at, sL_1, sL_2, rL_uL, updL_at, if_neg k1]) (fun k k1 => rfl) rfl ht.2.2.2.2.1 ht.2.2.2.2.2.2.1
      have hm' : MW (sI m1 5 (nI a)) (cf g a (g.1 14) (g.2 15)) := h1m.cf (fun k _ k1 _ => by simp only [sI_1, sI_2, sA_1, sA_2, sR_1, sR_2, upd_at, sL_1, sL_2, rL_uL, updL_at, if_neg k1]) (fun k k1 => rfl) rfl h1m.2.2.2.2.1 h1m.2.2.2.2.2.2.1
      refine ⟨nI (g.1 13), x', _, past', _, _, ?_, ?_, H.cfg n1 n2 n3 n5 n6 hW' ht' hm' (fun k k1 _ => by simp only [sI_1, sI_2, sA_1, sA_2, sR_1, sR_2, upd_at, sL_1, sL_2, rL_uL, updL_at, if_neg k1]) (fun k k1 => rfl)⟩
      · unfold f5_go
        rw [c5S_y ht ha h3]
        simp only [Option.bind_some, lt_v]
        rw [if_neg z1, h13, if_neg nq, ex]
        simp only [Option.bind_some]
      · unfold f6_go
        rw [c6S_y hm ha h3]
        simp only [Option.bind_some]
        rw [if_neg z1, m5, if_neg nq, em]
        simp only [Option.bind_some, lt_v]
        rw [h1m.2.2.2.1]
  · refine CHG.no H (v := -1) ?_ ?_
    · unfold f5_go
      rw [c5S_n ht i0 h3]
      simp only [Option.bind_some]
      rw [if_pos z0]
    · unfold f6_go
      rw [c6S_n hm i0 h3]
      simp only [Option.bind_some]
      rw [if_pos z0]
end CONF
