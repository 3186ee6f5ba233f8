/-! which heads there can be -/
def BT (g : nb) : Nat → Nat → Prop
  | 0, s => s = g.1 13
  | i + 1, s => ∃ p, BT g i p ∧ Pop g p (g.2 15 (g.1 14 - 1 - i)) s
def HI (g : nb) (i p x : Nat) : Prop := ∃ j, j < i ∧ BT g j p ∧ g.2 15 (g.1 14 - 1 - j) = x
def HR (g : nb) (Q : Nat → Nat → Prop) (q w : Nat) : Prop := match lw w with
  | [] => True
  | [x] => Q q x
  | x :: y :: _ => Q q x ∧ ∀ s, Pop g q x s → Q s y
def HC (g : nb) (Q : Nat → Nat → Prop) : Prop := (∀ p x, HI g (g.1 14) p x → Q p x) ∧ ∀ r, r < g.1 1 → Q (g.2 2 r) (g.2 3 r) → HR g Q (g.2 4 r) (g.2 5 r)
def HD (g : nb) (p x : Nat) : Prop := ∀ Q, HC g Q → Q p x
theorem HR_mono {g : nb} {P Q : Nat → Nat → Prop} (h : ∀ p x, P p x → Q p x) {q w : Nat} (hr : HR g P q w) : HR g Q q w := by
  unfold HR at hr ⊢
  split <;> rename_i e <;> rw [e] at hr
  · trivial
  · exact h _ _ hr
  · exact ⟨h _ _ hr.1, fun s hs => h _ _ (hr.2 s hs)⟩
theorem HD_clo (g : nb) : HC g (HD g) := ⟨fun p x h Q hQ => hQ.1 p x h, fun r hr h => by
  have : ∀ Q, HC g Q → HR g Q (g.2 4 r) (g.2 5 r) := fun Q hQ => hQ.2 r hr (h Q hQ)
  unfold HR at this ⊢
  split <;> rename_i e
  · trivial
  · intro Q hQ
    have := this Q hQ
    rw [e] at this
    exact this
  · refine ⟨fun Q hQ => ?_, fun s hs Q hQ => ?_⟩
    · have := this Q hQ
      rw [e] at this
      exact this.1
    · have := this Q hQ
      rw [e] at this
      exact this.2 s hs⟩
theorem BT_lt {g : nb} (hW : WF g) : ∀ {i s : Nat}, BT g i s → s < g.1 0
  | 0, s, h => by
    have h : s = g.1 13 := h
    rw [h]; exact hW.2.2.1.1
  | i + 1, s, ⟨p, _, h⟩ => (Pop_lt hW h).2.2
/-! the class -/
def HM (a p x : Nat) : Prop := p < 3 ∧ x < 4 ∧ a.testBit (4 * p + x) = true
section HEADS
variable {g : nb}
theorem p1_descend (hW : WF g) (now : ob) (ht : TW now g) (f : Nat → Nat) (hf8 : ∀ h, h < 12 → f h < 8) (hf : ∀ p x s, FS f p x s ↔ Pop g p x s) (o : ob) (h0 : ∀ h, h < 12 → o.2 0 h = nI (f h)) :
    ∃ o' hm a, f1_descend o now = some o' ∧ o'.2 = o.2 ∧ o'.1 1 = nI hm ∧ o'.1 2 = nI a ∧ hm < 2 ^ 12 ∧ a < 8 ∧ (∀ s, a.testBit s = true ↔ BT g (g.1 14) s) ∧ ∀ p x, HM hm p x ↔ HI g (g.1 14) p x := by
  have h3 := hW.1.2.1
  obtain ⟨c1, c2, c3⟩ := hW.2.2.1
  obtain ⟨y, e, y1, hm, a, y2, y3, y4, y5, y6, y7⟩ := wh_fr (st := f1_descend_L19 now) (fun i (b : Int32 × ob) => (b.1, dn (g.1 14) i, b.2)) (g.1 14) (fun i y => y.2.2 = o.2 ∧ ∃ hm a, y.2.1 1 = nI hm ∧ y.1 = nI a ∧ hm < 2 ^ 12 ∧ a < 8 ∧ (∀ s, a.testBit s = true ↔ BT g i s) ∧ ∀ p x, HM hm p x ↔ HI g i p x) (b0 := (nI (2 ^ g.1 13), sI o 1 0))
    ⟨rfl, 0, 2 ^ g.1 13, rfl, rfl, by decide, Nat.pow_lt_pow_right (n := 3) (by omega) (by omega), fun s => by
      rw [tb_pow, decide_eq_true_eq]
      exact ⟨fun h => h.symm, fun h => Eq.symm h⟩, fun p x => ⟨fun h => absurd h.2.2 (by rw [Nat.zero_testBit]; decide), fun ⟨j, hj, _⟩ => absurd hj (by omega)⟩⟩
    (by
      intro y _
      unfold f1_descend_L19
      dsimp only
      rw [dn_end, if_pos (by decide)])
    (by
      rintro i ⟨v, z⟩ hi ⟨z1, hm, a, z2, z3, z4, z5, z6, z7⟩
      dsimp only at z1 z2 z3
      subst z3
      have hx := c3 (g.1 14 - 1 - i) (by omega)
      obtain ⟨x, hxd⟩ : ∃ x, x = g.2 15 (g.1 14 - 1 - i) := ⟨_, rfl⟩
      rw [← hxd] at hx
      have hr15 := ht.2.2.2.2.2.2.1 (g.1 14 - 1 - i) (by omega)
      rw [← hxd] at hr15
      refine ⟨(nI (afl f a x 3), sI z 1 (nI (hm ||| hdo a x 3))), ?_, z1, hm ||| hdo a x 3, afl f a x 3, rfl, rfl, or_lt z4 (hdo_lt hx 3 (Nat.le_refl _)), afl_lt hf8 hx 3 (Nat.le_refl _), fun s => ?_, fun p x' => ?_⟩
      · unfold f1_descend_L19
        dsimp only
        rw [dn_s hi, dn_lt hi, if_neg (nn0 (by omega)), vin_nI (by omega), gd_p (show g.1 14 - 1 - i < 12 by omega), nI_clamp (by omega), hr15, p1_headsOf a x hx]
        simp only [Option.bind_some, lt_v]
        rw [z2, nI_or, gd_p (show g.1 14 - 1 - i < 12 by omega), p1_afterLetter f a x hx _ (fun h hh => by
          show z.2 0 h = _
          rw [z1]; exact h0 h hh)]
        simp only [Option.bind_some]
      · rw [afl_b]
        constructor
        · rintro ⟨p, q1, q2, q3⟩
          refine ⟨p, (z6 p).mp q2, ?_⟩
          rw [← hxd]
          exact (hf p x s).mp ⟨q1, hx, q3⟩
        · rintro ⟨p, q1, q2⟩
          rw [← hxd] at q2
          obtain ⟨b1, b2, b3⟩ := (hf p x s).mpr q2
          exact ⟨p, b1, (z6 p).mpr q1, b3⟩
      · constructor
        · rintro ⟨q1, q2, q3⟩
          rw [Nat.testBit_or, Bool.or_eq_true] at q3
          rcases q3 with q3 | q3
          · obtain ⟨j, j1, j2⟩ := (z7 p x').mp ⟨q1, q2, q3⟩
            exact ⟨j, by omega, j2⟩
          · obtain ⟨p', p1, p2, p3⟩ := (hdo_b 3).mp q3
            have e1 : p' = p := by omega
            have e2 : x' = x := by omega
            subst e1
            exact ⟨i, by omega, (z6 p').mp p2, by rw [e2, hxd]⟩
        · rintro ⟨j, j1, j2, j3⟩
          by_cases qj : j = i
          · subst qj
            rw [← hxd] at j3
            subst j3
            have := BT_lt hW j2
            refine ⟨by omega, hx, ?_⟩
            rw [Nat.testBit_or, Bool.or_eq_true]
            exact Or.inr ((hdo_b 3).mpr ⟨p, by omega, (z6 p).mpr j2, rfl⟩)
          · obtain ⟨b1, b2, b3⟩ := (z7 p x').mpr ⟨j, by omega, j2, j3⟩
            refine ⟨b1, b2, ?_⟩
            rw [Nat.testBit_or, b3]; rfl)
  refine ⟨sI y.2 2 y.1, hm, a, ?_, y1, y2, y3, y4, y5, y6, y7⟩
  unfold f1_descend
  rw [ht.2.2.2.1, ht.2.2.2.2.1, shl_12 _ (by omega), dn_0]
  simp only [lt_v]
  rw [e]
  simp only [Option.bind_some]
def subM (a b : Nat) : Prop := ∀ k, a.testBit k = true → b.testBit k = true
theorem subM_or (a b : Nat) : subM a (a ||| b) := fun k h => by rw [Nat.testBit_or, h]; rfl
theorem p1_spreadL (hW : WF g) (now : ob) (ht : TW now g) (f : Nat → Nat) (hf8 : ∀ h, h < 12 → f h < 8) (hf : ∀ p x s, FS f p x s ↔ Pop g p x s) (o : ob) (h0 : ∀ h, h < 12 → o.2 0 h = nI (f h)) (hm : Nat) (hlt : hm < 2 ^ 12) (h1 : o.1 1 = nI hm) (hs : ∀ p x, HM hm p x → HD g p x) :
    ∃ o' hm', wh (f1_spread_L7 now) (0, o) = some (1, (nI (g.1 1), o')) ∧ o'.2 = o.2 ∧ (∀ k, k ≠ 1 → o'.1 k = o.1 k) ∧ o'.1 1 = nI hm' ∧ hm' < 2 ^ 12 ∧ subM hm hm' ∧ (∀ p x, HM hm' p x → HD g p x) ∧ ∀ r, r < g.1 1 → HM hm (g.2 2 r) (g.2 3 r) → HR g (HM hm') (g.2 4 r) (g.2 5 r) := by
  have h10 := hW.2.1.2.1
  have h3 := hW.1.2.1
  have t8 := ht.2.2.2.2.2.1
  obtain ⟨y, e, y1, y2, hm', y3, y4, y5, y6, y7⟩ := wh_fr (st := f1_spread_L7 now) (fun i (b : ob) => (nI i, b)) (g.1 1) (fun i y => y.2 = o.2 ∧ (∀ k, k ≠ 1 → y.1 k = o.1 k) ∧ ∃ hm', y.1 1 = nI hm' ∧ hm' < 2 ^ 12 ∧ subM hm hm' ∧ (∀ p x, HM hm' p x → HD g p x) ∧ ∀ r, r < i → HM hm (g.2 2 r) (g.2 3 r) → HR g (HM hm') (g.2 4 r) (g.2 5 r)) (b0 := o)
    ⟨rfl, fun _ _ => rfl, hm, h1, hlt, fun _ h => h, hs, fun _ h => absurd h (by omega)⟩
    (by
      intro y _
      unfold f1_spread_L7
      dsimp only
      rw [ht.2.1, if_pos (nI_le (Nat.le_refl _) (by omega))])
    (by
      rintro i z hi ⟨z1, z2, m1, z3, z4, z5, z6, z7⟩
      obtain ⟨c1, c2, c3, c4⟩ := hW.2.1.1 i hi
      have hl := fun x hx => lw_lt (x := x) c4 hx
      have r0 : ∀ (u : ob), u.2 = z.2 → ∀ h, h < 12 → u.2 0 h = nI (f h) := fun u hu h hh => by rw [hu, z1]; exact h0 h hh
      have hh : f1_hasHead (nI (g.2 2 i)) (nI (g.2 3 i)) z = some (if m1.testBit (4 * g.2 2 i + g.2 3 i) = true then nI 1 else nI 0) := by
        unfold f1_hasHead
        have e4 : nI (g.2 2 i) * 4 + nI (g.2 3 i) = nI (4 * g.2 2 i + g.2 3 i) := by
          rw [show (4 : Int32) = nI 4 from rfl, nI_mul, nI_add]
          exact congrArg nI (by omega)
        rw [z3, e4, tst (by omega)]
        by_cases q : m1.testBit (4 * g.2 2 i + g.2 3 i) = true
        · rw [if_pos q, if_pos (show nI 1 = (1 : Int32) from rfl)]; rfl
        · rw [if_neg q, if_neg (show ¬ nI 0 = (1 : Int32) by decide)]; rfl
      have sp : f1_spread_L7 now (nI i, z) = ((if (if m1.testBit (4 * g.2 2 i + g.2 3 i) = true then nI 1 else nI 0) = 0 then some z else ((if nI (lw (g.2 5 i)).length ≤ 0 then (some z) else (lt (nI (2 ^ g.2 4 i)) fun y16 => (f5_firstLetter (nI (g.2 5 i))).bind fun q17 => (f1_headsOf y16 q17).bind fun q18 => lt (sI z 1 ((z.1 1) ||| q18)) fun t19 => (if nI (lw (g.2 5 i)).length = 2 then ((f5_firstLetter (nI (g.2 5 i))).bind fun q22 => (f1_afterLetter y16 q22 t19).bind fun q23 => (f5_secondLetter (nI (g.2 5 i))).bind fun q24 => (f1_headsOf q23 q24).bind fun q25 => lt (sI t19 1 ((t19.1 1) ||| q25)) fun t26 => some t26) else (some t19)))))).bind fun v10 => some (0, (nI (i + 1), v10))) := by
        unfold f1_spread_L7
        dsimp only
        have hv : vin (nI i) 10 = true := by rw [vin_nI (by omega)]; exact decide_eq_true (by omega)
        have hcl : (nI i).toNatClampNeg = i := nI_clamp (by omega)
        rw [ht.2.1, if_neg (nI_ge hi (by omega))]
        simp only [hv, gd_t, hcl, lt_v]
        rw [t8 2 i hi (by omega) (by omega), t8 3 i hi (by omega) (by omega), t8 4 i hi (by omega) (by omega), t8 5 i hi (by omega) (by omega), hh, p5_lettersIn _ c4, shl_12 _ (by omega)]
        simp only [Option.bind_some, nI_1]
      by_cases qh : m1.testBit (4 * g.2 2 i + g.2 3 i) = true
      · have hd0 : HD g (g.2 2 i) (g.2 3 i) := z6 _ _ ⟨by omega, c2, qh⟩
        have hdr := (HD_clo g).2 i hi hd0
        rw [if_pos qh, if_neg (show ¬ nI 1 = (0 : Int32) by decide)] at sp
        have keepR : ∀ m2, subM m1 m2 → ∀ r, r < i → HM hm (g.2 2 r) (g.2 3 r) → HR g (HM m2) (g.2 4 r) (g.2 5 r) := fun m2 hsub r hr hM => HR_mono (fun p x h => ⟨h.1, h.2.1, hsub _ h.2.2⟩) (z7 r hr hM)
        cases e : lw (g.2 5 i) with
        | nil =>
          rw [e] at sp
          simp only [List.length_nil] at sp
          rw [if_pos (show nI 0 ≤ 0 by decide)] at sp
          simp only [Option.bind_some] at sp
          refine ⟨z, sp, z1, z2, m1, z3, z4, z5, z6, fun r hr hM => ?_⟩
          by_cases qr : r = i
          · subst qr; unfold HR; rw [e]; trivial
          · exact z7 r (by omega) hM
        | cons x l =>
          have hx : x < 4 := hl _ (by rw [e]; exact List.mem_cons_self)
          have f1 := p5_firstLetter (g.2 5 i) x l c4 e
          have bit1 : ∀ k, (hdo (2 ^ g.2 4 i) x 3).testBit k = true ↔ k = 4 * g.2 4 i + x := by
            intro k
            rw [hdo_b]
            constructor
            · rintro ⟨p, p1, p2, p3⟩
              rw [tb_pow, decide_eq_true_eq] at p2
              omega
            · intro h
              exact ⟨g.2 4 i, by omega, by rw [tb_pow, decide_eq_true_eq], h.symm⟩
          cases l with
          | nil =>
            rw [e] at sp
            simp only [List.length_cons, List.length_nil, Nat.zero_add, lt_v] at sp
            rw [if_neg (show ¬ nI 1 ≤ 0 by decide), f1] at sp
            simp only [Option.bind_some] at sp
            rw [p1_headsOf _ x hx] at sp
            simp only [Option.bind_some] at sp
            rw [if_neg (show ¬ nI 1 = 2 by decide), z3, nI_or] at sp
            simp only [Option.bind_some] at sp
            have hdx : HD g (g.2 4 i) x := by unfold HR at hdr; rw [e] at hdr; exact hdr
            refine ⟨_, sp, z1, fun k hk => by simp only [sI_1, sI_2, sA_1, sA_2, sR_1, sR_2, upd_at, sL_1, sL_2, rL_uL, updL_at, if_neg hk]; exact z2 k hk, m1 ||| hdo (2 ^ g.2 4 i) x 3, rfl, or_lt z4 (hdo_lt hx 3 (Nat.le_refl _)), fun k h => subM_or _ _ k (z5 k h), fun p x' h => ?_, fun r hr hM => ?_⟩
            · obtain ⟨a1, a2, a3⟩ := h
              rw [Nat.testBit_or, Bool.or_eq_true] at a3
              rcases a3 with a3 | a3
              · exact z6 p x' ⟨a1, a2, a3⟩
              · have := (bit1 _).mp a3
                have e1 : p = g.2 4 i := by omega
                have e2 : x' = x := by omega
                rw [e1, e2]; exact hdx
            · by_cases qr : r = i
              · subst qr
                unfold HR; rw [e]
                exact ⟨by omega, hx, by rw [Nat.testBit_or, Bool.or_eq_true]; exact Or.inr ((bit1 _).mpr rfl)⟩
              · exact keepR _ (subM_or _ _) r (by omega) hM
          | cons y l2 =>
            have hy : y < 4 := hl _ (by rw [e]; simp)
            have hl2 : l2 = [] := by
              have : (x :: y :: l2).length ≤ 2 := by rw [← e]; exact lw_len
              simp only [List.length_cons] at this
              exact List.length_eq_zero_iff.mp (by omega)
            subst hl2
            have f2 := p5_secondLetter (g.2 5 i) x y c4 e
            rw [e] at sp
            simp only [List.length_cons, List.length_nil, Nat.zero_add, lt_v] at sp
            rw [if_neg (show ¬ nI (1 + 1) ≤ 0 by decide), f1] at sp
            simp only [Option.bind_some] at sp
            rw [p1_headsOf _ x hx] at sp
            simp only [Option.bind_some] at sp
            rw [if_pos (show nI (1 + 1) = 2 from rfl), z3, nI_or, p1_afterLetter f _ x hx (sI z 1 (nI (m1 ||| hdo (2 ^ g.2 4 i) x 3))) (r0 (sI z 1 (nI (m1 ||| hdo (2 ^ g.2 4 i) x 3))) rfl), f2] at sp
            simp only [Option.bind_some] at sp
            rw [p1_headsOf _ y hy] at sp
            simp only [Option.bind_some] at sp
            have e11 : (sI z 1 (nI (m1 ||| hdo (2 ^ g.2 4 i) x 3))).1 1 = nI (m1 ||| hdo (2 ^ g.2 4 i) x 3) := rfl
            rw [e11, nI_or] at sp
            unfold HR at hdr
            rw [e] at hdr
            obtain ⟨hdx, hdy⟩ := hdr
            have bit2 : ∀ k, (hdo (afl f (2 ^ g.2 4 i) x 3) y 3).testBit k = true ↔ ∃ s, Pop g (g.2 4 i) x s ∧ k = 4 * s + y := by
              intro k
              rw [hdo_b]
              constructor
              · rintro ⟨p, p1, p2, p3⟩
                exact ⟨p, (hf _ _ _).mp ((afl_one (by omega) hx).mp p2), p3.symm⟩
              · rintro ⟨s, s1, s2⟩
                have := (Pop_lt hW s1).2.2
                exact ⟨s, by omega, (afl_one (by omega) hx).mpr ((hf _ _ _).mpr s1), s2.symm⟩
            refine ⟨_, sp, z1, fun k hk => by simp only [sI_1, sI_2, sA_1, sA_2, sR_1, sR_2, upd_at, sL_1, sL_2, rL_uL, updL_at, if_neg hk]; exact z2 k hk, (m1 ||| hdo (2 ^ g.2 4 i) x 3) ||| hdo (afl f (2 ^ g.2 4 i) x 3) y 3, rfl, or_lt (or_lt z4 (hdo_lt hx 3 (Nat.le_refl _))) (hdo_lt hy 3 (Nat.le_refl _)), fun k h => subM_or _ _ k (subM_or _ _ k (z5 k h)), fun p x' h => ?_, fun r hr hM => ?_⟩
            · obtain ⟨a1, a2, a3⟩ := h
              rw [Nat.testBit_or, Nat.testBit_or, Bool.or_eq_true, Bool.or_eq_true] at a3
              rcases a3 with (a3 | a3) | a3
              · exact z6 p x' ⟨a1, a2, a3⟩
              · have := (bit1 _).mp a3
                have e1 : p = g.2 4 i := by omega
                have e2 : x' = x := by omega
                rw [e1, e2]; exact hdx
              · obtain ⟨s, s1, s2⟩ := (bit2 _).mp a3
                have e1 : p = s := by omega
                have e2 : x' = y := by omega
                rw [e1, e2]; exact hdy s s1
            · by_cases qr : r = i
              · subst qr
                unfold HR; rw [e]
                refine ⟨⟨by omega, hx, ?_⟩, fun s hs => ⟨?_, hy, ?_⟩⟩
                · rw [Nat.testBit_or, Nat.testBit_or, (bit1 _).mpr rfl, Bool.or_true]; rfl
                · have := (Pop_lt hW hs).2.2
                  omega
                · rw [Nat.testBit_or, (bit2 _).mpr ⟨s, hs, rfl⟩, Bool.or_true]
              · exact keepR _ (fun k h => subM_or _ _ k (subM_or _ _ k h)) r (by omega) hM
      · rw [if_neg qh, if_pos z0] at sp
        simp only [Option.bind_some] at sp
        refine ⟨z, sp, z1, z2, m1, z3, z4, z5, z6, fun r hr hM => ?_⟩
        by_cases qr : r = i
        · subst qr
          exact absurd (z5 _ hM.2.2) qh
        · exact z7 r (by omega) hM)
  exact ⟨y, hm', e, y1, y2, y3, y4, y5, y6, y7⟩
end HEADS
