section RULES2
variable {ROK : ob → nb → Prop} {x sc now draft net paces route m : ob} {past saved : Nat → ob} {g : nb}
theorem isC_eq (y : Int32) : f5_isCost y = if y < 0 then some 0 else if nI 10 ≤ y then some 0 else some 1 := by
  unfold f5_isCost
  by_cases q : y < 0
  · rw [if_pos q, if_pos q]
  · rw [if_neg q, if_neg q]
    rcases xI y with h | ⟨a, ha, rfl⟩
    · exact absurd h q
    · by_cases q2 : 9 < a
      · rw [if_pos (show (9 : Int32) < nI a from nI_lt (a := 9) (b := a) q2 ha), if_pos (nI_le (by omega) ha)]
      · rw [if_neg (show ¬ (9 : Int32) < nI a from nI_nlt (a := 9) (b := a) (by omega) (by omega)), if_neg (nI_ge (by omega) (by omega))]
/-- the rules with one more -/
def adf (g : nb) (p y s w c : Nat) (k i : Nat) : Nat := if i = g.1 1 then (if k = 2 then p else if k = 3 then y else if k = 4 then s else if k = 5 then w else c) else g.2 k i
theorem ad_WF {g : nb} (hW : WF g) {p y s w c : Nat} (hp : p < g.1 0) (hy : y < 4) (hs : s < g.1 0) (hw : w < 21) (hc : c ≤ 9) (hR : g.1 1 < 10) : WF (ru g (g.1 1 + 1) (adf g p y s w c)) := by
  obtain ⟨w1, ⟨w2, w3, w4⟩, w5, w6⟩ := hW
  refine ⟨w1, ⟨fun r hr => ?_, by show g.1 1 + 1 ≤ 10; omega, fun r hr => ?_⟩, w5, w6⟩
  · have hr : r < g.1 1 + 1 := hr
    show adf g p y s w c 2 r < g.1 0 ∧ adf g p y s w c 3 r < 4 ∧ adf g p y s w c 4 r < g.1 0 ∧ adf g p y s w c 5 r < 21
    unfold adf
    by_cases q : r = g.1 1
    · simp only [if_pos q]
      exact ⟨hp, hy, hs, hw⟩
    · simp only [if_neg q]
      exact w2 r (by omega)
  · have hr : r < g.1 1 + 1 := hr
    show adf g p y s w c 6 r ≤ 9
    unfold adf
    by_cases q : r = g.1 1
    · simp only [if_pos q]
      exact hc
    · simp only [if_neg q]
      exact w4 r (by omega)
theorem p4_addRule {now : ob} (ht : TW now g) (hR : g.1 1 < 10) (p y s w c : Nat) : ∃ now', f4_addRule (nI p) (nI y) (nI s) (nI w) (nI c) now = some (1, now') ∧ TW now' (ru g (g.1 1 + 1) (adf g p y s w c)) := by
  have t1 := ht.2.1
  have t8 := ht.2.2.2.2.2.1
  refine ⟨sI (sA (sA (sA (sA (sA now 2 (g.1 1) (nI p)) 3 (g.1 1) (nI y)) 4 (g.1 1) (nI s)) 5 (g.1 1) (nI w)) 6 (g.1 1) (nI c)) 1 (nI (g.1 1 + 1)), ?_, ht.ru (fun k k1 => by simp only [sI_1, sI_2, sA_1, sA_2, sR_1, sR_2, upd_at, sL_1, sL_2, rL_uL, updL_at, if_neg k1]) (fun k hk => ?_) rfl (fun k r hr k2 k6 => ?_)⟩
  · unfold f4_addRule
    have hv : vin (nI (g.1 1)) 10 = true := by rw [vin_nI (by omega)]; exact decide_eq_true hR
    have hcl : (nI (g.1 1)).toNatClampNeg = g.1 1 := nI_clamp (by omega)
    rw [t1, if_pos (show nI (g.1 1) < 10 from nI_lt (a := g.1 1) (b := 10) hR (by decide))]
    simp only [lt_v, sA_1, t1, hv, gd_t, hcl, nI_1]
  · simp only [sI_1, sI_2, sA_1, sA_2, sR_1, sR_2, upd_at, sL_1, sL_2, rL_uL, updL_at]
    rw [if_neg (by omega), if_neg (by omega), if_neg (by omega), if_neg (by omega), if_neg (by omega)]
  · unfold adf
    rcases (show k = 2 ∨ k = 3 ∨ k = 4 ∨ k = 5 ∨ k = 6 by omega) with e | e | e | e | e <;> subst e
    · show (if r = g.1 1 then nI p else now.2 2 r) = nI (if r = g.1 1 then p else g.2 2 r)
      by_cases q : r = g.1 1
      · rw [if_pos q, if_pos q]
      · rw [if_neg q, if_neg q]; exact t8 2 r (by omega) k2 k6
    · show (if r = g.1 1 then nI y else now.2 3 r) = nI (if r = g.1 1 then y else g.2 3 r)
      by_cases q : r = g.1 1
      · rw [if_pos q, if_pos q]
      · rw [if_neg q, if_neg q]; exact t8 3 r (by omega) k2 k6
    · show (if r = g.1 1 then nI s else now.2 4 r) = nI (if r = g.1 1 then s else g.2 4 r)
      by_cases q : r = g.1 1
      · rw [if_pos q, if_pos q]
      · rw [if_neg q, if_neg q]; exact t8 4 r (by omega) k2 k6
    · show (if r = g.1 1 then nI w else now.2 5 r) = nI (if r = g.1 1 then w else g.2 5 r)
      by_cases q : r = g.1 1
      · rw [if_pos q, if_pos q]
      · rw [if_neg q, if_neg q]; exact t8 5 r (by omega) k2 k6
    · show (if r = g.1 1 then nI c else now.2 6 r) = nI (if r = g.1 1 then c else g.2 6 r)
      by_cases q : r = g.1 1
      · rw [if_pos q, if_pos q]
      · rw [if_neg q, if_neg q]; exact t8 6 r (by omega) k2 k6
theorem lw_len_eq (w : Nat) : (lw w).length = if w = 0 then 0 else if 5 ≤ w then 2 else 1 := by
  unfold lw
  by_cases q : w = 0
  · rw [if_pos q, if_pos q]; rfl
  · rw [if_neg q, if_neg q]
    by_cases q2 : w ≤ 4
    · rw [if_pos q2, if_neg (by omega)]; rfl
    · rw [if_neg q2, if_pos (by omega)]; rfl
def fstI (w : Nat) : Int32 := if w = 0 then -(nI 4) else if 5 ≤ w then nI ((w - 5) / 4) else nI (w - 1)
def sndI (w : Nat) : Int32 := if 5 ≤ w then nI ((w - 5) % 4) else -(nI 4)
theorem fs_ok {w j y : Nat} (h : (lw w)[j]? = some y) : (j = 0 ∧ fstI w = nI y) ∨ (j = 1 ∧ sndI w = nI y) := by
  unfold lw at h
  unfold fstI sndI
  by_cases q : w = 0
  · rw [if_pos q] at h; cases h
  · rw [if_neg q] at h ⊢
    by_cases q2 : w ≤ 4
    · rw [if_pos q2] at h
      rw [if_neg (by omega)]
      match j, h with
      | 0, h => exact Or.inl ⟨rfl, congrArg nI (Option.some.inj h)⟩
      | j + 1, h => cases h
    · rw [if_neg q2] at h
      rw [if_pos (by omega), if_pos (by omega)]
      match j, h with
      | 0, h => exact Or.inl ⟨rfl, congrArg nI (Option.some.inj h)⟩
      | 1, h => exact Or.inr ⟨rfl, congrArg nI (Option.some.inj h)⟩
      | j + 2, h => cases h
theorem fs_no {w j : Nat} (hj : j < 2) (h : (lw w).length ≤ j) : (j = 0 ∧ fstI w = -(nI 4)) ∨ (j = 1 ∧ sndI w = -(nI 4)) := by
  rw [lw_len_eq] at h
  unfold fstI sndI
  by_cases q : w = 0
  · rcases (show j = 0 ∨ j = 1 by omega) with e | e
    · exact Or.inl ⟨e, if_pos q⟩
    · exact Or.inr ⟨e, if_neg (by omega)⟩
  · rw [if_neg q] at h
    by_cases q2 : 5 ≤ w
    · rw [if_pos q2] at h; omega
    · rw [if_neg q2] at h
      exact Or.inr ⟨by omega, if_neg q2⟩
theorem p6_enters (hm : MW m g) (hR : g.1 1 < 10) (p y s w c : Nat) (hw : w < 21) : ∃ m', f6_enters (nI p) (nI y) (nI s) (nI w) (nI c) m = some m' ∧ MW m' (ru g (g.1 1 + 1) (adf g p y s w c)) ∧ (∀ k, k ≠ 1 → m'.1 k = m.1 k) ∧ ∀ k, k ≠ 2 → m'.2 k = m.2 k := by
  have m1 := hm.2.2.1
  obtain ⟨a, ha⟩ : ∃ a, a = 7 * g.1 1 := ⟨_, rfl⟩
  have e7 : (7 : Int32) * nI (g.1 1) = nI a := by rw [show (7 : Int32) = nI 7 from rfl, nI_mul, ha]
  have v1 : (if nI w = 0 then some (0 : Int32) else (if 5 ≤ nI w then some 2 else some 1)) = some (nI (lw w).length) := by
    rw [lw_len_eq]
    by_cases q : w = 0
    · rw [if_pos (by rw [q]; rfl), if_pos q]; rfl
    · rw [if_neg (show ¬ nI w = (0 : Int32) from fun h => q ((nI_eq (b := 0) (by omega) (by decide)).mp h)), if_neg q]
      by_cases q2 : 5 ≤ w
      · rw [if_pos (show (5 : Int32) ≤ nI w from nI_le (a := 5) q2 (by omega)), if_pos q2]; rfl
      · rw [if_neg (show ¬ (5 : Int32) ≤ nI w from nI_ge (b := 5) (by omega) (by decide)), if_neg q2]; rfl
  have v2 : (if nI w = 0 then some (-4 : Int32) else (if 5 ≤ nI w then some ((nI w - 5) / 4) else some (nI w - 1))) = some (fstI w) := by
    unfold fstI
    by_cases q : w = 0
    · rw [if_pos (by rw [q]; rfl), if_pos q]; rfl
    · rw [if_neg (show ¬ nI w = (0 : Int32) from fun h => q ((nI_eq (b := 0) (by omega) (by decide)).mp h)), if_neg q]
      by_cases q2 : 5 ≤ w
      · rw [if_pos (show (5 : Int32) ≤ nI w from nI_le (a := 5) q2 (by omega)), if_pos q2, show nI w - 5 = nI (w - 5) from nI_sub (b := 5) q2, show (4 : Int32) = nI 4 from rfl, idiv_nI (by omega) (by omega)]
      · rw [if_neg (show ¬ (5 : Int32) ≤ nI w from nI_ge (b := 5) (by omega) (by decide)), if_neg q2, show nI w - 1 = nI (w - 1) from nI_sub (b := 1) (by omega)]
  have v3 : (if 5 ≤ nI w then some ((nI w - 5) - (nI w - 5) / 4 * 4) else some (-4 : Int32)) = some (sndI w) := by
    unfold sndI
    by_cases q2 : 5 ≤ w
    · rw [if_pos (show (5 : Int32) ≤ nI w from nI_le (a := 5) q2 (by omega)), if_pos q2, show nI w - 5 = nI (w - 5) from nI_sub (b := 5) q2, show (4 : Int32) = nI 4 from rfl, irem_nI (by omega) (by omega)]
    · rw [if_neg (show ¬ (5 : Int32) ≤ nI w from nI_ge (b := 5) (by omega) (by decide)), if_neg q2]; rfl
  have u : ∃ u, sA (sA (sA (sA (sA (sA (sA m 2 a (nI p)) 2 (a + 1) (nI y)) 2 (a + 2) (nI s)) 2 (a + 3) (nI (lw w).length)) 2 (a + 4) (fstI w)) 2 (a + 5) (sndI w)) 2 (a + 6) (nI c) = u := ⟨_, rfl⟩
  obtain ⟨u, hu⟩ := u
  have u1 : u.1 = m.1 := by rw [← hu]; rfl
  have u2 : ∀ k, k ≠ 2 → u.2 k = m.2 k := fun k hk => by rw [← hu]; simp only [sI_1, sI_2, sA_1, sA_2, sR_1, sR_2, upd_at, sL_1, sL_2, rL_uL, updL_at, if_neg hk]
  have uR : ∀ j, u.2 2 j = if j = a + 6 then nI c else if j = a + 5 then sndI w else if j = a + 4 then fstI w else if j = a + 3 then nI (lw w).length else if j = a + 2 then nI s else if j = a + 1 then nI y else if j = a then nI p else m.2 2 j := fun j => by rw [← hu]; rfl
  have low : ∀ j, j < a → u.2 2 j = m.2 2 j := fun j hj => by
    rw [uR, if_neg (by omega), if_neg (by omega), if_neg (by omega), if_neg (by omega), if_neg (by omega), if_neg (by omega), if_neg (by omega)]
  have adO : ∀ k r, r ≠ g.1 1 → adf g p y s w c k r = g.2 k r := fun k r hr => if_neg hr
  have adN : ∀ k r, r = g.1 1 → adf g p y s w c k r = if k = 2 then p else if k = 3 then y else if k = 4 then s else if k = 5 then w else c := fun k r hr => if_pos hr
  refine ⟨sI u 1 (nI (g.1 1 + 1)), ?_, hm.ru (fun k _ k1 => by simp only [sI_1, sI_2, sA_1, sA_2, sR_1, sR_2, upd_at, sL_1, sL_2, rL_uL, updL_at, if_neg k1, u1]) (fun k _ k1 => u2 k k1) rfl (fun r hr => ?_) (fun r hr j hj hl => ?_), fun k k1 => by simp only [sI_1, sI_2, sA_1, sA_2, sR_1, sR_2, upd_at, sL_1, sL_2, rL_uL, updL_at, if_neg k1, u1], u2⟩
  · unfold f6_enters
    rw [m1, e7]
    simp only [lt_v]
    rw [nI_1, show nI a + 2 = nI (a + 2) from nI_add a 2, show nI a + 3 = nI (a + 3) from nI_add a 3, show nI a + 4 = nI (a + 4) from nI_add a 4, show nI a + 5 = nI (a + 5) from nI_add a 5, show nI a + 6 = nI (a + 6) from nI_add a 6, v1]
    simp only [Option.bind_some]
    rw [v2]
    simp only [Option.bind_some]
    rw [v3]
    simp only [Option.bind_some]
    rw [vin_nI (by omega), gd_p (show a < 70 by omega), vin_nI (by omega), gd_p (show a + 1 < 70 by omega), vin_nI (by omega), gd_p (show a + 2 < 70 by omega), vin_nI (by omega), gd_p (show a + 3 < 70 by omega), vin_nI (by omega), gd_p (show a + 4 < 70 by omega), vin_nI (by omega), gd_p (show a + 5 < 70 by omega), vin_nI (by omega), gd_p (show a + 6 < 70 by omega), nI_clamp (by omega), nI_clamp (by omega), nI_clamp (by omega), nI_clamp (by omega), nI_clamp (by omega), nI_clamp (by omega), nI_clamp (by omega), hu, u1, m1, nI_1]
  · show u.2 2 (7 * r) = _ ∧ u.2 2 (7 * r + 1) = _ ∧ u.2 2 (7 * r + 2) = _ ∧ u.2 2 (7 * r + 3) = _ ∧ (∀ j x, (lw (adf g p y s w c 5 r))[j]? = some x → u.2 2 (7 * r + 4 + j) = nI x) ∧ u.2 2 (7 * r + 6) = _
    by_cases q : r = g.1 1
    · have q7 : 7 * r = a := by rw [q, ha]
      rw [adN 2 r q, adN 3 r q, adN 4 r q, adN 5 r q, adN 6 r q, q7]
      refine ⟨?_, ?_, ?_, ?_, fun j x hj => ?_, ?_⟩
      · rw [uR, if_neg (by omega), if_neg (by omega), if_neg (by omega), if_neg (by omega), if_neg (by omega), if_neg (by omega), if_pos rfl]; rfl
      · rw [uR, if_neg (by omega), if_neg (by omega), if_neg (by omega), if_neg (by omega), if_neg (by omega), if_pos rfl]; rfl
      · rw [uR, if_neg (by omega), if_neg (by omega), if_neg (by omega), if_neg (by omega), if_pos rfl]; rfl
      · rw [uR, if_neg (by omega), if_neg (by omega), if_neg (by omega), if_pos rfl]; rfl
      · rcases fs_ok (w := w) hj with ⟨e, h⟩ | ⟨e, h⟩ <;> subst e
        · rw [uR, if_neg (by omega), if_neg (by omega), if_pos (by omega)]; exact h
        · rw [uR, if_neg (by omega), if_pos (by omega)]; exact h
      · rw [uR, if_pos rfl]; rfl
    · have hr : r < g.1 1 + 1 := hr
      obtain ⟨a1, a2, a3, a4, a5, a6⟩ := hm.2.1 r (by omega)
      have l2 := lw_len (w := g.2 5 r)
      rw [adO 2 r q, adO 3 r q, adO 4 r q, adO 5 r q, adO 6 r q]
      refine ⟨?_, ?_, ?_, ?_, fun j x hj => ?_, ?_⟩
      · rw [low _ (by omega)]; exact a1
      · rw [low _ (by omega)]; exact a2
      · rw [low _ (by omega)]; exact a3
      · rw [low _ (by omega)]; exact a4
      · have := (List.getElem?_eq_some_iff.mp hj).1
        rw [low _ (by omega)]; exact a5 j x hj
      · rw [low _ (by omega)]; exact a6
  · show u.2 2 (7 * r + 4 + j) = _
    by_cases q : r = g.1 1
    · have q7 : 7 * r = a := by rw [q, ha]
      rw [adN 5 r q] at hl
      rw [q7]
      rcases fs_no (w := w) hj hl with ⟨e, h⟩ | ⟨e, h⟩ <;> subst e
      · rw [uR, if_neg (by omega), if_neg (by omega), if_pos (by omega)]; exact h
      · rw [uR, if_neg (by omega), if_pos (by omega)]; exact h
    · have hr : r < g.1 1 + 1 := hr
      rw [adO 5 r q] at hl
      rw [low _ (by omega)]
      exact hm.2.2.2.2.2.2.2.1 r (by omega) j hj hl
theorem eq_enter (H : RG ROK x sc now draft past saved net paces route m g) (x0 x1 x2 x3 x4 : Int32) : CHG ROK sc draft saved net paces route (f5_enter x0 x1 x2 x3 x4 x now past) (f6_enter x0 x1 x2 x3 x4 m) := by
  have H2 := H
  obtain ⟨hW, ht, hm, -, hP, -⟩ := H2
  have h10 := hW.2.1.2.1
  have h3 := hW.1.2.1
  have bad : f5_enter x0 x1 x2 x3 x4 x now past = some (-1, x, now, past) → f6_enter x0 x1 x2 x3 x4 m = some (-1, m) → CHG ROK sc draft saved net paces route (f5_enter x0 x1 x2 x3 x4 x now past) (f6_enter x0 x1 x2 x3 x4 m) := fun a b => CHG.no H a b
  by_cases i0 : IN x0 (g.1 0)
  · obtain ⟨p, hp, rfl⟩ := i0
    have a5 : f5_enter (nI p) x1 x2 x3 x4 x now past = (f5_isLetter x1).bind fun q3 => (if q3 = 0 then (some ((-1), x, now, past)) else ((f5_isState x2 x now).bind fun q5 => (if q5 = 0 then (some ((-1), x, now, past)) else ((if x3 < 0 then (some ((-1), x, now, past)) else ((if 21 ≤ x3 then (some ((-1), x, now, past)) else ((f5_isCost x4).bind fun q9 => (if q9 = 0 then (some ((-1), x, now, past)) else ((if (now.1 1) < 10 then ((f5_remember x now past).bind fun q12 => (f4_addRule (nI p) x1 x2 x3 x4 now).bind fun q13 => (f5_noteNewRules q12.1).bind fun q14 => some ((q13.2.1 1) - 1, q14, q13.2, q12.2)) else (some ((-3), x, now, past))))))))))))) := by
      unfold f5_enter
      rw [c5S_y ht hp h3]
      simp only [Option.bind_some]
      rw [if_neg z1]
    have a6 : f6_enter (nI p) x1 x2 x3 x4 m = (f6_isLetter x1).bind fun q3 => (if q3 = 0 then (some ((-1), m)) else ((f6_isState x2 m).bind fun q5 => (if q5 = 0 then (some ((-1), m)) else ((f6_in x3 0 20).bind fun q7 => (if q7 = 0 then (some ((-1), m)) else ((f6_in x4 0 9).bind fun q9 => (if q9 = 0 then (some ((-1), m)) else ((if (m.1 1) = 10 then (some ((-3), m)) else ((f6_notes m).bind fun q12 => (f6_enters (nI p) x1 x2 x3 x4 q12).bind fun q13 => some ((q13.1 1) - 1, q13))))))))))) := by
      unfold f6_enter
      rw [c6S_y hm hp h3]
      simp only [Option.bind_some]
      rw [if_neg z1]
    by_cases i1 : IN x1 4
    · obtain ⟨y, hy, rfl⟩ := i1
      rw [c5L_y hy] at a5
      rw [c6L_y hy] at a6
      simp only [Option.bind_some] at a5 a6
      rw [if_neg z1] at a5 a6
      by_cases i2 : IN x2 (g.1 0)
      · obtain ⟨s, hs, rfl⟩ := i2
        rw [c5S_y ht hs h3] at a5
        rw [c6S_y hm hs h3] at a6
        simp only [Option.bind_some] at a5 a6
        rw [if_neg z1] at a5 a6
        by_cases i3 : IN x3 21
        · obtain ⟨w, hw, rfl⟩ := i3
          rw [if_neg (nn0 (by omega)), if_neg (show ¬ (21 : Int32) ≤ nI w from nI_ge (a := w) (b := 21) hw (by decide))] at a5
          rw [show (20 : Int32) = nI 21 - 1 from rfl, rin_y hw (by decide)] at a6
          simp only [Option.bind_some] at a6
          rw [if_neg z1] at a6
          by_cases i4 : IN x4 10
          · obtain ⟨c, hc, rfl⟩ := i4
            rw [isC_eq, cin_y hc (by decide)] at a5
            rw [show (9 : Int32) = nI 10 - 1 from rfl, rin_y hc (by decide)] at a6
            simp only [Option.bind_some] at a5 a6
            rw [if_neg z1] at a5 a6
            have t1 := ht.2.1
            have m1 := hm.2.2.1
            rw [t1] at a5
            rw [m1] at a6
            by_cases q : g.1 1 = 10
            · rw [if_neg (show ¬ nI (g.1 1) < 10 from nI_nlt (a := g.1 1) (b := 10) (by omega) (by omega))] at a5
              rw [if_pos (show nI (g.1 1) = 10 by rw [q]; rfl)] at a6
              exact CHG.no H a5 a6
            · obtain ⟨x', past', m1', ex, em, n1, n2, n3, n4, n5, n6⟩ := note hW ht hm hP
              have h1m : MW m1' g := hm.cg (fun k hk => n5 k (by omega)) (fun k hk => n6 k (by omega))
              obtain ⟨x2, e2, c9, c11, c14, cx, -⟩ := c_noteNew x'
              obtain ⟨now', en, tn⟩ := p4_addRule ht (by omega) p y s w c
              obtain ⟨m', e6, tm, mi, mr⟩ := p6_enters h1m (by omega) p y s w c hw
              rw [if_pos (show nI (g.1 1) < 10 from nI_lt (a := g.1 1) (b := 10) (by omega) (by decide)), ex] at a5
              simp only [Option.bind_some] at a5
              rw [en] at a5
              simp only [Option.bind_some] at a5
              rw [e2] at a5
              simp only [Option.bind_some] at a5
              rw [if_neg (show ¬ nI (g.1 1) = 10 from fun h => q ((nI_eq (b := 10) (by omega) (by decide)).mp h)), em] at a6
              simp only [Option.bind_some] at a6
              rw [e6] at a6
              simp only [Option.bind_some] at a6
              have k1 : now'.1 1 = nI (g.1 1 + 1) := tn.2.1
              have k2 : m'.1 1 = nI (g.1 1 + 1) := tm.2.2.1
              rw [k1] at a5
              rw [k2] at a6
              exact ⟨_, x2, now', past', m', _, a5, a6, H.rul n1 n3 n5 n6 c9 c11 c14 cx (ru_ST g _ _) (ad_WF hW hp hy hs hw (by omega) (by omega)) tn tm (fun k k1 _ => mi k k1) mr⟩
          · rw [isC_eq, cin_n i4 (by decide)] at a5
            rw [show (9 : Int32) = nI 10 - 1 from rfl, rin_n i4 (by decide)] at a6
            simp only [Option.bind_some] at a5 a6
            rw [if_pos z0] at a5 a6
            exact bad a5 a6
        · rw [show (20 : Int32) = nI 21 - 1 from rfl, rin_n i3 (by decide)] at a6
          simp only [Option.bind_some] at a6
          rw [if_pos z0] at a6
          refine bad ?_ a6
          rcases out i3 with h | ⟨a, h1, h2, rfl⟩
          · rw [a5, if_pos h]
          · rw [a5, if_neg (nn0 h1), if_pos (show (21 : Int32) ≤ nI a from nI_le (a := 21) h2 h1)]
      · rw [c5S_n ht i2 h3] at a5
        rw [c6S_n hm i2 h3] at a6
        simp only [Option.bind_some] at a5 a6
        rw [if_pos z0] at a5 a6
        exact bad a5 a6
    · rw [c5L_n i1] at a5
      rw [c6L_n i1] at a6
      simp only [Option.bind_some] at a5 a6
      rw [if_pos z0] at a5 a6
      exact bad a5 a6
  · refine bad ?_ ?_
    · unfold f5_enter
      rw [c5S_n ht i0 h3]
      simp only [Option.bind_some]
      rw [if_pos z0]
    · unfold f6_enter
      rw [c6S_n hm i0 h3]
      simp only [Option.bind_some]
      rw [if_pos z0]
end RULES2
