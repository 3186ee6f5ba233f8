/-! stuck -/
theorem bitc : ∀ a, a < 8 → fj6_bitCount_0f7a4 (nI a) = some (nI ((if a.testBit 0 = true then 1 else 0) + (if a.testBit 1 = true then 1 else 0) + (if a.testBit 2 = true then 1 else 0))) := by decide +kernel
def cntP (g : nb) (p x : Nat) : Nat → Nat → Nat
  | _, 0 => 0
  | r, k + 1 => (if g.2 2 r = p ∧ g.2 3 r = x then 1 else 0) + cntP g p x (r + 1) k
theorem cntP_s (g : nb) (p x r k : Nat) : cntP g p x r (k + 1) = (if g.2 2 r = p ∧ g.2 3 r = x then 1 else 0) + cntP g p x (r + 1) k := rfl
theorem cntP_le (g : nb) (p x : Nat) : ∀ r k, cntP g p x r k ≤ k
  | _, 0 => Nat.le_refl 0
  | r, k + 1 => by
    have := cntP_le g p x (r + 1) k
    rw [cntP_s]
    split <;> omega
theorem k4_cntP {g : nb} (hW : WF g) {p x : Nat} (hp : p < 3) (hx : x < 4) (d : ob) (hd : TW d g) : ∀ k r c, r + k = g.1 1 → c ≤ r → wh (f4_rulesFor_L5 (nI p) (nI x) d) (nI c, nI r) = some (1, (nI (c + cntP g p x r k), nI (g.1 1)))
  | 0, r, c, e, _ => by
    have h10 := hW.2.1.2.1
    apply wh_off
    unfold f4_rulesFor_L5
    dsimp only
    rw [hd.2.1, if_pos (nI_le (by omega) (by omega)), show r = g.1 1 by omega]
    rfl
  | k + 1, r, c, e, hc => by
    have h10 := hW.2.1.2.1
    have hr : r < g.1 1 := by omega
    obtain ⟨a1, a2, a3, a4⟩ := hW.2.1.1 r hr
    have h3 := hW.1.2.1
    have d2 := hd.2.2.2.2.2.1 2 r hr (by omega) (by omega)
    have d3 := hd.2.2.2.2.2.1 3 r hr (by omega) (by omega)
    have st : f4_rulesFor_L5 (nI p) (nI x) d (nI c, nI r) = some (0, (nI (c + if g.2 2 r = p ∧ g.2 3 r = x then 1 else 0), nI (r + 1))) := by
      unfold f4_rulesFor_L5
      dsimp only
      rw [hd.2.1, if_neg (nI_ge hr (by omega)), vin_nI (by omega), gd_p (show r < 10 by omega), gd_p (show r < 10 by omega), nI_clamp (by omega), d2, d3]
      by_cases q1 : g.2 2 r = p
      · by_cases q2 : g.2 3 r = x
        · rw [if_pos (by rw [q1]), if_pos (by rw [q2]), if_pos ⟨q1, q2⟩]
          simp only [Option.bind_some, lt_v]
          rw [nI_1, nI_1]
        · rw [if_pos (by rw [q1]), if_neg (fun h => q2 ((nI_eq (by omega) (by omega)).mp h)), if_neg (fun h => q2 h.2)]
          simp only [Option.bind_some, lt_v]
          rw [nI_1]
          rfl
      · rw [if_neg (fun h => q1 ((nI_eq (by omega) (by omega)).mp h)), if_neg (fun h => q1 h.1)]
        simp only [Option.bind_some, lt_v]
        rw [nI_1]
        rfl
    rw [wh_on st, k4_cntP hW hp hx d hd k (r + 1) _ (by omega) (by split <;> omega)]
    rw [cntP_s, Nat.add_assoc]
theorem k6_fl {g : nb} (hW : WF g) {p x : Nat} (hp : p < 3) (hx : x < 4) (m : ob) (hm : MW m g) : ∀ k r fl, r + k = g.1 1 → fl ≤ 1 → wh (f6_stuck_L42 m (nI (4 * p + x))) (nI fl, nI r) = some (1, (nI (if fl = 1 then 1 else if cntP g p x r k = 0 then 0 else 1), nI (g.1 1)))
  | 0, r, fl, e, hf => by
    have h10 := hW.2.1.2.1
    apply wh_off
    unfold f6_stuck_L42
    dsimp only
    rw [hm.2.2.1, if_pos (nI_le (by omega) (by omega)), show r = g.1 1 by omega]
    have : (if fl = 1 then 1 else if cntP g p x (g.1 1) 0 = 0 then 0 else 1) = fl := by
      by_cases q : fl = 1
      · rw [if_pos q, q]
      · rw [if_neg q, show cntP g p x (g.1 1) 0 = 0 from rfl, if_pos rfl]; omega
    rw [this]
  | k + 1, r, fl, e, hf => by
    have h10 := hW.2.1.2.1
    have hr : r < g.1 1 := by omega
    have h3 := hW.1.2.1
    have st : f6_stuck_L42 m (nI (4 * p + x)) (nI fl, nI r) = some (0, (nI (if fl = 1 then 1 else if g.2 2 r = p ∧ g.2 3 r = x then 1 else 0), nI (r + 1))) := by
      unfold f6_stuck_L42
      dsimp only
      rw [hm.2.2.1, if_neg (nI_ge hr (by omega))]
      by_cases q : fl = 1
      · rw [if_neg (show ¬ nI fl = 0 by rw [q]; decide), if_pos q]
        simp only [Option.bind_some, lt_v]
        rw [nI_1]
        rfl
      · rw [if_pos (show nI fl = 0 by rw [show fl = 0 by omega]; rfl), if_neg q, show (4 : Int32) = nI 4 from rfl, idiv_nI (by omega) (by decide), nI_mul, nI_sub (by omega), show (4 * p + x) / 4 = p by omega, show 4 * p + x - p * 4 = x by omega, p6_fits hW hr (by omega) (by omega) m hm]
        simp only [Option.bind_some, lt_v]
        by_cases q1 : g.2 2 r = p ∧ g.2 3 r = x
        · rw [if_pos q1, if_neg z1, if_pos q1]
          simp only [Option.bind_some]
          rw [nI_1]
          rfl
        · rw [if_neg q1, if_pos z0, if_neg q1]
          simp only [Option.bind_some]
          rw [nI_1]
          rfl
    rw [wh_on st, k6_fl hW hp hx m hm k (r + 1) _ (by omega) (by split; omega; split <;> omega)]
    have : (if (if fl = 1 then 1 else if g.2 2 r = p ∧ g.2 3 r = x then 1 else 0) = 1 then 1 else if cntP g p x (r + 1) k = 0 then 0 else 1) = (if fl = 1 then 1 else if cntP g p x r (k + 1) = 0 then 0 else 1) := by
      rw [cntP_s]
      by_cases q : fl = 1
      · rw [if_pos q, if_pos q, if_pos rfl]
      · rw [if_neg q, if_neg q]
        by_cases q1 : g.2 2 r = p ∧ g.2 3 r = x
        · rw [if_pos q1, if_pos rfl, if_neg (by omega)]
        · rw [if_neg q1, if_neg (by omega), Nat.zero_add]
    rw [this]
def sm (f : Nat → Nat) (a : Nat) : Nat → Nat
  | 0 => 0
  | n + 1 => sm f a n + f (a + n)
theorem sm_add (f : Nat → Nat) (a : Nat) : ∀ n, sm f 0 (a + n) = sm f 0 a + sm f a n
  | 0 => rfl
  | n + 1 => by
    show sm f 0 (a + n) + f (0 + (a + n)) = _
    rw [sm_add f a n, Nat.zero_add, Nat.add_assoc]
    rfl
def stk (g : nb) (hm h : Nat) : Nat := if hm.testBit h = true ∧ cntP g (h / 4) (h % 4) 0 (g.1 1) = 0 then 1 else 0
theorem k5_stuck {g : nb} (hW : WF g) (now : ob) (ht : TW now g) (o : ob) (hm : Nat) (h1 : o.1 1 = nI hm) (c0 : Nat) : wh (f5_stuck_L24 now o) (nI c0, nI 0) = some (1, (nI (c0 + sm (stk g hm) 0 (4 * g.1 0)), nI (g.1 0))) := by
  have h10 := hW.2.1.2.1
  have h3 := hW.1.2.1
  obtain ⟨b, e, hb⟩ := wh_fr (st := f5_stuck_L24 now o) (fun i (b : Int32) => (b, nI i)) (g.1 0) (fun i b => b = nI (c0 + sm (stk g hm) 0 (4 * i))) (b0 := nI c0) rfl
    (by
      intro b _
      unfold f5_stuck_L24
      dsimp only
      rw [ht.1.1, if_pos (nI_le (by omega) (by omega))])
    (by
      rintro i b hi rfl
      obtain ⟨b2, e2, hb2⟩ := wh_fr (st := f5_stuck_L37 now o (nI i)) (fun j (b : Int32) => (b, nI j)) 4 (fun j b => b = nI (c0 + sm (stk g hm) 0 (4 * i) + sm (stk g hm) (4 * i) j)) (b0 := nI (c0 + sm (stk g hm) 0 (4 * i))) rfl
        (by
          intro b _
          unfold f5_stuck_L37
          dsimp only
          rw [if_pos (by decide)])
        (by
          rintro j b hj rfl
          refine ⟨_, ?_, rfl⟩
          have hh : f1_hasHead (nI i) (nI j) o = some (if hm.testBit (4 * i + j) = true then nI 1 else nI 0) := by
            unfold f1_hasHead
            have e4 : nI i * 4 + nI j = nI (4 * i + j) := by
              rw [show (4 : Int32) = nI 4 from rfl, nI_mul, nI_add]
              exact congrArg nI (by omega)
            rw [h1, e4, tst (by omega)]
            by_cases q : hm.testBit (4 * i + j) = true
            · rw [if_pos q, if_pos (show nI 1 = (1 : Int32) from rfl)]; rfl
            · rw [if_neg q, if_neg (show ¬ nI 0 = (1 : Int32) by decide)]; rfl
          have rf : f4_rulesFor (nI i) (nI j) now = some (nI (cntP g i j 0 (g.1 1))) := by
            have a1 : wh (f4_rulesFor_L5 (nI i) (nI j) now) (0, 0) = _ := k4_cntP hW (p := i) (x := j) (by omega) hj now ht (g.1 1) 0 0 (by omega) (Nat.le_refl 0)
            unfold f4_rulesFor
            rw [a1, Nat.zero_add]
            rfl
          have hc := cntP_le g i j 0 (g.1 1)
          have es : sm (stk g hm) (4 * i) (j + 1) = sm (stk g hm) (4 * i) j + stk g hm (4 * i + j) := rfl
          have ek : stk g hm (4 * i + j) = if hm.testBit (4 * i + j) = true ∧ cntP g i j 0 (g.1 1) = 0 then 1 else 0 := by
            unfold stk
            rw [show (4 * i + j) / 4 = i by omega, show (4 * i + j) % 4 = j by omega]
          unfold f5_stuck_L37
          dsimp only
          rw [if_neg (show ¬ (4 : Int32) ≤ nI j from nI_ge (a := j) (b := 4) hj (by decide)), hh, es, ek]
          simp only [Option.bind_some, lt_v]
          by_cases q : hm.testBit (4 * i + j) = true
          · rw [if_pos q, if_neg z1, rf]
            simp only [Option.bind_some]
            by_cases q2 : cntP g i j 0 (g.1 1) = 0
            · rw [if_pos (show nI (cntP g i j 0 (g.1 1)) = 0 by rw [q2]; rfl), if_pos ⟨q, q2⟩]
              simp only [Option.bind_some]
              rw [nI_1, nI_1]
              rfl
            · rw [if_neg (nIz (by omega) q2), if_neg (fun h => q2 h.2)]
              simp only [Option.bind_some]
              rw [nI_1]
              rfl
          · rw [if_neg q, if_pos z0, if_neg (fun h => q h.1)]
            simp only [Option.bind_some]
            rw [nI_1]
            rfl)
      refine ⟨_, ?_, rfl⟩
      have e2 : wh (f5_stuck_L37 now o (nI i)) (nI (c0 + sm (stk g hm) 0 (4 * i)), 0) = some (1, (b2, nI 4)) := e2
      unfold f5_stuck_L24
      dsimp only
      rw [ht.1.1, if_neg (nI_ge hi (by omega)), e2]
      simp only [Option.bind_some, lt_v]
      rw [hb2, nI_1, show 4 * (i + 1) = 4 * i + 4 by omega, sm_add, Nat.add_assoc])
  rw [e, hb]
theorem k6_stuck {g : nb} (hW : WF g) (m : ob) (hm : MW m g) (hmk : Nat) (hb : Nat → Nat) (h26 : ∀ k, k < 12 → m.2 26 k = nI (hb k)) (h01 : b01 hb 12) (heq : ∀ k, k < 4 * g.1 0 → (hmk.testBit k = true ↔ hb k = 1)) (c0 : Nat) : wh (f6_stuck_L27 m) (nI c0, nI 0) = some (1, (nI (c0 + sm (stk g hmk) 0 (4 * g.1 0)), nI (4 * g.1 0))) := by
  have h10 := hW.2.1.2.1
  have h3 := hW.1.2.1
  have e40 : (4 : Int32) * m.1 0 = nI (4 * g.1 0) := by rw [hm.1.1, show (4 : Int32) = nI 4 from rfl, nI_mul]
  obtain ⟨b, e, he⟩ := wh_fr (st := f6_stuck_L27 m) (fun i (b : Int32) => (b, nI i)) (4 * g.1 0) (fun i b => b = nI (c0 + sm (stk g hmk) 0 i)) (b0 := nI c0) rfl
    (by
      intro b _
      unfold f6_stuck_L27
      dsimp only
      rw [e40, if_pos (nI_le (by omega) (by omega))])
    (by
      rintro i b hi rfl
      refine ⟨_, ?_, rfl⟩
      have fl : wh (f6_stuck_L42 m (nI i)) (0, 0) = some (1, (nI (if cntP g (i / 4) (i % 4) 0 (g.1 1) = 0 then 0 else 1), nI (g.1 1))) := by
        have := k6_fl hW (p := i / 4) (x := i % 4) (by omega) (by omega) m hm (g.1 1) 0 0 (by omega) (by omega)
        rw [show 4 * (i / 4) + i % 4 = i by omega] at this
        exact this
      have es : sm (stk g hmk) 0 (i + 1) = sm (stk g hmk) 0 i + stk g hmk i := by
        show sm (stk g hmk) 0 i + stk g hmk (0 + i) = _
        rw [Nat.zero_add]
      unfold f6_stuck_L27
      dsimp only
      rw [e40, if_neg (nI_ge hi (by omega)), fl]
      simp only [Option.bind_some, lt_v]
      rw [vin_nI (by omega), gd_p (show i < 12 by omega), nI_clamp (by omega), h26 i (by omega), es]
      unfold stk
      by_cases q : hb i = 1
      · rw [if_pos (show nI (hb i) = 1 by rw [q]; rfl)]
        by_cases q2 : cntP g (i / 4) (i % 4) 0 (g.1 1) = 0
        · rw [if_pos q2, if_pos z0, if_pos ⟨(heq i hi).mpr q, q2⟩]
          simp only [Option.bind_some]
          rw [nI_1, nI_1]
          rfl
        · rw [if_neg q2, if_neg z1, if_neg (fun h => q2 h.2)]
          simp only [Option.bind_some]
          rw [nI_1, show (0 : Int32) = nI 0 from rfl, nI_add]
          rfl
      · have : hb i = 0 := by
          rcases h01 i (by omega) with h | h
          · exact h
          · exact absurd h q
        rw [if_neg (show ¬ nI (hb i) = 1 by rw [this]; decide), if_neg (fun h => q ((heq i hi).mp h.1))]
        simp only [Option.bind_some]
        rw [nI_1, show (0 : Int32) = nI 0 from rfl, nI_add]
        rfl)
  rw [e, he]
section STUCK
variable {ROK : ob → nb → Prop} {x sc now draft net paces route m : ob} {past saved : Nat → ob} {g : nb}
theorem rq_stuck (H : RG ROK x sc now draft past saved net paces route m g) (reach : ob) : ∃ ans reach' m', f5_stuck x now reach = some (ans, reach') ∧ f6_stuck m = some (ans, m') ∧ RG ROK x sc now draft past saved net paces route m' g := by
  have H2 := H
  obtain ⟨hW, ht, hm, -⟩ := H2
  have h3 := hW.1.2.1
  obtain ⟨o', hmk, a, eo, o1, o2, -, a8, ob, oh⟩ := p1_explore hW now ht reach
  obtain ⟨m', a', hb, em, km, -, m27, m26, m01, mb, mh⟩ := p6_setHeads hW m hm
  have ea := bt_eq hW ob mb
  subst ea
  have hm' := (H.askH km).2.2.1
  have eqv : ∀ k, k < 4 * g.1 0 → (hmk.testBit k = true ↔ hb k = 1) := by
    intro k hk
    have e : 4 * (k / 4) + k % 4 = k := by omega
    constructor
    · intro h
      have := ((mh (k / 4) (k % 4)).mpr ((oh (k / 4) (k % 4)).mp ⟨by omega, by omega, by rw [e]; exact h⟩)).2.2
      rw [e] at this
      exact this
    · intro h
      have := ((oh (k / 4) (k % 4)).mpr ((mh (k / 4) (k % 4)).mp ⟨by omega, by omega, by rw [e]; exact h⟩)).2.2
      rw [e] at this
      exact this
  refine ⟨nI ((if a.testBit 0 = true then 1 else 0) + (if a.testBit 1 = true then 1 else 0) + (if a.testBit 2 = true then 1 else 0) + sm (stk g hmk) 0 (4 * g.1 0)), o', m', ?_, ?_, H.askH km⟩
  · unfold f5_stuck
    rw [eo]
    simp only [Option.bind_some]
    rw [o2, bitc a a8]
    simp only [Option.bind_some]
    have := k5_stuck hW now ht o' hmk o1 ((if a.testBit 0 = true then 1 else 0) + (if a.testBit 1 = true then 1 else 0) + (if a.testBit 2 = true then 1 else 0))
    have this : wh (f5_stuck_L24 now o') (_, 0) = _ := this
    rw [this]
    simp only [Option.bind_some]
  · unfold f6_stuck
    rw [em]
    simp only [Option.bind_some]
    have c0 : (0 : Int32).toNatClampNeg = 0 := rfl
    have c1 : (1 : Int32).toNatClampNeg = 1 := rfl
    have c2 : (2 : Int32).toNatClampNeg = 2 := rfl
    rw [show vin 0 3 = true from rfl, show vin 1 3 = true from rfl, show vin 2 3 = true from rfl, gd_t, gd_t, gd_t, lt_v, c0, c1, c2, m27 0 (by omega), m27 1 (by omega), m27 2 (by omega), nI_add, nI_add]
    have := k6_stuck hW m' hm' hmk hb m26 m01 eqv ((if a.testBit 0 = true then 1 else 0) + (if a.testBit 1 = true then 1 else 0) + (if a.testBit 2 = true then 1 else 0))
    have this : wh (f6_stuck_L27 m') (_, 0) = _ := this
    rw [this]
    simp only [Option.bind_some]
end STUCK
