/-! another cost of a rule -/
def gc (g : nb) (r c : Nat) : nb := (g.1, fun k => if k = 6 then (fun j => if j = r then c else g.2 6 j) else g.2 k)
theorem gc_la (g : nb) (r c t last nn : Nat) (w : Nat → Nat) : ∀ i, la (gc g r c) t last nn w i = la g t last nn w i
  | 0 => rfl
  | i + 1 => by
    have ih := gc_la g r c t last nn w i
    simp only [la, ih]
    rfl
theorem gc_tg (g : nb) (r c : Nat) : ∀ t, tg (gc g r c) t = tg g t
  | 0 => rfl
  | t + 1 => by
    have ih := gc_tg g r c t
    simp only [tg, ih, gc_la]
    rfl
theorem gc_wt0 (g : nb) (r c : Nat) : wt0 (gc g r c) = wt0 g := congrArg Prod.snd (gc_tg g r c (g.1 7))
theorem gc_rnd (mx : Bool) (g : nb) (r c : Nat) (co wb : Nat → Nat) : ∀ n, rnd mx (gc g r c) co wb n = rnd mx g co wb n
  | 0 => rfl
  | n + 1 => by
    rw [rnd_s, rnd_s, gc_rnd mx g r c co wb n]
    rfl
theorem gc_ws (mx : Bool) (g : nb) (r c : Nat) (co w : Nat → Nat) (R : Nat) : ∀ j, ws mx (gc g r c) co w R j = ws mx g co w R j
  | 0 => rfl
  | j + 1 => by
    show rnd mx (gc g r c) co (ws mx (gc g r c) co w R j) R = rnd mx g co (ws mx g co w R j) R
    rw [gc_ws mx g r c co w R j, gc_rnd]
theorem gc_fw (g : nb) (r c b : Nat) (co : Nat → Nat) : fw (gc g r c) b co = fw g b co := by
  show ws (mxO b) (gc g r c) co (wt0 (gc g r c)) (g.1 1) nR = ws (mxO b) g co (wt0 g) (g.1 1) nR
  rw [gc_wt0, gc_ws]
theorem gc_rs (mx : Bool) (w : Nat → Nat) (g : nb) (r c : Nat) : ∀ i, rs mx w (gc g r c) i = rs mx w g i
  | 0 => rfl
  | i + 1 => by
    show rdm mx w (rs mx w (gc g r c) i) _ = rdm mx w (rs mx w g i) _
    rw [gc_rs mx w g r c i]
    rfl
theorem gc_acc (g : nb) (r c k : Nat) : ∀ t, acc (gc g r c) t k = acc g t k
  | 0 => rfl
  | t + 1 => by
    show (if g.2 9 t = 0 ∧ k = g.2 8 t then 1 else acc (gc g r c) t k) = (if g.2 9 t = 0 ∧ k = g.2 8 t then 1 else acc g t k)
    rw [gc_acc g r c k t]
theorem gc_pri (g : nb) (r c b : Nat) (co : Nat → Nat) : pri (gc g r c) b co = pri g b co := by
  unfold pri prc
  rw [gc_fw]
  refine mn_congr (fun n _ => ?_)
  show (if acc (gc g r c) (g.1 7) n = 1 then rs (mxO b) (fw g b co) (gc g r c) (g.1 14) n else 1000000000) = _
  rw [gc_acc, gc_rs]
theorem gc_WF {g : nb} (h : WF g) {r c : Nat} (hc : c ≤ 9) : WF (gc g r c) := by
  obtain ⟨h1, ⟨h2, h3, h4⟩, h5, h6⟩ := h
  refine ⟨h1, ⟨h2, h3, fun j hj => ?_⟩, h5, h6⟩
  show (if j = r then c else g.2 6 j) ≤ 9
  have := h4 j hj
  split <;> omega
/-- the reference's rule with another cost -/
theorem gc_MW {g : nb} {m : ob} (h : MW m g) (h10 : g.1 1 ≤ 10) {r : Nat} (hr : r < g.1 1) (c : Nat) : MW (sA m 2 (7 * r + 6) (nI c)) (gc g r c) := by
  obtain ⟨h1, h2, h3, h4, h5, h6, h7, h8, h9⟩ := h
  have up : ∀ j, j ≠ 7 * r + 6 → (sA m 2 (7 * r + 6) (nI c)).2 2 j = m.2 2 j := fun j hj => by
    simp only [sI_1, sI_2, sA_1, sA_2, sR_1, sR_2, upd_at, sL_1, sL_2, rL_uL, updL_at, if_true, if_neg hj]
  have e4 : (sA m 2 (7 * r + 6) (nI c)).2 4 = m.2 4 := rfl
  refine ⟨h1, fun i hi => ?_, h3, h4, h5, h6, h7, fun i hi j hj hl => ?_, h9⟩
  · obtain ⟨a1, a2, a3, a4, a5, a6⟩ := h2 i hi
    have l2 := lw_len (w := g.2 5 i)
    refine ⟨?_, ?_, ?_, ?_, fun j x hj => ?_, ?_⟩
    · rw [up _ (by omega)]; exact a1
    · rw [up _ (by omega)]; exact a2
    · rw [up _ (by omega)]; exact a3
    · rw [up _ (by omega)]; exact a4
    · have hj : (lw (g.2 5 i))[j]? = some x := hj
      have := (List.getElem?_eq_some_iff.mp hj).1
      rw [up _ (by omega)]; exact a5 j x hj
    · show (sA m 2 (7 * r + 6) (nI c)).2 2 (7 * i + 6) = nI (if i = r then c else g.2 6 i)
      by_cases q : i = r
      · subst q
        rw [if_pos rfl]
        simp only [sI_1, sI_2, sA_1, sA_2, sR_1, sR_2, upd_at, sL_1, sL_2, rL_uL, updL_at, if_true]
      · rw [if_neg q, up _ (by omega)]; exact a6
  · rw [up _ (by omega)]; exact h8 i hi j hj hl
def keepR (r : Nat) (m m' : ob) : Prop := (∀ k, k ≠ 15 → k ≠ 16 → k ≠ 17 → m'.1 k = m.1 k) ∧ (∀ k, k ≠ 2 → k ≠ 13 → k ≠ 14 → k ≠ 18 → k ≠ 19 → m'.2 k = m.2 k) ∧ ∀ j, j ≠ 7 * r + 6 → m'.2 2 j = m.2 2 j
theorem MW.R {g : nb} {m m' : ob} {r : Nat} (h : MW m g) (h10 : g.1 1 ≤ 10) (hr : r < g.1 1) (k : keepR r m m') (c : Nat) (hc : m'.2 2 (7 * r + 6) = nI c) : MW m' (gc g r c) := by
  have h2 := gc_MW h h10 hr c
  refine MW.keep h2 ⟨fun j q1 q2 q3 => ?_, fun j q1 q2 q3 q4 => ?_⟩
  · exact k.1 j q1 q2 q3
  · by_cases q : j = 2
    · subst q
      funext i
      simp only [sI_1, sI_2, sA_1, sA_2, sR_1, sR_2, upd_at, sL_1, sL_2, rL_uL, updL_at, if_true]
      by_cases q5 : i = 7 * r + 6
      · rw [if_pos q5, q5]; exact hc
      · rw [if_neg q5]; exact k.2.2 i q5
    · simp only [sI_1, sI_2, sA_1, sA_2, sR_1, sR_2, upd_at, sL_1, sL_2, rL_uL, updL_at, if_neg q]
      exact k.2.1 j q q1 q2 q3 q4
theorem keepR.tr {r : Nat} {a b c : ob} (h : keepR r a b) (k : keepM b c) : keepR r a c := ⟨fun j q1 q2 q3 => (k.1 j q1 q2 q3).trans (h.1 j q1 q2 q3), fun j q0 q1 q2 q3 q4 => (k.2 j q1 q2 q3 q4).trans (h.2.1 j q0 q1 q2 q3 q4), fun j hj => (congrFun (k.2 2 (by decide) (by decide) (by decide) (by decide)) j).trans (h.2.2 j hj)⟩
theorem keepR.st {r : Nat} {a b : ob} (h : keepR r a b) (v : Int32) : keepR r a (sA b 2 (7 * r + 6) v) := ⟨h.1, fun j q0 q1 q2 q3 q4 => by
    simp only [sI_1, sI_2, sA_1, sA_2, sR_1, sR_2, upd_at, sL_1, sL_2, rL_uL, updL_at, if_neg q0]
    exact h.2.1 j q0 q1 q2 q3 q4, fun j hj => by
    simp only [sI_1, sI_2, sA_1, sA_2, sR_1, sR_2, upd_at, sL_1, sL_2, rL_uL, updL_at, if_true, if_neg hj]
    exact h.2.2 j hj⟩
/-- the price with a cost c of rule r -/
noncomputable def pc (g : nb) (r c : Nat) : Nat := pri g (g.1 12) (coO (gc g r c) (g.1 12) 10)
theorem pc_le (g : nb) (r c : Nat) : pc g r c ≤ 1000000000 := pri_le _ _ _
theorem pc_had (g : nb) (r : Nat) : pc g r (g.2 6 r) = pri g (g.1 12) (coO g (g.1 12) 10) := by
  have e : gc g r (g.2 6 r) = g := by
    refine Prod.ext rfl (funext fun k => ?_)
    show (if k = 6 then _ else _) = _
    by_cases q : k = 6
    · subst q
      rw [if_pos rfl]
      funext j
      by_cases q2 : j = r
      · rw [if_pos q2, q2]
      · rw [if_neg q2]
    · rw [if_neg q]
  unfold pc
  rw [e]
theorem pc_mono {g : nb} (h : WF g) (r : Nat) {c d : Nat} (hcd : c ≤ d) : pc g r c ≤ pc g r d := by
  refine pri_mono h.1 _ (fun j hj => ?_)
  unfold coO
  split
  · exact Nat.le_refl _
  · split
    · exact Nat.le_refl _
    · show (if j = r then c else g.2 6 j) ≤ (if j = r then d else g.2 6 j)
      split
      · exact hcd
      · exact Nat.le_refl _
theorem pI_inj {a b : Nat} (ha : a ≤ 1000000000) (hb : b ≤ 1000000000) : pI a = pI b ↔ a = b := by
  constructor
  · intro e
    by_cases q : 1000000000 ≤ a
    · rw [pI_ge q] at e
      by_cases q2 : 1000000000 ≤ b
      · omega
      · rw [pI_lt (by omega)] at e
        exact absurd e (neg_ne_nI (b := 4) (by omega) (by omega) (by omega))
    · rw [pI_lt (by omega)] at e
      by_cases q2 : 1000000000 ≤ b
      · rw [pI_ge q2] at e
        exact absurd e (nI_ne_neg (b := 4) (by omega) (by omega) (by omega))
      · rw [pI_lt (by omega)] at e
        exact (nI_eq (by omega) (by omega)).mp e
  · intro e; rw [e]
theorem oddC {g : nb} (hr : WFr g) (b r c : Nat) (hr1 : r < g.1 1) (hc : c ≤ 9) : ODD g b (nI r) (nI c) (coO (gc g r c) b 10) := by
  intro j hj
  have h10 := hr.2.1
  have h9 := hr.2.2 j hj
  refine ⟨if j = r then c else g.2 6 j, ?_, Or.inr (by split <;> omega), ?_⟩
  · by_cases q : j = r
    · rw [if_pos (by rw [q]), if_pos q, cd_lt (by omega)]
    · rw [if_neg (fun e => q ((nI_eq (by omega) (by omega)).mp e)), if_neg q, cd_lt (by omega)]
  · have l : (if j = r then c else g.2 6 j) ≤ 9 := by split <;> omega
    show (if j = 10 then 1000000000 else if b = 1 then 1 else if j = r then c else g.2 6 j) = _
    rw [if_neg (by omega), if_neg (show ¬ (if j = r then c else g.2 6 j) = 1000000000 by omega)]
theorem c_priceWith {g : nb} (h : WF g) (r c : Nat) (hr : r < g.1 1) (hc : c ≤ 9) (x now tr : ob) (ht : TW now g) : ∃ tr', f5_priceWith (nI r) (nI c) x now tr = some (pI (pc g r c), tr') := by
  obtain ⟨t1, e1, n1⟩ := buildS h (g.1 12) h.2.2.2 (nI r) (nI c) _ (oddC h.2.1 (g.1 12) r c hr hc) now ht tr
  obtain ⟨t2, e2, n2⟩ := priceS h (g.1 12) _ (oddC h.2.1 (g.1 12) r c hr hc).CO now t1 ht n1
  refine ⟨t2, ?_⟩
  unfold f5_priceWith
  rw [ht.2.2.1, e1]
  simp only [Option.bind_some]
  rw [e2]
  simp only [Option.bind_some]
  rfl
theorem m_priceR {g : nb} (h : WF g) (r c : Nat) (hr : r < g.1 1) (hc : c ≤ 9) (m z : ob) (hm : MW m g) (k : keepR r m z) (hz : z.2 2 (7 * r + 6) = nI c) : ∃ z', f6_price z = some (pI (pc g r c), z') ∧ keepR r m z' ∧ z'.2 2 (7 * r + 6) = nI c := by
  have hM := hm.R h.2.1.2.1 hr k c hz
  obtain ⟨z', e, k2⟩ := m_price (gc_WF h hc) z hM
  refine ⟨z', ?_, k.tr k2, ?_⟩
  · rw [e]
    have : pri (gc g r c) ((gc g r c).1 12) (coO (gc g r c) ((gc g r c).1 12) 10) = pc g r c := gc_pri g r c (g.1 12) _
    rw [this]
  · rw [k2.2 2 (by decide) (by decide) (by decide) (by decide)]; exact hz
theorem dear_ex {g : nb} (h : WF g) (r : Nat) (hr : r < g.1 1) : ∃ T, g.2 6 r ≤ T ∧ T ≤ 9 ∧ (∀ c, g.2 6 r ≤ c → c ≤ T → pc g r c = pc g r (g.2 6 r)) ∧ ∀ c, T < c → c ≤ 9 → pc g r c ≠ pc g r (g.2 6 r) := by
  have h9 := h.2.1.2.2 r hr
  have key : ∀ n T, T + n = 9 → g.2 6 r ≤ T → pc g r T = pc g r (g.2 6 r) → ∃ T, g.2 6 r ≤ T ∧ T ≤ 9 ∧ pc g r T = pc g r (g.2 6 r) ∧ ∀ c, T < c → c ≤ 9 → pc g r c ≠ pc g r (g.2 6 r) := by
    intro n
    induction n with
    | zero => intro T hT h1 h2; exact ⟨T, h1, by omega, h2, fun c q1 q2 => by omega⟩
    | succ n ih =>
      intro T hT h1 h2
      by_cases q : pc g r (T + 1) = pc g r (g.2 6 r)
      · exact ih (T + 1) (by omega) (by omega) q
      · refine ⟨T, h1, by omega, h2, fun c q1 q2 e => q ?_⟩
        have a1 := pc_mono h r (c := T + 1) (d := c) (by omega)
        have a2 := pc_mono h r (c := g.2 6 r) (d := T + 1) (by omega)
        omega
  obtain ⟨T, h1, h2, h3, h4⟩ := key (9 - g.2 6 r) (g.2 6 r) (by omega) (Nat.le_refl _) rfl
  refine ⟨T, h1, h2, fun c q1 q2 => ?_, h4⟩
  have a1 := pc_mono h r q1
  have a2 := pc_mono h r q2
  omega
theorem c5R_y {a : Nat} {x now : ob} {g : nb} (ht : TW now g) (h : a < g.1 1) (h10 : g.1 1 ≤ 10) : f5_isRule (nI a) x now = some (nI 1) := by
  unfold f5_isRule
  rw [ht.2.1]
  exact cin_y h (by omega)
theorem c5R_n {y : Int32} {x now : ob} {g : nb} (ht : TW now g) (h : ¬ IN y (g.1 1)) (h10 : g.1 1 ≤ 10) : f5_isRule y x now = some (nI 0) := by
  unfold f5_isRule
  rw [ht.2.1]
  exact cin_n h (by omega)
theorem c6R_y {a : Nat} {m : ob} {g : nb} (hm : MW m g) (h : a < g.1 1) (h10 : g.1 1 ≤ 10) : f6_isRule (nI a) m = some (nI 1) := by
  unfold f6_isRule
  rw [hm.2.2.1, rin_y h (by omega)]
  rfl
theorem c6R_n {y : Int32} {m : ob} {g : nb} (hm : MW m g) (h : ¬ IN y (g.1 1)) (h10 : g.1 1 ≤ 10) : f6_isRule y m = some (nI 0) := by
  unfold f6_isRule
  rw [hm.2.2.1, rin_n h (by omega)]
  rfl
theorem eq_dear {g : nb} (h : WF g) (x0 : Int32) (x now net tr m : ob) (ht : TW now g) (hm : MW m g) (hv : NV x net g) : ∃ ans, ASKT x m g ans (f5_dear x0 x now net tr) (f6_dear x0 m) := by
  have h10 := h.2.1.2.1
  by_cases i0 : IN x0 (g.1 1)
  · obtain ⟨r, hr, rfl⟩ := i0
    obtain ⟨x', net', e, a1, a2, a3⟩ := c_price h x now net ht hv
    obtain ⟨m', e', k⟩ := m_price h m hm
    have hv' : NV x' net' g := Or.inr ⟨a1, a2⟩
    have hm' := hm.keep k
    rw [← pc_had g r] at e e'
    by_cases q : 1000000000 ≤ pc g r (g.2 6 r)
    · refine ⟨-4, x', net', tr, m', ?_, ?_, hv', a3, k⟩
      · unfold f5_dear
        rw [c5R_y ht hr h10]
        simp only [Option.bind_some]
        rw [if_neg z1, e]
        simp only [Option.bind_some]
        rw [if_pos ((pI_none (pc_le _ _ _)).mpr q)]
      · unfold f6_dear
        rw [c6R_y hm hr h10]
        simp only [Option.bind_some]
        rw [if_neg z1, e']
        simp only [Option.bind_some]
        rw [if_pos ((pI_none (pc_le _ _ _)).mpr q)]
    · have hn : ¬ pI (pc g r (g.2 6 r)) = -4 := fun e => q ((pI_none (pri_le _ _ _)).mp e)
      have h9 := h.2.1.2.2 r hr
      obtain ⟨T, t1, t2, t3, t4⟩ := dear_ex h r hr
      have eqI : ∀ c, pI (pc g r c) = pI (pc g r (g.2 6 r)) ↔ pc g r c = pc g r (g.2 6 r) := fun c => pI_inj (pri_le _ _ _) (pri_le _ _ _)
      -- the class
      obtain ⟨tr', cl⟩ : ∃ tr', f5_dear (nI r) x now net tr = some (nI T, x', net', tr') := by
        obtain ⟨u9, e9⟩ := c_priceWith h r 9 hr (Nat.le_refl _) x' now tr ht
        have e9 : f5_priceWith (nI r) 9 x' now tr = some (pI (pc g r 9), u9) := e9
        by_cases q9 : T = 9
        · refine ⟨u9, ?_⟩
          unfold f5_dear
          rw [c5R_y ht hr h10]
          simp only [Option.bind_some]
          rw [if_neg z1, e]
          simp only [Option.bind_some]
          rw [if_neg hn, e9]
          simp only [Option.bind_some]
          rw [if_pos ((eqI 9).mpr (t3 9 h9 (by omega))), q9]
          rfl
        · obtain ⟨kk, z, ew, hz⟩ := wh_meas (st := f5_dear_L50 (nI r) now (pI (pc g r (g.2 6 r))) x') (fun n z => ∃ c, n = 10 - c ∧ g.2 6 r < c ∧ c ≤ T + 1 ∧ z.1 = nI c) (fun kk z => (kk = 0 ∧ z.1 = nI (T + 1)) ∨ (kk = 1 ∧ T = 8))
            (by
              rintro n ⟨v, z⟩ ⟨c, rfl, c1, c2, hv⟩
              have hv : v = nI c := hv
              subst hv
              unfold f5_dear_L50
              dsimp only
              by_cases q8 : c = 9
              · subst q8
                refine Or.inl ⟨1, (nI 9, z), ?_, Or.inr ⟨rfl, by omega⟩⟩
                rw [if_pos (by decide)]
              · obtain ⟨u, eu⟩ := c_priceWith h r c hr (by omega) x' now z ht
                rw [if_neg (show ¬ (9 : Int32) ≤ nI c from nI_ge (a := c) (b := 9) (by omega) (by decide)), eu]
                simp only [Option.bind_some]
                by_cases qT : c ≤ T
                · refine Or.inr ⟨10 - (c + 1), (nI (c + 1), u), by omega, ?_, c + 1, rfl, by omega, by omega, rfl⟩
                  rw [if_pos ((eqI c).mpr (t3 c (by omega) qT))]
                  simp only [lt_v, nI_1]
                · have hc : c = T + 1 := by omega
                  refine Or.inl ⟨0, (nI c, u), ?_, Or.inl ⟨rfl, by rw [hc]⟩⟩
                  rw [if_neg (fun e => t4 c (by omega) (by omega) ((eqI c).mp e))])
            (10 - (g.2 6 r + 1)) (nI (g.2 6 r + 1), u9) ⟨g.2 6 r + 1, rfl, by omega, by omega, rfl⟩
          refine ⟨z.2, ?_⟩
          unfold f5_dear
          rw [c5R_y ht hr h10]
          simp only [Option.bind_some]
          rw [if_neg z1, e]
          simp only [Option.bind_some]
          rw [if_neg hn, e9]
          simp only [Option.bind_some]
          rw [if_neg (fun e => t4 9 (by omega) (by omega) ((eqI 9).mp e)), vin_nI (by omega), gd_p (show r < 10 by omega), nI_clamp (by omega), ht.2.2.2.2.2.1 6 r hr (by omega) (by omega)]
          simp only [lt_v, nI_1]
          rw [ew]
          simp only [Option.bind_some]
          rcases hz with ⟨h1, h2⟩ | ⟨h1, h2⟩
          · rw [if_pos (by omega), h2, show nI (T + 1) - 1 = nI T from nI_sub (a := T + 1) (b := 1) (by omega)]
          · rw [if_neg (by omega), h2]
            rfl
      -- the reference
      obtain ⟨m2, ml, k2⟩ : ∃ m2, f6_dear (nI r) m = some (nI T, m2) ∧ keepM m m2 := by
        have m6 : m'.2 2 (7 * r + 6) = nI (g.2 6 r) := (hm'.2.1 r hr).2.2.2.2.2
        have k0 : keepR r m m' := ⟨k.1, fun j _ q1 q2 q3 q4 => k.2 j q1 q2 q3 q4, fun j _ => congrFun (k.2 2 (by decide) (by decide) (by decide) (by decide)) j⟩
        have e76 : (7 : Int32) * nI r + 6 = nI (7 * r + 6) := by rw [show (7 : Int32) = nI 7 from rfl, nI_mul, show (6 : Int32) = nI 6 from rfl, nI_add]
        obtain ⟨kk, z, ew, hk, hz, kz, z6⟩ := wh_meas (st := f6_dear_L55 (nI r) (pI (pc g r (g.2 6 r))) (nI (g.2 6 r))) (fun n z => ∃ c, n = c ∧ T ≤ c ∧ c ≤ 9 ∧ z.1 = nI c ∧ keepR r m z.2 ∧ z.2.2 2 (7 * r + 6) = nI c) (fun kk z => kk = 0 ∧ z.1 = nI T ∧ keepR r m z.2 ∧ z.2.2 2 (7 * r + 6) = nI T)
          (by
            rintro n ⟨v, z⟩ ⟨c, rfl, c1, c2, hv, hk, h6⟩
            have hv : v = nI n := hv
            subst hv
            unfold f6_dear_L55
            dsimp only at h6 hk ⊢
            by_cases qh : n ≤ g.2 6 r
            · have hn : n = T := by omega
              subst hn
              refine Or.inl ⟨0, (nI n, z), ?_, rfl, rfl, hk, h6⟩
              rw [if_pos (nI_le qh (by omega))]
            · obtain ⟨z', ez, kz, z6⟩ := m_priceR h r n hr c2 m z hm hk h6
              rw [if_neg (nI_ge (by omega) (by omega)), ez]
              simp only [Option.bind_some]
              by_cases qT : n = T
              · subst qT
                refine Or.inl ⟨0, (nI n, z'), ?_, rfl, rfl, kz, z6⟩
                rw [if_pos ((eqI n).mpr (t3 n t1 (Nat.le_refl _)))]
              · refine Or.inr ⟨n - 1, (nI (n - 1), sA z' 2 (7 * r + 6) (nI (n - 1))), by omega, ?_, n - 1, rfl, by omega, by omega, rfl, kz.st _, ?_⟩
                · have en : nI n + (-1) = nI (n - 1) := by
                    rw [show (-1 : Int32) = -(nI 1) from rfl, ← Int32.sub_eq_add_neg, nI_sub (by omega)]
                  rw [if_neg (fun e => t4 n (by omega) (by omega) ((eqI n).mp e))]
                  simp only [lt_v]
                  rw [e76, vin_nI (by omega), gd_p (show 7 * r + 6 < 70 by omega), nI_clamp (by omega), en]
                · simp only [sI_1, sI_2, sA_1, sA_2, sR_1, sR_2, upd_at, sL_1, sL_2, rL_uL, updL_at, if_true])
          9 (nI 9, sA m' 2 (7 * r + 6) (nI 9)) ⟨9, rfl, t2, Nat.le_refl _, rfl, k0.st _, by simp only [sI_1, sI_2, sA_1, sA_2, sR_1, sR_2, upd_at, sL_1, sL_2, rL_uL, updL_at, if_true]⟩
        have kz' := kz.st (nI (g.2 6 r))
        refine ⟨sA z.2 2 (7 * r + 6) (nI (g.2 6 r)), ?_, kz'.1, fun j q1 q2 q3 q4 => ?_⟩
        · unfold f6_dear
          rw [c6R_y hm hr h10]
          simp only [Option.bind_some]
          rw [if_neg z1, e']
          simp only [Option.bind_some]
          rw [if_neg hn, e76, vin_nI (by omega), gd_p (show 7 * r + 6 < 70 by omega), nI_clamp (by omega), m6]
          simp only [lt_v]
          rw [gd_p (show 7 * r + 6 < 70 by omega)]
          have ew : wh (f6_dear_L55 (nI r) (pI (pc g r (g.2 6 r))) (nI (g.2 6 r))) (9, sA m' 2 (7 * r + 6) 9) = some (kk + 1, z) := ew
          rw [ew]
          simp only [Option.bind_some]
          rw [gd_p (show 7 * r + 6 < 70 by omega), hz]
        · by_cases q2 : j = 2
          · subst q2
            funext i
            by_cases q5 : i = 7 * r + 6
            · subst q5
              have := (hm.2.1 r hr).2.2.2.2.2
              rw [this]
              simp only [sI_1, sI_2, sA_1, sA_2, sR_1, sR_2, upd_at, sL_1, sL_2, rL_uL, updL_at, if_true]
            · exact kz'.2.2 i q5
          · exact kz'.2.1 j q2 q1 ‹_› q3 q4
      exact ⟨nI T, x', net', tr', m2, cl, ml, hv', a3, k2⟩
  · refine ⟨-1, x, net, tr, m, ?_, ?_, hv, ⟨fun _ _ => rfl, rfl⟩, keepM.rf m⟩
    · unfold f5_dear
      rw [c5R_n ht i0 h10]
      simp only [Option.bind_some]
      rw [if_pos z0]
    · unfold f6_dear
      rw [c6R_n hm i0 h10]
      simp only [Option.bind_some]
      rw [if_pos z0]
