/-! another configuration -/
def cf (g : nb) (st h : Nat) (s : Nat → Nat) : nb := (fun k => if k = 13 then st else if k = 14 then h else g.1 k, fun k => if k = 15 then s else g.2 k)
section CF
variable (g : nb) (st h : Nat) (s : Nat → Nat)
theorem cf_la (t last nn : Nat) (w : Nat → Nat) : ∀ i, la (cf g st h s) t last nn w i = la g t last nn w i
  | 0 => rfl
  | i + 1 => by
    have ih := cf_la t last nn w i
    simp only [la, ih]
    rfl
theorem cf_tg : ∀ t, tg (cf g st h s) t = tg g t
  | 0 => rfl
  | t + 1 => by
    have ih := cf_tg t
    simp only [tg, ih, cf_la]
    rfl
theorem cf_wt0 : wt0 (cf g st h s) = wt0 g := congrArg Prod.snd (cf_tg g st h s (g.1 7))
theorem cf_ndn : ndn (cf g st h s) = ndn g := congrArg Prod.fst (cf_tg g st h s (g.1 7))
theorem cf_rnd (mx : Bool) (co wb : Nat → Nat) : ∀ n, rnd mx (cf g st h s) co wb n = rnd mx g co wb n
  | 0 => rfl
  | n + 1 => by
    rw [rnd_s, rnd_s, cf_rnd mx co wb n]
    rfl
theorem cf_ws (mx : Bool) (co w : Nat → Nat) (R : Nat) : ∀ j, ws mx (cf g st h s) co w R j = ws mx g co w R j
  | 0 => rfl
  | j + 1 => by
    show rnd mx (cf g st h s) co (ws mx (cf g st h s) co w R j) R = rnd mx g co (ws mx g co w R j) R
    rw [cf_ws mx co w R j, cf_rnd]
theorem cf_fw (b : Nat) (co : Nat → Nat) : fw (cf g st h s) b co = fw g b co := by
  show ws (mxO b) (cf g st h s) co (wt0 (cf g st h s)) (g.1 1) nR = ws (mxO b) g co (wt0 g) (g.1 1) nR
  rw [cf_wt0, cf_ws]
theorem cf_acc (k : Nat) : ∀ t, acc (cf g st h s) t k = acc g t k
  | 0 => rfl
  | t + 1 => by
    show (if g.2 9 t = 0 ∧ k = g.2 8 t then 1 else acc (cf g st h s) t k) = (if g.2 9 t = 0 ∧ k = g.2 8 t then 1 else acc g t k)
    rw [cf_acc k t]
theorem cf_lastK (b : Nat) (co : Nat → Nat) : lastK (cf g st h s) b co = lastK g b co := by
  refine congrArg pickK (funext fun K => ?_)
  show LAST (mxO b) (cf g st h s) co (wt0 (cf g st h s)) (g.1 1) K = LAST (mxO b) g co (wt0 g) (g.1 1) K
  unfold LAST
  rw [cf_wt0]
  simp only [cf_ws]
theorem cf_NK (o : ob) (b : Nat) (co : Nat → Nat) (hN : NK o g b co) : NK o (cf g st h s) b co := by
  obtain ⟨h1, h2, h3, h4, h5, h6, h7, h8⟩ := hN
  refine ⟨?_, ?_, ?_, ?_, h5, ?_, ?_, ?_⟩
  · rw [cf_ndn]; exact h1
  · rw [cf_wt0]; exact h2
  · rw [cf_fw]; exact h3
  · rw [cf_lastK]; exact h4
  · rw [cf_fw]; exact h6
  · rw [cf_fw]; exact h7
  · intro k hk
    rw [h8 k hk]
    exact congrArg nI (cf_acc g st h s k (g.1 7)).symm
end CF
theorem TW.cf {now now' : ob} {g : nb} (h : TW now g) {st hh : Nat} {s : Nat → Nat} (h1 : ∀ k, k ≠ 13 → k ≠ 14 → now'.1 k = now.1 k) (h2 : ∀ k, k ≠ 15 → now'.2 k = now.2 k) (e13 : now'.1 13 = nI st) (e14 : now'.1 14 = nI hh) (e15 : ∀ i, i < hh → now'.2 15 i = nI (s i)) : TW now' (cf g st hh s) := by
  obtain ⟨⟨t1, t2, t3⟩, t4, t5, t6, t7, t8, t9, t10⟩ := h
  refine ⟨⟨?_, ?_, ?_⟩, ?_, ?_, e13, e14, ?_, e15, ?_⟩
  · rw [h1 0 (by decide) (by decide)]; exact t1
  · rw [h1 7 (by decide) (by decide)]; exact t2
  · rw [h2 8 (by decide), h2 9 (by decide), h2 10 (by decide), h2 11 (by decide)]; exact t3
  · rw [h1 1 (by decide) (by decide)]; exact t4
  · rw [h1 12 (by decide) (by decide)]; exact t5
  · intro k r hr q1 q2
    rw [h2 k (by omega)]
    have e : (if k = 15 then s else g.2 k) = g.2 k := if_neg (by omega)
    exact (t8 k r hr q1 q2).trans (congrArg nI (congrFun e r).symm)
  · rw [h2 10 (by decide)]; exact t10
theorem MW.cf {m m' : ob} {g : nb} (h : MW m g) {st hh : Nat} {s : Nat → Nat} (h1 : ∀ k, k < 9 → k ≠ 5 → k ≠ 6 → m'.1 k = m.1 k) (h2 : ∀ k, k < 7 → m'.2 k = m.2 k) (e5 : m'.1 5 = nI st) (e6 : m'.1 6 = nI hh) (e7 : ∀ i, i < hh → m'.2 7 i = nI (s i)) : MW m' (cf g st hh s) := by
  obtain ⟨⟨t1, t2, t3⟩, t4, t5, t6, t7, t8, t9, t10, t11⟩ := h
  refine ⟨⟨?_, ?_, ?_⟩, ?_, ?_, e5, e6, ?_, e7, ?_, ?_⟩
  · rw [h1 0 (by omega) (by decide) (by decide)]; exact t1
  · rw [h1 3 (by omega) (by decide) (by decide)]; exact t2
  · rw [h2 4 (by omega)]; exact t3
  · unfold MR; rw [h2 2 (by omega)]; exact t4
  · rw [h1 1 (by omega) (by decide) (by decide)]; exact t5
  · rw [h1 8 (by omega) (by decide) (by decide)]; exact t8
  · rw [h2 2 (by omega)]; exact t10
  · rw [h2 4 (by omega)]; exact t11
theorem MW.cg {m m' : ob} {g : nb} (h : MW m g) (h1 : ∀ k, k < 9 → m'.1 k = m.1 k) (h2 : ∀ k, k < 8 → m'.2 k = m.2 k) : MW m' g := by
  obtain ⟨⟨t1, t2, t3⟩, t4, t5, t6, t7, t8, t9, t10, t11⟩ := h
  refine ⟨⟨?_, ?_, ?_⟩, ?_, ?_, ?_, ?_, ?_, ?_, ?_, ?_⟩
  · rw [h1 0 (by omega)]; exact t1
  · rw [h1 3 (by omega)]; exact t2
  · rw [h2 4 (by omega)]; exact t3
  · unfold MR; rw [h2 2 (by omega)]; exact t4
  · rw [h1 1 (by omega)]; exact t5
  · rw [h1 5 (by omega)]; exact t6
  · rw [h1 6 (by omega)]; exact t7
  · rw [h1 8 (by omega)]; exact t8
  · rw [h2 7 (by omega)]; exact t9
  · rw [h2 2 (by omega)]; exact t10
  · rw [h2 4 (by omega)]; exact t11
theorem cf_WF {g : nb} (h : WF g) {st hh : Nat} {s : Nat → Nat} (h1 : st < g.1 0) (h2 : hh ≤ 12) (h3 : ∀ i, i < hh → s i < 4) : WF (cf g st hh s) := ⟨h.1, h.2.1, ⟨h1, h2, h3⟩, h.2.2.2⟩
theorem cf_ST {g p : nb} (h : ST g p) (st hh : Nat) (s : Nat → Nat) : ST (cf g st hh s) p := h
/-! all of both sides -/
def RX (sc m : ob) : Prop := ∃ (L : Nat) (T : Nat → Nat), sc.1 1 = nI L ∧ m.1 30 = nI L ∧ L ≤ 200 ∧ ∀ i, i < L → sc.2 0 i = nI (T i) ∧ m.2 29 i = nI (T i) ∧ 32 ≤ T i ∧ T i ≤ 126
def RP (x m : ob) (past : Nat → ob) (g : nb) : Prop := ∃ (pc pn : Nat) (P : Nat → nb), x.1 5 = nI pc ∧ m.1 9 = nI pc ∧ pc ≤ 8 ∧ x.1 4 = nI pn ∧ pn < 8 ∧ ∀ j, j < pc → TW (past ((pn + 8 - pc + j) % 8)) (P j) ∧ SNP (m.2 10) (90 * j) (P j) ∧ WF (P j) ∧ ST g (P j)
def RK (x m : ob) (saved : Nat → ob) (g : nb) : Prop := ∃ (kc : Nat) (P : Nat → nb), x.1 7 = nI kc ∧ m.1 11 = nI kc ∧ kc ≤ 2 ∧ ∀ j, j < kc → TW (saved j) (P j) ∧ SNP (m.2 12) (90 * j) (P j) ∧ WF (P j) ∧ ST g (P j)
def FL (d : ob) : Prop := ∀ t, t < 4 → bz (d.2 10 t) = true
def PV (x paces : ob) (g : nb) : Prop := x.1 11 = 0 ∨ (x.1 11 = 1 ∧ NK paces g 1 (coO g 1 10))
def RV (ROK : ob → nb → Prop) (x route : ob) (g : nb) : Prop := x.1 14 = 0 ∨ (x.1 14 = 1 ∧ x.1 11 = 1 ∧ ROK route g)
def RG (ROK : ob → nb → Prop) (x sc now draft : ob) (past saved : Nat → ob) (net paces route m : ob) (g : nb) : Prop := WF g ∧ TW now g ∧ MW m g ∧ RX sc m ∧ RP x m past g ∧ RK x m saved g ∧ FL draft ∧ NV x net g ∧ PV x paces g ∧ RV ROK x route g
theorem note {x now m : ob} {past : Nat → ob} {g : nb} (hW : WF g) (ht : TW now g) (hm : MW m g) (hP : RP x m past g) : ∃ x' past' m', f5_remember x now past = some (x', past') ∧ f6_notes m = some m' ∧ RP x' m' past' g ∧ x'.1 14 = 0 ∧ (∀ k, k ≠ 4 → k ≠ 5 → k ≠ 14 → x'.1 k = x.1 k) ∧ x'.2 = x.2 ∧ (∀ k, k ≠ 9 → m'.1 k = m.1 k) ∧ ∀ k, k ≠ 10 → m'.2 k = m.2 k := by
  obtain ⟨pc, pn, P, p1, p2, p3, p4, p5, p6⟩ := hP
  obtain ⟨d, ed, hd⟩ := copyTW (past pn) now ht hW
  -- the class
  have cls : ∃ x', f5_remember x now past = some (x', va_up past pn d) ∧ x'.1 5 = nI (if pc = 8 then 8 else pc + 1) ∧ x'.1 4 = nI ((pn + 1) % 8) ∧ x'.1 14 = 0 ∧ (∀ k, k ≠ 4 → k ≠ 5 → k ≠ 14 → x'.1 k = x.1 k) ∧ x'.2 = x.2 := by
    have er : nI pn + 1 - (nI pn + 1) / 8 * 8 = nI ((pn + 1) % 8) := by
      rw [nI_1, show (8 : Int32) = nI 8 from rfl, irem_nI (by omega) (by omega)]
    unfold f5_remember
    rw [p4, vin_nI (by omega), gd_p p5, nI_clamp (by omega), ed]
    simp only [Option.bind_some, lt_v, er]
    have x5' : (sI x 4 (nI ((pn + 1) % 8))).1 5 = nI pc := p1
    rw [x5']
    by_cases q : pc = 8
    · refine ⟨sI (sI x 4 (nI ((pn + 1) % 8))) 14 0, ?_, ?_, rfl, rfl, fun k k1 k2 k3 => by simp only [sI_1, sI_2, sA_1, sA_2, sR_1, sR_2, upd_at, sL_1, sL_2, rL_uL, updL_at, if_neg k1, if_neg k3], rfl⟩
      · rw [if_pos (show (8 : Int32) ≤ nI pc by rw [q]; decide)]
      · rw [if_pos q]
        show x.1 5 = _
        rw [p1, q]
    · refine ⟨sI (sI (sI x 4 (nI ((pn + 1) % 8))) 5 (nI (pc + 1))) 14 0, ?_, ?_, rfl, rfl, fun k k1 k2 k3 => by simp only [sI_1, sI_2, sA_1, sA_2, sR_1, sR_2, upd_at, sL_1, sL_2, rL_uL, updL_at, if_neg k1, if_neg k2, if_neg k3], rfl⟩
      · rw [if_neg (show ¬ (8 : Int32) ≤ nI pc from nI_ge (a := pc) (b := 8) (by omega) (by decide)), nI_1]
      · rw [if_neg q]; rfl
  -- the reference
  have ref : ∃ m', f6_notes m = some m' ∧ m'.1 9 = nI (if pc = 8 then 8 else pc + 1) ∧ (∀ k, k ≠ 9 → m'.1 k = m.1 k) ∧ (∀ k, k ≠ 10 → m'.2 k = m.2 k) ∧ SNP (m'.2 10) (90 * (if pc = 8 then 7 else pc)) g ∧ ∀ j, j < 90 * (if pc = 8 then 7 else pc) → m'.2 10 j = m.2 10 (if pc = 8 then j + 90 else j) := by
    have rest : ∀ (v : ob) (c : Nat), c < 8 → v.1 9 = nI c → (∀ k, k ≠ 9 → v.1 k = m.1 k) → (∀ k, k ≠ 10 → v.2 k = m.2 k) → ∃ m', ((f6_writes_undone (90 * (v.1 9)) v).bind fun q2 => lt (sI q2 9 ((q2.1 9) + 1)) fun t3 => some t3) = some m' ∧ m'.1 9 = nI (c + 1) ∧ (∀ k, k ≠ 9 → m'.1 k = m.1 k) ∧ (∀ k, k ≠ 10 → m'.2 k = m.2 k) ∧ SNP (m'.2 10) (90 * c) g ∧ ∀ j, j < 90 * c → m'.2 10 j = v.2 10 j := by
      intro v c hc v9 vi vr
      have hv : MW v g := hm.cg (fun k hk => vi k (by omega)) (fun k hk => vr k (by omega))
      obtain ⟨w, ew, w1, w2, w3, w4⟩ := writes_undone (90 * c) (by omega) v hv
      refine ⟨sI w 9 (nI (c + 1)), ?_, rfl, fun k hk => ?_, fun k hk => ?_, w4, fun j hj => w3 j (Or.inl hj)⟩
      · rw [v9, show (90 : Int32) = nI 90 from rfl, nI_mul, ew]
        simp only [Option.bind_some, lt_v]
        rw [w1, v9, nI_1]
      · simp only [sI_1, sI_2, sA_1, sA_2, sR_1, sR_2, upd_at, sL_1, sL_2, rL_uL, updL_at, if_neg hk]
        rw [w1]; exact vi k hk
      · show w.2 k = _
        rw [w2 k hk]; exact vr k hk
    unfold f6_notes
    by_cases q : pc = 8
    · obtain ⟨u, eu, u1, u2, u3, u4⟩ := wh_fr (st := f6_notes_L11) (fun i (b : ob) => (nI i, b)) 630 (fun i z => z.1 = m.1 ∧ (∀ k, k ≠ 10 → z.2 k = m.2 k) ∧ (∀ j, i ≤ j → z.2 10 j = m.2 10 j) ∧ ∀ j, j < i → z.2 10 j = m.2 10 (j + 90)) (b0 := m) ⟨rfl, fun _ _ => rfl, fun _ _ => rfl, fun _ h => absurd h (by omega)⟩
        (by
          intro z _
          unfold f6_notes_L11
          dsimp only
          rw [if_pos (by decide)])
        (by
          rintro i z hi ⟨u1, u2, u3, u4⟩
          refine ⟨sA z 10 i (m.2 10 (i + 90)), ?_, u1, fun k hk => by simp only [sI_1, sI_2, sA_1, sA_2, sR_1, sR_2, upd_at, sL_1, sL_2, rL_uL, updL_at, if_neg hk]; exact u2 k hk, fun j hj => ?_, fun j hj => ?_⟩
          · unfold f6_notes_L11
            dsimp only
            rw [if_neg (show ¬ (630 : Int32) ≤ nI i from nI_ge (a := i) (b := 630) hi (by decide)), show nI i + 90 = nI (i + 90) from nI_add i 90, vin_nI (by omega), gd_p (show i + 90 < 720 by omega), vin_nI (by omega), gd_p (show i < 720 by omega), nI_clamp (by omega), nI_clamp (by omega), u3 (i + 90) (by omega)]
            simp only [lt_v, nI_1]
          · simp only [sI_1, sI_2, sA_1, sA_2, sR_1, sR_2, upd_at, sL_1, sL_2, rL_uL, updL_at, if_true]
            rw [if_neg (by omega)]
            exact u3 j (by omega)
          · simp only [sI_1, sI_2, sA_1, sA_2, sR_1, sR_2, upd_at, sL_1, sL_2, rL_uL, updL_at, if_true]
            by_cases q : j = i
            · rw [if_pos q, q]
            · rw [if_neg q]; exact u4 j (by omega))
      obtain ⟨m', e, a1, a2, a3, a4, a5⟩ := rest (sI u 9 (nI 7)) 7 (by omega) rfl (fun k hk => by simp only [sI_1, sI_2, sA_1, sA_2, sR_1, sR_2, upd_at, sL_1, sL_2, rL_uL, updL_at, if_neg hk, u1]) (fun k hk => u2 k hk)
      refine ⟨m', ?_, ?_, a2, a3, ?_, fun j hj => ?_⟩
      · have eu : wh f6_notes_L11 (0, m) = some (1, (nI 630, u)) := eu
        rw [if_pos (show m.1 9 = 8 by rw [p2, q]; rfl), eu]
        simp only [Option.bind_some, lt_v]
        rw [u1, p2, q]
        exact e
      · rw [if_pos q]; exact a1
      · rw [if_pos q]; exact a4
      · rw [if_pos q] at hj ⊢
        rw [a5 j hj]
        exact u4 j (by omega)
    · obtain ⟨m', e, a1, a2, a3, a4, a5⟩ := rest m pc (by omega) p2 (fun _ _ => rfl) (fun _ _ => rfl)
      refine ⟨m', ?_, ?_, a2, a3, ?_, fun j hj => ?_⟩
      · rw [if_neg (show ¬ m.1 9 = 8 by rw [p2]; exact fun h => q ((nI_eq (by omega) (by decide)).mp (show nI pc = nI 8 from h)))]
        exact e
      · rw [if_neg q]; exact a1
      · rw [if_neg q]; exact a4
      · rw [if_neg q] at hj ⊢
        exact a5 j hj
  obtain ⟨x', ex, x5, x4, x14, xi, xr⟩ := cls
  obtain ⟨m', em, m9, mi, mr, ms, mo⟩ := ref
  refine ⟨x', va_up past pn d, m', ex, em, ⟨if pc = 8 then 8 else pc + 1, (pn + 1) % 8, fun j => if pc = 8 then (if j = 7 then g else P (j + 1)) else (if j = pc then g else P j), x5, m9, by split <;> omega, x4, by omega, ?_⟩, x14, xi, xr, mi, mr⟩
  intro j hj
  by_cases q : pc = 8
  · simp only [if_pos q] at hj ms mo ⊢
    by_cases qj : j = 7
    · subst qj
      rw [if_pos rfl]
      refine ⟨?_, ms, hW, ST.rf g⟩
      have e : ((pn + 1) % 8 + 8 - 8 + 7) % 8 = pn := by clear ms mo; omega
      rw [e, va_up_self]
      exact hd
    · rw [if_neg qj]
      obtain ⟨b1, b2, b3, b4⟩ := p6 (j + 1) (by omega)
      refine ⟨?_, b2.cg (fun i hi => ?_), b3, b4⟩
      · have e : ((pn + 1) % 8 + 8 - 8 + j) % 8 = (pn + 8 - pc + (j + 1)) % 8 := by omega
        rw [e, va_up_ne _ _ (by omega)]
        exact b1
      · rw [mo _ (by omega)]
        exact congrArg (m.2 10) (by omega)
  · simp only [if_neg q] at hj ms mo ⊢
    by_cases qj : j = pc
    · subst qj
      rw [if_pos rfl]
      refine ⟨?_, ms, hW, ST.rf g⟩
      have e : ((pn + 1) % 8 + 8 - (j + 1) + j) % 8 = pn := by omega
      rw [e, va_up_self]
      exact hd
    · rw [if_neg qj]
      obtain ⟨b1, b2, b3, b4⟩ := p6 j (by omega)
      refine ⟨?_, b2.cg (fun i hi => mo _ (by omega)), b3, b4⟩
      have e : ((pn + 1) % 8 + 8 - (pc + 1) + j) % 8 = (pn + 8 - pc + j) % 8 := by omega
      rw [e, va_up_ne _ _ (by omega)]
      exact b1
