/-! the whole text -/
def ps (T : Nat → Nat) (L : Nat) : Nat → Nat → nb → Nat × nb
  | 0, a, g => (a, g)
  | k + 1, a, g => if L ≤ a then (a, g) else match nx T L a g with
    | none => (a, g)
    | some q => ps T L k q.1 q.2
theorem ps_end {T : Nat → Nat} {L k a : Nat} {g : nb} (h : L ≤ a) : ps T L k a g = (a, g) := by
  cases k with
  | zero => rfl
  | succ k => exact if_pos h
theorem ps_no {T : Nat → Nat} {L k a : Nat} {g : nb} (h : ¬ L ≤ a) (hx : nx T L a g = none) : ps T L (k + 1) a g = (a, g) := by
  show (if L ≤ a then (a, g) else _) = _
  rw [if_neg h, hx]
theorem ps_yes {T : Nat → Nat} {L k a a' : Nat} {g g' : nb} (h : ¬ L ≤ a) (hx : nx T L a g = some (a', g')) : ps T L (k + 1) a g = ps T L k a' g' := by
  show (if L ≤ a then (a, g) else _) = _
  rw [if_neg h, hx]
theorem ps_WF {T : Nat → Nat} {L : Nat} : ∀ k a g, WF g → a ≤ L → WF (ps T L k a g).2 ∧ (ps T L k a g).1 ≤ L
  | 0, a, g, h, ha => ⟨h, ha⟩
  | k + 1, a, g, h, ha => by
    by_cases q : L ≤ a
    · rw [ps_end q]; exact ⟨h, ha⟩
    · cases e : nx T L a g with
      | none => rw [ps_no q e]; exact ⟨h, ha⟩
      | some p =>
        obtain ⟨a', g'⟩ := p
        rw [ps_yes q e]
        obtain ⟨h1, h2, h3, -⟩ := nx_ok h e
        exact ps_WF k a' g' h3 h2
theorem tst0 {α : Type} (a : Nat) (ha : a < 2 ^ 31) (f : Int32 → Option α) : ((if nI a = 0 then (some (1 : Int32)) else (some 0)).bind f) = f (if a = 0 then 1 else 0) := by
  by_cases q : a = 0
  · rw [if_pos (show nI a = 0 by rw [q]; rfl), if_pos q]; rfl
  · rw [if_neg (nIz ha q), if_neg q]; rfl
theorem k3_in {T : Nat → Nat} {L : Nat} (hT : txt T L) : ∀ k a i y sc d g, L ≤ a + k → a ≤ L → i ≤ a → tx_3 sc T L → WF g → TW d g → (a = 0 → g = gi 2) → ∃ i' y' sc' d', wh f3_readInto_L11 (nI i, y, at_3 sc a, d) = some (if (ps T L k a g).1 = L then 2 else 1, (i', y', sc', d')) ∧ ((ps T L k a g).1 ≠ L → y' = nI (ps T L k a g).1) ∧ tx_3 sc' T L ∧ FL d' ∧ ((ps T L k a g).1 = L → TW d' (ps T L k a g).2) := by
  have hl := hT.1
  have fin : ∀ k i y sc d g, i ≤ L → tx_3 sc T L → TW d g → ∃ i' y' sc' d', wh f3_readInto_L11 (nI i, y, at_3 sc L, d) = some (if (ps T L k L g).1 = L then 2 else 1, (i', y', sc', d')) ∧ ((ps T L k L g).1 ≠ L → y' = nI (ps T L k L g).1) ∧ tx_3 sc' T L ∧ FL d' ∧ ((ps T L k L g).1 = L → TW d' (ps T L k L g).2) := by
    intro k i y sc d g hi h hd
    rw [ps_end (Nat.le_refl L)]
    refine ⟨nI i, y, at_3 sc L, d, ?_, fun h => absurd rfl h, ⟨h.1, h.2⟩, hd.2.2.2.2.2.2.2, fun _ => hd⟩
    rw [if_pos rfl]
    apply wh_off
    unfold f3_readInto_L11
    dsimp only
    rw [if_pos ((p3_end hT h (Nat.le_refl L)).mpr rfl), ite_self]
  intro k
  induction k with
  | zero =>
    intro a i y sc d g h1 h2 h3 h hW hd h0
    obtain rfl : a = L := by omega
    exact fin 0 i y sc d g h3 h hd
  | succ k ih =>
    intro a i y sc d g h1 h2 h3 h hW hd h0
    by_cases q : a = L
    · subst q
      exact fin (k + 1) i y sc d g h3 h hd
    · have hlt : a < L := by omega
      have st : f3_readInto_L11 (nI i, y, at_3 sc a, d) = (f3_readItem (if a = 0 then 1 else 0) (at_3 sc a) d).bind fun q8 => (if q8.1 = 0 then (some (1, (nI i, nI a, q8.2.1, q8.2.2))) else (lt (nI i + 1) fun y10 => some (0, (y10, nI a, q8.2.1, q8.2.2)))) := by
        unfold f3_readInto_L11
        dsimp only
        rw [if_neg (show ¬ (200 : Int32) ≤ nI i from nI_ge (b := 200) (by omega) (by decide)), if_neg (fun e => q ((p3_end hT h h2).mp e)), lt_v, at_32, tst0 a (by omega)]
      rcases p3_item hT h hlt hW hd h0 with ⟨a', g', sc', d', e1, e2, e3, e4⟩ | ⟨e1, sc', a', e2, e3⟩
      · rw [e2] at st
        have st : f3_readInto_L11 (nI i, y, at_3 sc a, d) = some (0, (nI (i + 1), nI a, at_3 sc' a', d')) := st.trans (by rw [← nI_1]; rfl)
        obtain ⟨b1, b2, b3, b4⟩ := nx_ok hW e1
        rw [wh_on st, ps_yes (by omega) e1]
        exact ih a' (i + 1) (nI a) sc' d' g' (by omega) b2 (by omega) (e3.tx h) b3 e4 (fun e => by omega)
      · rw [e2] at st
        have st : f3_readInto_L11 (nI i, y, at_3 sc a, d) = some (1, (nI i, nI a, at_3 sc' a', d)) := st
        rw [ps_no (by omega) e1]
        refine ⟨nI i, nI a, at_3 sc' a', d, (wh_off st).trans (by rw [if_neg q]), fun _ => rfl, ⟨(e3.tx h).1, (e3.tx h).2⟩, hd.2.2.2.2.2.2.2, fun e => absurd e q⟩
theorem k6_look {T : Nat → Nat} {L : Nat} (hT : txt T L) : ∀ k a y m v g, L ≤ a + k → a ≤ L → tx_6 m T L → WF g → cnt6 m g → (a = 0 → g = gi 2) → ∃ y' m', wh (f6_goesThrough_L20 0) (y, at_6 m a v) = some (if (ps T L k a g).1 = L then 2 else 1, (y', m')) ∧ ((ps T L k a g).1 ≠ L → y' = nI (ps T L k a g).1) ∧ fr0 m m' ∧ ((ps T L k a g).1 = L → cnt6 m' (ps T L k a g).2) := by
  have hl := hT.1
  have fin : ∀ k y m v g, tx_6 m T L → cnt6 m g → ∃ y' m', wh (f6_goesThrough_L20 0) (y, at_6 m L v) = some (if (ps T L k L g).1 = L then 2 else 1, (y', m')) ∧ ((ps T L k L g).1 ≠ L → y' = nI (ps T L k L g).1) ∧ fr0 m m' ∧ ((ps T L k L g).1 = L → cnt6 m' (ps T L k L g).2) := by
    intro k y m v g h hc
    rw [ps_end (Nat.le_refl L)]
    refine ⟨y, at_6 m L v, ?_, fun h => absurd rfl h, fr0.at_ _ _ _, fun _ => hc⟩
    rw [if_pos rfl]
    apply wh_off
    unfold f6_goesThrough_L20
    dsimp only
    rw [if_pos ((p6_end hT h (Nat.le_refl L)).mpr rfl)]
  intro k
  induction k with
  | zero =>
    intro a y m v g h1 h2 h hW hc h0
    obtain rfl : a = L := by omega
    exact fin 0 y m v g h hc
  | succ k ih =>
    intro a y m v g h1 h2 h hW hc h0
    by_cases q : a = L
    · subst q
      exact fin (k + 1) y m v g h hc
    · have hlt : a < L := by omega
      have st : f6_goesThrough_L20 0 (y, at_6 m a v) = (f6_readsItem (if a = 0 then 1 else 0) 0 (at_6 m a v)).bind fun q9 => (if q9.1 = 0 then (some (1, (nI a, q9.2))) else (some (0, (nI a, q9.2)))) := by
        unfold f6_goesThrough_L20
        dsimp only
        rw [if_neg (fun e => q ((p6_end hT h h2).mp e)), lt_v, at_61, tst0 a (by omega)]
      rcases p6_item0 (v := v) hT h hlt hW hc h0 with ⟨a', g', e1, m', v', e2, e3, e4⟩ | ⟨e1, m', e2, e3⟩
      · rw [e2] at st
        have st : f6_goesThrough_L20 0 (y, at_6 m a v) = some (0, (nI a, at_6 m' a' v')) := st
        obtain ⟨b1, b2, b3, b4⟩ := nx_ok hW e1
        rw [wh_on st, ps_yes (by omega) e1]
        obtain ⟨y2, m2, f1, f2, f3, f4⟩ := ih a' (nI a) m' v' g' (by omega) b2 (e3.tx h) b3 e4 (fun e => by omega)
        exact ⟨y2, m2, f1, f2, e3.tr f3, f4⟩
      · rw [e2] at st
        have st : f6_goesThrough_L20 0 (y, at_6 m a v) = some (1, (nI a, m')) := st
        rw [ps_no (by omega) e1]
        exact ⟨nI a, m', (wh_off st).trans (by rw [if_neg q]), fun _ => rfl, e3, fun e => absurd e q⟩
theorem k6_act {T : Nat → Nat} {L : Nat} (hT : txt T L) : ∀ k a y m v g, L ≤ a + k → a ≤ L → tx_6 m T L → WF g → cnt6 m g → MW m g → (a = 0 → g = gi 2) → (ps T L k a g).1 = L → ∃ y' m', wh (f6_goesThrough_L20 1) (y, at_6 m a v) = some (2, (y', m')) ∧ fr1 m m' ∧ MW m' (ps T L k a g).2 := by
  have hl := hT.1
  have fin : ∀ k y m v g, tx_6 m T L → MW m g → ∃ y' m', wh (f6_goesThrough_L20 1) (y, at_6 m L v) = some (2, (y', m')) ∧ fr1 m m' ∧ MW m' (ps T L k L g).2 := by
    intro k y m v g h hm
    rw [ps_end (Nat.le_refl L)]
    refine ⟨y, at_6 m L v, ?_, (fr0.at_ _ _ _).to1, (fr0.at_ _ _ _).MW hm⟩
    apply wh_off
    unfold f6_goesThrough_L20
    dsimp only
    rw [if_pos ((p6_end hT h (Nat.le_refl L)).mpr rfl)]
  intro k
  induction k with
  | zero =>
    intro a y m v g h1 h2 h hW hc hm h0 hp
    obtain rfl : a = L := by omega
    exact fin 0 y m v g h hm
  | succ k ih =>
    intro a y m v g h1 h2 h hW hc hm h0 hp
    by_cases q : a = L
    · subst q
      exact fin (k + 1) y m v g h hm
    · have hlt : a < L := by omega
      have st : f6_goesThrough_L20 1 (y, at_6 m a v) = (f6_readsItem (if a = 0 then 1 else 0) 1 (at_6 m a v)).bind fun q9 => (if q9.1 = 0 then (some (1, (nI a, q9.2))) else (some (0, (nI a, q9.2)))) := by
        unfold f6_goesThrough_L20
        dsimp only
        rw [if_neg (fun e => q ((p6_end hT h h2).mp e)), lt_v, at_61, tst0 a (by omega)]
      cases e1 : nx T L a g with
      | none =>
        rw [ps_no (by omega) e1] at hp
        exact absurd hp q
      | some p =>
        obtain ⟨a', g'⟩ := p
        rw [ps_yes (by omega) e1] at hp ⊢
        obtain ⟨m', v', e2, e3, e4, e5⟩ := p6_item1 (v := v) hT h hlt hW hc hm h0 e1
        rw [e2] at st
        have st : f6_goesThrough_L20 1 (y, at_6 m a v) = some (0, (nI a, at_6 m' a' v')) := st
        obtain ⟨b1, b2, b3, b4⟩ := nx_ok hW e1
        rw [wh_on st]
        obtain ⟨y2, m2, f1, f3, f4⟩ := ih a' (nI a) m' v' g' (by omega) b2 (e3.tx h) b3 e4 e5 (fun e => by omega) hp
        exact ⟨y2, m2, f1, e3.tr f3, f4⟩
theorem gi2_WF : WF (gi 2) := gi_WF (by decide) (by decide)
theorem c_read {T : Nat → Nat} {L : Nat} (hT : txt T L) {sc d : ob} (h : tx_3 sc T L) (hF : FL d) : ∃ sc' d', f3_readInto sc d = some (if (ps T L L 0 (gi 2)).1 = L then -4 else nI (ps T L L 0 (gi 2)).1, sc', d') ∧ tx_3 sc' T L ∧ FL d' ∧ ((ps T L L 0 (gi 2)).1 = L → TW d' (ps T L L 0 (gi 2)).2) := by
  have hd : TW (sI (sI (sI (sI (sI (sI d 0 2) 1 0) 7 0) 12 0) 13 0) 14 0) (gi 2) := ⟨⟨rfl, rfl, fun i hi => absurd hi (Nat.not_lt_zero _)⟩, rfl, rfl, rfl, rfl, fun k r hr => absurd hr (Nat.not_lt_zero _), fun i hi => absurd hi (Nat.not_lt_zero _), hF⟩
  obtain ⟨i', y', sc', d', e, e1, e2, e3, e4⟩ := k3_in hT L 0 0 0 sc _ (gi 2) (by omega) (by omega) (Nat.le_refl 0) h gi2_WF hd (fun _ => rfl)
  refine ⟨sc', d', ?_, e2, e3, e4⟩
  have e : wh f3_readInto_L11 (0, 0, sI sc 2 0, sI (sI (sI (sI (sI (sI d 0 2) 1 0) 7 0) 12 0) 13 0) 14 0) = _ := e
  unfold f3_readInto f4_clear
  simp only [Option.bind_some, lt_v]
  rw [e]
  simp only [Option.bind_some]
  by_cases q : (ps T L L 0 (gi 2)).1 = L
  · rw [if_pos q, if_pos q]; rfl
  · rw [if_neg q, if_neg q, e1 q]; rfl
def sT (m : ob) : ob := sI (sI (sI (sI m 31 0) 35 2) 36 0) 37 0
theorem sT_fr (m : ob) : fr0 m (sT m) := ((kset (by decide)).tr (kset (by decide))).tr ((kset (by decide)).tr (kset (by decide)))
theorem m_look {T : Nat → Nat} {L : Nat} (hT : txt T L) {m : ob} (h : tx_6 m T L) : ∃ m', f6_goesThrough 0 m = some (if (ps T L L 0 (gi 2)).1 = L then -4 else nI (ps T L L 0 (gi 2)).1, m') ∧ fr0 m m' ∧ ((ps T L L 0 (gi 2)).1 = L → cnt6 m' (ps T L L 0 (gi 2)).2) := by
  obtain ⟨y', m', e, e1, e2, e3⟩ := k6_look hT L 0 0 (sT m) ((sT m).1 32) (gi 2) (by omega) (by omega) ((sT_fr m).tx h) gi2_WF ⟨rfl, rfl, rfl⟩ (fun _ => rfl)
  refine ⟨m', ?_, (sT_fr m).tr e2, e3⟩
  rw [at_6_self (show (sT m).1 31 = nI 0 from rfl)] at e
  have e : wh (f6_goesThrough_L20 0) (0, sI (sI (sI (sI m 31 0) 35 2) 36 0) 37 0) = _ := e
  unfold f6_goesThrough
  simp only [lt_v]
  rw [e]
  simp only [Option.bind_some]
  by_cases q : (ps T L L 0 (gi 2)).1 = L
  · rw [if_pos q, if_pos q]; rfl
  · rw [if_neg q, if_neg q, e1 q]; rfl
theorem m_act {T : Nat → Nat} {L : Nat} (hT : txt T L) {m : ob} (h : tx_6 m T L) (hm : MW m (gi 2)) (hp : (ps T L L 0 (gi 2)).1 = L) : ∃ m', f6_goesThrough 1 m = some (-4, m') ∧ fr1 m m' ∧ MW m' (ps T L L 0 (gi 2)).2 := by
  obtain ⟨y', m', e, e2, e3⟩ := k6_act hT L 0 0 (sT m) ((sT m).1 32) (gi 2) (by omega) (by omega) ((sT_fr m).tx h) gi2_WF ⟨rfl, rfl, rfl⟩ ((sT_fr m).MW hm) (fun _ => rfl) hp
  refine ⟨m', ?_, (sT_fr m).to1.tr e2, e3⟩
  rw [at_6_self (show (sT m).1 31 = nI 0 from rfl)] at e
  have e : wh (f6_goesThrough_L20 1) (0, sI (sI (sI (sI m 31 0) 35 2) 36 0) 37 0) = _ := e
  unfold f6_goesThrough
  simp only [lt_v]
  rw [e]
  rfl
section PARSE
variable {ROK : ob → nb → Prop} {x sc now draft net paces route m : ob} {past saved : Nat → ob} {g : nb}
theorem rq_fault (H : RG ROK x sc now draft past saved net paces route m g) : ∃ ans sc' draft' m', f5_fault x sc draft = some (ans, sc', draft') ∧ f6_fault m = some (ans, m') ∧ RG ROK x sc' now draft' past saved net paces route m' g := by
  obtain ⟨hW, ht, hm, ⟨L, T, x1, x2, x3, x4⟩, hP, hK, hF, hN, hV, hR⟩ := H
  have hT : txt T L := ⟨x3, fun i hi => (x4 i hi).2.2⟩
  obtain ⟨sc', d', e1, e2, e3, -⟩ := c_read hT (sc := sc) ⟨x1, fun i hi => (x4 i hi).1⟩ hF
  obtain ⟨m', f1, f2, -⟩ := m_look hT (m := m) ⟨x2, fun i hi => (x4 i hi).2.1⟩
  refine ⟨if (ps T L L 0 (gi 2)).1 = L then -4 else nI (ps T L L 0 (gi 2)).1, sc', d', m', ?_, ?_, hW, ht, f2.MW hm, ⟨L, T, e2.1, ?_, x3, fun i hi => ⟨e2.2 i hi, ?_, (x4 i hi).2.2⟩⟩, ?_, ?_, e3, hN, hV, hR⟩
  · unfold f5_fault
    rw [e1]
    rfl
  · unfold f6_fault
    rw [f1]
    rfl
  · rw [f2.1 30 (by decide)]; exact x2
  · rw [f2.2 29 (by decide)]; exact (x4 i hi).2.1
  · unfold RP; rw [f2.1 9 (by decide), f2.2 10 (by decide)]; exact hP
  · unfold RK; rw [f2.1 11 (by decide), f2.2 12 (by decide)]; exact hK
theorem rq_lay (H : RG ROK x sc now draft past saved net paces route m g) : ∃ ans x' sc' now' draft' m' g', f5_lay x sc now draft = some (ans, x', sc', now', draft') ∧ f6_lay m = some (ans, m') ∧ RG ROK x' sc' now' draft' past saved net paces route m' g' := by
  obtain ⟨hW, ht, hm, ⟨L, T, x1, x2, x3, x4⟩, hP, hK, hF, hN, hV, hR⟩ := H
  have hT : txt T L := ⟨x3, fun i hi => (x4 i hi).2.2⟩
  obtain ⟨sc', d', e1, e2, e3, e4⟩ := c_read hT (sc := sc) ⟨x1, fun i hi => (x4 i hi).1⟩ hF
  obtain ⟨m', f1, f2, f3⟩ := m_look hT (m := m) ⟨x2, fun i hi => (x4 i hi).2.1⟩
  have x4' : tx_6 m T L := ⟨x2, fun i hi => (x4 i hi).2.1⟩
  have hw0 := ps_WF (T := T) (L := L) L 0 (gi 2) gi2_WF (Nat.zero_le _)
  generalize hps : ps T L L 0 (gi 2) = P at e1 e4 f1 f3 hw0
  have keep : RG ROK x sc' now d' past saved net paces route m' g := by
    refine ⟨hW, ht, f2.MW hm, ⟨L, T, e2.1, ?_, x3, fun i hi => ⟨e2.2 i hi, ?_, (x4 i hi).2.2⟩⟩, ?_, ?_, e3, hN, hV, hR⟩
    · rw [f2.1 30 (by decide)]; exact x2
    · rw [f2.2 29 (by decide)]; exact (x4 i hi).2.1
    · unfold RP; rw [f2.1 9 (by decide), f2.2 10 (by decide)]; exact hP
    · unfold RK; rw [f2.1 11 (by decide), f2.2 12 (by decide)]; exact hK
  by_cases q : P.1 = L
  case neg =>
    rw [if_neg q] at e1 f1
    have n4 : ¬ nI P.1 = -4 := nI_ne_neg (b := 4) (by have := hT.1; omega) (by decide) (by decide)
    refine ⟨-2, x, sc', now, d', m', g, ?_, ?_, keep⟩
    · unfold f5_lay
      rw [e1]
      simp only [Option.bind_some]
      rw [if_neg n4]
    · unfold f6_lay
      rw [f1]
      simp only [Option.bind_some]
      rw [if_neg n4]
  rw [if_pos q] at e1 f1
  have td := e4 q
  have tc := f3 q
  have h10 := hw0.1.2.1.2.1
  by_cases q0 : P.2.1 1 = 0
  case pos =>
    refine ⟨-2, x, sc', now, d', m', g, ?_, ?_, keep⟩
    · unfold f5_lay
      rw [e1]
      simp only [Option.bind_some]
      rw [if_pos trivial, td.2.1, if_pos (by rw [q0]; rfl)]
    · unfold f6_lay
      rw [f1]
      simp only [Option.bind_some]
      rw [if_pos trivial, tc.2.1, if_pos (by rw [q0]; rfl)]
  obtain ⟨now', en, tn⟩ := copyTW now d' td hw0.1
  generalize hM : sI (sI (sI (sI (sI (sI (sI (sI m' 0 2) 1 0) 3 0) 5 0) 6 0) 8 0) 9 0) 11 0 = M
  have mM : MW M (gi 2) := by
    rw [← hM]
    exact ⟨⟨rfl, rfl, fun i hi => absurd hi (Nat.not_lt_zero _)⟩, fun r hr => absurd hr (Nat.not_lt_zero _), rfl, rfl, rfl, rfl, fun i hi => absurd hi (Nat.not_lt_zero _), fun r hr => absurd hr (Nat.not_lt_zero _), fun i hi => absurd hi (Nat.not_lt_zero _)⟩
  have M30 : M.1 30 = m'.1 30 := by rw [← hM]; rfl
  have M9 : M.1 9 = nI 0 := by rw [← hM]; rfl
  have M11 : M.1 11 = nI 0 := by rw [← hM]; rfl
  have MR2 : M.2 = m'.2 := by rw [← hM]; rfl
  have t6 : tx_6 M T L := ⟨by rw [M30]; exact (f2.tx x4').1, fun i hi => by rw [MR2]; exact (f2.tx x4').2 i hi⟩
  obtain ⟨m2, a1, a2, a3⟩ := m_act hT t6 mM (by rw [hps]; exact q)
  rw [hps] at a3
  obtain ⟨x', ex, y9, y11, y14, yi, y2⟩ := c_noteNew (sI (sI x 5 0) 7 0)
  have t2 := a2.tx t6
  obtain ⟨pc, pn, P0, -, -, -, p4, p5, -⟩ := hP
  refine ⟨nI (P.2.1 1), x', sc', now', d', m2, P.2, ?_, ?_, hw0.1, tn, a3, ⟨L, T, e2.1, t2.1, x3, fun i hi => ⟨e2.2 i hi, t2.2 i hi, (x4 i hi).2.2⟩⟩, ⟨0, pn, P0, ?_, ?_, by decide, ?_, p5, fun j hj => absurd hj (Nat.not_lt_zero _)⟩, ⟨0, P0, ?_, ?_, by decide, fun j hj => absurd hj (Nat.not_lt_zero _)⟩, e3, Or.inl y9, Or.inl y11, Or.inl y14⟩
  · unfold f5_lay
    rw [e1]
    simp only [Option.bind_some]
    rw [if_pos trivial, td.2.1, if_neg (nIz (by omega) q0), en]
    simp only [Option.bind_some, lt_v]
    rw [ex]
    simp only [Option.bind_some]
    rw [tn.2.1]
  · unfold f6_lay
    rw [f1]
    simp only [Option.bind_some]
    rw [if_pos trivial, tc.2.1, if_neg (nIz (by omega) q0)]
    simp only [lt_v]
    rw [hM, a1]
    simp only [Option.bind_some]
    rw [a3.2.2.1]
  · rw [yi 5 (by decide) (by decide) (by decide)]; rfl
  · rw [a2.1 9 (by decide) (by decide)]; exact M9
  · rw [yi 4 (by decide) (by decide) (by decide)]; exact p4
  · rw [yi 7 (by decide) (by decide) (by decide)]; rfl
  · rw [a2.1 11 (by decide) (by decide)]; exact M11
end PARSE
