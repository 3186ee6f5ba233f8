/-! the objects of both sides, and the calls that ask for prices -/
def TW (tw : ob) (g : nb) : Prop := TT tw g ∧ tw.1 1 = nI (g.1 1) ∧ tw.1 12 = nI (g.1 12) ∧ tw.1 13 = nI (g.1 13) ∧ tw.1 14 = nI (g.1 14) ∧ (∀ k r, r < g.1 1 → 2 ≤ k → k ≤ 6 → tw.2 k r = nI (g.2 k r)) ∧ (∀ i, i < g.1 14 → tw.2 15 i = nI (g.2 15 i)) ∧ ∀ t, t < 4 → bz (tw.2 10 t) = true
def MW (m : ob) (g : nb) : Prop := MT m g ∧ MR m g (g.1 1) ∧ m.1 1 = nI (g.1 1) ∧ m.1 5 = nI (g.1 13) ∧ m.1 6 = nI (g.1 14) ∧ m.1 8 = nI (g.1 12) ∧ (∀ i, i < g.1 14 → m.2 7 i = nI (g.2 15 i)) ∧ (∀ r, r < g.1 1 → ∀ j, j < 2 → (lw (g.2 5 r)).length ≤ j → m.2 2 (7 * r + 4 + j) = -(nI 4)) ∧ ∀ i, i < g.1 7 → ∀ j, j < 3 → g.2 9 i ≤ j → m.2 4 (6 * i + 3 + j) = -(nI 4)
def keepM (m m' : ob) : Prop := (∀ k, k ≠ 15 → k ≠ 16 → k ≠ 17 → m'.1 k = m.1 k) ∧ ∀ k, k ≠ 13 → k ≠ 14 → k ≠ 18 → k ≠ 19 → m'.2 k = m.2 k
theorem keepM.rf (m : ob) : keepM m m := ⟨fun _ _ _ _ => rfl, fun _ _ _ _ _ => rfl⟩
theorem keepM.tr {a b c : ob} (h : keepM a b) (h2 : keepM b c) : keepM a c := ⟨fun k q1 q2 q3 => (h2.1 k q1 q2 q3).trans (h.1 k q1 q2 q3), fun k q1 q2 q3 q4 => (h2.2 k q1 q2 q3 q4).trans (h.2 k q1 q2 q3 q4)⟩
theorem MW.keep {m m' : ob} {g : nb} (h : MW m g) (k : keepM m m') : MW m' g := by
  have r2 := k.2 2 (by decide) (by decide) (by decide) (by decide)
  have r4 := k.2 4 (by decide) (by decide) (by decide) (by decide)
  have r7 := k.2 7 (by decide) (by decide) (by decide) (by decide)
  have i : ∀ j, j < 15 → m'.1 j = m.1 j := fun j hj => k.1 j (by omega) (by omega) (by omega)
  obtain ⟨h1, h2, h3, h4, h5, h6, h7, h8, h9⟩ := h
  refine ⟨⟨?_, ?_, ?_⟩, ?_, ?_, ?_, ?_, ?_, ?_, ?_, ?_⟩
  · rw [i 0 (by omega)]; exact h1.1
  · rw [i 3 (by omega)]; exact h1.2.1
  · rw [r4]; exact h1.2.2
  · unfold MR; rw [r2]; exact h2
  · rw [i 1 (by omega)]; exact h3
  · rw [i 5 (by omega)]; exact h4
  · rw [i 6 (by omega)]; exact h5
  · rw [i 8 (by omega)]; exact h6
  · rw [r7]; exact h7
  · rw [r2]; exact h8
  · rw [r4]; exact h9
noncomputable def pickK (p : Nat → Prop) : Nat := @dite _ (∃ K, p K) (Classical.propDecidable _) (fun h => h.choose) (fun _ => 0)
theorem pickK_ok {p : Nat → Prop} (h : ∃ K, p K) : p (pickK p) := by
  unfold pickK
  rw [dif_pos h]
  exact h.choose_spec
noncomputable def lastK (g : nb) (b : Nat) (co : Nat → Nat) : Nat := pickK (fun K => LAST (mxO b) g co (wt0 g) (g.1 1) K)
theorem lastK_ok {g : nb} (h : WT g) (hr : WFr g) (b : Nat) (co : Nat → Nat) : LAST (mxO b) g co (wt0 g) (g.1 1) (lastK g b co) := by
  obtain ⟨K, -, hK⟩ := last_ex (mx := mxO b) (co := co) hr.1 h.2.1 (fun k => (wt0_W2 h).le k)
  exact pickK_ok (p := fun K => LAST (mxO b) g co (wt0 g) (g.1 1) K) ⟨K, hK⟩
theorem cnt_cg {w w' : Nat → Nat} : ∀ {n : Nat}, (∀ k, k < n → w k = w' k) → cnt w n = cnt w' n
  | 0, _ => rfl
  | n + 1, h => by
    rw [cnt_s, cnt_s, h n (by omega), cnt_cg (fun k hk => h k (by omega))]
/-- a built automaton of the class -/
def NK (o : ob) (g : nb) (b : Nat) (co : Nat → Nat) : Prop := o.1 0 = nI (ndn g) ∧ o.1 1 = nI (cnt (wt0 g) 676) ∧ o.1 2 = nI (cnt (fw g b co) 676) ∧ o.1 3 = nI (lastK g b co) ∧ o.1 8 = mxI (mxO b) ∧ (∀ k, k < 676 → rL (o.2 4) k = eL (fw g b co k)) ∧ (∀ k, k < 676 → rL (o.2 5) k = eL (fw g b co k)) ∧ ∀ k, k < 13 → o.2 6 k = nI (acc g (g.1 7) k)
theorem NK.keep {o o' : ob} {g : nb} {b : Nat} {co : Nat → Nat} (h : NK o g b co) (k : keep0 o o') : NK o' g b co := by
  obtain ⟨h1, h2, h3, h4, h5, h6, h7, h8⟩ := h
  refine ⟨?_, ?_, ?_, ?_, ?_, ?_, ?_, ?_⟩
  · rw [k.1 0 (by decide)]; exact h1
  · rw [k.1 1 (by decide)]; exact h2
  · rw [k.1 2 (by decide)]; exact h3
  · rw [k.1 3 (by decide)]; exact h4
  · rw [k.1 8 (by decide)]; exact h5
  · rw [k.2 4 (by decide) (by decide)]; exact h6
  · rw [k.2 5 (by decide) (by decide)]; exact h7
  · rw [k.2 6 (by decide) (by decide)]; exact h8
/-- how the class is told of an odd cost -/
def ODD (g : nb) (b : Nat) (x2 x3 : Int32) (co : Nat → Nat) : Prop := ∀ r, r < g.1 1 → ∃ c, (if nI r = x2 then x3 else nI (g.2 6 r)) = cd c ∧ (c = 1000000000 ∨ c ≤ 9) ∧ co r = if c = 1000000000 then 1000000000 else if b = 1 then 1 else c
theorem ODD.CO {g : nb} {b : Nat} {x2 x3 : Int32} {co : Nat → Nat} (h : ODD g b x2 x3 co) : CO g 9 co := by
  intro r hr hlt
  obtain ⟨c, -, h2, h3⟩ := h r hr
  rw [h3] at hlt ⊢
  by_cases q : c = 1000000000
  · rw [if_pos q] at hlt; omega
  · rw [if_neg q]; split <;> omega
theorem buildS {g : nb} (h : WF g) (b : Nat) (hb : b ≤ 2) (x2 x3 : Int32) (co : Nat → Nat) (hco : ODD g b x2 x3 co) (tw : ob) (ht : TW tw g) (o : ob) : ∃ o', f0_build (nI b) x2 x3 o tw = some o' ∧ NK o' g b co := by
  obtain ⟨hT, hr, hc, -⟩ := h
  have hK := lastK_ok hT hr b co
  obtain ⟨k1, k2⟩ := fw_last hT hr.1 hK
  obtain ⟨o', e, a1, a2, a3, a4, a5, a6, a7, a8⟩ := p0_build g hT hr b (lastK g b co) x2 x3 (by omega) tw ht.1 ht.2.1 ht.2.2.2.2.2.1 co hco (BB b) (fun k => ok_B hT hr b hco.CO k) hK k1 o
  refine ⟨o', e, a1, a2, ?_, a4, a5, fun k hk => ?_, fun k hk => ?_, a8⟩
  · rw [a3, cnt_cg k2]
  · rw [a6 k hk, k2 k hk]
  · rw [a7 k hk, k2 k hk]
theorem fw_le {g : nb} (h : WT g) (b : Nat) (co : Nat → Nat) (k : Nat) : fw g b co k ≤ 1000000000 := ws_all (fun k => (wt0_W2 h).le k) nR k
theorem fw_WB {g : nb} (h : WT g) (hr : WFr g) {b : Nat} {co : Nat → Nat} {r : Nat → Int32} (h5 : ∀ k, k < 676 → rL r k = eL (fw g b co k)) : WB (ndn g) r (fw g b co) :=
  ⟨h5, fun k _ => fw_le h b co k, ws_NT hr.1 (by have := ndn_ge h; omega) h.2.1 (wt0_NT h) nR⟩
theorem priceS {g : nb} (h : WF g) (b : Nat) (co : Nat → Nat) (hco : CO g 9 co) (tw o : ob) (ht : TW tw g) (hN : NK o g b co) : ∃ o', f0_priceOf o tw = some (pI (pri g b co), o') ∧ NK o' g b co := by
  obtain ⟨hT, hr, hc, -⟩ := h
  obtain ⟨o', e, k⟩ := p0_priceOf (mxO b) (fw g b co) g hT hc tw o ht.2.2.2.1 ht.2.2.2.2.1 ht.2.2.2.2.2.2.1 hN.1 hN.2.2.2.2.1 (fw_WB hT hr hN.2.2.2.2.2.2.1) hN.2.2.2.2.2.2.2 (fun i hi fr to h1 h2 h3 h4 => by
    rw [jn_bj h3 h4]
    exact rs_ok hT hr hc b hco i hi fr to h1 h2 h3 h4)
  exact ⟨o', e, hN.keep k⟩
/-- the automaton of the reference -/
def GM (m : ob) (g : nb) (b : Nat) (co : Nat → Nat) : Prop := m.1 15 = nI (ndn g) ∧ m.1 16 = nI (cnt (wt0 g) 676) ∧ m.1 17 = nI (lastK g b co) ∧ (∀ k, k < 676 → m.2 13 k = cd (fw g b co k)) ∧ ∀ k, k < 676 → m.2 14 k = cd (fw g b co k)
theorem growsS {g : nb} (h : WF g) (b : Nat) (hb : b ≤ 2) (wo : Nat) (wI : Int32) (hwo : ∀ r, r < g.1 1 → (nI r = wI ↔ r = wo)) (m : ob) (hm : MW m g) : ∃ m', f6_grows (nI b) wI m = some m' ∧ keepM m m' ∧ GM m' g b (coO g b wo) := by
  obtain ⟨hT, hr, hc, -⟩ := h
  have hK := lastK_ok hT hr b (coO g b wo)
  obtain ⟨k1, k2⟩ := fw_last hT hr.1 hK
  obtain ⟨m', e, a1, a2, a3, a4, a5, a6, a7⟩ := p6_grows g hT hr b wo (lastK g b (coO g b wo)) wI (by omega) hwo (BB b) (fun k => ok_B hT hr b (coO_CO hr b wo) k) hK k1 m hm.1 hm.2.2.1 hm.2.1
  refine ⟨m', e, ⟨a1, a5⟩, a2, a3, a4, fun k hk => ?_, fun k hk => ?_⟩
  · rw [a6 k hk]; exact congrArg cd (k2 k hk)
  · rw [a7 k hk]; exact congrArg cd (k2 k hk)
theorem leastS {g : nb} (h : WF g) (b : Nat) (hb : b ≤ 2) (co : Nat → Nat) (hco : CO g 9 co) (m : ob) (hm : MW m g) (hG : GM m g b co) : ∃ m', f6_least (nI b) m = some (pI (pri g b co), m') ∧ keepM m m' ∧ m'.1 = m.1 ∧ m'.2 13 = m.2 13 := by
  obtain ⟨hT, hr, hc, -⟩ := h
  obtain ⟨m', e, a1, a2⟩ := p6_least (mxO b) b (by omega) (mxO_iff b) (fw g b co) g hT hc m hm.1 hm.2.2.2.1 hm.2.2.2.2.1 hm.2.2.2.2.2.2.1 hG.2.2.2.2 (fun i hi fr to h1 h2 h3 h4 => by
    rw [jn_bj h3 h4]
    exact rs_ok hT hr hc b hco i hi fr to h1 h2 h3 h4)
  exact ⟨m', e, ⟨fun k _ _ _ => by rw [a1], fun k _ _ q3 q4 => a2 k q3 q4⟩, a1, a2 13 (by decide) (by decide)⟩
theorem withoutS {g : nb} (h : WF g) (wo : Nat) (wI : Int32) (hwo : ∀ r, r < g.1 1 → (nI r = wI ↔ r = wo)) (m : ob) (hm : MW m g) : ∃ m', f6_priceWithout wI m = some (pI (pri g (g.1 12) (coO g (g.1 12) wo)), m') ∧ keepM m m' := by
  have hb := h.2.2.2
  have hr := h.2.1
  obtain ⟨a, ea, k1, G⟩ := growsS h (g.1 12) hb wo wI hwo m hm
  have ha := hm.keep k1
  obtain ⟨c, ec, k2, -, -⟩ := leastS h (g.1 12) hb _ (coO_CO hr (g.1 12) wo) a ha G
  refine ⟨c, ?_, k1.tr k2⟩
  unfold f6_priceWithout
  rw [hm.2.2.2.2.2.1, ea]
  simp only [Option.bind_some]
  rw [ha.2.2.2.2.2.1, ec]
  simp only [Option.bind_some]
theorem noneI {R : Nat} (hR : R ≤ 10) {x : Nat} (hx : 0 < x) (hx2 : x < 100) : ∀ r, r < R → (nI r = -(nI x) ↔ r = 10) := fun r hr => ⟨fun h => absurd h (nI_ne_neg (by omega) hx (by omega)), fun h => by omega⟩
theorem m_price {g : nb} (h : WF g) (m : ob) (hm : MW m g) : ∃ m', f6_price m = some (pI (pri g (g.1 12) (coO g (g.1 12) 10)), m') ∧ keepM m m' := by
  obtain ⟨m', e, k⟩ := withoutS h 10 (-4) (noneI h.2.1.2.1 (x := 4) (by omega) (by omega)) m hm
  refine ⟨m', ?_, k⟩
  unfold f6_price
  rw [e]
  simp only [Option.bind_some]
theorem oddN {g : nb} (hr : WFr g) (b : Nat) (x3 : Int32) : ODD g b (-1) x3 (coO g b 10) := by
  intro r hr1
  have h10 := hr.2.1
  have h9 := hr.2.2 r hr1
  refine ⟨g.2 6 r, ?_, Or.inr h9, ?_⟩
  · rw [if_neg (show ¬ nI r = -1 from nI_ne_neg (b := 1) (by omega) (by omega) (by omega)), cd_lt (by omega)]
  · unfold coO
    rw [if_neg (by omega), if_neg (show ¬ g.2 6 r = 1000000000 by omega)]
/-- the class's kept automaton -/
def NV (x net : ob) (g : nb) : Prop := x.1 9 = 0 ∨ (x.1 9 = 1 ∧ NK net g (g.1 12) (coO g (g.1 12) 10))
/-- the class's own object: but for the marks of what is kept -/
def keep9 (x x' : ob) : Prop := (∀ k, k ≠ 9 → x'.1 k = x.1 k) ∧ x'.2 = x.2
theorem c_renewNet {g : nb} (h : WF g) (x now net : ob) (ht : TW now g) (hv : NV x net g) : ∃ x' net', f5_renewNet x now net = some (x', net') ∧ x'.1 9 = 1 ∧ NK net' g (g.1 12) (coO g (g.1 12) 10) ∧ keep9 x x' := by
  unfold f5_renewNet
  rcases hv with h0 | ⟨h1, h2⟩
  · obtain ⟨o', e, n⟩ := buildS h (g.1 12) h.2.2.2 (-1) 0 _ (oddN h.2.1 _ _) now ht net
    rw [if_pos h0, ht.2.2.1, e]
    exact ⟨sI x 9 1, o', rfl, rfl, n, fun k hk => by simp only [sI_1, sI_2, sA_1, sA_2, sR_1, sR_2, upd_at, sL_1, sL_2, rL_uL, updL_at, if_neg hk], rfl⟩
  · rw [if_neg (by rw [h1]; decide)]
    exact ⟨x, net, rfl, h1, h2, fun _ _ => rfl, rfl⟩
theorem c_price {g : nb} (h : WF g) (x now net : ob) (ht : TW now g) (hv : NV x net g) : ∃ x' net', f5_price x now net = some (pI (pri g (g.1 12) (coO g (g.1 12) 10)), x', net') ∧ x'.1 9 = 1 ∧ NK net' g (g.1 12) (coO g (g.1 12) 10) ∧ keep9 x x' := by
  obtain ⟨x', net', e, a1, a2, a3⟩ := c_renewNet h x now net ht hv
  obtain ⟨o', e2, n⟩ := priceS h _ _ (coO_CO h.2.1 _ _) now net' ht a2
  refine ⟨x', o', ?_, a1, n, a3⟩
  unfold f5_price
  rw [e]
  simp only [Option.bind_some]
  rw [e2]
  simp only [Option.bind_some]
