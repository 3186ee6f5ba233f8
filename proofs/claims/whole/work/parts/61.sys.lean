/-! a well made system: its weights, its prices -/
def WF (g : nb) : Prop := WT g ∧ WFr g ∧ WC g ∧ g.1 12 ≤ 2
theorem nR_ex : ∃ n : Nat, n = 676 := ⟨676, rfl⟩
noncomputable def nR : Nat := Classical.choose nR_ex
theorem nR_eq : nR = 676 := Classical.choose_spec nR_ex
noncomputable def fw (g : nb) (b : Nat) (co : Nat → Nat) : Nat → Nat := ws (mxO b) g co (wt0 g) (g.1 1) nR
theorem fw_last {g : nb} (h : WT g) (hg : WR g (g.1 0) (g.1 1)) {b K : Nat} {co : Nat → Nat} (hK : LAST (mxO b) g co (wt0 g) (g.1 1) K) : K < 1000 ∧ ∀ k, k < 676 → ws (mxO b) g co (wt0 g) (g.1 1) K k = fw g b co k := by
  obtain ⟨h1, h2⟩ := last_676 hg h.2.1 (fun k => (wt0_W2 h).le k) hK
  rw [← nR_eq] at h2
  exact ⟨by omega, fun k hk => h2 k (by rw [nR_eq]; exact hk)⟩
/-- costs of rules: at most c, or none -/
def CO (g : nb) (c : Nat) (co : Nat → Nat) : Prop := ∀ r, r < g.1 1 → co r < 1000000000 → co r ≤ c
theorem coO_CO {g : nb} (h : WFr g) (b wo : Nat) : CO g 9 (coO g b wo) := by
  intro r hr h1
  have := h.2.2 r hr
  unfold coO at h1 ⊢
  split
  · rename_i q; rw [if_pos q] at h1; exact absurd h1 (Nat.lt_irrefl _)
  · split <;> omega
theorem coO_CO1 {g : nb} (wo : Nat) : CO g 1 (coO g 1 wo) := by
  intro r hr h1
  unfold coO at h1 ⊢
  split
  · rename_i q; rw [if_pos q] at h1; exact absurd h1 (Nat.lt_irrefl _)
  · rw [if_pos rfl]; exact Nat.le_refl _
theorem sys_bound {g : nb} (h : WT g) (hr : WFr g) {c : Nat} {co : Nat → Nat} (hco : CO g c co) (j fr x to : Nat) (h1 : fr < 13) (h2 : x < 4) (h3 : to < 13) (h4 : ws false g co (wt0 g) (g.1 1) j (52 * fr + 13 * x + to) < 1000000000) :
    (to < g.1 0 → fr < g.1 0 ∧ ws false g co (wt0 g) (g.1 1) j (52 * fr + 13 * x + to) ≤ c * 2359296) ∧ ws false g co (wt0 g) (g.1 1) j (52 * fr + 13 * x + to) ≤ c * 49545216 ∧ (g.1 0 ≤ fr → g.1 0 ≤ to ∧ ws false g co (wt0 g) (g.1 1) j (52 * fr + 13 * x + to) = 0) :=
  all_bound (N := ndn g) (d := dp g (g.1 7)) hr.1 h.2.1 hr.2.1 (wt0_W2 h) (tg_D h _ (Nat.le_refl _)).1 (fun n => dp_le g n _) hco j fr x to h1 h2 h3 h4
def BB (b : Nat) : Nat := if b = 2 then 1000000000 else 445906944
theorem idx (k : Nat) (hk : k < 676) : k / 52 < 13 ∧ k % 52 / 13 < 4 ∧ k % 13 < 13 ∧ 52 * (k / 52) + 13 * (k % 52 / 13) + k % 13 = k := by omega
theorem ok_B {g : nb} (h : WT g) (hr : WFr g) (b : Nat) {co : Nat → Nat} (hco : CO g 9 co) (j : Nat) : OKB (mxO b) (BB b) (ws (mxO b) g co (wt0 g) (g.1 1) j) := by
  unfold BB mxO
  by_cases q : b = 2
  · rw [if_pos q]
    simp only [q, decide_true]
    exact ⟨fun k _ h => Nat.le_of_lt h, Or.inl rfl⟩
  · rw [if_neg q]
    simp only [q, decide_false]
    refine ⟨fun k hk h4 => ?_, Or.inr (by omega)⟩
    obtain ⟨i1, i2, i3, i4⟩ := idx k hk
    rw [← i4] at h4 ⊢
    exact (sys_bound h hr hco j _ _ _ i1 i2 i3 h4).2.1
/-- reading the configuration: no sum comes near 1000000000 -/
theorem rs_bound {g : nb} (h : WT g) (hr : WFr g) (hc : WC g) {co : Nat → Nat} (hco : CO g 9 co) : ∀ i, i ≤ g.1 14 → ∀ to, to < 13 → rs false (fw g 0 co) g i to < 1000000000 → rs false (fw g 0 co) g i to ≤ i * 21233664 + if to < g.1 0 then 0 else 445906944 := by
  intro i
  induction i with
  | zero =>
    intro _ to hto h4
    have : rs false (fw g 0 co) g 0 to = st0 (g.1 13) to := rfl
    rw [this] at h4 ⊢
    unfold st0 at h4 ⊢
    by_cases q : to = g.1 13
    · rw [if_pos q]; exact Nat.zero_le _
    · rw [if_neg q] at h4; exact absurd h4 (Nat.lt_irrefl _)
  | succ i ihi =>
    intro hi to hto h4
    have e : rs false (fw g 0 co) g (i + 1) to = rdm false (fw g 0 co) (rs false (fw g 0 co) g i) (g.2 15 (g.1 14 - 1 - i)) to := rfl
    have hx := hc.2.2 (g.1 14 - 1 - i) (by omega)
    rw [e, rdm_bj] at h4 ⊢
    obtain ⟨fr, hfr, e2⟩ := mn_ex h4
    rw [e2] at h4 ⊢
    obtain ⟨f1, f2⟩ := bj_fin h4
    have ih := ihi (by omega) fr hfr f1
    obtain ⟨b1, b2, b3⟩ := sys_bound h hr hco nR fr (g.2 15 (g.1 14 - 1 - i)) to hfr hx hto f2
    show rs false (fw g 0 co) g i fr + fw g 0 co (52 * fr + 13 * g.2 15 (g.1 14 - 1 - i) + to) ≤ _
    have ew : fw g 0 co (52 * fr + 13 * g.2 15 (g.1 14 - 1 - i) + to) = ws false g co (wt0 g) (g.1 1) nR (52 * fr + 13 * g.2 15 (g.1 14 - 1 - i) + to) := rfl
    rw [ew, Nat.add_mul, Nat.one_mul]
    have b1' : to < g.1 0 → fr < g.1 0 ∧ ws false g co (wt0 g) (g.1 1) nR (52 * fr + 13 * g.2 15 (g.1 14 - 1 - i) + to) ≤ 21233664 := b1
    have b2' : ws false g co (wt0 g) (g.1 1) nR (52 * fr + 13 * g.2 15 (g.1 14 - 1 - i) + to) ≤ 445906944 := b2
    clear b1 b2 e e2 f1 f2 h4 ihi hco
    by_cases q : to < g.1 0
    · obtain ⟨q1, q2⟩ := b1' q
      rw [if_pos q]
      rw [if_pos q1] at ih
      omega
    · rw [if_neg q]
      by_cases q2 : fr < g.1 0
      · rw [if_pos q2] at ih
        omega
      · rw [if_neg q2] at ih
        rw [(b3 (by omega)).2]
        have : i * 21233664 + 445906944 + 0 ≤ i * 21233664 + 21233664 + 445906944 := by generalize i * 21233664 = z; omega
        exact Nat.le_trans (Nat.add_le_add_right ih 0) this
theorem fw_mx0 {g : nb} {b : Nat} {co : Nat → Nat} (h : mxO b = false) : fw g b co = fw g 0 co := by
  unfold fw
  rw [h]
  rfl
theorem rs_ok {g : nb} (h : WT g) (hr : WFr g) (hc : WC g) (b : Nat) {co : Nat → Nat} (hco : CO g 9 co) (i : Nat) (hi : i < g.1 14) (fr to : Nat) (h1 : fr < 13) (h2 : to < 13) (h3 : rs (mxO b) (fw g b co) g i fr < 1000000000) (h4 : fw g b co (52 * fr + 13 * g.2 15 (g.1 14 - 1 - i) + to) < 1000000000) :
    bj (mxO b) (rs (mxO b) (fw g b co) g i fr) (fw g b co (52 * fr + 13 * g.2 15 (g.1 14 - 1 - i) + to)) < 1000000000 := by
  have hx := hc.2.2 (g.1 14 - 1 - i) (by omega)
  have h12 := hc.2.1
  by_cases q : b = 2
  · subst q
    show max _ _ < 1000000000
    omega
  · have hm : mxO b = false := by unfold mxO; simp [q]
    rw [fw_mx0 hm, hm] at h3 ⊢
    rw [fw_mx0 hm] at h4
    have ih := rs_bound h hr hc hco i (by omega) fr h1 h3
    obtain ⟨b1, b2, b3⟩ := sys_bound h hr hco nR fr (g.2 15 (g.1 14 - 1 - i)) to h1 hx h2 h4
    have ew : fw g 0 co (52 * fr + 13 * g.2 15 (g.1 14 - 1 - i) + to) = ws false g co (wt0 g) (g.1 1) nR (52 * fr + 13 * g.2 15 (g.1 14 - 1 - i) + to) := rfl
    show rs false (fw g 0 co) g i fr + fw g 0 co (52 * fr + 13 * g.2 15 (g.1 14 - 1 - i) + to) < 1000000000
    rw [ew]
    by_cases q2 : fr < g.1 0
    · rw [if_pos q2] at ih
      omega
    · rw [if_neg q2] at ih
      rw [(b3 (by omega)).2]
      omega
theorem jn_bj {mx : Bool} {a b : Nat} (ha : a < 1000000000) (hb : b < 1000000000) : jn mx a b = bj mx a b := jn_lt ha hb
/-- the price, where one rule has an odd cost or is left out -/
noncomputable def pri (g : nb) (b : Nat) (co : Nat → Nat) : Nat := prc (mxO b) (fw g b co) g
/-! presence doesn't depend on the mode -/
theorem fj_len {mx : Bool} {w : Nat → Nat} {B : Nat} : ∀ {es : List Nat} {v : Nat}, (∀ e, e ∈ es → w e ≤ B) → fj mx w v es ≤ v + es.length * B
  | [], v, _ => by show v ≤ v + 0 * B; omega
  | e :: es, v, h => by
    show fj mx w (bj mx v (w e)) es ≤ _
    have h1 := fj_len (mx := mx) (w := w) (B := B) (es := es) (v := bj mx v (w e)) (fun e' he => h e' (List.mem_cons_of_mem _ he))
    have h2 := h e List.mem_cons_self
    have h3 : bj mx v (w e) ≤ v + w e := by unfold bj; split <;> omega
    rw [List.length_cons, Nat.add_mul, Nat.one_mul]
    omega
theorem Ch_len : ∀ {l : List Nat} {a b : Nat} {es : List Nat}, Ch l a b es → es.length = l.length
  | [], _, _, _, h => by rw [h.2]
  | _ :: _, _, _, [], h => h.elim
  | x :: l, a, b, e :: es, h => by
    obtain ⟨m, hm, h1, h2⟩ := h
    rw [List.length_cons, List.length_cons, Ch_len h2]
theorem coO_fin {g : nb} (h : WFr g) (b wo r : Nat) (hr : r < g.1 1) : coO g b wo r < 1000000000 ↔ r ≠ wo := by
  have := h.2.2 r hr
  unfold coO
  by_cases q : r = wo
  · rw [if_pos q]; constructor
    · intro h; exact absurd h (Nat.lt_irrefl _)
    · intro h; exact absurd q h
  · rw [if_neg q]
    refine ⟨fun _ => q, fun _ => ?_⟩
    split <;> omega
theorem pres1 {g : nb} (h : WT g) (hr : WFr g) (b b' wo : Nat) : ∀ j k, k < 676 → ws (mxO b) g (coO g b wo) (wt0 g) (g.1 1) j k < 1000000000 → ws (mxO b') g (coO g b' wo) (wt0 g) (g.1 1) j k < 1000000000 := by
  have hw : ∀ k, wt0 g k ≤ 1000000000 := fun k => (wt0_W2 h).le k
  intro j
  induction j with
  | zero => exact fun _ _ h => h
  | succ j ih =>
    intro k hk h4
    by_cases old : ws (mxO b) g (coO g b wo) (wt0 g) (g.1 1) j k < 1000000000
    · exact Nat.lt_of_le_of_lt (ws_dec j k) (ih k hk old)
    · obtain ⟨r, to, es, e1, e2, e3, e4, e5, e6, e7⟩ := ws_ex hr.1 h.2.1 hw (mx := mxO b) (co := coO g b wo) (j := j) (k := k) (by omega)
      rw [e6] at h4
      have hc := (coO_fin hr b' wo r e1).mpr ((coO_fin hr b wo r e1).mp (bj_fin h4).1)
      have hc9 := coO_CO hr b' wo r e1 hc
      have u := ws_ub (mx := mxO b') (co := coO g b' wo) (w0 := wt0 g) (j := j) hr.1 h.2.1 hw e1 e2 e4
      rw [← e3] at u
      have pr : ∀ e, e ∈ es → ws (mxO b') g (coO g b' wo) (wt0 g) (g.1 1) j e < 1000000000 := fun e he => ih e (e5 e he) (e7 e he)
      refine Nat.lt_of_le_of_lt u ?_
      by_cases q : b' = 2
      · subst q
        have f1 : fj true (ws (mxO 2) g (coO g 2 wo) (wt0 g) (g.1 1) j) 0 es ≤ 999999999 := fj_max (by omega) (fun e he => by have := pr e he; omega)
        show max _ _ < 1000000000
        have f1 : fj (mxO 2) (ws (mxO 2) g (coO g 2 wo) (wt0 g) (g.1 1) j) 0 es ≤ 999999999 := f1
        omega
      · have hm : mxO b' = false := by unfold mxO; simp [q]
        have hB := ok_B h hr b' (coO_CO hr b' wo) j
        have f1 := fj_len (mx := mxO b') (w := ws (mxO b') g (coO g b' wo) (wt0 g) (g.1 1) j) (B := 445906944) (es := es) (v := 0) (fun e he => by
          have := hB.1 e (e5 e he) (pr e he)
          unfold BB at this
          rwa [if_neg q] at this)
        have hl := Ch_len e4
        have hl2 := lw_len (w := g.2 5 r)
        have f2 : es.length * 445906944 ≤ 2 * 445906944 := Nat.mul_le_mul_right _ (by omega)
        have f3 : bj (mxO b') (coO g b' wo r) (fj (mxO b') (ws (mxO b') g (coO g b' wo) (wt0 g) (g.1 1) j) 0 es) = coO g b' wo r + fj (mxO b') (ws (mxO b') g (coO g b' wo) (wt0 g) (g.1 1) j) 0 es := by
          rw [hm]; rfl
        omega
theorem pres_rs {g : nb} (h : WT g) (hr : WFr g) (hc : WC g) (b b' wo : Nat) : ∀ i, i ≤ g.1 14 → ∀ to, to < 13 → rs (mxO b) (fw g b (coO g b wo)) g i to < 1000000000 → rs (mxO b') (fw g b' (coO g b' wo)) g i to < 1000000000 := by
  intro i
  induction i with
  | zero => exact fun _ _ _ h4 => h4
  | succ i ihi =>
    intro hi to hto h4
    have e : ∀ b, rs (mxO b) (fw g b (coO g b wo)) g (i + 1) to = rdm (mxO b) (fw g b (coO g b wo)) (rs (mxO b) (fw g b (coO g b wo)) g i) (g.2 15 (g.1 14 - 1 - i)) to := fun _ => rfl
    have hx := hc.2.2 (g.1 14 - 1 - i) (by omega)
    rw [e, rdm_bj] at h4 ⊢
    obtain ⟨fr, hfr, e2⟩ := mn_ex h4
    rw [e2] at h4
    obtain ⟨f1, f2⟩ := bj_fin h4
    have p1 := ihi (by omega) fr hfr f1
    have p2 : fw g b' (coO g b' wo) (52 * fr + 13 * g.2 15 (g.1 14 - 1 - i) + to) < 1000000000 := pres1 h hr b b' wo nR _ (by omega) f2
    exact Nat.lt_of_le_of_lt (mn_le (g := fun fr => bj (mxO b') (rs (mxO b') (fw g b' (coO g b' wo)) g i fr) (fw g b' (coO g b' wo) (52 * fr + 13 * g.2 15 (g.1 14 - 1 - i) + to))) hfr) (rs_ok h hr hc b' (coO_CO hr b' wo) i (by omega) fr to hfr hto p1 p2)
theorem pres_pri {g : nb} (h : WT g) (hr : WFr g) (hc : WC g) (b b' wo : Nat) : pri g b (coO g b wo) < 1000000000 → pri g b' (coO g b' wo) < 1000000000 := by
  intro q
  obtain ⟨n, hn, e⟩ := mn_ex q
  have q : prc (mxO b) (fw g b (coO g b wo)) g < 1000000000 := q
  have e : prc (mxO b) (fw g b (coO g b wo)) g = if acc g (g.1 7) n = 1 then rs (mxO b) (fw g b (coO g b wo)) g (g.1 14) n else 1000000000 := e
  rw [e] at q
  by_cases q1 : acc g (g.1 7) n = 1
  · rw [if_pos q1] at q
    have := pres_rs h hr hc b b' wo _ (Nat.le_refl _) n hn q
    refine Nat.lt_of_le_of_lt (mn_le (g := fun n => if acc g (g.1 7) n = 1 then rs (mxO b') (fw g b' (coO g b' wo)) g (g.1 14) n else 1000000000) hn) ?_
    show (if acc g (g.1 7) n = 1 then _ else _) < 1000000000
    rw [if_pos q1]
    exact this
  · rw [if_neg q1] at q; exact absurd q (Nat.lt_irrefl _)
/-! weights grow with costs -/
theorem rdm_mono {mx : Bool} {w w' rd rd' : Nat → Nat} {x to : Nat} (hw : ∀ k, w k ≤ w' k) (hr : ∀ k, rd k ≤ rd' k) : rdm mx w rd x to ≤ rdm mx w' rd' x to := by
  rw [rdm_bj, rdm_bj]
  exact mn_mono (fun fr _ => bj_mono (hr fr) (hw _))
theorem rdl_mono {mx : Bool} {w w' : Nat → Nat} (hw : ∀ k, w k ≤ w' k) : ∀ {l : List Nat} {rd rd' : Nat → Nat}, (∀ k, rd k ≤ rd' k) → ∀ to, rdl mx w l rd to ≤ rdl mx w' l rd' to
  | [], _, _, hr, to => hr to
  | x :: l, rd, rd', hr, to => rdl_mono hw (l := l) (rd := rdm mx w rd x) (rd' := rdm mx w' rd' x) (fun _ => rdm_mono hw hr) to
theorem rnd_mono {mx : Bool} {g : nb} {co co' wb wb' : Nat → Nat} (hw' : ∀ k, wb' k ≤ 1000000000) (hw : ∀ k, wb k ≤ wb' k) {R : Nat} (hc : ∀ r, r < R → co r ≤ co' r) : ∀ r, r ≤ R → ∀ k, rnd mx g co wb r k ≤ rnd mx g co' wb' r k
  | 0, _, k => hw k
  | r + 1, hr, k => by
    have ih := rnd_mono (mx := mx) (g := g) hw' hw hc r (by omega) k
    rw [rnd_s, rnd_s]
    unfold dr
    split
    · have l1 : rnd mx g co wb r k ≤ 1000000000 := Nat.le_trans (rnd_le r k) (Nat.le_trans (hw k) (hw' k))
      have l2 : rnd mx g co' wb' r k ≤ 1000000000 := Nat.le_trans (rnd_le r k) (hw' k)
      rw [jn_min l1, jn_min l2]
      have := bj_mono (mx := mx) (hc r (by omega)) (rdl_mono (mx := mx) hw (l := lw (g.2 5 r)) (rd := st0 (g.2 4 r)) (rd' := st0 (g.2 4 r)) (fun _ => Nat.le_refl _) (k - bse g r))
      have this : bj mx (co r) (rdw mx wb (g.2 4 r) (g.2 5 r) (k - bse g r)) ≤ bj mx (co' r) (rdw mx wb' (g.2 4 r) (g.2 5 r) (k - bse g r)) := this
      omega
    · exact ih
theorem ws_mono {mx : Bool} {g : nb} {co co' w0 : Nat → Nat} (hw : ∀ k, w0 k ≤ 1000000000) {R : Nat} (hc : ∀ r, r < R → co r ≤ co' r) : ∀ j k, ws mx g co w0 R j k ≤ ws mx g co' w0 R j k
  | 0, _ => Nat.le_refl _
  | j + 1, k => rnd_mono (fun k => ws_all hw j k) (ws_mono hw hc j) hc R (Nat.le_refl _) k
theorem rs_mono {mx : Bool} {g : nb} {w w' : Nat → Nat} (hw : ∀ k, w k ≤ w' k) : ∀ i to, rs mx w g i to ≤ rs mx w' g i to
  | 0, _ => Nat.le_refl _
  | i + 1, _ => rdm_mono hw (rs_mono hw i)
theorem pri_mono {g : nb} (h : WT g) (b : Nat) {co co' : Nat → Nat} (hc : ∀ r, r < g.1 1 → co r ≤ co' r) : pri g b co ≤ pri g b co' :=
  mn_mono (fun n _ => by
    split
    · exact rs_mono (ws_mono (fun k => (wt0_W2 h).le k) hc nR) _ _
    · exact Nat.le_refl _)
