/-! run: the call -/
theorem p6_ruleOn' {g : nb} (hW : WF g) {m : ob} (hm : MW m g) (hw : WM g m) {p : Nat} {l : List Nat} (hI : RI g l p) (h0 : 0 < tv g l p) (hf : tv g l p < 1000000000) (h22 : m.1 22 = nI l.length) (hrm : RM g m l) : ∃ m', f6_ruleOn (nI p) (nI (tv g l p)) m = some (nI (nxr g l p), m') ∧ ka m m' := by
  cases l with
  | nil => rw [tv_nil hf] at h0; exact absurd h0 (Nat.lt_irrefl _)
  | cons y l => exact p6_ruleOn hW hm hw hI h0 hf h22 hrm
theorem p6_towerSteps' {g : nb} (hW : WF g) {m : ob} (hm : MW m g) (hw : WM g m) {p r : Nat} {l : List Nat} (hI : RI g l p) (h0 : 0 < tv g l p) (hf : tv g l p < 1000000000) (hr : r < g.1 1) (h22 : m.1 22 = nI l.length) (hrm : RM g m l) : ∃ m', f6_towerSteps (nI r) m = some m' ∧ kr m m' ∧ m'.1 22 = nI (lw (g.2 5 r) ++ l.tail).length ∧ RM g m' (lw (g.2 5 r) ++ l.tail) := by
  have hlen := RI_len hW hI hf
  cases l with
  | nil => rw [tv_nil hf] at h0; exact absurd h0 (Nat.lt_irrefl _)
  | cons y l =>
    rw [List.length_cons] at hlen
    rw [List.tail_cons]
    exact p6_towerSteps hW hm hw hr (fun x hx => hI.1 x (List.mem_cons_of_mem _ hx)) (by omega) h22 hrm.2.2
theorem cfg_at {g : nb} (hW : WF g) (hF : L0 g < 1000000000) {j : Nat} (hj : j < L0 g) : RI g (cfg g j).1 (cfg g j).2 ∧ 0 < tv g (cfg g j).1 (cfg g j).2 ∧ tv g (cfg g j).1 (cfg g j).2 < 1000000000 ∧ tv g (cfg g j).1 (cfg g j).2 + j = L0 g := by
  unfold L0 at hF hj ⊢
  obtain ⟨i1, i2⟩ := cfg_ok hW hF j (by omega)
  exact ⟨i1, by omega, by omega, i2⟩
theorem m_run {g : nb} (hW : WF g) {m : ob} (hm : MW m g) (hF : L0 g < 1000000000) {k : Nat} (hk : k < L0 g) (hw : WM g m) (h22 : m.1 22 = nI (sk g (g.1 14)).length) (hrm : RM g m (sk g (g.1 14))) : ∃ m', (f6_ruleOn (nI (g.1 13)) (nI (L0 g)) m).bind (fun q9 => (wh (f6_run_L67 (nI k)) (nI (L0 g), q9.1, 0, q9.2)).bind fun q10 => some (q10.2.2.1, q10.2.2.2.2)) = some (nI (nxr g (cfg g k).1 (cfg g k).2), m') ∧ kr m m' := by
  have h10 := hW.2.1.2.1
  have hS := hW.1.2.1
  obtain ⟨i1, i2, i3, i4⟩ := cfg_at hW hF (show 0 < L0 g by omega)
  obtain ⟨a, ea, ka1⟩ := p6_ruleOn' hW hm hw (p := g.1 13) (l := sk g (g.1 14)) i1 i2 i3 h22 hrm
  obtain ⟨z, ez, z1, z2, z3⟩ := wh_fr (st := f6_run_L67 (nI k)) (fun i (b : ob) => (nI (tv g (cfg g i).1 (cfg g i).2), nI (nxr g (cfg g i).1 (cfg g i).2), nI i, b)) k (fun i z => kr m z ∧ z.1 22 = nI (cfg g i).1.length ∧ RM g z (cfg g i).1) (b0 := a) ⟨ka1.kr, by rw [ka1.1]; exact h22, ka1.RM hrm⟩
    (by
      intro z _
      unfold f6_run_L67
      dsimp only
      rw [if_pos (nI_le (Nat.le_refl _) (by have := tv_le g (sk g (g.1 14)) (g.1 13); unfold L0 at hk; omega))])
    (by
      rintro i z hi ⟨z1, z2, z3⟩
      have hL := tv_le g (sk g (g.1 14)) (g.1 13)
      obtain ⟨j1, j2, j3, j4⟩ := cfg_at hW hF (show i < L0 g by omega)
      obtain ⟨k1, k2, k3, k4⟩ := cfg_at hW hF (show i + 1 < L0 g by omega)
      obtain ⟨n1, n2, n3⟩ := nxr_ok hW j1 j2 j3
      obtain ⟨c1, c2, c3, c4⟩ := hW.2.1.1 _ n1
      have mz := z1.MW hm
      obtain ⟨u, eu, u1, u2, u3⟩ := p6_towerSteps' hW mz (z1.WM hw) j1 j2 j3 n1 z2 z3
      have ku := z1.tr u1
      have mu := ku.MW hm
      obtain ⟨y, ey, y1⟩ := p6_ruleOn' hW mu (ku.WM hw) k1 k2 k3 u2 u3
      have b3 := (mu.2.1 _ n1).2.2.1
      have e7 : (7 : Int32) * nI (nxr g (cfg g i).1 (cfg g i).2) = nI (7 * nxr g (cfg g i).1 (cfg g i).2) := by rw [show (7 : Int32) = nI 7 from rfl, nI_mul]
      have e72 : nI (7 * nxr g (cfg g i).1 (cfg g i).2) + 2 = nI (7 * nxr g (cfg g i).1 (cfg g i).2 + 2) := nI_add _ 2
      have el : nI (tv g (cfg g i).1 (cfg g i).2) + (-1) = nI (tv g (cfg g (i + 1)).1 (cfg g (i + 1)).2) := by
        rw [show (-1 : Int32) = -(nI 1) from rfl, ← Int32.sub_eq_add_neg, nI_sub (by omega)]
        exact congrArg nI (by omega)
      have ey : f6_ruleOn (nI (g.2 4 (nxr g (cfg g i).1 (cfg g i).2))) (nI (tv g (cfg g (i + 1)).1 (cfg g (i + 1)).2)) u = some (nI (nxr g (cfg g (i + 1)).1 (cfg g (i + 1)).2), y) := ey
      refine ⟨y, ?_, ku.tr y1.kr, by rw [y1.1]; exact u2, y1.RM u3⟩
      unfold f6_run_L67
      dsimp only
      rw [if_neg (nI_ge hi (by unfold L0 at hk; omega)), eu]
      simp only [Option.bind_some]
      rw [e7, e72, vin_nI (by omega), gd_p (show 7 * nxr g (cfg g i).1 (cfg g i).2 + 2 < 70 by omega), nI_clamp (by omega), b3, lt_v, lt_v, el, ey]
      simp only [Option.bind_some, lt_v, nI_1])
  refine ⟨z, ?_, z1⟩
  have ea : f6_ruleOn (nI (g.1 13)) (nI (L0 g)) m = some (nI (nxr g (cfg g 0).1 (cfg g 0).2), a) := ea
  have ez : wh (f6_run_L67 (nI k)) (nI (L0 g), nI (nxr g (cfg g 0).1 (cfg g 0).2), 0, a) = _ := ez
  rw [ea]
  simp only [Option.bind_some]
  rw [ez]
  simp only [Option.bind_some]
theorem rok_steps {g : nb} (hW : WF g) {rt : ob} (h : rok rt g) : f2_steps rt = some (if L0 g < 1000000000 then nI (L0 g) else -4) := by
  obtain ⟨j, ⟨-, -, r4, r6, -⟩, hj⟩ := h
  have hL : L0 g ≤ 1000000000 := tv_le _ _ _
  have e : L0 g < 1000000000 ∧ tv g (cfg g j).1 (cfg g j).2 + j = L0 g ∨ (¬ L0 g < 1000000000 ∧ 1000000000 ≤ tv g (cfg g j).1 (cfg g j).2) := by
    by_cases q : L0 g < 1000000000
    · refine Or.inl ⟨q, ?_⟩
      rcases hj with e | ⟨e1, -, -⟩
      · subst e; rfl
      · unfold L0 at q e1 ⊢
        exact (cfg_ok hW q j e1).2
    · rcases hj with e | ⟨-, e1, -⟩
      · subst e
        exact Or.inr ⟨q, Nat.le_of_not_lt q⟩
      · exact absurd e1 q
  have hv := tv_le g (cfg g j).1 (cfg g j).2
  unfold f2_steps
  rw [r4, r6, eL_F]
  rcases e with ⟨e1, e2⟩ | ⟨e1, e2⟩
  · rw [if_neg (fun h => Nat.not_le.mpr (show tv g (cfg g j).1 (cfg g j).2 < 1000000000 by omega) ((eL_leI (Nat.le_refl _) hv).mp h)), if_pos e1, nI_eL (show j < 1000000000 by omega), eL_add (show j + tv g (cfg g j).1 (cfg g j).2 < 1000000000 by omega), eL_i (by omega), Nat.add_comm, e2]
  · rw [if_pos ((eL_leI (Nat.le_refl _) hv).mpr e2), if_neg e1]
theorem c_renewRoute {g : nb} (hW : WF g) {x now paces route : ob} (ht : TW now g) (hP : PV x paces g) (hR : RV rok x route g) : ∃ x' paces' route', f5_renewRoute x now paces route = some (x', paces', route') ∧ x'.1 11 = 1 ∧ x'.1 14 = 1 ∧ NK paces' g 1 (coO g 1 10) ∧ rok route' g ∧ (∀ k, k ≠ 11 → k ≠ 14 → x'.1 k = x.1 k) := by
  unfold f5_renewRoute
  have n01 : ¬ (1 : Int32) = 0 := by decide
  have first : ∃ x1 p1, ((if (x.1 11) = 0 then ((f0_build 1 (-1) 0 paces now).bind fun q6 => lt (sI x 11 1) fun t7 => some (t7, q6)) else (some (x, paces)))) = some (x1, p1) ∧ x1.1 11 = 1 ∧ NK p1 g 1 (coO g 1 10) ∧ (∀ k, k ≠ 11 → x1.1 k = x.1 k) ∧ (x1.1 14 = 0 ∨ (x1.1 14 = 1 ∧ rok route g)) := by
    have h14 : x.1 14 = 0 ∨ (x.1 14 = 1 ∧ x.1 11 = 1 ∧ rok route g) := hR
    rcases hP with h0 | ⟨h1, h2⟩
    · obtain ⟨o', e, n⟩ := buildS hW 1 (by decide) (-1) 0 _ (oddN hW.2.1 1 0) now ht paces
      have e : f0_build 1 (-1) 0 paces now = some o' := e
      refine ⟨sI x 11 1, o', ?_, rfl, n, fun k hk => by simp only [sI_1, sI_2, sA_1, sA_2, sR_1, sR_2, upd_at, sL_1, sL_2, rL_uL, updL_at, if_neg hk], ?_⟩
      · rw [if_pos h0, e]
        rfl
      · rcases h14 with h | ⟨-, h, -⟩
        · exact Or.inl h
        · rw [h0] at h; exact absurd h (by decide)
    · refine ⟨x, paces, by rw [if_neg (by rw [h1]; decide)], h1, h2, fun _ _ => rfl, ?_⟩
      rcases h14 with h | ⟨h, -, h'⟩
      · exact Or.inl h
      · exact Or.inr ⟨h, h'⟩
  obtain ⟨x1, p1, e, a1, a2, a3, a4⟩ := first
  rw [e]
  simp only [Option.bind_some]
  rcases a4 with h | ⟨h, h'⟩
  · obtain ⟨r', er, ro⟩ := p2_begin hW ht a2 route
    rw [if_pos h, er]
    exact ⟨_, _, _, rfl, a1, rfl, a2, ⟨0, ro, Or.inl rfl⟩, fun k k1 k2 => by simp only [sI_1, sI_2, sA_1, sA_2, sR_1, sR_2, upd_at, sL_1, sL_2, rL_uL, updL_at, if_neg k2]; exact a3 k k1⟩
  · rw [if_neg (by rw [h]; decide)]
    exact ⟨_, _, _, rfl, a1, h, a2, h', fun k k1 _ => a3 k k1⟩
theorem neg1 {y : Int32} (h1 : y < 0) (h2 : -1 ≤ y) : y = -1 := by
  apply Int32.toInt_inj.mp
  rw [Int32.lt_iff_toInt_lt] at h1
  rw [Int32.le_iff_toInt_le] at h2
  have e0 : (0 : Int32).toInt = 0 := by decide
  have e1 : (-1 : Int32).toInt = -1 := by decide
  omega
section RUN
variable {x sc now draft net paces route m : ob} {past saved : Nat → ob} {g : nb}
theorem rq_run (H : RG rok x sc now draft past saved net paces route m g) (x0 : Int32) : ∃ ans x' paces' route' m', f5_run x0 x now paces route = some (ans, x', paces', route') ∧ f6_run x0 m = some (ans, m') ∧ RG rok x' sc now draft past saved net paces' route' m' g := by
  have H2 := H
  obtain ⟨hW, ht, hm, hX, hP, hK, hFd, hN, hV, hR⟩ := H2
  have hS := hW.1.2.1
  obtain ⟨cc1, hH12, cc3⟩ := hW.2.2.1
  by_cases hx : -1 ≤ x0
  case neg =>
    refine ⟨-1, x, paces, route, m, ?_, ?_, H⟩
    · unfold f5_run
      rw [if_neg hx]
    · unfold f6_run
      rw [if_neg hx]
  obtain ⟨x', paces', route', er, a11, a14, aN, aR, ax⟩ := c_renewRoute hW ht hV hR
  obtain ⟨m1, em, mm, mw, mi, mr, m22, mrm⟩ := p6_towerBegins hW hm
  have hL : L0 g ≤ 1000000000 := tv_le _ _ _
  have st := rok_steps hW aR
  -- what stays
  have base : ∀ route2 m2, rok route2 g → kr m1 m2 → RG rok x' sc now draft past saved net paces' route2 m2 g := by
    intro route2 m2 hr2 k2
    have i : ∀ k, k < 13 ∨ k = 30 → m2.1 k = m.1 k := fun k hk => by rw [k2.1 k (by omega), mi k (by omega) (by omega) (by omega) (by omega)]
    have r : ∀ k, k < 13 ∨ 24 < k → m2.2 k = m.2 k := fun k hk => by rw [k2.2 k (by omega) (by omega) (by omega) (by omega), mr k hk]
    refine ⟨hW, ht, k2.MW mm, ?_, ?_, ?_, hFd, ?_, Or.inr ⟨a11, aN⟩, Or.inr ⟨a14, a11, hr2⟩⟩
    · obtain ⟨L, T, b1, b2, b3, b4⟩ := hX
      exact ⟨L, T, b1, by rw [i 30 (by omega)]; exact b2, b3, by rw [r 29 (by omega)]; exact b4⟩
    · obtain ⟨pc, pn, P', b1, b2, b3, b4, b5, b6⟩ := hP
      exact ⟨pc, pn, P', by rw [ax 5 (by decide) (by decide)]; exact b1, by rw [i 9 (by omega)]; exact b2, b3, by rw [ax 4 (by decide) (by decide)]; exact b4, b5, by rw [r 10 (by omega)]; exact b6⟩
    · obtain ⟨kc, K, b1, b2, b3, b4⟩ := hK
      exact ⟨kc, K, by rw [ax 7 (by decide) (by decide)]; exact b1, by rw [i 11 (by omega)]; exact b2, b3, by rw [r 12 (by omega)]; exact b4⟩
    · unfold NV; rw [ax 9 (by decide) (by decide)]; exact hN
  have s5 : f5_run x0 x now paces route = (f2_steps route').bind fun q3 => (if q3 = (-4) then (some ((-4), x', paces', route')) else ((if x0 < q3 then ((if x0 = (-1) then (some (q3, x', paces', route')) else (((if (route'.1 6) ≤ (x0 + 1) then (some route') else ((f2_begin route' now paces').bind fun q10 => some q10))).bind fun v7 => (f2_ruleAt x0 v7 now paces').bind fun q8 => some (q8.1, x', paces', q8.2)))) else (some ((-4), x', paces', route'))))) := by
    unfold f5_run
    rw [if_pos hx, er]
    rfl
  rw [st] at s5
  have h14 := mm.2.2.2.2.1
  have h13 := mm.2.2.2.1
  have row := mrm.row (g.1 13) (by omega)
  rw [sk_len] at m22 row
  have e13 : 13 * nI (g.1 14) + nI (g.1 13) = nI (13 * g.1 14 + g.1 13) := by rw [show (13 : Int32) = nI 13 from rfl, nI_mul, nI_add]
  have s6 : f6_run x0 m = (if 0 ≤ cd (L0 g) then ((if x0 = (-1) then (some (cd (L0 g), m1)) else ((if x0 < cd (L0 g) then ((f6_ruleOn (nI (g.1 13)) (cd (L0 g)) m1).bind fun q9 => (wh (f6_run_L67 x0) (cd (L0 g), q9.1, 0, q9.2)).bind fun q10 => some (q10.2.2.1, q10.2.2.2.2)) else (some ((-4), m1)))))) else (some ((-4), m1))) := by
    unfold f6_run
    rw [if_pos hx, em]
    simp only [Option.bind_some]
    rw [m22, h13, e13, vin_nI (show 13 * g.1 14 + g.1 13 < 2 ^ 31 by omega), gd_p (show 13 * g.1 14 + g.1 13 < 5213 by omega), nI_clamp (show 13 * g.1 14 + g.1 13 < 2 ^ 31 by omega), row]
    rfl
  by_cases qF : L0 g < 1000000000
  case neg =>
    rw [if_neg qF] at s5
    simp only [Option.bind_some] at s5
    rw [if_pos trivial] at s5
    rw [cd_ge (by omega), if_neg (by decide)] at s6
    exact ⟨-4, x', paces', route', m1, s5, s6, base route' m1 aR (kr.rf m1)⟩
  rw [if_pos qF] at s5
  simp only [Option.bind_some] at s5
  rw [if_neg (show ¬ nI (L0 g) = -4 from nI_ne_neg (b := 4) (by omega) (by decide) (by decide))] at s5
  rw [cd_lt qF, if_pos (show (0 : Int32) ≤ nI (L0 g) from nI_le (a := 0) (by omega) (by omega))] at s6
  rcases xI x0 with hneg | ⟨k, hk, ek⟩
  · have e1 := neg1 hneg hx
    subst e1
    rw [if_pos (show (-1 : Int32) < nI (L0 g) from nI_neg_lt (b := 1) (by omega) (by decide) (by decide)), if_pos rfl] at s5
    rw [if_pos rfl] at s6
    exact ⟨_, x', paces', route', m1, s5, s6, base route' m1 aR (kr.rf m1)⟩
  subst ek
  have n1 : ¬ nI k = -1 := nI_ne_neg (b := 1) hk (by decide) (by decide)
  rw [if_neg n1] at s6
  by_cases qk : k < L0 g
  case neg =>
    rw [if_neg (nI_nlt (by omega) (by omega))] at s5 s6
    exact ⟨-4, x', paces', route', m1, s5, s6, base route' m1 aR (kr.rf m1)⟩
  rw [if_pos (nI_lt qk (by omega))] at s5 s6
  rw [if_neg n1] at s5
  obtain ⟨m2, e2, k2⟩ := m_run hW mm qF qk mw (by rw [sk_len]; exact m22) mrm
  rw [e2] at s6
  obtain ⟨j, ro, hj⟩ := aR
  have hjb : j < 2 ^ 31 := by
    rcases hj with e | ⟨e, -, -⟩
    · rw [e]; decide
    · omega
  have pick : ∃ v7 j', ((if (route'.1 6) ≤ (nI k + 1) then (some route') else ((f2_begin route' now paces').bind fun q10 => some q10))) = some v7 ∧ RO g v7 j' ∧ j' ≤ k + 1 ∧ (j' = k + 1 → v7.1 5 = nI (nxr g (cfg g k).1 (cfg g k).2)) := by
    by_cases qj : j ≤ k + 1
    · refine ⟨route', j, ?_, ro, qj, fun e => ?_⟩
      · rw [ro.2.2.2.1, nI_1, if_pos (nI_le qj (by omega))]
      · rcases hj with e2 | ⟨-, -, e3⟩
        · omega
        · rw [e3, show j - 1 = k by omega]
    · obtain ⟨r', er, ro'⟩ := p2_begin hW ht aN route'
      refine ⟨r', 0, ?_, ro', by omega, fun e => by omega⟩
      rw [ro.2.2.2.1, nI_1, if_neg (nI_ge (by omega) (by omega)), er]
      rfl
  obtain ⟨v7, j', ev, ro', hj', h5⟩ := pick
  obtain ⟨r2, e3, ro2, r5⟩ := p2_ruleAt hW ht aN qF qk hj' ro' h5
  rw [ev] at s5
  simp only [Option.bind_some] at s5
  rw [e3] at s5
  simp only [Option.bind_some] at s5
  exact ⟨_, x', paces', r2, m2, s5, s6, base r2 m2 ⟨k + 1, ro2, Or.inr ⟨by omega, qF, r5⟩⟩ k2⟩
end RUN
