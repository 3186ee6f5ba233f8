/-! the class's route: its steps -/
def RO (g : nb) (rt : ob) (j : Nat) : Prop := rt.1 2 = nI (cfg g j).1.length ∧ rt.1 3 = nI (cfg g j).2 ∧ rL (rt.2 4) 0 = eL (tv g (cfg g j).1 (cfg g j).2) ∧ rt.1 6 = nI j ∧ RLt g rt (cfg g j).1
noncomputable def L0 (g : nb) : Nat := tv g (sk g (g.1 14)) (g.1 13)
def rok (rt : ob) (g : nb) : Prop := ∃ j, RO g rt j ∧ (j = 0 ∨ (j ≤ L0 g ∧ L0 g < 1000000000 ∧ rt.1 5 = nI (nxr g (cfg g (j - 1)).1 (cfg g (j - 1)).2)))
theorem p2_begin {g : nb} (hW : WF g) {now : ob} (ht : TW now g) {o : ob} (hN : NK o g 1 (coO g 1 10)) (rt : ob) : ∃ rt', f2_begin rt now o = some rt' ∧ RO g rt' 0 := by
  have hb := ndn_b hW
  have h3 := hW.1.2.1
  obtain ⟨c1, h12, c3⟩ := hW.2.2.1
  obtain ⟨r0, er, r1, r2, r3⟩ := p0_fillBottom hW hN (sI (sI (sI (sI rt 2 (now.1 14)) 3 (now.1 13)) 6 0) 5 (-4))
  have r12 : r0.1 2 = nI (g.1 14) := by rw [r1]; exact ht.2.2.2.2.1
  have r13 : r0.1 3 = nI (g.1 13) := by rw [r1]; exact ht.2.2.2.1
  have r16 : r0.1 6 = nI 0 := by rw [r1]; rfl
  obtain ⟨z, e, z1, z2⟩ := wh_fr (st := f2_begin_L37 now o) (fun i (b : ob) => (nI i, b)) (g.1 14) (fun i z => z.1 = r0.1 ∧ RLs g z (sk g i)) (b0 := r0) ⟨rfl, r3⟩
    (by
      rintro z ⟨z1, z2⟩
      unfold f2_begin_L37
      dsimp only
      rw [z1, r12, if_pos (nI_le (Nat.le_refl _) (by omega))])
    (by
      rintro i z hi ⟨z1, z2⟩
      have hsk := sk_len g i
      have z3 : RLs g (sA z 0 i (nI (g.2 15 i))) (sk g i) := z2.cg hW (fun j hj => by
        show (if j = i then _ else z.2 0 j) = _
        rw [if_neg (by omega)]) (fun j hj => rfl)
      obtain ⟨z4, e4, f1, f2, f3⟩ := p2_fillTail hW hN (rt := sA z 0 i (nI (g.2 15 i))) (x := g.2 15 i) (l := sk g i) (c3 i hi) (sk_mem c3 i (by omega)) (by omega) z3 (by
        show (if (sk g i).length = i then _ else _) = _
        rw [if_pos hsk])
      rw [hsk] at e4
      refine ⟨z4, ?_, f1.trans z1, f3⟩
      unfold f2_begin_L37
      dsimp only
      rw [z1, r12, if_neg (nI_ge hi (by omega)), vin_nI (show i < 2 ^ 31 by omega), gd_p (show i < 12 by omega), vin_nI (show i < 2 ^ 31 by omega), gd_p (show i < 200 by omega), nI_clamp (show i < 2 ^ 31 by omega), lt_v, ht.2.2.2.2.2.2.1 i hi, e4]
      simp only [Option.bind_some, lt_v, nI_1])
  have hr := z2.row (g.1 13) (by omega)
  rw [sk_len] at hr
  have e13 : nI (g.1 14) * 13 + nI (g.1 13) = nI (13 * g.1 14 + g.1 13) := by
    rw [show (13 : Int32) = nI 13 from rfl, nI_mul, nI_add, Nat.mul_comm]
  refine ⟨sF z 4 (eL (tv g (sk g (g.1 14)) (g.1 13))), ?_, ?_, ?_, rL_sF _ _ _, ?_, ?_⟩
  · have e : wh (f2_begin_L37 now o) (0, r0) = _ := e
    unfold f2_begin
    simp only [lt_v]
    rw [er]
    simp only [Option.bind_some]
    rw [e]
    simp only [Option.bind_some]
    rw [z1, r12, r13, e13, vin_nI (show 13 * g.1 14 + g.1 13 < 2 ^ 31 by omega), gd_p (show 13 * g.1 14 + g.1 13 < 2600 by omega), nI_clamp (show 13 * g.1 14 + g.1 13 < 2 ^ 31 by omega), hr]
  · show z.1 2 = nI (sk g (g.1 14)).length
    rw [z1, r12, sk_len]
  · show z.1 3 = nI (g.1 13)
    rw [z1, r13]
  · show z.1 6 = nI 0
    rw [z1, r16]
  · have : RLs g (sF z 4 (eL (tv g (sk g (g.1 14)) (g.1 13)))) (sk g (g.1 14)) := z2.cg hW (fun _ _ => rfl) (fun _ _ => rfl)
    exact this.t
theorem p2_stepsAfter {g : nb} (hW : WF g) {o : ob} (hN : NK o g 1 (coO g 1 10)) {rt : ob} {l : List Nat} {q w : Nat} (hq : q < g.1 0) (hw : w < 21) (hly : ∀ y, y ∈ l → y < 4) (hl : l.length < 199) (h2 : rt.1 2 = nI (l.length + 1)) (hr : RLs g rt l) : f2_stepsAfter (nI q) (nI w) rt o = some (eL (tv g (lw w ++ l) q)) := by
  have hb := ndn_b hW
  have h3 := hW.1.2.1
  have row := hr.row
  have es : nI (l.length + 1) - 1 = nI l.length := nI_sub (a := l.length + 1) (b := 1) (by omega)
  have hlt : ∀ x, x ∈ lw w → x < 4 := fun x hx => lw_lt hw hx
  unfold f2_stepsAfter
  rw [h2, es, lt_v, p5_lettersIn w hw]
  simp only [Option.bind_some]
  by_cases w0 : w = 0
  · rw [lw_0 w0]
    have e13 : nI l.length * 13 + nI q = nI (13 * l.length + q) := by
      rw [show (13 : Int32) = nI 13 from rfl, nI_mul, nI_add, Nat.mul_comm]
    rw [if_pos (by decide), e13, vin_nI (show 13 * l.length + q < 2 ^ 31 by omega), gd_p (show 13 * l.length + q < 2600 by omega), nI_clamp (show 13 * l.length + q < 2 ^ 31 by omega), row q (by omega)]
    rfl
  · rcases lw_cases w0 with ⟨x, hx⟩ | ⟨x, y, hx⟩
    · have f1 := p5_firstLetter w x [] hw hx
      rw [hx] at hlt ⊢
      simp only [List.length_cons, List.length_nil, Nat.zero_add]
      rw [if_neg (show ¬ nI 1 = 0 by decide), if_pos (show nI 1 = 1 from rfl), f1]
      simp only [Option.bind_some]
      rw [p0_stepsOver hW hN (by omega) (by omega) (hlt x (List.mem_cons_self ..)) hly (by omega) row]
      simp only [Option.bind_some]
      rfl
    · have f1 := p5_firstLetter w x [y] hw hx
      have f2 := p5_secondLetter w x y hw hx
      rw [hx] at hlt ⊢
      simp only [List.length_cons, List.length_nil, Nat.zero_add]
      rw [if_neg (show ¬ nI (1 + 1) = 0 by decide), if_neg (show ¬ nI (1 + 1) = 1 by decide), f1]
      simp only [Option.bind_some]
      rw [f2]
      simp only [Option.bind_some]
      rw [p0_stepsOverTwo hW hN (by omega) (by omega) (hlt x (List.mem_cons_self ..)) (hlt y (List.mem_cons_of_mem _ (List.mem_cons_self ..))) hly (by omega) row]
      simp only [Option.bind_some]
      rfl
theorem p2_replaceTop {g : nb} (hW : WF g) {o : ob} (hN : NK o g 1 (coO g 1 10)) {rt : ob} {l : List Nat} {w : Nat} (hw : w < 21) (hly : ∀ y, y ∈ l → y < 4) (hl : l.length < 197) (h2 : rt.1 2 = nI (l.length + 1)) (hr : RLs g rt l) : ∃ rt', f2_replaceTop (nI w) rt o = some rt' ∧ (∀ k, k ≠ 2 → rt'.1 k = rt.1 k) ∧ rt'.1 2 = nI (lw w ++ l).length ∧ rt'.2 4 = rt.2 4 ∧ RLt g rt' (lw w ++ l) := by
  have es : nI (l.length + 1) - 1 = nI l.length := nI_sub (a := l.length + 1) (b := 1) (by omega)
  have hlt : ∀ x, x ∈ lw w → x < 4 := fun x hx => lw_lt hw hx
  have hr1 : RLs g (sI rt 2 (nI l.length)) l := hr.cg hW (fun _ _ => rfl) (fun _ _ => rfl)
  unfold f2_replaceTop
  rw [h2, es, lt_v, p5_lettersIn w hw]
  simp only [Option.bind_some]
  by_cases w0 : w = 0
  · rw [lw_0 w0, if_neg (by decide)]
    simp only [Option.bind_some]
    rw [if_pos (by decide)]
    exact ⟨_, rfl, fun k hk => by simp only [sI_1, sI_2, sA_1, sA_2, sR_1, sR_2, upd_at, sL_1, sL_2, rL_uL, updL_at, if_neg hk], rfl, rfl, hr1.t⟩
  · rcases lw_cases w0 with ⟨x, hx⟩ | ⟨x, y, hx⟩
    · have f1 := p5_firstLetter w x [] hw hx
      rw [hx]
      simp only [List.length_cons, List.length_nil, Nat.zero_add]
      rw [if_neg (show ¬ nI 1 = 2 by decide)]
      simp only [Option.bind_some]
      rw [if_neg (show ¬ nI 1 ≤ 0 by decide), f1]
      simp only [Option.bind_some]
      rw [show (sI rt 2 (nI l.length)).1 2 = nI l.length from rfl, vin_nI (show l.length < 2 ^ 31 by omega), gd_p (show l.length < 200 by omega), nI_clamp (show l.length < 2 ^ 31 by omega), lt_v]
      rw [show (sA (sI rt 2 (nI l.length)) 0 l.length (nI x)).1 2 = nI l.length from rfl, nI_1]
      refine ⟨_, rfl, fun k hk => by simp only [sI_1, sI_2, sA_1, sA_2, sR_1, sR_2, upd_at, sL_1, sL_2, rL_uL, updL_at, if_neg hk], rfl, rfl, ?_, hr1.cg hW (fun j hj => ?_) (fun _ _ => rfl)⟩
      · show (if l.length = l.length then _ else _) = _
        rw [if_pos rfl]
      · show (if j = l.length then _ else rt.2 0 j) = _
        rw [if_neg (by omega)]
        rfl
    · have f1 := p5_firstLetter w x [y] hw hx
      have f2 := p5_secondLetter w x y hw hx
      have hr2 : RLs g (sA (sI rt 2 (nI l.length)) 0 l.length (nI y)) l := hr1.cg hW (fun j hj => by
        show (if j = l.length then _ else rt.2 0 j) = _
        rw [if_neg (by omega)]
        rfl) (fun _ _ => rfl)
      rw [hx] at hlt
      obtain ⟨u, eu, u1, u2, u3⟩ := p2_fillTail hW hN (x := y) (hlt y (List.mem_cons_of_mem _ (List.mem_cons_self ..))) hly (by omega) hr2 (by
        show (if l.length = l.length then _ else _) = _
        rw [if_pos rfl])
      have u12 : u.1 2 = nI l.length := by rw [u1]; rfl
      rw [hx]
      simp only [List.length_cons, List.length_nil, Nat.zero_add]
      rw [if_pos (show nI (1 + 1) = 2 from rfl), f2]
      simp only [Option.bind_some]
      rw [show (sI rt 2 (nI l.length)).1 2 = nI l.length from rfl, vin_nI (show l.length < 2 ^ 31 by omega), gd_p (show l.length < 200 by omega), nI_clamp (show l.length < 2 ^ 31 by omega), lt_v]
      rw [show (sA (sI rt 2 (nI l.length)) 0 l.length (nI y)).1 2 = nI l.length from rfl, eu]
      simp only [Option.bind_some, lt_v]
      rw [u12, nI_1, if_neg (show ¬ nI (1 + 1) ≤ 0 by decide), f1]
      simp only [Option.bind_some]
      rw [show (sI u 2 (nI (l.length + 1))).1 2 = nI (l.length + 1) from rfl, vin_nI (show l.length + 1 < 2 ^ 31 by omega), gd_p (show l.length + 1 < 200 by omega), nI_clamp (show l.length + 1 < 2 ^ 31 by omega)]
      rw [show (sA (sI u 2 (nI (l.length + 1))) 0 (l.length + 1) (nI x)).1 2 = nI (l.length + 1) from rfl, nI_1]
      refine ⟨_, rfl, fun k hk => ?_, rfl, u2 4 (by decide), ?_, u3.cg hW (fun j hj => ?_) (fun _ _ => rfl)⟩
      · simp only [sI_1, sI_2, sA_1, sA_2, sR_1, sR_2, upd_at, sL_1, sL_2, rL_uL, updL_at, if_neg hk]
        rw [u1]
        simp only [sI_1, sI_2, sA_1, sA_2, sR_1, sR_2, upd_at, sL_1, sL_2, rL_uL, updL_at, if_neg hk]
      · show (if (y :: l).length = l.length + 1 then nI x else u.2 0 (y :: l).length) = _
        exact if_pos rfl
      · rw [List.length_cons] at hj
        show (if j = l.length + 1 then nI x else u.2 0 j) = _
        rw [if_neg (by omega)]
theorem p2_advance {g : nb} (hW : WF g) {now : ob} (ht : TW now g) {o : ob} (hN : NK o g 1 (coO g 1 10)) (hF : L0 g < 1000000000) {rt : ob} {j : Nat} (hj : j < L0 g) (h : RO g rt j) : ∃ rt', f2_advance rt now o = some (nI (nxr g (cfg g j).1 (cfg g j).2), rt') ∧ RO g rt' (j + 1) := by
  obtain ⟨i1, i2⟩ := cfg_ok hW hF j (by unfold L0 at hj; omega)
  have hpos : 0 < tv g (cfg g j).1 (cfg g j).2 := by unfold L0 at hj; omega
  have hfin : tv g (cfg g j).1 (cfg g j).2 < 1000000000 := by unfold L0 at hF; omega
  have hlen := RI_len hW i1 hfin
  obtain ⟨n1, n2, n3⟩ := nxr_ok hW i1 hpos hfin
  obtain ⟨i3, i4⟩ := cfg_ok hW hF (j + 1) (by unfold L0 at hj; omega)
  have hstep : cfg g (j + 1) = (lw (g.2 5 (nxr g (cfg g j).1 (cfg g j).2)) ++ (cfg g j).1.tail, g.2 4 (nxr g (cfg g j).1 (cfg g j).2)) := rfl
  obtain ⟨r2, r3, r4, r6, rl⟩ := h
  unfold RO
  rw [hstep] at i4 ⊢
  generalize cfg g j = q at i1 i2 hpos hfin hlen n1 n2 n3 r2 r3 r4 rl i4 hstep ⊢
  obtain ⟨l, p⟩ := q
  dsimp only at *
  have h10 := hW.2.1.2.1
  have hS := hW.1.2.1
  cases l with
  | nil => rw [tv_nil hfin] at hpos; exact absurd hpos (Nat.lt_irrefl _)
  | cons y l =>
    obtain ⟨rl0, rls⟩ := rl
    rw [List.length_cons] at r2 hlen
    rw [List.tail_cons] at i4 ⊢
    have es : nI (l.length + 1) - 1 = nI l.length := nI_sub (a := l.length + 1) (b := 1) (by omega)
    have e4 : eL (tv g (y :: l) p) - 1 = eL (tv g (y :: l) p - 1) := by rw [eL_O, eL_sub hpos hfin]
    have hly : ∀ z, z ∈ l → z < 4 := fun z hz => i1.1 z (List.mem_cons_of_mem _ hz)
    have ltv := tv_le g (y :: l) p
    have hpS := i1.2.1
    have hy := i1.1 y (List.mem_cons_self ..)
    have lp : ∀ k r, r + k = nxr g (y :: l) p → wh (f2_advance_L24 rt now o) (nI r) = some (1, nI (nxr g (y :: l) p)) := by
      intro k
      induction k with
      | zero =>
        intro r hr
        obtain rfl : r = nxr g (y :: l) p := by omega
        obtain ⟨o1, o2, o3⟩ := n2
        rw [List.head?_cons, Option.some.injEq] at o2
        rw [List.tail_cons] at o3
        obtain ⟨a1, a2, a3, a4⟩ := hW.2.1.1 _ n1
        apply wh_off
        unfold f2_advance_L24
        rw [ht.2.1, if_neg (nI_ge n1 (by omega)), vin_nI (by omega), gd_p (show nxr g (y :: l) p < 10 by omega), nI_clamp (by omega), ht.2.2.2.2.2.1 2 _ n1 (by omega) (by omega), r3, if_pos (by rw [o1]), gd_p (show nxr g (y :: l) p < 10 by omega), r2, es, vin_nI (by omega), gd_p (show l.length < 200 by omega), ht.2.2.2.2.2.1 3 _ n1 (by omega) (by omega), nI_clamp (by omega), rl0, if_pos (by rw [← o2]), gd_p (show nxr g (y :: l) p < 10 by omega), gd_p (show nxr g (y :: l) p < 10 by omega), ht.2.2.2.2.2.1 4 _ n1 (by omega) (by omega), ht.2.2.2.2.2.1 5 _ n1 (by omega) (by omega), p2_stepsAfter hW hN a3 a4 hly (by omega) r2 rls]
        simp only [Option.bind_some]
        rw [r4, e4, if_pos (congrArg eL (by omega))]
      | succ k ih =>
        intro r hr
        have hrR : r < g.1 1 := by omega
        obtain ⟨a1, a2, a3, a4⟩ := hW.2.1.1 r hrR
        have no := n3 r (by omega)
        have st : f2_advance_L24 rt now o (nI r) = some (0, nI (r + 1)) := by
          unfold f2_advance_L24
          rw [ht.2.1, if_neg (nI_ge hrR (by omega)), vin_nI (by omega), gd_p (show r < 10 by omega), nI_clamp (by omega), ht.2.2.2.2.2.1 2 _ hrR (by omega) (by omega), r3]
          by_cases q1 : g.2 2 r = p
          · rw [if_pos (by rw [q1]), gd_p (show r < 10 by omega), r2, es, vin_nI (by omega), gd_p (show l.length < 200 by omega), ht.2.2.2.2.2.1 3 _ hrR (by omega) (by omega), nI_clamp (by omega), rl0]
            by_cases q2 : g.2 3 r = y
            · rw [if_pos (by rw [q2]), gd_p (show r < 10 by omega), gd_p (show r < 10 by omega), ht.2.2.2.2.2.1 4 _ hrR (by omega) (by omega), ht.2.2.2.2.2.1 5 _ hrR (by omega) (by omega), p2_stepsAfter hW hN a3 a4 hly (by omega) r2 rls]
              simp only [Option.bind_some, lt_v]
              have lt2 := tv_le g (lw (g.2 5 r) ++ l) (g.2 4 r)
              rw [r4, e4, if_neg (fun e => no ⟨q1, by rw [q2]; rfl, by
                have := (eL_eqI lt2 (by omega)).mp e
                rw [List.tail_cons]
                omega⟩), nI_1]
            · rw [if_neg (fun e => q2 ((nI_eq (by omega) (by omega)).mp e))]
              simp only [lt_v]
              rw [nI_1]
          · rw [if_neg (fun e => q1 ((nI_eq (by omega) (by omega)).mp e))]
            simp only [lt_v]
            rw [nI_1]
        rw [wh_on st]
        exact ih (r + 1) (by omega)
    have lp0 : wh (f2_advance_L24 rt now o) 0 = some (1, nI (nxr g (y :: l) p)) := lp (nxr g (y :: l) p) 0 (by omega)
    obtain ⟨o1, o2, o3⟩ := n2
    rw [List.tail_cons] at o3
    generalize nxr g (y :: l) p = r at n1 n3 o1 o2 o3 lp0 i4 ⊢
    obtain ⟨a1, a2, a3, a4⟩ := hW.2.1.1 r n1
    obtain ⟨u, eu, u1, u2, u4, u3⟩ := p2_replaceTop hW hN a4 hly (show l.length < 197 by omega) r2 rls
    refine ⟨sI (sF (sI u 3 (nI (g.2 4 r))) 4 (eL (tv g (y :: l) p - 1))) 6 (nI (j + 1)), ?_, ?_, rfl, ?_, rfl, ?_⟩
    · unfold f2_advance
      rw [r2, if_neg (nIz (by omega) (by omega)), show nI (l.length + 1) + 2 = nI (l.length + 3) from nI_add _ 2, if_pos (show nI (l.length + 3) < 200 from nI_lt (b := 200) (by omega) (by decide)), lp0]
      simp only [Option.bind_some]
      rw [if_pos trivial, vin_nI (by omega), gd_p (show r < 10 by omega), nI_clamp (by omega), ht.2.2.2.2.2.1 5 _ n1 (by omega) (by omega), eu]
      simp only [Option.bind_some]
      rw [gd_p (show r < 10 by omega), ht.2.2.2.2.2.1 4 _ n1 (by omega) (by omega)]
      simp only [lt_v]
      have v4 : rL ((sI u 3 (nI (g.2 4 r))).2 4) 0 = eL (tv g (y :: l) p) := (congrFun (congrArg rL u4) 0).trans r4
      rw [v4, e4]
      have v6 : (sF (sI u 3 (nI (g.2 4 r))) 4 (eL (tv g (y :: l) p - 1))).1 6 = nI j := (u1 6 (by decide)).trans r6
      rw [v6, nI_1]
    · show u.1 2 = _
      exact u2
    · show rL ((sF (sI u 3 (nI (g.2 4 r))) 4 (eL (tv g (y :: l) p - 1))).2 4) 0 = _
      rw [rL_sF]
      exact congrArg eL (by omega)
    · show RLt g _ (lw (g.2 5 r) ++ l)
      cases hl : lw (g.2 5 r) ++ l with
      | nil => rw [hl] at u3; exact u3
      | cons a b => rw [hl] at u3; exact ⟨u3.1, u3.2.cg hW (fun _ _ => rfl) (fun _ _ => rfl)⟩
