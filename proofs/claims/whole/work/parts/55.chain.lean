/-! readings as chains of edges -/
def bj (mx : Bool) (a b : Nat) : Nat := if mx = true then max a b else a + b
theorem bj_mono {mx : Bool} {a b c d : Nat} (h1 : a ≤ c) (h2 : b ≤ d) : bj mx a b ≤ bj mx c d := by
  unfold bj
  split <;> omega
theorem bj_ge1 {mx : Bool} {a b : Nat} : a ≤ bj mx a b := by
  unfold bj
  split <;> omega
theorem bj_ge2 {mx : Bool} {a b : Nat} : b ≤ bj mx a b := by
  unfold bj
  split <;> omega
theorem jn_cap (mx : Bool) (a b : Nat) : min 1000000000 (jn mx a b) = min 1000000000 (bj mx a b) := by
  unfold jn bj
  split
  · split <;> omega
  · split
    · split <;> omega
    · rfl
theorem jn_min {mx : Bool} {a b c : Nat} (hc : c ≤ 1000000000) : min c (jn mx a b) = min c (bj mx a b) := by
  have := jn_cap mx a b
  omega
theorem mn_cap {g h : Nat → Nat} : ∀ {n : Nat}, (∀ i, i < n → min 1000000000 (g i) = min 1000000000 (h i)) → mn g n = mn h n
  | 0, _ => rfl
  | n + 1, e => by
    rw [mn_succ, mn_succ, mn_cap (fun i hi => e i (by omega))]
    have h1 := mn_le_FR h n
    have h2 := e n (by omega)
    omega
theorem mn_mono {g h : Nat → Nat} : ∀ {n : Nat}, (∀ i, i < n → g i ≤ h i) → mn g n ≤ mn h n
  | 0, _ => Nat.le_refl _
  | n + 1, e => by
    rw [mn_succ, mn_succ]
    have h1 := mn_mono (n := n) (fun i hi => e i (by omega))
    have h2 := e n (by omega)
    omega
theorem rdm_bj (mx : Bool) (w rd : Nat → Nat) (x to : Nat) : rdm mx w rd x to = mn (fun fr => bj mx (rd fr) (w (52 * fr + 13 * x + to))) 13 := mn_cap (fun _ _ => jn_cap _ _ _)
def fj (mx : Bool) (w : Nat → Nat) : Nat → List Nat → Nat
  | v, [] => v
  | v, e :: es => fj mx w (bj mx v (w e)) es
def Ch : List Nat → Nat → Nat → List Nat → Prop
  | [], a, b, es => a = b ∧ es = []
  | _ :: _, _, _, [] => False
  | x :: l, a, b, e :: es => ∃ m, m < 13 ∧ e = 52 * a + 13 * x + m ∧ Ch l m b es
theorem fj_mono {mx : Bool} {w w' : Nat → Nat} : ∀ {es : List Nat} {v v' : Nat}, v ≤ v' → (∀ e, e ∈ es → w e ≤ w' e) → fj mx w v es ≤ fj mx w' v' es
  | [], _, _, h, _ => h
  | e :: es, v, v', h, hw => by
    show fj mx w (bj mx v (w e)) es ≤ fj mx w' (bj mx v' (w' e)) es
    exact fj_mono (bj_mono h (hw e List.mem_cons_self)) (fun e' he => hw e' (List.mem_cons_of_mem _ he))
theorem fj_ge {mx : Bool} {w : Nat → Nat} : ∀ {es : List Nat} {v : Nat}, v ≤ fj mx w v es
  | [], _ => Nat.le_refl _
  | e :: es, v => by
    show v ≤ fj mx w (bj mx v (w e)) es
    exact Nat.le_trans bj_ge1 fj_ge
theorem fj_ge_e {mx : Bool} {w : Nat → Nat} : ∀ {es : List Nat} {v e : Nat}, e ∈ es → w e ≤ fj mx w v es
  | a :: es, v, e, h => by
    show w e ≤ fj mx w (bj mx v (w a)) es
    rcases List.mem_cons.mp h with h | h
    · subst h; exact Nat.le_trans bj_ge2 fj_ge
    · exact fj_ge_e h
theorem rdl_ub {mx : Bool} {w : Nat → Nat} : ∀ {l : List Nat} {rd : Nat → Nat} {a to : Nat} {es : List Nat}, a < 13 → Ch l a to es → rdl mx w l rd to ≤ fj mx w (rd a) es
  | [], rd, a, to, es, _, h => by
    obtain ⟨h1, h2⟩ := h
    subst h1; subst h2
    exact Nat.le_refl _
  | x :: l, rd, a, to, [], _, h => h.elim
  | x :: l, rd, a, to, e :: es, ha, h => by
    obtain ⟨m, hm, he, h⟩ := h
    refine Nat.le_trans (rdl_ub (l := l) (rd := rdm mx w rd x) hm h) (fj_mono ?_ (fun _ _ => Nat.le_refl _))
    rw [rdm_bj, he]
    exact mn_le (g := fun fr => bj mx (rd fr) (w (52 * fr + 13 * x + m))) ha
theorem bj_fin {mx : Bool} {a b : Nat} (h : bj mx a b < 1000000000) : a < 1000000000 ∧ b < 1000000000 :=
  ⟨Nat.lt_of_le_of_lt bj_ge1 h, Nat.lt_of_le_of_lt bj_ge2 h⟩
theorem rdl_ex {mx : Bool} {w : Nat → Nat} : ∀ {l : List Nat} {rd : Nat → Nat} {to : Nat}, to < 13 → rdl mx w l rd to < 1000000000 → ∃ a es, a < 13 ∧ Ch l a to es ∧ rdl mx w l rd to = fj mx w (rd a) es ∧ rd a < 1000000000 ∧ ∀ e, e ∈ es → w e < 1000000000
  | [], rd, to, hto, h => ⟨to, [], hto, ⟨rfl, rfl⟩, rfl, h, fun _ he => absurd he List.not_mem_nil⟩
  | x :: l, rd, to, hto, h => by
    obtain ⟨m, es, hm, hc, e, hf, hw⟩ := rdl_ex (l := l) (rd := rdm mx w rd x) hto h
    have e1 := rdm_bj mx w rd x m
    rw [e1] at hf
    obtain ⟨fr, hfr, e2⟩ := mn_ex hf
    rw [e2] at hf
    obtain ⟨f1, f2⟩ := bj_fin hf
    refine ⟨fr, (52 * fr + 13 * x + m) :: es, hfr, ⟨m, hm, rfl, hc⟩, ?_, f1, fun e' he => ?_⟩
    · show rdl mx w l (rdm mx w rd x) to = fj mx w (bj mx (rd fr) (w (52 * fr + 13 * x + m))) es
      rw [e, e1, e2]
    · rcases List.mem_cons.mp he with h | h
      · subst h; exact f2
      · exact hw e' h
theorem rdw_ub {mx : Bool} {w : Nat → Nat} {p wd to : Nat} {es : List Nat} (hp : p < 13) (h : Ch (lw wd) p to es) : rdw mx w p wd to ≤ fj mx w 0 es := by
  have := rdl_ub (mx := mx) (w := w) (rd := st0 p) hp h
  rwa [show st0 p p = 0 from if_pos rfl] at this
theorem rdw_ex {mx : Bool} {w : Nat → Nat} {p wd to : Nat} (hto : to < 13) (h : rdw mx w p wd to < 1000000000) : ∃ es, Ch (lw wd) p to es ∧ rdw mx w p wd to = fj mx w 0 es ∧ ∀ e, e ∈ es → w e < 1000000000 := by
  obtain ⟨a, es, ha, hc, e, hf, hw⟩ := rdl_ex hto h
  have hap : a = p := by
    unfold st0 at hf
    by_cases q : a = p
    · exact q
    · rw [if_neg q] at hf; exact absurd hf (Nat.lt_irrefl _)
  subst hap
  rw [show st0 a a = 0 from if_pos rfl] at e
  exact ⟨es, hc, e, hw⟩
/-! one round -/
theorem rnd_s (mx : Bool) (g : nb) (co wb : Nat → Nat) (r : Nat) : rnd mx g co wb (r + 1) = dr mx (co r) (rdw mx wb (g.2 4 r) (g.2 5 r)) (bse g r) (rnd mx g co wb r) := rfl
theorem rnd_ub {mx : Bool} {g : nb} {co wb : Nat → Nat} (hw : ∀ k, wb k ≤ 1000000000) {r to : Nat} (hto : to < 13) : ∀ {R : Nat}, r < R → rnd mx g co wb R (bse g r + to) ≤ bj mx (co r) (rdw mx wb (g.2 4 r) (g.2 5 r) to)
  | R + 1, h => by
    rw [rnd_s]
    by_cases q : r = R
    · subst q
      unfold dr
      rw [if_pos ⟨by omega, by omega⟩, Nat.add_sub_cancel_left, jn_min (Nat.le_trans (rnd_le r _) (hw _))]
      exact Nat.min_le_right _ _
    · exact Nat.le_trans (dr_le _) (rnd_ub hw hto (by omega))
theorem rnd_ex {mx : Bool} {g : nb} {co wb : Nat → Nat} (hw : ∀ k, wb k ≤ 1000000000) {k : Nat} : ∀ {R : Nat}, rnd mx g co wb R k < wb k → ∃ r to, r < R ∧ to < 13 ∧ k = bse g r + to ∧ rnd mx g co wb R k = bj mx (co r) (rdw mx wb (g.2 4 r) (g.2 5 r) to)
  | 0, h => absurd h (Nat.lt_irrefl _)
  | R + 1, h => by
    rw [rnd_s] at h ⊢
    by_cases q : bse g R ≤ k ∧ k < bse g R + 13
    · unfold dr at h ⊢
      rw [if_pos q, jn_min (Nat.le_trans (rnd_le R _) (hw _))] at h ⊢
      by_cases q2 : bj mx (co R) (rdw mx wb (g.2 4 R) (g.2 5 R) (k - bse g R)) < rnd mx g co wb R k
      · exact ⟨R, k - bse g R, by omega, by omega, by omega, by omega⟩
      · have e : min (rnd mx g co wb R k) (bj mx (co R) (rdw mx wb (g.2 4 R) (g.2 5 R) (k - bse g R))) = rnd mx g co wb R k := Nat.min_eq_left (by omega)
        rw [e] at h ⊢
        obtain ⟨r, to, h1, h2, h3, h4⟩ := rnd_ex hw h
        exact ⟨r, to, by omega, h2, h3, h4⟩
    · unfold dr at h ⊢
      rw [if_neg q] at h ⊢
      obtain ⟨r, to, h1, h2, h3, h4⟩ := rnd_ex hw h
      exact ⟨r, to, by omega, h2, h3, h4⟩
