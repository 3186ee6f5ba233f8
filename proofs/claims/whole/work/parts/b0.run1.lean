/-! runs: the fewest steps to go, in numbers -/
noncomputable def Wg (g : nb) : Nat → Nat := fw g 1 (coO g 1 10)
theorem Wg_le {g : nb} (hW : WF g) (k : Nat) : Wg g k ≤ 1000000000 := fw_le hW.1 1 _ k
theorem Wg_next {g : nb} (hW : WF g) (k : Nat) (hk : k < 676) : ws (mxO 1) g (coO g 1 10) (wt0 g) (g.1 1) (nR + 1) k = Wg g k := by
  obtain ⟨K, hK6, hK⟩ := last_ex (mx := mxO 1) (co := coO g 1 10) hW.2.1.1 hW.1.2.1 (fun k => (wt0_W2 hW.1).le k)
  rw [← nR_eq] at hK6
  have h1 := last_stay hW.2.1.1 hK (nR + 1 - K) k hk
  have h2 := last_stay hW.2.1.1 hK (nR - K) k hk
  rw [show K + (nR + 1 - K) = nR + 1 by omega] at h1
  rw [show K + (nR - K) = nR by omega] at h2
  show _ = ws (mxO 1) g (coO g 1 10) (wt0 g) (g.1 1) nR k
  rw [h1, h2]
theorem co1 {g : nb} (hW : WF g) {r : Nat} (hr : r < g.1 1) : coO g 1 10 r = 1 := by
  have := hW.2.1.2.1
  unfold coO
  rw [if_neg (by omega), if_pos rfl]
theorem bse_lt {g : nb} (hW : WF g) {r e : Nat} (hr : r < g.1 1) (he : e < 13) : bse g r + e < 676 := by
  obtain ⟨a1, a2, -, -⟩ := hW.2.1.1 r hr
  have := hW.1.2.1
  unfold bse
  omega
theorem Wg_sat {g : nb} (hW : WF g) {r e : Nat} {es : List Nat} (hr : r < g.1 1) (he : e < 13) (hc : Ch (lw (g.2 5 r)) (g.2 4 r) e es) : Wg g (bse g r + e) ≤ 1 + fj false (Wg g) 0 es := by
  have u := ws_ub (mx := mxO 1) (co := coO g 1 10) (w0 := wt0 g) (j := nR) hW.2.1.1 hW.1.2.1 (fun k => (wt0_W2 hW.1).le k) hr he hc
  rw [Wg_next hW _ (bse_lt hW hr he), co1 hW hr] at u
  exact u
theorem Wg_ex {g : nb} (hW : WF g) {p x t : Nat} (hp : p < g.1 0) (hx : x < 4) (ht : t < 13) (hf : Wg g (52 * p + 13 * x + t) < 1000000000) : (Wg g (52 * p + 13 * x + t) = 0 ∧ g.1 0 ≤ t) ∨ ∃ r es, r < g.1 1 ∧ g.2 2 r = p ∧ g.2 3 r = x ∧ Ch (lw (g.2 5 r)) (g.2 4 r) t es ∧ 1 + fj false (Wg g) 0 es ≤ Wg g (52 * p + 13 * x + t) := by
  have hS := hW.1.2.1
  have key : ∀ j, ws (mxO 1) g (coO g 1 10) (wt0 g) (g.1 1) j (52 * p + 13 * x + t) = wt0 g (52 * p + 13 * x + t) ∨ ∃ r es, r < g.1 1 ∧ g.2 2 r = p ∧ g.2 3 r = x ∧ Ch (lw (g.2 5 r)) (g.2 4 r) t es ∧ 1 + fj false (ws (mxO 1) g (coO g 1 10) (wt0 g) (g.1 1) j) 0 es ≤ ws (mxO 1) g (coO g 1 10) (wt0 g) (g.1 1) j (52 * p + 13 * x + t) := by
    intro j
    induction j with
    | zero => exact Or.inl rfl
    | succ j ih =>
      by_cases q : ws (mxO 1) g (coO g 1 10) (wt0 g) (g.1 1) (j + 1) (52 * p + 13 * x + t) < ws (mxO 1) g (coO g 1 10) (wt0 g) (g.1 1) j (52 * p + 13 * x + t)
      · obtain ⟨r, to, es, e1, e2, e3, e4, e5, e6, e7⟩ := ws_ex hW.2.1.1 hS (fun k => (wt0_W2 hW.1).le k) q
        obtain ⟨a1, a2, -, -⟩ := hW.2.1.1 r e1
        unfold bse at e3
        obtain rfl : to = t := by omega
        refine Or.inr ⟨r, es, e1, by omega, by omega, e4, ?_⟩
        rw [e6, co1 hW e1]
        show _ ≤ 1 + fj false _ 0 es
        exact Nat.add_le_add_left (fj_mono (Nat.le_refl 0) (fun e _ => ws_dec j e)) 1
      · have e := Nat.le_antisymm (ws_dec (mx := mxO 1) (g := g) (co := coO g 1 10) (w0 := wt0 g) (R := g.1 1) j (52 * p + 13 * x + t)) (Nat.le_of_not_lt q)
        rw [e]
        rcases ih with h | ⟨r, es, h1, h2, h3, h4, h5⟩
        · exact Or.inl h
        · exact Or.inr ⟨r, es, h1, h2, h3, h4, Nat.le_trans (Nat.add_le_add_left (fj_mono (Nat.le_refl 0) (fun e _ => ws_dec j e)) 1) h5⟩
  rcases key nR with h | h
  · have h : Wg g (52 * p + 13 * x + t) = wt0 g (52 * p + 13 * x + t) := h
    rw [h] at hf ⊢
    refine Or.inl ⟨?_, ((tg_D hW.1 _ (Nat.le_refl _)).1 p x t (by omega) hx ht hf).1⟩
    rcases wt0_W2 hW.1 (52 * p + 13 * x + t) with e | e
    · exact e
    · rw [e] at hf; exact absurd hf (Nat.lt_irrefl _)
  · exact Or.inr h
theorem Wg_b {g : nb} (hW : WF g) {fr x to : Nat} (h1 : fr < 13) (h2 : x < 4) (h3 : to < 13) (h4 : Wg g (52 * fr + 13 * x + to) < 1000000000) : (to < g.1 0 → fr < g.1 0 ∧ Wg g (52 * fr + 13 * x + to) ≤ 2359296) ∧ Wg g (52 * fr + 13 * x + to) ≤ 49545216 ∧ (g.1 0 ≤ fr → g.1 0 ≤ to ∧ Wg g (52 * fr + 13 * x + to) = 0) := by
  have := sys_bound hW.1 hW.2.1 (coO_CO1 (g := g) 10) nR fr x to h1 h2 h3 h4
  rw [Nat.one_mul, Nat.one_mul] at this
  exact this
theorem Wg_NT {g : nb} (hW : WF g) : NT (ndn g) (Wg g) := by
  have t := tg_ok hW.1 (g.1 7) (Nat.le_refl _)
  exact ws_NT hW.2.1.1 (by have := t.1; show g.1 0 ≤ (tg g (g.1 7)).1; omega) hW.1.2.1 (wt0_NT hW.1) nR
/-- reading letters from a node at a cost -/
def rdc (W : Nat → Nat) : List Nat → Nat → Nat → Nat → Prop
  | [], n, c, e => n = e ∧ c = 0
  | x :: l, n, c, e => ∃ t d, t < 13 ∧ c = W (52 * n + 13 * x + t) + d ∧ rdc W l t d e
theorem rdc_Ch {W : Nat → Nat} : ∀ {l : List Nat} {n c e v : Nat}, rdc W l n c e → ∃ es, Ch l n e es ∧ fj false W v es = v + c
  | [], n, c, e, v, h => ⟨[], ⟨h.1, rfl⟩, by rw [h.2]; rfl⟩
  | x :: l, n, c, e, v, ⟨t, d, h1, h2, h3⟩ => by
    obtain ⟨es, h4, h5⟩ := rdc_Ch (v := v + W (52 * n + 13 * x + t)) h3
    refine ⟨(52 * n + 13 * x + t) :: es, ⟨t, h1, rfl, h4⟩, ?_⟩
    show fj false W (v + W (52 * n + 13 * x + t)) es = _
    rw [h5, h2, Nat.add_assoc]
theorem Ch_rdc {W : Nat → Nat} : ∀ {l : List Nat} {n e v : Nat} {es : List Nat}, Ch l n e es → ∃ c, rdc W l n c e ∧ fj false W v es = v + c
  | [], n, e, v, es, h => ⟨0, ⟨h.1, rfl⟩, by rw [h.2]; rfl⟩
  | x :: l, n, e, v, [], h => h.elim
  | x :: l, n, e, v, k :: es, ⟨m, h1, h2, h3⟩ => by
    obtain ⟨c, h4, h5⟩ := Ch_rdc (W := W) (v := v + W k) h3
    refine ⟨W k + c, ⟨m, c, h1, by rw [h2], h4⟩, ?_⟩
    show fj false W (v + W k) es = _
    rw [h5, Nat.add_assoc]
theorem rdc_app {W : Nat → Nat} : ∀ {a b : List Nat} {n c e : Nat}, n < 13 → rdc W (a ++ b) n c e → ∃ m c1 c2, m < 13 ∧ c = c1 + c2 ∧ rdc W a n c1 m ∧ rdc W b m c2 e
  | [], b, n, c, e, hn, h => ⟨n, 0, c, hn, (Nat.zero_add c).symm, ⟨rfl, rfl⟩, h⟩
  | x :: a, b, n, c, e, hn, ⟨t, d, h1, h2, h3⟩ => by
    obtain ⟨m, c1, c2, m1, m2, m3, m4⟩ := rdc_app h1 h3
    exact ⟨m, W (52 * n + 13 * x + t) + c1, c2, m1, by omega, ⟨t, c1, h1, rfl, m3⟩, m4⟩
theorem rdc_cat {W : Nat → Nat} : ∀ {a b : List Nat} {n c1 c2 m e : Nat}, rdc W a n c1 m → rdc W b m c2 e → rdc W (a ++ b) n (c1 + c2) e
  | [], b, n, c1, c2, m, e, h, k => by
    obtain ⟨rfl, rfl⟩ := h
    rw [Nat.zero_add]
    exact k
  | x :: a, b, n, c1, c2, m, e, ⟨t, d, h1, h2, h3⟩, k => ⟨t, d + c2, h1, by omega, rdc_cat h3 k⟩
/-- the fewest steps to acceptance -/
noncomputable def tv (g : nb) : List Nat → Nat → Nat
  | [], n => if acc g (g.1 7) n = 1 then 0 else 1000000000
  | x :: l, n => mn (fun t => Wg g (52 * n + 13 * x + t) + tv g l t) 13
theorem tv_le (g : nb) : ∀ (l : List Nat) (n : Nat), tv g l n ≤ 1000000000
  | [], n => by unfold tv; split <;> omega
  | x :: l, n => mn_le_FR _ _
theorem tv_up {g : nb} {x : Nat} {l : List Nat} {n t : Nat} (ht : t < 13) : tv g (x :: l) n ≤ Wg g (52 * n + 13 * x + t) + tv g l t := mn_le (g := fun t => Wg g (52 * n + 13 * x + t) + tv g l t) ht
theorem tv_ex {g : nb} {x : Nat} {l : List Nat} {n : Nat} (h : tv g (x :: l) n < 1000000000) : ∃ t, t < 13 ∧ tv g (x :: l) n = Wg g (52 * n + 13 * x + t) + tv g l t := mn_ex (g := fun t => Wg g (52 * n + 13 * x + t) + tv g l t) h
theorem tv_app {g : nb} : ∀ {a b : List Nat} {n c m : Nat}, rdc (Wg g) a n c m → tv g (a ++ b) n ≤ c + tv g b m
  | [], b, n, c, m, h => by
    obtain ⟨rfl, rfl⟩ := h
    rw [Nat.zero_add]
    exact Nat.le_refl _
  | x :: a, b, n, c, m, ⟨t, d, h1, h2, h3⟩ => by
    have h4 := tv_app (b := b) h3
    have h5 := tv_up (g := g) (x := x) (l := a ++ b) (n := n) h1
    show tv g (x :: (a ++ b)) n ≤ _
    omega
theorem tv_split {g : nb} {a b : List Nat} : ∀ {n : Nat}, n < 13 → tv g (a ++ b) n < 1000000000 → ∃ c m, m < 13 ∧ rdc (Wg g) a n c m ∧ tv g (a ++ b) n = c + tv g b m := by
  induction a with
  | nil => exact fun {n} hn h => ⟨0, n, hn, ⟨rfl, rfl⟩, (Nat.zero_add _).symm⟩
  | cons x a ih =>
    intro n hn h
    obtain ⟨t, h1, h2⟩ := tv_ex (g := g) (x := x) (l := a ++ b) h
    have h : tv g (x :: (a ++ b)) n < 1000000000 := h
    obtain ⟨c, m, h3, h4, h5⟩ := ih h1 (show tv g (a ++ b) t < 1000000000 by omega)
    refine ⟨Wg g (52 * n + 13 * x + t) + c, m, h3, ⟨t, c, h1, rfl, h4⟩, ?_⟩
    show tv g (x :: (a ++ b)) n = _
    omega
theorem tv_nil {g : nb} {n : Nat} (h : tv g [] n < 1000000000) : tv g [] n = 0 := by
  unfold tv at h ⊢
  split
  · rfl
  · rename_i q; rw [if_neg q] at h; exact absurd h (Nat.lt_irrefl _)
theorem tv_far {g : nb} (hW : WF g) {l : List Nat} : ∀ {n : Nat}, (∀ x, x ∈ l → x < 4) → g.1 0 ≤ n → n < 13 → tv g l n < 1000000000 → tv g l n = 0 := by
  induction l with
  | nil => exact fun {n} _ _ _ h => tv_nil h
  | cons x l ih =>
    intro n hl h1 h2 h
    obtain ⟨t, h3, h4⟩ := tv_ex h
    have b := (Wg_b hW h2 (hl x (List.mem_cons_self ..)) h3 (by omega)).2.2 h1
    have := ih (fun y hy => hl y (List.mem_cons_of_mem _ hy)) b.1 h3 (by omega)
    omega
theorem tv_b {g : nb} (hW : WF g) {l : List Nat} : ∀ {n : Nat}, (∀ x, x ∈ l → x < 4) → n < 13 → tv g l n < 1000000000 → tv g l n ≤ l.length * 2359296 + 49545216 := by
  induction l with
  | nil =>
    intro n _ _ h
    rw [tv_nil h]
    exact Nat.zero_le _
  | cons x l ih =>
    intro n hl h2 h
    obtain ⟨t, h3, h4⟩ := tv_ex h
    have b := Wg_b hW h2 (hl x (List.mem_cons_self ..)) h3 (by omega)
    have hl2 : ∀ y, y ∈ l → y < 4 := fun y hy => hl y (List.mem_cons_of_mem _ hy)
    have ih := ih hl2 h3 (by omega)
    rw [List.length_cons, Nat.succ_mul]
    by_cases q : t < g.1 0
    · have := (b.1 q).2
      omega
    · have := tv_far hW hl2 (by omega) h3 (by omega)
      omega
/-- a step by a rule takes one at most -/
theorem tv_step_le {g : nb} (hW : WF g) {r : Nat} (hr : r < g.1 1) (l : List Nat) : tv g (g.2 3 r :: l) (g.2 2 r) ≤ 1 + tv g (lw (g.2 5 r) ++ l) (g.2 4 r) := by
  obtain ⟨a1, a2, a3, a4⟩ := hW.2.1.1 r hr
  have hS := hW.1.2.1
  by_cases q : tv g (lw (g.2 5 r) ++ l) (g.2 4 r) < 1000000000
  · obtain ⟨c, m, h1, h2, h3⟩ := tv_split (by omega) q
    obtain ⟨es, h4, h5⟩ := rdc_Ch (v := 0) h2
    have h6 := Wg_sat hW hr h1 h4
    have h7 := tv_up (g := g) (x := g.2 3 r) (l := l) (n := g.2 2 r) h1
    unfold bse at h6
    omega
  · have := tv_le g (g.2 3 r :: l) (g.2 2 r)
    omega
/-- there is a rule that brings nearer -/
theorem tv_step {g : nb} (hW : WF g) {p x : Nat} {l : List Nat} (hp : p < g.1 0) (hx : x < 4) (hl : ∀ y, y ∈ l → y < 4) (h0 : 0 < tv g (x :: l) p) (h : tv g (x :: l) p < 1000000000) : ∃ r, r < g.1 1 ∧ g.2 2 r = p ∧ g.2 3 r = x ∧ tv g (lw (g.2 5 r) ++ l) (g.2 4 r) + 1 = tv g (x :: l) p := by
  obtain ⟨t, h1, h2⟩ := tv_ex h
  rcases Wg_ex hW hp hx h1 (by omega) with ⟨e1, e2⟩ | ⟨r, es, r1, r2, r3, r4, r5⟩
  · have := tv_far hW hl e2 h1 (by omega)
    omega
  · obtain ⟨c, c1, c2⟩ := Ch_rdc (W := Wg g) (v := 0) r4
    have h3 := tv_app (b := l) c1
    have h4 := tv_step_le hW r1 l
    rw [r2, r3] at h4
    exact ⟨r, r1, r2, r3, by omega⟩
