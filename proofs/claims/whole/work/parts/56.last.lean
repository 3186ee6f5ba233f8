/-! the rounds come to an end -/
def cl (w L : Nat → Nat) : Nat → Nat
  | 0 => 0
  | n + 1 => if w n ≤ L n then cl w L n + 1 else cl w L n
theorem cl_s (w L : Nat → Nat) (n : Nat) : cl w L (n + 1) = if w n ≤ L n then cl w L n + 1 else cl w L n := rfl
theorem cl_le (w L : Nat → Nat) : ∀ n, cl w L n ≤ n
  | 0 => Nat.le_refl _
  | n + 1 => by
    have := cl_le w L n
    rw [cl_s]; split <;> omega
theorem cl_mono {w w' L : Nat → Nat} : ∀ {n : Nat}, (∀ k, k < n → w k ≤ L k → w' k ≤ L k) → cl w L n ≤ cl w' L n
  | 0, _ => Nat.le_refl _
  | n + 1, h => by
    have ih := cl_mono (n := n) (fun k hk => h k (by omega))
    have hn := h n (by omega)
    rw [cl_s, cl_s]
    by_cases q : w n ≤ L n
    · rw [if_pos q, if_pos (hn q)]; omega
    · rw [if_neg q]; split <;> omega
theorem cl_strict {w w' L : Nat → Nat} : ∀ {n k : Nat}, (∀ k, k < n → w k ≤ L k → w' k ≤ L k) → k < n → ¬ w k ≤ L k → w' k ≤ L k → cl w L n < cl w' L n
  | n + 1, k, h, hk, h1, h2 => by
    have hn := h n (by omega)
    rw [cl_s, cl_s]
    by_cases q : k = n
    · subst q
      have ih := cl_mono (w := w) (w' := w') (L := L) (n := k) (fun j hj => h j (by omega))
      rw [if_neg h1, if_pos h2]; omega
    · have ih := cl_strict (w := w) (w' := w') (L := L) (n := n) (k := k) (fun j hj => h j (by omega)) (by omega) h1 h2
      by_cases q : w n ≤ L n
      · rw [if_pos q, if_pos (hn q)]; omega
      · rw [if_neg q]; split <;> omega
/-- what stalls once stalls for ever: then it stalls within n rounds -/
theorem stall {n : Nat} {W : Nat → Nat → Nat} {L : Nat → Nat} (hd : ∀ j k, W (j + 1) k ≤ W j k)
    (hs : ∀ j, (∀ k, k < n → W (j + 1) k ≤ L k → W j k ≤ L k) → ∀ k, k < n → W (j + 2) k ≤ L k → W (j + 1) k ≤ L k) :
    ∀ j k, k < n → W j k ≤ L k → W n k ≤ L k := by
  have h1 : ∀ j, j ≤ cl (W j) L n ∨ ∃ i, i < j ∧ ∀ k, k < n → W (i + 1) k ≤ L k → W i k ≤ L k := by
    intro j
    induction j with
    | zero => exact Or.inl (Nat.zero_le _)
    | succ j ih =>
      rcases ih with h | ⟨i, hi, h⟩
      · by_cases q : ∀ k, k < n → W (j + 1) k ≤ L k → W j k ≤ L k
        · exact Or.inr ⟨j, by omega, q⟩
        · refine Or.inl ?_
          have ⟨k, hk⟩ := Classical.not_forall.mp q
          have ⟨a, hk2⟩ := Classical.not_forall.mp hk
          have ⟨b, c⟩ := Classical.not_forall.mp hk2
          have := cl_strict (w := W j) (w' := W (j + 1)) (L := L) (n := n) (k := k) (fun k _ h => Nat.le_trans (hd j k) h) a c b
          omega
      · exact Or.inr ⟨i, by omega, h⟩
  obtain ⟨i, hi, h⟩ : ∃ i, i < n + 1 ∧ ∀ k, k < n → W (i + 1) k ≤ L k → W i k ≤ L k := by
    rcases h1 (n + 1) with h | h
    · have := cl_le (W (n + 1)) L n
      omega
    · exact h
  have hup : ∀ j, ∀ k, k < n → W (i + j + 1) k ≤ L k → W (i + j) k ≤ L k := by
    intro j
    induction j with
    | zero => exact h
    | succ j ih => exact hs (i + j) ih
  have hall : ∀ j, ∀ k, k < n → W (i + j) k ≤ L k → W i k ≤ L k := by
    intro j
    induction j with
    | zero => exact fun _ _ h => h
    | succ j ih => exact fun k hk h => ih k hk (hup j k hk h)
  have hdn : ∀ j i k, W (i + j) k ≤ W i k := by
    intro j
    induction j with
    | zero => exact fun _ _ => Nat.le_refl _
    | succ j ih => exact fun i k => Nat.le_trans (hd (i + j) k) (ih i k)
  intro j k hk hj
  have a : W i k ≤ L k := by
    by_cases q : i ≤ j
    · exact hall (j - i) k hk (by rw [show i + (j - i) = j by omega]; exact hj)
    · have := hdn (i - j) j k
      rw [show j + (i - j) = i by omega] at this
      omega
  have b := hdn (n - i) i k
  rw [show i + (n - i) = n by omega] at b
  omega
theorem inf_ex (f : Nat → Nat) : ∃ v, (∃ j, f j = v) ∧ ∀ j, v ≤ f j := by
  have key : ∀ n, ∀ i, f i ≤ n → ∃ v, (∃ j, f j = v) ∧ ∀ j, v ≤ f j := by
    intro n
    induction n with
    | zero => intro i hi; exact ⟨0, ⟨i, by omega⟩, fun _ => Nat.zero_le _⟩
    | succ n ih =>
      intro i hi
      by_cases q : ∃ j, f j ≤ n
      · obtain ⟨j, hj⟩ := q
        exact ih j hj
      · by_cases q2 : f i ≤ n
        · exact absurd ⟨i, q2⟩ q
        · refine ⟨f i, ⟨i, rfl⟩, fun j => ?_⟩
          have : ¬ f j ≤ n := fun h => q ⟨j, h⟩
          omega
  exact key (f 0) 0 (Nat.le_refl _)
theorem Ch_lt : ∀ {l : List Nat} {a b : Nat} {es : List Nat}, (∀ x, x ∈ l → x < 4) → a < 13 → Ch l a b es → ∀ e, e ∈ es → e < 676
  | [], _, _, _, _, _, h, e, he => by rw [h.2] at he; exact absurd he List.not_mem_nil
  | _ :: _, _, _, [], _, _, h, _, _ => h.elim
  | x :: l, a, b, e :: es, hx, ha, h, e', he => by
    obtain ⟨m, hm, h1, h2⟩ := h
    rcases List.mem_cons.mp he with h | h
    · have := hx x List.mem_cons_self
      omega
    · exact Ch_lt (fun y hy => hx y (List.mem_cons_of_mem _ hy)) hm h2 e' h
theorem fj_sv {w w' : Nat → Nat} : ∀ {es : List Nat} {v v' : Nat}, v < v' → (∀ e, e ∈ es → w e ≤ w' e) → fj false w v es < fj false w' v' es
  | [], _, _, h, _ => h
  | e :: es, v, v', h, hw => by
    show fj false w (bj false v (w e)) es < fj false w' (bj false v' (w' e)) es
    refine fj_sv ?_ (fun e' he => hw e' (List.mem_cons_of_mem _ he))
    have := hw e List.mem_cons_self
    show v + w e < v' + w' e
    omega
theorem fj_strict {w w' : Nat → Nat} {e0 : Nat} (h0 : w e0 < w' e0) : ∀ {es : List Nat} {v v' : Nat}, v ≤ v' → (∀ e, e ∈ es → w e ≤ w' e) → e0 ∈ es → fj false w v es < fj false w' v' es
  | e :: es, v, v', h, hw, hm => by
    show fj false w (bj false v (w e)) es < fj false w' (bj false v' (w' e)) es
    have he := hw e List.mem_cons_self
    rcases List.mem_cons.mp hm with q | q
    · subst q
      refine fj_sv ?_ (fun e' he => hw e' (List.mem_cons_of_mem _ he))
      show v + w e0 < v' + w' e0
      omega
    · exact fj_strict h0 (show v + w e ≤ v' + w' e by omega) (fun e' he => hw e' (List.mem_cons_of_mem _ he)) q
theorem fj_max {w : Nat → Nat} {t : Nat} : ∀ {es : List Nat} {v : Nat}, v ≤ t → (∀ e, e ∈ es → w e ≤ t) → fj true w v es ≤ t
  | [], _, h, _ => h
  | e :: es, v, h, hw => by
    show fj true w (bj true v (w e)) es ≤ t
    refine fj_max ?_ (fun e' he => hw e' (List.mem_cons_of_mem _ he))
    have := hw e List.mem_cons_self
    show max v (w e) ≤ t
    omega
theorem ws_all {mx : Bool} {g : nb} {co w0 : Nat → Nat} {R : Nat} (hw : ∀ k, w0 k ≤ 1000000000) (j k : Nat) : ws mx g co w0 R j k ≤ 1000000000 := Nat.le_trans (ws_le j k) (hw k)
theorem ws_dn {mx : Bool} {g : nb} {co w0 : Nat → Nat} {R : Nat} : ∀ {i j : Nat}, i ≤ j → ∀ k, ws mx g co w0 R j k ≤ ws mx g co w0 R i k := by
  intro i j h
  induction j with
  | zero => intro k; have : i = 0 := by omega
            subst this; exact Nat.le_refl _
  | succ j ih =>
    intro k
    by_cases q : i = j + 1
    · subst q; exact Nat.le_refl _
    · exact Nat.le_trans (ws_dec j k) (ih (by omega) k)
/-- one round's new weight, by a rule and a chain -/
theorem ws_ex {mx : Bool} {S R : Nat} {g : nb} {co w0 : Nat → Nat} (hg : WR g S R) (hS : S ≤ 3) (hw : ∀ k, w0 k ≤ 1000000000) {j k : Nat} (h : ws mx g co w0 R (j + 1) k < ws mx g co w0 R j k) :
    ∃ r to es, r < R ∧ to < 13 ∧ k = bse g r + to ∧ Ch (lw (g.2 5 r)) (g.2 4 r) to es ∧ (∀ e, e ∈ es → e < 676) ∧ ws mx g co w0 R (j + 1) k = bj mx (co r) (fj mx (ws mx g co w0 R j) 0 es) ∧ ∀ e, e ∈ es → ws mx g co w0 R j e < 1000000000 := by
  obtain ⟨r, to, h1, h2, h3, h4⟩ := rnd_ex (fun k => ws_all hw j k) h
  have hF : bj mx (co r) (rdw mx (ws mx g co w0 R j) (g.2 4 r) (g.2 5 r) to) < 1000000000 := by
    rw [← h4]
    exact Nat.lt_of_lt_of_le h (ws_all hw j k)
  obtain ⟨es, c1, c2, c3⟩ := rdw_ex h2 (bj_fin hF).2
  obtain ⟨a1, a2, a3, a4⟩ := hg r h1
  refine ⟨r, to, es, h1, h2, h3, c1, Ch_lt (fun x hx => lw_lt a4 hx) (by omega) c1, ?_, c3⟩
  show rnd mx g co (ws mx g co w0 R j) R k = _
  rw [h4, c2]
theorem ws_ub {mx : Bool} {S R : Nat} {g : nb} {co w0 : Nat → Nat} (hg : WR g S R) (hS : S ≤ 3) (hw : ∀ k, w0 k ≤ 1000000000) {j r to : Nat} {es : List Nat} (hr : r < R) (hto : to < 13) (hc : Ch (lw (g.2 5 r)) (g.2 4 r) to es) :
    ws mx g co w0 R (j + 1) (bse g r + to) ≤ bj mx (co r) (fj mx (ws mx g co w0 R j) 0 es) := by
  have a := hg r hr
  exact Nat.le_trans (rnd_ub (fun k => ws_all hw j k) hto hr) (bj_mono (Nat.le_refl _) (rdw_ub (by omega) hc))
theorem ws_676 {mx : Bool} {S R : Nat} {g : nb} {co w0 : Nat → Nat} (hg : WR g S R) (hS : S ≤ 3) (hw : ∀ k, w0 k ≤ 1000000000) (j k : Nat) (hk : k < 676) : ws mx g co w0 R 676 k ≤ ws mx g co w0 R j k := by
  cases mx with
  | true =>
    refine stall (n := 676) (W := ws true g co w0 R) (L := fun _ => ws true g co w0 R j k) ws_dec ?_ j k hk (Nat.le_refl _)
    intro i hi k' hk' h2
    generalize ws true g co w0 R j k = t at hi h2 ⊢
    by_cases q : ws true g co w0 R (i + 1) k' ≤ t
    · exact q
    · obtain ⟨r, to, es, e1, e2, e3, e4, e5, e6, e7⟩ := ws_ex hg hS hw (mx := true) (j := i + 1) (k := k') (by show ws true g co w0 R (i + 2) k' < _; omega)
      have e6 : ws true g co w0 R (i + 2) k' = _ := e6
      rw [e6] at h2
      have u := ws_ub (mx := true) (co := co) (j := i) hg hS hw e1 e2 e4
      rw [← e3] at u
      refine Nat.le_trans u ?_
      have b1 : co r ≤ t := Nat.le_trans bj_ge1 h2
      have b2 : fj true (ws true g co w0 R i) 0 es ≤ t := fj_max (Nat.zero_le _) (fun e he => hi e (e5 e he) (Nat.le_trans (fj_ge_e he) (Nat.le_trans bj_ge2 h2)))
      show max _ _ ≤ t
      omega
  | false =>
    have hL := fun k => inf_ex (fun j => ws false g co w0 R j k)
    have hLs : ∃ L : Nat → Nat, ∀ k, (∃ j, ws false g co w0 R j k = L k) ∧ ∀ j, L k ≤ ws false g co w0 R j k := ⟨fun k => (hL k).choose, fun k => (hL k).choose_spec⟩
    obtain ⟨L, hLs⟩ := hLs
    have st := stall (n := 676) (W := ws false g co w0 R) (L := L) ws_dec (by
      intro i hi k' hk' h2
      by_cases q : ws false g co w0 R (i + 1) k' ≤ L k'
      · exact q
      · obtain ⟨r, to, es, e1, e2, e3, e4, e5, e6, e7⟩ := ws_ex hg hS hw (mx := false) (j := i + 1) (k := k') (by show ws false g co w0 R (i + 2) k' < _; omega)
        have e6 : ws false g co w0 R (i + 2) k' = _ := e6
        have fin : ∀ e, e ∈ es → ws false g co w0 R (i + 1) e ≤ L e := by
          intro e he
          by_cases q2 : ws false g co w0 R (i + 1) e ≤ L e
          · exact q2
          · obtain ⟨⟨j', hj'⟩, -⟩ := hLs e
            have hjj : i + 1 ≤ j' := by
              by_cases q3 : i + 1 ≤ j'
              · exact q3
              · have := ws_dn (mx := false) (g := g) (co := co) (w0 := w0) (R := R) (i := j') (j := i + 1) (by omega) e
                omega
            have lt := fj_strict (w := ws false g co w0 R j') (w' := ws false g co w0 R (i + 1)) (e0 := e) (by omega) (es := es) (v := 0) (v' := 0) (Nat.le_refl _) (fun e' _ => ws_dn hjj e') he
            have u := ws_ub (mx := false) (co := co) (j := j') hg hS hw e1 e2 e4
            rw [← e3] at u
            have lo := (hLs k').2 (j' + 1)
            have u : ws false g co w0 R (j' + 1) k' ≤ co r + fj false (ws false g co w0 R j') 0 es := u
            have e6 : ws false g co w0 R (i + 2) k' = co r + fj false (ws false g co w0 R (i + 1)) 0 es := e6
            omega
        have u := ws_ub (mx := false) (co := co) (j := i) hg hS hw e1 e2 e4
        rw [← e3] at u
        have m : fj false (ws false g co w0 R i) 0 es ≤ fj false (ws false g co w0 R (i + 1)) 0 es := fj_mono (Nat.le_refl _) (fun e he => Nat.le_trans (hi e (e5 e he) (fin e he)) ((hLs e).2 _))
        refine Nat.le_trans u (Nat.le_trans (bj_mono (Nat.le_refl _) m) ?_)
        rw [← e6]
        exact h2)
    obtain ⟨⟨j', hj'⟩, lo⟩ := hLs k
    exact Nat.le_trans (st j' k hk (Nat.le_of_eq hj')) (lo j)
theorem last_ex {mx : Bool} {S R : Nat} {g : nb} {co w0 : Nat → Nat} (hg : WR g S R) (hS : S ≤ 3) (hw : ∀ k, w0 k ≤ 1000000000) : ∃ K, K ≤ 676 ∧ LAST mx g co w0 R K := by
  have h676 : ∀ k, k < 676 → ws mx g co w0 R (676 + 1) k = ws mx g co w0 R 676 k := fun k hk => Nat.le_antisymm (ws_dec 676 k) (ws_676 hg hS hw 677 k hk)
  have key : ∀ n K, K + n = 676 → (∀ j, j < K → ∃ k, k < 676 ∧ ws mx g co w0 R (j + 1) k < ws mx g co w0 R j k) → ∃ K, K ≤ 676 ∧ LAST mx g co w0 R K := by
    intro n
    induction n with
    | zero =>
      intro K hK h
      have hK : K = 676 := by omega
      subst hK
      exact ⟨676, Nat.le_refl _, h, h676⟩
    | succ n ih =>
      intro K hK h
      by_cases q : ∀ k, k < 676 → ws mx g co w0 R (K + 1) k = ws mx g co w0 R K k
      · exact ⟨K, by omega, h, q⟩
      · refine ih (K + 1) (by omega) (fun j hj => ?_)
        by_cases q2 : j = K
        · subst q2
          have ⟨k, hk⟩ := Classical.not_forall.mp q
          have ⟨a, b⟩ := Classical.not_forall.mp hk
          refine ⟨k, a, ?_⟩
          have := ws_dec (mx := mx) (g := g) (co := co) (w0 := w0) (R := R) j k
          omega
        · exact h j (by omega)
  exact key 676 0 (by omega) (fun j hj => absurd hj (by omega))
theorem rdm_cg {mx : Bool} {w w' rd rd' : Nat → Nat} {x to : Nat} (hw : ∀ k, k < 676 → w k = w' k) (hr : ∀ k, k < 13 → rd k = rd' k) (hx : x < 4) (hto : to < 13) : rdm mx w rd x to = rdm mx w' rd' x to :=
  mn_congr (fun fr hfr => by rw [hr fr hfr, hw (52 * fr + 13 * x + to) (by omega)])
theorem rdl_cg {mx : Bool} {w w' : Nat → Nat} (hw : ∀ k, k < 676 → w k = w' k) : ∀ {l : List Nat} {rd rd' : Nat → Nat}, (∀ x, x ∈ l → x < 4) → (∀ k, k < 13 → rd k = rd' k) → ∀ to, to < 13 → rdl mx w l rd to = rdl mx w' l rd' to
  | [], _, _, _, hr, to, hto => hr to hto
  | x :: l, rd, rd', hx, hr, to, hto => rdl_cg hw (l := l) (rd := rdm mx w rd x) (rd' := rdm mx w' rd' x) (fun y hy => hx y (List.mem_cons_of_mem _ hy)) (fun _ hk => rdm_cg hw hr (hx x List.mem_cons_self) hk) to hto
/-- the same rules -/
def SR (g g' : nb) (R : Nat) : Prop := ∀ r, r < R → g.2 2 r = g'.2 2 r ∧ g.2 3 r = g'.2 3 r ∧ g.2 4 r = g'.2 4 r ∧ g.2 5 r = g'.2 5 r
theorem SR.rf (g : nb) (R : Nat) : SR g g R := fun _ _ => ⟨rfl, rfl, rfl, rfl⟩
theorem rnd_cg {mx : Bool} {S R : Nat} {g g' : nb} {co co' wb wb' : Nat → Nat} (hg : WR g S R) (hG : SR g g' R) (hc : ∀ r, r < R → co r = co' r) (hw : ∀ k, k < 676 → wb k = wb' k) : ∀ r, r ≤ R → ∀ k, k < 676 → rnd mx g co wb r k = rnd mx g' co' wb' r k
  | 0, _, k, hk => hw k hk
  | r + 1, hr, k, hk => by
    have ih := rnd_cg (mx := mx) hg hG hc hw r (by omega) k hk
    obtain ⟨e2, e3, e4, e5⟩ := hG r (by omega)
    obtain ⟨a2, a3, a4, a5⟩ := hg r (by omega)
    rw [rnd_s, rnd_s]
    have eb : bse g r = bse g' r := by unfold bse; rw [e2, e3]
    unfold dr
    rw [← eb, ih, hc r (by omega), ← e4, ← e5]
    split
    · rename_i q
      rw [show rdw mx wb (g.2 4 r) (g.2 5 r) (k - bse g r) = rdw mx wb' (g.2 4 r) (g.2 5 r) (k - bse g r) from rdl_cg hw (fun x hx => lw_lt a5 hx) (fun _ _ => rfl) _ (by omega)]
    · rfl
theorem ws_cg {mx : Bool} {S R : Nat} {g g' : nb} {co co' w0 w0' : Nat → Nat} (hg : WR g S R) (hG : SR g g' R) (hc : ∀ r, r < R → co r = co' r) (hw : ∀ k, k < 676 → w0 k = w0' k) : ∀ j k, k < 676 → ws mx g co w0 R j k = ws mx g' co' w0' R j k
  | 0, k, hk => hw k hk
  | j + 1, k, hk => rnd_cg hg hG hc (ws_cg hg hG hc hw j) R (Nat.le_refl _) k hk
theorem last_stay {mx : Bool} {S R K : Nat} {g : nb} {co w0 : Nat → Nat} (hg : WR g S R) (hK : LAST mx g co w0 R K) : ∀ n k, k < 676 → ws mx g co w0 R (K + n) k = ws mx g co w0 R K k
  | 0, _, _ => rfl
  | n + 1, k, hk => by
    show rnd mx g co (ws mx g co w0 R (K + n)) R k = _
    rw [rnd_cg hg (SR.rf g R) (fun _ _ => rfl) (last_stay hg hK n) R (Nat.le_refl _) k hk]
    exact hK.2 k hk
theorem last_676 {mx : Bool} {S R K : Nat} {g : nb} {co w0 : Nat → Nat} (hg : WR g S R) (hS : S ≤ 3) (hw : ∀ k, w0 k ≤ 1000000000) (hK : LAST mx g co w0 R K) : K ≤ 676 ∧ ∀ k, k < 676 → ws mx g co w0 R K k = ws mx g co w0 R 676 k := by
  have h : K ≤ 676 := by
    by_cases q : K ≤ 676
    · exact q
    · obtain ⟨k, hk, hl⟩ := hK.1 676 (by omega)
      have := ws_676 (mx := mx) (co := co) hg hS hw 677 k hk
      have hl : ws mx g co w0 R 677 k < ws mx g co w0 R 676 k := hl
      omega
  refine ⟨h, fun k hk => ?_⟩
  have := last_stay hg hK (676 - K) k hk
  rw [show K + (676 - K) = 676 by omega] at this
  exact this.symm
