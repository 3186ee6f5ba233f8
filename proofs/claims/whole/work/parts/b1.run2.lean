/-! runs: the steps, and how high the stack grows -/
abbrev okr (g : nb) (l : List Nat) (p r : Nat) : Prop := g.2 2 r = p ∧ l.head? = some (g.2 3 r) ∧ tv g (lw (g.2 5 r) ++ l.tail) (g.2 4 r) + 1 = tv g l p
noncomputable def sr_ (g : nb) (l : List Nat) (p : Nat) : Nat → Nat → Nat
  | 0, r => r
  | k + 1, r => if okr g l p r then r else sr_ g l p k (r + 1)
theorem sr_ok {g : nb} {l : List Nat} {p : Nat} : ∀ k r, (∃ r', r ≤ r' ∧ r' < r + k ∧ okr g l p r') → r ≤ sr_ g l p k r ∧ sr_ g l p k r < r + k ∧ okr g l p (sr_ g l p k r) ∧ ∀ r', r ≤ r' → r' < sr_ g l p k r → ¬ okr g l p r'
  | 0, r, ⟨r', h1, h2, _⟩ => absurd h2 (by omega)
  | k + 1, r, ⟨r', h1, h2, h3⟩ => by
    by_cases q : okr g l p r
    · have e : sr_ g l p (k + 1) r = r := if_pos q
      rw [e]
      exact ⟨Nat.le_refl r, by omega, q, fun r' a b => absurd b (by omega)⟩
    · have e : sr_ g l p (k + 1) r = sr_ g l p k (r + 1) := if_neg q
      rw [e]
      have hne : r' ≠ r := fun e => q (e ▸ h3)
      obtain ⟨a1, a2, a3, a4⟩ := sr_ok k (r + 1) ⟨r', by omega, by omega, h3⟩
      refine ⟨by omega, by omega, a3, fun r'' b1 b2 => ?_⟩
      by_cases e2 : r'' = r
      · rw [e2]; exact q
      · exact a4 r'' (by omega) b2
noncomputable def nxr (g : nb) (l : List Nat) (p : Nat) : Nat := sr_ g l p (g.1 1) 0
/-- the letters of the lowest h places, the top one first -/
def sk (g : nb) : Nat → List Nat
  | 0 => []
  | h + 1 => g.2 15 h :: sk g h
theorem sk_len (g : nb) : ∀ h, (sk g h).length = h
  | 0 => rfl
  | h + 1 => congrArg Nat.succ (sk_len g h)
theorem sk_mem {g : nb} {H : Nat} (hg : ∀ i, i < H → g.2 15 i < 4) : ∀ h, h ≤ H → ∀ x, x ∈ sk g h → x < 4
  | 0, _, x, hx => absurd hx (List.not_mem_nil)
  | h + 1, hh, x, hx => by
    rcases List.mem_cons.mp hx with e | e
    · rw [e]; exact hg h (by omega)
    · exact sk_mem hg h (by omega) x e
noncomputable def cfg (g : nb) : Nat → List Nat × Nat
  | 0 => (sk g (g.1 14), g.1 13)
  | j + 1 => (lw (g.2 5 (nxr g (cfg g j).1 (cfg g j).2)) ++ (cfg g j).1.tail, g.2 4 (nxr g (cfg g j).1 (cfg g j).2))
/-- frames: a head that was replaced by two letters (state, letter, steps to go then), and the letter that is left of it -/
abbrev fm : Type := Nat × Nat × Nat × Nat
def zz (F : List fm) : List Nat := F.map (fun f => f.2.2.2)
def FI (g : nb) (p left : Nat) (base : List Nat) : List fm → List Nat → Prop
  | [], _ => True
  | f :: F, pre => f.1 < 3 ∧ f.2.1 < 4 ∧ left < f.2.2.1 ∧ (∀ c e, e < 13 → rdc (Wg g) (pre ++ [f.2.2.2]) p c e → Wg g (52 * f.1 + 13 * f.2.1 + e) + left ≤ f.2.2.1 + c) ∧ tv g (f.2.1 :: (zz F ++ base)) f.1 = f.2.2.1 ∧ (∀ h, h ∈ F → f.2.2.1 < h.2.2.1) ∧ FI g p left base F (pre ++ [f.2.2.2])
theorem FI_left {g : nb} {p left : Nat} {base : List Nat} : ∀ {F : List fm} {pre : List Nat}, FI g p left base F pre → ∀ f, f ∈ F → left < f.2.2.1
  | [], pre, _, f, hf => absurd hf (List.not_mem_nil)
  | h :: F, pre, hh, f, hf => by
    obtain ⟨-, -, h3, -, -, -, h7⟩ := hh
    rcases List.mem_cons.mp hf with e | e
    · rw [e]; exact h3
    · exact FI_left h7 f e
theorem FI_step {g : nb} {p q left : Nat} {base pre pre' : List Nat} (H : ∀ zs c e, e < 13 → rdc (Wg g) (pre' ++ zs) q c e → ∃ c0, c0 ≤ c + 1 ∧ rdc (Wg g) (pre ++ zs) p c0 e) : ∀ {F : List fm} {zs : List Nat}, FI g p (left + 1) base F (pre ++ zs) → FI g q left base F (pre' ++ zs)
  | [], zs, _ => trivial
  | f :: F, zs, ⟨h1, h2, h3, h4, h5, h6, h7⟩ => by
    refine ⟨h1, h2, by omega, fun c e he hc => ?_, h5, h6, ?_⟩
    · rw [List.append_assoc] at hc h4
      obtain ⟨c0, c1, c2⟩ := H _ c e he hc
      have := h4 c0 e he c2
      omega
    · rw [List.append_assoc] at h7 ⊢
      exact FI_step H h7
theorem nodup_le : ∀ (n : Nat) (ks : List Nat), ks.Nodup → (∀ k, k ∈ ks → k < n) → ks.length ≤ n
  | 0, ks, _, h => by
    cases ks with
    | nil => exact Nat.le_refl 0
    | cons k ks => exact absurd (h k (List.mem_cons_self ..)) (Nat.not_lt_zero _)
  | n + 1, ks, hd, h => by
    by_cases q : n ∈ ks
    · have h1 := nodup_le n (ks.erase n) (hd.erase n) (fun k hk => by
        have h2 := hd.mem_erase_iff.mp hk
        have := h k h2.2
        omega)
      rw [List.length_erase_of_mem q] at h1
      omega
    · have := nodup_le n ks hd (fun k hk => by
        have h1 := h k hk
        have : k ≠ n := fun e => q (e ▸ hk)
        omega)
      omega
theorem FI_keys {g : nb} {p left : Nat} {base : List Nat} {F : List fm} : ∀ {pre : List Nat} {n c : Nat}, n < 13 → rdc (Wg g) pre p c n → left = c + tv g (zz F ++ base) n → left < 1000000000 → FI g p left base F pre → ∃ ks : List Nat, ks.length = F.length ∧ ks.Nodup ∧ ∀ k, k ∈ ks → k < 156 ∧ ∃ f, f ∈ F ∧ ∃ d, d ≤ tv g (zz F ++ base) n ∧ f.2.2.1 = Wg g k + d := by
  induction F with
  | nil => exact fun {pre n c} _ _ _ _ _ => ⟨[], rfl, List.nodup_nil, fun k hk => absurd hk (List.not_mem_nil)⟩
  | cons f F ih =>
    intro pre n c hn hr hl hF hI
    obtain ⟨h1, h2, h3, h4, h5, h6, h7⟩ := hI
    have hz : tv g (zz (f :: F) ++ base) n = tv g (f.2.2.2 :: (zz F ++ base)) n := rfl
    obtain ⟨t, t1, t2⟩ := tv_ex (g := g) (x := f.2.2.2) (l := zz F ++ base) (n := n) (by omega)
    have rn : rdc (Wg g) (pre ++ [f.2.2.2]) p (c + (Wg g (52 * n + 13 * f.2.2.2 + t) + 0)) t := rdc_cat hr ⟨t, 0, t1, rfl, rfl, rfl⟩
    have a := h4 _ t t1 rn
    have b := tv_up (g := g) (x := f.2.1) (l := zz F ++ base) (n := f.1) t1
    obtain ⟨ks, k1, k2, k3⟩ := ih t1 rn (by omega) hF h7
    refine ⟨(52 * f.1 + 13 * f.2.1 + t) :: ks, by rw [List.length_cons, List.length_cons, k1], List.nodup_cons.mpr ⟨fun hk => ?_, k2⟩, fun k hk => ?_⟩
    · obtain ⟨-, f', f1, d, d1, d2⟩ := k3 _ hk
      have := h6 f' f1
      omega
    · rcases List.mem_cons.mp hk with e | e
      · subst e
        exact ⟨by omega, f, List.mem_cons_self .., tv g (zz F ++ base) t, by omega, by omega⟩
      · obtain ⟨c1, f', f1, d, d1, d2⟩ := k3 k e
        exact ⟨c1, f', List.mem_cons_of_mem _ f1, d, by omega, d2⟩
/-- what holds at each step of a run -/
def RI (g : nb) (l : List Nat) (p : Nat) : Prop := (∀ x, x ∈ l → x < 4) ∧ p < g.1 0 ∧ (l = [] ∨ ∃ y F base, l = y :: (zz F ++ base) ∧ base.length ≤ 11 ∧ FI g p (tv g l p) base F [y])
theorem RI_len {g : nb} (hW : WF g) {l : List Nat} {p : Nat} (h : RI g l p) (hf : tv g l p < 1000000000) : l.length ≤ 168 := by
  obtain ⟨h1, h2, h3⟩ := h
  have hS := hW.1.2.1
  rcases h3 with e | ⟨y, F, base, e, e1, e2⟩
  · rw [e]; exact Nat.zero_le _
  · subst e
    obtain ⟨t, t1, t2⟩ := tv_ex hf
    have rd1 : rdc (Wg g) [y] p (Wg g (52 * p + 13 * y + t) + 0) t := ⟨t, 0, t1, rfl, rfl, rfl⟩
    obtain ⟨ks, k1, k2, k3⟩ := FI_keys t1 rd1 (by omega) hf e2
    have := nodup_le 156 ks k2 (fun k hk => (k3 k hk).1)
    have hz : (zz F).length = F.length := List.length_map ..
    rw [List.length_cons, List.length_append, hz]
    omega
theorem RI_0 {g : nb} (hW : WF g) : RI g (sk g (g.1 14)) (g.1 13) := by
  obtain ⟨c1, c2, c3⟩ := hW.2.2.1
  refine ⟨sk_mem c3 _ (Nat.le_refl _), c1, ?_⟩
  cases e : g.1 14 with
  | zero => exact Or.inl rfl
  | succ h => exact Or.inr ⟨g.2 15 h, [], sk g h, rfl, by rw [sk_len]; omega, trivial⟩
theorem nxr_ok {g : nb} (hW : WF g) {l : List Nat} {p : Nat} (h : RI g l p) (h0 : 0 < tv g l p) (hf : tv g l p < 1000000000) : nxr g l p < g.1 1 ∧ okr g l p (nxr g l p) ∧ ∀ r, r < nxr g l p → ¬ okr g l p r := by
  obtain ⟨h1, h2, h3⟩ := h
  cases l with
  | nil => rw [tv_nil hf] at h0; exact absurd h0 (Nat.lt_irrefl _)
  | cons y l =>
    obtain ⟨r, r1, r2, r3, r4⟩ := tv_step hW h2 (h1 y (List.mem_cons_self ..)) (fun x hx => h1 x (List.mem_cons_of_mem _ hx)) h0 hf
    obtain ⟨a1, a2, a3, a4⟩ := sr_ok (g := g) (l := y :: l) (p := p) (g.1 1) 0 ⟨r, Nat.zero_le _, by omega, r2, by rw [r3]; rfl, r4⟩
    exact ⟨by unfold nxr; omega, a3, fun r' hr' => a4 r' (Nat.zero_le _) hr'⟩
theorem RI_s {g : nb} (hW : WF g) {l : List Nat} {p r : Nat} (h : RI g l p) (hr : r < g.1 1) (ho : okr g l p r) : RI g (lw (g.2 5 r) ++ l.tail) (g.2 4 r) := by
  obtain ⟨h1, h2, h3⟩ := h
  obtain ⟨a1, a2, a3, a4⟩ := hW.2.1.1 r hr
  have hS := hW.1.2.1
  obtain ⟨o1, o2, o3⟩ := ho
  rcases h3 with e | ⟨y, F, base, e, e1, e2⟩
  · rw [e] at o2; cases o2
  subst e
  have hy : y = g.2 3 r := by
    have := o2
    simp only [List.head?_cons, Option.some.injEq] at this
    exact this
  rw [List.tail_cons] at o3 ⊢
  generalize hv : tv g (lw (g.2 5 r) ++ (zz F ++ base)) (g.2 4 r) = left at o3
  rw [← o3] at e2
  have H : ∀ zs c e, e < 13 → rdc (Wg g) (lw (g.2 5 r) ++ zs) (g.2 4 r) c e → ∃ c0, c0 ≤ c + 1 ∧ rdc (Wg g) ([y] ++ zs) p c0 e := by
    intro zs c e he hc
    obtain ⟨m, c1, c2, m1, m2, m3, m4⟩ := rdc_app (by omega) hc
    obtain ⟨es, s1, s2⟩ := rdc_Ch (v := 0) m3
    have := Wg_sat hW hr m1 s1
    unfold bse at this
    rw [o1, ← hy] at this
    exact ⟨Wg g (52 * p + 13 * y + m) + c2, by omega, m, c2, m1, rfl, m4⟩
  have nI2 := FI_step (zs := []) H (left := left) (base := base) (F := F) (by rw [List.append_nil]; exact e2)
  rw [List.append_nil] at nI2
  refine ⟨fun x hx => ?_, a3, ?_⟩
  · rcases List.mem_append.mp hx with q | q
    · exact lw_lt a4 q
    · exact h1 x (List.mem_cons_of_mem _ q)
  by_cases w0 : g.2 5 r = 0
  · rw [lw_0 w0] at nI2 hv ⊢
    rw [List.nil_append] at hv ⊢
    cases F with
    | nil =>
      cases base with
      | nil => exact Or.inl rfl
      | cons b base => exact Or.inr ⟨b, [], base, rfl, by rw [List.length_cons] at e1; omega, trivial⟩
    | cons f F =>
      refine Or.inr ⟨f.2.2.2, F, base, rfl, e1, ?_⟩
      rw [hv]
      exact nI2.2.2.2.2.2.2
  · rcases lw_cases w0 with ⟨u, hu⟩ | ⟨u, v, hu⟩
    · rw [hu] at nI2 hv ⊢
      refine Or.inr ⟨u, F, base, rfl, e1, ?_⟩
      rw [hv]
      exact nI2
    · rw [hu] at nI2 hv ⊢
      refine Or.inr ⟨u, (p, y, left + 1, v) :: F, base, rfl, e1, ?_⟩
      rw [hv]
      refine ⟨by show p < 3; omega, by show y < 4; rw [hy]; exact a2, Nat.lt_succ_self _, fun c e he hc => ?_, o3.symm, FI_left e2, nI2⟩
      obtain ⟨c0, c1, m, d, d1, d2, d3, d4⟩ := H [] c e he (by rw [hu]; exact hc)
      show Wg g (52 * p + 13 * y + e) + left ≤ left + 1 + c
      subst d3
      omega
theorem cfg_ok {g : nb} (hW : WF g) (hf : tv g (sk g (g.1 14)) (g.1 13) < 1000000000) : ∀ j, j ≤ tv g (sk g (g.1 14)) (g.1 13) → RI g (cfg g j).1 (cfg g j).2 ∧ tv g (cfg g j).1 (cfg g j).2 + j = tv g (sk g (g.1 14)) (g.1 13) := by
  intro j
  induction j with
  | zero => exact fun _ => ⟨RI_0 hW, rfl⟩
  | succ j ih =>
    intro hj
    obtain ⟨i1, i2⟩ := ih (by omega)
    obtain ⟨n1, n2, n3⟩ := nxr_ok hW i1 (by omega) (by omega)
    refine ⟨RI_s hW i1 n1 n2, ?_⟩
    have := n2.2.2
    show tv g (lw (g.2 5 (nxr g (cfg g j).1 (cfg g j).2)) ++ (cfg g j).1.tail) (g.2 4 (nxr g (cfg g j).1 (cfg g j).2)) + (j + 1) = _
    omega
