/-! reading a text: the reference -/
def at_6 (m : ob) (a : Nat) (v : Int32) : ob := sI (sI m 32 v) 31 (nI a)
def tx_6 (m : ob) (T : Nat → Nat) (L : Nat) : Prop := m.1 30 = nI L ∧ ∀ i, i < L → m.2 29 i = nI (T i)
def sf_6 (m m' : ob) : Prop := (∀ k, k ≠ 33 → m'.1 k = m.1 k) ∧ ∀ k, k ≠ 34 → m'.2 k = m.2 k
theorem sf_6.tx {m m' : ob} {T : Nat → Nat} {L : Nat} (h : sf_6 m m') (t : tx_6 m T L) : tx_6 m' T L := ⟨by rw [h.1 30 (by decide)]; exact t.1, fun i hi => by rw [h.2 29 (by decide)]; exact t.2 i hi⟩
theorem sf_6.rf (m : ob) : sf_6 m m := ⟨fun _ _ => rfl, fun _ _ => rfl⟩
theorem sf_6.tr {a b c : ob} (h : sf_6 a b) (k : sf_6 b c) : sf_6 a c := ⟨fun j hj => (k.1 j hj).trans (h.1 j hj), fun j hj => (k.2 j hj).trans (h.2 j hj)⟩
theorem at_6i (m : ob) (a : Nat) (v : Int32) {k : Nat} (h1 : k ≠ 31) (h2 : k ≠ 32) : (at_6 m a v).1 k = m.1 k := by
  show (if k = 31 then _ else if k = 32 then _ else m.1 k) = _
  rw [if_neg h1, if_neg h2]
theorem at_61 (m : ob) (a : Nat) (v : Int32) : (at_6 m a v).1 31 = nI a := rfl
theorem at_62 (m : ob) (a : Nat) (v : Int32) : (at_6 m a v).1 32 = v := rfl
theorem at_6r (m : ob) (a : Nat) (v : Int32) : (at_6 m a v).2 = m.2 := rfl
theorem at_6s (m : ob) (a : Nat) (v : Int32) : sI (at_6 m a v) 31 (nI a + 1) = at_6 m (a + 1) v := by
  unfold at_6
  rw [sI_sI, nI_1]
theorem at_6v (m : ob) (a : Nat) (v w : Int32) : sI (sI (at_6 m a v) 32 w) 31 (nI a + 1) = at_6 m (a + 1) w := by
  unfold at_6
  rw [sI_co _ (show 31 ≠ 32 by decide), sI_sI, sI_sI, nI_1]
theorem p6_end {T : Nat → Nat} {L a : Nat} {v : Int32} (hT : txt T L) {m : ob} (h : tx_6 m T L) (ha : a ≤ L) : ((at_6 m a v).1 30 ≤ (at_6 m a v).1 31 ↔ a = L) := by
  have hl := hT.1
  rw [at_6i m a v (by decide) (by decide), at_61, h.1, nI_leI (by omega) (by omega)]
  omega
theorem p6_sign_y {T : Nat → Nat} {L a c : Nat} {v : Int32} (hT : txt T L) {m : ob} (h : tx_6 m T L) (q : tS T L a c) : f6_sign (nI c) (at_6 m a v) = some (1, at_6 m (a + 1) v) := by
  have hl := hT.1
  unfold f6_sign
  rw [if_neg (fun e => by have := (p6_end hT h (by omega)).mp e; omega), at_61, vin_nI (by omega), gd_p (show a < 200 by omega), nI_clamp (by omega), at_6r, h.2 a q.1, q.2, if_pos rfl, at_6s]
  rfl
theorem p6_sign_n {T : Nat → Nat} {L a c : Nat} {v : Int32} (hT : txt T L) {m : ob} (h : tx_6 m T L) (ha : a ≤ L) (hc : c < 200) (q : ¬ tS T L a c) : f6_sign (nI c) (at_6 m a v) = some (0, at_6 m a v) := by
  have hl := hT.1
  unfold f6_sign
  by_cases e : a = L
  · rw [if_pos ((p6_end hT h ha).mpr e)]
  · have hi := hT.2 a (by omega)
    rw [if_neg (fun e2 => e ((p6_end hT h ha).mp e2)), at_61, vin_nI (by omega), gd_p (show a < 200 by omega), nI_clamp (by omega), at_6r, h.2 a (by omega), if_neg (fun e2 => q ⟨by omega, (nI_eq (by omega) (by omega)).mp e2⟩)]
theorem in_fig {t lo hi : Nat} (ht : t < 200) (hlo : lo < 200) (h0 : 0 < hi) (h1 : hi < 200) : f6_in (nI t - 48) (nI lo) (nI hi - 1) = some (if 48 + lo ≤ t ∧ t < 48 + hi then nI 1 else nI 0) := by
  rw [show nI hi - 1 = nI (hi - 1) from nI_sub (a := hi) (b := 1) (by omega), show (48 : Int32) = nI 48 from rfl]
  by_cases q : t < 48
  · rw [sub_ng q (by decide)]
    unfold f6_in
    rw [if_pos (nI_neg_lt (by omega) (by omega) (by omega)), if_neg (by omega)]
    rfl
  · rw [nI_sub (by omega), p6_in _ _ _ (by omega) (by omega) (by omega)]
    by_cases q2 : 48 + lo ≤ t ∧ t < 48 + hi
    · rw [if_pos q2, if_pos (by omega)]
    · rw [if_neg q2, if_neg (by omega)]
theorem p6_fig_y {T : Nat → Nat} {L a lo hi : Nat} {v : Int32} (hT : txt T L) {m : ob} (h : tx_6 m T L) (h0 : 0 < hi) (hh : hi ≤ 10) (hlo : lo < 200) (q : tD T L a lo hi) : f6_figure (nI lo) (nI hi) (at_6 m a v) = some (1, at_6 m (a + 1) (nI (T a - 48))) := by
  have hl := hT.1
  have ht := hT.2 a q.1
  have e48 : nI (T a) - 48 = nI (T a - 48) := nI_sub (a := T a) (b := 48) (by omega)
  unfold f6_figure
  rw [if_neg (fun e => by have := (p6_end hT h (by omega)).mp e; omega), at_61, vin_nI (by omega), gd_p (show a < 200 by omega), nI_clamp (by omega), at_6r, h.2 a q.1, in_fig (by omega) hlo h0 (by omega), if_pos q.2]
  simp only [Option.bind_some]
  rw [if_neg z1, gd_p (show a < 200 by omega), lt_v, lt_v, e48]
  have e31 : (sI (at_6 m a v) 32 (nI (T a - 48))).1 31 = nI a := rfl
  rw [e31, at_6v]
theorem p6_fig_n {T : Nat → Nat} {L a lo hi : Nat} {v : Int32} (hT : txt T L) {m : ob} (h : tx_6 m T L) (ha : a ≤ L) (h0 : 0 < hi) (hh : hi ≤ 10) (hlo : lo < 200) (q : ¬ tD T L a lo hi) : f6_figure (nI lo) (nI hi) (at_6 m a v) = some (0, at_6 m a v) := by
  have hl := hT.1
  unfold f6_figure
  by_cases e : a = L
  · rw [if_pos ((p6_end hT h ha).mpr e)]
  · have ht := hT.2 a (by omega)
    rw [if_neg (fun e2 => e ((p6_end hT h ha).mp e2)), at_61, vin_nI (by omega), gd_p (show a < 200 by omega), nI_clamp (by omega), at_6r, h.2 a (by omega), in_fig (by omega) hlo h0 (by omega), if_neg (fun q2 => q ⟨by omega, q2⟩)]
    simp only [Option.bind_some]
    rw [if_pos z0]
theorem p6_wat_y {T : Nat → Nat} {L a : Nat} {v : Int32} (hT : txt T L) {m : ob} (h : tx_6 m T L) (q : tL T L a) : f6_isWordAt (at_6 m a v) = some 1 := by
  have hl := hT.1
  have ht := hT.2 a q.1
  unfold f6_isWordAt
  rw [if_neg (fun e => by have := (p6_end hT h (by omega)).mp e; omega), at_61, vin_nI (by omega), gd_p (show a < 200 by omega), nI_clamp (by omega), at_6r, h.2 a q.1, show nI (T a) - 97 = nI (T a - 97) from nI_sub (a := T a) (b := 97) (by omega), c6L_y (by omega)]
  simp only [Option.bind_some]
  rw [if_neg z1]
theorem p6_wat_n {T : Nat → Nat} {L a : Nat} {v : Int32} (hT : txt T L) {m : ob} (h : tx_6 m T L) (ha : a ≤ L) (q : ¬ tL T L a) : f6_isWordAt (at_6 m a v) = some 0 := by
  have hl := hT.1
  unfold f6_isWordAt
  by_cases e : a = L
  · rw [if_pos ((p6_end hT h ha).mpr e)]
  · have ht := hT.2 a (by omega)
    have ni : ¬ IN (nI (T a) - 97) 4 := by
      rintro ⟨b, hb, eb⟩
      rw [show (97 : Int32) = nI 97 from rfl] at eb
      by_cases q1 : T a < 97
      · rw [sub_ng q1 (by decide)] at eb
        exact neg_ne_nI (by omega) (by omega) (by omega) eb
      · rw [nI_sub (by omega)] at eb
        have := (nI_eq (by omega) (by omega)).mp eb
        exact q ⟨by omega, by omega, by omega⟩
    rw [if_neg (fun e2 => e ((p6_end hT h ha).mp e2)), at_61, vin_nI (by omega), gd_p (show a < 200 by omega), nI_clamp (by omega), at_6r, h.2 a (by omega), c6L_n ni]
    simp only [Option.bind_some]
    rw [if_pos z0]
theorem p6_word {T : Nat → Nat} {L a n most : Nat} {v : Int32} (hT : txt T L) {m : ob} (h : tx_6 m T L) (ha : a ≤ L) (hw : wat T L a n) (hm : most ≤ 6) : ∃ m', sf_6 m m' ∧ m'.1 33 = nI n ∧ (∀ j, j < n → j < 6 → m'.2 34 j = nI (T (a + j) - 97)) ∧ f6_word (nI most) (at_6 m a v) = some (if n ≤ most then nI 1 else nI 0, at_6 m' (a + n) v) := by
  have hl := hT.1
  have hn := wat_le hw ha
  obtain ⟨b, e, m', hb, r1, r2, r3⟩ := wh_fr (st := f6_word_L5) (fun _ (b : ob) => b) n (fun i b => ∃ m', b = at_6 m' (a + i) v ∧ sf_6 m m' ∧ m'.1 33 = nI i ∧ ∀ j, j < i → j < 6 → m'.2 34 j = nI (T (a + j) - 97)) (b0 := sI (at_6 m a v) 33 0)
    ⟨sI m 33 0, by unfold at_6; rw [sI_co _ (show 31 ≠ 33 by decide), sI_co _ (show 32 ≠ 33 by decide)]; rfl, ⟨fun k hk => by simp only [sI_1, sI_2, sA_1, sA_2, sR_1, sR_2, upd_at, sL_1, sL_2, rL_uL, updL_at, if_neg hk], fun _ _ => rfl⟩, rfl, fun _ hj => absurd hj (Nat.not_lt_zero _)⟩
    (by
      rintro b ⟨m', rfl, r1, r2, r3⟩
      unfold f6_word_L5
      rw [p6_wat_n hT (r1.tx h) (by omega) hw.2]
      simp only [Option.bind_some]
      rw [if_pos trivial])
    (by
      rintro i b hi ⟨m', rfl, r1, r2, r3⟩
      have hL := hw.1 i hi
      have ht := hT.2 _ hL.1
      have e33 : (at_6 m' (a + i) v).1 33 = nI i := r2
      have e97 : nI (T (a + i)) - 97 = nI (T (a + i) - 97) := nI_sub (a := T (a + i)) (b := 97) (by omega)
      have st : f6_word_L5 (at_6 m' (a + i) v) = ((if 6 ≤ nI i then (some (at_6 m' (a + i) v)) else (some (sA (at_6 m' (a + i) v) 34 i (nI (T (a + i) - 97))))).bind fun v6 => lt (sI v6 33 ((v6.1 33) + 1)) fun t7 => lt (sI t7 31 ((t7.1 31) + 1)) fun t8 => some (0, t8)) := by
        unfold f6_word_L5
        rw [p6_wat_y hT (r1.tx h) hL]
        simp only [Option.bind_some]
        rw [if_neg (by decide), e33, at_61, vin_nI (by omega), gd_p (show a + i < 200 by omega), nI_clamp (show a + i < 2 ^ 31 by omega), at_6r, (r1.tx h).2 _ hL.1, e97]
        by_cases q : i < 6
        · rw [vin_nI (by omega), gd_p q, nI_clamp (show i < 2 ^ 31 by omega)]
          simp only [lt_v]
        · rw [if_pos (show (6 : Int32) ≤ nI i from nI_le (a := 6) (by omega) (by omega)), if_pos (show (6 : Int32) ≤ nI i from nI_le (a := 6) (by omega) (by omega))]
      by_cases q : i < 6
      · refine ⟨at_6 (sI (sA m' 34 i (nI (T (a + i) - 97))) 33 (nI (i + 1))) (a + (i + 1)) v, ?_, _, rfl, r1.tr ⟨fun k hk => by simp only [sI_1, sI_2, sA_1, sA_2, sR_1, sR_2, upd_at, sL_1, sL_2, rL_uL, updL_at, if_neg hk], fun k hk => by simp only [sI_1, sI_2, sA_1, sA_2, sR_1, sR_2, upd_at, sL_1, sL_2, rL_uL, updL_at, if_neg hk]⟩, rfl, fun j hj j6 => ?_⟩
        · rw [st, if_neg (show ¬ (6 : Int32) ≤ nI i from nI_ge (a := i) (b := 6) q (by decide))]
          simp only [Option.bind_some, lt_v]
          refine congrArg (fun w => some (0, w)) (ob_ext (fun k => ?_) (fun k => rfl))
          show (if k = 31 then nI (a + i) + 1 else if k = 33 then m'.1 33 + 1 else if k = 31 then _ else if k = 32 then _ else m'.1 k) = if k = 31 then nI (a + (i + 1)) else if k = 32 then _ else if k = 33 then _ else m'.1 k
          rw [r2, nI_1, nI_1, Nat.add_assoc]
          by_cases k1 : k = 31
          · rw [if_pos k1, if_pos k1]
          · rw [if_neg k1, if_neg k1, if_neg k1]
            by_cases k2 : k = 33
            · rw [if_pos k2, if_neg (by omega), if_pos k2]
            · rw [if_neg k2, if_neg k2]
        · show (if j = i then nI (T (a + i) - 97) else m'.2 34 j) = _
          by_cases qj : j = i
          · rw [if_pos qj, qj]
          · rw [if_neg qj]; exact r3 j (by omega) j6
      · refine ⟨at_6 (sI m' 33 (nI (i + 1))) (a + (i + 1)) v, ?_, _, rfl, r1.tr ⟨fun k hk => by simp only [sI_1, sI_2, sA_1, sA_2, sR_1, sR_2, upd_at, sL_1, sL_2, rL_uL, updL_at, if_neg hk], fun k hk => rfl⟩, rfl, fun j hj j6 => r3 j (by omega) j6⟩
        rw [st, if_pos (show (6 : Int32) ≤ nI i from nI_le (a := 6) (by omega) (by omega))]
        simp only [Option.bind_some, lt_v]
        refine congrArg (fun w => some (0, w)) (ob_ext (fun k => ?_) (fun k => rfl))
        show (if k = 31 then nI (a + i) + 1 else if k = 33 then m'.1 33 + 1 else if k = 31 then _ else if k = 32 then _ else m'.1 k) = if k = 31 then nI (a + (i + 1)) else if k = 32 then _ else if k = 33 then _ else m'.1 k
        rw [r2, nI_1, nI_1, Nat.add_assoc]
        by_cases k1 : k = 31
        · rw [if_pos k1, if_pos k1]
        · rw [if_neg k1, if_neg k1, if_neg k1]
          by_cases k2 : k = 33
          · rw [if_pos k2, if_neg (by omega), if_pos k2]
          · rw [if_neg k2, if_neg k2])
  subst hb
  refine ⟨m', r1, r2, r3, ?_⟩
  unfold f6_word
  simp only [lt_v]
  have e : wh f6_word_L5 (sI (at_6 m a v) 33 0) = some (1, at_6 m' (a + n) v) := e
  rw [e]
  simp only [Option.bind_some]
  rw [show (at_6 m' (a + n) v).1 33 = nI n from r2]
  by_cases q : n ≤ most
  · rw [if_neg (nI_nlt (by omega) (by omega)), if_pos q]; rfl
  · rw [if_pos (nI_lt (by omega) (by omega)), if_neg q]; rfl
