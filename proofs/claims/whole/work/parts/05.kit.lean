/-! My own layer: records of an object's ints and rows, worlds as lists of objects, one contract shape, one row a kind of instruction. -/
def TBL : List Cond := lw_tbl.filter goodWord
theorem tbl_in {w : Cond} (h : w ∈ lw_tbl) (hg : goodWord w = true) : w ∈ TBL := List.mem_filter.mpr ⟨h, hg⟩
theorem tbl_lw {w : Cond} (h : w ∈ TBL) : w ∈ lw_tbl := (List.mem_filter.mp h).1
theorem tbl_good : GoodIn TBL TBL := fun _ h => ⟨h, good_of_word (List.mem_filter.mp h).2⟩
theorem tab_in {w : Cond} (h : w ∈ tables_1) : w ∈ lw_tbl := List.mem_append_right _ h
theorem tk_0 {w : Cond} (i : Nat) (h : (k2_sels lw_privs)[i]? = some w) (hg : goodWord w = true) : w ∈ TBL := tbl_in (List.mem_append_left _ (List.mem_of_getElem? h)) hg
theorem tk_1 {w : Cond} (i : Nat) (h : tables_1_1[i]? = some w) (hg : goodWord w = true) : w ∈ TBL := tbl_in (tab_in (List.mem_append_left _ (List.mem_of_getElem? h))) hg
theorem tk_2 {w : Cond} (i : Nat) (h : tables_1_2[i]? = some w) (hg : goodWord w = true) : w ∈ TBL := tbl_in (tab_in (List.mem_append_right _ (List.mem_append_left _ (List.mem_of_getElem? h)))) hg
theorem tk_3 {w : Cond} (i : Nat) (h : tables_1_3[i]? = some w) (hg : goodWord w = true) : w ∈ TBL := tbl_in (tab_in (List.mem_append_right _ (List.mem_append_right _ (List.mem_append_left _ (List.mem_of_getElem? h))))) hg
theorem tk_4 {w : Cond} (i : Nat) (h : tables_1_4[i]? = some w) (hg : goodWord w = true) : w ∈ TBL := tbl_in (tab_in (List.mem_append_right _ (List.mem_append_right _ (List.mem_append_right _ (List.mem_append_left _ (List.mem_of_getElem? h)))))) hg
theorem tk_5 {w : Cond} (i : Nat) (h : tables_1_5[i]? = some w) (hg : goodWord w = true) : w ∈ TBL := tbl_in (tab_in (List.mem_append_right _ (List.mem_append_right _ (List.mem_append_right _ (List.mem_append_right _ (List.mem_append_left _ (List.mem_of_getElem? h))))))) hg
theorem tk_6 {w : Cond} (i : Nat) (h : tables_1_6[i]? = some w) (hg : goodWord w = true) : w ∈ TBL := tbl_in (tab_in (List.mem_append_right _ (List.mem_append_right _ (List.mem_append_right _ (List.mem_append_right _ (List.mem_append_right _ (List.mem_of_getElem? h))))))) hg
/-- an object: its ints by slot, its rows by slot -/
abbrev ob : Type := (Nat → Int32) × (Nat → Nat → Int32)
def sI (o : ob) (k : Nat) (v : Int32) : ob := (va_up o.1 k v, o.2)
def sA (o : ob) (k i : Nat) (v : Int32) : ob := (o.1, va_up o.2 k (upd (o.2 k) i v))
def sR (o : ob) (k : Nat) (r : Nat → Int32) : ob := (o.1, va_up o.2 k r)
/-! longs: each stands as two ints in a row -/
def mkL (lo hi : Int32) : Int64 := Int64.ofBitVec (hi.toBitVec ++ lo.toBitVec)
def loL (v : Int64) : Int32 := Int32.ofBitVec (v.toBitVec.extractLsb' 0 32)
def hiL (v : Int64) : Int32 := Int32.ofBitVec (v.toBitVec.extractLsb' 32 32)
theorem mkL_e (v : Int64) : mkL (loL v) (hiL v) = v := by
  apply Int64.toBitVec_inj.mp
  show (v.toBitVec.extractLsb' 32 32 ++ v.toBitVec.extractLsb' 0 32 : BitVec (32 + 32)) = v.toBitVec
  rw [BitVec.extractLsb'_append_extractLsb'_eq_extractLsb' (by rfl)]
  exact BitVec.extractLsb'_eq_self
theorem mkL_0 : mkL 0 0 = 0 := by decide +kernel
/-- a row of ints read as longs, and longs laid into a row of ints -/
def rL (r : Nat → Int32) (i : Nat) : Int64 := mkL (r (2 * i)) (r (2 * i + 1))
def uL (f : Nat → Int64) (k : Nat) : Int32 := if k % 2 = 0 then loL (f (k / 2)) else hiL (f (k / 2))
theorem rL_uL (f : Nat → Int64) : rL (uL f) = f := by
  funext i
  unfold rL uL
  rw [if_pos (by omega), if_neg (by omega), show 2 * i / 2 = i by omega, show (2 * i + 1) / 2 = i by omega, mkL_e]
theorem rL_0 : rL (fun _ => 0) = fun _ => 0 := by
  funext i
  exact mkL_0
def sL (o : ob) (k i : Nat) (v : Int64) : ob := (o.1, va_up o.2 k (uL (vp_updL (rL (o.2 k)) i v)))
def sF (o : ob) (k : Nat) (v : Int64) : ob := (o.1, va_up o.2 k (uL (fun _ => v)))
theorem sL_g (o : ob) (k i : Nat) (v : Int64) : vp_updL (rL (o.2 k)) i v = rL ((sL o k i v).2 k) := by
  show _ = rL (va_up o.2 k _ k)
  rw [va_up_self, rL_uL]
theorem rL_sF (o : ob) (k : Nat) (v : Int64) : rL ((sF o k v).2 k) 0 = v := by
  show rL (va_up o.2 k _ k) 0 = v
  rw [va_up_self, rL_uL]
theorem sR_uL (o : ob) (k : Nat) (f : Nat → Int64) : rL ((sR o k (uL f)).2 k) = f := by
  show rL (va_up o.2 k _ k) = f
  rw [va_up_self, rL_uL]
def lt {α β : Type} (x : α) (f : α → β) : β := f x
def gd {α : Type} (b : Bool) (x : Option α) : Option α := if b = true then x else none
def vin (i : Int32) (n : Nat) : Bool := !(decide (i < 0) || decide (n ≤ i.toNatClampNeg))
def bz (x : Int32) : Bool := x == 0 || x == 1
theorem vin_ok {i : Int32} {n : Nat} (h : vin i n = true) : vp_in i n := by
  intro q
  simp only [vin, Bool.not_eq_true', Bool.or_eq_false_iff, decide_eq_false_iff_not] at h
  rcases q with q | q
  · exact h.1 q
  · exact h.2 q
theorem bz_or {x : Int32} (h : bz x = true) : x = 0 ∨ x = 1 := by simpa [bz] using h
theorem bz_n {x : Int32} (h : bz x = true) : narrow .boolean (.int x) = .int x := by
  rcases bz_or h with rfl | rfl <;> rfl
theorem bz_f {x : Int32} (h : bz x = true) : fits .boolean (.int x) = true := by
  rcases bz_or h with rfl | rfl <;> rfl
theorem bz_v {x : Int32} (h : bz x = true) : vp_nar .boolean x = x := by
  rcases bz_or h with rfl | rfl <;> rfl
section PURE
variable {α β γ : Type}
theorem tob {x : Option α} {r : α} (h : x = some r) : x.bind some = some r := by rw [h]; rfl
theorem ltb {x y : β} {f : β → Option α} {F : α → Option γ} {r : γ} (h : (lt x f).bind F = some r) (e : y = x) : (f y).bind F = some r := by subst e; exact h
theorem gdb {b : Bool} {x : Option α} {F : α → Option γ} {r : γ} (h : (gd b x).bind F = some r) : b = true ∧ x.bind F = some r := by
  cases b with
  | true => exact ⟨rfl, h⟩
  | false => cases h
theorem ifp {c : Prop} [Decidable c] {x y : Option α} {F : α → Option γ} {r : γ} (h : (if c then x else y).bind F = some r) (hc : c) : x.bind F = some r := by rw [if_pos hc] at h; exact h
theorem ifn {c : Prop} [Decidable c] {x y : Option α} {F : α → Option γ} {r : γ} (h : (if c then x else y).bind F = some r) (hc : ¬ c) : y.bind F = some r := by rw [if_neg hc] at h; exact h
theorem asb {x : Option β} {f : β → Option α} {F : α → Option γ} {r : γ} (h : (x.bind f).bind F = some r) : ∃ q, x = some q ∧ (f q).bind F = some r := by
  cases x with
  | none => cases h
  | some q => exact ⟨q, rfl, h⟩
theorem rgn {x : Option β} {f : β → Option α} {F : α → Option γ} {r : γ} (h : (x.bind f).bind F = some r) : ∃ J : β → Option γ, (J = fun q => (f q).bind F) ∧ x.bind J = some r := by
  refine ⟨_, rfl, ?_⟩
  cases x with
  | none => cases h
  | some q => exact h
theorem jof {J K : β → Option γ} {q : β} {r : γ} (e : J = K) (h : J q = some r) : K q = some r := by rw [← e]; exact h
theorem sob {x : α} {F : α → Option γ} {r : γ} (h : (some x).bind F = some r) : F x = some r := h
theorem sor {x r : α} (h : (some x).bind some = some r) : r = x := (Option.some.inj h).symm
/-- a loop: from state to state by steps; 0 goes on, another number is a way out -/
def iter (step : α → Option (Nat × α)) : Nat → α → Option (Nat × α)
  | 0, _ => none
  | n + 1, s => match step s with
    | none => none
    | some (0, t) => iter step n t
    | some (k + 1, t) => some (k + 1, t)
noncomputable def wh (step : α → Option (Nat × α)) (s : α) : Option (Nat × α) :=
  @dite (Option (Nat × α)) (∃ q, ∃ n, iter step n s = some q) (Classical.propDecidable _) (fun h => some (Classical.choose h)) (fun _ => none)
theorem iter_det {step : α → Option (Nat × α)} : ∀ {n m : Nat} {s : α} {q r : Nat × α}, iter step n s = some q → iter step m s = some r → q = r
  | 0, _, _, _, _, h, _ => by simp [iter] at h
  | n + 1, 0, _, _, _, _, h => by simp [iter] at h
  | n + 1, m + 1, s, q, r, h1, h2 => by
    simp only [iter] at h1 h2
    cases hs : step s with
    | none => rw [hs] at h1; cases h1
    | some u =>
      rw [hs] at h1 h2
      obtain ⟨k, t⟩ := u
      cases k with
      | zero => exact iter_det h1 h2
      | succ k => simp only [Option.some.injEq] at h1 h2; rw [← h1, ← h2]
theorem wh_out {step : α → Option (Nat × α)} {s : α} {q : Nat × α} (h : wh step s = some q) : ∃ n, iter step n s = some q := by
  unfold wh at h
  by_cases hx : ∃ q, ∃ n, iter step n s = some q
  · rw [dif_pos hx] at h
    have e := Option.some.inj h
    obtain ⟨n, hn⟩ := Classical.choose_spec hx
    exact ⟨n, by rw [← e]; exact hn⟩
  · rw [dif_neg hx] at h; cases h
theorem wh_in {step : α → Option (Nat × α)} {s : α} {q : Nat × α} {n : Nat} (h : iter step n s = some q) : wh step s = some q := by
  unfold wh
  have hx : ∃ q, ∃ n, iter step n s = some q := ⟨q, n, h⟩
  rw [dif_pos hx]
  obtain ⟨m, hm⟩ := Classical.choose_spec hx
  rw [iter_det hm h]
/-- what one step gives: on, or out -/
def itr (step : α → Option (Nat × α)) (n : Nat) (u q : Nat × α) : Prop := (u.1 = 0 → iter step n u.2 = some q) ∧ (u.1 ≠ 0 → q = u)
theorem iter_0 {step : α → Option (Nat × α)} {s : α} {q : Nat × α} (h : iter step 0 s = some q) : False := by simp [iter] at h
theorem iter_s {step : α → Option (Nat × α)} {n : Nat} {s : α} {q : Nat × α} (h : iter step (n + 1) s = some q) : ∃ u, step s = some u ∧ itr step n u q := by
  simp only [iter] at h
  cases hs : step s with
  | none => rw [hs] at h; cases h
  | some u =>
    rw [hs] at h
    refine ⟨u, rfl, ?_⟩
    obtain ⟨k, t⟩ := u
    cases k with
    | zero => exact ⟨fun _ => h, fun h2 => absurd rfl h2⟩
    | succ k => exact ⟨fun h2 => (Nat.succ_ne_zero k h2).elim, fun _ => (Option.some.inj h).symm⟩
theorem itr_c {step : α → Option (Nat × α)} {n : Nat} {t : α} {u q : Nat × α} (h : itr step n u q) (e : u = (0, t)) : iter step n t = some q := by subst e; exact h.1 rfl
theorem itr_x {step : α → Option (Nat × α)} {n k : Nat} {t : α} {u q : Nat × α} (h : itr step n u q) (e : u = (k + 1, t)) : q = (k + 1, t) := by subst e; exact h.2 (Nat.succ_ne_zero k)
theorem iter_on {step : α → Option (Nat × α)} {n : Nat} {s t : α} {q : Nat × α} (hs : step s = some (0, t)) (h : iter step n t = some q) : iter step (n + 1) s = some q := by simp only [iter, hs]; exact h
theorem iter_off {step : α → Option (Nat × α)} {n k : Nat} {s t : α} (hs : step s = some (k + 1, t)) : iter step (n + 1) s = some (k + 1, t) := by simp only [iter, hs]
theorem wh_on {step : α → Option (Nat × α)} {s t : α} (hs : step s = some (0, t)) : wh step s = wh step t := by
  cases ht : wh step t with
  | some q => obtain ⟨n, hn⟩ := wh_out ht; exact wh_in (iter_on hs hn)
  | none =>
    cases hq : wh step s with
    | none => rfl
    | some q =>
      obtain ⟨n, hn⟩ := wh_out hq
      cases n with
      | zero => exact (iter_0 hn).elim
      | succ n =>
        obtain ⟨u, hu, hi⟩ := iter_s hn
        rw [hs] at hu
        have := wh_in (itr_c hi (Option.some.inj hu).symm)
        rw [ht] at this; cases this
theorem wh_off {step : α → Option (Nat × α)} {k : Nat} {s t : α} (hs : step s = some (k + 1, t)) : wh step s = some (k + 1, t) := wh_in (n := 1) (iter_off hs)
end PURE
/-! worlds: a list of objects, each a list of cells -/
def WL (S : List va_W) : va_W := S.flatten
def pick (S : List va_W) (is : List Nat) : List va_W := is.map (fun i => S.getD i [])
theorem pick_range (S : List va_W) : pick S (List.range S.length) = S := by
  unfold pick
  apply List.ext_getElem
  · simp
  · intro i h1 h2
    simp [List.getD_eq_getElem?_getD, h2]
theorem pick_perm {S : List va_W} {is : List Nat} (h : is.isPerm (List.range S.length) = true) : (WL (pick S is)).Perm (WL S) := by
  have h1 : is.Perm (List.range S.length) := List.isPerm_iff.mp h
  have h2 : (pick S is).Perm (pick S (List.range S.length)) := h1.map _
  rw [pick_range] at h2
  exact h2.flatten
theorem P_of_mem {D : va_G} {cl : List vw_C} {w1 w2 : va_W} {H : Heap} (h : ∀ q ∈ w2, q ∈ w1) (hP : va_P D cl w1 H) : va_P D cl w2 H := by
  intro k q hk
  obtain ⟨i, hi⟩ := List.getElem?_of_mem (h q (List.mem_of_getElem? hk))
  exact hP i q hi
theorem P_perm {D : va_G} {cl : List vw_C} {w1 w2 : va_W} {H : Heap} (h : w1.Perm w2) (hP : va_P D cl w1 H) : va_P D cl w2 H := P_of_mem (fun _ hq => h.mem_iff.mpr hq) hP
theorem D_iff {A : Nat → Prop} {w : va_W} : va_D A w ↔ (w.map Prod.fst).Nodup ∧ ∀ q ∈ w, A q.1 := by
  constructor
  · intro h
    refine ⟨?_, fun q hq => ?_⟩
    · rw [List.nodup_iff_pairwise_ne, List.pairwise_iff_getElem]
      intro i j hi hj hij he
      have hi' : i < w.length := by simpa using hi
      have hj' : j < w.length := by simpa using hj
      have := h.1 i j w[i] w[j] (List.getElem?_eq_getElem hi') (List.getElem?_eq_getElem hj') (by simpa using he)
      omega
    · obtain ⟨k, hk⟩ := List.getElem?_of_mem hq
      exact h.2 k q hk
  · intro h
    refine ⟨fun i j p q hi hj hpq => ?_, fun k q hk => h.2 q (List.mem_of_getElem? hk)⟩
    obtain ⟨hi', ei⟩ := List.getElem?_eq_some_iff.mp hi
    obtain ⟨hj', ej⟩ := List.getElem?_eq_some_iff.mp hj
    have hn := h.1
    rw [List.nodup_iff_pairwise_ne, List.pairwise_iff_getElem] at hn
    rcases Nat.lt_trichotomy i j with h1 | h1 | h1
    · exact absurd (by rw [List.getElem_map, List.getElem_map, ei, ej]; exact hpq) (hn i j (by simpa using hi') (by simpa using hj') h1)
    · exact h1
    · exact absurd (by rw [List.getElem_map, List.getElem_map, ei, ej]; exact hpq.symm) (hn j i (by simpa using hj') (by simpa using hi') h1)
theorem D_perm {A : Nat → Prop} {w1 w2 : va_W} (h : w1.Perm w2) (hD : va_D A w1) : va_D A w2 := by
  rw [D_iff] at hD ⊢
  exact ⟨(h.map _).nodup_iff.mp hD.1, fun q hq => hD.2 q (h.mem_iff.mpr hq)⟩
theorem join2 {A0 : Nat → Prop} {D : va_G} {cl : List vw_C} {wc wr w1 : va_W} {H H1 : Heap} (hP : va_P D cl (wc ++ wr) H) (hD : va_D A0 (wc ++ wr))
    (hk : ∀ q : Nat, q < H.size → ¬ va_A wc H.size q → H1[q]? = H[q]?) (hF : ∀ q, va_A wc H.size q → A0 q) (hP1 : va_P D cl w1 H1) (hD1 : va_D (va_A wc H.size) w1) : va_P D cl (w1 ++ wr) H1 ∧ va_D A0 (w1 ++ wr) := by
  have hC : (List.range wc.length).map (fun i => (wc ++ wr)[i]?) = wc.map some := by
    apply List.ext_getElem
    · simp
    · intro i h1 h2
      have : i < wc.length := by simpa using h2
      simp [List.getElem?_append_left this, this]
  have hR : (List.range' wc.length wr.length).map (fun i => (wc ++ wr)[i]?) = wr.map some := by
    apply List.ext_getElem
    · simp
    · intro i h1 h2
      have : i < wr.length := by simpa using h2
      simp [List.getElem?_append_right, this]
  have hn : va_nd (List.range' wc.length wr.length) = true := by
    have key : ∀ (n k : Nat), va_nd (List.range' k n) = true := by
      intro n
      induction n with
      | zero => intro k; rfl
      | succ n ih =>
        intro k
        rw [List.range'_succ]
        simp only [va_nd, ih, Bool.and_true, decide_eq_true_eq]
        intro h
        have := List.mem_range'_1.mp h
        omega
    exact key _ _
  have hdis : ∀ i ∈ List.range' wc.length wr.length, i ∉ List.range wc.length := by
    intro i hi hi2
    have h1 := List.mem_range'_1.mp hi
    have h2 := List.mem_range.mp hi2
    omega
  obtain ⟨g1, g2⟩ := va_join (wr := wr) (w1 := w1) hP hD _ _ hC hR hn hdis hk hF hP1 hD1
  have hp : (wr ++ w1).Perm (w1 ++ wr) := List.perm_append_comm
  exact ⟨P_perm hp g1, D_perm hp g2⟩
/-! what a method's body stands on -/
abbrev tys (K : Nat → ClassId) : List (ClassId × FieldType) := [(K 0, .int), (K 1, .boolean), (K 2, .char), (K 3, .object RX4), (K 4, .long)]
def nests : List (String × Nat × MethodName) := [(RX5, 11, yX3_init), (RX5, 18, yX4_init), (RX5, 35, yX0_init), (RX5, 48, yX2_init), (RX5, 55, yX1_init), (RX0, 113, yX5_lettersIn), (RX0, 117, yX5_firstLetter), (RX0, 123, yX5_secondLetter), (RX0, 99, yX5_edgeAt), (RX1, 51, yX5_lettersIn), (RX1, 55, yX5_firstLetter), (RX1, 61, yX5_secondLetter), (RX2, 88, yX5_lettersIn), (RX2, 92, yX5_firstLetter), (RX2, 95, yX5_secondLetter), (RX3, 93, yX5_wordOf), (RX4, 68, yX5_lettersIn), (RX4, 76, yX5_secondLetter), (RX4, 83, yX5_firstLetter)]
def NW (U : State) : Prop := ∀ q ∈ nests, va_Nw (.methodLinkNest q.1 q.2.1 q.2.2 RX5) U
theorem NW.warm {s U : State} (hW : s.WarmedH U.vm) (h : NW s) : NW U := fun q hq => va_Nw.warmM hW (h q hq)
theorem NW.same {s U : State} (hW : s.vm = U.vm) (h : NW s) : NW U := fun q hq => va_Nw.same rfl hW (h q hq)
def FX (p : Program) (s : State) (m : MethodId) (args : Array Value) (meth : Method) (c : Code) (cc : ByteArray) (own : String) (nL : Nat) (ret : Option FieldType) (D : va_G) (K : Nat → ClassId) : Prop :=
  p.tables.exec = Jvm.exec ∧ c.code = cc ∧ c.maxLocals = nL ∧ s.vm.findClass own = some m.cls ∧ (∀ w ∈ TBL, w.before args s = true) ∧ va_K D vwCl (tys K) s ∧ NW s ∧ meth.sig.returnType = ret ∧ meth.locks = false
def WD (D : va_G) (A : Nat → Prop) (H0 H : Heap) (locs : List Loc) (S : List va_W) : Prop := va_P D vwCl (WL S) H ∧ va_D A (WL S) ∧ va_S A H0 H locs ∧ ∀ q, H0.size ≤ q → A q
/-- contracts: from the objects S0 to the objects S1 -/
def PcS (D : va_G) (K : Nat → ClassId) (av : List Value) (S0 : List va_W) (sz : Nat) : Array Value → State → Prop := va_Pc av (fun U => U.heap.size = sz ∧ va_P D vwCl (WL S0) U.heap ∧ va_K D vwCl (tys K) U ∧ va_D (fun _ => True) (WL S0) ∧ NW U)
def QiS (D : va_G) (A : Nat → Prop) (S1 : List va_W) (r : Int32) : Array Value → State → Outcome → State → Prop := va_Qi (fun (r' : Int32) (_ : Unit) => r' = r) (fun _ t => va_P D vwCl (WL S1) t.heap ∧ va_D A (WL S1)) A
def QlS (D : va_G) (A : Nat → Prop) (S1 : List va_W) (r : Int64) : Array Value → State → Outcome → State → Prop := va_Ql (fun (r' : Int64) (_ : Unit) => r' = r) (fun _ t => va_P D vwCl (WL S1) t.heap ∧ va_D A (WL S1)) A
def QvS (D : va_G) (A : Nat → Prop) (S1 : List va_W) : Array Value → State → Outcome → State → Prop := va_Qv (fun (_ : Unit) => True) (fun _ t => va_P D vwCl (WL S1) t.heap ∧ va_D A (WL S1)) A
abbrev rmS (fr lo : Nat) : Room := { frames := fr, cells := 0, slots := 0, locals := lo }
def CTi (l : Launch) (y : MethodName) (b : ByteArray) (nL : Nat) (ret : Option FieldType) (fr lo : Nat) (D : va_G) (K : Nat → ClassId) (av : List Value) (S0 S1 : List va_W) (r : Int32) : Prop :=
  ∀ sz, Met l y (.code y b nL ret :: TBL) (rmS fr lo) (PcS D K av S0 sz) (QiS D (va_A (WL S0) sz) S1 r) 0 0 (va_A (WL S0) sz)
def CTl (l : Launch) (y : MethodName) (b : ByteArray) (nL : Nat) (ret : Option FieldType) (fr lo : Nat) (D : va_G) (K : Nat → ClassId) (av : List Value) (S0 S1 : List va_W) (r : Int64) : Prop :=
  ∀ sz, Met l y (.code y b nL ret :: TBL) (rmS fr lo) (PcS D K av S0 sz) (QlS D (va_A (WL S0) sz) S1 r) 0 0 (va_A (WL S0) sz)
def CTv (l : Launch) (y : MethodName) (b : ByteArray) (nL : Nat) (fr lo : Nat) (D : va_G) (K : Nat → ClassId) (av : List Value) (S0 S1 : List va_W) : Prop :=
  ∀ sz, Met l y (.code y b nL none :: TBL) (rmS fr lo) (PcS D K av S0 sz) (QvS D (va_A (WL S0) sz) S1) 0 0 (va_A (WL S0) sz)
theorem ent0 {l : Launch} {y : MethodName} {b : ByteArray} {nL : Nat} {ret : Option FieldType} {fr lo : Nat} {D : va_G} {K : Nat → ClassId} {av : List Value} {S0 : List va_W} {sz : Nat} {Q : (Nat → Prop) → Array Value → State → Outcome → State → Prop} (hy : plainName y.cls = true) (hn : (lg_sl av).length ≤ nL)
    (body : ∀ (p : Program) (e : Env) (s : State) (m : MethodId) (args : Array Value) (below : List Frame) (meth : Method) (c : Code) (A : Nat → Prop) (ls : Array Slot), FX p s m args meth c b y.cls nL ret D K → WD D A s.heap s.heap [] S0 → lv_has ls nL (lv_args 0 av) → (y.name = "<init>" → meth.name = "<init>") →
      W p l e (rmS fr lo) s m args below meth c s.heap [] 0 0 (MQ below (Q A) args s 0 0 A) (F0 m 0 ls [])) : Met l y (.code y b nL ret :: TBL) (rmS fr lo) (PcS D K av S0 sz) (Q (va_A (WL S0) sz)) 0 0 (va_A (WL S0) sz) := by
  refine Met.ofW (cc := b) (maxL := nL) (ret := ret) hy rfl ?_
  intro p e s m args below meth c s₁ B hml hv
  obtain ⟨rfl, hsz, hP, hK, hD0, hN⟩ := hv
  have hts := atoms_spec (ws := .code y b nL ret :: TBL) B.pre
  have hown : s.vm.findClass y.cls = some m.cls := findClass_of_methodNamed B.named
  have hlocks := B.notSynchronized
  subst hsz
  have hD := hD0.self (sz := s.heap.size)
  have hA : ∀ q : Nat, s.heap.size ≤ q → va_A (WL S0) s.heap.size q := fun q h => Or.inr h
  have hl := lv_entry av hn
  have F : FX p s m av.toArray meth c b y.cls nL ret D K := ⟨B.exec, B.bytes, hml, hown, fun w hw => hts w (List.mem_cons_of_mem _ hw), hK, hN, B.returns, hlocks⟩
  rw [lg_entry_eq]
  exact body p e s m av.toArray below meth c _ _ F ⟨hP, hD, va_S.rf, hA⟩ hl (fun hn => by rw [← hn]; exact (name_of_methodNamed B.named B.method).1)
theorem entI {l : Launch} {y : MethodName} {b : ByteArray} {nL : Nat} {ret : Option FieldType} {fr lo : Nat} {D : va_G} {K : Nat → ClassId} {av : List Value} {S0 S1 : List va_W} {r : Int32} (hy : plainName y.cls = true) (hn : (lg_sl av).length ≤ nL)
    (body : ∀ (p : Program) (e : Env) (s : State) (m : MethodId) (args : Array Value) (below : List Frame) (meth : Method) (c : Code) (A : Nat → Prop) (ls : Array Slot), FX p s m args meth c b y.cls nL ret D K → WD D A s.heap s.heap [] S0 → lv_has ls nL (lv_args 0 av) → (y.name = "<init>" → meth.name = "<init>") →
      W p l e (rmS fr lo) s m args below meth c s.heap [] 0 0 (MQ below (QiS D A S1 r) args s 0 0 A) (F0 m 0 ls [])) : CTi l y b nL ret fr lo D K av S0 S1 r := fun _ => ent0 (Q := fun A => QiS D A S1 r) hy hn body
theorem entL {l : Launch} {y : MethodName} {b : ByteArray} {nL : Nat} {ret : Option FieldType} {fr lo : Nat} {D : va_G} {K : Nat → ClassId} {av : List Value} {S0 S1 : List va_W} {r : Int64} (hy : plainName y.cls = true) (hn : (lg_sl av).length ≤ nL)
    (body : ∀ (p : Program) (e : Env) (s : State) (m : MethodId) (args : Array Value) (below : List Frame) (meth : Method) (c : Code) (A : Nat → Prop) (ls : Array Slot), FX p s m args meth c b y.cls nL ret D K → WD D A s.heap s.heap [] S0 → lv_has ls nL (lv_args 0 av) → (y.name = "<init>" → meth.name = "<init>") →
      W p l e (rmS fr lo) s m args below meth c s.heap [] 0 0 (MQ below (QlS D A S1 r) args s 0 0 A) (F0 m 0 ls [])) : CTl l y b nL ret fr lo D K av S0 S1 r := fun _ => ent0 (Q := fun A => QlS D A S1 r) hy hn body
theorem entV {l : Launch} {y : MethodName} {b : ByteArray} {nL : Nat} {fr lo : Nat} {D : va_G} {K : Nat → ClassId} {av : List Value} {S0 S1 : List va_W} (hy : plainName y.cls = true) (hn : (lg_sl av).length ≤ nL)
    (body : ∀ (p : Program) (e : Env) (s : State) (m : MethodId) (args : Array Value) (below : List Frame) (meth : Method) (c : Code) (A : Nat → Prop) (ls : Array Slot), FX p s m args meth c b y.cls nL none D K → WD D A s.heap s.heap [] S0 → lv_has ls nL (lv_args 0 av) → (y.name = "<init>" → meth.name = "<init>") →
      W p l e (rmS fr lo) s m args below meth c s.heap [] 0 0 (MQ below (QvS D A S1) args s 0 0 A) (F0 m 0 ls [])) : CTv l y b nL fr lo D K av S0 S1 := fun _ => ent0 (Q := fun A => QvS D A S1) hy hn body
theorem WD.perm {D : va_G} {A : Nat → Prop} {H0 H : Heap} {locs : List Loc} {S S2 : List va_W} (h : WD D A H0 H locs S) (hp : (WL S).Perm (WL S2)) : WD D A H0 H locs S2 := ⟨P_perm hp h.1, D_perm hp h.2.1, h.2.2⟩
section ROWS
variable {p : Program} {l : Launch} {e : Env} {R : Room} {s : State} {m : MethodId} {args : Array Value} {below : List Frame} {meth : Method} {c : Code} {H : Heap} {locs : List Loc} {cells slots : Nat} {Q : State → Prop}
variable {pc : Nat} {ls : Array Slot} {rest : List Value} {cc : ByteArray} {own : String} {nL : Nat} {ret : Option FieldType} {D : va_G} {K : Nat → ClassId} {A : Nat → Prop} {H0 : Heap} {S : List va_W}
theorem seg_at {S : List va_W} {seg : va_W} {i j : Nat} {x : Nat × va_E} (hs : S[i]? = some seg) (hj : seg[j]? = some x) : ∃ q0, (WL S)[q0]? = some x ∧ ∀ y, (WL S).set q0 y = WL (S.set i (seg.set j y)) := by
  induction S generalizing i with
  | nil => simp at hs
  | cons w S ih =>
    cases i with
    | zero =>
      simp only [List.getElem?_cons_zero, Option.some.injEq] at hs
      subst hs
      have hl := (List.getElem?_eq_some_iff.mp hj).1
      refine ⟨j, ?_, fun y => ?_⟩
      · show (w ++ S.flatten)[j]? = _
        rw [List.getElem?_append_left hl]; exact hj
      · show (w ++ S.flatten).set j y = (w.set j y) ++ S.flatten
        rw [List.set_append_left _ _ hl]
    | succ i =>
      rw [List.getElem?_cons_succ] at hs
      obtain ⟨q0, h1, h2⟩ := ih hs
      refine ⟨w.length + q0, ?_, fun y => ?_⟩
      · show (w ++ WL S)[_]? = _
        rw [List.getElem?_append_right (by omega), Nat.add_sub_cancel_left]; exact h1
      · show (w ++ WL S).set _ y = w ++ WL (S.set i (seg.set j y))
        rw [List.set_append_right _ _ (by omega), Nat.add_sub_cancel_left, h2]
theorem r_iald (F : FX p s m args meth c cc own nL ret D K) (h : WD D A H0 H locs S) {i j n a : Nat} {seg : va_W} {f : Nat → Int32} {ix : Int32} (hs : S[i]? = some seg) (hj : seg[j]? = some (a, .inl (K 0, n, .inl f))) (hin : vp_in ix n) (hdg : decode cc pc = .ok (.iaload, 1))
    (kk : W p l e R s m args below meth c H locs cells slots Q (F0 m (pc + 1) ls (.int (f ix.toNatClampNeg) :: rest))) : W p l e R s m args below meth c H locs cells slots Q (F0 m pc ls (.int ix :: .ref a :: rest)) := by
  obtain ⟨q0, h1, -⟩ := seg_at hs hj
  exact va_iald F.1 F.2.1 F.2.2.2.2.2.1 h.1 q0 0 h1 rfl hin hdg kk
theorem r_lald (F : FX p s m args meth c cc own nL ret D K) (h : WD D A H0 H locs S) {i j n a : Nat} {seg : va_W} {f : Nat → Int64} {ix : Int32} (hs : S[i]? = some seg) (hj : seg[j]? = some (a, .inl (K 4, n, .inr (.inl f)))) (hin : vp_in ix n) (hdg : decode cc pc = .ok (.laload, 1))
    (kk : W p l e R s m args below meth c H locs cells slots Q (F0 m (pc + 1) ls (.long (f ix.toNatClampNeg) :: rest))) : W p l e R s m args below meth c H locs cells slots Q (F0 m pc ls (.int ix :: .ref a :: rest)) := by
  obtain ⟨q0, h1, -⟩ := seg_at hs hj
  exact va_lald F.1 F.2.1 F.2.2.2.2.2.1 h.1 q0 4 h1 rfl hin hdg kk
theorem r_zald (F : FX p s m args meth c cc own nL ret D K) (h : WD D A H0 H locs S) {i j n a : Nat} {seg : va_W} {f : Nat → Int32} {ix : Int32} (hs : S[i]? = some seg) (hj : seg[j]? = some (a, .inl (K 1, n, .inl f))) (hin : vp_in ix n) (hdg : decode cc pc = .ok (.baload, 1))
    (kk : W p l e R s m args below meth c H locs cells slots Q (F0 m (pc + 1) ls (.int (f ix.toNatClampNeg) :: rest))) : W p l e R s m args below meth c H locs cells slots Q (F0 m pc ls (.int ix :: .ref a :: rest)) := by
  obtain ⟨q0, h1, -⟩ := seg_at hs hj
  exact va_zald F.1 F.2.1 F.2.2.2.2.2.1 h.1 q0 1 h1 rfl hin hdg kk
theorem r_cald (F : FX p s m args meth c cc own nL ret D K) (h : WD D A H0 H locs S) {i j n a : Nat} {seg : va_W} {f : Nat → Int32} {ix : Int32} (hs : S[i]? = some seg) (hj : seg[j]? = some (a, .inl (K 2, n, .inl f))) (hin : vp_in ix n) (hdg : decode cc pc = .ok (.caload, 1))
    (kk : W p l e R s m args below meth c H locs cells slots Q (F0 m (pc + 1) ls (.int (f ix.toNatClampNeg) :: rest))) : W p l e R s m args below meth c H locs cells slots Q (F0 m pc ls (.int ix :: .ref a :: rest)) := by
  obtain ⟨q0, h1, -⟩ := seg_at hs hj
  exact va_cald F.1 F.2.1 F.2.2.2.2.2.1 h.1 q0 2 h1 rfl hin hdg kk
theorem r_alen (F : FX p s m args meth c cc own nL ret D K) (h : WD D A H0 H locs S) {i j t0 a : Nat} {seg : va_W} {cA : ClassId} {x : vp_A} {ty : FieldType} {v : Int32} (hs : S[i]? = some seg) (hj : seg[j]? = some (a, .inl (cA, x))) (ht : (tys K)[t0]? = some (cA, ty)) (hv : Int32.ofNat x.1 = v) (hdg : decode cc pc = .ok (.arraylength, 1))
    (kk : W p l e R s m args below meth c H locs cells slots Q (F0 m (pc + 1) ls (.int v :: rest))) : W p l e R s m args below meth c H locs cells slots Q (F0 m pc ls (.ref a :: rest)) := by
  obtain ⟨q0, h1, -⟩ := seg_at hs hj
  exact va_alen F.1 F.2.1 F.2.2.2.2.2.1 h.1 q0 t0 h1 ht hv hdg kk
theorem WD.set {i j q0 : Nat} {seg : va_W} {x y : Nat × va_E} {o1 : ob} {w : ob → va_W} {S' : ob → List va_W} {H1 : Heap} {locs1 : List Loc} (h2 : ∀ y, (WL S).set q0 y = WL (S.set i (seg.set j y))) (hset : seg.set j y = w o1) (hS : ∀ t, S.set i (w t) = S' t) (hA : ∀ q, H0.size ≤ q → A q) (a1 : va_P D vwCl ((WL S).set q0 y) H1) (a2 : va_D A ((WL S).set q0 y)) (a3 : va_S A H0 H1 locs1) : WD D A H0 H1 locs1 (S' o1) := by
  rw [h2, hset, hS] at a1 a2
  exact ⟨a1, a2, a3, hA⟩
theorem r_iast (F : FX p s m args meth c cc own nL ret D K) (h : WD D A H0 H locs S) {i j n a : Nat} {seg : va_W} {f : Nat → Int32} {ix x : Int32} {o1 : ob} {w : ob → va_W} {S' : ob → List va_W} (hs : S[i]? = some seg) (hj : seg[j]? = some (a, .inl (K 0, n, .inl f))) (hin : vp_in ix n) (hset : seg.set j (a, .inl (K 0, n, .inl (upd f ix.toNatClampNeg x))) = w o1) (hS : ∀ t, S.set i (w t) = S' t) (hdg : decode cc pc = .ok (.iastore, 1))
    (kk : ∀ t, t = o1 → ∀ (H1 : Heap) (locs1 : List Loc), WD D A H0 H1 locs1 (S' t) → W p l e R s m args below meth c H1 locs1 cells slots Q (F0 m (pc + 1) ls rest)) : W p l e R s m args below meth c H locs cells slots Q (F0 m pc ls (.int x :: .int ix :: .ref a :: rest)) := by
  obtain ⟨q0, h1, h2⟩ := seg_at hs hj
  refine va_iast F.1 F.2.1 F.2.2.2.2.2.1 h.1 h.2.1 h.2.2.1 q0 0 h1 rfl hin hdg fun H1 locs1 a1 a2 a3 => kk o1 rfl H1 locs1 (WD.set (x := (a, .inl (K 0, n, .inl f))) h2 hset hS h.2.2.2 a1 a2 a3)
theorem r_last (F : FX p s m args meth c cc own nL ret D K) (h : WD D A H0 H locs S) {i j n a : Nat} {seg : va_W} {f g : Nat → Int64} {ix : Int32} {x : Int64} {o1 : ob} {w : ob → va_W} {S' : ob → List va_W} (hs : S[i]? = some seg) (hj : seg[j]? = some (a, .inl (K 4, n, .inr (.inl f)))) (hin : vp_in ix n) (hg : vp_updL f ix.toNatClampNeg x = g) (hset : seg.set j (a, .inl (K 4, n, .inr (.inl g))) = w o1) (hS : ∀ t, S.set i (w t) = S' t) (hdg : decode cc pc = .ok (.lastore, 1))
    (kk : ∀ t, t = o1 → ∀ (H1 : Heap) (locs1 : List Loc), WD D A H0 H1 locs1 (S' t) → W p l e R s m args below meth c H1 locs1 cells slots Q (F0 m (pc + 1) ls rest)) : W p l e R s m args below meth c H locs cells slots Q (F0 m pc ls (.long x :: .int ix :: .ref a :: rest)) := by
  subst hg
  obtain ⟨q0, h1, h2⟩ := seg_at hs hj
  refine va_last F.1 F.2.1 F.2.2.2.2.2.1 h.1 h.2.1 h.2.2.1 q0 4 h1 rfl hin hdg fun H1 locs1 a1 a2 a3 => kk o1 rfl H1 locs1 (WD.set (x := (a, .inl (K 4, n, .inr (.inl f)))) h2 hset hS h.2.2.2 a1 a2 a3)
theorem r_zast (F : FX p s m args meth c cc own nL ret D K) (h : WD D A H0 H locs S) {i j n a : Nat} {seg : va_W} {f : Nat → Int32} {ix x : Int32} {o1 : ob} {w : ob → va_W} {S' : ob → List va_W} (hs : S[i]? = some seg) (hj : seg[j]? = some (a, .inl (K 1, n, .inl f))) (hin : vp_in ix n) (hx : bz x = true) (hset : seg.set j (a, .inl (K 1, n, .inl (upd f ix.toNatClampNeg x))) = w o1) (hS : ∀ t, S.set i (w t) = S' t) (hdg : decode cc pc = .ok (.bastore, 1))
    (kk : ∀ t, t = o1 → ∀ (H1 : Heap) (locs1 : List Loc), WD D A H0 H1 locs1 (S' t) → W p l e R s m args below meth c H1 locs1 cells slots Q (F0 m (pc + 1) ls rest)) : W p l e R s m args below meth c H locs cells slots Q (F0 m pc ls (.int x :: .int ix :: .ref a :: rest)) := by
  obtain ⟨q0, h1, h2⟩ := seg_at hs hj
  refine va_zast F.1 F.2.1 F.2.2.2.2.2.1 h.1 h.2.1 h.2.2.1 q0 1 h1 rfl hin hdg fun H1 locs1 a1 a2 a3 => ?_
  rw [bz_v hx] at a1 a2
  exact kk o1 rfl H1 locs1 (WD.set (x := (a, .inl (K 1, n, .inl f))) h2 hset hS h.2.2.2 a1 a2 a3)
theorem r_cast (F : FX p s m args meth c cc own nL ret D K) (h : WD D A H0 H locs S) {i j n a : Nat} {seg : va_W} {f : Nat → Int32} {ix x : Int32} {o1 : ob} {w : ob → va_W} {S' : ob → List va_W} (hs : S[i]? = some seg) (hj : seg[j]? = some (a, .inl (K 2, n, .inl f))) (hin : vp_in ix n) (hset : seg.set j (a, .inl (K 2, n, .inl (upd f ix.toNatClampNeg (vp_nar .char x)))) = w o1) (hS : ∀ t, S.set i (w t) = S' t) (hdg : decode cc pc = .ok (.castore, 1))
    (kk : ∀ t, t = o1 → ∀ (H1 : Heap) (locs1 : List Loc), WD D A H0 H1 locs1 (S' t) → W p l e R s m args below meth c H1 locs1 cells slots Q (F0 m (pc + 1) ls rest)) : W p l e R s m args below meth c H locs cells slots Q (F0 m pc ls (.int x :: .int ix :: .ref a :: rest)) := by
  obtain ⟨q0, h1, h2⟩ := seg_at hs hj
  refine va_cast F.1 F.2.1 F.2.2.2.2.2.1 h.1 h.2.1 h.2.2.1 q0 2 h1 rfl hin hdg fun H1 locs1 a1 a2 a3 => kk o1 rfl H1 locs1 (WD.set (x := (a, .inl (K 2, n, .inl f))) h2 hset hS h.2.2.2 a1 a2 a3)
theorem r_get (F : FX p s m args meth c cc own nL ret D K) (h : WD D A H0 H locs S) {i a ci N index : Nat} {seg : va_W} {C : String} {T : u_T} {fs : List Value} {k : Nat} (v : Value) (hin : ∀ w ∈ u_ws C T N, w ∈ TBL) (hc : vwCl[ci]? = some (C, T, N)) (hk : k < N) (hl : Cond.fieldLink own index (T k).1 (T k).2.1 (T k).2.2.1 ∈ TBL) (hs : S[i]? = some seg) (hj : seg[0]? = some (a, .inr (ci, fs))) (hv : fs[k]? = some v) (hdg : decode cc pc = .ok (.getfield index, 3))
    (kk : W p l e R s m args below meth c H locs cells slots Q (F0 m (pc + 3) ls (v :: rest))) : W p l e R s m args below meth c H locs cells slots Q (F0 m pc ls (.ref a :: rest)) := by
  obtain ⟨q0, h1, -⟩ := seg_at hs hj
  exact va_get F.1 F.2.1 F.2.2.2.2.1 hin F.2.2.2.1 F.2.2.2.2.2.1 h.1 q0 h1 hc k hk (F.2.2.2.2.1 _ hl) (fun _ h9 => h9) hv hdg kk
theorem r_put (F : FX p s m args meth c cc own nL ret D K) (h : WD D A H0 H locs S) {i a ci N index : Nat} {seg : va_W} {C : String} {T : u_T} {fs : List Value} {k : Nat} {v : Value} {o1 : ob} {w : ob → va_W} {S' : ob → List va_W} {ty : Nat → FieldType} (hin : ∀ w ∈ u_ws C T N, w ∈ TBL) (hty : ∀ k, k < N → parseFieldDescriptor (T k).2.2.1 = some (ty k)) (hnm : ∀ a, a < N → ∀ b, b < N → a ≠ b → (T a).2.1 ≠ (T b).2.1) (hc : vwCl[ci]? = some (C, T, N)) (hk : k < N) (hl : Cond.fieldLink own index (T k).1 (T k).2.1 (T k).2.2.1 ∈ TBL) (hfin : (T k).2.2.2 = false) (hn : narrow (ty k) v = v) (hfit : fits (ty k) v = true) (hs : S[i]? = some seg) (hj : seg[0]? = some (a, .inr (ci, fs))) (hlen : k < fs.length) (hset : seg.set 0 (a, .inr (ci, fs.set k v)) = w o1) (hS : ∀ t, S.set i (w t) = S' t) (hdg : decode cc pc = .ok (.putfield index, 3))
    (kk : ∀ t, t = o1 → ∀ (H1 : Heap) (locs1 : List Loc), WD D A H0 H1 locs1 (S' t) → W p l e R s m args below meth c H1 locs1 cells slots Q (F0 m (pc + 3) ls rest)) : W p l e R s m args below meth c H locs cells slots Q (F0 m pc ls (v :: .ref a :: rest)) := by
  obtain ⟨q0, h1, h2⟩ := seg_at hs hj
  exact va_put F.1 F.2.1 F.2.2.2.2.1 hin ty hty hnm F.2.2.2.1 F.2.2.2.2.2.1 h.1 h.2.1 h.2.2.1 q0 h1 hc k hk (F.2.2.2.2.1 _ hl) (fun _ h9 => h9) hfin (hty k hk) hn hfit hlen hdg fun H1 locs1 a1 a2 a3 => kk o1 rfl H1 locs1 (WD.set (x := (a, .inr (ci, fs))) h2 hset hS h.2.2.2 a1 a2 a3)
theorem r_putl {v v0 : Value} (hv0 : v0 = v) (F : FX p s m args meth c cc own nL ret D K) (h : WD D A H0 H locs S) {i a ci N index : Nat} {seg : va_W} {C : String} {T : u_T} {fs : List Value} {k : Nat} {o1 : ob} {w : ob → va_W} {S' : ob → List va_W} {ty : Nat → FieldType} (hin : ∀ w ∈ u_ws C T N, w ∈ TBL) (hty : ∀ k, k < N → parseFieldDescriptor (T k).2.2.1 = some (ty k)) (hnm : ∀ a, a < N → ∀ b, b < N → a ≠ b → (T a).2.1 ≠ (T b).2.1) (hc : vwCl[ci]? = some (C, T, N)) (hk : k < N) (hl : Cond.fieldLink own index (T k).1 (T k).2.1 (T k).2.2.1 ∈ TBL) (hfin : (T k).2.2.2 = false) (hn : narrow (ty k) v = v) (hfit : fits (ty k) v = true) (hs : S[i]? = some seg) (hj : seg[0]? = some (a, .inr (ci, fs))) (hlen : k < fs.length) (hset : seg.set 0 (a, .inr (ci, fs.set k v)) = w o1) (hS : ∀ t, S.set i (w t) = S' t) (hdg : decode cc pc = .ok (.putfield index, 3))
    (kk : ∀ t, t = o1 → ∀ (H1 : Heap) (locs1 : List Loc), WD D A H0 H1 locs1 (S' t) → W p l e R s m args below meth c H1 locs1 cells slots Q (F0 m (pc + 3) ls rest)) : W p l e R s m args below meth c H locs cells slots Q (F0 m pc ls (v0 :: .ref a :: rest)) := by
  subst hv0
  exact r_put F h hin hty hnm hc hk hl hfin hn hfit hs hj hlen hset hS hdg kk
theorem r_ldc (F : FX p s m args meth c cc own nL ret D K) {index : Nat} (v : Int32) (hl : Cond.constant own index v ∈ TBL) (hdg : decode cc pc = .ok (.ldc index, 2)) (kk : W p l e R s m args below meth c H locs cells slots Q (F0 m (pc + 2) ls (.int v :: rest))) : W p l e R s m args below meth c H locs cells slots Q (F0 m pc ls rest) :=
  lv_ldc F.1 F.2.1 F.2.2.2.1 (F.2.2.2.2.1 _ hl) hdg kk
theorem r_ldc2 (F : FX p s m args meth c cc own nL ret D K) {index : Nat} (v : Int64) (hl : Cond.constantLong own index v ∈ TBL) (hdg : decode cc pc = .ok (.ldc2_w index, 3)) (kk : W p l e R s m args below meth c H locs cells slots Q (F0 m (pc + 3) ls (.long v :: rest))) : W p l e R s m args below meth c H locs cells slots Q (F0 m pc ls rest) :=
  lv_ldc2 F.1 F.2.1 F.2.2.2.1 (F.2.2.2.2.1 _ hl) hdg kk
theorem r_reti {r : Int32} {S1 : List va_W} (F : FX p s m args meth c cc own nL (some .int) D K) (h : WD D A s.heap H locs S1) (hdg : decode cc pc = .ok (.ireturn, 1)) : W p l e R s m args below meth c H locs cells slots (MQ below (QiS D A S1 r) args s cells slots A) (F0 m pc ls [.int r]) :=
  W.iret F.1 F.2.1 F.2.2.2.2.2.2.2.1 (fun t ht _ => ⟨⟨r, (), rfl, rfl, by rw [ht]; exact h.1, h.2.1⟩, h.2.2.1.F ht⟩) h.2.2.1.2.2 hdg F.2.2.2.2.2.2.2.2
theorem r_retl {r : Int64} {S1 : List va_W} (F : FX p s m args meth c cc own nL (some .long) D K) (h : WD D A s.heap H locs S1) (hdg : decode cc pc = .ok (.lreturn, 1)) : W p l e R s m args below meth c H locs cells slots (MQ below (QlS D A S1 r) args s cells slots A) (F0 m pc ls [.long r]) :=
  W.lret F.1 F.2.1 F.2.2.2.2.2.2.2.1 (fun t ht _ => ⟨⟨r, (), rfl, rfl, by rw [ht]; exact h.1, h.2.1⟩, h.2.2.1.F ht⟩) h.2.2.1.2.2 hdg F.2.2.2.2.2.2.2.2
theorem r_retz {r : Int32} {S1 : List va_W} (F : FX p s m args meth c cc own nL (some .boolean) D K) (h : WD D A s.heap H locs S1) (hr : bz r = true) (hdg : decode cc pc = .ok (.ireturn, 1)) : W p l e R s m args below meth c H locs cells slots (MQ below (QiS D A S1 r) args s cells slots A) (F0 m pc ls [.int r]) :=
  W.zret F.1 F.2.1 F.2.2.2.2.2.2.2.1 (bz_n hr) (fun t ht _ => ⟨⟨r, (), rfl, rfl, by rw [ht]; exact h.1, h.2.1⟩, h.2.2.1.F ht⟩) h.2.2.1.2.2 hdg F.2.2.2.2.2.2.2.2
theorem r_retv {S1 : List va_W} (F : FX p s m args meth c cc own nL none D K) (h : WD D A s.heap H locs S1) (hdg : decode cc pc = .ok (.return_, 1)) : W p l e R s m args below meth c H locs cells slots (MQ below (QvS D A S1) args s cells slots A) (F0 m pc ls []) :=
  W.vret F.1 F.2.1 F.2.2.2.2.2.2.2.1 (fun t ht _ => ⟨⟨(), rfl, trivial, by rw [ht]; exact h.1, h.2.1⟩, h.2.2.1.F ht⟩) h.2.2.1.2.2 hdg F.2.2.2.2.2.2.2.2
/-! calls -/
theorem good_code {y : MethodName} {b : ByteArray} {n : Nat} {r : Option FieldType} (h : Cond.code y b n r ∈ TBL) : GoodIn TBL (.code y b n r :: TBL) := by
  intro w hw
  rcases List.mem_cons.mp hw with rfl | hw
  · exact tbl_good _ h
  · exact tbl_good w hw
theorem PcS_blind {av : List Value} {S0 : List va_W} {sz : Nat} : FrameBlind (PcS D K av S0 sz) := by
  rintro a U g mk ⟨q0, q1, q2, q3, q4, q5⟩
  exact ⟨q0, q1, q2, va_K.moved (u := U) (U := U.calling g mk a) (Vm.Alike.refl U.vm) q3, q4, NW.same rfl q5⟩
theorem PcS_in {av : List Value} {S0 : List va_W} (hK : va_K D vwCl (tys K) s) (hN : NW s) (hP : va_P D vwCl (WL S0) H) (hD : va_D A (WL S0)) (U : State) (hU : U.heap = H) (hW : s.WarmedH U.vm) : PcS D K av S0 H.size av.toArray U :=
  ⟨rfl, by rw [hU], by rw [hU]; exact hP, va_K.moved hW.alike hK, hD.weaken (fun _ _ _ _ => trivial), NW.warm hW hN⟩
/-- the objects for the callee, and behind it -/
theorem split_call {S S' C0 C1 Rr : List va_W} {is : List Nat} (h : WD D A H0 H locs S) (hp : is.isPerm (List.range S.length) = true) (h0 : pick S is = C0 ++ Rr) (h1 : pick S' is = C1 ++ Rr) (hlen : S'.length = S.length) :
    va_P D vwCl (WL C0) H ∧ va_D A (WL C0) ∧ (∀ q, va_A (WL C0) H.size q → A q) ∧ ∀ (H1 : Heap) (locs1 : List Loc), va_P D vwCl (WL C1) H1 → va_D (va_A (WL C0) H.size) (WL C1) → (∀ q : Nat, q < H.size → ¬ va_A (WL C0) H.size q → H1[q]? = H[q]?) → va_S A H0 H1 locs1 → WD D A H0 H1 locs1 S' := by
  have g := h.perm (pick_perm hp).symm
  rw [h0] at g
  have eC : ∀ C : List va_W, WL (C ++ Rr) = WL C ++ WL Rr := fun C => List.flatten_append
  obtain ⟨gP, gD, gS, gA⟩ := g
  rw [eC] at gP gD
  have hF : ∀ q, va_A (WL C0) H.size q → A q := by
    intro q hq
    rcases hq with ⟨k, e, hk⟩ | hq
    · exact (D_iff.mp gD).2 (q, e) (List.mem_append_left _ (List.mem_of_getElem? hk))
    · exact gA q (Nat.le_trans gS.1 hq)
  have hDC : va_D A (WL C0) := by
    rw [D_iff] at gD ⊢
    rw [List.map_append, List.nodup_append] at gD
    exact ⟨gD.1.1, fun q hq => gD.2 q (List.mem_append_left _ hq)⟩
  refine ⟨P_of_mem (fun _ hq => List.mem_append_left _ hq) gP, hDC, hF, fun H1 locs1 hP1 hD1 hk hS1 => ?_⟩
  obtain ⟨jP, jD⟩ := join2 gP gD hk hF hP1 hD1
  have hp' : is.isPerm (List.range S'.length) = true := by rw [hlen]; exact hp
  have pp := pick_perm hp'
  rw [h1, eC] at pp
  exact ⟨P_perm pp jP, D_perm pp jD, hS1, gA⟩
theorem r_callVi {As : List Value} {y : MethodName} {b : ByteArray} {nL' fr lo index a i ci : Nat} {rt : Option FieldType} {S' C0 C1 Rr : List va_W} {r : Int32} {fs : List Value} {seg : va_W} {q : vw_C} {lv : List (Nat × Value)} (F : FX p s m args meth c cc own nL ret D K) (h : WD D A H0 H locs S) (hlv : lv_has ls nL lv) (hM : CTi l y b nL' rt fr lo D K (.ref a :: As) C0 C1 r)
    (is : List Nat) (hp : is.isPerm (List.range S.length) = true) (h0 : pick S is = C0 ++ Rr) (h1 : pick S' is = C1 ++ Rr) (hlen : S'.length = S.length) (hq : vwCl[ci]? = some q) (hs : S[i]? = some seg) (hj : seg[0]? = some (a, .inr (ci, fs))) (hcode : Cond.code y b nL' rt ∈ TBL) (hw : Cond.methodLink own index y ∈ TBL ∧ Cond.instanceMethod y ∈ TBL ∧ Cond.selects q.1 y y ∈ TBL ∧ Cond.initialized q.1 ∈ TBL)
    (hd : y.cls = q.1 ∧ y.cls ≠ "java/lang/invoke/MethodHandle" ∧ y.cls ≠ "java/lang/invoke/VarHandle" ∧ (parseMethodDescriptor y.desc).map (fun d => d.parameters.length) = some As.length) (hR : fr + 1 ≤ R.frames ∧ 8 + (nL' + 11) + lo ≤ R.locals) (hcs : cells ≤ R.cells ∧ slots ≤ R.slots) (hrest : (rest.map fun v => v.category).sum ≤ 8) (hdg : decode cc pc = .ok (.invokevirtual index, 3))
    (kk : ∀ (H1 : Heap) (locs1 : List Loc), WD D A H0 H1 locs1 S' → W p l e R s m args below meth c H1 locs1 cells slots Q (F0 m (pc + 3) ls (.int r :: rest))) : W p l e R s m args below meth c H locs cells slots Q (F0 m pc ls (As.reverse ++ .ref a :: rest)) := by
  obtain ⟨cP, cD, cF, back⟩ := split_call h hp h0 h1 hlen
  have hts := F.2.2.2.2.1
  have hG : GoodIn TBL (wsV own index q.1 y (.code y b nL' rt :: TBL)) := by
    intro w hw9
    rcases List.mem_append.mp (show w ∈ ([.methodLink own index y, .instanceMethod y, .selects q.1 y y, .initialized q.1] : List Cond) ++ _ from hw9) with h9 | h9
    · simp only [List.mem_cons, List.not_mem_nil, or_false] at h9
      rcases h9 with rfl | rfl | rfl | rfl
      · exact tbl_good _ hw.1
      · exact tbl_good _ hw.2.1
      · exact tbl_good _ hw.2.2.1
      · exact tbl_good _ hw.2.2.2
    · exact good_code hcode w h9
  obtain ⟨q0, e1, -⟩ := seg_at hs hj
  have cw : CallW R s args own q.1 index y b nL' rt (.code y b nL' rt :: TBL) (rmS fr lo) 0 0 As.length := cwV As.length hts hG rfl rfl rfl hd hR
  refine va_calli (va_runV (As := As) (rest := rest) ⟨F.1, F.2.1, F.2.2.1, F.2.2.2.1, hts⟩ (hM H.size) cw ⟨PcS_blind, va_recv F.2.2.2.2.2.1 h.1 hq e1, fun U hU hW => PcS_in F.2.2.2.2.2.1 F.2.2.2.2.2.2.1 cP cD U hU hW⟩ rfl rfl hlv.1 rfl (lv_room hrest) hdg ⟨hcs.1, hcs.2⟩) h.2.2.1 (fun q _ h9 => cF q h9) cF (fun r' u t H1 locs1 ht hvm hw hB hz1 hk1 hS1 => ?_)
  have hw : r' = r := hw
  subst hw
  obtain ⟨b1, b2⟩ := hB
  rw [ht] at b1
  exact kk H1 locs1 (back H1 locs1 b1 b2 hk1 hS1)
theorem r_callVl {As : List Value} {y : MethodName} {b : ByteArray} {nL' fr lo index a i ci : Nat} {rt : Option FieldType} {S' C0 C1 Rr : List va_W} {r : Int64} {fs : List Value} {seg : va_W} {q : vw_C} {lv : List (Nat × Value)} (F : FX p s m args meth c cc own nL ret D K) (h : WD D A H0 H locs S) (hlv : lv_has ls nL lv) (hM : CTl l y b nL' rt fr lo D K (.ref a :: As) C0 C1 r)
    (is : List Nat) (hp : is.isPerm (List.range S.length) = true) (h0 : pick S is = C0 ++ Rr) (h1 : pick S' is = C1 ++ Rr) (hlen : S'.length = S.length) (hq : vwCl[ci]? = some q) (hs : S[i]? = some seg) (hj : seg[0]? = some (a, .inr (ci, fs))) (hcode : Cond.code y b nL' rt ∈ TBL) (hw : Cond.methodLink own index y ∈ TBL ∧ Cond.instanceMethod y ∈ TBL ∧ Cond.selects q.1 y y ∈ TBL ∧ Cond.initialized q.1 ∈ TBL)
    (hd : y.cls = q.1 ∧ y.cls ≠ "java/lang/invoke/MethodHandle" ∧ y.cls ≠ "java/lang/invoke/VarHandle" ∧ (parseMethodDescriptor y.desc).map (fun d => d.parameters.length) = some As.length) (hR : fr + 1 ≤ R.frames ∧ 8 + (nL' + 11) + lo ≤ R.locals) (hcs : cells ≤ R.cells ∧ slots ≤ R.slots) (hrest : (rest.map fun v => v.category).sum ≤ 8) (hdg : decode cc pc = .ok (.invokevirtual index, 3))
    (kk : ∀ (H1 : Heap) (locs1 : List Loc), WD D A H0 H1 locs1 S' → W p l e R s m args below meth c H1 locs1 cells slots Q (F0 m (pc + 3) ls (.long r :: rest))) : W p l e R s m args below meth c H locs cells slots Q (F0 m pc ls (As.reverse ++ .ref a :: rest)) := by
  obtain ⟨cP, cD, cF, back⟩ := split_call h hp h0 h1 hlen
  have hts := F.2.2.2.2.1
  have hG : GoodIn TBL (wsV own index q.1 y (.code y b nL' rt :: TBL)) := by
    intro w hw9
    rcases List.mem_append.mp (show w ∈ ([.methodLink own index y, .instanceMethod y, .selects q.1 y y, .initialized q.1] : List Cond) ++ _ from hw9) with h9 | h9
    · simp only [List.mem_cons, List.not_mem_nil, or_false] at h9
      rcases h9 with rfl | rfl | rfl | rfl
      · exact tbl_good _ hw.1
      · exact tbl_good _ hw.2.1
      · exact tbl_good _ hw.2.2.1
      · exact tbl_good _ hw.2.2.2
    · exact good_code hcode w h9
  obtain ⟨q0, e1, -⟩ := seg_at hs hj
  have cw : CallW R s args own q.1 index y b nL' rt (.code y b nL' rt :: TBL) (rmS fr lo) 0 0 As.length := cwV As.length hts hG rfl rfl rfl hd hR
  refine va_calll (va_runV (As := As) (rest := rest) ⟨F.1, F.2.1, F.2.2.1, F.2.2.2.1, hts⟩ (hM H.size) cw ⟨PcS_blind, va_recv F.2.2.2.2.2.1 h.1 hq e1, fun U hU hW => PcS_in F.2.2.2.2.2.1 F.2.2.2.2.2.2.1 cP cD U hU hW⟩ rfl rfl hlv.1 rfl (lv_room hrest) hdg ⟨hcs.1, hcs.2⟩) h.2.2.1 (fun q _ h9 => cF q h9) cF (fun r' u t H1 locs1 ht hvm hw hB hz1 hk1 hS1 => ?_)
  have hw : r' = r := hw
  subst hw
  obtain ⟨b1, b2⟩ := hB
  rw [ht] at b1
  exact kk H1 locs1 (back H1 locs1 b1 b2 hk1 hS1)
end ROWS
section ROWS2
variable {p : Program} {l : Launch} {e : Env} {R : Room} {s : State} {m : MethodId} {args : Array Value} {below : List Frame} {meth : Method} {c : Code} {H : Heap} {locs : List Loc} {cells slots : Nat} {Q : State → Prop}
variable {pc : Nat} {ls : Array Slot} {rest : List Value} {cc : ByteArray} {own : String} {nL : Nat} {ret : Option FieldType} {D : va_G} {K : Nat → ClassId} {A : Nat → Prop} {H0 : Heap} {S : List va_W}
theorem r_callVv {As : List Value} {y : MethodName} {b : ByteArray} {nL' fr lo index a i ci : Nat} {S' C0 C1 Rr : List va_W} {fs : List Value} {seg : va_W} {q : vw_C} {lv : List (Nat × Value)} (F : FX p s m args meth c cc own nL ret D K) (h : WD D A H0 H locs S) (hlv : lv_has ls nL lv) (hM : CTv l y b nL' fr lo D K (.ref a :: As) C0 C1)
    (is : List Nat) (hp : is.isPerm (List.range S.length) = true) (h0 : pick S is = C0 ++ Rr) (h1 : pick S' is = C1 ++ Rr) (hlen : S'.length = S.length) (hq : vwCl[ci]? = some q) (hs : S[i]? = some seg) (hj : seg[0]? = some (a, .inr (ci, fs))) (hcode : Cond.code y b nL' none ∈ TBL) (hw : Cond.methodLink own index y ∈ TBL ∧ Cond.instanceMethod y ∈ TBL ∧ Cond.selects q.1 y y ∈ TBL ∧ Cond.initialized q.1 ∈ TBL)
    (hd : y.cls = q.1 ∧ y.cls ≠ "java/lang/invoke/MethodHandle" ∧ y.cls ≠ "java/lang/invoke/VarHandle" ∧ (parseMethodDescriptor y.desc).map (fun d => d.parameters.length) = some As.length) (hR : fr + 1 ≤ R.frames ∧ 8 + (nL' + 11) + lo ≤ R.locals) (hcs : cells ≤ R.cells ∧ slots ≤ R.slots) (hrest : (rest.map fun v => v.category).sum ≤ 8) (hdg : decode cc pc = .ok (.invokevirtual index, 3))
    (kk : ∀ (H1 : Heap) (locs1 : List Loc), WD D A H0 H1 locs1 S' → W p l e R s m args below meth c H1 locs1 cells slots Q (F0 m (pc + 3) ls rest)) : W p l e R s m args below meth c H locs cells slots Q (F0 m pc ls (As.reverse ++ .ref a :: rest)) := by
  obtain ⟨cP, cD, cF, back⟩ := split_call h hp h0 h1 hlen
  have hts := F.2.2.2.2.1
  have hG : GoodIn TBL (wsV own index q.1 y (.code y b nL' none :: TBL)) := by
    intro w hw9
    rcases List.mem_append.mp (show w ∈ ([.methodLink own index y, .instanceMethod y, .selects q.1 y y, .initialized q.1] : List Cond) ++ _ from hw9) with h9 | h9
    · simp only [List.mem_cons, List.not_mem_nil, or_false] at h9
      rcases h9 with rfl | rfl | rfl | rfl
      · exact tbl_good _ hw.1
      · exact tbl_good _ hw.2.1
      · exact tbl_good _ hw.2.2.1
      · exact tbl_good _ hw.2.2.2
    · exact good_code hcode w h9
  obtain ⟨q0, e1, -⟩ := seg_at hs hj
  have cw : CallW R s args own q.1 index y b nL' none (.code y b nL' none :: TBL) (rmS fr lo) 0 0 As.length := cwV As.length hts hG rfl rfl rfl hd hR
  refine va_callv (va_runV (As := As) (rest := rest) ⟨F.1, F.2.1, F.2.2.1, F.2.2.2.1, hts⟩ (hM H.size) cw ⟨PcS_blind, va_recv F.2.2.2.2.2.1 h.1 hq e1, fun U hU hW => PcS_in F.2.2.2.2.2.1 F.2.2.2.2.2.2.1 cP cD U hU hW⟩ rfl rfl hlv.1 rfl (lv_room hrest) hdg ⟨hcs.1, hcs.2⟩) h.2.2.1 (fun q _ h9 => cF q h9) cF (fun u t H1 locs1 ht hvm hw hB hz1 hk1 hS1 => ?_)
  obtain ⟨b1, b2⟩ := hB
  rw [ht] at b1
  exact kk H1 locs1 (back H1 locs1 b1 b2 hk1 hS1)
/-- a static method, of this class or another, whose link stands in the tables -/
theorem r_callS {As : List Value} {y : MethodName} {b : ByteArray} {nL' fr lo index : Nat} {rt : Option FieldType} {r : Int32} {lv : List (Nat × Value)} (F : FX p s m args meth c cc own nL ret D K) (h : WD D A H0 H locs S) (hlv : lv_has ls nL lv) (hM : CTi l y b nL' rt fr lo D K As [] [] r)
    (hcode : Cond.code y b nL' rt ∈ TBL) (hw : Cond.methodLink own index y ∈ TBL ∧ Cond.static y ∈ TBL ∧ Cond.initialized y.cls ∈ TBL)
    (hd : y.cls ≠ "java/lang/invoke/MethodHandle" ∧ y.cls ≠ "java/lang/invoke/VarHandle" ∧ (parseMethodDescriptor y.desc).map (fun d => d.parameters.length) = some As.length) (hR : fr + 1 ≤ R.frames ∧ 8 + (nL' + 11) + lo ≤ R.locals) (hcs : cells ≤ R.cells ∧ slots ≤ R.slots) (hrest : (rest.map fun v => v.category).sum ≤ 8) (hdg : decode cc pc = .ok (.invokestatic index, 3))
    (kk : ∀ (H1 : Heap) (locs1 : List Loc), WD D A H0 H1 locs1 S → W p l e R s m args below meth c H1 locs1 cells slots Q (F0 m (pc + 3) ls (.int r :: rest))) : W p l e R s m args below meth c H locs cells slots Q (F0 m pc ls (As.reverse ++ rest)) := by
  have hp : (List.range S.length).isPerm (List.range S.length) = true := List.isPerm_iff.mpr (List.Perm.refl _)
  obtain ⟨cP, cD, cF, back⟩ := split_call (C0 := []) (C1 := []) (Rr := S) (S' := S) h hp (pick_range S) (pick_range S) rfl
  have hts := F.2.2.2.2.1
  refine va_calli (va_runS (As := As) (rest := rest) ⟨F.1, F.2.1, F.2.2.1, F.2.2.2.1, hts⟩ (hM H.size) ⟨callB_of As.length hts (good_code hcode) rfl rfl rfl (hts _ hw.2.2) (hts _ hw.1) hd hR, hts _ hw.2.1⟩ ⟨PcS_blind, fun U hU hW => PcS_in F.2.2.2.2.2.1 F.2.2.2.2.2.2.1 cP cD U hU hW⟩ rfl rfl hlv.1 rfl (lv_room hrest) hdg ⟨hcs.1, hcs.2⟩) h.2.2.1 (fun q _ h9 => cF q h9) cF (fun r' u t H1 locs1 ht hvm hw hB hz1 hk1 hS1 => ?_)
  have hw : r' = r := hw
  subst hw
  obtain ⟨b1, b2⟩ := hB
  rw [ht] at b1
  exact kk H1 locs1 (back H1 locs1 b1 b2 hk1 hS1)
/-- a private static method of a nest mate -/
theorem r_callN {As : List Value} {y : MethodName} {b : ByteArray} {nL' fr lo index : Nat} {rt : Option FieldType} {r : Int32} {lv : List (Nat × Value)} (F : FX p s m args meth c cc own nL ret D K) (h : WD D A H0 H locs S) (hlv : lv_has ls nL lv) (hM : CTi l y b nL' rt fr lo D K As [] [] r)
    (hcode : Cond.code y b nL' rt ∈ TBL) (hw : (own, index, y) ∈ nests ∧ Cond.static y ∈ TBL ∧ Cond.initialized y.cls ∈ TBL)
    (hd : y.cls ≠ "java/lang/invoke/MethodHandle" ∧ y.cls ≠ "java/lang/invoke/VarHandle" ∧ (parseMethodDescriptor y.desc).map (fun d => d.parameters.length) = some As.length) (hR : fr + 1 ≤ R.frames ∧ 8 + (nL' + 11) + lo ≤ R.locals) (hcs : cells ≤ R.cells ∧ slots ≤ R.slots) (hrest : (rest.map fun v => v.category).sum ≤ 8) (hdg : decode cc pc = .ok (.invokestatic index, 3))
    (kk : ∀ (H1 : Heap) (locs1 : List Loc), WD D A H0 H1 locs1 S → W p l e R s m args below meth c H1 locs1 cells slots Q (F0 m (pc + 3) ls (.int r :: rest))) : W p l e R s m args below meth c H locs cells slots Q (F0 m pc ls (As.reverse ++ rest)) := by
  have hp : (List.range S.length).isPerm (List.range S.length) = true := List.isPerm_iff.mpr (List.Perm.refl _)
  obtain ⟨cP, cD, cF, back⟩ := split_call (C0 := []) (C1 := []) (Rr := S) (S' := S) h hp (pick_range S) (pick_range S) rfl
  have hts := F.2.2.2.2.1
  have hN : va_Nw (.methodLinkNest own index y RX5) s := F.2.2.2.2.2.2.1 _ hw.1
  refine va_calli (va_runSN (As := As) (rest := rest) ⟨F.1, F.2.1, F.2.2.1, F.2.2.2.1, hts⟩ (hM H.size) ⟨va_cnB As.length hts (good_code hcode) rfl rfl rfl hN (hts _ hw.2.2) hd hR, hts _ hw.2.1, trivial⟩ ⟨PcS_blind, fun U hU hW => PcS_in F.2.2.2.2.2.1 F.2.2.2.2.2.2.1 cP cD U hU hW⟩ rfl rfl hlv.1 rfl (lv_room hrest) hdg ⟨hcs.1, hcs.2⟩) h.2.2.1 (fun q _ h9 => cF q h9) cF (fun r' u t H1 locs1 ht hvm hw hB hz1 hk1 hS1 => ?_)
  have hw : r' = r := hw
  subst hw
  obtain ⟨b1, b2⟩ := hB
  rw [ht] at b1
  exact kk H1 locs1 (back H1 locs1 b1 b2 hk1 hS1)
theorem r_mmax {index : Nat} {x y : Int32} {lv : List (Nat × Value)} (F : FX p s m args meth c cc own nL ret D K) (hlv : lv_has ls nL lv) (hw : Cond.methodLink own index Lib.Math.max.name ∈ TBL ∧ Cond.static Lib.Math.max.name ∈ TBL ∧ Cond.initialized "java/lang/Math" ∈ TBL ∧ Cond.code Lib.Math.max.name Lib.Math.max.code 2 (some .int) ∈ TBL) (hR : 1 ≤ R.frames ∧ (rest.map fun v => v.category).sum + 13 ≤ R.locals) (hcs : cells ≤ R.cells ∧ slots ≤ R.slots) (hdg : decode cc pc = .ok (.invokestatic index, 3))
    (kk : W p l e R s m args below meth c H locs cells slots Q (F0 m (pc + 3) ls (.int (if x < y then y else x) :: rest))) : W p l e R s m args below meth c H locs cells slots Q (F0 m pc ls (.int y :: .int x :: rest)) := by
  have hts := F.2.2.2.2.1
  exact va_mmax F.1 F.2.1 (F.2.2.1.trans hlv.1.symm) F.2.2.2.1 (hts _ hw.1) (hts _ hw.2.1) (hts _ hw.2.2.1) (hts _ hw.2.2.2) hR.1 hR.2 hcs.1 hcs.2 hdg kk
theorem r_mmin {index : Nat} {x y : Int32} {lv : List (Nat × Value)} (F : FX p s m args meth c cc own nL ret D K) (hlv : lv_has ls nL lv) (hw : Cond.methodLink own index Lib.Math.min.name ∈ TBL ∧ Cond.static Lib.Math.min.name ∈ TBL ∧ Cond.initialized "java/lang/Math" ∈ TBL ∧ Cond.code Lib.Math.min.name Lib.Math.min.code 2 (some .int) ∈ TBL) (hR : 1 ≤ R.frames ∧ (rest.map fun v => v.category).sum + 13 ≤ R.locals) (hcs : cells ≤ R.cells ∧ slots ≤ R.slots) (hdg : decode cc pc = .ok (.invokestatic index, 3))
    (kk : W p l e R s m args below meth c H locs cells slots Q (F0 m (pc + 3) ls (.int (if y < x then y else x) :: rest))) : W p l e R s m args below meth c H locs cells slots Q (F0 m pc ls (.int y :: .int x :: rest)) := by
  have hts := F.2.2.2.2.1
  exact va_mmin F.1 F.2.1 (F.2.2.1.trans hlv.1.symm) F.2.2.2.1 (hts _ hw.1) (hts _ hw.2.1) (hts _ hw.2.2.1) (hts _ hw.2.2.2) hR.1 hR.2 hcs.1 hcs.2 hdg kk
theorem r_mmaxL {index : Nat} {x y : Int64} {lv : List (Nat × Value)} (F : FX p s m args meth c cc own nL ret D K) (hlv : lv_has ls nL lv) (hw : Cond.methodLink own index Lib.MathLoose.max_long.x ∈ TBL ∧ Cond.static Lib.MathLoose.max_long.x ∈ TBL ∧ Cond.initialized "java/lang/Math" ∈ TBL ∧ Cond.code Lib.MathLoose.max_long.x Lib.MathLoose.max_long.code 4 (some .long) ∈ TBL) (hR : 1 ≤ R.frames ∧ (rest.map fun v => v.category).sum + 15 ≤ R.locals) (hcs : cells ≤ R.cells ∧ slots ≤ R.slots) (hdg : decode cc pc = .ok (.invokestatic index, 3))
    (kk : W p l e R s m args below meth c H locs cells slots Q (F0 m (pc + 3) ls (.long (if y < x then x else y) :: rest))) : W p l e R s m args below meth c H locs cells slots Q (F0 m pc ls (.long y :: .long x :: rest)) := by
  have hts := F.2.2.2.2.1
  exact va_mmax_long F.1 F.2.1 (F.2.2.1.trans hlv.1.symm) F.2.2.2.1 (hts _ hw.1) (hts _ hw.2.1) (hts _ hw.2.2.1) (hts _ hw.2.2.2) hR.1 hR.2 hcs.1 hcs.2 hdg kk
theorem r_mminL {index : Nat} {x y : Int64} {lv : List (Nat × Value)} (F : FX p s m args meth c cc own nL ret D K) (hlv : lv_has ls nL lv) (hw : Cond.methodLink own index Lib.MathLoose.min_long.x ∈ TBL ∧ Cond.static Lib.MathLoose.min_long.x ∈ TBL ∧ Cond.initialized "java/lang/Math" ∈ TBL ∧ Cond.code Lib.MathLoose.min_long.x Lib.MathLoose.min_long.code 4 (some .long) ∈ TBL) (hR : 1 ≤ R.frames ∧ (rest.map fun v => v.category).sum + 15 ≤ R.locals) (hcs : cells ≤ R.cells ∧ slots ≤ R.slots) (hdg : decode cc pc = .ok (.invokestatic index, 3))
    (kk : W p l e R s m args below meth c H locs cells slots Q (F0 m (pc + 3) ls (.long (if y < x then y else x) :: rest))) : W p l e R s m args below meth c H locs cells slots Q (F0 m pc ls (.long y :: .long x :: rest)) := by
  have hts := F.2.2.2.2.1
  exact va_mmin_long F.1 F.2.1 (F.2.2.1.trans hlv.1.symm) F.2.2.2.1 (hts _ hw.1) (hts _ hw.2.1) (hts _ hw.2.2.1) (hts _ hw.2.2.2) hR.1 hR.2 hcs.1 hcs.2 hdg kk
def cpk (sp dp n : Int32) (n0 n1 : Nat) : Bool := !(decide (sp < 0)) && !(decide (dp < 0)) && !(decide (n < 0)) && decide (sp.toNatClampNeg + n.toNatClampNeg ≤ n0) && decide (dp.toNatClampNeg + n.toNatClampNeg ≤ n1)
theorem cpk_ok {sp dp n : Int32} {n0 n1 : Nat} (h : cpk sp dp n n0 n1 = true) : ¬ sp < 0 ∧ ¬ dp < 0 ∧ ¬ n < 0 ∧ sp.toNatClampNeg + n.toNatClampNeg ≤ n0 ∧ dp.toNatClampNeg + n.toNatClampNeg ≤ n1 := by
  simp only [cpk, Bool.and_eq_true, Bool.not_eq_true', decide_eq_false_iff_not, decide_eq_true_eq] at h
  exact ⟨h.1.1.1.1, h.1.1.1.2, h.1.1.2, h.1.2, h.2⟩
theorem r_copy {index i0 j0 i j n0 n1 a0 a : Nat} {seg0 seg : va_W} {f g : Nat → Int32} {sp dp n : Int32} {o1 : ob} {w : ob → va_W} {S' : ob → List va_W} {lv : List (Nat × Value)} (F : FX p s m args meth c cc own nL ret D K) (h : WD D A H0 H locs S) (hlv : lv_has ls nL lv) (hw : Cond.methodLink own index arraycopyName ∈ TBL ∧ Cond.native arraycopyName ∈ TBL ∧ Cond.static arraycopyName ∈ TBL ∧ Cond.initialized "java/lang/System" ∈ TBL)
    (hs0 : S[i0]? = some seg0) (hj0 : seg0[j0]? = some (a0, .inl (K 0, n0, .inl f))) (hs : S[i]? = some seg) (hj : seg[j]? = some (a, .inl (K 0, n1, .inl g))) (hc : cpk sp dp n n0 n1 = true) (hset : seg.set j (a, .inl (K 0, n1, .inl (va_cpy f g sp.toNatClampNeg dp.toNatClampNeg n.toNatClampNeg))) = w o1) (hS : ∀ t, S.set i (w t) = S' t)
    (hR : 1 ≤ R.frames ∧ (rest.map fun v => v.category).sum + (nativeFrameWords "java/lang/System" "arraycopy" 5 + 11) ≤ R.locals) (hdg : decode cc pc = .ok (.invokestatic index, 3))
    (kk : ∀ t, t = o1 → ∀ (H1 : Heap) (locs1 : List Loc), WD D A H0 H1 locs1 (S' t) → W p l e R s m args below meth c H1 locs1 cells slots Q (F0 m (pc + 3) ls rest)) : W p l e R s m args below meth c H locs cells slots Q (F0 m pc ls (.int n :: .int dp :: .ref a :: .int sp :: .ref a0 :: rest)) := by
  obtain ⟨q0, e0, -⟩ := seg_at hs0 hj0
  obtain ⟨q1, e1, h2⟩ := seg_at hs hj
  obtain ⟨c1, c2, c3, c4, c5⟩ := cpk_ok hc
  have hts := F.2.2.2.2.1
  exact va_copyi F.1 F.2.1 (F.2.2.1.trans hlv.1.symm) F.2.2.2.1 (hts _ hw.1) (hts _ hw.2.1) (hts _ hw.2.2.1) (hts _ hw.2.2.2) F.2.2.2.2.2.1 h.1 h.2.1 h.2.2.1 q0 q1 0 0 e0 e1 rfl rfl rfl c1 c2 c3 c4 c5 (fun _ _ => rfl) hR.1 hR.2 hdg
    fun H1 locs1 a1 a2 a3 => kk o1 rfl H1 locs1 (WD.set (x := (a, .inl (K 0, n1, .inl g))) h2 hset hS h.2.2.2 a1 a2 a3)
theorem r_copyL {index i0 j0 i j n0 n1 a0 a : Nat} {seg0 seg : va_W} {f g gg : Nat → Int64} {sp dp n : Int32} {o1 : ob} {w : ob → va_W} {S' : ob → List va_W} {lv : List (Nat × Value)} (F : FX p s m args meth c cc own nL ret D K) (h : WD D A H0 H locs S) (hlv : lv_has ls nL lv) (hw : Cond.methodLink own index arraycopyName ∈ TBL ∧ Cond.native arraycopyName ∈ TBL ∧ Cond.static arraycopyName ∈ TBL ∧ Cond.initialized "java/lang/System" ∈ TBL)
    (hs0 : S[i0]? = some seg0) (hj0 : seg0[j0]? = some (a0, .inl (K 4, n0, .inr (.inl f)))) (hs : S[i]? = some seg) (hj : seg[j]? = some (a, .inl (K 4, n1, .inr (.inl g)))) (hc : cpk sp dp n n0 n1 = true) (hgg : va_cpy f g sp.toNatClampNeg dp.toNatClampNeg n.toNatClampNeg = gg) (hset : seg.set j (a, .inl (K 4, n1, .inr (.inl gg))) = w o1) (hS : ∀ t, S.set i (w t) = S' t)
    (hR : 1 ≤ R.frames ∧ (rest.map fun v => v.category).sum + (nativeFrameWords "java/lang/System" "arraycopy" 5 + 11) ≤ R.locals) (hdg : decode cc pc = .ok (.invokestatic index, 3))
    (kk : ∀ t, t = o1 → ∀ (H1 : Heap) (locs1 : List Loc), WD D A H0 H1 locs1 (S' t) → W p l e R s m args below meth c H1 locs1 cells slots Q (F0 m (pc + 3) ls rest)) : W p l e R s m args below meth c H locs cells slots Q (F0 m pc ls (.int n :: .int dp :: .ref a :: .int sp :: .ref a0 :: rest)) := by
  subst hgg
  obtain ⟨q0, e0, -⟩ := seg_at hs0 hj0
  obtain ⟨q1, e1, h2⟩ := seg_at hs hj
  obtain ⟨c1, c2, c3, c4, c5⟩ := cpk_ok hc
  have hts := F.2.2.2.2.1
  exact va_copyl F.1 F.2.1 (F.2.2.1.trans hlv.1.symm) F.2.2.2.1 (hts _ hw.1) (hts _ hw.2.1) (hts _ hw.2.2.1) (hts _ hw.2.2.2) F.2.2.2.2.2.1 h.1 h.2.1 h.2.2.1 q0 q1 4 4 e0 e1 rfl rfl rfl c1 c2 c3 c4 c5 (fun _ _ => rfl) hR.1 hR.2 hdg
    fun H1 locs1 a1 a2 a3 => kk o1 rfl H1 locs1 (WD.set (x := (a, .inl (K 4, n1, .inr (.inl g)))) h2 hset hS h.2.2.2 a1 a2 a3)
def nz (y : Int32) : Bool := !(y == 0)
theorem nz_ok {y : Int32} (h : nz y = true) : ¬ y = 0 := by simpa [nz] using h
end ROWS2
