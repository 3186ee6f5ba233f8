/-! what came later to my own layer -/
def nzl (y : Int64) : Bool := !(y == 0)
theorem nzl_ok {y : Int64} (h : nzl y = true) : ¬ y = 0 := by simpa [nzl] using h
theorem lk_nil {x : Int32} {d : Int} : Op.lookupswitch.offset [] d x.toInt = d := rfl
theorem lk_cons {x b : Int32} {a o d : Int} {r : List (Int × Int)} (hb : Int32.ofInt a = b) (h : ¬ x = b) (k : Op.lookupswitch.offset r d x.toInt = d) : Op.lookupswitch.offset ((a, o) :: r) d x.toInt = d := by
  rw [Op.lookupswitch.offset_cons, if_neg, k]
  intro e
  exact h (by rw [← hb, e, Int32.ofInt_toInt])
/-! the automaton's two rows that change places -/
def swp (o : ob) : ob := (va_up o.1 11 (if o.1 11 = 0 then 1 else 0), va_up (va_up o.2 9 (o.2 10)) 10 (o.2 9))
def wX0m (K : Nat → ClassId) (a : Nat → Nat) (o : ob) : va_W := (wX0 K a o).set 0 (a 0, .inr (0, (oX0 a o).set 10 (.ref (rdX0 a o))))
def wX0s (K : Nat → ClassId) (a : Nat → Nat) (o : ob) : va_W := (wX0 K a o).set 0 (a 0, .inr (0, ((oX0 a o).set 10 (.ref (rdX0 a o))).set 9 (.ref (spX0 a o))))
theorem swp_rd (a : Nat → Nat) (o : ob) : rdX0 a (swp o) = spX0 a o ∧ spX0 a (swp o) = rdX0 a o := by
  unfold rdX0 spX0 swp
  by_cases h : o.1 11 = 0 <;> simp [h, va_up]
theorem swp_perm (K : Nat → ClassId) (a : Nat → Nat) (o : ob) : (wX0s K a o).Perm (wX0 K a (swp o)) := by
  have e : wX0 K a (swp o) = [(a 0, .inr (0, ((oX0 a o).set 10 (.ref (rdX0 a o))).set 9 (.ref (spX0 a o)))), (a 5, .inl (K 4, 676, .inr (.inl (rL (o.2 4))))), (a 6, .inl (K 4, 676, .inr (.inl (rL (o.2 5))))), (a 7, .inl (K 1, 13, .inl (o.2 6))), (a 8, .inl (K 0, 10, .inl (o.2 7))), (spX0 a o, .inl (K 4, 13, .inr (.inl (rL (o.2 10))))), (rdX0 a o, .inl (K 4, 13, .inr (.inl (rL (o.2 9)))))] := by
    obtain ⟨h1, h2⟩ := swp_rd a o
    simp only [wX0, oX0, h1, h2]
    rfl
  rw [e]
  exact (List.Perm.swap _ _ _).cons _ |>.cons _ |>.cons _ |>.cons _ |>.cons _
