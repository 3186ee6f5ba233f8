/-! what came later to my own layer -/
def nzl (y : Int64) : Bool := !(y == 0)
theorem nzl_ok {y : Int64} (h : nzl y = true) : ¬ y = 0 := by simpa [nzl] using h
theorem lk_nil {x : Int32} {d : Int} : Op.lookupswitch.offset [] d x.toInt = d := rfl
theorem lk_cons {x b : Int32} {a o d : Int} {r : List (Int × Int)} (hb : Int32.ofInt a = b) (h : ¬ x = b) (k : Op.lookupswitch.offset r d x.toInt = d) : Op.lookupswitch.offset ((a, o) :: r) d x.toInt = d := by
  rw [Op.lookupswitch.offset_cons, if_neg, k]
  intro e
  exact h (by rw [← hb, e, Int32.ofInt_toInt])
