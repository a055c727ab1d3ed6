/-! Layer B: longs as integers, where nothing wraps -/
def inR (z : Int) : Prop := -9223372036854775808 ≤ z ∧ z < 9223372036854775808
theorem bmod_in {z : Int} (h : inR z) : z.bmod 18446744073709551616 = z := by
  obtain ⟨h1, h2⟩ := h
  exact Int.bmod_eq_of_le (by omega) (by omega)
theorem ti_in (x : Int64) : inR x.toInt := ⟨Int64.le_toInt x, Int64.toInt_lt x⟩
theorem ti_add {x y : Int64} (h : inR (x.toInt + y.toInt)) : (x + y).toInt = x.toInt + y.toInt := by
  rw [Int64.toInt_add]; exact bmod_in h
theorem ti_sub {x y : Int64} (h : inR (x.toInt - y.toInt)) : (x - y).toInt = x.toInt - y.toInt := by
  rw [Int64.toInt_sub]; exact bmod_in h
theorem ti_mul {x y : Int64} (h : inR (x.toInt * y.toInt)) : (x * y).toInt = x.toInt * y.toInt := by
  rw [Int64.toInt_mul]; exact bmod_in h
theorem ti_neg {x : Int64} (h : inR (-x.toInt)) : (-x).toInt = -x.toInt := by
  rw [Int64.toInt_neg]; exact bmod_in h
theorem ti_div {x y : Int64} (h : inR (x.toInt.tdiv y.toInt)) : (x / y).toInt = x.toInt.tdiv y.toInt := by
  rw [Int64.toInt_div]; exact bmod_in h
theorem lrem_mod (x y : Int64) : x - x / y * y = x % y := by
  apply Int64.toInt_inj.mp
  rw [Int64.toInt_mod, Int64.toInt_sub, Int64.toInt_mul, Int64.toInt_div]
  have h := Int.tmod_add_mul_tdiv x.toInt y.toInt
  have e : x.toInt.tmod y.toInt = x.toInt - x.toInt.tdiv y.toInt * y.toInt := by
    rw [Int.mul_comm] at h
    omega
  have hr : inR (x.toInt.tmod y.toInt) := by
    have := ti_in (x % y)
    rw [Int64.toInt_mod] at this
    exact this
  have h2 := bmod_in hr
  rw [e] at h2 ⊢
  refine Eq.trans ?_ h2
  simp [Int.bmod_mul_bmod, Int.sub_bmod_bmod, Int.bmod_sub_bmod]
theorem ti_eq {x y : Int64} : x = y ↔ x.toInt = y.toInt := Int64.toInt_inj.symm
theorem ti_le {x y : Int64} : x ≤ y ↔ x.toInt ≤ y.toInt := Int64.le_iff_toInt_le
theorem ti_lt {x y : Int64} : x < y ↔ x.toInt < y.toInt := Int64.lt_iff_toInt_lt
