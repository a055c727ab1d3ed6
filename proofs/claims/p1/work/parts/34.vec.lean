/-! Layer B: vectors of longs as vectors of integers -/
def z4 (a : Nat → Int64) : Z4 := ((a 0).toInt, (a 1).toInt, (a 2).toInt, (a 3).toInt)
def in4 (u : Z4) : Prop := inR u.1 ∧ inR u.2.1 ∧ inR u.2.2.1 ∧ inR u.2.2.2
theorem ti_fma {x v y : Int64} (h : inR (x.toInt + v.toInt * y.toInt)) : (x + v * y).toInt = x.toInt + v.toInt * y.toInt := by
  rw [Int64.toInt_add, Int64.toInt_mul, Int.add_bmod_bmod]
  exact bmod_in h
theorem z4_add4 {a b : Nat → Int64} {v : Int64} (h : in4 (zadd (z4 a) (zmul v.toInt (z4 b)))) : z4 (add4 a b v) = zadd (z4 a) (zmul v.toInt (z4 b)) := by
  obtain ⟨h0, h1, h2, h3⟩ := h
  exact zext (ti_fma h0) (ti_fma h1) (ti_fma h2) (ti_fma h3)
theorem dot4_toInt {a b : Nat → Int64} (h : inR (zdot (z4 a) (z4 b))) : (dot4 a b).toInt = zdot (z4 a) (z4 b) := by
  unfold dot4
  have e0 : (0 : Int64).toInt = 0 := by decide
  rw [Int64.toInt_add, Int64.toInt_add, Int64.toInt_add, Int64.toInt_add, Int64.toInt_mul, Int64.toInt_mul, Int64.toInt_mul, Int64.toInt_mul, e0]
  simp only [Int.add_bmod_bmod, Int.bmod_add_bmod, Int.zero_add]
  exact bmod_in h
theorem z4_cpy (a b : Nat → Int64) : z4 (va_cpy a b 0 0 4) = z4 a := rfl
/-- comes before -/
def zlt (u v : Z4) : Prop := u.1 < v.1 ∨ (u.1 = v.1 ∧ (u.2.1 < v.2.1 ∨ (u.2.1 = v.2.1 ∧ (u.2.2.1 < v.2.2.1 ∨ (u.2.2.1 = v.2.2.1 ∧ u.2.2.2 < v.2.2.2)))))
