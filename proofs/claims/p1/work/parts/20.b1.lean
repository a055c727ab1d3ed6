/-! Layer B: what the models answer. The static methods of the class. -/
theorem vi0 : vp_in (0 : Int32) 4 := by unfold vp_in; decide
theorem vi1 : vp_in (0 + 1 : Int32) 4 := by unfold vp_in; decide
theorem vi2 : vp_in (0 + 1 + 1 : Int32) 4 := by unfold vp_in; decide
theorem vi3 : vp_in (0 + 1 + 1 + 1 : Int32) 4 := by unfold vp_in; decide
theorem ni0 : ¬ (4 : Int32) ≤ 0 := by decide
theorem ni1 : ¬ (4 : Int32) ≤ 0 + 1 := by decide
theorem ni2 : ¬ (4 : Int32) ≤ 0 + 1 + 1 := by decide
theorem ni3 : ¬ (4 : Int32) ≤ 0 + 1 + 1 + 1 := by decide
theorem ni4 : (4 : Int32) ≤ 0 + 1 + 1 + 1 + 1 := by decide
theorem tn0 : (0 : Int32).toNatClampNeg = 0 := by decide
theorem tn1 : (0 + 1 : Int32).toNatClampNeg = 1 := by decide
theorem tn2 : (0 + 1 + 1 : Int32).toNatClampNeg = 2 := by decide
theorem tn3 : (0 + 1 + 1 + 1 : Int32).toNatClampNeg = 3 := by decide
def add4 (a b : Nat → Int64) (v : Int64) : Nat → Int64 := fun j => if j < 4 then a j + v * b j else a j
theorem V_addMultiple_eq {F : Nat} (hF : 5 ≤ F) (a b : Nat → Int64) (v : Int64) : V_addMultiple F a b v = some (add4 a b v) := by
  obtain ⟨n, rfl⟩ : ∃ n, F = n + 5 := ⟨F - 5, by omega⟩
  unfold V_addMultiple
  rw [lV_addMultiple_3, if_neg ni0, gd_t vi0, gd_t vi0, gd_t vi0]
  rw [lV_addMultiple_3, if_neg ni1, gd_t vi1, gd_t vi1, gd_t vi1]
  rw [lV_addMultiple_3, if_neg ni2, gd_t vi2, gd_t vi2, gd_t vi2]
  rw [lV_addMultiple_3, if_neg ni3, gd_t vi3, gd_t vi3, gd_t vi3]
  rw [lV_addMultiple_3, if_pos ni4]
  simp only [tn0, tn1, tn2, tn3, Option.bind_some]
  congr 1
  funext j
  simp only [vp_updL, add4]
  match j with
  | 0 => rfl
  | 1 => rfl
  | 2 => rfl
  | 3 => rfl
  | j + 4 => simp; omega
theorem V_addMultipleA_eq {F : Nat} (hF : 5 ≤ F) (a : Nat → Int64) (v : Int64) : V_addMultipleA F a v = some (add4 a a v) := by
  obtain ⟨n, rfl⟩ : ∃ n, F = n + 5 := ⟨F - 5, by omega⟩
  unfold V_addMultipleA
  rw [lV_addMultipleA_3, if_neg ni0, gd_t vi0, gd_t vi0, gd_t vi0]
  rw [lV_addMultipleA_3, if_neg ni1, gd_t vi1, gd_t vi1, gd_t vi1]
  rw [lV_addMultipleA_3, if_neg ni2, gd_t vi2, gd_t vi2, gd_t vi2]
  rw [lV_addMultipleA_3, if_neg ni3, gd_t vi3, gd_t vi3, gd_t vi3]
  rw [lV_addMultipleA_3, if_pos ni4]
  simp only [tn0, tn1, tn2, tn3, Option.bind_some]
  congr 1
  funext j
  simp only [vp_updL, add4]
  match j with
  | 0 => rfl
  | 1 => rfl
  | 2 => rfl
  | 3 => rfl
  | j + 4 => simp; omega
def dot4 (a b : Nat → Int64) : Int64 := 0 + a 0 * b 0 + a 1 * b 1 + a 2 * b 2 + a 3 * b 3
theorem V_product_eq {F : Nat} (hF : 5 ≤ F) (a b : Nat → Int64) : V_product F a b = some (dot4 a b) := by
  obtain ⟨n, rfl⟩ : ∃ n, F = n + 5 := ⟨F - 5, by omega⟩
  unfold V_product
  rw [lV_product_5, if_neg ni0, gd_t vi0, gd_t vi0]
  rw [lV_product_5, if_neg ni1, gd_t vi1, gd_t vi1]
  rw [lV_product_5, if_neg ni2, gd_t vi2, gd_t vi2]
  rw [lV_product_5, if_neg ni3, gd_t vi3, gd_t vi3]
  rw [lV_product_5, if_pos ni4]
  simp only [tn0, tn1, tn2, tn3, Option.bind_some, dot4]
theorem V_copy_eq {F : Nat} (a b : Nat → Int64) : V_copy F a b = some (va_cpy a b 0 0 4) := rfl
