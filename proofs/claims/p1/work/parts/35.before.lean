/-! Layer B: comesBefore -/
theorem V_comesBefore_eq {F : Nat} (hF : 5 ≤ F) (a b : Nat → Int64) : (V_comesBefore F a b = some 1 ∧ zlt (z4 a) (z4 b)) ∨ (V_comesBefore F a b = some 0 ∧ ¬ zlt (z4 a) (z4 b)) := by
  obtain ⟨n, rfl⟩ : ∃ n, F = n + 5 := ⟨F - 5, by omega⟩
  unfold V_comesBefore zlt z4
  rw [lV_comesBefore_2, if_neg ni0, gd_t vi0, gd_t vi0, gd_t vi0, gd_t vi0, tn0]
  by_cases h0 : a 0 = b 0
  · rw [if_pos h0, lV_comesBefore_2, if_neg ni1, gd_t vi1, gd_t vi1, gd_t vi1, gd_t vi1, tn1]
    by_cases h1 : a 1 = b 1
    · rw [if_pos h1, lV_comesBefore_2, if_neg ni2, gd_t vi2, gd_t vi2, gd_t vi2, gd_t vi2, tn2]
      by_cases h2 : a 2 = b 2
      · rw [if_pos h2, lV_comesBefore_2, if_neg ni3, gd_t vi3, gd_t vi3, gd_t vi3, gd_t vi3, tn3]
        by_cases h3 : a 3 = b 3
        · rw [if_pos h3, lV_comesBefore_2, if_pos ni4]
          right
          refine ⟨rfl, ?_⟩
          have e0 := ti_eq.mp h0; have e1 := ti_eq.mp h1; have e2 := ti_eq.mp h2; have e3 := ti_eq.mp h3
          dsimp only; omega
        · rw [if_neg h3]
          have e0 := ti_eq.mp h0; have e1 := ti_eq.mp h1; have e2 := ti_eq.mp h2
          have e3 : ¬ (a 3).toInt = (b 3).toInt := fun q => h3 (ti_eq.mpr q)
          by_cases hl : b 3 ≤ a 3
          · rw [if_pos hl]
            have := ti_le.mp hl
            right
            exact ⟨rfl, by dsimp only; omega⟩
          · rw [if_neg hl]
            have : ¬ (b 3).toInt ≤ (a 3).toInt := fun q => hl (ti_le.mpr q)
            left
            exact ⟨rfl, by dsimp only; omega⟩
      · rw [if_neg h2]
        have e0 := ti_eq.mp h0; have e1 := ti_eq.mp h1
        have e3 : ¬ (a 2).toInt = (b 2).toInt := fun q => h2 (ti_eq.mpr q)
        by_cases hl : b 2 ≤ a 2
        · rw [if_pos hl]
          have := ti_le.mp hl
          right
          exact ⟨rfl, by dsimp only; omega⟩
        · rw [if_neg hl]
          have : ¬ (b 2).toInt ≤ (a 2).toInt := fun q => hl (ti_le.mpr q)
          left
          exact ⟨rfl, by dsimp only; omega⟩
    · rw [if_neg h1]
      have e0 := ti_eq.mp h0
      have e3 : ¬ (a 1).toInt = (b 1).toInt := fun q => h1 (ti_eq.mpr q)
      by_cases hl : b 1 ≤ a 1
      · rw [if_pos hl]
        have := ti_le.mp hl
        right
        exact ⟨rfl, by dsimp only; omega⟩
      · rw [if_neg hl]
        have : ¬ (b 1).toInt ≤ (a 1).toInt := fun q => hl (ti_le.mpr q)
        left
        exact ⟨rfl, by dsimp only; omega⟩
  · rw [if_neg h0]
    have e3 : ¬ (a 0).toInt = (b 0).toInt := fun q => h0 (ti_eq.mpr q)
    by_cases hl : b 0 ≤ a 0
    · rw [if_pos hl]
      have := ti_le.mp hl
      right
      exact ⟨rfl, by dsimp only; omega⟩
    · rw [if_neg hl]
      have : ¬ (b 0).toInt ≤ (a 0).toInt := fun q => hl (ti_le.mpr q)
      left
      exact ⟨rfl, by dsimp only; omega⟩
