/-! Layer B: Echelon's clear, isHeld, size -/
def zer (a : Nat → Int64) : Nat → Int64 := fun j => if j < 4 then 0 else a j
theorem nI4 : nI 4 = (4 : Int32) := by decide
theorem JA_fillJ_eq {F : Nat} (hF : 5 ≤ F) (a : Nat → Int64) : JA_fillJ F a 0 = some (zer a) := by
  obtain ⟨n, rfl⟩ : ∃ n, F = n + 5 := ⟨F - 5, by omega⟩
  unfold JA_fillJ
  rw [nI4, lJA_fillJ_6, if_neg ni0, gd_t vi0, lJA_fillJ_6, if_neg ni1, gd_t vi1, lJA_fillJ_6, if_neg ni2, gd_t vi2, lJA_fillJ_6, if_neg ni3, gd_t vi3, lJA_fillJ_6, if_pos ni4]
  simp only [tn0, tn1, tn2, tn3, Option.bind_some]
  congr 1
  funext j
  simp only [vp_updL, zer]
  match j with
  | 0 => rfl
  | 1 => rfl
  | 2 => rfl
  | 3 => rfl
  | j + 4 => simp; omega
theorem z4_zer (a : Nat → Int64) : z4 (zer a) = z0 := by
  have e0 : (0 : Int64).toInt = 0 := by decide
  exact zext e0 e0 e0 e0
def clr (R : Nat → Nat → Int64) : Nat → Nat → Int64 := fun k => if k < 4 then zer (R k) else R k
theorem E_clear_eq {F : Nat} (hF : 5 ≤ F) (R : Nat → Nat → Int64) : E_clear F R = some (clr R) := by
  obtain ⟨n, rfl⟩ : ∃ n, F = n + 5 := ⟨F - 5, by omega⟩
  unfold E_clear
  rw [lE_clear_2, if_neg ni0, gd_t vi0, JA_fillJ_eq hF, Option.bind_some]
  rw [lE_clear_2, if_neg ni1, gd_t vi1, JA_fillJ_eq hF, Option.bind_some]
  rw [lE_clear_2, if_neg ni2, gd_t vi2, JA_fillJ_eq hF, Option.bind_some]
  rw [lE_clear_2, if_neg ni3, gd_t vi3, JA_fillJ_eq hF, Option.bind_some]
  rw [lE_clear_2, if_pos ni4]
  simp only [tn0, tn1, tn2, tn3, Option.bind_some]
  congr 1
  funext k
  simp only [va_up, clr]
  match k with
  | 0 => rfl
  | 1 => rfl
  | 2 => rfl
  | 3 => rfl
  | k + 4 => simp; omega
def hldI (R : Nat → Nat → Int64) (k : Nat) : Int32 := if R k k = 0 then 0 else 1
theorem E_isHeld_0 (F : Nat) (R : Nat → Nat → Int64) : E_isHeld F R 0 = some (hldI R 0) := by
  unfold E_isHeld hldI
  rw [gd_t vi0, gd_t vi0, tn0]
  by_cases h : R 0 0 = 0
  · rw [if_pos h, if_pos h]
  · rw [if_neg h, if_neg h]
theorem E_isHeld_1 (F : Nat) (R : Nat → Nat → Int64) : E_isHeld F R (0 + 1) = some (hldI R 1) := by
  unfold E_isHeld hldI
  rw [gd_t vi1, gd_t vi1, tn1]
  by_cases h : R 1 1 = 0
  · rw [if_pos h, if_pos h]
  · rw [if_neg h, if_neg h]
theorem E_isHeld_2 (F : Nat) (R : Nat → Nat → Int64) : E_isHeld F R (0 + 1 + 1) = some (hldI R 2) := by
  unfold E_isHeld hldI
  rw [gd_t vi2, gd_t vi2, tn2]
  by_cases h : R 2 2 = 0
  · rw [if_pos h, if_pos h]
  · rw [if_neg h, if_neg h]
theorem E_isHeld_3 (F : Nat) (R : Nat → Nat → Int64) : E_isHeld F R (0 + 1 + 1 + 1) = some (hldI R 3) := by
  unfold E_isHeld hldI
  rw [gd_t vi3, gd_t vi3, tn3]
  by_cases h : R 3 3 = 0
  · rw [if_pos h, if_pos h]
  · rw [if_neg h, if_neg h]
