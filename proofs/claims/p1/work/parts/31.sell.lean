/-! Layer B: a vector that can't be shortened by small combinations of three vectors can't be shortened by any (obtuse superbases) -/
def sbf (p01 p02 p03 p12 p13 p23 l0 l1 l2 l3 n0 n1 n2 n3 : Int) : Int :=
  2 * (n0 * l0 + n1 * l1 + n2 * l2 + n3 * l3) + p01 * ((n0 - n1) * (n0 - n1)) + p02 * ((n0 - n2) * (n0 - n2)) + p03 * ((n0 - n3) * (n0 - n3)) + p12 * ((n1 - n2) * (n1 - n2)) + p13 * ((n1 - n3) * (n1 - n3)) + p23 * ((n2 - n3) * (n2 - n3))
def ind (n : Int) : Int := if 1 ≤ n then 1 else 0
theorem ind_01 (n : Int) : ind n = 0 ∨ ind n = 1 := by
  unfold ind
  by_cases h : 1 ≤ n
  · rw [if_pos h]; exact Or.inr rfl
  · rw [if_neg h]; exact Or.inl rfl
theorem ind_pair {a b : Int} (ha : 0 ≤ a) (hb : 0 ≤ b) : ((a - ind a) - (b - ind b)) * ((a - ind a) - (b - ind b)) + (ind a - ind b) * (ind a - ind b) ≤ (a - b) * (a - b) := by
  unfold ind
  by_cases h1 : 1 ≤ a <;> by_cases h2 : 1 ≤ b
  · rw [if_pos h1, if_pos h2]
    have e : (a - 1) - (b - 1) = a - b := by omega
    rw [e]
    omega
  · rw [if_pos h1, if_neg h2]
    have hb0 : b = 0 := by omega
    subst hb0
    have e : ((a - 1) - (0 - 0)) * ((a - 1) - (0 - 0)) = a * a - 2 * a + 1 := by grind
    rw [e]
    simp only [Int.sub_zero]
    omega
  · rw [if_neg h1, if_pos h2]
    have ha0 : a = 0 := by omega
    subst ha0
    have e : ((0 - 0) - (b - 1)) * ((0 - 0) - (b - 1)) = b * b - 2 * b + 1 := by grind
    have e2 : (0 - b) * (0 - b) = b * b := by grind
    rw [e, e2]
    omega
  · rw [if_neg h1, if_neg h2]
    simp
theorem mulmono {p x y : Int} (hp : 0 ≤ p) (h : x ≤ y) : p * x ≤ p * y := Int.mul_le_mul_of_nonneg_left h hp
theorem sbf_step {p01 p02 p03 p12 p13 p23 : Int} (h01 : 0 ≤ p01) (h02 : 0 ≤ p02) (h03 : 0 ≤ p03) (h12 : 0 ≤ p12) (h13 : 0 ≤ p13) (h23 : 0 ≤ p23) (l0 l1 l2 l3 : Int) {n0 n1 n2 n3 : Int} (g0 : 0 ≤ n0) (g1 : 0 ≤ n1) (g2 : 0 ≤ n2) (g3 : 0 ≤ n3) :
    sbf p01 p02 p03 p12 p13 p23 l0 l1 l2 l3 (n0 - ind n0) (n1 - ind n1) (n2 - ind n2) (n3 - ind n3) + sbf p01 p02 p03 p12 p13 p23 l0 l1 l2 l3 (ind n0) (ind n1) (ind n2) (ind n3) ≤ sbf p01 p02 p03 p12 p13 p23 l0 l1 l2 l3 n0 n1 n2 n3 := by
  have a1 := mulmono h01 (ind_pair g0 g1)
  have a2 := mulmono h02 (ind_pair g0 g2)
  have a3 := mulmono h03 (ind_pair g0 g3)
  have a4 := mulmono h12 (ind_pair g1 g2)
  have a5 := mulmono h13 (ind_pair g1 g3)
  have a6 := mulmono h23 (ind_pair g2 g3)
  rw [Int.mul_add] at a1 a2 a3 a4 a5 a6
  have e : (n0 - ind n0) * l0 + (n1 - ind n1) * l1 + (n2 - ind n2) * l2 + (n3 - ind n3) * l3 + (ind n0 * l0 + ind n1 * l1 + ind n2 * l2 + ind n3 * l3) = n0 * l0 + n1 * l1 + n2 * l2 + n3 * l3 := by grind
  unfold sbf
  omega
theorem ind_pos {n : Int} (h : 1 ≤ n) : ind n = 1 := if_pos h
theorem ind_npos {n : Int} (h : ¬ 1 ≤ n) : ind n = 0 := if_neg h
theorem sbf_all {p01 p02 p03 p12 p13 p23 : Int} (h01 : 0 ≤ p01) (h02 : 0 ≤ p02) (h03 : 0 ≤ p03) (h12 : 0 ≤ p12) (h13 : 0 ≤ p13) (h23 : 0 ≤ p23) (l0 l1 l2 l3 : Int)
    (he : ∀ e0 e1 e2 e3 : Int, (e0 = 0 ∨ e0 = 1) → (e1 = 0 ∨ e1 = 1) → (e2 = 0 ∨ e2 = 1) → (e3 = 0 ∨ e3 = 1) → 0 ≤ sbf p01 p02 p03 p12 p13 p23 l0 l1 l2 l3 e0 e1 e2 e3) :
    ∀ (N : Nat) (n0 n1 n2 n3 : Int), 0 ≤ n0 → 0 ≤ n1 → 0 ≤ n2 → 0 ≤ n3 → n0 + n1 + n2 + n3 ≤ N → 0 ≤ sbf p01 p02 p03 p12 p13 p23 l0 l1 l2 l3 n0 n1 n2 n3 := by
  intro N
  induction N with
  | zero =>
    intro n0 n1 n2 n3 g0 g1 g2 g3 hs
    exact he n0 n1 n2 n3 (by omega) (by omega) (by omega) (by omega)
  | succ N ih =>
    intro n0 n1 n2 n3 g0 g1 g2 g3 hs
    by_cases hz : n0 + n1 + n2 + n3 ≤ N
    · exact ih n0 n1 n2 n3 g0 g1 g2 g3 hz
    · have hstep := sbf_step h01 h02 h03 h12 h13 h23 l0 l1 l2 l3 g0 g1 g2 g3
      have h1 := he (ind n0) (ind n1) (ind n2) (ind n3) (ind_01 _) (ind_01 _) (ind_01 _) (ind_01 _)
      have b0 : 0 ≤ n0 - ind n0 ∧ n0 - ind n0 ≤ n0 ∧ (1 ≤ n0 → n0 - ind n0 < n0) := by
        by_cases h : 1 ≤ n0
        · rw [ind_pos h]; omega
        · rw [ind_npos h]; omega
      have b1 : 0 ≤ n1 - ind n1 ∧ n1 - ind n1 ≤ n1 ∧ (1 ≤ n1 → n1 - ind n1 < n1) := by
        by_cases h : 1 ≤ n1
        · rw [ind_pos h]; omega
        · rw [ind_npos h]; omega
      have b2 : 0 ≤ n2 - ind n2 ∧ n2 - ind n2 ≤ n2 ∧ (1 ≤ n2 → n2 - ind n2 < n2) := by
        by_cases h : 1 ≤ n2
        · rw [ind_pos h]; omega
        · rw [ind_npos h]; omega
      have b3 : 0 ≤ n3 - ind n3 ∧ n3 - ind n3 ≤ n3 ∧ (1 ≤ n3 → n3 - ind n3 < n3) := by
        by_cases h : 1 ≤ n3
        · rw [ind_pos h]; omega
        · rw [ind_npos h]; omega
      have h2 := ih (n0 - ind n0) (n1 - ind n1) (n2 - ind n2) (n3 - ind n3) b0.1 b1.1 b2.1 b3.1 (by omega)
      omega
