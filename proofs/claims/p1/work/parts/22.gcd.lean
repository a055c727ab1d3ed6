/-! Layer B: Euclid's algorithm in both classes -/
theorem mod_half {b c : Nat} (hc : 0 < c) (h : c < b) : 2 * (b % c) < b := by
  have h1 := Nat.div_add_mod b c
  have h2 := Nat.mod_lt b hc
  have h3 : 1 ≤ b / c := Nat.div_pos (Nat.le_of_lt h) hc
  have h4 : c * 1 ≤ c * (b / c) := Nat.mul_le_mul_left c h3
  omega
theorem lN0 {b : Nat} (hb : b < 2 ^ 63) : lN b = (0 : Int64) ↔ b = 0 := pk_lEQ hb (by decide)
theorem many_not {s : Nat} (h : s < 1000000) : ¬ (1000000 : Int32) ≤ nI s := nI_ge h (by decide)
theorem euclid_V (F : Nat) : ∀ (k n a b s : Nat), a < 2 ^ 63 → b < 2 ^ 63 → b < 2 ^ k → 2 * k + 1 ≤ n → s + 2 * k + 2 ≤ 1000000 → lV_commonDivisor_15 F n (lN a) (lN b) (nI s) = some (lN (Nat.gcd a b)) := by
  intro k
  induction k with
  | zero =>
    intro n a b s ha hb hk hn hs
    have e : b = 0 := by simp at hk; exact hk
    subst e
    obtain ⟨n, rfl⟩ : ∃ m, n = m + 1 := ⟨n - 1, by omega⟩
    rw [lV_commonDivisor_15, if_neg (many_not (by omega)), if_pos ((lN0 hb).mpr rfl), Nat.gcd_zero_right]
  | succ k ih =>
    intro n a b s ha hb hk hn hs
    obtain ⟨n, rfl⟩ : ∃ m, n = m + 2 := ⟨n - 2, by omega⟩
    rw [lV_commonDivisor_15, if_neg (many_not (by omega))]
    by_cases h0 : b = 0
    · rw [if_pos ((lN0 hb).mpr h0), h0, Nat.gcd_zero_right]
    · have hn0 : ¬ lN b = (0 : Int64) := fun q => h0 ((lN0 hb).mp q)
      rw [if_neg hn0, gd_t hn0, pk_lRem ha (by omega) hb, nI_1]
      have hc : a % b < b := Nat.mod_lt a (by omega)
      have hg : Nat.gcd a b = Nat.gcd b (a % b) := by
        rw [Nat.gcd_comm a b, Nat.gcd_rec b a, Nat.gcd_comm]
      rw [lV_commonDivisor_15, if_neg (many_not (by omega))]
      by_cases h1 : a % b = 0
      · rw [if_pos ((lN0 (by omega)).mpr h1), hg, h1, Nat.gcd_zero_right]
      · have hn1 : ¬ lN (a % b) = (0 : Int64) := fun q => h1 ((lN0 (by omega)).mp q)
        rw [if_neg hn1, gd_t hn1, pk_lRem hb (by omega) (by omega), nI_1]
        have hh := mod_half (b := b) (c := a % b) (by omega) hc
        have hk2 : b % (a % b) < 2 ^ k := by
          have : 2 ^ (k + 1) = 2 * 2 ^ k := by rw [Nat.pow_succ]; omega
          omega
        have hg2 : Nat.gcd b (a % b) = Nat.gcd (a % b) (b % (a % b)) := by
          rw [Nat.gcd_comm b (a % b), Nat.gcd_rec (a % b) b, Nat.gcd_comm]
        rw [ih n (a % b) (b % (a % b)) (s + 2) (by omega) (by omega) hk2 (by omega) (by omega), hg, hg2]
theorem euclid_M (F : Nat) : ∀ (k n a b : Nat), a < 2 ^ 63 → b < 2 ^ 63 → b < 2 ^ k → 2 * k + 1 ≤ n → lM_common_17 F n (lN a) (lN b) = some (lN (Nat.gcd a b)) := by
  intro k
  induction k with
  | zero =>
    intro n a b ha hb hk hn
    have e : b = 0 := by simp at hk; exact hk
    subst e
    obtain ⟨n, rfl⟩ : ∃ m, n = m + 1 := ⟨n - 1, by omega⟩
    rw [lM_common_17, if_pos ((lN0 hb).mpr rfl), Nat.gcd_zero_right]
  | succ k ih =>
    intro n a b ha hb hk hn
    obtain ⟨n, rfl⟩ : ∃ m, n = m + 2 := ⟨n - 2, by omega⟩
    rw [lM_common_17]
    by_cases h0 : b = 0
    · rw [if_pos ((lN0 hb).mpr h0), h0, Nat.gcd_zero_right]
    · have hn0 : ¬ lN b = (0 : Int64) := fun q => h0 ((lN0 hb).mp q)
      rw [if_neg hn0, gd_t hn0, pk_lRem ha (by omega) hb]
      have hc : a % b < b := Nat.mod_lt a (by omega)
      have hg : Nat.gcd a b = Nat.gcd b (a % b) := by
        rw [Nat.gcd_comm a b, Nat.gcd_rec b a, Nat.gcd_comm]
      rw [lM_common_17]
      by_cases h1 : a % b = 0
      · rw [if_pos ((lN0 (by omega)).mpr h1), hg, h1, Nat.gcd_zero_right]
      · have hn1 : ¬ lN (a % b) = (0 : Int64) := fun q => h1 ((lN0 (by omega)).mp q)
        rw [if_neg hn1, gd_t hn1, pk_lRem hb (by omega) (by omega)]
        have hh := mod_half (b := b) (c := a % b) (by omega) hc
        have hk2 : b % (a % b) < 2 ^ k := by
          have : 2 ^ (k + 1) = 2 * 2 ^ k := by rw [Nat.pow_succ]; omega
          omega
        have hg2 : Nat.gcd b (a % b) = Nat.gcd (a % b) (b % (a % b)) := by
          rw [Nat.gcd_comm b (a % b), Nat.gcd_rec (a % b) b, Nat.gcd_comm]
        rw [ih n (a % b) (b % (a % b)) (by omega) (by omega) hk2 (by omega), hg, hg2]
theorem abs_lN (x : Int64) (h : inR (-x.toInt)) : (if 0 < x then x else -x) = lN x.toInt.natAbs ∧ x.toInt.natAbs < 2 ^ 63 := by
  have hx := ti_in x
  have hb : x.toInt.natAbs < 2 ^ 63 := by
    have h1 := hx.1
    have h2 := hx.2
    have h3 := h.2
    omega
  refine ⟨?_, hb⟩
  apply Int64.toInt_inj.mp
  rw [pk_lT hb]
  by_cases h0 : 0 < x
  · rw [if_pos h0]
    have : (0 : Int64).toInt < x.toInt := ti_lt.mp h0
    have e0 : (0 : Int64).toInt = 0 := by decide
    omega
  · rw [if_neg h0, ti_neg h]
    have : ¬ (0 : Int64).toInt < x.toInt := fun q => h0 (ti_lt.mpr q)
    have e0 : (0 : Int64).toInt = 0 := by decide
    omega
/-- the class's common divisor -/
theorem V_commonDivisor_eq {F : Nat} (hF : 200 ≤ F) {x y : Int64} (hx : inR (-x.toInt)) (hy : inR (-y.toInt)) : V_commonDivisor F x y = some (lN (Int.gcd x.toInt y.toInt)) := by
  obtain ⟨ex, bx⟩ := abs_lN x hx
  obtain ⟨ey, bY⟩ := abs_lN y hy
  unfold V_commonDivisor
  rw [ex, ey, ← nI_0, euclid_V F 63 F _ _ 0 bx bY bY (by omega) (by omega)]
  rfl
/-- the reference's, of a divisor that isn't negative -/
theorem M_common_eq {F : Nat} (hF : 200 ≤ F) {x y : Int64} (hx : 0 ≤ x.toInt) (hy : inR (-y.toInt)) : M_common F x y = some (lN (Int.gcd x.toInt y.toInt)) := by
  have hX := ti_in x
  have ex : x = lN x.toInt.natAbs := by
    apply Int64.toInt_inj.mp
    rw [pk_lT (by have := hX.2; omega)]
    omega
  have bx : x.toInt.natAbs < 2 ^ 63 := by have := hX.2; omega
  obtain ⟨ey, bY⟩ := abs_lN y hy
  have e0 : (0 : Int64).toInt = 0 := by decide
  unfold M_common
  have key : ∀ z : Int64, z = lN y.toInt.natAbs → (lM_common_17 F F x z).bind (fun o => some o) = some (lN (Int.gcd x.toInt y.toInt)) := by
    intro z hz
    rw [hz]
    conv => lhs; rw [ex]
    rw [euclid_M F 63 F _ _ bx bY bY (by omega)]
    rfl
  by_cases h0 : (0 : Int64) ≤ y
  · rw [if_pos h0]
    refine key y ?_
    by_cases h1 : 0 < y
    · rw [if_pos h1] at ey; exact ey
    · have a1 : (0 : Int64).toInt ≤ y.toInt := ti_le.mp h0
      have a2 : ¬ (0 : Int64).toInt < y.toInt := fun q => h1 (ti_lt.mpr q)
      apply Int64.toInt_inj.mp
      rw [pk_lT bY]
      omega
  · rw [if_neg h0]
    refine key (-y) ?_
    have h1 : ¬ 0 < y := fun q => h0 (ti_le.mpr (Int.le_of_lt (ti_lt.mp q)))
    rw [if_neg h1] at ey
    exact ey
