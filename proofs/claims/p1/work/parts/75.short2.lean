/-! Layer B: one step of the reduction by pairs -/
theorem dot_am {a b : Z4} {W : Int} (ha : zsq a ≤ W) (hb : zsq b ≤ W) : zdot a b ≤ W ∧ -W ≤ zdot a b := by
  have h0 := amgm a.1 b.1
  have h1 := amgm a.2.1 b.2.1
  have h2 := amgm a.2.2.1 b.2.2.1
  have h3 := amgm a.2.2.2 b.2.2.2
  unfold zsq zdot at *
  generalize a.1 * b.1 = p0 at *
  generalize a.2.1 * b.2.1 = p1 at *
  generalize a.2.2.1 * b.2.2.1 = p2 at *
  generalize a.2.2.2 * b.2.2.2 = p3 at *
  constructor
  · have := h0.1; have := h1.1; have := h2.1; have := h3.1; omega
  · have := h0.2; have := h1.2; have := h2.2; have := h3.2; omega
theorem abs_sq (x : Int) : (x.natAbs : Int) ≤ x * x := by
  have h : ((x.natAbs * x.natAbs : Nat) : Int) = x * x := by rw [Int.natCast_mul]; exact Int.natAbs_mul_self' x
  rcases Nat.eq_zero_or_pos x.natAbs with e | e
  · have := sqnn x; omega
  · have := Nat.le_mul_of_pos_left x.natAbs e
    omega
theorem zsq_in4 {v : Z4} {W : Int} (hW : W < 9223372036854775808) (h : zsq v ≤ W) : in4 v := by
  have a0 := abs_sq v.1
  have a1 := abs_sq v.2.1
  have a2 := abs_sq v.2.2.1
  have a3 := abs_sq v.2.2.2
  have b0 := sqnn v.1
  have b1 := sqnn v.2.1
  have b2 := sqnn v.2.2.1
  have b3 := sqnn v.2.2.2
  unfold zsq zdot at h
  generalize v.1 * v.1 = p0 at *
  generalize v.2.1 * v.2.1 = p1 at *
  generalize v.2.2.1 * v.2.2.1 = p2 at *
  generalize v.2.2.2 * v.2.2.2 = p3 at *
  exact ⟨inR_of (by omega), inR_of (by omega), inR_of (by omega), inR_of (by omega)⟩
/-- the quotient that is nearest: what it takes away -/
theorem near_q {g S q : Int} (hS : 0 < S) (hq : q = (2 * g + S) / (2 * S)) (h : S < 2 * g ∨ 2 * g < -S) : 0 < q * (2 * g - q * S) := by
  have e1 : 2 * S * q ≤ 2 * g + S := by rw [hq]; exact Int.mul_ediv_self_le (by omega)
  have e2 : 2 * g + S < 2 * S * q + 2 * S := by rw [hq]; exact Int.lt_mul_ediv_self_add (by omega)
  have e3 : 2 * S * q = 2 * (q * S) := by grind
  rw [e3] at e1 e2
  rcases h with h | h
  · have hq1 : 1 ≤ q := by
      rcases Int.lt_or_le q 1 with z | z
      · have h5 : q * S ≤ 0 * S := Int.mul_le_mul_of_nonneg_right (by omega) (by omega)
        omega
      · exact z
    refine Int.mul_pos (by omega) ?_
    rcases (show q = 1 ∨ 2 ≤ q by omega) with rfl | z
    · omega
    · have h5 : 2 * S ≤ q * S := Int.mul_le_mul_of_nonneg_right z (by omega)
      omega
  · have hq1 : q ≤ -1 := by
      rcases Int.lt_or_le (-1) q with z | z
      · have h5 : 0 * S ≤ q * S := Int.mul_le_mul_of_nonneg_right (by omega) (by omega)
        omega
      · exact z
    refine Int.mul_pos_of_neg_of_neg (by omega) ?_
    have h5 : q * S ≤ -1 * S := Int.mul_le_mul_of_nonneg_right hq1 (by omega)
    omega
/-- shortenBy: nothing, where the pair is reduced; else row k less a multiple of the other, and shorter -/
theorem B_shortenBy_eq {F k o : Nat} {R : Nat → Nat → Int64} {W : Int} (hF : 5 ≤ F) (hk : k < 4) (ho : o < 4) (hko : o ≠ k) (hW : W ≤ 1000000000000) (h1 : zsq (z4 (R k)) ≤ W) (h2 : zsq (z4 (R o)) ≤ W) :
    ((2 * zdot (z4 (R k)) (z4 (R o)) ≤ zsq (z4 (R o)) ∧ -(2 * zdot (z4 (R k)) (z4 (R o))) ≤ zsq (z4 (R o))) ∧ B_shortenBy F R (nI k) (nI o) = some (0, R)) ∨ (∃ (r : Nat → Int64) (q : Int), B_shortenBy F R (nI k) (nI o) = some (1, va_up R k r) ∧ z4 r = zadd (z4 (R k)) (zmul q (z4 (R o))) ∧ zsq (z4 r) < zsq (z4 (R k))) := by
  obtain ⟨d1, d2⟩ := dot_am h1 h2
  have s0 := zsq_nonneg (z4 (R o))
  have hg : (dot4 (R k) (R o)).toInt = zdot (z4 (R k)) (z4 (R o)) := dot4_toInt (inR_of (by omega))
  have hS : (dot4 (R o) (R o)).toInt = zsq (z4 (R o)) := dot4_toInt (inR_of (show (zsq (z4 (R o))).natAbs < _ by omega))
  have hvk : vp_in (nI k) 4 := vp_in_nI hk (by decide)
  have hvo : vp_in (nI o) 4 := vp_in_nI ho (by decide)
  have hck : (nI k).toNatClampNeg = k := nI_clamp (by omega)
  have hco : (nI o).toNatClampNeg = o := nI_clamp (by omega)
  have z2 : (2 : Int64).toInt = 2 := rfl
  have habs : ((2 : Int64) * (if 0 < dot4 (R k) (R o) then dot4 (R k) (R o) else -dot4 (R k) (R o))).toInt = 2 * (zdot (z4 (R k)) (z4 (R o))).natAbs := by
    by_cases q : 0 < dot4 (R k) (R o)
    · rw [if_pos q]
      have q' := ti_lt.mp q
      rw [hg, show (0 : Int64).toInt = 0 from rfl] at q'
      rw [ti_mul (by rw [z2, hg]; exact inR_of (by omega)), z2, hg]
      omega
    · rw [if_neg q]
      have q' := mt ti_lt.mpr q
      rw [hg, show (0 : Int64).toInt = 0 from rfl] at q'
      have hn : (-dot4 (R k) (R o)).toInt = -zdot (z4 (R k)) (z4 (R o)) := by rw [ti_neg (by rw [hg]; exact inR_of (by omega)), hg]
      rw [ti_mul (by rw [z2, hn]; exact inR_of (by omega)), z2, hn]
      omega
  unfold B_shortenBy
  rw [gd_t hvk, gd_t hvo, hck, hco, V_product_eq hF, Option.bind_some, gd_t hvo, gd_t hvo, V_product_eq hF, Option.bind_some]
  by_cases c : dot4 (R o) (R o) < (2 : Int64) * (if 0 < dot4 (R k) (R o) then dot4 (R k) (R o) else -dot4 (R k) (R o))
  · right
    rw [if_pos c, gd_t hvk, gd_t hvo]
    rw [ti_lt, habs, hS] at c
    have hSp : 0 < zsq (z4 (R o)) := by
      rcases (show zsq (z4 (R o)) = 0 ∨ 0 < zsq (z4 (R o)) by omega) with z | z
      · exfalso
        have e := zsq_add (z4 (R k)) (z4 (R o)) (-zdot (z4 (R k)) (z4 (R o)) * (zsq (z4 (R k)) + 1))
        have p := zsq_nonneg (zadd (z4 (R k)) (zmul (-zdot (z4 (R k)) (z4 (R o)) * (zsq (z4 (R k)) + 1)) (z4 (R o))))
        rw [z, Int.mul_zero, Int.add_zero] at e
        rw [e] at p
        have q0 := zsq_nonneg (z4 (R k))
        have gne : zdot (z4 (R k)) (z4 (R o)) ≠ 0 := fun q => by rw [q] at c; simp at c; omega
        generalize zdot (z4 (R k)) (z4 (R o)) = g at *
        generalize zsq (z4 (R k)) = n at *
        have e9 : n + 2 * (-g * (n + 1)) * g = n - 2 * ((g * g) * (n + 1)) := by grind
        rw [e9] at p
        have g1 : 1 ≤ g * g := by
          have := abs_sq g
          omega
        have g2 : 1 * (n + 1) ≤ g * g * (n + 1) := Int.mul_le_mul_of_nonneg_right g1 (by omega)
        omega
      · exact z
    obtain ⟨z, e1, e2⟩ := V_nearestQuotient_eq (F := F) (x := dot4 (R k) (R o)) (y := dot4 (R o) (R o)) (by rw [hS]; exact hSp) (by rw [hg, hS]; exact inR_of (by omega)) (by rw [hg]; exact inR_of (by omega)) (by rw [hS]; exact inR_of (by omega))
    rw [hg, hS] at e2
    have hzn : z.toInt.natAbs ≤ (2 * zdot (z4 (R k)) (z4 (R o)) + zsq (z4 (R o))).natAbs := by
      rw [e2]; exact Int.natAbs_ediv_le_natAbs _ _
    have hneg : (-z).toInt = -z.toInt := ti_neg (inR_of (by omega))
    have hdec := near_q hSp e2 (by omega)
    have hnew : zsq (zadd (z4 (R k)) (zmul (-z.toInt) (z4 (R o)))) < zsq (z4 (R k)) := by
      rw [zsq_add]
      have e9 : zsq (z4 (R k)) + 2 * -z.toInt * zdot (z4 (R k)) (z4 (R o)) + -z.toInt * -z.toInt * zsq (z4 (R o)) = zsq (z4 (R k)) - z.toInt * (2 * zdot (z4 (R k)) (z4 (R o)) - z.toInt * zsq (z4 (R o))) := by grind
      rw [e9]
      omega
    have hz4 : z4 (add4 (R k) (R o) (-z)) = zadd (z4 (R k)) (zmul (-z.toInt) (z4 (R o))) := by
      have h9 := z4_add4 (a := R k) (b := R o) (v := -z) (by rw [hneg]; exact zsq_in4 (W := W) (by omega) (by omega))
      rw [hneg] at h9
      exact h9
    refine ⟨add4 (R k) (R o) (-z), -z.toInt, ?_, hz4, by rw [hz4]; exact hnew⟩
    rw [e1, Option.bind_some, gd_t hko, V_addMultiple_eq hF, Option.bind_some]
  · left
    rw [if_neg c]
    rw [ti_lt, habs, hS] at c
    exact ⟨by omega, rfl⟩
